set_option maxHeartbeats 4000000 in
set_option maxRecDepth 100000 in
theorem c_X1_moveHeld (l : Launch) (G : GT) (f : Nat → Option Nat) (wa : Nat → Nat) (S M : Tb) (hI : Inv S) {i a j b : Nat} (hi : i < 24) (hf : f i = some a) (hj : j < 24) (hg : f j = some b) : Met l yX1_moveHeld wsX1_moveHeld (rk 2) (va_Pc [.ref a, .ref b] (Wo G (f, wa, S, M))) (Qi G (fun r u => r = (omv S i j).1 ∧ ∃ (f' : Nat → Option Nat) (wa' : Nat → Nat), u = (f', wa', (omv S i j).2, M))) 0 0 (gA G) := by
  refine m_head (cc := cX1_moveHeld) (maxL := 3) (ret := (some .int)) (by decide) rfl (Nat.le_of_ble_eq_true rfl) ?_
  intro p e s m below meth c hx hb hml hr hlocks hown hts hw ls hl
  have hown : s.vm.findClass RX1 = some m.cls := hown
  have hl : lv_has ls 3 [(0, .ref a), (1, .ref b)] := hl
  have hin0 : ∀ w ∈ wsX00, w ∈ wsX1_moveHeld := by decide +kernel
  have lk33 := hts (.fieldLink RX1 33 "LockerWall$Locker" "count" "I") (by decide +kernel)
  refine lv_aload_n hx hb dX1_moveHeld_0 rfl (lv_at hl 0 rfl) ?_
  refine r_get0 (v := .int (S 5 i)) hx hb hts hin0 hown hw (show i < 25 by omega) hf 5 (by decide) lk33 rfl dX1_moveHeld_1 ?_
  refine lv_if_ne (tgt := 16) hx hb dX1_moveHeld_4 (by decide) (fun c_4 => ?_) (fun c_4 => ?_)
  · skip
    obtain ⟨n_i, h10_i, hn_i⟩ := hI i hi
    obtain ⟨q_i, hq_i, hs_i⟩ := n_succ hn_i h10_i c_4
    have hI1 := hI.rm hs_i hq_i
    obtain ⟨n_j, h10_j, hn_j⟩ := hI1 j hj
    obtain ⟨n_k, h10_k, hn_k⟩ := hI1 i hi
    refine lv_aload_n hx hb dX1_moveHeld_16 rfl (lv_at hl 0 rfl) ?_
    refine k_i hw (va_runV (As := []) (rest := []) ⟨hx, hb, hml, hown, hts⟩ (c_X0_removeLast l G f wa S M (show i < 25 by omega) hf hs_i hq_i) (cwV 0 hts gX1_moveHeld_X0_removeLast rfl rfl rfl (by decide +kernel) ⟨Nat.le_of_ble_eq_true rfl, Nat.le_of_ble_eq_true rfl⟩) (hw.preL (show i < 25 by omega) hf _) rfl rfl hl.1 rfl (lv_room (Nat.le_of_ble_eq_true rfl)) dX1_moveHeld_17 ⟨Nat.le_of_ble_eq_true rfl, Nat.le_of_ble_eq_true rfl⟩) (fun r u H locs hR hw => ?_)
    obtain ⟨hq, rfl⟩ := hR
    obtain rfl := hq.symm
    refine lv_istore_n (lv' := [(2, .int (rmV S i)), (0, .ref a), (1, .ref b)]) hx hb dX1_moveHeld_20 rfl hl (by decide) rfl (fun ls hl => ?_)
    refine lv_aload_n hx hb dX1_moveHeld_21 rfl (lv_at hl 2 rfl) ?_
    refine lv_iload_n hx hb dX1_moveHeld_22 rfl (lv_at hl 0 rfl) ?_
    refine k_i hw (va_runV (As := [.int (rmV S i)]) (rest := []) ⟨hx, hb, hml, hown, hts⟩ (c_X0_accept l G f wa (rmS S i) M (show j < 25 by omega) hg hn_j h10_j (rmV S i)) (cwV 1 hts gX1_moveHeld_X0_accept rfl rfl rfl (by decide +kernel) ⟨Nat.le_of_ble_eq_true rfl, Nat.le_of_ble_eq_true rfl⟩) (hw.preL (show j < 25 by omega) hg _) rfl rfl hl.1 rfl (lv_room (Nat.le_of_ble_eq_true rfl)) dX1_moveHeld_23 ⟨Nat.le_of_ble_eq_true rfl, Nat.le_of_ble_eq_true rfl⟩) (fun r u H locs hR hw => ?_)
    obtain ⟨hq, rfl⟩ := hR
    obtain rfl := hq.symm
    cases hh_23 : okA (rmS S i) j (rmV S i)
    · skip
      refine W.eq (g2 := F0 m 26 ls [.int 0]) rfl ?_
      rw [hh_23] at hw
      have hw : Wi G (f, wa, rmS S i, M) s H locs := hw
      refine lv_if_ne (tgt := 44) hx hb dX1_moveHeld_26 (by decide) (fun c_26 => ?_) (fun c_26 => ?_)
      · skip
        exact absurd c_26 (by decide)
      · skip
        refine lv_aload_n hx hb dX1_moveHeld_29 rfl (lv_at hl 1 rfl) ?_
        refine lv_iload_n hx hb dX1_moveHeld_30 rfl (lv_at hl 0 rfl) ?_
        refine k_i hw (va_runV (As := [.int (rmV S i)]) (rest := []) ⟨hx, hb, hml, hown, hts⟩ (c_X0_accept l G f wa (rmS S i) M (show i < 25 by omega) hf hn_k h10_k (rmV S i)) (cwV 1 hts gX1_moveHeld_X0_accept rfl rfl rfl (by decide +kernel) ⟨Nat.le_of_ble_eq_true rfl, Nat.le_of_ble_eq_true rfl⟩) (hw.preL (show i < 25 by omega) hf _) rfl rfl hl.1 rfl (lv_room (Nat.le_of_ble_eq_true rfl)) dX1_moveHeld_31 ⟨Nat.le_of_ble_eq_true rfl, Nat.le_of_ble_eq_true rfl⟩) (fun r u H locs hR hw => ?_)
        obtain ⟨hq, rfl⟩ := hR
        obtain rfl := hq.symm
        refine lv_pop hx hb dX1_moveHeld_34 rfl ?_
        refine lv_aload_n hx hb dX1_moveHeld_35 rfl (lv_at hl 1 rfl) ?_
        refine lv_aload_n hx hb dX1_moveHeld_36 rfl (lv_at hl 2 rfl) ?_
        refine lv_iconst (v := 4) hx hb dX1_moveHeld_37 (by decide) ?_
        refine lv_bipush (v := (-5)) hx hb dX1_moveHeld_38 (by decide) ?_
        refine k_i hw (va_runS (As := [.ref a, .ref b, .int 4, .int (-5)]) (rest := []) ⟨hx, hb, hml, hown, hts⟩ (c_X1_letGoTwo l G f wa (if okA (rmS S i) i (rmV S i) = true then acS (rmS S i) i (rmV S i) else rmS S i) M (show i < 25 by omega) hf (show j < 25 by omega) hg 4 (-5)) (va_cwS 4 hts gX1_moveHeld_X1_letGoTwo rfl rfl rfl (by decide +kernel) ⟨Nat.le_of_ble_eq_true rfl, Nat.le_of_ble_eq_true rfl⟩) (hw.preS _) rfl rfl hl.1 rfl (lv_room (Nat.le_of_ble_eq_true rfl)) dX1_moveHeld_40 ⟨Nat.le_of_ble_eq_true rfl, Nat.le_of_ble_eq_true rfl⟩) (fun r u H locs hR hw => ?_)
        obtain ⟨hq, rfl⟩ := hR
        obtain rfl := hq.symm
        exact e_i hx hb hr hlocks hw dX1_moveHeld_43 (leafC (by simp only [omv, hd, lg, lg2, ↓reduceIte, c_4, hh_23, Bool.false_eq_true, c_26]))
    · skip
      refine W.eq (g2 := F0 m 26 ls [.int 1]) rfl ?_
      rw [hh_23] at hw
      have hw : Wi G (f, wa, acS (rmS S i) j (rmV S i), M) s H locs := hw
      refine lv_if_ne (tgt := 44) hx hb dX1_moveHeld_26 (by decide) (fun c_26 => ?_) (fun c_26 => ?_)
      · skip
        refine lv_aload_n hx hb dX1_moveHeld_44 rfl (lv_at hl 1 rfl) ?_
        refine lv_aload_n hx hb dX1_moveHeld_45 rfl (lv_at hl 2 rfl) ?_
        refine lv_iconst (v := 1) hx hb dX1_moveHeld_46 (by decide) ?_
        refine lv_iload_n hx hb dX1_moveHeld_47 rfl (lv_at hl 0 rfl) ?_
        refine k_i hw (va_runS (As := [.ref a, .ref b, .int 1, .int (rmV S i)]) (rest := []) ⟨hx, hb, hml, hown, hts⟩ (c_X1_letGoTwo l G f wa (acS (rmS S i) j (rmV S i)) M (show i < 25 by omega) hf (show j < 25 by omega) hg 1 (rmV S i)) (va_cwS 4 hts gX1_moveHeld_X1_letGoTwo rfl rfl rfl (by decide +kernel) ⟨Nat.le_of_ble_eq_true rfl, Nat.le_of_ble_eq_true rfl⟩) (hw.preS _) rfl rfl hl.1 rfl (lv_room (Nat.le_of_ble_eq_true rfl)) dX1_moveHeld_48 ⟨Nat.le_of_ble_eq_true rfl, Nat.le_of_ble_eq_true rfl⟩) (fun r u H locs hR hw => ?_)
        obtain ⟨hq, rfl⟩ := hR
        obtain rfl := hq.symm
        exact e_i hx hb hr hlocks hw dX1_moveHeld_51 (leafC (by simp only [omv, hd, lg, lg2, ↓reduceIte, c_4, hh_23, c_26]))
      · skip
        exact absurd c_26 (by decide)
  · skip
    refine lv_aload_n hx hb dX1_moveHeld_7 rfl (lv_at hl 0 rfl) ?_
    refine lv_aload_n hx hb dX1_moveHeld_8 rfl (lv_at hl 1 rfl) ?_
    refine lv_iconst (v := 4) hx hb dX1_moveHeld_9 (by decide) ?_
    refine lv_bipush (v := (-6)) hx hb dX1_moveHeld_10 (by decide) ?_
    refine k_i hw (va_runS (As := [.ref a, .ref b, .int 4, .int (-6)]) (rest := []) ⟨hx, hb, hml, hown, hts⟩ (c_X1_letGoTwo l G f wa S M (show i < 25 by omega) hf (show j < 25 by omega) hg 4 (-6)) (va_cwS 4 hts gX1_moveHeld_X1_letGoTwo rfl rfl rfl (by decide +kernel) ⟨Nat.le_of_ble_eq_true rfl, Nat.le_of_ble_eq_true rfl⟩) (hw.preS _) rfl rfl hl.1 rfl (lv_room (Nat.le_of_ble_eq_true rfl)) dX1_moveHeld_12 ⟨Nat.le_of_ble_eq_true rfl, Nat.le_of_ble_eq_true rfl⟩) (fun r u H locs hR hw => ?_)
    obtain ⟨hq, rfl⟩ := hR
    obtain rfl := hq.symm
    exact e_i hx hb hr hlocks hw dX1_moveHeld_15 (leafC (by simp only [omv, hd, lg, lg2, ↓reduceIte, c_4]))

set_option maxHeartbeats 4000000 in
set_option maxRecDepth 100000 in
theorem c_X1_exchangeHeld (l : Launch) (G : GT) (f : Nat → Option Nat) (wa : Nat → Nat) (S M : Tb) (hI : Inv S) {i a j b : Nat} (hi : i < 24) (hf : f i = some a) (hj : j < 24) (hg : f j = some b) : Met l yX1_exchangeHeld wsX1_exchangeHeld (rk 2) (va_Pc [.ref a, .ref b] (Wo G (f, wa, S, M))) (Qi G (fun r u => r = (oex S i j).1 ∧ ∃ (f' : Nat → Option Nat) (wa' : Nat → Nat), u = (f', wa', (oex S i j).2, M))) 0 0 (gA G) := by
  refine m_head (cc := cX1_exchangeHeld) (maxL := 2) (ret := (some .int)) (by decide) rfl (Nat.le_of_ble_eq_true rfl) ?_
  intro p e s m below meth c hx hb hml hr hlocks hown hts hw ls hl
  have hown : s.vm.findClass RX1 = some m.cls := hown
  have hl : lv_has ls 2 [(0, .ref a), (1, .ref b)] := hl
  have hin0 : ∀ w ∈ wsX00, w ∈ wsX1_exchangeHeld := by decide +kernel
  have lk95 := hts (.fieldLink RX1 95 "LockerWall$Locker" "room" "I") (by decide +kernel)
  have lk33 := hts (.fieldLink RX1 33 "LockerWall$Locker" "count" "I") (by decide +kernel)
  obtain ⟨n_i, h10_i, hn_i⟩ := hI i hi
  obtain ⟨n_j, h10_j, hn_j⟩ := hI j hj
  refine lv_aload_n hx hb dX1_exchangeHeld_0 rfl (lv_at hl 0 rfl) ?_
  refine k_i hw (va_runV (As := []) (rest := []) ⟨hx, hb, hml, hown, hts⟩ (c_X0_weight l G f wa S M (show i < 25 by omega) hf hn_i h10_i) (cwV 0 hts gX1_exchangeHeld_X0_weight rfl rfl rfl (by decide +kernel) ⟨Nat.le_of_ble_eq_true rfl, Nat.le_of_ble_eq_true rfl⟩) (hw.preL (show i < 25 by omega) hf _) rfl rfl hl.1 rfl (lv_room (Nat.le_of_ble_eq_true rfl)) dX1_exchangeHeld_1 ⟨Nat.le_of_ble_eq_true rfl, Nat.le_of_ble_eq_true rfl⟩) (fun r u H locs hR hw => ?_)
  obtain ⟨hq, rfl⟩ := hR
  obtain rfl := hq.symm
  refine lv_aload_n hx hb dX1_exchangeHeld_4 rfl (lv_at hl 1 rfl) ?_
  refine r_get0 (v := .int (S 1 j)) hx hb hts hin0 hown hw (show j < 25 by omega) hg 0 (by decide) lk95 rfl dX1_exchangeHeld_5 ?_
  refine lv_icmp_gt (tgt := 22) hx hb dX1_exchangeHeld_8 (by decide) (fun c_8 => ?_) (fun c_8 => ?_)
  · skip
    refine lv_aload_n hx hb dX1_exchangeHeld_22 rfl (lv_at hl 0 rfl) ?_
    refine lv_aload_n hx hb dX1_exchangeHeld_23 rfl (lv_at hl 1 rfl) ?_
    refine lv_iconst (v := 4) hx hb dX1_exchangeHeld_24 (by decide) ?_
    refine lv_bipush (v := (-5)) hx hb dX1_exchangeHeld_25 (by decide) ?_
    refine k_i hw (va_runS (As := [.ref a, .ref b, .int 4, .int (-5)]) (rest := []) ⟨hx, hb, hml, hown, hts⟩ (c_X1_letGoTwo l G f wa S M (show i < 25 by omega) hf (show j < 25 by omega) hg 4 (-5)) (va_cwS 4 hts gX1_exchangeHeld_X1_letGoTwo rfl rfl rfl (by decide +kernel) ⟨Nat.le_of_ble_eq_true rfl, Nat.le_of_ble_eq_true rfl⟩) (hw.preS _) rfl rfl hl.1 rfl (lv_room (Nat.le_of_ble_eq_true rfl)) dX1_exchangeHeld_27 ⟨Nat.le_of_ble_eq_true rfl, Nat.le_of_ble_eq_true rfl⟩) (fun r u H locs hR hw => ?_)
    obtain ⟨hq, rfl⟩ := hR
    obtain rfl := hq.symm
    exact e_i hx hb hr hlocks hw dX1_exchangeHeld_30 (leafC (by simp only [oex, hd, lg, lg2, ↓reduceIte, c_8]))
  · skip
    refine lv_aload_n hx hb dX1_exchangeHeld_11 rfl (lv_at hl 1 rfl) ?_
    refine k_i hw (va_runV (As := []) (rest := []) ⟨hx, hb, hml, hown, hts⟩ (c_X0_weight l G f wa S M (show j < 25 by omega) hg hn_j h10_j) (cwV 0 hts gX1_exchangeHeld_X0_weight rfl rfl rfl (by decide +kernel) ⟨Nat.le_of_ble_eq_true rfl, Nat.le_of_ble_eq_true rfl⟩) (hw.preL (show j < 25 by omega) hg _) rfl rfl hl.1 rfl (lv_room (Nat.le_of_ble_eq_true rfl)) dX1_exchangeHeld_12 ⟨Nat.le_of_ble_eq_true rfl, Nat.le_of_ble_eq_true rfl⟩) (fun r u H locs hR hw => ?_)
    obtain ⟨hq, rfl⟩ := hR
    obtain rfl := hq.symm
    refine lv_aload_n hx hb dX1_exchangeHeld_15 rfl (lv_at hl 0 rfl) ?_
    refine r_get0 (v := .int (S 1 i)) hx hb hts hin0 hown hw (show i < 25 by omega) hf 0 (by decide) lk95 rfl dX1_exchangeHeld_16 ?_
    refine lv_icmp_le (tgt := 31) hx hb dX1_exchangeHeld_19 (by decide) (fun c_19 => ?_) (fun c_19 => ?_)
    · skip
      refine lv_aload_n hx hb dX1_exchangeHeld_31 rfl (lv_at hl 0 rfl) ?_
      refine lv_aload_n hx hb dX1_exchangeHeld_32 rfl (lv_at hl 1 rfl) ?_
      refine k_v hw (va_runV (As := [.ref b]) (rest := []) ⟨hx, hb, hml, hown, hts⟩ (c_X0_exchangeItems l G f wa S M (show i < 25 by omega) hf (show j < 25 by omega) hg) (cwV 1 hts gX1_exchangeHeld_X0_exchangeItems rfl rfl rfl (by decide +kernel) ⟨Nat.le_of_ble_eq_true rfl, Nat.le_of_ble_eq_true rfl⟩) (hw.preL (show i < 25 by omega) hf _) rfl rfl hl.1 rfl (lv_room (Nat.le_of_ble_eq_true rfl)) dX1_exchangeHeld_33 ⟨Nat.le_of_ble_eq_true rfl, Nat.le_of_ble_eq_true rfl⟩) (fun u H locs hR hw => ?_)
      obtain rfl := hR
      refine lv_aload_n hx hb dX1_exchangeHeld_36 rfl (lv_at hl 0 rfl) ?_
      refine lv_aload_n hx hb dX1_exchangeHeld_37 rfl (lv_at hl 1 rfl) ?_
      refine lv_iconst (v := 1) hx hb dX1_exchangeHeld_38 (by decide) ?_
      refine lv_aload_n hx hb dX1_exchangeHeld_39 rfl (lv_at hl 0 rfl) ?_
      refine r_get0 (v := .int (exS S i j 5 i)) hx hb hts hin0 hown hw (show i < 25 by omega) hf 5 (by decide) lk33 rfl dX1_exchangeHeld_40 ?_
      refine lv_aload_n hx hb dX1_exchangeHeld_43 rfl (lv_at hl 1 rfl) ?_
      refine r_get0 (v := .int (exS S i j 5 j)) hx hb hts hin0 hown hw (show j < 25 by omega) hg 5 (by decide) lk33 rfl dX1_exchangeHeld_44 ?_
      refine lv_iadd hx hb dX1_exchangeHeld_47 ?_
      refine k_i hw (va_runS (As := [.ref a, .ref b, .int 1, .int ((exS S i j 5 i) + (exS S i j 5 j))]) (rest := []) ⟨hx, hb, hml, hown, hts⟩ (c_X1_letGoTwo l G f (exW wa i j) (exS S i j) M (show i < 25 by omega) hf (show j < 25 by omega) hg 1 ((exS S i j 5 i) + (exS S i j 5 j))) (va_cwS 4 hts gX1_exchangeHeld_X1_letGoTwo rfl rfl rfl (by decide +kernel) ⟨Nat.le_of_ble_eq_true rfl, Nat.le_of_ble_eq_true rfl⟩) (hw.preS _) rfl rfl hl.1 rfl (lv_room (Nat.le_of_ble_eq_true rfl)) dX1_exchangeHeld_48 ⟨Nat.le_of_ble_eq_true rfl, Nat.le_of_ble_eq_true rfl⟩) (fun r u H locs hR hw => ?_)
      obtain ⟨hq, rfl⟩ := hR
      obtain rfl := hq.symm
      exact e_i hx hb hr hlocks hw dX1_exchangeHeld_51 (leafC (by simp only [oex, hd, lg, lg2, ↓reduceIte, c_8, c_19]))
    · skip
      refine lv_aload_n hx hb dX1_exchangeHeld_22 rfl (lv_at hl 0 rfl) ?_
      refine lv_aload_n hx hb dX1_exchangeHeld_23 rfl (lv_at hl 1 rfl) ?_
      refine lv_iconst (v := 4) hx hb dX1_exchangeHeld_24 (by decide) ?_
      refine lv_bipush (v := (-5)) hx hb dX1_exchangeHeld_25 (by decide) ?_
      refine k_i hw (va_runS (As := [.ref a, .ref b, .int 4, .int (-5)]) (rest := []) ⟨hx, hb, hml, hown, hts⟩ (c_X1_letGoTwo l G f wa S M (show i < 25 by omega) hf (show j < 25 by omega) hg 4 (-5)) (va_cwS 4 hts gX1_exchangeHeld_X1_letGoTwo rfl rfl rfl (by decide +kernel) ⟨Nat.le_of_ble_eq_true rfl, Nat.le_of_ble_eq_true rfl⟩) (hw.preS _) rfl rfl hl.1 rfl (lv_room (Nat.le_of_ble_eq_true rfl)) dX1_exchangeHeld_27 ⟨Nat.le_of_ble_eq_true rfl, Nat.le_of_ble_eq_true rfl⟩) (fun r u H locs hR hw => ?_)
      obtain ⟨hq, rfl⟩ := hR
      obtain rfl := hq.symm
      exact e_i hx hb hr hlocks hw dX1_exchangeHeld_30 (leafC (by simp only [oex, hd, lg, lg2, ↓reduceIte, c_8, c_19]))

set_option maxHeartbeats 4000000 in
set_option maxRecDepth 100000 in
theorem c_X1_actOnTwo (l : Launch) (G : GT) (f : Nat → Option Nat) (wa : Nat → Nat) (S M : Tb) (hI : Inv S) (p1 p2 p3 : Int32) : Met l yX1_actOnTwo wsX1_actOnTwo (rk 3) (va_Pc [.ref (gx G), .int p1, .int p2, .int p3] (Wo G (f, wa, S, M))) (Qi G (fun r u => r = (oc_act S p1 p2 p3).1 ∧ ∃ (f' : Nat → Option Nat) (wa' : Nat → Nat), u = (f', wa', (oc_act S p1 p2 p3).2, M))) 0 0 (gA G) := by
  refine m_head (cc := cX1_actOnTwo) (maxL := 6) (ret := (some .int)) (by decide) rfl (Nat.le_of_ble_eq_true rfl) ?_
  intro p e s m below meth c hx hb hml hr hlocks hown hts hw ls hl
  have hown : s.vm.findClass RX1 = some m.cls := hown
  have hl : lv_has ls 6 [(0, .ref (gx G)), (1, .int p1), (2, .int p2), (3, .int p3)] := hl
  have hin0 : ∀ w ∈ wsX00, w ∈ wsX1_actOnTwo := by decide +kernel
  have lk49 := hts (.fieldLink RX1 49 "LockerWall$Locker" "isOpen" "Z") (by decide +kernel)
  refine lv_iload_n hx hb dX1_actOnTwo_0 rfl (lv_at hl 1 rfl) ?_
  refine k_i hw (va_runS (As := [.int p1]) (rest := []) ⟨hx, hb, hml, hown, hts⟩ (c_X1_isHook l G f wa S M p1) (va_cwS 1 hts gX1_actOnTwo_X1_isHook rfl rfl rfl (by decide +kernel) ⟨Nat.le_of_ble_eq_true rfl, Nat.le_of_ble_eq_true rfl⟩) (hw.preS _) rfl rfl hl.1 rfl (lv_room (Nat.le_of_ble_eq_true rfl)) dX1_actOnTwo_1 ⟨Nat.le_of_ble_eq_true rfl, Nat.le_of_ble_eq_true rfl⟩) (fun r u H locs hR hw => ?_)
  obtain ⟨hq, rfl⟩ := hR
  obtain rfl := hq.symm
  cases hh_1 : isH p1
  · skip
    refine W.eq (g2 := F0 m 4 ls [.int 0]) rfl ?_
    refine lv_if_eq (tgt := 14) hx hb dX1_actOnTwo_4 (by decide) (fun c_4 => ?_) (fun c_4 => ?_)
    · skip
      refine lv_iconst (v := (-1)) hx hb dX1_actOnTwo_14 (by decide) ?_
      exact e_i hx hb hr hlocks hw dX1_actOnTwo_15 (leafC (by simp only [oc_act, oj_act, hd, lg, lg2, ↓reduceIte, hh_1, Bool.false_eq_true, c_4]))
    · skip
      exact absurd c_4 (by decide)
  · skip
    refine W.eq (g2 := F0 m 4 ls [.int 1]) rfl ?_
    obtain ⟨i, hi, rfl⟩ := isH_of hh_1
    refine lv_if_eq (tgt := 14) hx hb dX1_actOnTwo_4 (by decide) (fun c_4 => ?_) (fun c_4 => ?_)
    · skip
      exact absurd c_4 (by decide)
    · skip
      refine lv_iload_n hx hb dX1_actOnTwo_7 rfl (lv_at hl 2 rfl) ?_
      refine k_i hw (va_runS (As := [.int p2]) (rest := []) ⟨hx, hb, hml, hown, hts⟩ (c_X1_isHook l G f wa S M p2) (va_cwS 1 hts gX1_actOnTwo_X1_isHook rfl rfl rfl (by decide +kernel) ⟨Nat.le_of_ble_eq_true rfl, Nat.le_of_ble_eq_true rfl⟩) (hw.preS _) rfl rfl hl.1 rfl (lv_room (Nat.le_of_ble_eq_true rfl)) dX1_actOnTwo_8 ⟨Nat.le_of_ble_eq_true rfl, Nat.le_of_ble_eq_true rfl⟩) (fun r u H locs hR hw => ?_)
      obtain ⟨hq, rfl⟩ := hR
      obtain rfl := hq.symm
      cases hh_8 : isH p2
      · skip
        refine W.eq (g2 := F0 m 11 ls [.int 0]) rfl ?_
        refine lv_if_ne (tgt := 16) hx hb dX1_actOnTwo_11 (by decide) (fun c_11 => ?_) (fun c_11 => ?_)
        · skip
          exact absurd c_11 (by decide)
        · skip
          refine lv_iconst (v := (-1)) hx hb dX1_actOnTwo_14 (by decide) ?_
          exact e_i hx hb hr hlocks hw dX1_actOnTwo_15 (leafC (by simp only [oc_act, oj_act, hd, lg, lg2, ↓reduceIte, isH_nI hi, cl24 hi, c_4, hh_8, Bool.false_eq_true, c_11]))
      · skip
        refine W.eq (g2 := F0 m 11 ls [.int 1]) rfl ?_
        obtain ⟨j, hj, rfl⟩ := isH_of hh_8
        refine lv_if_ne (tgt := 16) hx hb dX1_actOnTwo_11 (by decide) (fun c_11 => ?_) (fun c_11 => ?_)
        · skip
          refine lv_aload_n hx hb dX1_actOnTwo_16 rfl (lv_at hl 0 rfl) ?_
          refine lv_iload_n hx hb dX1_actOnTwo_17 rfl (lv_at hl 1 rfl) ?_
          rcases hf_i : f i with _ | a_i
          · skip
            have h0_i : S 0 i = 0 := (show S 0 i = oN (f i) from hw.col0 (show i < 25 by omega)).trans (by rw [hf_i]; rfl)
            refine k_o hw (va_runV (As := [.int (nI i)]) (rest := []) ⟨hx, hb, hml, hown, hts⟩ (c_X1_holdAt_n l G f wa S M (show i < 24 by omega) hf_i) (cwV 1 hts gX1_actOnTwo_X1_holdAt rfl rfl rfl (by decide +kernel) ⟨Nat.le_of_ble_eq_true rfl, Nat.le_of_ble_eq_true rfl⟩) (hw.preX _) rfl rfl hl.1 rfl (lv_room (Nat.le_of_ble_eq_true rfl)) dX1_actOnTwo_18 ⟨Nat.le_of_ble_eq_true rfl, Nat.le_of_ble_eq_true rfl⟩) (fun r u H locs hR hw => ?_)
            obtain ⟨hq, rfl⟩ := hR
            obtain rfl := hq.symm
            refine W.eq (g2 := F0 m 21 ls [.null]) rfl ?_
            refine lv_astoreN (lv' := [(4, .null), (0, .ref (gx G)), (1, .int (nI i)), (2, .int (nI j)), (3, .int p3)]) hx hb dX1_actOnTwo_21 hl (by decide) rfl (fun ls hl => ?_)
            refine lv_aloadN hx hb dX1_actOnTwo_23 (lv_at hl 0 rfl) ?_
            refine lv_ifnonnullN hx hb dX1_actOnTwo_25 ?_
            refine lv_bipush (v := (-2)) hx hb dX1_actOnTwo_28 (by decide) ?_
            exact e_i hx hb hr hlocks hw dX1_actOnTwo_30 (leafC (by simp only [oc_act, oj_act, hd, lg, lg2, ↓reduceIte, isH_nI hi, cl24 hi, c_4, isH_nI hj, cl24 hj, c_11, h0_i]))
          · skip
            have h0_i : ¬ S 0 i = 0 := by rw [(show S 0 i = oN (f i) from hw.col0 (show i < 25 by omega)), hf_i]; exact oN_s _
            refine k_o hw (va_runV (As := [.int (nI i)]) (rest := []) ⟨hx, hb, hml, hown, hts⟩ (c_X1_holdAt_s l G f wa S M (show i < 24 by omega) hf_i) (cwV 1 hts gX1_actOnTwo_X1_holdAt rfl rfl rfl (by decide +kernel) ⟨Nat.le_of_ble_eq_true rfl, Nat.le_of_ble_eq_true rfl⟩) (hw.preX _) rfl rfl hl.1 rfl (lv_room (Nat.le_of_ble_eq_true rfl)) dX1_actOnTwo_18 ⟨Nat.le_of_ble_eq_true rfl, Nat.le_of_ble_eq_true rfl⟩) (fun r u H locs hR hw => ?_)
            obtain ⟨hq, rfl⟩ := hR
            obtain rfl := hq.symm
            refine W.eq (g2 := F0 m 21 ls [.ref a_i]) rfl ?_
            refine lv_astore (lv' := [(4, .ref a_i), (0, .ref (gx G)), (1, .int (nI i)), (2, .int (nI j)), (3, .int p3)]) hx hb dX1_actOnTwo_21 hl (by decide) rfl (fun ls hl => ?_)
            refine lv_aload hx hb dX1_actOnTwo_23 (lv_at hl 0 rfl) ?_
            refine lv_ifnonnull (tgt := 31) hx hb dX1_actOnTwo_25 (by decide) ?_
            refine lv_aload_n hx hb dX1_actOnTwo_31 rfl (lv_at hl 1 rfl) ?_
            refine lv_iload_n hx hb dX1_actOnTwo_32 rfl (lv_at hl 3 rfl) ?_
            rcases hf_j : f j with _ | a_j
            · skip
              have h0_j : S 0 j = 0 := (show S 0 j = oN (f j) from hw.col0 (show j < 25 by omega)).trans (by rw [hf_j]; rfl)
              refine k_o hw (va_runV (As := [.int (nI j)]) (rest := []) ⟨hx, hb, hml, hown, hts⟩ (c_X1_holdAt_n l G f wa (sU S 6 i ((S 6 i) + 1)) M (show j < 24 by omega) hf_j) (cwV 1 hts gX1_actOnTwo_X1_holdAt rfl rfl rfl (by decide +kernel) ⟨Nat.le_of_ble_eq_true rfl, Nat.le_of_ble_eq_true rfl⟩) (hw.preX _) rfl rfl hl.1 rfl (lv_room (Nat.le_of_ble_eq_true rfl)) dX1_actOnTwo_33 ⟨Nat.le_of_ble_eq_true rfl, Nat.le_of_ble_eq_true rfl⟩) (fun r u H locs hR hw => ?_)
              obtain ⟨hq, rfl⟩ := hR
              obtain rfl := hq.symm
              refine W.eq (g2 := F0 m 36 ls [.null]) rfl ?_
              refine lv_astoreN (lv' := [(5, .null), (4, .ref a_i), (0, .ref (gx G)), (1, .int (nI i)), (2, .int (nI j)), (3, .int p3)]) hx hb dX1_actOnTwo_36 hl (by decide) rfl (fun ls hl => ?_)
              refine lv_aloadN hx hb dX1_actOnTwo_38 (lv_at hl 0 rfl) ?_
              refine lv_ifnonnullN hx hb dX1_actOnTwo_40 ?_
              refine lv_aload hx hb dX1_actOnTwo_43 (lv_at hl 1 rfl) ?_
              refine lv_iconst (v := 4) hx hb dX1_actOnTwo_45 (by decide) ?_
              refine lv_bipush (v := (-2)) hx hb dX1_actOnTwo_46 (by decide) ?_
              refine k_i hw (va_runV (As := [.int 4, .int (-2)]) (rest := []) ⟨hx, hb, hml, hown, hts⟩ (c_X0_letGo l G f wa (sU S 6 i ((S 6 i) + 1)) M (show i < 25 by omega) hf_i 4 (-2)) (cwV 2 hts gX1_actOnTwo_X0_letGo rfl rfl rfl (by decide +kernel) ⟨Nat.le_of_ble_eq_true rfl, Nat.le_of_ble_eq_true rfl⟩) (hw.preL (show i < 25 by omega) hf_i _) rfl rfl hl.1 rfl (lv_room (Nat.le_of_ble_eq_true rfl)) dX1_actOnTwo_48 ⟨Nat.le_of_ble_eq_true rfl, Nat.le_of_ble_eq_true rfl⟩) (fun r u H locs hR hw => ?_)
              obtain ⟨hq, rfl⟩ := hR
              obtain rfl := hq.symm
              exact e_i hx hb hr hlocks hw dX1_actOnTwo_51 (leafC (by simp only [oc_act, oj_act, hd, lg, lg2, ↓reduceIte, isH_nI hi, cl24 hi, c_4, isH_nI hj, cl24 hj, c_11, h0_i, h0_j]))
            · skip
              have h0_j : ¬ S 0 j = 0 := by rw [(show S 0 j = oN (f j) from hw.col0 (show j < 25 by omega)), hf_j]; exact oN_s _
              refine k_o hw (va_runV (As := [.int (nI j)]) (rest := []) ⟨hx, hb, hml, hown, hts⟩ (c_X1_holdAt_s l G f wa (sU S 6 i ((S 6 i) + 1)) M (show j < 24 by omega) hf_j) (cwV 1 hts gX1_actOnTwo_X1_holdAt rfl rfl rfl (by decide +kernel) ⟨Nat.le_of_ble_eq_true rfl, Nat.le_of_ble_eq_true rfl⟩) (hw.preX _) rfl rfl hl.1 rfl (lv_room (Nat.le_of_ble_eq_true rfl)) dX1_actOnTwo_33 ⟨Nat.le_of_ble_eq_true rfl, Nat.le_of_ble_eq_true rfl⟩) (fun r u H locs hR hw => ?_)
              obtain ⟨hq, rfl⟩ := hR
              obtain rfl := hq.symm
              refine W.eq (g2 := F0 m 36 ls [.ref a_j]) rfl ?_
              refine lv_astore (lv' := [(5, .ref a_j), (4, .ref a_i), (0, .ref (gx G)), (1, .int (nI i)), (2, .int (nI j)), (3, .int p3)]) hx hb dX1_actOnTwo_36 hl (by decide) rfl (fun ls hl => ?_)
              refine lv_aload hx hb dX1_actOnTwo_38 (lv_at hl 0 rfl) ?_
              refine lv_ifnonnull (tgt := 52) hx hb dX1_actOnTwo_40 (by decide) ?_
              refine lv_aload hx hb dX1_actOnTwo_52 (lv_at hl 1 rfl) ?_
              refine r_get0 (v := .int (S 3 i)) hx hb hts hin0 hown hw (show i < 25 by omega) hf_i 2 (by decide) lk49 rfl dX1_actOnTwo_54 ?_
              refine lv_if_eq (tgt := 68) hx hb dX1_actOnTwo_57 (by decide) (fun c_57 => ?_) (fun c_57 => ?_)
              · skip
                refine lv_aload hx hb dX1_actOnTwo_68 (lv_at hl 1 rfl) ?_
                refine lv_aload hx hb dX1_actOnTwo_70 (lv_at hl 0 rfl) ?_
                refine lv_iconst (v := 2) hx hb dX1_actOnTwo_72 (by decide) ?_
                refine lv_bipush (v := (-3)) hx hb dX1_actOnTwo_73 (by decide) ?_
                refine k_i hw (va_runS (As := [.ref a_i, .ref a_j, .int 2, .int (-3)]) (rest := []) ⟨hx, hb, hml, hown, hts⟩ (c_X1_letGoTwo l G f wa (sU (sU S 6 i ((S 6 i) + 1)) 6 j (((sU S 6 i ((S 6 i) + 1)) 6 j) + 1)) M (show i < 25 by omega) hf_i (show j < 25 by omega) hf_j 2 (-3)) (va_cwS 4 hts gX1_actOnTwo_X1_letGoTwo rfl rfl rfl (by decide +kernel) ⟨Nat.le_of_ble_eq_true rfl, Nat.le_of_ble_eq_true rfl⟩) (hw.preS _) rfl rfl hl.1 rfl (lv_room (Nat.le_of_ble_eq_true rfl)) dX1_actOnTwo_75 ⟨Nat.le_of_ble_eq_true rfl, Nat.le_of_ble_eq_true rfl⟩) (fun r u H locs hR hw => ?_)
                obtain ⟨hq, rfl⟩ := hR
                obtain rfl := hq.symm
                exact e_i hx hb hr hlocks hw dX1_actOnTwo_78 (leafC (by simp only [oc_act, oj_act, hd, lg, lg2, ↓reduceIte, isH_nI hi, cl24 hi, c_4, isH_nI hj, cl24 hj, c_11, h0_i, h0_j, c_57]))
              · skip
                refine lv_aload hx hb dX1_actOnTwo_60 (lv_at hl 0 rfl) ?_
                refine r_get0 (v := .int (S 3 j)) hx hb hts hin0 hown hw (show j < 25 by omega) hf_j 2 (by decide) lk49 rfl dX1_actOnTwo_62 ?_
                refine lv_if_ne (tgt := 79) hx hb dX1_actOnTwo_65 (by decide) (fun c_65 => ?_) (fun c_65 => ?_)
                · skip
                  refine lv_iload_n hx hb dX1_actOnTwo_79 rfl (lv_at hl 5 rfl) ?_
                  refine lv_if_eq (tgt := 93) hx hb dX1_actOnTwo_80 (by decide) (fun c_80 => ?_) (fun c_80 => ?_)
                  · skip
                    refine lv_aload hx hb dX1_actOnTwo_93 (lv_at hl 1 rfl) ?_
                    refine lv_aload hx hb dX1_actOnTwo_95 (lv_at hl 0 rfl) ?_
                    refine k_i hw (va_runS (As := [.ref a_i, .ref a_j]) (rest := []) ⟨hx, hb, hml, hown, hts⟩ (c_X1_moveHeld l G f wa (sU (sU S 6 i ((S 6 i) + 1)) 6 j (((sU S 6 i ((S 6 i) + 1)) 6 j) + 1)) M (show Inv _ from hI) hi hf_i hj hf_j) (va_cwS 2 hts gX1_actOnTwo_X1_moveHeld rfl rfl rfl (by decide +kernel) ⟨Nat.le_of_ble_eq_true rfl, Nat.le_of_ble_eq_true rfl⟩) (hw.preS _) rfl rfl hl.1 rfl (lv_room (Nat.le_of_ble_eq_true rfl)) dX1_actOnTwo_97 ⟨Nat.le_of_ble_eq_true rfl, Nat.le_of_ble_eq_true rfl⟩) (fun r u H locs hR hw => ?_)
                    obtain ⟨hq, f', wa', rfl⟩ := hR
                    obtain rfl := hq.symm
                    exact e_i hx hb hr hlocks hw dX1_actOnTwo_100 (leafC (by simp only [oc_act, oj_act, hd, lg, lg2, ↓reduceIte, isH_nI hi, cl24 hi, c_4, isH_nI hj, cl24 hj, c_11, h0_i, h0_j, c_57, c_65, c_80]))
                  · skip
                    refine lv_aload hx hb dX1_actOnTwo_83 (lv_at hl 1 rfl) ?_
                    refine lv_aload hx hb dX1_actOnTwo_85 (lv_at hl 0 rfl) ?_
                    refine k_i hw (va_runS (As := [.ref a_i, .ref a_j]) (rest := []) ⟨hx, hb, hml, hown, hts⟩ (c_X1_exchangeHeld l G f wa (sU (sU S 6 i ((S 6 i) + 1)) 6 j (((sU S 6 i ((S 6 i) + 1)) 6 j) + 1)) M (show Inv _ from hI) hi hf_i hj hf_j) (va_cwS 2 hts gX1_actOnTwo_X1_exchangeHeld rfl rfl rfl (by decide +kernel) ⟨Nat.le_of_ble_eq_true rfl, Nat.le_of_ble_eq_true rfl⟩) (hw.preS _) rfl rfl hl.1 rfl (lv_room (Nat.le_of_ble_eq_true rfl)) dX1_actOnTwo_87 ⟨Nat.le_of_ble_eq_true rfl, Nat.le_of_ble_eq_true rfl⟩) (fun r u H locs hR hw => ?_)
                    obtain ⟨hq, f', wa', rfl⟩ := hR
                    obtain rfl := hq.symm
                    refine lv_goto (tgt := 100) hx hb dX1_actOnTwo_90 (by decide) ?_
                    exact e_i hx hb hr hlocks hw dX1_actOnTwo_100 (leafC (by simp only [oc_act, oj_act, hd, lg, lg2, ↓reduceIte, isH_nI hi, cl24 hi, c_4, isH_nI hj, cl24 hj, c_11, h0_i, h0_j, c_57, c_65, c_80]))
                · skip
                  refine lv_aload hx hb dX1_actOnTwo_68 (lv_at hl 1 rfl) ?_
                  refine lv_aload hx hb dX1_actOnTwo_70 (lv_at hl 0 rfl) ?_
                  refine lv_iconst (v := 2) hx hb dX1_actOnTwo_72 (by decide) ?_
                  refine lv_bipush (v := (-3)) hx hb dX1_actOnTwo_73 (by decide) ?_
                  refine k_i hw (va_runS (As := [.ref a_i, .ref a_j, .int 2, .int (-3)]) (rest := []) ⟨hx, hb, hml, hown, hts⟩ (c_X1_letGoTwo l G f wa (sU (sU S 6 i ((S 6 i) + 1)) 6 j (((sU S 6 i ((S 6 i) + 1)) 6 j) + 1)) M (show i < 25 by omega) hf_i (show j < 25 by omega) hf_j 2 (-3)) (va_cwS 4 hts gX1_actOnTwo_X1_letGoTwo rfl rfl rfl (by decide +kernel) ⟨Nat.le_of_ble_eq_true rfl, Nat.le_of_ble_eq_true rfl⟩) (hw.preS _) rfl rfl hl.1 rfl (lv_room (Nat.le_of_ble_eq_true rfl)) dX1_actOnTwo_75 ⟨Nat.le_of_ble_eq_true rfl, Nat.le_of_ble_eq_true rfl⟩) (fun r u H locs hR hw => ?_)
                  obtain ⟨hq, rfl⟩ := hR
                  obtain rfl := hq.symm
                  exact e_i hx hb hr hlocks hw dX1_actOnTwo_78 (leafC (by simp only [oc_act, oj_act, hd, lg, lg2, ↓reduceIte, isH_nI hi, cl24 hi, c_4, isH_nI hj, cl24 hj, c_11, h0_i, h0_j, c_57, c_65]))
        · skip
          exact absurd c_11 (by decide)

set_option maxHeartbeats 4000000 in
set_option maxRecDepth 100000 in
theorem c_X1_move (l : Launch) (G : GT) (f : Nat → Option Nat) (wa : Nat → Nat) (S M : Tb) (hI : Inv S) (p1 p2 : Int32) : Met l yX1_move wsX1_move (rk 4) (va_Pc [.ref (gx G), .int p1, .int p2] (Wo G (f, wa, S, M))) (Qi G (fun r u => r = (oc_act S p1 p2 0).1 ∧ ∃ (f' : Nat → Option Nat) (wa' : Nat → Nat), u = (f', wa', (oc_act S p1 p2 0).2, M))) 0 0 (gA G) := by
  refine m_head (cc := cX1_move) (maxL := 3) (ret := (some .int)) (by decide) rfl (Nat.le_of_ble_eq_true rfl) ?_
  intro p e s m below meth c hx hb hml hr hlocks hown hts hw ls hl
  have hown : s.vm.findClass RX1 = some m.cls := hown
  have hl : lv_has ls 3 [(0, .ref (gx G)), (1, .int p1), (2, .int p2)] := hl
  refine lv_aload_n hx hb dX1_move_0 rfl (lv_at hl 0 rfl) ?_
  refine lv_iload_n hx hb dX1_move_1 rfl (lv_at hl 1 rfl) ?_
  refine lv_iload_n hx hb dX1_move_2 rfl (lv_at hl 2 rfl) ?_
  refine lv_iconst (v := 0) hx hb dX1_move_3 (by decide) ?_
  refine k_i hw (va_runV (As := [.int p1, .int p2, .int 0]) (rest := []) ⟨hx, hb, hml, hown, hts⟩ (c_X1_actOnTwo l G f wa S M hI p1 p2 0) (cwV 3 hts gX1_move_X1_actOnTwo rfl rfl rfl (by decide +kernel) ⟨Nat.le_of_ble_eq_true rfl, Nat.le_of_ble_eq_true rfl⟩) (hw.preX _) rfl rfl hl.1 rfl (lv_room (Nat.le_of_ble_eq_true rfl)) dX1_move_4 ⟨Nat.le_of_ble_eq_true rfl, Nat.le_of_ble_eq_true rfl⟩) (fun r u H locs hR hw => ?_)
  obtain ⟨hq, f', wa', rfl⟩ := hR
  obtain rfl := hq.symm
  exact e_i hx hb hr hlocks hw dX1_move_7 ⟨rfl, f', wa', rfl⟩

set_option maxHeartbeats 4000000 in
set_option maxRecDepth 100000 in
theorem c_X1_swap (l : Launch) (G : GT) (f : Nat → Option Nat) (wa : Nat → Nat) (S M : Tb) (hI : Inv S) (p1 p2 : Int32) : Met l yX1_swap wsX1_swap (rk 4) (va_Pc [.ref (gx G), .int p1, .int p2] (Wo G (f, wa, S, M))) (Qi G (fun r u => r = (oc_act S p1 p2 1).1 ∧ ∃ (f' : Nat → Option Nat) (wa' : Nat → Nat), u = (f', wa', (oc_act S p1 p2 1).2, M))) 0 0 (gA G) := by
  refine m_head (cc := cX1_swap) (maxL := 3) (ret := (some .int)) (by decide) rfl (Nat.le_of_ble_eq_true rfl) ?_
  intro p e s m below meth c hx hb hml hr hlocks hown hts hw ls hl
  have hown : s.vm.findClass RX1 = some m.cls := hown
  have hl : lv_has ls 3 [(0, .ref (gx G)), (1, .int p1), (2, .int p2)] := hl
  refine lv_aload_n hx hb dX1_swap_0 rfl (lv_at hl 0 rfl) ?_
  refine lv_iload_n hx hb dX1_swap_1 rfl (lv_at hl 1 rfl) ?_
  refine lv_iload_n hx hb dX1_swap_2 rfl (lv_at hl 2 rfl) ?_
  refine lv_iconst (v := 1) hx hb dX1_swap_3 (by decide) ?_
  refine k_i hw (va_runV (As := [.int p1, .int p2, .int 1]) (rest := []) ⟨hx, hb, hml, hown, hts⟩ (c_X1_actOnTwo l G f wa S M hI p1 p2 1) (cwV 3 hts gX1_swap_X1_actOnTwo rfl rfl rfl (by decide +kernel) ⟨Nat.le_of_ble_eq_true rfl, Nat.le_of_ble_eq_true rfl⟩) (hw.preX _) rfl rfl hl.1 rfl (lv_room (Nat.le_of_ble_eq_true rfl)) dX1_swap_4 ⟨Nat.le_of_ble_eq_true rfl, Nat.le_of_ble_eq_true rfl⟩) (fun r u H locs hR hw => ?_)
  obtain ⟨hq, f', wa', rfl⟩ := hR
  obtain rfl := hq.symm
  exact e_i hx hb hr hlocks hw dX1_swap_7 ⟨rfl, f', wa', rfl⟩

set_option maxHeartbeats 4000000 in
set_option maxRecDepth 100000 in
theorem c_X1_recode (l : Launch) (G : GT) (f : Nat → Option Nat) (wa : Nat → Nat) (S M : Tb) (p1 p2 : Int32) : Met l yX1_recode wsX1_recode (rk 2) (va_Pc [.ref (gx G), .int p1, .int p2] (Wo G (f, wa, S, M))) (Qi G (fun r u => r = (oc_recode S p1 p2).1 ∧ ∃ (f' : Nat → Option Nat) (wa' : Nat → Nat), u = (f', wa', (oc_recode S p1 p2).2, M))) 0 0 (gA G) := by
  refine m_head (cc := cX1_recode) (maxL := 8) (ret := (some .int)) (by decide) rfl (Nat.le_of_ble_eq_true rfl) ?_
  intro p e s m below meth c hx hb hml hr hlocks hown hts hw ls hl
  have hown : s.vm.findClass RX1 = some m.cls := hown
  have hl : lv_has ls 8 [(0, .ref (gx G)), (1, .int p1), (2, .int p2)] := hl
  have hin0 : ∀ w ∈ wsX00, w ∈ wsX1_recode := by decide +kernel
  have lk49 := hts (.fieldLink RX1 49 "LockerWall$Locker" "isOpen" "Z") (by decide +kernel)
  have lk46 := hts (.fieldLink RX1 46 "LockerWall$Locker" "code" "I") (by decide +kernel)
  refine lv_iload_n hx hb dX1_recode_0 rfl (lv_at hl 1 rfl) ?_
  refine k_i hw (va_runS (As := [.int p1]) (rest := []) ⟨hx, hb, hml, hown, hts⟩ (c_X1_isHook l G f wa S M p1) (va_cwS 1 hts gX1_recode_X1_isHook rfl rfl rfl (by decide +kernel) ⟨Nat.le_of_ble_eq_true rfl, Nat.le_of_ble_eq_true rfl⟩) (hw.preS _) rfl rfl hl.1 rfl (lv_room (Nat.le_of_ble_eq_true rfl)) dX1_recode_1 ⟨Nat.le_of_ble_eq_true rfl, Nat.le_of_ble_eq_true rfl⟩) (fun r u H locs hR hw => ?_)
  obtain ⟨hq, rfl⟩ := hR
  obtain rfl := hq.symm
  cases hh_1 : isH p1
  · skip
    refine W.eq (g2 := F0 m 4 ls [.int 0]) rfl ?_
    refine lv_if_ne (tgt := 9) hx hb dX1_recode_4 (by decide) (fun c_4 => ?_) (fun c_4 => ?_)
    · skip
      exact absurd c_4 (by decide)
    · skip
      refine lv_iconst (v := (-1)) hx hb dX1_recode_7 (by decide) ?_
      exact e_i hx hb hr hlocks hw dX1_recode_8 (leafC (by simp only [oc_recode, oj_recode, hd, lg, lg2, ↓reduceIte, hh_1, Bool.false_eq_true, c_4]))
  · skip
    refine W.eq (g2 := F0 m 4 ls [.int 1]) rfl ?_
    obtain ⟨i, hi, rfl⟩ := isH_of hh_1
    refine lv_if_ne (tgt := 9) hx hb dX1_recode_4 (by decide) (fun c_4 => ?_) (fun c_4 => ?_)
    · skip
      refine lv_aload_n hx hb dX1_recode_9 rfl (lv_at hl 0 rfl) ?_
      refine lv_iload_n hx hb dX1_recode_10 rfl (lv_at hl 1 rfl) ?_
      rcases hf_i : f i with _ | a_i
      · skip
        have h0_i : S 0 i = 0 := (show S 0 i = oN (f i) from hw.col0 (show i < 25 by omega)).trans (by rw [hf_i]; rfl)
        refine k_o hw (va_runV (As := [.int (nI i)]) (rest := []) ⟨hx, hb, hml, hown, hts⟩ (c_X1_holdAt_n l G f wa S M (show i < 24 by omega) hf_i) (cwV 1 hts gX1_recode_X1_holdAt rfl rfl rfl (by decide +kernel) ⟨Nat.le_of_ble_eq_true rfl, Nat.le_of_ble_eq_true rfl⟩) (hw.preX _) rfl rfl hl.1 rfl (lv_room (Nat.le_of_ble_eq_true rfl)) dX1_recode_11 ⟨Nat.le_of_ble_eq_true rfl, Nat.le_of_ble_eq_true rfl⟩) (fun r u H locs hR hw => ?_)
        obtain ⟨hq, rfl⟩ := hR
        obtain rfl := hq.symm
        refine W.eq (g2 := F0 m 14 ls [.null]) rfl ?_
        refine lv_astore_nN (lv' := [(3, .null), (0, .ref (gx G)), (1, .int (nI i)), (2, .int p2)]) hx hb dX1_recode_14 rfl hl (by decide) rfl (fun ls hl => ?_)
        refine lv_aload_n hx hb dX1_recode_15 rfl (lv_at hl 1 rfl) ?_
        refine lv_iload_n hx hb dX1_recode_16 rfl (lv_at hl 2 rfl) ?_
        refine k_o hw (va_runV (As := [.int (nI i)]) (rest := []) ⟨hx, hb, hml, hown, hts⟩ (c_X1_holdAt_n l G f wa S M (show i < 24 by omega) hf_i) (cwV 1 hts gX1_recode_X1_holdAt rfl rfl rfl (by decide +kernel) ⟨Nat.le_of_ble_eq_true rfl, Nat.le_of_ble_eq_true rfl⟩) (hw.preX _) rfl rfl hl.1 rfl (lv_room (Nat.le_of_ble_eq_true rfl)) dX1_recode_17 ⟨Nat.le_of_ble_eq_true rfl, Nat.le_of_ble_eq_true rfl⟩) (fun r u H locs hR hw => ?_)
        obtain ⟨hq, rfl⟩ := hR
        obtain rfl := hq.symm
        refine W.eq (g2 := F0 m 20 ls [.null]) rfl ?_
        refine lv_astoreN (lv' := [(4, .null), (3, .null), (0, .ref (gx G)), (1, .int (nI i)), (2, .int p2)]) hx hb dX1_recode_20 hl (by decide) rfl (fun ls hl => ?_)
        refine lv_aload_n hx hb dX1_recode_22 rfl (lv_at hl 2 rfl) ?_
        refine lv_iload_n hx hb dX1_recode_23 rfl (lv_at hl 3 rfl) ?_
        refine k_o hw (va_runV (As := [.int (nI i)]) (rest := []) ⟨hx, hb, hml, hown, hts⟩ (c_X1_holdAt_n l G f wa S M (show i < 24 by omega) hf_i) (cwV 1 hts gX1_recode_X1_holdAt rfl rfl rfl (by decide +kernel) ⟨Nat.le_of_ble_eq_true rfl, Nat.le_of_ble_eq_true rfl⟩) (hw.preX _) rfl rfl hl.1 rfl (lv_room (Nat.le_of_ble_eq_true rfl)) dX1_recode_24 ⟨Nat.le_of_ble_eq_true rfl, Nat.le_of_ble_eq_true rfl⟩) (fun r u H locs hR hw => ?_)
        obtain ⟨hq, rfl⟩ := hR
        obtain rfl := hq.symm
        refine W.eq (g2 := F0 m 27 ls [.null]) rfl ?_
        refine lv_astoreN (lv' := [(5, .null), (4, .null), (3, .null), (0, .ref (gx G)), (1, .int (nI i)), (2, .int p2)]) hx hb dX1_recode_27 hl (by decide) rfl (fun ls hl => ?_)
        refine lv_aload_nN hx hb dX1_recode_29 rfl (lv_at hl 2 rfl) ?_
        refine lv_ifnullN (tgt := 43) hx hb dX1_recode_30 (by decide) ?_
        refine lv_bipush (v := (-2)) hx hb dX1_recode_43 (by decide) ?_
        exact e_i hx hb hr hlocks hw dX1_recode_45 (leafC (by simp only [oc_recode, oj_recode, hd, lg, lg2, ↓reduceIte, isH_nI hi, cl24 hi, c_4, h0_i]))
      · skip
        have h0_i : ¬ S 0 i = 0 := by rw [(show S 0 i = oN (f i) from hw.col0 (show i < 25 by omega)), hf_i]; exact oN_s _
        refine k_o hw (va_runV (As := [.int (nI i)]) (rest := []) ⟨hx, hb, hml, hown, hts⟩ (c_X1_holdAt_s l G f wa S M (show i < 24 by omega) hf_i) (cwV 1 hts gX1_recode_X1_holdAt rfl rfl rfl (by decide +kernel) ⟨Nat.le_of_ble_eq_true rfl, Nat.le_of_ble_eq_true rfl⟩) (hw.preX _) rfl rfl hl.1 rfl (lv_room (Nat.le_of_ble_eq_true rfl)) dX1_recode_11 ⟨Nat.le_of_ble_eq_true rfl, Nat.le_of_ble_eq_true rfl⟩) (fun r u H locs hR hw => ?_)
        obtain ⟨hq, rfl⟩ := hR
        obtain rfl := hq.symm
        refine W.eq (g2 := F0 m 14 ls [.ref a_i]) rfl ?_
        refine lv_astore_n (lv' := [(3, .ref a_i), (0, .ref (gx G)), (1, .int (nI i)), (2, .int p2)]) hx hb dX1_recode_14 rfl hl (by decide) rfl (fun ls hl => ?_)
        refine lv_aload_n hx hb dX1_recode_15 rfl (lv_at hl 1 rfl) ?_
        refine lv_iload_n hx hb dX1_recode_16 rfl (lv_at hl 2 rfl) ?_
        refine k_o hw (va_runV (As := [.int (nI i)]) (rest := []) ⟨hx, hb, hml, hown, hts⟩ (c_X1_holdAt_s l G f wa (sU S 6 i ((S 6 i) + 1)) M (show i < 24 by omega) hf_i) (cwV 1 hts gX1_recode_X1_holdAt rfl rfl rfl (by decide +kernel) ⟨Nat.le_of_ble_eq_true rfl, Nat.le_of_ble_eq_true rfl⟩) (hw.preX _) rfl rfl hl.1 rfl (lv_room (Nat.le_of_ble_eq_true rfl)) dX1_recode_17 ⟨Nat.le_of_ble_eq_true rfl, Nat.le_of_ble_eq_true rfl⟩) (fun r u H locs hR hw => ?_)
        obtain ⟨hq, rfl⟩ := hR
        obtain rfl := hq.symm
        refine W.eq (g2 := F0 m 20 ls [.ref a_i]) rfl ?_
        refine lv_astore (lv' := [(4, .ref a_i), (3, .ref a_i), (0, .ref (gx G)), (1, .int (nI i)), (2, .int p2)]) hx hb dX1_recode_20 hl (by decide) rfl (fun ls hl => ?_)
        refine lv_aload_n hx hb dX1_recode_22 rfl (lv_at hl 2 rfl) ?_
        refine lv_iload_n hx hb dX1_recode_23 rfl (lv_at hl 3 rfl) ?_
        refine k_o hw (va_runV (As := [.int (nI i)]) (rest := []) ⟨hx, hb, hml, hown, hts⟩ (c_X1_holdAt_s l G f wa (sU (sU S 6 i ((S 6 i) + 1)) 6 i (((sU S 6 i ((S 6 i) + 1)) 6 i) + 1)) M (show i < 24 by omega) hf_i) (cwV 1 hts gX1_recode_X1_holdAt rfl rfl rfl (by decide +kernel) ⟨Nat.le_of_ble_eq_true rfl, Nat.le_of_ble_eq_true rfl⟩) (hw.preX _) rfl rfl hl.1 rfl (lv_room (Nat.le_of_ble_eq_true rfl)) dX1_recode_24 ⟨Nat.le_of_ble_eq_true rfl, Nat.le_of_ble_eq_true rfl⟩) (fun r u H locs hR hw => ?_)
        obtain ⟨hq, rfl⟩ := hR
        obtain rfl := hq.symm
        refine W.eq (g2 := F0 m 27 ls [.ref a_i]) rfl ?_
        refine lv_astore (lv' := [(5, .ref a_i), (4, .ref a_i), (3, .ref a_i), (0, .ref (gx G)), (1, .int (nI i)), (2, .int p2)]) hx hb dX1_recode_27 hl (by decide) rfl (fun ls hl => ?_)
        refine lv_aload_n hx hb dX1_recode_29 rfl (lv_at hl 2 rfl) ?_
        refine lv_ifnull hx hb dX1_recode_30 ?_
        refine lv_aload hx hb dX1_recode_33 (lv_at hl 1 rfl) ?_
        refine lv_ifnull hx hb dX1_recode_35 ?_
        refine lv_aload hx hb dX1_recode_38 (lv_at hl 0 rfl) ?_
        refine lv_ifnonnull (tgt := 46) hx hb dX1_recode_40 (by decide) ?_
        refine lv_iconst (v := 4) hx hb dX1_recode_46 (by decide) ?_
        refine lv_istore (lv' := [(6, .int 4), (5, .ref a_i), (4, .ref a_i), (3, .ref a_i), (0, .ref (gx G)), (1, .int (nI i)), (2, .int p2)]) hx hb dX1_recode_47 hl (by decide) rfl (fun ls hl => ?_)
        refine lv_bipush (v := (-7)) hx hb dX1_recode_49 (by decide) ?_
        refine lv_istore (lv' := [(7, .int (-7)), (6, .int 4), (5, .ref a_i), (4, .ref a_i), (3, .ref a_i), (0, .ref (gx G)), (1, .int (nI i)), (2, .int p2)]) hx hb dX1_recode_51 hl (by decide) rfl (fun ls hl => ?_)
        refine lv_aload hx hb dX1_recode_53 (lv_at hl 2 rfl) ?_
        refine r_get0 (v := .int (S 3 i)) hx hb hts hin0 hown hw (show i < 25 by omega) hf_i 2 (by decide) lk49 rfl dX1_recode_55 ?_
        refine lv_if_eq (tgt := 73) hx hb dX1_recode_58 (by decide) (fun c_58 => ?_) (fun c_58 => ?_)
        · skip
          refine lv_aload hx hb dX1_recode_73 (lv_at hl 2 rfl) ?_
          refine lv_iload hx hb dX1_recode_75 (lv_at hl 1 rfl) ?_
          refine lv_iload hx hb dX1_recode_77 (lv_at hl 0 rfl) ?_
          refine k_i hw (va_runV (As := [.int 4, .int (-7)]) (rest := []) ⟨hx, hb, hml, hown, hts⟩ (c_X0_letGo l G f wa (sU (sU (sU S 6 i ((S 6 i) + 1)) 6 i (((sU S 6 i ((S 6 i) + 1)) 6 i) + 1)) 6 i (((sU (sU S 6 i ((S 6 i) + 1)) 6 i (((sU S 6 i ((S 6 i) + 1)) 6 i) + 1)) 6 i) + 1)) M (show i < 25 by omega) hf_i 4 (-7)) (cwV 2 hts gX1_recode_X0_letGo rfl rfl rfl (by decide +kernel) ⟨Nat.le_of_ble_eq_true rfl, Nat.le_of_ble_eq_true rfl⟩) (hw.preL (show i < 25 by omega) hf_i _) rfl rfl hl.1 rfl (lv_room (Nat.le_of_ble_eq_true rfl)) dX1_recode_79 ⟨Nat.le_of_ble_eq_true rfl, Nat.le_of_ble_eq_true rfl⟩) (fun r u H locs hR hw => ?_)
          obtain ⟨hq, rfl⟩ := hR
          obtain rfl := hq.symm
          refine lv_pop hx hb dX1_recode_82 rfl ?_
          refine lv_aload hx hb dX1_recode_83 (lv_at hl 3 rfl) ?_
          refine lv_iload hx hb dX1_recode_85 (lv_at hl 1 rfl) ?_
          refine lv_iload hx hb dX1_recode_87 (lv_at hl 0 rfl) ?_
          refine k_i hw (va_runV (As := [.int 4, .int (-7)]) (rest := []) ⟨hx, hb, hml, hown, hts⟩ (c_X0_letGo l G f wa (sU (sU (sU (sU S 6 i ((S 6 i) + 1)) 6 i (((sU S 6 i ((S 6 i) + 1)) 6 i) + 1)) 6 i (((sU (sU S 6 i ((S 6 i) + 1)) 6 i (((sU S 6 i ((S 6 i) + 1)) 6 i) + 1)) 6 i) + 1)) 7 i 4) M (show i < 25 by omega) hf_i 4 (-7)) (cwV 2 hts gX1_recode_X0_letGo rfl rfl rfl (by decide +kernel) ⟨Nat.le_of_ble_eq_true rfl, Nat.le_of_ble_eq_true rfl⟩) (hw.preL (show i < 25 by omega) hf_i _) rfl rfl hl.1 rfl (lv_room (Nat.le_of_ble_eq_true rfl)) dX1_recode_89 ⟨Nat.le_of_ble_eq_true rfl, Nat.le_of_ble_eq_true rfl⟩) (fun r u H locs hR hw => ?_)
          obtain ⟨hq, rfl⟩ := hR
          obtain rfl := hq.symm
          refine lv_pop hx hb dX1_recode_92 rfl ?_
          refine lv_aload_n hx hb dX1_recode_93 rfl (lv_at hl 4 rfl) ?_
          refine lv_iload hx hb dX1_recode_94 (lv_at hl 1 rfl) ?_
          refine lv_iload hx hb dX1_recode_96 (lv_at hl 0 rfl) ?_
          refine k_i hw (va_runV (As := [.int 4, .int (-7)]) (rest := []) ⟨hx, hb, hml, hown, hts⟩ (c_X0_letGo l G f wa (sU (sU (sU (sU (sU S 6 i ((S 6 i) + 1)) 6 i (((sU S 6 i ((S 6 i) + 1)) 6 i) + 1)) 6 i (((sU (sU S 6 i ((S 6 i) + 1)) 6 i (((sU S 6 i ((S 6 i) + 1)) 6 i) + 1)) 6 i) + 1)) 7 i 4) 7 i 4) M (show i < 25 by omega) hf_i 4 (-7)) (cwV 2 hts gX1_recode_X0_letGo rfl rfl rfl (by decide +kernel) ⟨Nat.le_of_ble_eq_true rfl, Nat.le_of_ble_eq_true rfl⟩) (hw.preL (show i < 25 by omega) hf_i _) rfl rfl hl.1 rfl (lv_room (Nat.le_of_ble_eq_true rfl)) dX1_recode_98 ⟨Nat.le_of_ble_eq_true rfl, Nat.le_of_ble_eq_true rfl⟩) (fun r u H locs hR hw => ?_)
          obtain ⟨hq, rfl⟩ := hR
          obtain rfl := hq.symm
          exact e_i hx hb hr hlocks hw dX1_recode_101 (leafC (by simp only [oc_recode, oj_recode, hd, lg, lg2, ↓reduceIte, isH_nI hi, cl24 hi, c_4, h0_i, c_58]))
        · skip
          refine lv_aload hx hb dX1_recode_61 (lv_at hl 2 rfl) ?_
          refine lv_iload_n hx hb dX1_recode_63 rfl (lv_at hl 7 rfl) ?_
          refine r_put0 hx hb hts hin0 hown hw (show i < 25 by omega) hf_i 1 2 (by decide) lk46 rfl rfl dX1_recode_64 (fun H locs hw => ?_)
          have hw : Wi G (f, wa, sU (sU (sU (sU S 6 i ((S 6 i) + 1)) 6 i (((sU S 6 i ((S 6 i) + 1)) 6 i) + 1)) 6 i (((sU (sU S 6 i ((S 6 i) + 1)) 6 i (((sU S 6 i ((S 6 i) + 1)) 6 i) + 1)) 6 i) + 1)) 2 i p2, M) s H locs := hw
          refine lv_iconst (v := 2) hx hb dX1_recode_67 (by decide) ?_
          refine lv_istore (lv' := [(6, .int 2), (7, .int (-7)), (5, .ref a_i), (4, .ref a_i), (3, .ref a_i), (0, .ref (gx G)), (1, .int (nI i)), (2, .int p2)]) hx hb dX1_recode_68 hl (by decide) rfl (fun ls hl => ?_)
          refine lv_iconst (v := 1) hx hb dX1_recode_70 (by decide) ?_
          refine lv_istore (lv' := [(7, .int 1), (6, .int 2), (5, .ref a_i), (4, .ref a_i), (3, .ref a_i), (0, .ref (gx G)), (1, .int (nI i)), (2, .int p2)]) hx hb dX1_recode_71 hl (by decide) rfl (fun ls hl => ?_)
          refine lv_aload hx hb dX1_recode_73 (lv_at hl 2 rfl) ?_
          refine lv_iload hx hb dX1_recode_75 (lv_at hl 1 rfl) ?_
          refine lv_iload hx hb dX1_recode_77 (lv_at hl 0 rfl) ?_
          refine k_i hw (va_runV (As := [.int 2, .int 1]) (rest := []) ⟨hx, hb, hml, hown, hts⟩ (c_X0_letGo l G f wa (sU (sU (sU (sU S 6 i ((S 6 i) + 1)) 6 i (((sU S 6 i ((S 6 i) + 1)) 6 i) + 1)) 6 i (((sU (sU S 6 i ((S 6 i) + 1)) 6 i (((sU S 6 i ((S 6 i) + 1)) 6 i) + 1)) 6 i) + 1)) 2 i p2) M (show i < 25 by omega) hf_i 2 1) (cwV 2 hts gX1_recode_X0_letGo rfl rfl rfl (by decide +kernel) ⟨Nat.le_of_ble_eq_true rfl, Nat.le_of_ble_eq_true rfl⟩) (hw.preL (show i < 25 by omega) hf_i _) rfl rfl hl.1 rfl (lv_room (Nat.le_of_ble_eq_true rfl)) dX1_recode_79 ⟨Nat.le_of_ble_eq_true rfl, Nat.le_of_ble_eq_true rfl⟩) (fun r u H locs hR hw => ?_)
          obtain ⟨hq, rfl⟩ := hR
          obtain rfl := hq.symm
          refine lv_pop hx hb dX1_recode_82 rfl ?_
          refine lv_aload hx hb dX1_recode_83 (lv_at hl 3 rfl) ?_
          refine lv_iload hx hb dX1_recode_85 (lv_at hl 1 rfl) ?_
          refine lv_iload hx hb dX1_recode_87 (lv_at hl 0 rfl) ?_
          refine k_i hw (va_runV (As := [.int 2, .int 1]) (rest := []) ⟨hx, hb, hml, hown, hts⟩ (c_X0_letGo l G f wa (sU (sU (sU (sU (sU S 6 i ((S 6 i) + 1)) 6 i (((sU S 6 i ((S 6 i) + 1)) 6 i) + 1)) 6 i (((sU (sU S 6 i ((S 6 i) + 1)) 6 i (((sU S 6 i ((S 6 i) + 1)) 6 i) + 1)) 6 i) + 1)) 2 i p2) 7 i 2) M (show i < 25 by omega) hf_i 2 1) (cwV 2 hts gX1_recode_X0_letGo rfl rfl rfl (by decide +kernel) ⟨Nat.le_of_ble_eq_true rfl, Nat.le_of_ble_eq_true rfl⟩) (hw.preL (show i < 25 by omega) hf_i _) rfl rfl hl.1 rfl (lv_room (Nat.le_of_ble_eq_true rfl)) dX1_recode_89 ⟨Nat.le_of_ble_eq_true rfl, Nat.le_of_ble_eq_true rfl⟩) (fun r u H locs hR hw => ?_)
          obtain ⟨hq, rfl⟩ := hR
          obtain rfl := hq.symm
          refine lv_pop hx hb dX1_recode_92 rfl ?_
          refine lv_aload_n hx hb dX1_recode_93 rfl (lv_at hl 4 rfl) ?_
          refine lv_iload hx hb dX1_recode_94 (lv_at hl 1 rfl) ?_
          refine lv_iload hx hb dX1_recode_96 (lv_at hl 0 rfl) ?_
          refine k_i hw (va_runV (As := [.int 2, .int 1]) (rest := []) ⟨hx, hb, hml, hown, hts⟩ (c_X0_letGo l G f wa (sU (sU (sU (sU (sU (sU S 6 i ((S 6 i) + 1)) 6 i (((sU S 6 i ((S 6 i) + 1)) 6 i) + 1)) 6 i (((sU (sU S 6 i ((S 6 i) + 1)) 6 i (((sU S 6 i ((S 6 i) + 1)) 6 i) + 1)) 6 i) + 1)) 2 i p2) 7 i 2) 7 i 2) M (show i < 25 by omega) hf_i 2 1) (cwV 2 hts gX1_recode_X0_letGo rfl rfl rfl (by decide +kernel) ⟨Nat.le_of_ble_eq_true rfl, Nat.le_of_ble_eq_true rfl⟩) (hw.preL (show i < 25 by omega) hf_i _) rfl rfl hl.1 rfl (lv_room (Nat.le_of_ble_eq_true rfl)) dX1_recode_98 ⟨Nat.le_of_ble_eq_true rfl, Nat.le_of_ble_eq_true rfl⟩) (fun r u H locs hR hw => ?_)
          obtain ⟨hq, rfl⟩ := hR
          obtain rfl := hq.symm
          exact e_i hx hb hr hlocks hw dX1_recode_101 (leafC (by simp only [oc_recode, oj_recode, hd, lg, lg2, ↓reduceIte, isH_nI hi, cl24 hi, c_4, h0_i, c_58]))
    · skip
      exact absurd c_4 (by decide)

set_option maxHeartbeats 4000000 in
set_option maxRecDepth 100000 in
theorem c_X1_latch (l : Launch) (G : GT) (f : Nat → Option Nat) (wa : Nat → Nat) (S M : Tb)  : Met l yX1_latch wsX1_latch (rk 0) (va_Pc [.ref (gx G)] (Wo G (f, wa, S, M))) (Qi G (fun r u => r = ((S 9 0, S)).1 ∧ ∃ (f' : Nat → Option Nat) (wa' : Nat → Nat), u = (f', wa', ((S 9 0, S)).2, M))) 0 0 (gA G) := by
  refine m_head (cc := cX1_latch) (maxL := 1) (ret := (some .int)) (by decide) rfl (Nat.le_of_ble_eq_true rfl) ?_
  intro p e s m below meth c hx hb hml hr hlocks hown hts hw ls hl
  have hown : s.vm.findClass RX1 = some m.cls := hown
  have hl : lv_has ls 1 [(0, .ref (gx G))] := hl
  have hin1 : ∀ w ∈ wsX10, w ∈ wsX1_latch := by decide +kernel
  have lk15 := hts (.fieldLink RX1 15 "LockerWall" "latchHolds" "I") (by decide +kernel)
  refine lv_aload_n hx hb dX1_latch_0 rfl (lv_at hl 0 rfl) ?_
  refine r_getT hx hb hts hin1 hown hw lk15 dX1_latch_1 ?_
  exact e_i hx hb hr hlocks hw dX1_latch_4 ⟨rfl, f, wa, rfl⟩

set_option maxHeartbeats 4000000 in
set_option maxRecDepth 100000 in
theorem c_X0_fact (l : Launch) (G : GT) (f : Nat → Option Nat) (wa : Nat → Nat) (S M : Tb) {i a : Nat} (hi : i < 25) (hf : f i = some a) {n : Nat} (hn : S 5 i = nI n) (h10 : n ≤ 10) {q : Nat} (hq9 : q < 9) : Met l yX0_fact wsX0_fact (rk 1) (va_Pc [.ref a, .int (nI q)] (Wo G (f, wa, S, M))) (Qi G (fun r u => r = factS S i q ∧ u = (f, wa, S, M))) 0 0 (gA G) := by
  refine m_head (cc := cX0_fact) (maxL := 2) (ret := (some .int)) (by decide) rfl (Nat.le_of_ble_eq_true rfl) ?_
  intro p e s m below meth c hx hb hml hr hlocks hown hts hw ls hl
  have hown : s.vm.findClass RX0 = some m.cls := hown
  have hl : lv_has ls 2 [(0, .ref a), (1, .int (nI q))] := hl
  have hin0 : ∀ w ∈ wsX00, w ∈ wsX0_fact := by decide +kernel
  have lk9 := hts (.fieldLink RX0 9 "LockerWall$Locker" "room" "I") (by decide +kernel)
  have lk15 := hts (.fieldLink RX0 15 "LockerWall$Locker" "code" "I") (by decide +kernel)
  have lk32 := hts (.fieldLink RX0 32 "LockerWall$Locker" "isOpen" "Z") (by decide +kernel)
  have lk36 := hts (.fieldLink RX0 36 "LockerWall$Locker" "wrongTries" "I") (by decide +kernel)
  have lk25 := hts (.fieldLink RX0 25 "LockerWall$Locker" "count" "I") (by decide +kernel)
  have lk39 := hts (.fieldLink RX0 39 "LockerWall$Locker" "holds" "I") (by decide +kernel)
  have lk22 := hts (.fieldLink RX0 22 "LockerWall$Locker" "left" "I") (by decide +kernel)
  refine lv_iload_n hx hb dX0_fact_0 rfl (lv_at hl 1 rfl) ?_
  rcases (show q = 0 ∨ q = 1 ∨ q = 2 ∨ q = 3 ∨ q = 4 ∨ q = 5 ∨ q = 6 ∨ q = 7 ∨ q = 8 by omega) with rfl | rfl | rfl | rfl | rfl | rfl | rfl | rfl | rfl
  · skip
    refine lv_tableIn (tgt := 52) (off := 51) hx hb dX0_fact_1 (by decide) (by decide) rfl (by decide) ?_
    refine lv_iconst (v := 1) hx hb dX0_fact_52 (by decide) ?_
    exact e_i hx hb hr hlocks hw dX0_fact_53 ⟨by simp [factS], rfl⟩
  · skip
    refine lv_tableIn (tgt := 54) (off := 53) hx hb dX0_fact_1 (by decide) (by decide) rfl (by decide) ?_
    refine lv_aload_n hx hb dX0_fact_54 rfl (lv_at hl 0 rfl) ?_
    refine r_get0 (v := .int (S 1 i)) hx hb hts hin0 hown hw hi hf 0 (by decide) lk9 rfl dX0_fact_55 ?_
    exact e_i hx hb hr hlocks hw dX0_fact_58 ⟨by simp [factS], rfl⟩
  · skip
    refine lv_tableIn (tgt := 59) (off := 58) hx hb dX0_fact_1 (by decide) (by decide) rfl (by decide) ?_
    refine lv_aload_n hx hb dX0_fact_59 rfl (lv_at hl 0 rfl) ?_
    refine r_get0 (v := .int (S 2 i)) hx hb hts hin0 hown hw hi hf 1 (by decide) lk15 rfl dX0_fact_60 ?_
    exact e_i hx hb hr hlocks hw dX0_fact_63 ⟨by simp [factS], rfl⟩
  · skip
    refine lv_tableIn (tgt := 64) (off := 63) hx hb dX0_fact_1 (by decide) (by decide) rfl (by decide) ?_
    refine lv_aload_n hx hb dX0_fact_64 rfl (lv_at hl 0 rfl) ?_
    refine r_get0 (v := .int (S 3 i)) hx hb hts hin0 hown hw hi hf 2 (by decide) lk32 rfl dX0_fact_65 ?_
    refine lv_if_eq (tgt := 75) hx hb dX0_fact_68 (by decide) (fun c_68 => ?_) (fun c_68 => ?_)
    · skip
      refine lv_iconst (v := 0) hx hb dX0_fact_75 (by decide) ?_
      exact e_i hx hb hr hlocks hw dX0_fact_76 ⟨by simp [factS, c_68], rfl⟩
    · skip
      refine lv_iconst (v := 1) hx hb dX0_fact_71 (by decide) ?_
      refine lv_goto (tgt := 76) hx hb dX0_fact_72 (by decide) ?_
      exact e_i hx hb hr hlocks hw dX0_fact_76 ⟨by simp [factS, c_68], rfl⟩
  · skip
    refine lv_tableIn (tgt := 77) (off := 76) hx hb dX0_fact_1 (by decide) (by decide) rfl (by decide) ?_
    refine lv_aload_n hx hb dX0_fact_77 rfl (lv_at hl 0 rfl) ?_
    refine r_get0 (v := .int (S 4 i)) hx hb hts hin0 hown hw hi hf 3 (by decide) lk36 rfl dX0_fact_78 ?_
    exact e_i hx hb hr hlocks hw dX0_fact_81 ⟨by simp [factS], rfl⟩
  · skip
    refine lv_tableIn (tgt := 82) (off := 81) hx hb dX0_fact_1 (by decide) (by decide) rfl (by decide) ?_
    refine lv_aload_n hx hb dX0_fact_82 rfl (lv_at hl 0 rfl) ?_
    refine r_get0 (v := .int (S 5 i)) hx hb hts hin0 hown hw hi hf 5 (by decide) lk25 rfl dX0_fact_83 ?_
    exact e_i hx hb hr hlocks hw dX0_fact_86 ⟨by simp [factS], rfl⟩
  · skip
    refine lv_tableIn (tgt := 87) (off := 86) hx hb dX0_fact_1 (by decide) (by decide) rfl (by decide) ?_
    refine lv_aload_n hx hb dX0_fact_87 rfl (lv_at hl 0 rfl) ?_
    refine k_i hw (va_runV (As := []) (rest := []) ⟨hx, hb, hml, hown, hts⟩ (c_X0_weight l G f wa S M hi hf hn h10) (cwV 0 hts gX0_fact_X0_weight rfl rfl rfl (by decide +kernel) ⟨Nat.le_of_ble_eq_true rfl, Nat.le_of_ble_eq_true rfl⟩) (hw.preL hi hf _) rfl rfl hl.1 rfl (lv_room (Nat.le_of_ble_eq_true rfl)) dX0_fact_88 ⟨Nat.le_of_ble_eq_true rfl, Nat.le_of_ble_eq_true rfl⟩) (fun r u H locs hR hw => ?_)
    obtain ⟨hq, rfl⟩ := hR
    obtain rfl := hq.symm
    exact e_i hx hb hr hlocks hw dX0_fact_91 ⟨by simp [factS], rfl⟩
  · skip
    refine lv_tableIn (tgt := 92) (off := 91) hx hb dX0_fact_1 (by decide) (by decide) rfl (by decide) ?_
    refine lv_aload_n hx hb dX0_fact_92 rfl (lv_at hl 0 rfl) ?_
    refine r_get0 (v := .int (S 6 i)) hx hb hts hin0 hown hw hi hf 6 (by decide) lk39 rfl dX0_fact_93 ?_
    exact e_i hx hb hr hlocks hw dX0_fact_96 ⟨by simp [factS], rfl⟩
  · skip
    refine lv_tableIn (tgt := 97) (off := 96) hx hb dX0_fact_1 (by decide) (by decide) rfl (by decide) ?_
    refine lv_aload_n hx hb dX0_fact_97 rfl (lv_at hl 0 rfl) ?_
    refine r_get0 (v := .int (S 7 i)) hx hb hts hin0 hown hw hi hf 7 (by decide) lk22 rfl dX0_fact_98 ?_
    exact e_i hx hb hr hlocks hw dX0_fact_101 ⟨by simp [factS], rfl⟩

set_option maxHeartbeats 4000000 in
set_option maxRecDepth 100000 in
theorem c_X1_told (l : Launch) (G : GT) (f : Nat → Option Nat) (wa : Nat → Nat) (S M : Tb) (hI : Inv S) (p1 p2 : Int32) : Met l yX1_told wsX1_told (rk 2) (va_Pc [.ref (gx G), .int p1, .int p2] (Wo G (f, wa, S, M))) (Qi G (fun r u => r = (oc_told S p1 p2).1 ∧ ∃ (f' : Nat → Option Nat) (wa' : Nat → Nat), u = (f', wa', (oc_told S p1 p2).2, M))) 0 0 (gA G) := by
  refine m_head (cc := cX1_told) (maxL := 4) (ret := (some .int)) (by decide) rfl (Nat.le_of_ble_eq_true rfl) ?_
  intro p e s m below meth c hx hb hml hr hlocks hown hts hw ls hl
  have hown : s.vm.findClass RX1 = some m.cls := hown
  have hl : lv_has ls 4 [(0, .ref (gx G)), (1, .int p1), (2, .int p2)] := hl
  have hin1 : ∀ w ∈ wsX10, w ∈ wsX1_told := by decide +kernel
  have lk11 := hts (.fieldLink RX1 11 "LockerWall" "hooks" "[LLockerWall$Locker;") (by decide +kernel)
  refine lv_iload_n hx hb dX1_told_0 rfl (lv_at hl 1 rfl) ?_
  refine k_i hw (va_runS (As := [.int p1]) (rest := []) ⟨hx, hb, hml, hown, hts⟩ (c_X1_isHook l G f wa S M p1) (va_cwS 1 hts gX1_told_X1_isHook rfl rfl rfl (by decide +kernel) ⟨Nat.le_of_ble_eq_true rfl, Nat.le_of_ble_eq_true rfl⟩) (hw.preS _) rfl rfl hl.1 rfl (lv_room (Nat.le_of_ble_eq_true rfl)) dX1_told_1 ⟨Nat.le_of_ble_eq_true rfl, Nat.le_of_ble_eq_true rfl⟩) (fun r u H locs hR hw => ?_)
  obtain ⟨hq, rfl⟩ := hR
  obtain rfl := hq.symm
  cases hh_1 : isH p1
  · skip
    refine W.eq (g2 := F0 m 4 ls [.int 0]) rfl ?_
    refine lv_if_eq (tgt := 17) hx hb dX1_told_4 (by decide) (fun c_4 => ?_) (fun c_4 => ?_)
    · skip
      refine lv_iconst (v := (-1)) hx hb dX1_told_17 (by decide) ?_
      exact e_i hx hb hr hlocks hw dX1_told_18 (leafC (by simp only [oc_told, hd, lg, lg2, ↓reduceIte, hh_1, Bool.false_eq_true, c_4]))
    · skip
      exact absurd c_4 (by decide)
  · skip
    refine W.eq (g2 := F0 m 4 ls [.int 1]) rfl ?_
    obtain ⟨i, hi, rfl⟩ := isH_of hh_1
    obtain ⟨n_i, h10_i, hn_i⟩ := hI i hi
    refine lv_if_eq (tgt := 17) hx hb dX1_told_4 (by decide) (fun c_4 => ?_) (fun c_4 => ?_)
    · skip
      exact absurd c_4 (by decide)
    · skip
      refine lv_iload_n hx hb dX1_told_7 rfl (lv_at hl 2 rfl) ?_
      refine lv_if_lt (tgt := 17) hx hb dX1_told_8 (by decide) (fun c_8 => ?_) (fun c_8 => ?_)
      · skip
        refine lv_iconst (v := (-1)) hx hb dX1_told_17 (by decide) ?_
        exact e_i hx hb hr hlocks hw dX1_told_18 (leafC (by simp only [oc_told, hd, lg, lg2, ↓reduceIte, isH_nI hi, cl24 hi, c_4, c_8]))
      · skip
        refine lv_iload_n hx hb dX1_told_11 rfl (lv_at hl 2 rfl) ?_
        refine lv_bipush (v := 8) hx hb dX1_told_12 (by decide) ?_
        refine lv_icmp_le (tgt := 19) hx hb dX1_told_14 (by decide) (fun c_14 => ?_) (fun c_14 => ?_)
        · skip
          refine lv_aload_n hx hb dX1_told_19 rfl (lv_at hl 0 rfl) ?_
          refine r_getH hx hb hts hin1 hown hw lk11 dX1_told_20 ?_
          refine lv_iload_n hx hb dX1_told_23 rfl (lv_at hl 1 rfl) ?_
          rcases hf_i : f i with _ | a_i
          · skip
            have h0_i : S 0 i = 0 := (show S 0 i = oN (f i) from hw.col0 (show i < 25 by omega)).trans (by rw [hf_i]; rfl)
            refine r_hld (v := .null) hx hb hw (i) (rfl) (show i < 24 by omega) (by rw [hf_i]; rfl) dX1_told_24 ?_
            refine lv_astore_nN (lv' := [(3, .null), (0, .ref (gx G)), (1, .int (nI i)), (2, .int p2)]) hx hb dX1_told_25 rfl hl (by decide) rfl (fun ls hl => ?_)
            refine lv_aload_nN hx hb dX1_told_26 rfl (lv_at hl 0 rfl) ?_
            refine lv_ifnonnullN hx hb dX1_told_27 ?_
            refine lv_iload_n hx hb dX1_told_30 rfl (lv_at hl 3 rfl) ?_
            refine lv_if_ne (tgt := 38) hx hb dX1_told_31 (by decide) (fun c_31 => ?_) (fun c_31 => ?_)
            · skip
              refine lv_bipush (v := (-2)) hx hb dX1_told_38 (by decide) ?_
              exact e_i hx hb hr hlocks hw dX1_told_40 (leafC (by simp only [oc_told, ↓reduceIte, isH_nI hi, cl24 hi, c_4, c_8, c_14, h0_i]; first | rw [if_pos c_31] | rw [if_neg c_31]))
            · skip
              refine lv_iconst (v := 0) hx hb dX1_told_34 (by decide) ?_
              refine lv_goto (tgt := 40) hx hb dX1_told_35 (by decide) ?_
              exact e_i hx hb hr hlocks hw dX1_told_40 (leafC (by simp only [oc_told, ↓reduceIte, isH_nI hi, cl24 hi, c_4, c_8, c_14, h0_i]; first | rw [if_pos c_31] | rw [if_neg c_31]))
          · skip
            have h0_i : ¬ S 0 i = 0 := by rw [(show S 0 i = oN (f i) from hw.col0 (show i < 25 by omega)), hf_i]; exact oN_s _
            refine r_hld (v := .ref a_i) hx hb hw (i) (rfl) (show i < 24 by omega) (by rw [hf_i]; rfl) dX1_told_24 ?_
            refine lv_astore_n (lv' := [(3, .ref a_i), (0, .ref (gx G)), (1, .int (nI i)), (2, .int p2)]) hx hb dX1_told_25 rfl hl (by decide) rfl (fun ls hl => ?_)
            refine lv_aload_n hx hb dX1_told_26 rfl (lv_at hl 0 rfl) ?_
            refine lv_ifnonnull (tgt := 41) hx hb dX1_told_27 (by decide) ?_
            obtain ⟨q, hq8, rfl⟩ := nI_of2 (M := 8) (n := 8) rfl c_8 c_14
            have clq : (nI q).toNatClampNeg = q := nI_clamp (by omega)
            refine lv_aload_n hx hb dX1_told_41 rfl (lv_at hl 0 rfl) ?_
            refine lv_iload_n hx hb dX1_told_42 rfl (lv_at hl 3 rfl) ?_
            refine k_i hw (va_runV (As := [.int (nI q)]) (rest := []) ⟨hx, hb, hml, hown, hts⟩ (c_X0_fact l G f wa S M (show i < 25 by omega) hf_i hn_i h10_i (q := q) (by omega)) (cwV 1 hts gX1_told_X0_fact rfl rfl rfl (by decide +kernel) ⟨Nat.le_of_ble_eq_true rfl, Nat.le_of_ble_eq_true rfl⟩) (hw.preL (show i < 25 by omega) hf_i _) rfl rfl hl.1 rfl (lv_room (Nat.le_of_ble_eq_true rfl)) dX1_told_43 ⟨Nat.le_of_ble_eq_true rfl, Nat.le_of_ble_eq_true rfl⟩) (fun r u H locs hR hw => ?_)
            obtain ⟨hq, rfl⟩ := hR
            obtain rfl := hq.symm
            exact e_i hx hb hr hlocks hw dX1_told_46 (leafC (by simp only [oc_told, hd, lg, lg2, ↓reduceIte, isH_nI hi, cl24 hi, c_4, c_8, c_14, h0_i, clq]))
        · skip
          refine lv_iconst (v := (-1)) hx hb dX1_told_17 (by decide) ?_
          exact e_i hx hb hr hlocks hw dX1_told_18 (leafC (by simp only [oc_told, hd, lg, lg2, ↓reduceIte, isH_nI hi, cl24 hi, c_4, c_8, c_14]))

set_option maxHeartbeats 4000000 in
set_option maxRecDepth 100000 in
theorem c_X1_item (l : Launch) (G : GT) (f : Nat → Option Nat) (wa : Nat → Nat) (S M : Tb) (hI : Inv S) (p1 p2 : Int32) : Met l yX1_item wsX1_item (rk 2) (va_Pc [.ref (gx G), .int p1, .int p2] (Wo G (f, wa, S, M))) (Qi G (fun r u => r = (oc_item S p1 p2).1 ∧ ∃ (f' : Nat → Option Nat) (wa' : Nat → Nat), u = (f', wa', (oc_item S p1 p2).2, M))) 0 0 (gA G) := by
  refine m_head (cc := cX1_item) (maxL := 4) (ret := (some .int)) (by decide) rfl (Nat.le_of_ble_eq_true rfl) ?_
  intro p e s m below meth c hx hb hml hr hlocks hown hts hw ls hl
  have hown : s.vm.findClass RX1 = some m.cls := hown
  have hl : lv_has ls 4 [(0, .ref (gx G)), (1, .int p1), (2, .int p2)] := hl
  have hin1 : ∀ w ∈ wsX10, w ∈ wsX1_item := by decide +kernel
  have lk11 := hts (.fieldLink RX1 11 "LockerWall" "hooks" "[LLockerWall$Locker;") (by decide +kernel)
  refine lv_iload_n hx hb dX1_item_0 rfl (lv_at hl 1 rfl) ?_
  refine k_i hw (va_runS (As := [.int p1]) (rest := []) ⟨hx, hb, hml, hown, hts⟩ (c_X1_isHook l G f wa S M p1) (va_cwS 1 hts gX1_item_X1_isHook rfl rfl rfl (by decide +kernel) ⟨Nat.le_of_ble_eq_true rfl, Nat.le_of_ble_eq_true rfl⟩) (hw.preS _) rfl rfl hl.1 rfl (lv_room (Nat.le_of_ble_eq_true rfl)) dX1_item_1 ⟨Nat.le_of_ble_eq_true rfl, Nat.le_of_ble_eq_true rfl⟩) (fun r u H locs hR hw => ?_)
  obtain ⟨hq, rfl⟩ := hR
  obtain rfl := hq.symm
  cases hh_1 : isH p1
  · skip
    refine W.eq (g2 := F0 m 4 ls [.int 0]) rfl ?_
    refine lv_if_ne (tgt := 9) hx hb dX1_item_4 (by decide) (fun c_4 => ?_) (fun c_4 => ?_)
    · skip
      exact absurd c_4 (by decide)
    · skip
      refine lv_iconst (v := (-1)) hx hb dX1_item_7 (by decide) ?_
      exact e_i hx hb hr hlocks hw dX1_item_8 (leafC (by simp only [oc_item, hd, lg, lg2, ↓reduceIte, hh_1, Bool.false_eq_true, c_4]))
  · skip
    refine W.eq (g2 := F0 m 4 ls [.int 1]) rfl ?_
    obtain ⟨i, hi, rfl⟩ := isH_of hh_1
    obtain ⟨n_i, h10_i, hn_i⟩ := hI i hi
    refine lv_if_ne (tgt := 9) hx hb dX1_item_4 (by decide) (fun c_4 => ?_) (fun c_4 => ?_)
    · skip
      refine lv_aload_n hx hb dX1_item_9 rfl (lv_at hl 0 rfl) ?_
      refine r_getH hx hb hts hin1 hown hw lk11 dX1_item_10 ?_
      refine lv_iload_n hx hb dX1_item_13 rfl (lv_at hl 1 rfl) ?_
      rcases hf_i : f i with _ | a_i
      · skip
        have h0_i : S 0 i = 0 := (show S 0 i = oN (f i) from hw.col0 (show i < 25 by omega)).trans (by rw [hf_i]; rfl)
        refine r_hld (v := .null) hx hb hw (i) (rfl) (show i < 24 by omega) (by rw [hf_i]; rfl) dX1_item_14 ?_
        refine lv_astore_nN (lv' := [(3, .null), (0, .ref (gx G)), (1, .int (nI i)), (2, .int p2)]) hx hb dX1_item_15 rfl hl (by decide) rfl (fun ls hl => ?_)
        refine lv_aload_nN hx hb dX1_item_16 rfl (lv_at hl 0 rfl) ?_
        refine lv_ifnonnullN hx hb dX1_item_17 ?_
        refine lv_bipush (v := (-2)) hx hb dX1_item_20 (by decide) ?_
        exact e_i hx hb hr hlocks hw dX1_item_22 (leafC (by simp only [oc_item, hd, lg, lg2, ↓reduceIte, isH_nI hi, cl24 hi, c_4, h0_i]))
      · skip
        have h0_i : ¬ S 0 i = 0 := by rw [(show S 0 i = oN (f i) from hw.col0 (show i < 25 by omega)), hf_i]; exact oN_s _
        refine r_hld (v := .ref a_i) hx hb hw (i) (rfl) (show i < 24 by omega) (by rw [hf_i]; rfl) dX1_item_14 ?_
        refine lv_astore_n (lv' := [(3, .ref a_i), (0, .ref (gx G)), (1, .int (nI i)), (2, .int p2)]) hx hb dX1_item_15 rfl hl (by decide) rfl (fun ls hl => ?_)
        refine lv_aload_n hx hb dX1_item_16 rfl (lv_at hl 0 rfl) ?_
        refine lv_ifnonnull (tgt := 23) hx hb dX1_item_17 (by decide) ?_
        refine lv_aload_n hx hb dX1_item_23 rfl (lv_at hl 0 rfl) ?_
        refine lv_iload_n hx hb dX1_item_24 rfl (lv_at hl 3 rfl) ?_
        refine k_i hw (va_runV (As := [.int p2]) (rest := []) ⟨hx, hb, hml, hown, hts⟩ (c_X0_weightOf l G f wa S M (show i < 25 by omega) hf_i hn_i h10_i p2) (cwV 1 hts gX1_item_X0_weightOf rfl rfl rfl (by decide +kernel) ⟨Nat.le_of_ble_eq_true rfl, Nat.le_of_ble_eq_true rfl⟩) (hw.preL (show i < 25 by omega) hf_i _) rfl rfl hl.1 rfl (lv_room (Nat.le_of_ble_eq_true rfl)) dX1_item_25 ⟨Nat.le_of_ble_eq_true rfl, Nat.le_of_ble_eq_true rfl⟩) (fun r u H locs hR hw => ?_)
        obtain ⟨hq, rfl⟩ := hR
        obtain rfl := hq.symm
        exact e_i hx hb hr hlocks hw dX1_item_28 (leafC (by simp only [oc_item, hd, lg, lg2, ↓reduceIte, isH_nI hi, cl24 hi, c_4, h0_i]))
    · skip
      exact absurd c_4 (by decide)
