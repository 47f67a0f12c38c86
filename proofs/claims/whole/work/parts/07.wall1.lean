set_option maxHeartbeats 4000000 in
set_option maxRecDepth 100000 in
theorem c_X1_open (l : Launch) (G : GT) (f : Nat → Option Nat) (wa : Nat → Nat) (S M : Tb) (p1 p2 : Int32) : Met l yX1_open wsX1_open (rk 2) (va_Pc [.ref (gx G), .int p1, .int p2] (Wo G (f, wa, S, M))) (Qi G (fun r u => r = (oc_open S p1 p2).1 ∧ ∃ (f' : Nat → Option Nat) (wa' : Nat → Nat), u = (f', wa', (oc_open S p1 p2).2, M))) 0 0 (gA G) := by
  refine m_head (cc := cX1_open) (maxL := 4) (ret := (some .int)) (by decide) rfl (Nat.le_of_ble_eq_true rfl) ?_
  intro p e s m below meth c hx hb hml hr hlocks hown hts hw ls hl
  have hown : s.vm.findClass RX1 = some m.cls := hown
  have hl : lv_has ls 4 [(0, .ref (gx G)), (1, .int p1), (2, .int p2)] := hl
  have hin0 : ∀ w ∈ wsX00, w ∈ wsX1_open := by decide +kernel
  have lk43 := hts (.fieldLink RX1 43 "LockerWall$Locker" "wrongTries" "I") (by decide +kernel)
  have lk46 := hts (.fieldLink RX1 46 "LockerWall$Locker" "code" "I") (by decide +kernel)
  have lk49 := hts (.fieldLink RX1 49 "LockerWall$Locker" "isOpen" "Z") (by decide +kernel)
  refine lv_iload_n hx hb dX1_open_0 rfl (lv_at hl 1 rfl) ?_
  refine k_i hw (va_runS (As := [.int p1]) (rest := []) ⟨hx, hb, hml, hown, hts⟩ (c_X1_isHook l G f wa S M p1) (va_cwS 1 hts gX1_open_X1_isHook rfl rfl rfl (by decide +kernel) ⟨Nat.le_of_ble_eq_true rfl, Nat.le_of_ble_eq_true rfl⟩) (hw.preS _) rfl rfl hl.1 rfl (lv_room (Nat.le_of_ble_eq_true rfl)) dX1_open_1 ⟨Nat.le_of_ble_eq_true rfl, Nat.le_of_ble_eq_true rfl⟩) (fun r u H locs hR hw => ?_)
  obtain ⟨hq, rfl⟩ := hR
  obtain rfl := hq.symm
  cases hh_1 : isH p1
  · skip
    refine W.eq (g2 := F0 m 4 ls [.int 0]) rfl ?_
    refine lv_if_ne (tgt := 9) hx hb dX1_open_4 (by decide) (fun c_4 => ?_) (fun c_4 => ?_)
    · skip
      exact absurd c_4 (by decide)
    · skip
      refine lv_iconst (v := (-1)) hx hb dX1_open_7 (by decide) ?_
      exact e_i hx hb hr hlocks hw dX1_open_8 (leafC (by simp only [oc_open, oj_open, hd, lg, lg2, ↓reduceIte, hh_1, Bool.false_eq_true, c_4]))
  · skip
    refine W.eq (g2 := F0 m 4 ls [.int 1]) rfl ?_
    obtain ⟨i, hi, rfl⟩ := isH_of hh_1
    refine lv_if_ne (tgt := 9) hx hb dX1_open_4 (by decide) (fun c_4 => ?_) (fun c_4 => ?_)
    · skip
      refine lv_aload_n hx hb dX1_open_9 rfl (lv_at hl 0 rfl) ?_
      refine lv_iload_n hx hb dX1_open_10 rfl (lv_at hl 1 rfl) ?_
      rcases hf_i : f i with _ | a_i
      · skip
        have h0_i : S 0 i = 0 := (show S 0 i = oN (f i) from hw.col0 (show i < 25 by omega)).trans (by rw [hf_i]; rfl)
        refine k_o hw (va_runV (As := [.int (nI i)]) (rest := []) ⟨hx, hb, hml, hown, hts⟩ (c_X1_holdAt_n l G f wa S M (show i < 24 by omega) hf_i) (cwV 1 hts gX1_open_X1_holdAt rfl rfl rfl (by decide +kernel) ⟨Nat.le_of_ble_eq_true rfl, Nat.le_of_ble_eq_true rfl⟩) (hw.preX _) rfl rfl hl.1 rfl (lv_room (Nat.le_of_ble_eq_true rfl)) dX1_open_11 ⟨Nat.le_of_ble_eq_true rfl, Nat.le_of_ble_eq_true rfl⟩) (fun r u H locs hR hw => ?_)
        obtain ⟨hq, rfl⟩ := hR
        obtain rfl := hq.symm
        refine W.eq (g2 := F0 m 14 ls [.null]) rfl ?_
        refine lv_astore_nN (lv' := [(3, .null), (0, .ref (gx G)), (1, .int (nI i)), (2, .int p2)]) hx hb dX1_open_14 rfl hl (by decide) rfl (fun ls hl => ?_)
        refine lv_aload_nN hx hb dX1_open_15 rfl (lv_at hl 0 rfl) ?_
        refine lv_ifnonnullN hx hb dX1_open_16 ?_
        refine lv_bipush (v := (-2)) hx hb dX1_open_19 (by decide) ?_
        exact e_i hx hb hr hlocks hw dX1_open_21 (leafC (by simp only [oc_open, oj_open, hd, lg, lg2, ↓reduceIte, isH_nI hi, cl24 hi, c_4, h0_i]))
      · skip
        have h0_i : ¬ S 0 i = 0 := by rw [(show S 0 i = oN (f i) from hw.col0 (show i < 25 by omega)), hf_i]; exact oN_s _
        refine k_o hw (va_runV (As := [.int (nI i)]) (rest := []) ⟨hx, hb, hml, hown, hts⟩ (c_X1_holdAt_s l G f wa S M (show i < 24 by omega) hf_i) (cwV 1 hts gX1_open_X1_holdAt rfl rfl rfl (by decide +kernel) ⟨Nat.le_of_ble_eq_true rfl, Nat.le_of_ble_eq_true rfl⟩) (hw.preX _) rfl rfl hl.1 rfl (lv_room (Nat.le_of_ble_eq_true rfl)) dX1_open_11 ⟨Nat.le_of_ble_eq_true rfl, Nat.le_of_ble_eq_true rfl⟩) (fun r u H locs hR hw => ?_)
        obtain ⟨hq, rfl⟩ := hR
        obtain rfl := hq.symm
        refine W.eq (g2 := F0 m 14 ls [.ref a_i]) rfl ?_
        refine lv_astore_n (lv' := [(3, .ref a_i), (0, .ref (gx G)), (1, .int (nI i)), (2, .int p2)]) hx hb dX1_open_14 rfl hl (by decide) rfl (fun ls hl => ?_)
        refine lv_aload_n hx hb dX1_open_15 rfl (lv_at hl 0 rfl) ?_
        refine lv_ifnonnull (tgt := 22) hx hb dX1_open_16 (by decide) ?_
        refine lv_aload_n hx hb dX1_open_22 rfl (lv_at hl 0 rfl) ?_
        refine r_get0 (v := .int (S 4 i)) hx hb hts hin0 hown hw (show i < 25 by omega) hf_i 3 (by decide) lk43 rfl dX1_open_23 ?_
        refine lv_iconst (v := 3) hx hb dX1_open_26 (by decide) ?_
        refine lv_icmp_lt (tgt := 38) hx hb dX1_open_27 (by decide) (fun c_27 => ?_) (fun c_27 => ?_)
        · skip
          refine lv_aload_n hx hb dX1_open_38 rfl (lv_at hl 0 rfl) ?_
          refine r_get0 (v := .int (S 2 i)) hx hb hts hin0 hown hw (show i < 25 by omega) hf_i 1 (by decide) lk46 rfl dX1_open_39 ?_
          refine lv_iload_n hx hb dX1_open_42 rfl (lv_at hl 3 rfl) ?_
          refine lv_icmp_eq (tgt := 64) hx hb dX1_open_43 (by decide) (fun c_43 => ?_) (fun c_43 => ?_)
          · skip
            refine lv_aload_n hx hb dX1_open_64 rfl (lv_at hl 0 rfl) ?_
            refine lv_iconst (v := 1) hx hb dX1_open_65 (by decide) ?_
            refine r_put0 hx hb hts hin0 hown hw (show i < 25 by omega) hf_i 2 3 (by decide) lk49 rfl rfl dX1_open_66 (fun H locs hw => ?_)
            have hw : Wi G (f, wa, sU (sU S 6 i ((S 6 i) + 1)) 3 i 1, M) s H locs := hw
            refine lv_aload_n hx hb dX1_open_69 rfl (lv_at hl 0 rfl) ?_
            refine lv_iconst (v := 0) hx hb dX1_open_70 (by decide) ?_
            refine r_put0 hx hb hts hin0 hown hw (show i < 25 by omega) hf_i 3 4 (by decide) lk43 rfl rfl dX1_open_71 (fun H locs hw => ?_)
            have hw : Wi G (f, wa, sU (sU (sU S 6 i ((S 6 i) + 1)) 3 i 1) 4 i 0, M) s H locs := hw
            refine lv_aload_n hx hb dX1_open_74 rfl (lv_at hl 0 rfl) ?_
            refine lv_iconst (v := 1) hx hb dX1_open_75 (by decide) ?_
            refine lv_iconst (v := 1) hx hb dX1_open_76 (by decide) ?_
            refine k_i hw (va_runV (As := [.int 1, .int 1]) (rest := []) ⟨hx, hb, hml, hown, hts⟩ (c_X0_letGo l G f wa (sU (sU (sU S 6 i ((S 6 i) + 1)) 3 i 1) 4 i 0) M (show i < 25 by omega) hf_i 1 1) (cwV 2 hts gX1_open_X0_letGo rfl rfl rfl (by decide +kernel) ⟨Nat.le_of_ble_eq_true rfl, Nat.le_of_ble_eq_true rfl⟩) (hw.preL (show i < 25 by omega) hf_i _) rfl rfl hl.1 rfl (lv_room (Nat.le_of_ble_eq_true rfl)) dX1_open_77 ⟨Nat.le_of_ble_eq_true rfl, Nat.le_of_ble_eq_true rfl⟩) (fun r u H locs hR hw => ?_)
            obtain ⟨hq, rfl⟩ := hR
            obtain rfl := hq.symm
            exact e_i hx hb hr hlocks hw dX1_open_80 (leafC (by simp only [oc_open, oj_open, hd, lg, lg2, ↓reduceIte, isH_nI hi, cl24 hi, c_4, h0_i, c_27, c_43]))
          · skip
            refine lv_aload_n hx hb dX1_open_46 rfl (lv_at hl 0 rfl) ?_
            refine lv_dup hx hb dX1_open_47 rfl ?_
            refine r_get0 (v := .int (S 4 i)) hx hb hts hin0 hown hw (show i < 25 by omega) hf_i 3 (by decide) lk43 rfl dX1_open_48 ?_
            refine lv_iconst (v := 1) hx hb dX1_open_51 (by decide) ?_
            refine lv_iadd hx hb dX1_open_52 ?_
            refine r_put0 hx hb hts hin0 hown hw (show i < 25 by omega) hf_i 3 4 (by decide) lk43 rfl rfl dX1_open_53 (fun H locs hw => ?_)
            have hw : Wi G (f, wa, sU (sU S 6 i ((S 6 i) + 1)) 4 i ((S 4 i) + 1), M) s H locs := hw
            refine lv_aload_n hx hb dX1_open_56 rfl (lv_at hl 0 rfl) ?_
            refine lv_iconst (v := 4) hx hb dX1_open_57 (by decide) ?_
            refine lv_bipush (v := (-7)) hx hb dX1_open_58 (by decide) ?_
            refine k_i hw (va_runV (As := [.int 4, .int (-7)]) (rest := []) ⟨hx, hb, hml, hown, hts⟩ (c_X0_letGo l G f wa (sU (sU S 6 i ((S 6 i) + 1)) 4 i ((S 4 i) + 1)) M (show i < 25 by omega) hf_i 4 (-7)) (cwV 2 hts gX1_open_X0_letGo rfl rfl rfl (by decide +kernel) ⟨Nat.le_of_ble_eq_true rfl, Nat.le_of_ble_eq_true rfl⟩) (hw.preL (show i < 25 by omega) hf_i _) rfl rfl hl.1 rfl (lv_room (Nat.le_of_ble_eq_true rfl)) dX1_open_60 ⟨Nat.le_of_ble_eq_true rfl, Nat.le_of_ble_eq_true rfl⟩) (fun r u H locs hR hw => ?_)
            obtain ⟨hq, rfl⟩ := hR
            obtain rfl := hq.symm
            exact e_i hx hb hr hlocks hw dX1_open_63 (leafC (by simp only [oc_open, oj_open, hd, lg, lg2, ↓reduceIte, isH_nI hi, cl24 hi, c_4, h0_i, c_27, c_43]))
        · skip
          refine lv_aload_n hx hb dX1_open_30 rfl (lv_at hl 0 rfl) ?_
          refine lv_iconst (v := 2) hx hb dX1_open_31 (by decide) ?_
          refine lv_bipush (v := (-4)) hx hb dX1_open_32 (by decide) ?_
          refine k_i hw (va_runV (As := [.int 2, .int (-4)]) (rest := []) ⟨hx, hb, hml, hown, hts⟩ (c_X0_letGo l G f wa (sU S 6 i ((S 6 i) + 1)) M (show i < 25 by omega) hf_i 2 (-4)) (cwV 2 hts gX1_open_X0_letGo rfl rfl rfl (by decide +kernel) ⟨Nat.le_of_ble_eq_true rfl, Nat.le_of_ble_eq_true rfl⟩) (hw.preL (show i < 25 by omega) hf_i _) rfl rfl hl.1 rfl (lv_room (Nat.le_of_ble_eq_true rfl)) dX1_open_34 ⟨Nat.le_of_ble_eq_true rfl, Nat.le_of_ble_eq_true rfl⟩) (fun r u H locs hR hw => ?_)
          obtain ⟨hq, rfl⟩ := hR
          obtain rfl := hq.symm
          exact e_i hx hb hr hlocks hw dX1_open_37 (leafC (by simp only [oc_open, oj_open, hd, lg, lg2, ↓reduceIte, isH_nI hi, cl24 hi, c_4, h0_i, c_27]))
    · skip
      exact absurd c_4 (by decide)

set_option maxHeartbeats 4000000 in
set_option maxRecDepth 100000 in
theorem c_X1_shut (l : Launch) (G : GT) (f : Nat → Option Nat) (wa : Nat → Nat) (S M : Tb) (p1 : Int32) : Met l yX1_shut wsX1_shut (rk 2) (va_Pc [.ref (gx G), .int p1] (Wo G (f, wa, S, M))) (Qi G (fun r u => r = (oc_shut S p1).1 ∧ ∃ (f' : Nat → Option Nat) (wa' : Nat → Nat), u = (f', wa', (oc_shut S p1).2, M))) 0 0 (gA G) := by
  refine m_head (cc := cX1_shut) (maxL := 3) (ret := (some .int)) (by decide) rfl (Nat.le_of_ble_eq_true rfl) ?_
  intro p e s m below meth c hx hb hml hr hlocks hown hts hw ls hl
  have hown : s.vm.findClass RX1 = some m.cls := hown
  have hl : lv_has ls 3 [(0, .ref (gx G)), (1, .int p1)] := hl
  have hin0 : ∀ w ∈ wsX00, w ∈ wsX1_shut := by decide +kernel
  have lk49 := hts (.fieldLink RX1 49 "LockerWall$Locker" "isOpen" "Z") (by decide +kernel)
  refine lv_iload_n hx hb dX1_shut_0 rfl (lv_at hl 1 rfl) ?_
  refine k_i hw (va_runS (As := [.int p1]) (rest := []) ⟨hx, hb, hml, hown, hts⟩ (c_X1_isHook l G f wa S M p1) (va_cwS 1 hts gX1_shut_X1_isHook rfl rfl rfl (by decide +kernel) ⟨Nat.le_of_ble_eq_true rfl, Nat.le_of_ble_eq_true rfl⟩) (hw.preS _) rfl rfl hl.1 rfl (lv_room (Nat.le_of_ble_eq_true rfl)) dX1_shut_1 ⟨Nat.le_of_ble_eq_true rfl, Nat.le_of_ble_eq_true rfl⟩) (fun r u H locs hR hw => ?_)
  obtain ⟨hq, rfl⟩ := hR
  obtain rfl := hq.symm
  cases hh_1 : isH p1
  · skip
    refine W.eq (g2 := F0 m 4 ls [.int 0]) rfl ?_
    refine lv_if_ne (tgt := 9) hx hb dX1_shut_4 (by decide) (fun c_4 => ?_) (fun c_4 => ?_)
    · skip
      exact absurd c_4 (by decide)
    · skip
      refine lv_iconst (v := (-1)) hx hb dX1_shut_7 (by decide) ?_
      exact e_i hx hb hr hlocks hw dX1_shut_8 (leafC (by simp only [oc_shut, oj_shut, hd, lg, lg2, ↓reduceIte, hh_1, Bool.false_eq_true, c_4]))
  · skip
    refine W.eq (g2 := F0 m 4 ls [.int 1]) rfl ?_
    obtain ⟨i, hi, rfl⟩ := isH_of hh_1
    refine lv_if_ne (tgt := 9) hx hb dX1_shut_4 (by decide) (fun c_4 => ?_) (fun c_4 => ?_)
    · skip
      refine lv_aload_n hx hb dX1_shut_9 rfl (lv_at hl 0 rfl) ?_
      refine lv_iload_n hx hb dX1_shut_10 rfl (lv_at hl 1 rfl) ?_
      rcases hf_i : f i with _ | a_i
      · skip
        have h0_i : S 0 i = 0 := (show S 0 i = oN (f i) from hw.col0 (show i < 25 by omega)).trans (by rw [hf_i]; rfl)
        refine k_o hw (va_runV (As := [.int (nI i)]) (rest := []) ⟨hx, hb, hml, hown, hts⟩ (c_X1_holdAt_n l G f wa S M (show i < 24 by omega) hf_i) (cwV 1 hts gX1_shut_X1_holdAt rfl rfl rfl (by decide +kernel) ⟨Nat.le_of_ble_eq_true rfl, Nat.le_of_ble_eq_true rfl⟩) (hw.preX _) rfl rfl hl.1 rfl (lv_room (Nat.le_of_ble_eq_true rfl)) dX1_shut_11 ⟨Nat.le_of_ble_eq_true rfl, Nat.le_of_ble_eq_true rfl⟩) (fun r u H locs hR hw => ?_)
        obtain ⟨hq, rfl⟩ := hR
        obtain rfl := hq.symm
        refine W.eq (g2 := F0 m 14 ls [.null]) rfl ?_
        refine lv_astore_nN (lv' := [(2, .null), (0, .ref (gx G)), (1, .int (nI i))]) hx hb dX1_shut_14 rfl hl (by decide) rfl (fun ls hl => ?_)
        refine lv_aload_nN hx hb dX1_shut_15 rfl (lv_at hl 0 rfl) ?_
        refine lv_ifnonnullN hx hb dX1_shut_16 ?_
        refine lv_bipush (v := (-2)) hx hb dX1_shut_19 (by decide) ?_
        exact e_i hx hb hr hlocks hw dX1_shut_21 (leafC (by simp only [oc_shut, oj_shut, hd, lg, lg2, ↓reduceIte, isH_nI hi, cl24 hi, c_4, h0_i]))
      · skip
        have h0_i : ¬ S 0 i = 0 := by rw [(show S 0 i = oN (f i) from hw.col0 (show i < 25 by omega)), hf_i]; exact oN_s _
        refine k_o hw (va_runV (As := [.int (nI i)]) (rest := []) ⟨hx, hb, hml, hown, hts⟩ (c_X1_holdAt_s l G f wa S M (show i < 24 by omega) hf_i) (cwV 1 hts gX1_shut_X1_holdAt rfl rfl rfl (by decide +kernel) ⟨Nat.le_of_ble_eq_true rfl, Nat.le_of_ble_eq_true rfl⟩) (hw.preX _) rfl rfl hl.1 rfl (lv_room (Nat.le_of_ble_eq_true rfl)) dX1_shut_11 ⟨Nat.le_of_ble_eq_true rfl, Nat.le_of_ble_eq_true rfl⟩) (fun r u H locs hR hw => ?_)
        obtain ⟨hq, rfl⟩ := hR
        obtain rfl := hq.symm
        refine W.eq (g2 := F0 m 14 ls [.ref a_i]) rfl ?_
        refine lv_astore_n (lv' := [(2, .ref a_i), (0, .ref (gx G)), (1, .int (nI i))]) hx hb dX1_shut_14 rfl hl (by decide) rfl (fun ls hl => ?_)
        refine lv_aload_n hx hb dX1_shut_15 rfl (lv_at hl 0 rfl) ?_
        refine lv_ifnonnull (tgt := 22) hx hb dX1_shut_16 (by decide) ?_
        refine lv_aload_n hx hb dX1_shut_22 rfl (lv_at hl 0 rfl) ?_
        refine r_get0 (v := .int (S 3 i)) hx hb hts hin0 hown hw (show i < 25 by omega) hf_i 2 (by decide) lk49 rfl dX1_shut_23 ?_
        refine lv_if_ne (tgt := 37) hx hb dX1_shut_26 (by decide) (fun c_26 => ?_) (fun c_26 => ?_)
        · skip
          refine lv_aload_n hx hb dX1_shut_37 rfl (lv_at hl 0 rfl) ?_
          refine lv_iconst (v := 0) hx hb dX1_shut_38 (by decide) ?_
          refine r_put0 hx hb hts hin0 hown hw (show i < 25 by omega) hf_i 2 3 (by decide) lk49 rfl rfl dX1_shut_39 (fun H locs hw => ?_)
          have hw : Wi G (f, wa, sU (sU S 6 i ((S 6 i) + 1)) 3 i 0, M) s H locs := hw
          refine lv_aload_n hx hb dX1_shut_42 rfl (lv_at hl 0 rfl) ?_
          refine lv_iconst (v := 1) hx hb dX1_shut_43 (by decide) ?_
          refine lv_iconst (v := 1) hx hb dX1_shut_44 (by decide) ?_
          refine k_i hw (va_runV (As := [.int 1, .int 1]) (rest := []) ⟨hx, hb, hml, hown, hts⟩ (c_X0_letGo l G f wa (sU (sU S 6 i ((S 6 i) + 1)) 3 i 0) M (show i < 25 by omega) hf_i 1 1) (cwV 2 hts gX1_shut_X0_letGo rfl rfl rfl (by decide +kernel) ⟨Nat.le_of_ble_eq_true rfl, Nat.le_of_ble_eq_true rfl⟩) (hw.preL (show i < 25 by omega) hf_i _) rfl rfl hl.1 rfl (lv_room (Nat.le_of_ble_eq_true rfl)) dX1_shut_45 ⟨Nat.le_of_ble_eq_true rfl, Nat.le_of_ble_eq_true rfl⟩) (fun r u H locs hR hw => ?_)
          obtain ⟨hq, rfl⟩ := hR
          obtain rfl := hq.symm
          exact e_i hx hb hr hlocks hw dX1_shut_48 (leafC (by simp only [oc_shut, oj_shut, hd, lg, lg2, ↓reduceIte, isH_nI hi, cl24 hi, c_4, h0_i, c_26]))
        · skip
          refine lv_aload_n hx hb dX1_shut_29 rfl (lv_at hl 0 rfl) ?_
          refine lv_iconst (v := 2) hx hb dX1_shut_30 (by decide) ?_
          refine lv_bipush (v := (-3)) hx hb dX1_shut_31 (by decide) ?_
          refine k_i hw (va_runV (As := [.int 2, .int (-3)]) (rest := []) ⟨hx, hb, hml, hown, hts⟩ (c_X0_letGo l G f wa (sU S 6 i ((S 6 i) + 1)) M (show i < 25 by omega) hf_i 2 (-3)) (cwV 2 hts gX1_shut_X0_letGo rfl rfl rfl (by decide +kernel) ⟨Nat.le_of_ble_eq_true rfl, Nat.le_of_ble_eq_true rfl⟩) (hw.preL (show i < 25 by omega) hf_i _) rfl rfl hl.1 rfl (lv_room (Nat.le_of_ble_eq_true rfl)) dX1_shut_33 ⟨Nat.le_of_ble_eq_true rfl, Nat.le_of_ble_eq_true rfl⟩) (fun r u H locs hR hw => ?_)
          obtain ⟨hq, rfl⟩ := hR
          obtain rfl := hq.symm
          exact e_i hx hb hr hlocks hw dX1_shut_36 (leafC (by simp only [oc_shut, oj_shut, hd, lg, lg2, ↓reduceIte, isH_nI hi, cl24 hi, c_4, h0_i, c_26]))
    · skip
      exact absurd c_4 (by decide)

set_option maxHeartbeats 4000000 in
set_option maxRecDepth 100000 in
theorem c_X1_put (l : Launch) (G : GT) (f : Nat → Option Nat) (wa : Nat → Nat) (S M : Tb) (hI : Inv S) (p1 p2 : Int32) : Met l yX1_put wsX1_put (rk 2) (va_Pc [.ref (gx G), .int p1, .int p2] (Wo G (f, wa, S, M))) (Qi G (fun r u => r = (oc_put S p1 p2).1 ∧ ∃ (f' : Nat → Option Nat) (wa' : Nat → Nat), u = (f', wa', (oc_put S p1 p2).2, M))) 0 0 (gA G) := by
  refine m_head (cc := cX1_put) (maxL := 4) (ret := (some .int)) (by decide) rfl (Nat.le_of_ble_eq_true rfl) ?_
  intro p e s m below meth c hx hb hml hr hlocks hown hts hw ls hl
  have hown : s.vm.findClass RX1 = some m.cls := hown
  have hl : lv_has ls 4 [(0, .ref (gx G)), (1, .int p1), (2, .int p2)] := hl
  have hin0 : ∀ w ∈ wsX00, w ∈ wsX1_put := by decide +kernel
  have lk49 := hts (.fieldLink RX1 49 "LockerWall$Locker" "isOpen" "Z") (by decide +kernel)
  have lk33 := hts (.fieldLink RX1 33 "LockerWall$Locker" "count" "I") (by decide +kernel)
  refine lv_iload_n hx hb dX1_put_0 rfl (lv_at hl 1 rfl) ?_
  refine k_i hw (va_runS (As := [.int p1]) (rest := []) ⟨hx, hb, hml, hown, hts⟩ (c_X1_isHook l G f wa S M p1) (va_cwS 1 hts gX1_put_X1_isHook rfl rfl rfl (by decide +kernel) ⟨Nat.le_of_ble_eq_true rfl, Nat.le_of_ble_eq_true rfl⟩) (hw.preS _) rfl rfl hl.1 rfl (lv_room (Nat.le_of_ble_eq_true rfl)) dX1_put_1 ⟨Nat.le_of_ble_eq_true rfl, Nat.le_of_ble_eq_true rfl⟩) (fun r u H locs hR hw => ?_)
  obtain ⟨hq, rfl⟩ := hR
  obtain rfl := hq.symm
  cases hh_1 : isH p1
  · skip
    refine W.eq (g2 := F0 m 4 ls [.int 0]) rfl ?_
    refine lv_if_eq (tgt := 14) hx hb dX1_put_4 (by decide) (fun c_4 => ?_) (fun c_4 => ?_)
    · skip
      refine lv_iconst (v := (-1)) hx hb dX1_put_14 (by decide) ?_
      exact e_i hx hb hr hlocks hw dX1_put_15 (leafC (by simp only [oc_put, oj_put, hd, lg, lg2, ↓reduceIte, hh_1, Bool.false_eq_true, c_4]))
    · skip
      exact absurd c_4 (by decide)
  · skip
    refine W.eq (g2 := F0 m 4 ls [.int 1]) rfl ?_
    obtain ⟨i, hi, rfl⟩ := isH_of hh_1
    obtain ⟨n_i, h10_i, hn_i⟩ := hI i hi
    refine lv_if_eq (tgt := 14) hx hb dX1_put_4 (by decide) (fun c_4 => ?_) (fun c_4 => ?_)
    · skip
      exact absurd c_4 (by decide)
    · skip
      refine lv_iload_n hx hb dX1_put_7 rfl (lv_at hl 2 rfl) ?_
      refine k_i hw (va_runS (As := [.int p2]) (rest := []) ⟨hx, hb, hml, hown, hts⟩ (c_X1_isWeight l G f wa S M p2) (va_cwS 1 hts gX1_put_X1_isWeight rfl rfl rfl (by decide +kernel) ⟨Nat.le_of_ble_eq_true rfl, Nat.le_of_ble_eq_true rfl⟩) (hw.preS _) rfl rfl hl.1 rfl (lv_room (Nat.le_of_ble_eq_true rfl)) dX1_put_8 ⟨Nat.le_of_ble_eq_true rfl, Nat.le_of_ble_eq_true rfl⟩) (fun r u H locs hR hw => ?_)
      obtain ⟨hq, rfl⟩ := hR
      obtain rfl := hq.symm
      cases hh_8 : isWt p2
      · skip
        refine W.eq (g2 := F0 m 11 ls [.int 0]) rfl ?_
        refine lv_if_ne (tgt := 16) hx hb dX1_put_11 (by decide) (fun c_11 => ?_) (fun c_11 => ?_)
        · skip
          exact absurd c_11 (by decide)
        · skip
          refine lv_iconst (v := (-1)) hx hb dX1_put_14 (by decide) ?_
          exact e_i hx hb hr hlocks hw dX1_put_15 (leafC (by simp only [oc_put, oj_put, hd, lg, lg2, ↓reduceIte, isH_nI hi, cl24 hi, c_4, hh_8, Bool.false_eq_true, c_11]))
      · skip
        refine W.eq (g2 := F0 m 11 ls [.int 1]) rfl ?_
        refine lv_if_ne (tgt := 16) hx hb dX1_put_11 (by decide) (fun c_11 => ?_) (fun c_11 => ?_)
        · skip
          refine lv_aload_n hx hb dX1_put_16 rfl (lv_at hl 0 rfl) ?_
          refine lv_iload_n hx hb dX1_put_17 rfl (lv_at hl 1 rfl) ?_
          rcases hf_i : f i with _ | a_i
          · skip
            have h0_i : S 0 i = 0 := (show S 0 i = oN (f i) from hw.col0 (show i < 25 by omega)).trans (by rw [hf_i]; rfl)
            refine k_o hw (va_runV (As := [.int (nI i)]) (rest := []) ⟨hx, hb, hml, hown, hts⟩ (c_X1_holdAt_n l G f wa S M (show i < 24 by omega) hf_i) (cwV 1 hts gX1_put_X1_holdAt rfl rfl rfl (by decide +kernel) ⟨Nat.le_of_ble_eq_true rfl, Nat.le_of_ble_eq_true rfl⟩) (hw.preX _) rfl rfl hl.1 rfl (lv_room (Nat.le_of_ble_eq_true rfl)) dX1_put_18 ⟨Nat.le_of_ble_eq_true rfl, Nat.le_of_ble_eq_true rfl⟩) (fun r u H locs hR hw => ?_)
            obtain ⟨hq, rfl⟩ := hR
            obtain rfl := hq.symm
            refine W.eq (g2 := F0 m 21 ls [.null]) rfl ?_
            refine lv_astore_nN (lv' := [(3, .null), (0, .ref (gx G)), (1, .int (nI i)), (2, .int p2)]) hx hb dX1_put_21 rfl hl (by decide) rfl (fun ls hl => ?_)
            refine lv_aload_nN hx hb dX1_put_22 rfl (lv_at hl 0 rfl) ?_
            refine lv_ifnonnullN hx hb dX1_put_23 ?_
            refine lv_bipush (v := (-2)) hx hb dX1_put_26 (by decide) ?_
            exact e_i hx hb hr hlocks hw dX1_put_28 (leafC (by simp only [oc_put, oj_put, hd, lg, lg2, ↓reduceIte, isH_nI hi, cl24 hi, c_4, hh_8, c_11, h0_i]))
          · skip
            have h0_i : ¬ S 0 i = 0 := by rw [(show S 0 i = oN (f i) from hw.col0 (show i < 25 by omega)), hf_i]; exact oN_s _
            refine k_o hw (va_runV (As := [.int (nI i)]) (rest := []) ⟨hx, hb, hml, hown, hts⟩ (c_X1_holdAt_s l G f wa S M (show i < 24 by omega) hf_i) (cwV 1 hts gX1_put_X1_holdAt rfl rfl rfl (by decide +kernel) ⟨Nat.le_of_ble_eq_true rfl, Nat.le_of_ble_eq_true rfl⟩) (hw.preX _) rfl rfl hl.1 rfl (lv_room (Nat.le_of_ble_eq_true rfl)) dX1_put_18 ⟨Nat.le_of_ble_eq_true rfl, Nat.le_of_ble_eq_true rfl⟩) (fun r u H locs hR hw => ?_)
            obtain ⟨hq, rfl⟩ := hR
            obtain rfl := hq.symm
            refine W.eq (g2 := F0 m 21 ls [.ref a_i]) rfl ?_
            refine lv_astore_n (lv' := [(3, .ref a_i), (0, .ref (gx G)), (1, .int (nI i)), (2, .int p2)]) hx hb dX1_put_21 rfl hl (by decide) rfl (fun ls hl => ?_)
            refine lv_aload_n hx hb dX1_put_22 rfl (lv_at hl 0 rfl) ?_
            refine lv_ifnonnull (tgt := 29) hx hb dX1_put_23 (by decide) ?_
            refine lv_aload_n hx hb dX1_put_29 rfl (lv_at hl 0 rfl) ?_
            refine r_get0 (v := .int (S 3 i)) hx hb hts hin0 hown hw (show i < 25 by omega) hf_i 2 (by decide) lk49 rfl dX1_put_30 ?_
            refine lv_if_ne (tgt := 44) hx hb dX1_put_33 (by decide) (fun c_33 => ?_) (fun c_33 => ?_)
            · skip
              refine lv_aload_n hx hb dX1_put_44 rfl (lv_at hl 0 rfl) ?_
              refine lv_iload_n hx hb dX1_put_45 rfl (lv_at hl 3 rfl) ?_
              refine k_i hw (va_runV (As := [.int p2]) (rest := []) ⟨hx, hb, hml, hown, hts⟩ (c_X0_accept l G f wa (sU S 6 i ((S 6 i) + 1)) M (show i < 25 by omega) hf_i hn_i h10_i p2) (cwV 1 hts gX1_put_X0_accept rfl rfl rfl (by decide +kernel) ⟨Nat.le_of_ble_eq_true rfl, Nat.le_of_ble_eq_true rfl⟩) (hw.preL (show i < 25 by omega) hf_i _) rfl rfl hl.1 rfl (lv_room (Nat.le_of_ble_eq_true rfl)) dX1_put_46 ⟨Nat.le_of_ble_eq_true rfl, Nat.le_of_ble_eq_true rfl⟩) (fun r u H locs hR hw => ?_)
              obtain ⟨hq, rfl⟩ := hR
              obtain rfl := hq.symm
              cases hh_46 : okA (sU S 6 i ((S 6 i) + 1)) i p2
              · skip
                refine W.eq (g2 := F0 m 49 ls [.int 0]) rfl ?_
                rw [hh_46] at hw
                have hw : Wi G (f, wa, sU S 6 i ((S 6 i) + 1), M) s H locs := hw
                refine lv_if_ne (tgt := 60) hx hb dX1_put_49 (by decide) (fun c_49 => ?_) (fun c_49 => ?_)
                · skip
                  exact absurd c_49 (by decide)
                · skip
                  refine lv_aload_n hx hb dX1_put_52 rfl (lv_at hl 0 rfl) ?_
                  refine lv_iconst (v := 4) hx hb dX1_put_53 (by decide) ?_
                  refine lv_bipush (v := (-5)) hx hb dX1_put_54 (by decide) ?_
                  refine k_i hw (va_runV (As := [.int 4, .int (-5)]) (rest := []) ⟨hx, hb, hml, hown, hts⟩ (c_X0_letGo l G f wa (sU S 6 i ((S 6 i) + 1)) M (show i < 25 by omega) hf_i 4 (-5)) (cwV 2 hts gX1_put_X0_letGo rfl rfl rfl (by decide +kernel) ⟨Nat.le_of_ble_eq_true rfl, Nat.le_of_ble_eq_true rfl⟩) (hw.preL (show i < 25 by omega) hf_i _) rfl rfl hl.1 rfl (lv_room (Nat.le_of_ble_eq_true rfl)) dX1_put_56 ⟨Nat.le_of_ble_eq_true rfl, Nat.le_of_ble_eq_true rfl⟩) (fun r u H locs hR hw => ?_)
                  obtain ⟨hq, rfl⟩ := hR
                  obtain rfl := hq.symm
                  exact e_i hx hb hr hlocks hw dX1_put_59 (leafC (by simp only [oc_put, oj_put, hd, lg, lg2, ↓reduceIte, isH_nI hi, cl24 hi, c_4, hh_8, c_11, h0_i, c_33, hh_46, Bool.false_eq_true, c_49]))
              · skip
                refine W.eq (g2 := F0 m 49 ls [.int 1]) rfl ?_
                rw [hh_46] at hw
                have hw : Wi G (f, wa, acS (sU S 6 i ((S 6 i) + 1)) i p2, M) s H locs := hw
                refine lv_if_ne (tgt := 60) hx hb dX1_put_49 (by decide) (fun c_49 => ?_) (fun c_49 => ?_)
                · skip
                  refine lv_aload_n hx hb dX1_put_60 rfl (lv_at hl 0 rfl) ?_
                  refine lv_iconst (v := 1) hx hb dX1_put_61 (by decide) ?_
                  refine lv_aload_n hx hb dX1_put_62 rfl (lv_at hl 0 rfl) ?_
                  refine r_get0 (v := .int (acS (sU S 6 i ((S 6 i) + 1)) i p2 5 i)) hx hb hts hin0 hown hw (show i < 25 by omega) hf_i 5 (by decide) lk33 rfl dX1_put_63 ?_
                  refine k_i hw (va_runV (As := [.int 1, .int (acS (sU S 6 i ((S 6 i) + 1)) i p2 5 i)]) (rest := []) ⟨hx, hb, hml, hown, hts⟩ (c_X0_letGo l G f wa (acS (sU S 6 i ((S 6 i) + 1)) i p2) M (show i < 25 by omega) hf_i 1 (acS (sU S 6 i ((S 6 i) + 1)) i p2 5 i)) (cwV 2 hts gX1_put_X0_letGo rfl rfl rfl (by decide +kernel) ⟨Nat.le_of_ble_eq_true rfl, Nat.le_of_ble_eq_true rfl⟩) (hw.preL (show i < 25 by omega) hf_i _) rfl rfl hl.1 rfl (lv_room (Nat.le_of_ble_eq_true rfl)) dX1_put_66 ⟨Nat.le_of_ble_eq_true rfl, Nat.le_of_ble_eq_true rfl⟩) (fun r u H locs hR hw => ?_)
                  obtain ⟨hq, rfl⟩ := hR
                  obtain rfl := hq.symm
                  exact e_i hx hb hr hlocks hw dX1_put_69 (leafC (by simp only [oc_put, oj_put, hd, lg, lg2, ↓reduceIte, isH_nI hi, cl24 hi, c_4, hh_8, c_11, h0_i, c_33, hh_46, c_49]))
                · skip
                  exact absurd c_49 (by decide)
            · skip
              refine lv_aload_n hx hb dX1_put_36 rfl (lv_at hl 0 rfl) ?_
              refine lv_iconst (v := 2) hx hb dX1_put_37 (by decide) ?_
              refine lv_bipush (v := (-3)) hx hb dX1_put_38 (by decide) ?_
              refine k_i hw (va_runV (As := [.int 2, .int (-3)]) (rest := []) ⟨hx, hb, hml, hown, hts⟩ (c_X0_letGo l G f wa (sU S 6 i ((S 6 i) + 1)) M (show i < 25 by omega) hf_i 2 (-3)) (cwV 2 hts gX1_put_X0_letGo rfl rfl rfl (by decide +kernel) ⟨Nat.le_of_ble_eq_true rfl, Nat.le_of_ble_eq_true rfl⟩) (hw.preL (show i < 25 by omega) hf_i _) rfl rfl hl.1 rfl (lv_room (Nat.le_of_ble_eq_true rfl)) dX1_put_40 ⟨Nat.le_of_ble_eq_true rfl, Nat.le_of_ble_eq_true rfl⟩) (fun r u H locs hR hw => ?_)
              obtain ⟨hq, rfl⟩ := hR
              obtain rfl := hq.symm
              exact e_i hx hb hr hlocks hw dX1_put_43 (leafC (by simp only [oc_put, oj_put, hd, lg, lg2, ↓reduceIte, isH_nI hi, cl24 hi, c_4, hh_8, c_11, h0_i, c_33]))
        · skip
          exact absurd c_11 (by decide)

set_option maxHeartbeats 4000000 in
set_option maxRecDepth 100000 in
theorem c_X1_take (l : Launch) (G : GT) (f : Nat → Option Nat) (wa : Nat → Nat) (S M : Tb) (hI : Inv S) (p1 : Int32) : Met l yX1_take wsX1_take (rk 2) (va_Pc [.ref (gx G), .int p1] (Wo G (f, wa, S, M))) (Qi G (fun r u => r = (oc_take S p1).1 ∧ ∃ (f' : Nat → Option Nat) (wa' : Nat → Nat), u = (f', wa', (oc_take S p1).2, M))) 0 0 (gA G) := by
  refine m_head (cc := cX1_take) (maxL := 3) (ret := (some .int)) (by decide) rfl (Nat.le_of_ble_eq_true rfl) ?_
  intro p e s m below meth c hx hb hml hr hlocks hown hts hw ls hl
  have hown : s.vm.findClass RX1 = some m.cls := hown
  have hl : lv_has ls 3 [(0, .ref (gx G)), (1, .int p1)] := hl
  have hin0 : ∀ w ∈ wsX00, w ∈ wsX1_take := by decide +kernel
  have lk49 := hts (.fieldLink RX1 49 "LockerWall$Locker" "isOpen" "Z") (by decide +kernel)
  have lk33 := hts (.fieldLink RX1 33 "LockerWall$Locker" "count" "I") (by decide +kernel)
  refine lv_iload_n hx hb dX1_take_0 rfl (lv_at hl 1 rfl) ?_
  refine k_i hw (va_runS (As := [.int p1]) (rest := []) ⟨hx, hb, hml, hown, hts⟩ (c_X1_isHook l G f wa S M p1) (va_cwS 1 hts gX1_take_X1_isHook rfl rfl rfl (by decide +kernel) ⟨Nat.le_of_ble_eq_true rfl, Nat.le_of_ble_eq_true rfl⟩) (hw.preS _) rfl rfl hl.1 rfl (lv_room (Nat.le_of_ble_eq_true rfl)) dX1_take_1 ⟨Nat.le_of_ble_eq_true rfl, Nat.le_of_ble_eq_true rfl⟩) (fun r u H locs hR hw => ?_)
  obtain ⟨hq, rfl⟩ := hR
  obtain rfl := hq.symm
  cases hh_1 : isH p1
  · skip
    refine W.eq (g2 := F0 m 4 ls [.int 0]) rfl ?_
    refine lv_if_ne (tgt := 9) hx hb dX1_take_4 (by decide) (fun c_4 => ?_) (fun c_4 => ?_)
    · skip
      exact absurd c_4 (by decide)
    · skip
      refine lv_iconst (v := (-1)) hx hb dX1_take_7 (by decide) ?_
      exact e_i hx hb hr hlocks hw dX1_take_8 (leafC (by simp only [oc_take, oj_take, hd, lg, lg2, ↓reduceIte, hh_1, Bool.false_eq_true, c_4]))
  · skip
    refine W.eq (g2 := F0 m 4 ls [.int 1]) rfl ?_
    obtain ⟨i, hi, rfl⟩ := isH_of hh_1
    obtain ⟨n_i, h10_i, hn_i⟩ := hI i hi
    refine lv_if_ne (tgt := 9) hx hb dX1_take_4 (by decide) (fun c_4 => ?_) (fun c_4 => ?_)
    · skip
      refine lv_aload_n hx hb dX1_take_9 rfl (lv_at hl 0 rfl) ?_
      refine lv_iload_n hx hb dX1_take_10 rfl (lv_at hl 1 rfl) ?_
      rcases hf_i : f i with _ | a_i
      · skip
        have h0_i : S 0 i = 0 := (show S 0 i = oN (f i) from hw.col0 (show i < 25 by omega)).trans (by rw [hf_i]; rfl)
        refine k_o hw (va_runV (As := [.int (nI i)]) (rest := []) ⟨hx, hb, hml, hown, hts⟩ (c_X1_holdAt_n l G f wa S M (show i < 24 by omega) hf_i) (cwV 1 hts gX1_take_X1_holdAt rfl rfl rfl (by decide +kernel) ⟨Nat.le_of_ble_eq_true rfl, Nat.le_of_ble_eq_true rfl⟩) (hw.preX _) rfl rfl hl.1 rfl (lv_room (Nat.le_of_ble_eq_true rfl)) dX1_take_11 ⟨Nat.le_of_ble_eq_true rfl, Nat.le_of_ble_eq_true rfl⟩) (fun r u H locs hR hw => ?_)
        obtain ⟨hq, rfl⟩ := hR
        obtain rfl := hq.symm
        refine W.eq (g2 := F0 m 14 ls [.null]) rfl ?_
        refine lv_astore_nN (lv' := [(2, .null), (0, .ref (gx G)), (1, .int (nI i))]) hx hb dX1_take_14 rfl hl (by decide) rfl (fun ls hl => ?_)
        refine lv_aload_nN hx hb dX1_take_15 rfl (lv_at hl 0 rfl) ?_
        refine lv_ifnonnullN hx hb dX1_take_16 ?_
        refine lv_bipush (v := (-2)) hx hb dX1_take_19 (by decide) ?_
        exact e_i hx hb hr hlocks hw dX1_take_21 (leafC (by simp only [oc_take, oj_take, hd, lg, lg2, ↓reduceIte, isH_nI hi, cl24 hi, c_4, h0_i]))
      · skip
        have h0_i : ¬ S 0 i = 0 := by rw [(show S 0 i = oN (f i) from hw.col0 (show i < 25 by omega)), hf_i]; exact oN_s _
        refine k_o hw (va_runV (As := [.int (nI i)]) (rest := []) ⟨hx, hb, hml, hown, hts⟩ (c_X1_holdAt_s l G f wa S M (show i < 24 by omega) hf_i) (cwV 1 hts gX1_take_X1_holdAt rfl rfl rfl (by decide +kernel) ⟨Nat.le_of_ble_eq_true rfl, Nat.le_of_ble_eq_true rfl⟩) (hw.preX _) rfl rfl hl.1 rfl (lv_room (Nat.le_of_ble_eq_true rfl)) dX1_take_11 ⟨Nat.le_of_ble_eq_true rfl, Nat.le_of_ble_eq_true rfl⟩) (fun r u H locs hR hw => ?_)
        obtain ⟨hq, rfl⟩ := hR
        obtain rfl := hq.symm
        refine W.eq (g2 := F0 m 14 ls [.ref a_i]) rfl ?_
        refine lv_astore_n (lv' := [(2, .ref a_i), (0, .ref (gx G)), (1, .int (nI i))]) hx hb dX1_take_14 rfl hl (by decide) rfl (fun ls hl => ?_)
        refine lv_aload_n hx hb dX1_take_15 rfl (lv_at hl 0 rfl) ?_
        refine lv_ifnonnull (tgt := 22) hx hb dX1_take_16 (by decide) ?_
        refine lv_aload_n hx hb dX1_take_22 rfl (lv_at hl 0 rfl) ?_
        refine r_get0 (v := .int (S 3 i)) hx hb hts hin0 hown hw (show i < 25 by omega) hf_i 2 (by decide) lk49 rfl dX1_take_23 ?_
        refine lv_if_ne (tgt := 37) hx hb dX1_take_26 (by decide) (fun c_26 => ?_) (fun c_26 => ?_)
        · skip
          refine lv_aload_n hx hb dX1_take_37 rfl (lv_at hl 0 rfl) ?_
          refine r_get0 (v := .int (S 5 i)) hx hb hts hin0 hown hw (show i < 25 by omega) hf_i 5 (by decide) lk33 rfl dX1_take_38 ?_
          refine lv_if_ne (tgt := 52) hx hb dX1_take_41 (by decide) (fun c_41 => ?_) (fun c_41 => ?_)
          · skip
            obtain ⟨q_i, hq_i, hs_i⟩ := n_succ hn_i h10_i c_41
            refine lv_aload_n hx hb dX1_take_52 rfl (lv_at hl 0 rfl) ?_
            refine lv_iconst (v := 1) hx hb dX1_take_53 (by decide) ?_
            refine lv_aload_n hx hb dX1_take_54 rfl (lv_at hl 0 rfl) ?_
            refine k_i hw (va_runV (As := []) (rest := [.int 1, .ref a_i]) ⟨hx, hb, hml, hown, hts⟩ (c_X0_removeLast l G f wa (sU S 6 i ((S 6 i) + 1)) M (show i < 25 by omega) hf_i hs_i hq_i) (cwV 0 hts gX1_take_X0_removeLast rfl rfl rfl (by decide +kernel) ⟨Nat.le_of_ble_eq_true rfl, Nat.le_of_ble_eq_true rfl⟩) (hw.preL (show i < 25 by omega) hf_i _) rfl rfl hl.1 rfl (lv_room (Nat.le_of_ble_eq_true rfl)) dX1_take_55 ⟨Nat.le_of_ble_eq_true rfl, Nat.le_of_ble_eq_true rfl⟩) (fun r u H locs hR hw => ?_)
            obtain ⟨hq, rfl⟩ := hR
            obtain rfl := hq.symm
            refine k_i hw (va_runV (As := [.int 1, .int (rmV (sU S 6 i ((S 6 i) + 1)) i)]) (rest := []) ⟨hx, hb, hml, hown, hts⟩ (c_X0_letGo l G f wa (rmS (sU S 6 i ((S 6 i) + 1)) i) M (show i < 25 by omega) hf_i 1 (rmV (sU S 6 i ((S 6 i) + 1)) i)) (cwV 2 hts gX1_take_X0_letGo rfl rfl rfl (by decide +kernel) ⟨Nat.le_of_ble_eq_true rfl, Nat.le_of_ble_eq_true rfl⟩) (hw.preL (show i < 25 by omega) hf_i _) rfl rfl hl.1 rfl (lv_room (Nat.le_of_ble_eq_true rfl)) dX1_take_58 ⟨Nat.le_of_ble_eq_true rfl, Nat.le_of_ble_eq_true rfl⟩) (fun r u H locs hR hw => ?_)
            obtain ⟨hq, rfl⟩ := hR
            obtain rfl := hq.symm
            exact e_i hx hb hr hlocks hw dX1_take_61 (leafC (by simp only [oc_take, oj_take, hd, lg, lg2, ↓reduceIte, isH_nI hi, cl24 hi, c_4, h0_i, c_26, c_41]))
          · skip
            refine lv_aload_n hx hb dX1_take_44 rfl (lv_at hl 0 rfl) ?_
            refine lv_iconst (v := 4) hx hb dX1_take_45 (by decide) ?_
            refine lv_bipush (v := (-6)) hx hb dX1_take_46 (by decide) ?_
            refine k_i hw (va_runV (As := [.int 4, .int (-6)]) (rest := []) ⟨hx, hb, hml, hown, hts⟩ (c_X0_letGo l G f wa (sU S 6 i ((S 6 i) + 1)) M (show i < 25 by omega) hf_i 4 (-6)) (cwV 2 hts gX1_take_X0_letGo rfl rfl rfl (by decide +kernel) ⟨Nat.le_of_ble_eq_true rfl, Nat.le_of_ble_eq_true rfl⟩) (hw.preL (show i < 25 by omega) hf_i _) rfl rfl hl.1 rfl (lv_room (Nat.le_of_ble_eq_true rfl)) dX1_take_48 ⟨Nat.le_of_ble_eq_true rfl, Nat.le_of_ble_eq_true rfl⟩) (fun r u H locs hR hw => ?_)
            obtain ⟨hq, rfl⟩ := hR
            obtain rfl := hq.symm
            exact e_i hx hb hr hlocks hw dX1_take_51 (leafC (by simp only [oc_take, oj_take, hd, lg, lg2, ↓reduceIte, isH_nI hi, cl24 hi, c_4, h0_i, c_26, c_41]))
        · skip
          refine lv_aload_n hx hb dX1_take_29 rfl (lv_at hl 0 rfl) ?_
          refine lv_iconst (v := 2) hx hb dX1_take_30 (by decide) ?_
          refine lv_bipush (v := (-3)) hx hb dX1_take_31 (by decide) ?_
          refine k_i hw (va_runV (As := [.int 2, .int (-3)]) (rest := []) ⟨hx, hb, hml, hown, hts⟩ (c_X0_letGo l G f wa (sU S 6 i ((S 6 i) + 1)) M (show i < 25 by omega) hf_i 2 (-3)) (cwV 2 hts gX1_take_X0_letGo rfl rfl rfl (by decide +kernel) ⟨Nat.le_of_ble_eq_true rfl, Nat.le_of_ble_eq_true rfl⟩) (hw.preL (show i < 25 by omega) hf_i _) rfl rfl hl.1 rfl (lv_room (Nat.le_of_ble_eq_true rfl)) dX1_take_33 ⟨Nat.le_of_ble_eq_true rfl, Nat.le_of_ble_eq_true rfl⟩) (fun r u H locs hR hw => ?_)
          obtain ⟨hq, rfl⟩ := hR
          obtain rfl := hq.symm
          exact e_i hx hb hr hlocks hw dX1_take_36 (leafC (by simp only [oc_take, oj_take, hd, lg, lg2, ↓reduceIte, isH_nI hi, cl24 hi, c_4, h0_i, c_26]))
    · skip
      exact absurd c_4 (by decide)

set_option maxHeartbeats 4000000 in
set_option maxRecDepth 100000 in
theorem c_X1_letGoTwo (l : Launch) (G : GT) (f : Nat → Option Nat) (wa : Nat → Nat) (S M : Tb) {i a j b : Nat} (hi : i < 25) (hf : f i = some a) (hj : j < 25) (hg : f j = some b) (p1 p2 : Int32) : Met l yX1_letGoTwo wsX1_letGoTwo (rk 1) (va_Pc [.ref a, .ref b, .int p1, .int p2] (Wo G (f, wa, S, M))) (Qi G (fun r u => r = p2 ∧ u = (f, wa, lg2 S i j p1, M))) 0 0 (gA G) := by
  refine m_head (cc := cX1_letGoTwo) (maxL := 4) (ret := (some .int)) (by decide) rfl (Nat.le_of_ble_eq_true rfl) ?_
  intro p e s m below meth c hx hb hml hr hlocks hown hts hw ls hl
  have hown : s.vm.findClass RX1 = some m.cls := hown
  have hl : lv_has ls 4 [(0, .ref a), (1, .ref b), (2, .int p1), (3, .int p2)] := hl
  refine lv_aload_n hx hb dX1_letGoTwo_0 rfl (lv_at hl 1 rfl) ?_
  refine lv_iload_n hx hb dX1_letGoTwo_1 rfl (lv_at hl 2 rfl) ?_
  refine lv_iload_n hx hb dX1_letGoTwo_2 rfl (lv_at hl 3 rfl) ?_
  refine k_i hw (va_runV (As := [.int p1, .int p2]) (rest := []) ⟨hx, hb, hml, hown, hts⟩ (c_X0_letGo l G f wa S M hj hg p1 p2) (cwV 2 hts gX1_letGoTwo_X0_letGo rfl rfl rfl (by decide +kernel) ⟨Nat.le_of_ble_eq_true rfl, Nat.le_of_ble_eq_true rfl⟩) (hw.preL hj hg _) rfl rfl hl.1 rfl (lv_room (Nat.le_of_ble_eq_true rfl)) dX1_letGoTwo_3 ⟨Nat.le_of_ble_eq_true rfl, Nat.le_of_ble_eq_true rfl⟩) (fun r u H locs hR hw => ?_)
  obtain ⟨hq, rfl⟩ := hR
  obtain rfl := hq.symm
  refine lv_pop hx hb dX1_letGoTwo_6 rfl ?_
  refine lv_aload_n hx hb dX1_letGoTwo_7 rfl (lv_at hl 0 rfl) ?_
  refine lv_iload_n hx hb dX1_letGoTwo_8 rfl (lv_at hl 2 rfl) ?_
  refine lv_iload_n hx hb dX1_letGoTwo_9 rfl (lv_at hl 3 rfl) ?_
  refine k_i hw (va_runV (As := [.int p1, .int p2]) (rest := []) ⟨hx, hb, hml, hown, hts⟩ (c_X0_letGo l G f wa (sU S 7 j p1) M hi hf p1 p2) (cwV 2 hts gX1_letGoTwo_X0_letGo rfl rfl rfl (by decide +kernel) ⟨Nat.le_of_ble_eq_true rfl, Nat.le_of_ble_eq_true rfl⟩) (hw.preL hi hf _) rfl rfl hl.1 rfl (lv_room (Nat.le_of_ble_eq_true rfl)) dX1_letGoTwo_10 ⟨Nat.le_of_ble_eq_true rfl, Nat.le_of_ble_eq_true rfl⟩) (fun r u H locs hR hw => ?_)
  obtain ⟨hq, rfl⟩ := hR
  obtain rfl := hq.symm
  exact e_i hx hb hr hlocks hw dX1_letGoTwo_13 ⟨rfl, rfl⟩
