theorem m1 (x : Int32) : x + Int32.ofInt (-1) = x - 1 := by rw [Int32.sub_eq_add_neg]; rfl
theorem n1_0 {x : Int32} (h : ¬ x < 1) : ¬ x < 0 := by
  rw [Int32.lt_iff_toInt_lt] at h ⊢
  have h1 : (1 : Int32).toInt = 1 := by decide
  have h0 : (0 : Int32).toInt = 0 := by decide
  omega
theorem leafL {f : Nat → Option Nat} {wa : Nat → Nat} {M S' : Tb} {r : Int64} {o : Int64 × Tb} (h : o = (r, S')) : r = o.1 ∧ ∃ (f' : Nat → Option Nat) (wa' : Nat → Nat), ((f, wa, S', M) : WT) = (f', wa', o.2, M) := by
  subst h
  exact ⟨rfl, _, _, rfl⟩
theorem of_hold_le (i : Nat) : ∀ (d k : Nat) (S : Tb), (of_hold i d k S).1 ≤ k + d
  | 0, k, S => Nat.le_refl _
  | d + 1, k, S => by
    unfold of_hold
    split
    · exact Nat.le_add_right _ _
    · exact Nat.le_trans (of_hold_le i d (k + 1) _) (by omega)
theorem Inv.hold {i : Nat} : ∀ {S : Tb} (_ : Inv S) (d k : Nat), Inv (of_hold i d k S).2
  | _, h, 0, _ => h
  | S, h, d + 1, k => by
    unfold of_hold
    split
    · exact h
    · exact Inv.hold (show Inv (hd S ((i + k) % 24)) from h) d (k + 1)
set_option maxHeartbeats 800000 in
set_option maxRecDepth 100000 in
theorem c_X1_find (l : Launch) (G : GT) (f : Nat → Option Nat) (wa : Nat → Nat) (S M : Tb) (hI : Inv S) (p1 : Int32) : Met l yX1_find wsX1_find (rk 2) (va_Pc [.ref (gx G), .int p1] (Wo G (f, wa, S, M))) (Qi G (fun r u => r = (oc_find S p1).1 ∧ ∃ (f' : Nat → Option Nat) (wa' : Nat → Nat), u = (f', wa', (oc_find S p1).2, M))) 0 0 (gA G) := by
  refine m_head (cc := cX1_find) (maxL := 4) (ret := (some .int)) (by decide) rfl (Nat.le_of_ble_eq_true rfl) ?_
  intro p e s m below meth c hx hb hml hr hlocks hown hts hw ls hl
  have hown : s.vm.findClass RX1 = some m.cls := hown
  have hl : lv_has ls 4 [(0, .ref (gx G)), (1, .int p1)] := hl
  have hin0 : ∀ w ∈ wsX00, w ∈ wsX1_find := by decide +kernel
  have lk49 := hts (.fieldLink RX1 49 "LockerWall$Locker" "isOpen" "Z") (by decide +kernel)
  refine lv_iload_n hx hb dX1_find_0 rfl (lv_at hl 1 rfl) ?_
  refine k_i hw (va_runS (As := [.int p1]) (rest := []) ⟨hx, hb, hml, hown, hts⟩ (c_X1_isWeight l G f wa S M p1) (va_cwS 1 hts gX1_find_X1_isWeight rfl rfl rfl (by decide +kernel) ⟨Nat.le_of_ble_eq_true rfl, Nat.le_of_ble_eq_true rfl⟩) (hw.preS _) rfl rfl hl.1 rfl (lv_room (Nat.le_of_ble_eq_true rfl)) dX1_find_1 ⟨Nat.le_of_ble_eq_true rfl, Nat.le_of_ble_eq_true rfl⟩) (fun r u H locs hR hw => ?_)
  obtain ⟨hq, rfl⟩ := hR
  obtain rfl := hq.symm
  cases hh_1 : isWt p1
  · skip
    refine W.eq (g2 := F0 m 4 ls [.int 0]) rfl ?_
    refine lv_if_ne (tgt := 9) hx hb dX1_find_4 (by decide) (fun c_4 => ?_) (fun c_4 => ?_)
    · skip
      exact absurd c_4 (by decide)
    · skip
      refine lv_iconst (v := (-1)) hx hb dX1_find_7 (by decide) ?_
      exact e_i hx hb hr hlocks hw dX1_find_8 (leafC (by simp only [oc_find, hd, lg, lg2, ↓reduceIte, hh_1, Bool.false_eq_true, c_4]))
  · skip
    refine W.eq (g2 := F0 m 4 ls [.int 1]) rfl ?_
    refine lv_if_ne (tgt := 9) hx hb dX1_find_4 (by decide) (fun c_4 => ?_) (fun c_4 => ?_)
    · skip
      refine lv_iconst (v := 0) hx hb dX1_find_9 (by decide) ?_
      refine lv_istore_n (lv' := [(2, .int 0), (0, .ref (gx G)), (1, .int p1)]) hx hb dX1_find_10 rfl hl (by decide) rfl (fun ls hl => ?_)
      have loop : ∀ (d h : Nat) (T : Tb) (H : Heap) (locs : List Loc) (ls : Array Slot), (h + d = 24 ∧ Inv T ∧ oc_find S p1 = of_find p1 d h T) → Wi G (f, wa, T, M) s H locs → lv_has ls 4 [(2, .int (nI h)), (0, .ref (gx G)), (1, .int p1)] → W p l e (headSpec wsX1_find (rk 2)).room s m [.ref (gx G), .int p1].toArray below meth c H locs 0 0 (MQ below (Qi G (fun r u => r = (oc_find S p1).1 ∧ ∃ (f' : Nat → Option Nat) (wa' : Nat → Nat), u = (f', wa', (oc_find S p1).2, M))) [.ref (gx G), .int p1].toArray s 0 0 (gA G)) (F0 m 11 ls []) := by
        intro d
        induction d with
        | zero =>
          intro h T H locs ls hk hw hl
          obtain ⟨hd24, hIT, hop⟩ := hk
          refine lv_iload_n hx hb dX1_find_11 rfl (lv_at hl 0 rfl) ?_
          refine lv_bipush (v := 24) hx hb dX1_find_12 (by decide) ?_
          refine lv_icmp_ge (tgt := 77) hx hb dX1_find_14 (by decide) (fun c_14 => ?_) (fun c_14 => ?_)
          · skip
            refine lv_bipush (v := (-8)) hx hb dX1_find_77 (by decide) ?_
            exact e_i hx hb hr hlocks hw dX1_find_79 (leafC (hop.trans (by simp only [of_find, hd, lg, lg2, ↓reduceIte, c_14])))
          · skip
            exact absurd (show (24 : Int32) ≤ nI h from nI_le (a := 24) (by omega) (by omega)) c_14
        | succ d ih =>
          intro h T H locs ls hk hw hl
          obtain ⟨hd24, hIT, hop⟩ := hk
          obtain ⟨n_h, h10_h, hn_h⟩ := hIT h (by omega)
          refine lv_iload_n hx hb dX1_find_11 rfl (lv_at hl 0 rfl) ?_
          refine lv_bipush (v := 24) hx hb dX1_find_12 (by decide) ?_
          refine lv_icmp_ge (tgt := 77) hx hb dX1_find_14 (by decide) (fun c_14 => ?_) (fun c_14 => ?_)
          · skip
            exact absurd c_14 (nI_ge (b := 24) (show h < 24 by omega) (by decide))
          · skip
            refine lv_aload_n hx hb dX1_find_17 rfl (lv_at hl 1 rfl) ?_
            refine lv_iload_n hx hb dX1_find_18 rfl (lv_at hl 0 rfl) ?_
            rcases hf_h : f h with _ | a_h
            · skip
              have h0_h : T 0 h = 0 := (show T 0 h = oN (f h) from hw.col0 (show h < 25 by omega)).trans (by rw [hf_h]; rfl)
              refine k_o hw (va_runV (As := [.int (nI h)]) (rest := []) ⟨hx, hb, hml, hown, hts⟩ (c_X1_holdAt_n l G f wa T M (show h < 24 by omega) hf_h) (cwV 1 hts gX1_find_X1_holdAt rfl rfl rfl (by decide +kernel) ⟨Nat.le_of_ble_eq_true rfl, Nat.le_of_ble_eq_true rfl⟩) (hw.preX _) rfl rfl hl.1 rfl (lv_room (Nat.le_of_ble_eq_true rfl)) dX1_find_19 ⟨Nat.le_of_ble_eq_true rfl, Nat.le_of_ble_eq_true rfl⟩) (fun r u H locs hR hw => ?_)
              obtain ⟨hq, rfl⟩ := hR
              obtain rfl := hq.symm
              refine W.eq (g2 := F0 m 22 ls [.null]) rfl ?_
              refine lv_astore_nN (lv' := [(3, .null), (2, .int (nI h)), (0, .ref (gx G)), (1, .int p1)]) hx hb dX1_find_22 rfl hl (by decide) rfl (fun ls hl => ?_)
              refine lv_aload_nN hx hb dX1_find_23 rfl (lv_at hl 0 rfl) ?_
              refine lv_ifnonnullN hx hb dX1_find_24 ?_
              refine lv_goto (tgt := 71) hx hb dX1_find_27 (by decide) ?_
              refine lv_iinc (v := nI (h + 1)) (lv' := [(2, .int (nI (h + 1))), (3, .null), (0, .ref (gx G)), (1, .int p1)]) hx hb dX1_find_71 hl (k := 1) rfl (nI_1 _) (by decide) rfl (fun ls hl => ?_)
              refine lv_goto (tgt := 11) hx hb dX1_find_74 (by decide) ?_
              exact ih (h + 1) T H locs ls ⟨by omega, (show Inv _ from hIT), hop.trans (by simp only [of_find, hd, lg, lg2, ↓reduceIte, c_14, h0_h])⟩ hw (lv_sub hl [0, 2, 3] rfl)
            · skip
              have h0_h : ¬ T 0 h = 0 := by rw [(show T 0 h = oN (f h) from hw.col0 (show h < 25 by omega)), hf_h]; exact oN_s _
              refine k_o hw (va_runV (As := [.int (nI h)]) (rest := []) ⟨hx, hb, hml, hown, hts⟩ (c_X1_holdAt_s l G f wa T M (show h < 24 by omega) hf_h) (cwV 1 hts gX1_find_X1_holdAt rfl rfl rfl (by decide +kernel) ⟨Nat.le_of_ble_eq_true rfl, Nat.le_of_ble_eq_true rfl⟩) (hw.preX _) rfl rfl hl.1 rfl (lv_room (Nat.le_of_ble_eq_true rfl)) dX1_find_19 ⟨Nat.le_of_ble_eq_true rfl, Nat.le_of_ble_eq_true rfl⟩) (fun r u H locs hR hw => ?_)
              obtain ⟨hq, rfl⟩ := hR
              obtain rfl := hq.symm
              refine W.eq (g2 := F0 m 22 ls [.ref a_h]) rfl ?_
              refine lv_astore_n (lv' := [(3, .ref a_h), (2, .int (nI h)), (0, .ref (gx G)), (1, .int p1)]) hx hb dX1_find_22 rfl hl (by decide) rfl (fun ls hl => ?_)
              refine lv_aload_n hx hb dX1_find_23 rfl (lv_at hl 0 rfl) ?_
              refine lv_ifnonnull (tgt := 30) hx hb dX1_find_24 (by decide) ?_
              refine lv_aload_n hx hb dX1_find_30 rfl (lv_at hl 0 rfl) ?_
              refine r_get0 (v := .int (T 3 h)) hx hb hts hin0 hown hw (show h < 25 by omega) hf_h 2 (by decide) lk49 rfl dX1_find_31 ?_
              refine lv_if_ne (tgt := 48) hx hb dX1_find_34 (by decide) (fun c_34 => ?_) (fun c_34 => ?_)
              · skip
                refine lv_aload_n hx hb dX1_find_48 rfl (lv_at hl 0 rfl) ?_
                refine lv_iload_n hx hb dX1_find_49 rfl (lv_at hl 3 rfl) ?_
                refine k_i hw (va_runV (As := [.int p1]) (rest := []) ⟨hx, hb, hml, hown, hts⟩ (c_X0_contains l G f wa (sU T 6 h ((T 6 h) + 1)) M (show h < 25 by omega) hf_h hn_h h10_h p1) (cwV 1 hts gX1_find_X0_contains rfl rfl rfl (by decide +kernel) ⟨Nat.le_of_ble_eq_true rfl, Nat.le_of_ble_eq_true rfl⟩) (hw.preL (show h < 25 by omega) hf_h _) rfl rfl hl.1 rfl (lv_room (Nat.le_of_ble_eq_true rfl)) dX1_find_50 ⟨Nat.le_of_ble_eq_true rfl, Nat.le_of_ble_eq_true rfl⟩) (fun r u H locs hR hw => ?_)
                obtain ⟨hq, rfl⟩ := hR
                obtain rfl := hq.symm
                cases hh_50 : has (sU T 6 h ((T 6 h) + 1)) h p1
                · skip
                  refine W.eq (g2 := F0 m 53 ls [.int 0]) rfl ?_
                  refine lv_if_eq (tgt := 63) hx hb dX1_find_53 (by decide) (fun c_53 => ?_) (fun c_53 => ?_)
                  · skip
                    refine lv_aload_n hx hb dX1_find_63 rfl (lv_at hl 0 rfl) ?_
                    refine lv_iconst (v := 1) hx hb dX1_find_64 (by decide) ?_
                    refine lv_bipush (v := (-8)) hx hb dX1_find_65 (by decide) ?_
                    refine k_i hw (va_runV (As := [.int 1, .int (-8)]) (rest := []) ⟨hx, hb, hml, hown, hts⟩ (c_X0_letGo l G f wa (sU T 6 h ((T 6 h) + 1)) M (show h < 25 by omega) hf_h 1 (-8)) (cwV 2 hts gX1_find_X0_letGo rfl rfl rfl (by decide +kernel) ⟨Nat.le_of_ble_eq_true rfl, Nat.le_of_ble_eq_true rfl⟩) (hw.preL (show h < 25 by omega) hf_h _) rfl rfl hl.1 rfl (lv_room (Nat.le_of_ble_eq_true rfl)) dX1_find_67 ⟨Nat.le_of_ble_eq_true rfl, Nat.le_of_ble_eq_true rfl⟩) (fun r u H locs hR hw => ?_)
                    obtain ⟨hq, rfl⟩ := hR
                    obtain rfl := hq.symm
                    refine lv_pop hx hb dX1_find_70 rfl ?_
                    refine lv_iinc (v := nI (h + 1)) (lv' := [(2, .int (nI (h + 1))), (3, .ref a_h), (0, .ref (gx G)), (1, .int p1)]) hx hb dX1_find_71 hl (k := 1) rfl (nI_1 _) (by decide) rfl (fun ls hl => ?_)
                    refine lv_goto (tgt := 11) hx hb dX1_find_74 (by decide) ?_
                    exact ih (h + 1) (sU (sU T 6 h ((T 6 h) + 1)) 7 h 1) H locs ls ⟨by omega, (show Inv _ from hIT), hop.trans (by simp only [of_find, hd, lg, lg2, ↓reduceIte, c_14, h0_h, c_34, hh_50, Bool.false_eq_true, c_53])⟩ hw (lv_sub hl [0, 2, 3] rfl)
                  · skip
                    exact absurd c_53 (by decide)
                · skip
                  refine W.eq (g2 := F0 m 53 ls [.int 1]) rfl ?_
                  refine lv_if_eq (tgt := 63) hx hb dX1_find_53 (by decide) (fun c_53 => ?_) (fun c_53 => ?_)
                  · skip
                    exact absurd c_53 (by decide)
                  · skip
                    refine lv_aload_n hx hb dX1_find_56 rfl (lv_at hl 0 rfl) ?_
                    refine lv_iconst (v := 3) hx hb dX1_find_57 (by decide) ?_
                    refine lv_iload_n hx hb dX1_find_58 rfl (lv_at hl 1 rfl) ?_
                    refine k_i hw (va_runV (As := [.int 3, .int (nI h)]) (rest := []) ⟨hx, hb, hml, hown, hts⟩ (c_X0_letGo l G f wa (sU T 6 h ((T 6 h) + 1)) M (show h < 25 by omega) hf_h 3 (nI h)) (cwV 2 hts gX1_find_X0_letGo rfl rfl rfl (by decide +kernel) ⟨Nat.le_of_ble_eq_true rfl, Nat.le_of_ble_eq_true rfl⟩) (hw.preL (show h < 25 by omega) hf_h _) rfl rfl hl.1 rfl (lv_room (Nat.le_of_ble_eq_true rfl)) dX1_find_59 ⟨Nat.le_of_ble_eq_true rfl, Nat.le_of_ble_eq_true rfl⟩) (fun r u H locs hR hw => ?_)
                    obtain ⟨hq, rfl⟩ := hR
                    obtain rfl := hq.symm
                    exact e_i hx hb hr hlocks hw dX1_find_62 (leafC (hop.trans (by simp only [of_find, hd, lg, lg2, ↓reduceIte, c_14, h0_h, c_34, hh_50, c_53])))
              · skip
                refine lv_aload_n hx hb dX1_find_37 rfl (lv_at hl 0 rfl) ?_
                refine lv_iconst (v := 3) hx hb dX1_find_38 (by decide) ?_
                refine lv_bipush (v := (-8)) hx hb dX1_find_39 (by decide) ?_
                refine k_i hw (va_runV (As := [.int 3, .int (-8)]) (rest := []) ⟨hx, hb, hml, hown, hts⟩ (c_X0_letGo l G f wa (sU T 6 h ((T 6 h) + 1)) M (show h < 25 by omega) hf_h 3 (-8)) (cwV 2 hts gX1_find_X0_letGo rfl rfl rfl (by decide +kernel) ⟨Nat.le_of_ble_eq_true rfl, Nat.le_of_ble_eq_true rfl⟩) (hw.preL (show h < 25 by omega) hf_h _) rfl rfl hl.1 rfl (lv_room (Nat.le_of_ble_eq_true rfl)) dX1_find_41 ⟨Nat.le_of_ble_eq_true rfl, Nat.le_of_ble_eq_true rfl⟩) (fun r u H locs hR hw => ?_)
                obtain ⟨hq, rfl⟩ := hR
                obtain rfl := hq.symm
                refine lv_pop hx hb dX1_find_44 rfl ?_
                refine lv_goto (tgt := 71) hx hb dX1_find_45 (by decide) ?_
                refine lv_iinc (v := nI (h + 1)) (lv' := [(2, .int (nI (h + 1))), (3, .ref a_h), (0, .ref (gx G)), (1, .int p1)]) hx hb dX1_find_71 hl (k := 1) rfl (nI_1 _) (by decide) rfl (fun ls hl => ?_)
                refine lv_goto (tgt := 11) hx hb dX1_find_74 (by decide) ?_
                exact ih (h + 1) (sU (sU T 6 h ((T 6 h) + 1)) 7 h 3) H locs ls ⟨by omega, (show Inv _ from hIT), hop.trans (by simp only [of_find, hd, lg, lg2, ↓reduceIte, c_14, h0_h, c_34])⟩ hw (lv_sub hl [0, 2, 3] rfl)
      exact loop 24 0 S _ _ _ ⟨by omega, hI, by simp only [oc_find, ↓reduceIte, hh_1, c_4]⟩ hw (lv_sub hl [0, 1, 2] rfl)
    · skip
      exact absurd c_4 (by decide)

set_option maxHeartbeats 800000 in
set_option maxRecDepth 100000 in
theorem c_X1_first (l : Launch) (G : GT) (f : Nat → Option Nat) (wa : Nat → Nat) (S M : Tb) (hI : Inv S) (p1 : Int32) : Met l yX1_first wsX1_first (rk 2) (va_Pc [.ref (gx G), .int p1] (Wo G (f, wa, S, M))) (Qi G (fun r u => r = (oc_first S p1).1 ∧ ∃ (f' : Nat → Option Nat) (wa' : Nat → Nat), u = (f', wa', (oc_first S p1).2, M))) 0 0 (gA G) := by
  refine m_head (cc := cX1_first) (maxL := 4) (ret := (some .int)) (by decide) rfl (Nat.le_of_ble_eq_true rfl) ?_
  intro p e s m below meth c hx hb hml hr hlocks hown hts hw ls hl
  have hown : s.vm.findClass RX1 = some m.cls := hown
  have hl : lv_has ls 4 [(0, .ref (gx G)), (1, .int p1)] := hl
  refine lv_iload_n hx hb dX1_first_0 rfl (lv_at hl 1 rfl) ?_
  refine lv_if_ge (tgt := 6) hx hb dX1_first_1 (by decide) (fun c_1 => ?_) (fun c_1 => ?_)
  · skip
    refine lv_iconst (v := 0) hx hb dX1_first_6 (by decide) ?_
    refine lv_istore_n (lv' := [(2, .int 0), (0, .ref (gx G)), (1, .int p1)]) hx hb dX1_first_7 rfl hl (by decide) rfl (fun ls hl => ?_)
    have loop : ∀ (d h : Nat) (T : Tb) (H : Heap) (locs : List Loc) (ls : Array Slot), (h + d = 24 ∧ Inv T ∧ oc_first S p1 = of_first p1 d h T) → Wi G (f, wa, T, M) s H locs → lv_has ls 4 [(2, .int (nI h)), (0, .ref (gx G)), (1, .int p1)] → W p l e (headSpec wsX1_first (rk 2)).room s m [.ref (gx G), .int p1].toArray below meth c H locs 0 0 (MQ below (Qi G (fun r u => r = (oc_first S p1).1 ∧ ∃ (f' : Nat → Option Nat) (wa' : Nat → Nat), u = (f', wa', (oc_first S p1).2, M))) [.ref (gx G), .int p1].toArray s 0 0 (gA G)) (F0 m 8 ls []) := by
      intro d
      induction d with
      | zero =>
        intro h T H locs ls hk hw hl
        obtain ⟨hd24, hIT, hop⟩ := hk
        refine lv_iload_n hx hb dX1_first_8 rfl (lv_at hl 0 rfl) ?_
        refine lv_bipush (v := 24) hx hb dX1_first_9 (by decide) ?_
        refine lv_icmp_ge (tgt := 56) hx hb dX1_first_11 (by decide) (fun c_11 => ?_) (fun c_11 => ?_)
        · skip
          refine lv_bipush (v := (-8)) hx hb dX1_first_56 (by decide) ?_
          exact e_i hx hb hr hlocks hw dX1_first_58 (leafC (hop.trans (by simp only [of_first, hd, lg, lg2, ↓reduceIte, c_11])))
        · skip
          exact absurd (show (24 : Int32) ≤ nI h from nI_le (a := 24) (by omega) (by omega)) c_11
      | succ d ih =>
        intro h T H locs ls hk hw hl
        obtain ⟨hd24, hIT, hop⟩ := hk
        obtain ⟨n_h, h10_h, hn_h⟩ := hIT h (by omega)
        refine lv_iload_n hx hb dX1_first_8 rfl (lv_at hl 0 rfl) ?_
        refine lv_bipush (v := 24) hx hb dX1_first_9 (by decide) ?_
        refine lv_icmp_ge (tgt := 56) hx hb dX1_first_11 (by decide) (fun c_11 => ?_) (fun c_11 => ?_)
        · skip
          exact absurd c_11 (nI_ge (b := 24) (show h < 24 by omega) (by decide))
        · skip
          refine lv_aload_n hx hb dX1_first_14 rfl (lv_at hl 1 rfl) ?_
          refine lv_iload_n hx hb dX1_first_15 rfl (lv_at hl 0 rfl) ?_
          rcases hf_h : f h with _ | a_h
          · skip
            have h0_h : T 0 h = 0 := (show T 0 h = oN (f h) from hw.col0 (show h < 25 by omega)).trans (by rw [hf_h]; rfl)
            refine k_o hw (va_runV (As := [.int (nI h)]) (rest := []) ⟨hx, hb, hml, hown, hts⟩ (c_X1_holdAt_n l G f wa T M (show h < 24 by omega) hf_h) (cwV 1 hts gX1_first_X1_holdAt rfl rfl rfl (by decide +kernel) ⟨Nat.le_of_ble_eq_true rfl, Nat.le_of_ble_eq_true rfl⟩) (hw.preX _) rfl rfl hl.1 rfl (lv_room (Nat.le_of_ble_eq_true rfl)) dX1_first_16 ⟨Nat.le_of_ble_eq_true rfl, Nat.le_of_ble_eq_true rfl⟩) (fun r u H locs hR hw => ?_)
            obtain ⟨hq, rfl⟩ := hR
            obtain rfl := hq.symm
            refine W.eq (g2 := F0 m 19 ls [.null]) rfl ?_
            refine lv_astore_nN (lv' := [(3, .null), (2, .int (nI h)), (0, .ref (gx G)), (1, .int p1)]) hx hb dX1_first_19 rfl hl (by decide) rfl (fun ls hl => ?_)
            refine lv_aload_nN hx hb dX1_first_20 rfl (lv_at hl 0 rfl) ?_
            refine lv_ifnonnullN hx hb dX1_first_21 ?_
            refine lv_goto (tgt := 50) hx hb dX1_first_24 (by decide) ?_
            refine lv_iinc (v := nI (h + 1)) (lv' := [(2, .int (nI (h + 1))), (3, .null), (0, .ref (gx G)), (1, .int p1)]) hx hb dX1_first_50 hl (k := 1) rfl (nI_1 _) (by decide) rfl (fun ls hl => ?_)
            refine lv_goto (tgt := 8) hx hb dX1_first_53 (by decide) ?_
            exact ih (h + 1) T H locs ls ⟨by omega, (show Inv _ from hIT), hop.trans (by simp only [of_first, hd, lg, lg2, ↓reduceIte, c_11, h0_h])⟩ hw (lv_sub hl [0, 2, 3] rfl)
          · skip
            have h0_h : ¬ T 0 h = 0 := by rw [(show T 0 h = oN (f h) from hw.col0 (show h < 25 by omega)), hf_h]; exact oN_s _
            refine k_o hw (va_runV (As := [.int (nI h)]) (rest := []) ⟨hx, hb, hml, hown, hts⟩ (c_X1_holdAt_s l G f wa T M (show h < 24 by omega) hf_h) (cwV 1 hts gX1_first_X1_holdAt rfl rfl rfl (by decide +kernel) ⟨Nat.le_of_ble_eq_true rfl, Nat.le_of_ble_eq_true rfl⟩) (hw.preX _) rfl rfl hl.1 rfl (lv_room (Nat.le_of_ble_eq_true rfl)) dX1_first_16 ⟨Nat.le_of_ble_eq_true rfl, Nat.le_of_ble_eq_true rfl⟩) (fun r u H locs hR hw => ?_)
            obtain ⟨hq, rfl⟩ := hR
            obtain rfl := hq.symm
            refine W.eq (g2 := F0 m 19 ls [.ref a_h]) rfl ?_
            refine lv_astore_n (lv' := [(3, .ref a_h), (2, .int (nI h)), (0, .ref (gx G)), (1, .int p1)]) hx hb dX1_first_19 rfl hl (by decide) rfl (fun ls hl => ?_)
            refine lv_aload_n hx hb dX1_first_20 rfl (lv_at hl 0 rfl) ?_
            refine lv_ifnonnull (tgt := 27) hx hb dX1_first_21 (by decide) ?_
            refine lv_aload_n hx hb dX1_first_27 rfl (lv_at hl 0 rfl) ?_
            refine k_i hw (va_runV (As := []) (rest := []) ⟨hx, hb, hml, hown, hts⟩ (c_X0_weight l G f wa (sU T 6 h ((T 6 h) + 1)) M (show h < 25 by omega) hf_h hn_h h10_h) (cwV 0 hts gX1_first_X0_weight rfl rfl rfl (by decide +kernel) ⟨Nat.le_of_ble_eq_true rfl, Nat.le_of_ble_eq_true rfl⟩) (hw.preL (show h < 25 by omega) hf_h _) rfl rfl hl.1 rfl (lv_room (Nat.le_of_ble_eq_true rfl)) dX1_first_28 ⟨Nat.le_of_ble_eq_true rfl, Nat.le_of_ble_eq_true rfl⟩) (fun r u H locs hR hw => ?_)
            obtain ⟨hq, rfl⟩ := hR
            obtain rfl := hq.symm
            refine lv_iload_n hx hb dX1_first_31 rfl (lv_at hl 3 rfl) ?_
            refine lv_icmp_lt (tgt := 42) hx hb dX1_first_32 (by decide) (fun c_32 => ?_) (fun c_32 => ?_)
            · skip
              refine lv_aload_n hx hb dX1_first_42 rfl (lv_at hl 0 rfl) ?_
              refine lv_iconst (v := 1) hx hb dX1_first_43 (by decide) ?_
              refine lv_bipush (v := (-8)) hx hb dX1_first_44 (by decide) ?_
              refine k_i hw (va_runV (As := [.int 1, .int (-8)]) (rest := []) ⟨hx, hb, hml, hown, hts⟩ (c_X0_letGo l G f wa (sU T 6 h ((T 6 h) + 1)) M (show h < 25 by omega) hf_h 1 (-8)) (cwV 2 hts gX1_first_X0_letGo rfl rfl rfl (by decide +kernel) ⟨Nat.le_of_ble_eq_true rfl, Nat.le_of_ble_eq_true rfl⟩) (hw.preL (show h < 25 by omega) hf_h _) rfl rfl hl.1 rfl (lv_room (Nat.le_of_ble_eq_true rfl)) dX1_first_46 ⟨Nat.le_of_ble_eq_true rfl, Nat.le_of_ble_eq_true rfl⟩) (fun r u H locs hR hw => ?_)
              obtain ⟨hq, rfl⟩ := hR
              obtain rfl := hq.symm
              refine lv_pop hx hb dX1_first_49 rfl ?_
              refine lv_iinc (v := nI (h + 1)) (lv' := [(2, .int (nI (h + 1))), (3, .ref a_h), (0, .ref (gx G)), (1, .int p1)]) hx hb dX1_first_50 hl (k := 1) rfl (nI_1 _) (by decide) rfl (fun ls hl => ?_)
              refine lv_goto (tgt := 8) hx hb dX1_first_53 (by decide) ?_
              exact ih (h + 1) (sU (sU T 6 h ((T 6 h) + 1)) 7 h 1) H locs ls ⟨by omega, (show Inv _ from hIT), hop.trans (by simp only [of_first, hd, lg, lg2, ↓reduceIte, c_11, h0_h, c_32])⟩ hw (lv_sub hl [0, 2, 3] rfl)
            · skip
              refine lv_aload_n hx hb dX1_first_35 rfl (lv_at hl 0 rfl) ?_
              refine lv_iconst (v := 2) hx hb dX1_first_36 (by decide) ?_
              refine lv_iload_n hx hb dX1_first_37 rfl (lv_at hl 1 rfl) ?_
              refine k_i hw (va_runV (As := [.int 2, .int (nI h)]) (rest := []) ⟨hx, hb, hml, hown, hts⟩ (c_X0_letGo l G f wa (sU T 6 h ((T 6 h) + 1)) M (show h < 25 by omega) hf_h 2 (nI h)) (cwV 2 hts gX1_first_X0_letGo rfl rfl rfl (by decide +kernel) ⟨Nat.le_of_ble_eq_true rfl, Nat.le_of_ble_eq_true rfl⟩) (hw.preL (show h < 25 by omega) hf_h _) rfl rfl hl.1 rfl (lv_room (Nat.le_of_ble_eq_true rfl)) dX1_first_38 ⟨Nat.le_of_ble_eq_true rfl, Nat.le_of_ble_eq_true rfl⟩) (fun r u H locs hR hw => ?_)
              obtain ⟨hq, rfl⟩ := hR
              obtain rfl := hq.symm
              exact e_i hx hb hr hlocks hw dX1_first_41 (leafC (hop.trans (by simp only [of_first, hd, lg, lg2, ↓reduceIte, c_11, h0_h, c_32])))
    exact loop 24 0 S _ _ _ ⟨by omega, hI, by simp only [oc_first, ↓reduceIte, c_1]⟩ hw (lv_sub hl [0, 1, 2] rfl)
  · skip
    refine lv_iconst (v := (-1)) hx hb dX1_first_4 (by decide) ?_
    exact e_i hx hb hr hlocks hw dX1_first_5 (leafC (by simp only [oc_first, hd, lg, lg2, ↓reduceIte, c_1]))

set_option maxHeartbeats 800000 in
set_option maxRecDepth 100000 in
theorem c_X1_tally (l : Launch) (G : GT) (f : Nat → Option Nat) (wa : Nat → Nat) (S M : Tb) (hI : Inv S) : Met l yX1_tally wsX1_tally (rk 2) (va_Pc [.ref (gx G)] (Wo G (f, wa, S, M))) (Ql G (fun r u => r = (oc_tally S).1 ∧ ∃ (f' : Nat → Option Nat) (wa' : Nat → Nat), u = (f', wa', (oc_tally S).2, M))) 0 0 (gA G) := by
  refine m_head (cc := cX1_tally) (maxL := 5) (ret := (some .long)) (by decide) rfl (Nat.le_of_ble_eq_true rfl) ?_
  intro p e s m below meth c hx hb hml hr hlocks hown hts hw ls hl
  have hown : s.vm.findClass RX1 = some m.cls := hown
  have hl : lv_has ls 5 [(0, .ref (gx G))] := hl
  have hin1 : ∀ w ∈ wsX10, w ∈ wsX1_tally := by decide +kernel
  have lk15 := hts (.fieldLink RX1 15 "LockerWall" "latchHolds" "I") (by decide +kernel)
  refine lv_aload_n hx hb dX1_tally_0 rfl (lv_at hl 0 rfl) ?_
  refine lv_dup hx hb dX1_tally_1 rfl ?_
  refine r_getT hx hb hts hin1 hown hw lk15 dX1_tally_2 ?_
  refine lv_iconst (v := 1) hx hb dX1_tally_5 (by decide) ?_
  refine lv_iadd hx hb dX1_tally_6 ?_
  refine r_putT hx hb hts hin1 hown hw lk15 dX1_tally_7 (fun H locs hw => ?_)
  have hw : Wi G (f, wa, sU S 9 0 ((S 9 0) + 1), M) s H locs := hw
  refine lv_lconst (v := 0) hx hb dX1_tally_10 (by decide) ?_
  refine lv_lstore_n (lv' := [(1, .long 0), (0, .ref (gx G))]) hx hb dX1_tally_11 rfl hl (by decide) rfl (fun ls hl => ?_)
  refine lv_iconst (v := 0) hx hb dX1_tally_12 (by decide) ?_
  refine lv_istore_n (lv' := [(3, .int 0), (1, .long 0), (0, .ref (gx G))]) hx hb dX1_tally_13 rfl hl (by decide) rfl (fun ls hl => ?_)
  have loop : ∀ (d h : Nat) (z : Int64) (T : Tb) (H : Heap) (locs : List Loc) (ls : Array Slot), (h + d = 24 ∧ Inv T ∧ oc_tally S = of_tally d h z T) → Wi G (f, wa, T, M) s H locs → lv_has ls 5 [(3, .int (nI h)), (1, .long z), (0, .ref (gx G))] → W p l e (headSpec wsX1_tally (rk 2)).room s m [.ref (gx G)].toArray below meth c H locs 0 0 (MQ below (Ql G (fun r u => r = (oc_tally S).1 ∧ ∃ (f' : Nat → Option Nat) (wa' : Nat → Nat), u = (f', wa', (oc_tally S).2, M))) [.ref (gx G)].toArray s 0 0 (gA G)) (F0 m 14 ls []) := by
    intro d
    induction d with
    | zero =>
      intro h z T H locs ls hk hw hl
      obtain ⟨hd24, hIT, hop⟩ := hk
      refine lv_iload_n hx hb dX1_tally_14 rfl (lv_at hl 0 rfl) ?_
      refine lv_bipush (v := 24) hx hb dX1_tally_15 (by decide) ?_
      refine lv_icmp_ge (tgt := 58) hx hb dX1_tally_17 (by decide) (fun c_17 => ?_) (fun c_17 => ?_)
      · skip
        refine lv_lload_n hx hb dX1_tally_58 rfl (lv_at hl 1 rfl) ?_
        exact e_l hx hb hr hlocks hw dX1_tally_59 (leafL (hop.trans (by simp only [of_tally])))
      · skip
        exact absurd (show (24 : Int32) ≤ nI h from nI_le (a := 24) (by omega) (by omega)) c_17
    | succ d ih =>
      intro h z T H locs ls hk hw hl
      obtain ⟨hd24, hIT, hop⟩ := hk
      obtain ⟨n_h, h10_h, hn_h⟩ := hIT h (by omega)
      refine lv_iload_n hx hb dX1_tally_14 rfl (lv_at hl 0 rfl) ?_
      refine lv_bipush (v := 24) hx hb dX1_tally_15 (by decide) ?_
      refine lv_icmp_ge (tgt := 58) hx hb dX1_tally_17 (by decide) (fun c_17 => ?_) (fun c_17 => ?_)
      · skip
        exact absurd c_17 (nI_ge (b := 24) (show h < 24 by omega) (by decide))
      · skip
        refine lv_aload_n hx hb dX1_tally_20 rfl (lv_at hl 2 rfl) ?_
        refine lv_iload_n hx hb dX1_tally_21 rfl (lv_at hl 0 rfl) ?_
        rcases hf_h : f h with _ | a_h
        · skip
          have h0_h : T 0 h = 0 := (show T 0 h = oN (f h) from hw.col0 (show h < 25 by omega)).trans (by rw [hf_h]; rfl)
          refine k_o hw (va_runV (As := [.int (nI h)]) (rest := []) ⟨hx, hb, hml, hown, hts⟩ (c_X1_holdAt_n l G f wa T M (show h < 24 by omega) hf_h) (cwV 1 hts gX1_tally_X1_holdAt rfl rfl rfl (by decide +kernel) ⟨Nat.le_of_ble_eq_true rfl, Nat.le_of_ble_eq_true rfl⟩) (hw.preX _) rfl rfl hl.1 rfl (lv_room (Nat.le_of_ble_eq_true rfl)) dX1_tally_22 ⟨Nat.le_of_ble_eq_true rfl, Nat.le_of_ble_eq_true rfl⟩) (fun r u H locs hR hw => ?_)
          obtain ⟨hq, rfl⟩ := hR
          obtain rfl := hq.symm
          refine W.eq (g2 := F0 m 25 ls [.null]) rfl ?_
          refine lv_astoreN (lv' := [(4, .null), (3, .int (nI h)), (1, .long z), (0, .ref (gx G))]) hx hb dX1_tally_25 hl (by decide) rfl (fun ls hl => ?_)
          refine lv_aloadN hx hb dX1_tally_27 (lv_at hl 0 rfl) ?_
          refine lv_ifnullN (tgt := 52) hx hb dX1_tally_29 (by decide) ?_
          refine lv_iinc (v := nI (h + 1)) (lv' := [(3, .int (nI (h + 1))), (4, .null), (1, .long z), (0, .ref (gx G))]) hx hb dX1_tally_52 hl (k := 1) rfl (nI_1 _) (by decide) rfl (fun ls hl => ?_)
          refine lv_goto (tgt := 14) hx hb dX1_tally_55 (by decide) ?_
          exact ih (h + 1) z T H locs ls ⟨by omega, (show Inv _ from hIT), hop.trans (by simp only [of_tally, hd, lg, lg2, ↓reduceIte, c_17, h0_h])⟩ hw (lv_sub hl [0, 2, 3] rfl)
        · skip
          have h0_h : ¬ T 0 h = 0 := by rw [(show T 0 h = oN (f h) from hw.col0 (show h < 25 by omega)), hf_h]; exact oN_s _
          refine k_o hw (va_runV (As := [.int (nI h)]) (rest := []) ⟨hx, hb, hml, hown, hts⟩ (c_X1_holdAt_s l G f wa T M (show h < 24 by omega) hf_h) (cwV 1 hts gX1_tally_X1_holdAt rfl rfl rfl (by decide +kernel) ⟨Nat.le_of_ble_eq_true rfl, Nat.le_of_ble_eq_true rfl⟩) (hw.preX _) rfl rfl hl.1 rfl (lv_room (Nat.le_of_ble_eq_true rfl)) dX1_tally_22 ⟨Nat.le_of_ble_eq_true rfl, Nat.le_of_ble_eq_true rfl⟩) (fun r u H locs hR hw => ?_)
          obtain ⟨hq, rfl⟩ := hR
          obtain rfl := hq.symm
          refine W.eq (g2 := F0 m 25 ls [.ref a_h]) rfl ?_
          refine lv_astore (lv' := [(4, .ref a_h), (3, .int (nI h)), (1, .long z), (0, .ref (gx G))]) hx hb dX1_tally_25 hl (by decide) rfl (fun ls hl => ?_)
          refine lv_aload hx hb dX1_tally_27 (lv_at hl 0 rfl) ?_
          refine lv_ifnull hx hb dX1_tally_29 ?_
          refine lv_lload_n hx hb dX1_tally_32 rfl (lv_at hl 2 rfl) ?_
          refine lv_iload_n hx hb dX1_tally_33 rfl (lv_at hl 1 rfl) ?_
          refine lv_i2l hx hb dX1_tally_34 rfl ?_
          refine lv_lconst (v := 1) hx hb dX1_tally_35 (by decide) ?_
          refine lv_ladd hx hb dX1_tally_36 ?_
          refine lv_aload hx hb dX1_tally_37 (lv_at hl 0 rfl) ?_
          refine lv_iconst (v := 1) hx hb dX1_tally_39 (by decide) ?_
          refine lv_aload hx hb dX1_tally_40 (lv_at hl 0 rfl) ?_
          refine k_i hw (va_runV (As := []) (rest := [.int 1, .ref a_h, .long (((nI h).toInt64) + 1), .long z]) ⟨hx, hb, hml, hown, hts⟩ (c_X0_weight l G f wa (sU T 6 h ((T 6 h) + 1)) M (show h < 25 by omega) hf_h hn_h h10_h) (cwV 0 hts gX1_tally_X0_weight rfl rfl rfl (by decide +kernel) ⟨Nat.le_of_ble_eq_true rfl, Nat.le_of_ble_eq_true rfl⟩) (hw.preL (show h < 25 by omega) hf_h _) rfl rfl hl.1 rfl (lv_room (Nat.le_of_ble_eq_true rfl)) dX1_tally_42 ⟨Nat.le_of_ble_eq_true rfl, Nat.le_of_ble_eq_true rfl⟩) (fun r u H locs hR hw => ?_)
          obtain ⟨hq, rfl⟩ := hR
          obtain rfl := hq.symm
          refine k_i hw (va_runV (As := [.int 1, .int (wt (sU T 6 h ((T 6 h) + 1)) h)]) (rest := [.long (((nI h).toInt64) + 1), .long z]) ⟨hx, hb, hml, hown, hts⟩ (c_X0_letGo l G f wa (sU T 6 h ((T 6 h) + 1)) M (show h < 25 by omega) hf_h 1 (wt (sU T 6 h ((T 6 h) + 1)) h)) (cwV 2 hts gX1_tally_X0_letGo rfl rfl rfl (by decide +kernel) ⟨Nat.le_of_ble_eq_true rfl, Nat.le_of_ble_eq_true rfl⟩) (hw.preL (show h < 25 by omega) hf_h _) rfl rfl hl.1 rfl (lv_room (Nat.le_of_ble_eq_true rfl)) dX1_tally_45 ⟨Nat.le_of_ble_eq_true rfl, Nat.le_of_ble_eq_true rfl⟩) (fun r u H locs hR hw => ?_)
          obtain ⟨hq, rfl⟩ := hR
          obtain rfl := hq.symm
          refine lv_i2l hx hb dX1_tally_48 rfl ?_
          refine lv_lmul hx hb dX1_tally_49 ?_
          refine lv_ladd hx hb dX1_tally_50 ?_
          refine lv_lstore_n (lv' := [(1, .long (z + ((((nI h).toInt64) + 1) * ((wt (sU T 6 h ((T 6 h) + 1)) h).toInt64)))), (4, .ref a_h), (3, .int (nI h)), (0, .ref (gx G))]) hx hb dX1_tally_51 rfl hl (by decide) rfl (fun ls hl => ?_)
          refine lv_iinc (v := nI (h + 1)) (lv' := [(3, .int (nI (h + 1))), (1, .long (z + ((((nI h).toInt64) + 1) * ((wt (sU T 6 h ((T 6 h) + 1)) h).toInt64)))), (4, .ref a_h), (0, .ref (gx G))]) hx hb dX1_tally_52 hl (k := 2) rfl (nI_1 _) (by decide) rfl (fun ls hl => ?_)
          refine lv_goto (tgt := 14) hx hb dX1_tally_55 (by decide) ?_
          exact ih (h + 1) (z + ((((nI h).toInt64) + 1) * ((wt (sU T 6 h ((T 6 h) + 1)) h).toInt64))) (sU (sU T 6 h ((T 6 h) + 1)) 7 h 1) H locs ls ⟨by omega, (show Inv _ from hIT), hop.trans (by simp only [of_tally, hd, lg, lg2, ↓reduceIte, c_17, h0_h])⟩ hw (lv_sub hl [0, 1, 3] rfl)
  exact loop 24 0 0 (sU S 9 0 (S 9 0 + 1)) _ _ _ ⟨by omega, (show Inv _ from hI), by rw [oc_tally]⟩ hw (lv_sub hl [0, 1, 2] rfl)

set_option maxHeartbeats 800000 in
set_option maxRecDepth 100000 in
theorem c_X1_holdRow (l : Launch) (G : GT) (f : Nat → Option Nat) (wa : Nat → Nat) (S M : Tb) {i n : Nat} (hi : i < 24) (hn : n ≤ 12) : Met l yX1_holdRow wsX1_holdRow (rk 2) (va_Pc [.ref (gx G), .int (nI i), .int (nI n)] (Wo G (f, wa, S, M))) (Qi G (fun r u => r = nI (of_hold i n 0 S).1 ∧ u = (f, wa, (of_hold i n 0 S).2, M))) 0 0 (gA G) := by
  refine m_head (cc := cX1_holdRow) (maxL := 4) (ret := (some .int)) (by decide) rfl (Nat.le_of_ble_eq_true rfl) ?_
  intro p e s m below meth c hx hb hml hr hlocks hown hts hw ls hl
  have hown : s.vm.findClass RX1 = some m.cls := hown
  have hl : lv_has ls 4 [(0, .ref (gx G)), (1, .int (nI i)), (2, .int (nI n))] := hl
  refine lv_iconst (v := 0) hx hb dX1_holdRow_0 (by decide) ?_
  refine lv_istore_n (lv' := [(3, .int 0), (0, .ref (gx G)), (1, .int (nI i)), (2, .int (nI n))]) hx hb dX1_holdRow_1 rfl hl (by decide) rfl (fun ls hl => ?_)
  have loop : ∀ (d k : Nat) (T : Tb) (H : Heap) (locs : List Loc) (ls : Array Slot), (k + d = n ∧ of_hold i n 0 S = of_hold i d k T) → Wi G (f, wa, T, M) s H locs → lv_has ls 4 [(3, .int (nI k)), (0, .ref (gx G)), (1, .int (nI i)), (2, .int (nI n))] → W p l e (headSpec wsX1_holdRow (rk 2)).room s m [.ref (gx G), .int (nI i), .int (nI n)].toArray below meth c H locs 0 0 (MQ below (Qi G (fun r u => r = nI (of_hold i n 0 S).1 ∧ u = (f, wa, (of_hold i n 0 S).2, M))) [.ref (gx G), .int (nI i), .int (nI n)].toArray s 0 0 (gA G)) (F0 m 2 ls []) := by
    intro d
    induction d with
    | zero =>
      intro k T H locs ls hk hw hl
      obtain ⟨hdn, hop⟩ := hk
      refine lv_iload_n hx hb dX1_holdRow_2 rfl (lv_at hl 0 rfl) ?_
      refine lv_iload_n hx hb dX1_holdRow_3 rfl (lv_at hl 3 rfl) ?_
      refine lv_icmp_ge (tgt := 28) hx hb dX1_holdRow_4 (by decide) (fun c_4 => ?_) (fun c_4 => ?_)
      · skip
        refine lv_iload_n hx hb dX1_holdRow_28 rfl (lv_at hl 3 rfl) ?_
        have hop := hop.trans (show _ = (k, T) by simp only [of_hold])
        exact e_i hx hb hr hlocks hw dX1_holdRow_29 ⟨by rw [hop, show n = k by omega], by rw [hop]⟩
      · skip
        exact absurd (nI_le (show n ≤ k by omega) (by omega)) c_4
    | succ d ih =>
      intro k T H locs ls hk hw hl
      obtain ⟨hdn, hop⟩ := hk
      refine lv_iload_n hx hb dX1_holdRow_2 rfl (lv_at hl 0 rfl) ?_
      refine lv_iload_n hx hb dX1_holdRow_3 rfl (lv_at hl 3 rfl) ?_
      refine lv_icmp_ge (tgt := 28) hx hb dX1_holdRow_4 (by decide) (fun c_4 => ?_) (fun c_4 => ?_)
      · skip
        exact absurd c_4 (nI_ge (show k < n by omega) (by omega))
      · skip
        refine lv_aload_n hx hb dX1_holdRow_7 rfl (lv_at hl 1 rfl) ?_
        refine lv_iload_n hx hb dX1_holdRow_8 rfl (lv_at hl 2 rfl) ?_
        refine lv_iload_n hx hb dX1_holdRow_9 rfl (lv_at hl 0 rfl) ?_
        refine lv_iadd hx hb dX1_holdRow_10 ?_
        refine W.eq (g2 := F0 m 11 ls [.int (nI (i + k)), .ref (gx G)]) (by rw [nI_add]) ?_
        refine lv_bipush (v := 24) hx hb dX1_holdRow_11 (by decide) ?_
        refine lv_irem hx hb dX1_holdRow_13 (by decide) ?_
        refine W.eq (g2 := F0 m 14 ls [.int (nI ((i + k) % 24)), .ref (gx G)]) (by rw [ix24 (show i + k < 2 ^ 31 by omega)]) ?_
        rcases hf_r : f ((i + k) % 24) with _ | a_r
        · skip
          have h0_r : T 0 ((i + k) % 24) = 0 := (show T 0 ((i + k) % 24) = oN (f ((i + k) % 24)) from hw.col0 (show ((i + k) % 24) < 25 by omega)).trans (by rw [hf_r]; rfl)
          refine k_o hw (va_runV (As := [.int (nI ((i + k) % 24))]) (rest := []) ⟨hx, hb, hml, hown, hts⟩ (c_X1_holdAt_n l G f wa T M (show ((i + k) % 24) < 24 by omega) hf_r) (cwV 1 hts gX1_holdRow_X1_holdAt rfl rfl rfl (by decide +kernel) ⟨Nat.le_of_ble_eq_true rfl, Nat.le_of_ble_eq_true rfl⟩) (hw.preX _) rfl rfl hl.1 rfl (lv_room (Nat.le_of_ble_eq_true rfl)) dX1_holdRow_14 ⟨Nat.le_of_ble_eq_true rfl, Nat.le_of_ble_eq_true rfl⟩) (fun r u H locs hR hw => ?_)
          obtain ⟨hq, rfl⟩ := hR
          obtain rfl := hq.symm
          refine W.eq (g2 := F0 m 17 ls [.null]) rfl ?_
          refine lv_ifnonnullN hx hb dX1_holdRow_17 ?_
          refine lv_iload_n hx hb dX1_holdRow_20 rfl (lv_at hl 0 rfl) ?_
          have hop := hop.trans (show _ = (k, T) by simp only [of_hold, ↓reduceIte, c_4, h0_r])
          exact e_i hx hb hr hlocks hw dX1_holdRow_21 ⟨by rw [hop], by rw [hop]⟩
        · skip
          have h0_r : ¬ T 0 ((i + k) % 24) = 0 := by rw [(show T 0 ((i + k) % 24) = oN (f ((i + k) % 24)) from hw.col0 (show ((i + k) % 24) < 25 by omega)), hf_r]; exact oN_s _
          refine k_o hw (va_runV (As := [.int (nI ((i + k) % 24))]) (rest := []) ⟨hx, hb, hml, hown, hts⟩ (c_X1_holdAt_s l G f wa T M (show ((i + k) % 24) < 24 by omega) hf_r) (cwV 1 hts gX1_holdRow_X1_holdAt rfl rfl rfl (by decide +kernel) ⟨Nat.le_of_ble_eq_true rfl, Nat.le_of_ble_eq_true rfl⟩) (hw.preX _) rfl rfl hl.1 rfl (lv_room (Nat.le_of_ble_eq_true rfl)) dX1_holdRow_14 ⟨Nat.le_of_ble_eq_true rfl, Nat.le_of_ble_eq_true rfl⟩) (fun r u H locs hR hw => ?_)
          obtain ⟨hq, rfl⟩ := hR
          obtain rfl := hq.symm
          refine W.eq (g2 := F0 m 17 ls [.ref a_r]) rfl ?_
          refine lv_ifnonnull (tgt := 22) hx hb dX1_holdRow_17 (by decide) ?_
          refine lv_iinc (v := nI (k + 1)) (lv' := [(3, .int (nI (k + 1))), (0, .ref (gx G)), (1, .int (nI i)), (2, .int (nI n))]) hx hb dX1_holdRow_22 hl (k := 0) rfl (nI_1 _) (by decide) rfl (fun ls hl => ?_)
          refine lv_goto (tgt := 2) hx hb dX1_holdRow_25 (by decide) ?_
          exact ih (k + 1) (sU T 6 ((i + k) % 24) ((T 6 ((i + k) % 24)) + 1)) H locs ls ⟨by omega, hop.trans (by simp only [of_hold, hd, lg, lg2, ↓reduceIte, c_4, h0_r])⟩ hw (lv_sub hl [0, 1, 2, 3] rfl)
  exact loop n 0 S _ _ _ ⟨by omega, rfl⟩ hw (lv_sub hl [0, 1, 2, 3] rfl)

set_option maxHeartbeats 800000 in
set_option maxRecDepth 100000 in
theorem c_X1_letGoRow (l : Launch) (G : GT) (f : Nat → Option Nat) (wa : Nat → Nat) (S M : Tb) (hI : Inv S) {i n : Nat} (hi : i < 24) (hn : n ≤ 12) (p3 : Int32) : Met l yX1_letGoRow wsX1_letGoRow (rk 1) (va_Pc [.ref (gx G), .int (nI i), .int (nI n), .int p3] (Wo G (f, wa, S, M))) (Qi G (fun r u => r = (of_let i p3 n 0 S).1 ∧ u = (f, wa, (of_let i p3 n 0 S).2, M))) 0 0 (gA G) := by
  refine m_head (cc := cX1_letGoRow) (maxL := 8) (ret := (some .int)) (by decide) rfl (Nat.le_of_ble_eq_true rfl) ?_
  intro p e s m below meth c hx hb hml hr hlocks hown hts hw ls hl
  have hown : s.vm.findClass RX1 = some m.cls := hown
  have hl : lv_has ls 8 [(0, .ref (gx G)), (1, .int (nI i)), (2, .int (nI n)), (3, .int p3)] := hl
  have hin1 : ∀ w ∈ wsX10, w ∈ wsX1_letGoRow := by decide +kernel
  have lk11 := hts (.fieldLink RX1 11 "LockerWall" "hooks" "[LLockerWall$Locker;") (by decide +kernel)
  refine lv_iconst (v := 0) hx hb dX1_letGoRow_0 (by decide) ?_
  refine lv_istore (lv' := [(4, .int 0), (0, .ref (gx G)), (1, .int (nI i)), (2, .int (nI n)), (3, .int p3)]) hx hb dX1_letGoRow_1 hl (by decide) rfl (fun ls hl => ?_)
  refine lv_iload_n hx hb dX1_letGoRow_3 rfl (lv_at hl 3 rfl) ?_
  refine lv_iconst (v := 1) hx hb dX1_letGoRow_4 (by decide) ?_
  refine lv_isub hx hb dX1_letGoRow_5 ?_
  refine lv_istore (lv' := [(5, .int ((nI n) - 1)), (4, .int 0), (0, .ref (gx G)), (1, .int (nI i)), (2, .int (nI n)), (3, .int p3)]) hx hb dX1_letGoRow_6 hl (by decide) rfl (fun ls hl => ?_)
  have loop : ∀ (k : Nat) (z : Int32) (T : Tb) (H : Heap) (locs : List Loc) (ls : Array Slot), (k ≤ 12 ∧ Inv T ∧ of_let i p3 n 0 S = of_let i p3 k z T) → Wi G (f, wa, T, M) s H locs → lv_has ls 8 [(5, .int (nI k - 1)), (4, .int z), (0, .ref (gx G)), (1, .int (nI i)), (2, .int (nI n)), (3, .int p3)] → W p l e (headSpec wsX1_letGoRow (rk 1)).room s m [.ref (gx G), .int (nI i), .int (nI n), .int p3].toArray below meth c H locs 0 0 (MQ below (Qi G (fun r u => r = (of_let i p3 n 0 S).1 ∧ u = (f, wa, (of_let i p3 n 0 S).2, M))) [.ref (gx G), .int (nI i), .int (nI n), .int p3].toArray s 0 0 (gA G)) (F0 m 8 ls []) := by
    intro k
    induction k with
    | zero =>
      intro z T H locs ls hk hw hl
      obtain ⟨hk12, hIT, hop⟩ := hk
      refine lv_iload hx hb dX1_letGoRow_8 (lv_at hl 0 rfl) ?_
      refine lv_if_lt (tgt := 70) hx hb dX1_letGoRow_10 (by decide) (fun c_10 => ?_) (fun c_10 => ?_)
      · skip
        refine lv_iload hx hb dX1_letGoRow_70 (lv_at hl 1 rfl) ?_
        have hop := hop.trans (show _ = (z, T) by simp only [of_let])
        exact e_i hx hb hr hlocks hw dX1_letGoRow_72 ⟨by rw [hop], by rw [hop]⟩
      · skip
        exact absurd (by decide) c_10
    | succ k ih =>
      intro z T H locs ls hk hw hl
      obtain ⟨hk12, hIT, hop⟩ := hk
      rw [nI_pred] at hl
      obtain ⟨n_h, h10_h, hn_h⟩ := hIT ((i + k) % 24) (by omega)
      refine lv_iload hx hb dX1_letGoRow_8 (lv_at hl 0 rfl) ?_
      refine lv_if_lt (tgt := 70) hx hb dX1_letGoRow_10 (by decide) (fun c_10 => ?_) (fun c_10 => ?_)
      · skip
        exact absurd c_10 (nI_pos (by omega))
      · skip
        refine lv_iload_n hx hb dX1_letGoRow_13 rfl (lv_at hl 3 rfl) ?_
        refine lv_iload hx hb dX1_letGoRow_14 (lv_at hl 0 rfl) ?_
        refine lv_iadd hx hb dX1_letGoRow_16 ?_
        refine W.eq (g2 := F0 m 17 ls [.int (nI (i + k))]) (by rw [nI_add]) ?_
        refine lv_bipush (v := 24) hx hb dX1_letGoRow_17 (by decide) ?_
        refine lv_irem hx hb dX1_letGoRow_19 (by decide) ?_
        refine W.eq (g2 := F0 m 20 ls [.int (nI ((i + k) % 24))]) (by rw [ix24 (show i + k < 2 ^ 31 by omega)]) ?_
        refine lv_istore (lv' := [(6, .int (nI ((i + k) % 24))), (5, .int (nI k)), (4, .int z), (0, .ref (gx G)), (1, .int (nI i)), (2, .int (nI n)), (3, .int p3)]) hx hb dX1_letGoRow_20 hl (by decide) rfl (fun ls hl => ?_)
        refine lv_iload hx hb dX1_letGoRow_22 (lv_at hl 0 rfl) ?_
        refine k_i hw (va_runS (As := [.int (nI ((i + k) % 24))]) (rest := []) ⟨hx, hb, hml, hown, hts⟩ (c_X1_isHook l G f wa T M (nI ((i + k) % 24))) (va_cwS 1 hts gX1_letGoRow_X1_isHook rfl rfl rfl (by decide +kernel) ⟨Nat.le_of_ble_eq_true rfl, Nat.le_of_ble_eq_true rfl⟩) (hw.preS _) rfl rfl hl.1 rfl (lv_room (Nat.le_of_ble_eq_true rfl)) dX1_letGoRow_24 ⟨Nat.le_of_ble_eq_true rfl, Nat.le_of_ble_eq_true rfl⟩) (fun r u H locs hR hw => ?_)
        obtain ⟨hq, rfl⟩ := hR
        obtain rfl := hq.symm
        refine W.eq (g2 := F0 m 27 ls [.int 1]) (by rw [isH_nI (show ((i + k) % 24) < 24 by omega)]; rfl) ?_
        refine lv_if_eq (tgt := 40) hx hb dX1_letGoRow_27 (by decide) (fun c_27 => ?_) (fun c_27 => ?_)
        · skip
          exact absurd c_27 (by decide)
        · skip
          refine lv_aload_n hx hb dX1_letGoRow_30 rfl (lv_at hl 3 rfl) ?_
          refine r_getH hx hb hts hin1 hown hw lk11 dX1_letGoRow_31 ?_
          refine lv_iload hx hb dX1_letGoRow_34 (lv_at hl 0 rfl) ?_
          rcases hf_r : f ((i + k) % 24) with _ | a_r
          · skip
            have h0_r : T 0 ((i + k) % 24) = 0 := (show T 0 ((i + k) % 24) = oN (f ((i + k) % 24)) from hw.col0 (show ((i + k) % 24) < 25 by omega)).trans (by rw [hf_r]; rfl)
            refine r_hld (v := .null) hx hb hw (((i + k) % 24)) (rfl) (show ((i + k) % 24) < 24 by omega) (by rw [hf_r]; rfl) dX1_letGoRow_36 ?_
            refine lv_goto (tgt := 41) hx hb dX1_letGoRow_37 (by decide) ?_
            refine lv_astoreN (lv' := [(7, .null), (6, .int (nI ((i + k) % 24))), (5, .int (nI k)), (4, .int z), (0, .ref (gx G)), (1, .int (nI i)), (2, .int (nI n)), (3, .int p3)]) hx hb dX1_letGoRow_41 hl (by decide) rfl (fun ls hl => ?_)
            refine lv_aloadN hx hb dX1_letGoRow_43 (lv_at hl 0 rfl) ?_
            refine lv_ifnullN (tgt := 64) hx hb dX1_letGoRow_45 (by decide) ?_
            refine lv_iinc (v := nI k - 1) (lv' := [(5, .int (nI k - 1)), (7, .null), (6, .int (nI ((i + k) % 24))), (4, .int z), (0, .ref (gx G)), (1, .int (nI i)), (2, .int (nI n)), (3, .int p3)]) hx hb dX1_letGoRow_64 hl (k := 2) rfl (m1 _) (by decide) rfl (fun ls hl => ?_)
            refine lv_goto (tgt := 8) hx hb dX1_letGoRow_67 (by decide) ?_
            exact ih z T H locs ls ⟨by omega, (show Inv _ from hIT), hop.trans (by simp only [of_let, hd, lg, lg2, ↓reduceIte, c_10, c_27, h0_r])⟩ hw (lv_sub hl [0, 3, 4, 5, 6, 7] rfl)
          · skip
            have h0_r : ¬ T 0 ((i + k) % 24) = 0 := by rw [(show T 0 ((i + k) % 24) = oN (f ((i + k) % 24)) from hw.col0 (show ((i + k) % 24) < 25 by omega)), hf_r]; exact oN_s _
            refine r_hld (v := .ref a_r) hx hb hw (((i + k) % 24)) (rfl) (show ((i + k) % 24) < 24 by omega) (by rw [hf_r]; rfl) dX1_letGoRow_36 ?_
            refine lv_goto (tgt := 41) hx hb dX1_letGoRow_37 (by decide) ?_
            refine lv_astore (lv' := [(7, .ref a_r), (6, .int (nI ((i + k) % 24))), (5, .int (nI k)), (4, .int z), (0, .ref (gx G)), (1, .int (nI i)), (2, .int (nI n)), (3, .int p3)]) hx hb dX1_letGoRow_41 hl (by decide) rfl (fun ls hl => ?_)
            refine lv_aload hx hb dX1_letGoRow_43 (lv_at hl 0 rfl) ?_
            refine lv_ifnull hx hb dX1_letGoRow_45 ?_
            refine lv_iload hx hb dX1_letGoRow_48 (lv_at hl 3 rfl) ?_
            refine lv_aload hx hb dX1_letGoRow_50 (lv_at hl 0 rfl) ?_
            refine lv_iload_n hx hb dX1_letGoRow_52 rfl (lv_at hl 7 rfl) ?_
            refine lv_aload hx hb dX1_letGoRow_53 (lv_at hl 0 rfl) ?_
            refine k_i hw (va_runV (As := []) (rest := [.int p3, .ref a_r, .int z]) ⟨hx, hb, hml, hown, hts⟩ (c_X0_weight l G f wa T M (show ((i + k) % 24) < 25 by omega) hf_r hn_h h10_h) (cwV 0 hts gX1_letGoRow_X0_weight rfl rfl rfl (by decide +kernel) ⟨Nat.le_of_ble_eq_true rfl, Nat.le_of_ble_eq_true rfl⟩) (hw.preL (show ((i + k) % 24) < 25 by omega) hf_r _) rfl rfl hl.1 rfl (lv_room (Nat.le_of_ble_eq_true rfl)) dX1_letGoRow_55 ⟨Nat.le_of_ble_eq_true rfl, Nat.le_of_ble_eq_true rfl⟩) (fun r u H locs hR hw => ?_)
            obtain ⟨hq, rfl⟩ := hR
            obtain rfl := hq.symm
            refine k_i hw (va_runV (As := [.int p3, .int (wt T ((i + k) % 24))]) (rest := [.int z]) ⟨hx, hb, hml, hown, hts⟩ (c_X0_letGo l G f wa T M (show ((i + k) % 24) < 25 by omega) hf_r p3 (wt T ((i + k) % 24))) (cwV 2 hts gX1_letGoRow_X0_letGo rfl rfl rfl (by decide +kernel) ⟨Nat.le_of_ble_eq_true rfl, Nat.le_of_ble_eq_true rfl⟩) (hw.preL (show ((i + k) % 24) < 25 by omega) hf_r _) rfl rfl hl.1 rfl (lv_room (Nat.le_of_ble_eq_true rfl)) dX1_letGoRow_58 ⟨Nat.le_of_ble_eq_true rfl, Nat.le_of_ble_eq_true rfl⟩) (fun r u H locs hR hw => ?_)
            obtain ⟨hq, rfl⟩ := hR
            obtain rfl := hq.symm
            refine lv_iadd hx hb dX1_letGoRow_61 ?_
            refine lv_istore (lv' := [(4, .int (z + (wt T ((i + k) % 24)))), (7, .ref a_r), (6, .int (nI ((i + k) % 24))), (5, .int (nI k)), (0, .ref (gx G)), (1, .int (nI i)), (2, .int (nI n)), (3, .int p3)]) hx hb dX1_letGoRow_62 hl (by decide) rfl (fun ls hl => ?_)
            refine lv_iinc (v := nI k - 1) (lv' := [(5, .int (nI k - 1)), (4, .int (z + (wt T ((i + k) % 24)))), (7, .ref a_r), (6, .int (nI ((i + k) % 24))), (0, .ref (gx G)), (1, .int (nI i)), (2, .int (nI n)), (3, .int p3)]) hx hb dX1_letGoRow_64 hl (k := 3) rfl (m1 _) (by decide) rfl (fun ls hl => ?_)
            refine lv_goto (tgt := 8) hx hb dX1_letGoRow_67 (by decide) ?_
            exact ih (z + (wt T ((i + k) % 24))) (sU T 7 ((i + k) % 24) p3) H locs ls ⟨by omega, (show Inv _ from hIT), hop.trans (by simp only [of_let, hd, lg, lg2, ↓reduceIte, c_10, c_27, h0_r])⟩ hw (lv_sub hl [0, 1, 4, 5, 6, 7] rfl)
  exact loop n 0 S _ _ _ ⟨hn, hI, rfl⟩ hw (lv_sub hl [0, 1, 2, 3, 4, 5] rfl)

set_option maxHeartbeats 800000 in
set_option maxRecDepth 100000 in
theorem c_X1_weigh (l : Launch) (G : GT) (f : Nat → Option Nat) (wa : Nat → Nat) (S M : Tb) (hI : Inv S) (p1 p2 : Int32) : Met l yX1_weigh wsX1_weigh (rk 3) (va_Pc [.ref (gx G), .int p1, .int p2] (Wo G (f, wa, S, M))) (Qi G (fun r u => r = (oc_weigh S p1 p2).1 ∧ ∃ (f' : Nat → Option Nat) (wa' : Nat → Nat), u = (f', wa', (oc_weigh S p1 p2).2, M))) 0 0 (gA G) := by
  refine m_head (cc := cX1_weigh) (maxL := 4) (ret := (some .int)) (by decide) rfl (Nat.le_of_ble_eq_true rfl) ?_
  intro p e s m below meth c hx hb hml hr hlocks hown hts hw ls hl
  have hown : s.vm.findClass RX1 = some m.cls := hown
  have hl : lv_has ls 4 [(0, .ref (gx G)), (1, .int p1), (2, .int p2)] := hl
  have hin1 : ∀ w ∈ wsX10, w ∈ wsX1_weigh := by decide +kernel
  have lk15 := hts (.fieldLink RX1 15 "LockerWall" "latchHolds" "I") (by decide +kernel)
  refine lv_iload_n hx hb dX1_weigh_0 rfl (lv_at hl 1 rfl) ?_
  refine k_i hw (va_runS (As := [.int p1]) (rest := []) ⟨hx, hb, hml, hown, hts⟩ (c_X1_isHook l G f wa S M p1) (va_cwS 1 hts gX1_weigh_X1_isHook rfl rfl rfl (by decide +kernel) ⟨Nat.le_of_ble_eq_true rfl, Nat.le_of_ble_eq_true rfl⟩) (hw.preS _) rfl rfl hl.1 rfl (lv_room (Nat.le_of_ble_eq_true rfl)) dX1_weigh_1 ⟨Nat.le_of_ble_eq_true rfl, Nat.le_of_ble_eq_true rfl⟩) (fun r u H locs hR hw => ?_)
  obtain ⟨hq, rfl⟩ := hR
  obtain rfl := hq.symm
  cases hh_1 : isH p1
  · skip
    refine W.eq (g2 := F0 m 4 ls [.int 0]) rfl ?_
    refine lv_if_eq (tgt := 17) hx hb dX1_weigh_4 (by decide) (fun c_4 => ?_) (fun c_4 => ?_)
    · skip
      refine lv_iconst (v := (-1)) hx hb dX1_weigh_17 (by decide) ?_
      exact e_i hx hb hr hlocks hw dX1_weigh_18 (leafC (by simp only [oc_weigh, oj_weigh, hd, lg, lg2, ↓reduceIte, hh_1, Bool.false_eq_true, c_4]))
    · skip
      exact absurd c_4 (by decide)
  · skip
    refine W.eq (g2 := F0 m 4 ls [.int 1]) rfl ?_
    obtain ⟨i, hi, rfl⟩ := isH_of hh_1
    refine lv_if_eq (tgt := 17) hx hb dX1_weigh_4 (by decide) (fun c_4 => ?_) (fun c_4 => ?_)
    · skip
      exact absurd c_4 (by decide)
    · skip
      refine lv_iload_n hx hb dX1_weigh_7 rfl (lv_at hl 2 rfl) ?_
      refine lv_if_lt (tgt := 17) hx hb dX1_weigh_8 (by decide) (fun c_8 => ?_) (fun c_8 => ?_)
      · skip
        refine lv_iconst (v := (-1)) hx hb dX1_weigh_17 (by decide) ?_
        exact e_i hx hb hr hlocks hw dX1_weigh_18 (leafC (by simp only [oc_weigh, oj_weigh, hd, lg, lg2, ↓reduceIte, isH_nI hi, cl24 hi, c_4, c_8]))
      · skip
        refine lv_iload_n hx hb dX1_weigh_11 rfl (lv_at hl 2 rfl) ?_
        refine lv_bipush (v := 12) hx hb dX1_weigh_12 (by decide) ?_
        refine lv_icmp_le (tgt := 19) hx hb dX1_weigh_14 (by decide) (fun c_14 => ?_) (fun c_14 => ?_)
        · skip
          obtain ⟨q, hq12, rfl⟩ := nI_of2 (M := 12) (n := 12) rfl c_8 c_14
          have clq : (nI q).toNatClampNeg = q := nI_clamp (by omega)
          refine lv_aload_n hx hb dX1_weigh_19 rfl (lv_at hl 0 rfl) ?_
          refine lv_dup hx hb dX1_weigh_20 rfl ?_
          refine r_getT hx hb hts hin1 hown hw lk15 dX1_weigh_21 ?_
          refine lv_iconst (v := 1) hx hb dX1_weigh_24 (by decide) ?_
          refine lv_iadd hx hb dX1_weigh_25 ?_
          refine r_putT hx hb hts hin1 hown hw lk15 dX1_weigh_26 (fun H locs hw => ?_)
          have hw : Wi G (f, wa, sU S 9 0 ((S 9 0) + 1), M) s H locs := hw
          refine lv_aload_n hx hb dX1_weigh_29 rfl (lv_at hl 0 rfl) ?_
          refine lv_iload_n hx hb dX1_weigh_30 rfl (lv_at hl 1 rfl) ?_
          refine lv_iload_n hx hb dX1_weigh_31 rfl (lv_at hl 2 rfl) ?_
          refine k_i hw (va_runV (As := [.int (nI i), .int (nI q)]) (rest := []) ⟨hx, hb, hml, hown, hts⟩ (c_X1_holdRow l G f wa (sU S 9 0 ((S 9 0) + 1)) M hi (n := q) (by omega)) (cwV 2 hts gX1_weigh_X1_holdRow rfl rfl rfl (by decide +kernel) ⟨Nat.le_of_ble_eq_true rfl, Nat.le_of_ble_eq_true rfl⟩) (hw.preX _) rfl rfl hl.1 rfl (lv_room (Nat.le_of_ble_eq_true rfl)) dX1_weigh_32 ⟨Nat.le_of_ble_eq_true rfl, Nat.le_of_ble_eq_true rfl⟩) (fun r u H locs hR hw => ?_)
          obtain ⟨hq, rfl⟩ := hR
          obtain rfl := hq.symm
          have hIh : Inv (of_hold i q 0 (sU S 9 0 ((S 9 0) + 1))).2 := Inv.hold (show Inv (sU S 9 0 ((S 9 0) + 1)) from hI) q 0
          have hle : (of_hold i q 0 (sU S 9 0 ((S 9 0) + 1))).1 ≤ 12 := Nat.le_trans (of_hold_le i q 0 _) (by omega)
          refine lv_istore_n (lv' := [(3, .int (nI (of_hold i q 0 (sU S 9 0 ((S 9 0) + 1))).1)), (0, .ref (gx G)), (1, .int (nI i)), (2, .int (nI q))]) hx hb dX1_weigh_35 rfl hl (by decide) rfl (fun ls hl => ?_)
          refine lv_iload_n hx hb dX1_weigh_36 rfl (lv_at hl 0 rfl) ?_
          refine lv_iload_n hx hb dX1_weigh_37 rfl (lv_at hl 3 rfl) ?_
          refine lv_icmp_ge (tgt := 52) hx hb dX1_weigh_38 (by decide) (fun c_38 => ?_) (fun c_38 => ?_)
          · skip
            refine lv_aload_n hx hb dX1_weigh_52 rfl (lv_at hl 1 rfl) ?_
            refine lv_iload_n hx hb dX1_weigh_53 rfl (lv_at hl 2 rfl) ?_
            refine lv_iload_n hx hb dX1_weigh_54 rfl (lv_at hl 3 rfl) ?_
            refine lv_iconst (v := 2) hx hb dX1_weigh_55 (by decide) ?_
            refine k_i hw (va_runV (As := [.int (nI i), .int (nI q), .int 2]) (rest := []) ⟨hx, hb, hml, hown, hts⟩ (c_X1_letGoRow l G f wa ((of_hold i q 0 (sU S 9 0 ((S 9 0) + 1))).2) M hIh hi (n := q) (by omega) 2) (cwV 3 hts gX1_weigh_X1_letGoRow rfl rfl rfl (by decide +kernel) ⟨Nat.le_of_ble_eq_true rfl, Nat.le_of_ble_eq_true rfl⟩) (hw.preX _) rfl rfl hl.1 rfl (lv_room (Nat.le_of_ble_eq_true rfl)) dX1_weigh_56 ⟨Nat.le_of_ble_eq_true rfl, Nat.le_of_ble_eq_true rfl⟩) (fun r u H locs hR hw => ?_)
            obtain ⟨hq, rfl⟩ := hR
            obtain rfl := hq.symm
            exact e_i hx hb hr hlocks hw dX1_weigh_59 (leafC (by simp only [oc_weigh, oj_weigh, hd, lg, lg2, ↓reduceIte, isH_nI hi, cl24 hi, c_4, c_8, c_14, clq, c_38]))
          · skip
            refine lv_aload_n hx hb dX1_weigh_41 rfl (lv_at hl 1 rfl) ?_
            refine lv_iload_n hx hb dX1_weigh_42 rfl (lv_at hl 2 rfl) ?_
            refine lv_iload_n hx hb dX1_weigh_43 rfl (lv_at hl 0 rfl) ?_
            refine lv_iconst (v := 4) hx hb dX1_weigh_44 (by decide) ?_
            refine k_i hw (va_runV (As := [.int (nI i), .int (nI (of_hold i q 0 (sU S 9 0 ((S 9 0) + 1))).1), .int 4]) (rest := []) ⟨hx, hb, hml, hown, hts⟩ (c_X1_letGoRow l G f wa ((of_hold i q 0 (sU S 9 0 ((S 9 0) + 1))).2) M hIh hi (n := (of_hold i q 0 (sU S 9 0 ((S 9 0) + 1))).1) (by omega) 4) (cwV 3 hts gX1_weigh_X1_letGoRow rfl rfl rfl (by decide +kernel) ⟨Nat.le_of_ble_eq_true rfl, Nat.le_of_ble_eq_true rfl⟩) (hw.preX _) rfl rfl hl.1 rfl (lv_room (Nat.le_of_ble_eq_true rfl)) dX1_weigh_45 ⟨Nat.le_of_ble_eq_true rfl, Nat.le_of_ble_eq_true rfl⟩) (fun r u H locs hR hw => ?_)
            obtain ⟨hq, rfl⟩ := hR
            obtain rfl := hq.symm
            refine lv_pop hx hb dX1_weigh_48 rfl ?_
            refine lv_bipush (v := (-2)) hx hb dX1_weigh_49 (by decide) ?_
            exact e_i hx hb hr hlocks hw dX1_weigh_51 (leafC (by simp only [oc_weigh, oj_weigh, hd, lg, lg2, ↓reduceIte, isH_nI hi, cl24 hi, c_4, c_8, c_14, clq, c_38]))
        · skip
          refine lv_iconst (v := (-1)) hx hb dX1_weigh_17 (by decide) ?_
          exact e_i hx hb hr hlocks hw dX1_weigh_18 (leafC (by simp only [oc_weigh, oj_weigh, hd, lg, lg2, ↓reduceIte, isH_nI hi, cl24 hi, c_4, c_8, c_14, c_14]))

set_option maxHeartbeats 800000 in
set_option maxRecDepth 100000 in
theorem c_X1_drop (l : Launch) (G : GT) (f : Nat → Option Nat) (wa : Nat → Nat) (S M : Tb) (hI : Inv S) (p1 p2 p3 : Int32) : Met l yX1_drop wsX1_drop (rk 2) (va_Pc [.ref (gx G), .int p1, .int p2, .int p3] (Wo G (f, wa, S, M))) (Qi G (fun r u => r = (oc_drop S p1 p2 p3).1 ∧ ∃ (f' : Nat → Option Nat) (wa' : Nat → Nat), u = (f', wa', (oc_drop S p1 p2 p3).2, M))) 0 0 (gA G) := by
  refine m_head (cc := cX1_drop) (maxL := 7) (ret := (some .int)) (by decide) rfl (Nat.le_of_ble_eq_true rfl) ?_
  intro p e s m below meth c hx hb hml hr hlocks hown hts hw ls hl
  have hown : s.vm.findClass RX1 = some m.cls := hown
  have hl : lv_has ls 7 [(0, .ref (gx G)), (1, .int p1), (2, .int p2), (3, .int p3)] := hl
  have hin0 : ∀ w ∈ wsX00, w ∈ wsX1_drop := by decide +kernel
  have lk49 := hts (.fieldLink RX1 49 "LockerWall$Locker" "isOpen" "Z") (by decide +kernel)
  have lk33 := hts (.fieldLink RX1 33 "LockerWall$Locker" "count" "I") (by decide +kernel)
  refine lv_iload_n hx hb dX1_drop_0 rfl (lv_at hl 1 rfl) ?_
  refine k_i hw (va_runS (As := [.int p1]) (rest := []) ⟨hx, hb, hml, hown, hts⟩ (c_X1_isHook l G f wa S M p1) (va_cwS 1 hts gX1_drop_X1_isHook rfl rfl rfl (by decide +kernel) ⟨Nat.le_of_ble_eq_true rfl, Nat.le_of_ble_eq_true rfl⟩) (hw.preS _) rfl rfl hl.1 rfl (lv_room (Nat.le_of_ble_eq_true rfl)) dX1_drop_1 ⟨Nat.le_of_ble_eq_true rfl, Nat.le_of_ble_eq_true rfl⟩) (fun r u H locs hR hw => ?_)
  obtain ⟨hq, rfl⟩ := hR
  obtain rfl := hq.symm
  cases hh_1 : isH p1
  · skip
    refine W.eq (g2 := F0 m 4 ls [.int 0]) rfl ?_
    refine lv_if_eq (tgt := 18) hx hb dX1_drop_4 (by decide) (fun c_4 => ?_) (fun c_4 => ?_)
    · skip
      refine lv_iconst (v := (-1)) hx hb dX1_drop_18 (by decide) ?_
      exact e_i hx hb hr hlocks hw dX1_drop_19 (leafC (by simp only [oc_drop, oj_drop, hd, lg, lg2, ↓reduceIte, hh_1, Bool.false_eq_true, c_4]))
    · skip
      exact absurd c_4 (by decide)
  · skip
    refine W.eq (g2 := F0 m 4 ls [.int 1]) rfl ?_
    obtain ⟨i, hi, rfl⟩ := isH_of hh_1
    refine lv_if_eq (tgt := 18) hx hb dX1_drop_4 (by decide) (fun c_4 => ?_) (fun c_4 => ?_)
    · skip
      exact absurd c_4 (by decide)
    · skip
      refine lv_iload_n hx hb dX1_drop_7 rfl (lv_at hl 2 rfl) ?_
      refine lv_iconst (v := 1) hx hb dX1_drop_8 (by decide) ?_
      refine lv_icmp_lt (tgt := 18) hx hb dX1_drop_9 (by decide) (fun c_9 => ?_) (fun c_9 => ?_)
      · skip
        refine lv_iconst (v := (-1)) hx hb dX1_drop_18 (by decide) ?_
        exact e_i hx hb hr hlocks hw dX1_drop_19 (leafC (by simp only [oc_drop, oj_drop, hd, lg, lg2, ↓reduceIte, isH_nI hi, cl24 hi, c_4, c_9]))
      · skip
        refine lv_iload_n hx hb dX1_drop_12 rfl (lv_at hl 2 rfl) ?_
        refine lv_bipush (v := 10) hx hb dX1_drop_13 (by decide) ?_
        refine lv_icmp_le (tgt := 20) hx hb dX1_drop_15 (by decide) (fun c_15 => ?_) (fun c_15 => ?_)
        · skip
          obtain ⟨q, hq10, rfl⟩ := nI_of2 (M := 10) (n := 10) rfl (n1_0 c_9) c_15
          have clq : (nI q).toNatClampNeg = q := nI_clamp (by omega)
          refine lv_aload_n hx hb dX1_drop_20 rfl (lv_at hl 0 rfl) ?_
          refine lv_iload_n hx hb dX1_drop_21 rfl (lv_at hl 1 rfl) ?_
          rcases hf_i : f i with _ | a_i
          · skip
            have h0_i : S 0 i = 0 := (show S 0 i = oN (f i) from hw.col0 (show i < 25 by omega)).trans (by rw [hf_i]; rfl)
            refine k_o hw (va_runV (As := [.int (nI i)]) (rest := []) ⟨hx, hb, hml, hown, hts⟩ (c_X1_holdAt_n l G f wa S M (show i < 24 by omega) hf_i) (cwV 1 hts gX1_drop_X1_holdAt rfl rfl rfl (by decide +kernel) ⟨Nat.le_of_ble_eq_true rfl, Nat.le_of_ble_eq_true rfl⟩) (hw.preX _) rfl rfl hl.1 rfl (lv_room (Nat.le_of_ble_eq_true rfl)) dX1_drop_22 ⟨Nat.le_of_ble_eq_true rfl, Nat.le_of_ble_eq_true rfl⟩) (fun r u H locs hR hw => ?_)
            obtain ⟨hq, rfl⟩ := hR
            obtain rfl := hq.symm
            refine W.eq (g2 := F0 m 25 ls [.null]) rfl ?_
            refine lv_astoreN (lv' := [(4, .null), (0, .ref (gx G)), (1, .int (nI i)), (2, .int (nI q)), (3, .int p3)]) hx hb dX1_drop_25 hl (by decide) rfl (fun ls hl => ?_)
            refine lv_aloadN hx hb dX1_drop_27 (lv_at hl 0 rfl) ?_
            refine lv_ifnonnullN hx hb dX1_drop_29 ?_
            refine lv_bipush (v := (-2)) hx hb dX1_drop_32 (by decide) ?_
            exact e_i hx hb hr hlocks hw dX1_drop_34 (leafC (by simp only [oc_drop, oj_drop, hd, lg, lg2, ↓reduceIte, isH_nI hi, cl24 hi, c_4, c_9, c_15, clq, h0_i]))
          · skip
            have h0_i : ¬ S 0 i = 0 := by rw [(show S 0 i = oN (f i) from hw.col0 (show i < 25 by omega)), hf_i]; exact oN_s _
            refine k_o hw (va_runV (As := [.int (nI i)]) (rest := []) ⟨hx, hb, hml, hown, hts⟩ (c_X1_holdAt_s l G f wa S M (show i < 24 by omega) hf_i) (cwV 1 hts gX1_drop_X1_holdAt rfl rfl rfl (by decide +kernel) ⟨Nat.le_of_ble_eq_true rfl, Nat.le_of_ble_eq_true rfl⟩) (hw.preX _) rfl rfl hl.1 rfl (lv_room (Nat.le_of_ble_eq_true rfl)) dX1_drop_22 ⟨Nat.le_of_ble_eq_true rfl, Nat.le_of_ble_eq_true rfl⟩) (fun r u H locs hR hw => ?_)
            obtain ⟨hq, rfl⟩ := hR
            obtain rfl := hq.symm
            refine W.eq (g2 := F0 m 25 ls [.ref a_i]) rfl ?_
            refine lv_astore (lv' := [(4, .ref a_i), (0, .ref (gx G)), (1, .int (nI i)), (2, .int (nI q)), (3, .int p3)]) hx hb dX1_drop_25 hl (by decide) rfl (fun ls hl => ?_)
            refine lv_aload hx hb dX1_drop_27 (lv_at hl 0 rfl) ?_
            refine lv_ifnonnull (tgt := 35) hx hb dX1_drop_29 (by decide) ?_
            refine lv_aload hx hb dX1_drop_35 (lv_at hl 0 rfl) ?_
            refine r_get0 (v := .int (S 3 i)) hx hb hts hin0 hown hw (show i < 25 by omega) hf_i 2 (by decide) lk49 rfl dX1_drop_37 ?_
            refine lv_if_ne (tgt := 52) hx hb dX1_drop_40 (by decide) (fun c_40 => ?_) (fun c_40 => ?_)
            · skip
              refine lv_iconst (v := 0) hx hb dX1_drop_52 (by decide) ?_
              refine lv_istore (lv' := [(5, .int 0), (4, .ref a_i), (0, .ref (gx G)), (1, .int (nI i)), (2, .int (nI q)), (3, .int p3)]) hx hb dX1_drop_53 hl (by decide) rfl (fun ls hl => ?_)
              refine lv_iconst (v := 0) hx hb dX1_drop_55 (by decide) ?_
              refine lv_istore (lv' := [(6, .int 0), (5, .int 0), (4, .ref a_i), (0, .ref (gx G)), (1, .int (nI i)), (2, .int (nI q)), (3, .int p3)]) hx hb dX1_drop_56 hl (by decide) rfl (fun ls hl => ?_)
              have hoc : ∀ (g' : Int32) (T' : Tb), of_drop i p3 q 0 (hd S i) = (g', T') → oc_drop S (nI i) (nI q) p3 = (g', lg T' i 1) := by
                intro g' T' hz
                simp only [oc_drop, oj_drop, ↓reduceIte, isH_nI hi, cl24 hi, c_4, c_9, c_15, clq, h0_i, c_40]
                simp only [hz]
              have loop : ∀ (d k : Nat) (g : Int32) (T : Tb) (H : Heap) (locs : List Loc) (ls : Array Slot), (k + d = q ∧ Inv T ∧ of_drop i p3 q 0 (hd S i) = of_drop i p3 d g T) → Wi G (f, wa, T, M) s H locs → lv_has ls 7 [(6, .int (nI k)), (5, .int g), (4, .ref a_i), (2, .int (nI q)), (3, .int p3)] → W p l e (headSpec wsX1_drop (rk 2)).room s m [.ref (gx G), .int (nI i), .int (nI q), .int p3].toArray below meth c H locs 0 0 (MQ below (Qi G (fun r u => r = (oc_drop S (nI i) (nI q) p3).1 ∧ ∃ (f' : Nat → Option Nat) (wa' : Nat → Nat), u = (f', wa', (oc_drop S (nI i) (nI q) p3).2, M))) [.ref (gx G), .int (nI i), .int (nI q), .int p3].toArray s 0 0 (gA G)) (F0 m 58 ls []) := by
                intro d
                induction d with
                | zero =>
                  intro k g T H locs ls hk hw hl
                  obtain ⟨hdq, hIT, hop⟩ := hk
                  refine lv_iload hx hb dX1_drop_58 (lv_at hl 0 rfl) ?_
                  refine lv_iload_n hx hb dX1_drop_60 rfl (lv_at hl 3 rfl) ?_
                  refine lv_icmp_ge (tgt := 97) hx hb dX1_drop_61 (by decide) (fun c_61 => ?_) (fun c_61 => ?_)
                  · skip
                    refine lv_aload hx hb dX1_drop_97 (lv_at hl 2 rfl) ?_
                    refine lv_iconst (v := 1) hx hb dX1_drop_99 (by decide) ?_
                    refine lv_iload hx hb dX1_drop_100 (lv_at hl 1 rfl) ?_
                    refine k_i hw (va_runV (As := [.int 1, .int g]) (rest := []) ⟨hx, hb, hml, hown, hts⟩ (c_X0_letGo l G f wa T M (show i < 25 by omega) hf_i 1 g) (cwV 2 hts gX1_drop_X0_letGo rfl rfl rfl (by decide +kernel) ⟨Nat.le_of_ble_eq_true rfl, Nat.le_of_ble_eq_true rfl⟩) (hw.preL (show i < 25 by omega) hf_i _) rfl rfl hl.1 rfl (lv_room (Nat.le_of_ble_eq_true rfl)) dX1_drop_102 ⟨Nat.le_of_ble_eq_true rfl, Nat.le_of_ble_eq_true rfl⟩) (fun r u H locs hR hw => ?_)
                    obtain ⟨hq, rfl⟩ := hR
                    obtain rfl := hq.symm
                    exact e_i hx hb hr hlocks hw dX1_drop_105 (leafC (hoc _ _ (hop.trans (by simp only [of_drop, ↓reduceIte, c_61]))))
                  · skip
                    exact absurd (nI_le (show q ≤ k by omega) (by omega)) c_61
                | succ d ih =>
                  intro k g T H locs ls hk hw hl
                  obtain ⟨hdq, hIT, hop⟩ := hk
                  obtain ⟨n_h, h10_h, hn_h⟩ := hIT i hi
                  refine lv_iload hx hb dX1_drop_58 (lv_at hl 0 rfl) ?_
                  refine lv_iload_n hx hb dX1_drop_60 rfl (lv_at hl 3 rfl) ?_
                  refine lv_icmp_ge (tgt := 97) hx hb dX1_drop_61 (by decide) (fun c_61 => ?_) (fun c_61 => ?_)
                  · skip
                    exact absurd c_61 (nI_ge (show k < q by omega) (by omega))
                  · skip
                    refine lv_aload hx hb dX1_drop_64 (lv_at hl 2 rfl) ?_
                    refine r_get0 (v := .int (T 5 i)) hx hb hts hin0 hown hw (show i < 25 by omega) hf_i 5 (by decide) lk33 rfl dX1_drop_66 ?_
                    refine lv_if_le (tgt := 97) hx hb dX1_drop_69 (by decide) (fun c_69 => ?_) (fun c_69 => ?_)
                    · skip
                      refine lv_aload hx hb dX1_drop_97 (lv_at hl 2 rfl) ?_
                      refine lv_iconst (v := 1) hx hb dX1_drop_99 (by decide) ?_
                      refine lv_iload hx hb dX1_drop_100 (lv_at hl 1 rfl) ?_
                      refine k_i hw (va_runV (As := [.int 1, .int g]) (rest := []) ⟨hx, hb, hml, hown, hts⟩ (c_X0_letGo l G f wa T M (show i < 25 by omega) hf_i 1 g) (cwV 2 hts gX1_drop_X0_letGo rfl rfl rfl (by decide +kernel) ⟨Nat.le_of_ble_eq_true rfl, Nat.le_of_ble_eq_true rfl⟩) (hw.preL (show i < 25 by omega) hf_i _) rfl rfl hl.1 rfl (lv_room (Nat.le_of_ble_eq_true rfl)) dX1_drop_102 ⟨Nat.le_of_ble_eq_true rfl, Nat.le_of_ble_eq_true rfl⟩) (fun r u H locs hR hw => ?_)
                      obtain ⟨hq, rfl⟩ := hR
                      obtain rfl := hq.symm
                      exact e_i hx hb hr hlocks hw dX1_drop_105 (leafC (hoc _ _ (hop.trans (by simp only [of_drop, ↓reduceIte, c_61, c_69]))))
                    · skip
                      obtain ⟨q_h, hq_h, hs_h⟩ := n_succ hn_h h10_h (fun z => c_69 (by rw [z]; decide))
                      refine lv_iload hx hb dX1_drop_72 (lv_at hl 1 rfl) ?_
                      refine lv_aload hx hb dX1_drop_74 (lv_at hl 2 rfl) ?_
                      refine k_i hw (va_runV (As := []) (rest := [.int g]) ⟨hx, hb, hml, hown, hts⟩ (c_X0_removeLast l G f wa T M (show i < 25 by omega) hf_i hs_h hq_h) (cwV 0 hts gX1_drop_X0_removeLast rfl rfl rfl (by decide +kernel) ⟨Nat.le_of_ble_eq_true rfl, Nat.le_of_ble_eq_true rfl⟩) (hw.preL (show i < 25 by omega) hf_i _) rfl rfl hl.1 rfl (lv_room (Nat.le_of_ble_eq_true rfl)) dX1_drop_76 ⟨Nat.le_of_ble_eq_true rfl, Nat.le_of_ble_eq_true rfl⟩) (fun r u H locs hR hw => ?_)
                      obtain ⟨hq, rfl⟩ := hR
                      obtain rfl := hq.symm
                      refine lv_iadd hx hb dX1_drop_79 ?_
                      refine lv_istore (lv' := [(5, .int (g + (rmV T i))), (6, .int (nI k)), (4, .ref a_i), (2, .int (nI q)), (3, .int p3)]) hx hb dX1_drop_80 hl (by decide) rfl (fun ls hl => ?_)
                      refine lv_iload hx hb dX1_drop_82 (lv_at hl 0 rfl) ?_
                      refine lv_iload_n hx hb dX1_drop_84 rfl (lv_at hl 4 rfl) ?_
                      refine lv_icmp_lt (tgt := 91) hx hb dX1_drop_85 (by decide) (fun c_85 => ?_) (fun c_85 => ?_)
                      · skip
                        refine lv_iinc (v := nI (k + 1)) (lv' := [(6, .int (nI (k + 1))), (5, .int (g + (rmV T i))), (4, .ref a_i), (2, .int (nI q)), (3, .int p3)]) hx hb dX1_drop_91 hl (k := 1) rfl (nI_1 _) (by decide) rfl (fun ls hl => ?_)
                        refine lv_goto (tgt := 58) hx hb dX1_drop_94 (by decide) ?_
                        exact ih (k + 1) (g + (rmV T i)) (rmS T i) H locs ls ⟨by omega, hIT.rm hs_h hq_h, hop.trans (by simp only [of_drop, ↓reduceIte, c_61, c_69, c_85])⟩ hw (lv_sub hl [0, 1, 2, 3, 4] rfl)
                      · skip
                        refine lv_goto (tgt := 97) hx hb dX1_drop_88 (by decide) ?_
                        refine lv_aload hx hb dX1_drop_97 (lv_at hl 2 rfl) ?_
                        refine lv_iconst (v := 1) hx hb dX1_drop_99 (by decide) ?_
                        refine lv_iload hx hb dX1_drop_100 (lv_at hl 0 rfl) ?_
                        refine k_i hw (va_runV (As := [.int 1, .int (g + (rmV T i))]) (rest := []) ⟨hx, hb, hml, hown, hts⟩ (c_X0_letGo l G f wa (rmS T i) M (show i < 25 by omega) hf_i 1 (g + (rmV T i))) (cwV 2 hts gX1_drop_X0_letGo rfl rfl rfl (by decide +kernel) ⟨Nat.le_of_ble_eq_true rfl, Nat.le_of_ble_eq_true rfl⟩) (hw.preL (show i < 25 by omega) hf_i _) rfl rfl hl.1 rfl (lv_room (Nat.le_of_ble_eq_true rfl)) dX1_drop_102 ⟨Nat.le_of_ble_eq_true rfl, Nat.le_of_ble_eq_true rfl⟩) (fun r u H locs hR hw => ?_)
                        obtain ⟨hq, rfl⟩ := hR
                        obtain rfl := hq.symm
                        exact e_i hx hb hr hlocks hw dX1_drop_105 (leafC (hoc _ _ (hop.trans (by simp only [of_drop, ↓reduceIte, c_61, c_69, c_85]))))
              exact loop q 0 0 (sU S 6 i (S 6 i + 1)) _ _ _ ⟨by omega, (show Inv _ from hI), by rw [hd]⟩ hw (lv_sub hl [0, 1, 2, 5, 6] rfl)
            · skip
              refine lv_aload hx hb dX1_drop_43 (lv_at hl 0 rfl) ?_
              refine lv_iconst (v := 2) hx hb dX1_drop_45 (by decide) ?_
              refine lv_bipush (v := (-3)) hx hb dX1_drop_46 (by decide) ?_
              refine k_i hw (va_runV (As := [.int 2, .int (-3)]) (rest := []) ⟨hx, hb, hml, hown, hts⟩ (c_X0_letGo l G f wa (sU S 6 i ((S 6 i) + 1)) M (show i < 25 by omega) hf_i 2 (-3)) (cwV 2 hts gX1_drop_X0_letGo rfl rfl rfl (by decide +kernel) ⟨Nat.le_of_ble_eq_true rfl, Nat.le_of_ble_eq_true rfl⟩) (hw.preL (show i < 25 by omega) hf_i _) rfl rfl hl.1 rfl (lv_room (Nat.le_of_ble_eq_true rfl)) dX1_drop_48 ⟨Nat.le_of_ble_eq_true rfl, Nat.le_of_ble_eq_true rfl⟩) (fun r u H locs hR hw => ?_)
              obtain ⟨hq, rfl⟩ := hR
              obtain rfl := hq.symm
              exact e_i hx hb hr hlocks hw dX1_drop_51 (leafC (by simp only [oc_drop, oj_drop, hd, lg, lg2, ↓reduceIte, isH_nI hi, cl24 hi, c_4, c_9, c_15, clq, h0_i, c_40]))
        · skip
          refine lv_iconst (v := (-1)) hx hb dX1_drop_18 (by decide) ?_
          exact e_i hx hb hr hlocks hw dX1_drop_19 (leafC (by simp only [oc_drop, oj_drop, hd, lg, lg2, ↓reduceIte, isH_nI hi, cl24 hi, c_4, c_9, c_15, c_15]))
