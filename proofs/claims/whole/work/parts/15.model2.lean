set_option maxHeartbeats 800000 in
set_option maxRecDepth 100000 in
theorem c_X2_move (l : Launch) (G : GT) (f : Nat → Option Nat) (wa : Nat → Nat) (S M : Tb) (hI : Inv M) (p1 p2 : Int32) : Met l yX2_move wsX2_move (rk 2) (va_Pc [.ref (gm G), .int p1, .int p2] (Wo G (f, wa, S, M))) (Qi G (fun r u => r = (om_move M p1 p2).1 ∧ u = (f, wa, S, (om_move M p1 p2).2))) 0 0 (gA G) := by
  refine m_head (cc := cX2_move) (maxL := 4) (ret := (some .int)) (by decide) rfl (Nat.le_of_ble_eq_true rfl) ?_
  intro p e s m below meth c hx hb hml hr hlocks hown hts hw ls hl
  have hown : s.vm.findClass RX2 = some m.cls := hown
  have hl : lv_has ls 4 [(0, .ref (gm G)), (1, .int p1), (2, .int p2)] := hl
  have hin2 : ∀ w ∈ wsX20, w ∈ wsX2_move := by decide +kernel
  have lk7 := hts (.fieldLink RX2 7 "LockerWallModel" "there" "[Z") (by decide +kernel)
  have lk20 := hts (.fieldLink RX2 20 "LockerWallModel" "open" "[Z") (by decide +kernel)
  have lk26 := hts (.fieldLink RX2 26 "LockerWallModel" "many" "[I") (by decide +kernel)
  refine lv_iload_n hx hb dX2_move_0 rfl (lv_at hl 1 rfl) ?_
  refine k_i hw (va_runS (As := [.int p1]) (rest := []) ⟨hx, hb, hml, hown, hts⟩ (c_X2_isHook l G f wa S M p1) (va_cwS 1 hts gX2_move_X2_isHook rfl rfl rfl (by decide +kernel) ⟨Nat.le_of_ble_eq_true rfl, Nat.le_of_ble_eq_true rfl⟩) (hw.preS _) rfl rfl hl.1 rfl (lv_room (Nat.le_of_ble_eq_true rfl)) dX2_move_1 ⟨Nat.le_of_ble_eq_true rfl, Nat.le_of_ble_eq_true rfl⟩) (fun r u H locs hR hw => ?_)
  obtain ⟨hq, rfl⟩ := hR
  obtain rfl := hq.symm
  cases hh_1 : isH p1
  · skip
    refine W.eq (g2 := F0 m 4 ls [.int 0]) rfl ?_
    refine lv_if_eq (tgt := 14) hx hb dX2_move_4 (by decide) (fun c_4 => ?_) (fun c_4 => ?_)
    · skip
      refine lv_iconst (v := (-1)) hx hb dX2_move_14 (by decide) ?_
      exact e_i hx hb hr hlocks hw dX2_move_15 (leafM (by simp only [om_move, mj_move, ml, ml2, ↓reduceIte, hh_1, Bool.false_eq_true, c_4]))
    · skip
      exact absurd c_4 (by decide)
  · skip
    refine W.eq (g2 := F0 m 4 ls [.int 1]) rfl ?_
    obtain ⟨i, hi, rfl⟩ := isH_of hh_1
    obtain ⟨n_i, h10_i, hn_i⟩ := hI i hi
    refine lv_if_eq (tgt := 14) hx hb dX2_move_4 (by decide) (fun c_4 => ?_) (fun c_4 => ?_)
    · skip
      exact absurd c_4 (by decide)
    · skip
      refine lv_iload_n hx hb dX2_move_7 rfl (lv_at hl 2 rfl) ?_
      refine k_i hw (va_runS (As := [.int p2]) (rest := []) ⟨hx, hb, hml, hown, hts⟩ (c_X2_isHook l G f wa S M p2) (va_cwS 1 hts gX2_move_X2_isHook rfl rfl rfl (by decide +kernel) ⟨Nat.le_of_ble_eq_true rfl, Nat.le_of_ble_eq_true rfl⟩) (hw.preS _) rfl rfl hl.1 rfl (lv_room (Nat.le_of_ble_eq_true rfl)) dX2_move_8 ⟨Nat.le_of_ble_eq_true rfl, Nat.le_of_ble_eq_true rfl⟩) (fun r u H locs hR hw => ?_)
      obtain ⟨hq, rfl⟩ := hR
      obtain rfl := hq.symm
      cases hh_8 : isH p2
      · skip
        refine W.eq (g2 := F0 m 11 ls [.int 0]) rfl ?_
        refine lv_if_ne (tgt := 16) hx hb dX2_move_11 (by decide) (fun c_11 => ?_) (fun c_11 => ?_)
        · skip
          exact absurd c_11 (by decide)
        · skip
          refine lv_iconst (v := (-1)) hx hb dX2_move_14 (by decide) ?_
          exact e_i hx hb hr hlocks hw dX2_move_15 (leafM (by simp only [om_move, mj_move, ml, ml2, ↓reduceIte, isH_nI hi, cl24 hi, c_4, hh_8, Bool.false_eq_true, c_11]))
      · skip
        refine W.eq (g2 := F0 m 11 ls [.int 1]) rfl ?_
        obtain ⟨j, hj, rfl⟩ := isH_of hh_8
        obtain ⟨n_j, h10_j, hn_j⟩ := hI j hj
        refine lv_if_ne (tgt := 16) hx hb dX2_move_11 (by decide) (fun c_11 => ?_) (fun c_11 => ?_)
        · skip
          refine lv_aload_n hx hb dX2_move_16 rfl (lv_at hl 0 rfl) ?_
          refine r_getM (v := .ref (gc G 0)) hx hb hts hin2 hown hw 0 (by decide) lk7 rfl dX2_move_17 ?_
          refine lv_iload_n hx hb dX2_move_20 rfl (lv_at hl 1 rfl) ?_
          refine r_mldZ hx hb hw 0 (by decide) (by decide) (i) (rfl) (show i < 24 by omega) dX2_move_21 ?_
          refine lv_if_ne (tgt := 28) hx hb dX2_move_22 (by decide) (fun c_22 => ?_) (fun c_22 => ?_)
          · skip
            refine lv_aload_n hx hb dX2_move_28 rfl (lv_at hl 0 rfl) ?_
            refine r_getM (v := .ref (gc G 0)) hx hb hts hin2 hown hw 0 (by decide) lk7 rfl dX2_move_29 ?_
            refine lv_iload_n hx hb dX2_move_32 rfl (lv_at hl 2 rfl) ?_
            refine r_mldZ hx hb hw 0 (by decide) (by decide) (j) (rfl) (show j < 24 by omega) dX2_move_33 ?_
            refine lv_if_ne (tgt := 46) hx hb dX2_move_34 (by decide) (fun c_34 => ?_) (fun c_34 => ?_)
            · skip
              refine lv_aload_n hx hb dX2_move_46 rfl (lv_at hl 0 rfl) ?_
              refine r_getM (v := .ref (gc G 3)) hx hb hts hin2 hown hw 3 (by decide) lk20 rfl dX2_move_47 ?_
              refine lv_iload_n hx hb dX2_move_50 rfl (lv_at hl 1 rfl) ?_
              refine r_mldZ hx hb hw 3 (by decide) (by decide) (i) (rfl) (show i < 24 by omega) dX2_move_51 ?_
              refine lv_if_eq (tgt := 64) hx hb dX2_move_52 (by decide) (fun c_52 => ?_) (fun c_52 => ?_)
              · skip
                refine lv_aload_n hx hb dX2_move_64 rfl (lv_at hl 0 rfl) ?_
                refine lv_iload_n hx hb dX2_move_65 rfl (lv_at hl 1 rfl) ?_
                refine lv_iload_n hx hb dX2_move_66 rfl (lv_at hl 2 rfl) ?_
                refine lv_iconst (v := 2) hx hb dX2_move_67 (by decide) ?_
                refine lv_bipush (v := (-3)) hx hb dX2_move_68 (by decide) ?_
                refine k_i hw (va_runV (As := [.int (nI i), .int (nI j), .int 2, .int (-3)]) (rest := []) ⟨hx, hb, hml, hown, hts⟩ (c_X2_letBoth l G f wa S M (i := i) (j := j) (by omega) (by omega) 2 (-3)) (cwV 4 hts gX2_move_X2_letBoth rfl rfl rfl (by decide +kernel) ⟨Nat.le_of_ble_eq_true rfl, Nat.le_of_ble_eq_true rfl⟩) (hw.preM _) rfl rfl hl.1 rfl (lv_room (Nat.le_of_ble_eq_true rfl)) dX2_move_70 ⟨Nat.le_of_ble_eq_true rfl, Nat.le_of_ble_eq_true rfl⟩) (fun r u H locs hR hw => ?_)
                obtain ⟨hq, rfl⟩ := hR
                obtain rfl := hq.symm
                exact e_i hx hb hr hlocks hw dX2_move_73 (leafM (by simp only [om_move, mj_move, ml, ml2, ↓reduceIte, isH_nI hi, cl24 hi, c_4, isH_nI hj, cl24 hj, c_11, c_22, c_34, c_52]))
              · skip
                refine lv_aload_n hx hb dX2_move_55 rfl (lv_at hl 0 rfl) ?_
                refine r_getM (v := .ref (gc G 3)) hx hb hts hin2 hown hw 3 (by decide) lk20 rfl dX2_move_56 ?_
                refine lv_iload_n hx hb dX2_move_59 rfl (lv_at hl 2 rfl) ?_
                refine r_mldZ hx hb hw 3 (by decide) (by decide) (j) (rfl) (show j < 24 by omega) dX2_move_60 ?_
                refine lv_if_ne (tgt := 74) hx hb dX2_move_61 (by decide) (fun c_61 => ?_) (fun c_61 => ?_)
                · skip
                  refine lv_aload_n hx hb dX2_move_74 rfl (lv_at hl 0 rfl) ?_
                  refine r_getM (v := .ref (gc G 5)) hx hb hts hin2 hown hw 5 (by decide) lk26 rfl dX2_move_75 ?_
                  refine lv_iload_n hx hb dX2_move_78 rfl (lv_at hl 1 rfl) ?_
                  refine r_mld hx hb hw 5 (by decide) (by decide) (i) (rfl) (show i < 24 by omega) dX2_move_79 ?_
                  refine lv_if_ne (tgt := 93) hx hb dX2_move_80 (by decide) (fun c_80 => ?_) (fun c_80 => ?_)
                  · skip
                    obtain ⟨q_i, hq_i, hs_i⟩ := n_succ hn_i h10_i c_80
                    have hI1 := hI.rm hs_i hq_i
                    obtain ⟨n_k, h10_k, hn_k⟩ := hI1 j hj
                    have hr_i : rmS M i 5 i = nI q_i := by rw [rmS, sU_self, hs_i, nI_pred]
                    refine lv_aload_n hx hb dX2_move_93 rfl (lv_at hl 0 rfl) ?_
                    refine lv_iload_n hx hb dX2_move_94 rfl (lv_at hl 1 rfl) ?_
                    refine k_i hw (va_runV (As := [.int (nI i)]) (rest := []) ⟨hx, hb, hml, hown, hts⟩ (c_X2_takeLast l G f wa S M (i := i) (by omega) hs_i hq_i) (cwV 1 hts gX2_move_X2_takeLast rfl rfl rfl (by decide +kernel) ⟨Nat.le_of_ble_eq_true rfl, Nat.le_of_ble_eq_true rfl⟩) (hw.preM _) rfl rfl hl.1 rfl (lv_room (Nat.le_of_ble_eq_true rfl)) dX2_move_95 ⟨Nat.le_of_ble_eq_true rfl, Nat.le_of_ble_eq_true rfl⟩) (fun r u H locs hR hw => ?_)
                    obtain ⟨hq, rfl⟩ := hR
                    obtain rfl := hq.symm
                    refine lv_istore_n (lv' := [(3, .int (rmV M i)), (0, .ref (gm G)), (1, .int (nI i)), (2, .int (nI j))]) hx hb dX2_move_98 rfl hl (by decide) rfl (fun ls hl => ?_)
                    refine lv_aload_n hx hb dX2_move_99 rfl (lv_at hl 1 rfl) ?_
                    refine lv_iload_n hx hb dX2_move_100 rfl (lv_at hl 3 rfl) ?_
                    refine lv_iload_n hx hb dX2_move_101 rfl (lv_at hl 0 rfl) ?_
                    refine k_i hw (va_runV (As := [.int (nI j), .int (rmV M i)]) (rest := []) ⟨hx, hb, hml, hown, hts⟩ (c_X2_hasRoom l G f wa S (rmS M i) (i := j) (by omega) hn_k h10_k (rmV M i)) (cwV 2 hts gX2_move_X2_hasRoom rfl rfl rfl (by decide +kernel) ⟨Nat.le_of_ble_eq_true rfl, Nat.le_of_ble_eq_true rfl⟩) (hw.preM _) rfl rfl hl.1 rfl (lv_room (Nat.le_of_ble_eq_true rfl)) dX2_move_102 ⟨Nat.le_of_ble_eq_true rfl, Nat.le_of_ble_eq_true rfl⟩) (fun r u H locs hR hw => ?_)
                    obtain ⟨hq, rfl⟩ := hR
                    obtain rfl := hq.symm
                    cases hh_102 : okA (rmS M i) j (rmV M i)
                    · skip
                      refine W.eq (g2 := F0 m 105 ls [.int 0]) rfl ?_
                      refine lv_if_ne (tgt := 124) hx hb dX2_move_105 (by decide) (fun c_105 => ?_) (fun c_105 => ?_)
                      · skip
                        exact absurd c_105 (by decide)
                      · skip
                        refine lv_aload_n hx hb dX2_move_108 rfl (lv_at hl 1 rfl) ?_
                        refine lv_iload_n hx hb dX2_move_109 rfl (lv_at hl 2 rfl) ?_
                        refine lv_iload_n hx hb dX2_move_110 rfl (lv_at hl 0 rfl) ?_
                        refine k_v hw (va_runV (As := [.int (nI i), .int (rmV M i)]) (rest := []) ⟨hx, hb, hml, hown, hts⟩ (c_X2_add l G f wa S (rmS M i) (i := i) (by omega) hr_i hq_i (rmV M i)) (cwV 2 hts gX2_move_X2_add rfl rfl rfl (by decide +kernel) ⟨Nat.le_of_ble_eq_true rfl, Nat.le_of_ble_eq_true rfl⟩) (hw.preM _) rfl rfl hl.1 rfl (lv_room (Nat.le_of_ble_eq_true rfl)) dX2_move_111 ⟨Nat.le_of_ble_eq_true rfl, Nat.le_of_ble_eq_true rfl⟩) (fun u H locs hR hw => ?_)
                        obtain rfl := hR
                        refine lv_aload_n hx hb dX2_move_114 rfl (lv_at hl 1 rfl) ?_
                        refine lv_iload_n hx hb dX2_move_115 rfl (lv_at hl 2 rfl) ?_
                        refine lv_iload_n hx hb dX2_move_116 rfl (lv_at hl 3 rfl) ?_
                        refine lv_iconst (v := 4) hx hb dX2_move_117 (by decide) ?_
                        refine lv_bipush (v := (-5)) hx hb dX2_move_118 (by decide) ?_
                        refine k_i hw (va_runV (As := [.int (nI i), .int (nI j), .int 4, .int (-5)]) (rest := []) ⟨hx, hb, hml, hown, hts⟩ (c_X2_letBoth l G f wa S (acS (rmS M i) i (rmV M i)) (i := i) (j := j) (by omega) (by omega) 4 (-5)) (cwV 4 hts gX2_move_X2_letBoth rfl rfl rfl (by decide +kernel) ⟨Nat.le_of_ble_eq_true rfl, Nat.le_of_ble_eq_true rfl⟩) (hw.preM _) rfl rfl hl.1 rfl (lv_room (Nat.le_of_ble_eq_true rfl)) dX2_move_120 ⟨Nat.le_of_ble_eq_true rfl, Nat.le_of_ble_eq_true rfl⟩) (fun r u H locs hR hw => ?_)
                        obtain ⟨hq, rfl⟩ := hR
                        obtain rfl := hq.symm
                        exact e_i hx hb hr hlocks hw dX2_move_123 (leafM (by simp only [om_move, mj_move, ml, ml2, ↓reduceIte, isH_nI hi, cl24 hi, c_4, isH_nI hj, cl24 hj, c_11, c_22, c_34, c_52, c_61, c_80, hh_102, Bool.false_eq_true, c_105]))
                    · skip
                      refine W.eq (g2 := F0 m 105 ls [.int 1]) rfl ?_
                      refine lv_if_ne (tgt := 124) hx hb dX2_move_105 (by decide) (fun c_105 => ?_) (fun c_105 => ?_)
                      · skip
                        have hlt_k : n_k < 10 := okA_lt hn_k h10_k hh_102
                        refine lv_aload_n hx hb dX2_move_124 rfl (lv_at hl 1 rfl) ?_
                        refine lv_iload_n hx hb dX2_move_125 rfl (lv_at hl 3 rfl) ?_
                        refine lv_iload_n hx hb dX2_move_126 rfl (lv_at hl 0 rfl) ?_
                        refine k_v hw (va_runV (As := [.int (nI j), .int (rmV M i)]) (rest := []) ⟨hx, hb, hml, hown, hts⟩ (c_X2_add l G f wa S (rmS M i) (i := j) (by omega) hn_k hlt_k (rmV M i)) (cwV 2 hts gX2_move_X2_add rfl rfl rfl (by decide +kernel) ⟨Nat.le_of_ble_eq_true rfl, Nat.le_of_ble_eq_true rfl⟩) (hw.preM _) rfl rfl hl.1 rfl (lv_room (Nat.le_of_ble_eq_true rfl)) dX2_move_127 ⟨Nat.le_of_ble_eq_true rfl, Nat.le_of_ble_eq_true rfl⟩) (fun u H locs hR hw => ?_)
                        obtain rfl := hR
                        refine lv_aload_n hx hb dX2_move_130 rfl (lv_at hl 1 rfl) ?_
                        refine lv_iload_n hx hb dX2_move_131 rfl (lv_at hl 2 rfl) ?_
                        refine lv_iload_n hx hb dX2_move_132 rfl (lv_at hl 3 rfl) ?_
                        refine lv_iconst (v := 1) hx hb dX2_move_133 (by decide) ?_
                        refine lv_iload_n hx hb dX2_move_134 rfl (lv_at hl 0 rfl) ?_
                        refine k_i hw (va_runV (As := [.int (nI i), .int (nI j), .int 1, .int (rmV M i)]) (rest := []) ⟨hx, hb, hml, hown, hts⟩ (c_X2_letBoth l G f wa S (acS (rmS M i) j (rmV M i)) (i := i) (j := j) (by omega) (by omega) 1 (rmV M i)) (cwV 4 hts gX2_move_X2_letBoth rfl rfl rfl (by decide +kernel) ⟨Nat.le_of_ble_eq_true rfl, Nat.le_of_ble_eq_true rfl⟩) (hw.preM _) rfl rfl hl.1 rfl (lv_room (Nat.le_of_ble_eq_true rfl)) dX2_move_135 ⟨Nat.le_of_ble_eq_true rfl, Nat.le_of_ble_eq_true rfl⟩) (fun r u H locs hR hw => ?_)
                        obtain ⟨hq, rfl⟩ := hR
                        obtain rfl := hq.symm
                        exact e_i hx hb hr hlocks hw dX2_move_138 (leafM (by simp only [om_move, mj_move, ml, ml2, ↓reduceIte, isH_nI hi, cl24 hi, c_4, isH_nI hj, cl24 hj, c_11, c_22, c_34, c_52, c_61, c_80, hh_102, c_105]))
                      · skip
                        exact absurd c_105 (by decide)
                  · skip
                    refine lv_aload_n hx hb dX2_move_83 rfl (lv_at hl 0 rfl) ?_
                    refine lv_iload_n hx hb dX2_move_84 rfl (lv_at hl 1 rfl) ?_
                    refine lv_iload_n hx hb dX2_move_85 rfl (lv_at hl 2 rfl) ?_
                    refine lv_iconst (v := 4) hx hb dX2_move_86 (by decide) ?_
                    refine lv_bipush (v := (-6)) hx hb dX2_move_87 (by decide) ?_
                    refine k_i hw (va_runV (As := [.int (nI i), .int (nI j), .int 4, .int (-6)]) (rest := []) ⟨hx, hb, hml, hown, hts⟩ (c_X2_letBoth l G f wa S M (i := i) (j := j) (by omega) (by omega) 4 (-6)) (cwV 4 hts gX2_move_X2_letBoth rfl rfl rfl (by decide +kernel) ⟨Nat.le_of_ble_eq_true rfl, Nat.le_of_ble_eq_true rfl⟩) (hw.preM _) rfl rfl hl.1 rfl (lv_room (Nat.le_of_ble_eq_true rfl)) dX2_move_89 ⟨Nat.le_of_ble_eq_true rfl, Nat.le_of_ble_eq_true rfl⟩) (fun r u H locs hR hw => ?_)
                    obtain ⟨hq, rfl⟩ := hR
                    obtain rfl := hq.symm
                    exact e_i hx hb hr hlocks hw dX2_move_92 (leafM (by simp only [om_move, mj_move, ml, ml2, ↓reduceIte, isH_nI hi, cl24 hi, c_4, isH_nI hj, cl24 hj, c_11, c_22, c_34, c_52, c_61, c_80]))
                · skip
                  refine lv_aload_n hx hb dX2_move_64 rfl (lv_at hl 0 rfl) ?_
                  refine lv_iload_n hx hb dX2_move_65 rfl (lv_at hl 1 rfl) ?_
                  refine lv_iload_n hx hb dX2_move_66 rfl (lv_at hl 2 rfl) ?_
                  refine lv_iconst (v := 2) hx hb dX2_move_67 (by decide) ?_
                  refine lv_bipush (v := (-3)) hx hb dX2_move_68 (by decide) ?_
                  refine k_i hw (va_runV (As := [.int (nI i), .int (nI j), .int 2, .int (-3)]) (rest := []) ⟨hx, hb, hml, hown, hts⟩ (c_X2_letBoth l G f wa S M (i := i) (j := j) (by omega) (by omega) 2 (-3)) (cwV 4 hts gX2_move_X2_letBoth rfl rfl rfl (by decide +kernel) ⟨Nat.le_of_ble_eq_true rfl, Nat.le_of_ble_eq_true rfl⟩) (hw.preM _) rfl rfl hl.1 rfl (lv_room (Nat.le_of_ble_eq_true rfl)) dX2_move_70 ⟨Nat.le_of_ble_eq_true rfl, Nat.le_of_ble_eq_true rfl⟩) (fun r u H locs hR hw => ?_)
                  obtain ⟨hq, rfl⟩ := hR
                  obtain rfl := hq.symm
                  exact e_i hx hb hr hlocks hw dX2_move_73 (leafM (by simp only [om_move, mj_move, ml, ml2, ↓reduceIte, isH_nI hi, cl24 hi, c_4, isH_nI hj, cl24 hj, c_11, c_22, c_34, c_52, c_61]))
            · skip
              refine lv_aload_n hx hb dX2_move_37 rfl (lv_at hl 0 rfl) ?_
              refine lv_iload_n hx hb dX2_move_38 rfl (lv_at hl 1 rfl) ?_
              refine lv_iconst (v := 4) hx hb dX2_move_39 (by decide) ?_
              refine lv_bipush (v := (-2)) hx hb dX2_move_40 (by decide) ?_
              refine k_i hw (va_runV (As := [.int (nI i), .int 4, .int (-2)]) (rest := []) ⟨hx, hb, hml, hown, hts⟩ (c_X2_let l G f wa S M (j := i) (by omega) 4 (-2)) (cwV 3 hts gX2_move_X2_let rfl rfl rfl (by decide +kernel) ⟨Nat.le_of_ble_eq_true rfl, Nat.le_of_ble_eq_true rfl⟩) (hw.preM _) rfl rfl hl.1 rfl (lv_room (Nat.le_of_ble_eq_true rfl)) dX2_move_42 ⟨Nat.le_of_ble_eq_true rfl, Nat.le_of_ble_eq_true rfl⟩) (fun r u H locs hR hw => ?_)
              obtain ⟨hq, rfl⟩ := hR
              obtain rfl := hq.symm
              exact e_i hx hb hr hlocks hw dX2_move_45 (leafM (by simp only [om_move, mj_move, ml, ml2, ↓reduceIte, isH_nI hi, cl24 hi, c_4, isH_nI hj, cl24 hj, c_11, c_22, c_34]))
          · skip
            refine lv_bipush (v := (-2)) hx hb dX2_move_25 (by decide) ?_
            exact e_i hx hb hr hlocks hw dX2_move_27 (leafM (by simp only [om_move, mj_move, ml, ml2, ↓reduceIte, isH_nI hi, cl24 hi, c_4, isH_nI hj, cl24 hj, c_11, c_22]))
        · skip
          exact absurd c_11 (by decide)

set_option maxHeartbeats 800000 in
set_option maxRecDepth 100000 in
theorem c_X2_swap (l : Launch) (G : GT) (f : Nat → Option Nat) (wa : Nat → Nat) (S M : Tb) (hI : Inv M) (p1 p2 : Int32) : Met l yX2_swap wsX2_swap (rk 1) (va_Pc [.ref (gm G), .int p1, .int p2] (Wo G (f, wa, S, M))) (Qi G (fun r u => r = (om_swap M p1 p2).1 ∧ u = (f, wa, S, (om_swap M p1 p2).2))) 0 0 (gA G) := by
  refine m_head (cc := cX2_swap) (maxL := 5) (ret := (some .int)) (by decide) rfl (Nat.le_of_ble_eq_true rfl) ?_
  intro p e s m below meth c hx hb hml hr hlocks hown hts hw ls hl
  have hown : s.vm.findClass RX2 = some m.cls := hown
  have hl : lv_has ls 5 [(0, .ref (gm G)), (1, .int p1), (2, .int p2)] := hl
  have hin2 : ∀ w ∈ wsX20, w ∈ wsX2_swap := by decide +kernel
  have lk7 := hts (.fieldLink RX2 7 "LockerWallModel" "there" "[Z") (by decide +kernel)
  have lk20 := hts (.fieldLink RX2 20 "LockerWallModel" "open" "[Z") (by decide +kernel)
  have lk13 := hts (.fieldLink RX2 13 "LockerWallModel" "room" "[I") (by decide +kernel)
  have lk26 := hts (.fieldLink RX2 26 "LockerWallModel" "many" "[I") (by decide +kernel)
  have lk35 := hts (.fieldLink RX2 35 "LockerWallModel" "item" "[I") (by decide +kernel)
  refine lv_iload_n hx hb dX2_swap_0 rfl (lv_at hl 1 rfl) ?_
  refine k_i hw (va_runS (As := [.int p1]) (rest := []) ⟨hx, hb, hml, hown, hts⟩ (c_X2_isHook l G f wa S M p1) (va_cwS 1 hts gX2_swap_X2_isHook rfl rfl rfl (by decide +kernel) ⟨Nat.le_of_ble_eq_true rfl, Nat.le_of_ble_eq_true rfl⟩) (hw.preS _) rfl rfl hl.1 rfl (lv_room (Nat.le_of_ble_eq_true rfl)) dX2_swap_1 ⟨Nat.le_of_ble_eq_true rfl, Nat.le_of_ble_eq_true rfl⟩) (fun r u H locs hR hw => ?_)
  obtain ⟨hq, rfl⟩ := hR
  obtain rfl := hq.symm
  cases hh_1 : isH p1
  · skip
    refine W.eq (g2 := F0 m 4 ls [.int 0]) rfl ?_
    refine lv_if_eq (tgt := 14) hx hb dX2_swap_4 (by decide) (fun c_4 => ?_) (fun c_4 => ?_)
    · skip
      refine lv_iconst (v := (-1)) hx hb dX2_swap_14 (by decide) ?_
      exact e_i hx hb hr hlocks hw dX2_swap_15 (leafM (by simp only [om_swap, mj_swap, ml, ml2, ↓reduceIte, hh_1, Bool.false_eq_true, c_4]))
    · skip
      exact absurd c_4 (by decide)
  · skip
    refine W.eq (g2 := F0 m 4 ls [.int 1]) rfl ?_
    obtain ⟨i, hi, rfl⟩ := isH_of hh_1
    obtain ⟨n_i, h10_i, hn_i⟩ := hI i hi
    refine lv_if_eq (tgt := 14) hx hb dX2_swap_4 (by decide) (fun c_4 => ?_) (fun c_4 => ?_)
    · skip
      exact absurd c_4 (by decide)
    · skip
      refine lv_iload_n hx hb dX2_swap_7 rfl (lv_at hl 2 rfl) ?_
      refine k_i hw (va_runS (As := [.int p2]) (rest := []) ⟨hx, hb, hml, hown, hts⟩ (c_X2_isHook l G f wa S M p2) (va_cwS 1 hts gX2_swap_X2_isHook rfl rfl rfl (by decide +kernel) ⟨Nat.le_of_ble_eq_true rfl, Nat.le_of_ble_eq_true rfl⟩) (hw.preS _) rfl rfl hl.1 rfl (lv_room (Nat.le_of_ble_eq_true rfl)) dX2_swap_8 ⟨Nat.le_of_ble_eq_true rfl, Nat.le_of_ble_eq_true rfl⟩) (fun r u H locs hR hw => ?_)
      obtain ⟨hq, rfl⟩ := hR
      obtain rfl := hq.symm
      cases hh_8 : isH p2
      · skip
        refine W.eq (g2 := F0 m 11 ls [.int 0]) rfl ?_
        refine lv_if_ne (tgt := 16) hx hb dX2_swap_11 (by decide) (fun c_11 => ?_) (fun c_11 => ?_)
        · skip
          exact absurd c_11 (by decide)
        · skip
          refine lv_iconst (v := (-1)) hx hb dX2_swap_14 (by decide) ?_
          exact e_i hx hb hr hlocks hw dX2_swap_15 (leafM (by simp only [om_swap, mj_swap, ml, ml2, ↓reduceIte, isH_nI hi, cl24 hi, c_4, hh_8, Bool.false_eq_true, c_11]))
      · skip
        refine W.eq (g2 := F0 m 11 ls [.int 1]) rfl ?_
        obtain ⟨j, hj, rfl⟩ := isH_of hh_8
        obtain ⟨n_j, h10_j, hn_j⟩ := hI j hj
        refine lv_if_ne (tgt := 16) hx hb dX2_swap_11 (by decide) (fun c_11 => ?_) (fun c_11 => ?_)
        · skip
          refine lv_aload_n hx hb dX2_swap_16 rfl (lv_at hl 0 rfl) ?_
          refine r_getM (v := .ref (gc G 0)) hx hb hts hin2 hown hw 0 (by decide) lk7 rfl dX2_swap_17 ?_
          refine lv_iload_n hx hb dX2_swap_20 rfl (lv_at hl 1 rfl) ?_
          refine r_mldZ hx hb hw 0 (by decide) (by decide) (i) (rfl) (show i < 24 by omega) dX2_swap_21 ?_
          refine lv_if_ne (tgt := 28) hx hb dX2_swap_22 (by decide) (fun c_22 => ?_) (fun c_22 => ?_)
          · skip
            refine lv_aload_n hx hb dX2_swap_28 rfl (lv_at hl 0 rfl) ?_
            refine r_getM (v := .ref (gc G 0)) hx hb hts hin2 hown hw 0 (by decide) lk7 rfl dX2_swap_29 ?_
            refine lv_iload_n hx hb dX2_swap_32 rfl (lv_at hl 2 rfl) ?_
            refine r_mldZ hx hb hw 0 (by decide) (by decide) (j) (rfl) (show j < 24 by omega) dX2_swap_33 ?_
            refine lv_if_ne (tgt := 46) hx hb dX2_swap_34 (by decide) (fun c_34 => ?_) (fun c_34 => ?_)
            · skip
              refine lv_aload_n hx hb dX2_swap_46 rfl (lv_at hl 0 rfl) ?_
              refine r_getM (v := .ref (gc G 3)) hx hb hts hin2 hown hw 3 (by decide) lk20 rfl dX2_swap_47 ?_
              refine lv_iload_n hx hb dX2_swap_50 rfl (lv_at hl 1 rfl) ?_
              refine r_mldZ hx hb hw 3 (by decide) (by decide) (i) (rfl) (show i < 24 by omega) dX2_swap_51 ?_
              refine lv_if_eq (tgt := 64) hx hb dX2_swap_52 (by decide) (fun c_52 => ?_) (fun c_52 => ?_)
              · skip
                refine lv_aload_n hx hb dX2_swap_64 rfl (lv_at hl 0 rfl) ?_
                refine lv_iload_n hx hb dX2_swap_65 rfl (lv_at hl 1 rfl) ?_
                refine lv_iload_n hx hb dX2_swap_66 rfl (lv_at hl 2 rfl) ?_
                refine lv_iconst (v := 2) hx hb dX2_swap_67 (by decide) ?_
                refine lv_bipush (v := (-3)) hx hb dX2_swap_68 (by decide) ?_
                refine k_i hw (va_runV (As := [.int (nI i), .int (nI j), .int 2, .int (-3)]) (rest := []) ⟨hx, hb, hml, hown, hts⟩ (c_X2_letBoth l G f wa S M (i := i) (j := j) (by omega) (by omega) 2 (-3)) (cwV 4 hts gX2_swap_X2_letBoth rfl rfl rfl (by decide +kernel) ⟨Nat.le_of_ble_eq_true rfl, Nat.le_of_ble_eq_true rfl⟩) (hw.preM _) rfl rfl hl.1 rfl (lv_room (Nat.le_of_ble_eq_true rfl)) dX2_swap_70 ⟨Nat.le_of_ble_eq_true rfl, Nat.le_of_ble_eq_true rfl⟩) (fun r u H locs hR hw => ?_)
                obtain ⟨hq, rfl⟩ := hR
                obtain rfl := hq.symm
                exact e_i hx hb hr hlocks hw dX2_swap_73 (leafM (by simp only [om_swap, mj_swap, ml, ml2, ↓reduceIte, isH_nI hi, cl24 hi, c_4, isH_nI hj, cl24 hj, c_11, c_22, c_34, c_52]))
              · skip
                refine lv_aload_n hx hb dX2_swap_55 rfl (lv_at hl 0 rfl) ?_
                refine r_getM (v := .ref (gc G 3)) hx hb hts hin2 hown hw 3 (by decide) lk20 rfl dX2_swap_56 ?_
                refine lv_iload_n hx hb dX2_swap_59 rfl (lv_at hl 2 rfl) ?_
                refine r_mldZ hx hb hw 3 (by decide) (by decide) (j) (rfl) (show j < 24 by omega) dX2_swap_60 ?_
                refine lv_if_ne (tgt := 74) hx hb dX2_swap_61 (by decide) (fun c_61 => ?_) (fun c_61 => ?_)
                · skip
                  refine lv_aload_n hx hb dX2_swap_74 rfl (lv_at hl 0 rfl) ?_
                  refine lv_iload_n hx hb dX2_swap_75 rfl (lv_at hl 1 rfl) ?_
                  refine k_i hw (va_runV (As := [.int (nI i)]) (rest := []) ⟨hx, hb, hml, hown, hts⟩ (c_X2_weight l G f wa S M (i := i) (by omega) hn_i h10_i) (cwV 1 hts gX2_swap_X2_weight rfl rfl rfl (by decide +kernel) ⟨Nat.le_of_ble_eq_true rfl, Nat.le_of_ble_eq_true rfl⟩) (hw.preM _) rfl rfl hl.1 rfl (lv_room (Nat.le_of_ble_eq_true rfl)) dX2_swap_76 ⟨Nat.le_of_ble_eq_true rfl, Nat.le_of_ble_eq_true rfl⟩) (fun r u H locs hR hw => ?_)
                  obtain ⟨hq, rfl⟩ := hR
                  obtain rfl := hq.symm
                  refine lv_aload_n hx hb dX2_swap_79 rfl (lv_at hl 0 rfl) ?_
                  refine r_getM (v := .ref (gc G 1)) hx hb hts hin2 hown hw 1 (by decide) lk13 rfl dX2_swap_80 ?_
                  refine lv_iload_n hx hb dX2_swap_83 rfl (lv_at hl 2 rfl) ?_
                  refine r_mld hx hb hw 1 (by decide) (by decide) (j) (rfl) (show j < 24 by omega) dX2_swap_84 ?_
                  refine lv_icmp_gt (tgt := 102) hx hb dX2_swap_85 (by decide) (fun c_85 => ?_) (fun c_85 => ?_)
                  · skip
                    refine lv_aload_n hx hb dX2_swap_102 rfl (lv_at hl 0 rfl) ?_
                    refine lv_iload_n hx hb dX2_swap_103 rfl (lv_at hl 1 rfl) ?_
                    refine lv_iload_n hx hb dX2_swap_104 rfl (lv_at hl 2 rfl) ?_
                    refine lv_iconst (v := 4) hx hb dX2_swap_105 (by decide) ?_
                    refine lv_bipush (v := (-5)) hx hb dX2_swap_106 (by decide) ?_
                    refine k_i hw (va_runV (As := [.int (nI i), .int (nI j), .int 4, .int (-5)]) (rest := []) ⟨hx, hb, hml, hown, hts⟩ (c_X2_letBoth l G f wa S M (i := i) (j := j) (by omega) (by omega) 4 (-5)) (cwV 4 hts gX2_swap_X2_letBoth rfl rfl rfl (by decide +kernel) ⟨Nat.le_of_ble_eq_true rfl, Nat.le_of_ble_eq_true rfl⟩) (hw.preM _) rfl rfl hl.1 rfl (lv_room (Nat.le_of_ble_eq_true rfl)) dX2_swap_108 ⟨Nat.le_of_ble_eq_true rfl, Nat.le_of_ble_eq_true rfl⟩) (fun r u H locs hR hw => ?_)
                    obtain ⟨hq, rfl⟩ := hR
                    obtain rfl := hq.symm
                    exact e_i hx hb hr hlocks hw dX2_swap_111 (leafM (by simp only [om_swap, mj_swap, ml, ml2, ↓reduceIte, isH_nI hi, cl24 hi, c_4, isH_nI hj, cl24 hj, c_11, c_22, c_34, c_52, c_61, c_85]))
                  · skip
                    refine lv_aload_n hx hb dX2_swap_88 rfl (lv_at hl 0 rfl) ?_
                    refine lv_iload_n hx hb dX2_swap_89 rfl (lv_at hl 2 rfl) ?_
                    refine k_i hw (va_runV (As := [.int (nI j)]) (rest := []) ⟨hx, hb, hml, hown, hts⟩ (c_X2_weight l G f wa S M (i := j) (by omega) hn_j h10_j) (cwV 1 hts gX2_swap_X2_weight rfl rfl rfl (by decide +kernel) ⟨Nat.le_of_ble_eq_true rfl, Nat.le_of_ble_eq_true rfl⟩) (hw.preM _) rfl rfl hl.1 rfl (lv_room (Nat.le_of_ble_eq_true rfl)) dX2_swap_90 ⟨Nat.le_of_ble_eq_true rfl, Nat.le_of_ble_eq_true rfl⟩) (fun r u H locs hR hw => ?_)
                    obtain ⟨hq, rfl⟩ := hR
                    obtain rfl := hq.symm
                    refine lv_aload_n hx hb dX2_swap_93 rfl (lv_at hl 0 rfl) ?_
                    refine r_getM (v := .ref (gc G 1)) hx hb hts hin2 hown hw 1 (by decide) lk13 rfl dX2_swap_94 ?_
                    refine lv_iload_n hx hb dX2_swap_97 rfl (lv_at hl 1 rfl) ?_
                    refine r_mld hx hb hw 1 (by decide) (by decide) (i) (rfl) (show i < 24 by omega) dX2_swap_98 ?_
                    refine lv_icmp_le (tgt := 112) hx hb dX2_swap_99 (by decide) (fun c_99 => ?_) (fun c_99 => ?_)
                    · skip
                      refine lv_iconst (v := 0) hx hb dX2_swap_112 (by decide) ?_
                      refine lv_istore_n (lv' := [(3, .int 0), (0, .ref (gm G)), (1, .int (nI i)), (2, .int (nI j))]) hx hb dX2_swap_113 rfl hl (by decide) rfl (fun ls hl => ?_)
                      have loop : ∀ (d k : Nat) (T : Tb) (H : Heap) (locs : List Loc) (ls : Array Slot), (k + d = 10 ∧ of_sw i j 10 0 M = of_sw i j d k T) → Wi G (f, wa, S, T) s H locs → lv_has ls 5 [(3, .int (nI k)), (0, .ref (gm G)), (1, .int (nI i)), (2, .int (nI j))] → W p l e (headSpec wsX2_swap (rk 1)).room s m [.ref (gm G), .int (nI i), .int (nI j)].toArray below meth c H locs 0 0 (MQ below (Qi G (fun r u => r = (om_swap M (nI i) (nI j)).1 ∧ u = (f, wa, S, (om_swap M (nI i) (nI j)).2))) [.ref (gm G), .int (nI i), .int (nI j)].toArray s 0 0 (gA G)) (F0 m 114 ls []) := by
                        intro d
                        induction d with
                        | zero =>
                          intro k T H locs ls hk hw hl
                          obtain ⟨hk10, hop⟩ := hk
                          have hop : of_sw i j 10 0 M = T := hop
                          refine lv_iload_n hx hb dX2_swap_114 rfl (lv_at hl 0 rfl) ?_
                          refine lv_bipush (v := 10) hx hb dX2_swap_115 (by decide) ?_
                          refine lv_icmp_ge (tgt := 174) hx hb dX2_swap_117 (by decide) (fun c_117 => ?_) (fun c_117 => ?_)
                          · skip
                            refine lv_aload_n hx hb dX2_swap_174 rfl (lv_at hl 1 rfl) ?_
                            refine r_getM (v := .ref (gc G 5)) hx hb hts hin2 hown hw 5 (by decide) lk26 rfl dX2_swap_175 ?_
                            refine lv_iload_n hx hb dX2_swap_178 rfl (lv_at hl 2 rfl) ?_
                            refine r_mld hx hb hw 5 (by decide) (by decide) (i) (rfl) (show i < 24 by omega) dX2_swap_179 ?_
                            refine lv_istore_n (lv' := [(3, .int (T 5 i)), (0, .ref (gm G)), (1, .int (nI i)), (2, .int (nI j))]) hx hb dX2_swap_180 rfl hl (by decide) rfl (fun ls hl => ?_)
                            refine lv_aload_n hx hb dX2_swap_181 rfl (lv_at hl 1 rfl) ?_
                            refine r_getM (v := .ref (gc G 5)) hx hb hts hin2 hown hw 5 (by decide) lk26 rfl dX2_swap_182 ?_
                            refine lv_iload_n hx hb dX2_swap_185 rfl (lv_at hl 2 rfl) ?_
                            refine lv_aload_n hx hb dX2_swap_186 rfl (lv_at hl 1 rfl) ?_
                            refine r_getM (v := .ref (gc G 5)) hx hb hts hin2 hown hw 5 (by decide) lk26 rfl dX2_swap_187 ?_
                            refine lv_iload_n hx hb dX2_swap_190 rfl (lv_at hl 3 rfl) ?_
                            refine r_mld hx hb hw 5 (by decide) (by decide) (j) (rfl) (show j < 24 by omega) dX2_swap_191 ?_
                            refine r_mst hx hb hw 5 (by decide) (by decide) (i) (rfl) (show i < 24 by omega) dX2_swap_192 (fun H locs hw => ?_)
                            have hw : Wi G (f, wa, S, sU T 5 i (T 5 j)) s H locs := hw
                            refine lv_aload_n hx hb dX2_swap_193 rfl (lv_at hl 1 rfl) ?_
                            refine r_getM (v := .ref (gc G 5)) hx hb hts hin2 hown hw 5 (by decide) lk26 rfl dX2_swap_194 ?_
                            refine lv_iload_n hx hb dX2_swap_197 rfl (lv_at hl 3 rfl) ?_
                            refine lv_iload_n hx hb dX2_swap_198 rfl (lv_at hl 0 rfl) ?_
                            refine r_mst hx hb hw 5 (by decide) (by decide) (j) (rfl) (show j < 24 by omega) dX2_swap_199 (fun H locs hw => ?_)
                            have hw : Wi G (f, wa, S, sU (sU T 5 i (T 5 j)) 5 j (T 5 i)) s H locs := hw
                            refine lv_aload_n hx hb dX2_swap_200 rfl (lv_at hl 1 rfl) ?_
                            refine lv_iload_n hx hb dX2_swap_201 rfl (lv_at hl 2 rfl) ?_
                            refine lv_iload_n hx hb dX2_swap_202 rfl (lv_at hl 3 rfl) ?_
                            refine lv_iconst (v := 1) hx hb dX2_swap_203 (by decide) ?_
                            refine lv_aload_n hx hb dX2_swap_204 rfl (lv_at hl 1 rfl) ?_
                            refine r_getM (v := .ref (gc G 5)) hx hb hts hin2 hown hw 5 (by decide) lk26 rfl dX2_swap_205 ?_
                            refine lv_iload_n hx hb dX2_swap_208 rfl (lv_at hl 2 rfl) ?_
                            refine r_mld hx hb hw 5 (by decide) (by decide) (i) (rfl) (show i < 24 by omega) dX2_swap_209 ?_
                            refine lv_aload_n hx hb dX2_swap_210 rfl (lv_at hl 1 rfl) ?_
                            refine r_getM (v := .ref (gc G 5)) hx hb hts hin2 hown hw 5 (by decide) lk26 rfl dX2_swap_211 ?_
                            refine lv_iload_n hx hb dX2_swap_214 rfl (lv_at hl 3 rfl) ?_
                            refine r_mld hx hb hw 5 (by decide) (by decide) (j) (rfl) (show j < 24 by omega) dX2_swap_215 ?_
                            refine W.eq (g2 := F0 m 216 ls [.int (T 5 i), .int ((sU (sU T 5 i (T 5 j)) 5 j (T 5 i)) 5 i), .int 1, .int (nI j), .int (nI i), .ref (gm G)]) (by simp [sU]) ?_
                            refine lv_iadd hx hb dX2_swap_216 ?_
                            refine k_i hw (va_runV (As := [.int (nI i), .int (nI j), .int 1, .int (((sU (sU T 5 i (T 5 j)) 5 j (T 5 i)) 5 i) + (T 5 i))]) (rest := []) ⟨hx, hb, hml, hown, hts⟩ (c_X2_letBoth l G f wa S (sU (sU T 5 i (T 5 j)) 5 j (T 5 i)) (i := i) (j := j) (by omega) (by omega) 1 (((sU (sU T 5 i (T 5 j)) 5 j (T 5 i)) 5 i) + (T 5 i))) (cwV 4 hts gX2_swap_X2_letBoth rfl rfl rfl (by decide +kernel) ⟨Nat.le_of_ble_eq_true rfl, Nat.le_of_ble_eq_true rfl⟩) (hw.preM _) rfl rfl hl.1 rfl (lv_room (Nat.le_of_ble_eq_true rfl)) dX2_swap_217 ⟨Nat.le_of_ble_eq_true rfl, Nat.le_of_ble_eq_true rfl⟩) (fun r u H locs hR hw => ?_)
                            obtain ⟨hq, rfl⟩ := hR
                            obtain rfl := hq.symm
                            exact e_i hx hb hr hlocks hw dX2_swap_220 (leafM (by simp only [om_swap, mj_swap, ↓reduceIte, swM, hop, sU_self, isH_nI hi, cl24 hi, c_4, isH_nI hj, cl24 hj, c_11, c_22, c_34, c_52, c_61, c_85, c_99, c_117]))
                          · skip
                            exact absurd (show (10 : Int32) ≤ nI k from nI_le (a := 10) (by omega) (by omega)) c_117
                        | succ d ih =>
                          intro k T H locs ls hk hw hl
                          obtain ⟨hk10, hop⟩ := hk
                          refine lv_iload_n hx hb dX2_swap_114 rfl (lv_at hl 0 rfl) ?_
                          refine lv_bipush (v := 10) hx hb dX2_swap_115 (by decide) ?_
                          refine lv_icmp_ge (tgt := 174) hx hb dX2_swap_117 (by decide) (fun c_117 => ?_) (fun c_117 => ?_)
                          · skip
                            exact absurd c_117 (nI_ge (b := 10) (show k < 10 by omega) (by decide))
                          · skip
                            refine lv_aload_n hx hb dX2_swap_120 rfl (lv_at hl 1 rfl) ?_
                            refine r_getM (v := .ref (gc G 8)) hx hb hts hin2 hown hw 8 (by decide) lk35 rfl dX2_swap_121 ?_
                            refine lv_bipush (v := 10) hx hb dX2_swap_124 (by decide) ?_
                            refine lv_iload_n hx hb dX2_swap_126 rfl (lv_at hl 2 rfl) ?_
                            refine lv_imul hx hb dX2_swap_127 ?_
                            refine lv_iload_n hx hb dX2_swap_128 rfl (lv_at hl 0 rfl) ?_
                            refine lv_iadd hx hb dX2_swap_129 ?_
                            refine r_mld hx hb hw 8 (by decide) (by decide) (10 * i + k) (ix10 _ _) (show 10 * i + k < 240 by omega) dX2_swap_130 ?_
                            refine lv_istore (lv' := [(4, .int (T 8 (10 * i + k))), (3, .int (nI k)), (0, .ref (gm G)), (1, .int (nI i)), (2, .int (nI j))]) hx hb dX2_swap_131 hl (by decide) rfl (fun ls hl => ?_)
                            refine lv_aload_n hx hb dX2_swap_133 rfl (lv_at hl 2 rfl) ?_
                            refine r_getM (v := .ref (gc G 8)) hx hb hts hin2 hown hw 8 (by decide) lk35 rfl dX2_swap_134 ?_
                            refine lv_bipush (v := 10) hx hb dX2_swap_137 (by decide) ?_
                            refine lv_iload_n hx hb dX2_swap_139 rfl (lv_at hl 3 rfl) ?_
                            refine lv_imul hx hb dX2_swap_140 ?_
                            refine lv_iload_n hx hb dX2_swap_141 rfl (lv_at hl 1 rfl) ?_
                            refine lv_iadd hx hb dX2_swap_142 ?_
                            refine lv_aload_n hx hb dX2_swap_143 rfl (lv_at hl 2 rfl) ?_
                            refine r_getM (v := .ref (gc G 8)) hx hb hts hin2 hown hw 8 (by decide) lk35 rfl dX2_swap_144 ?_
                            refine lv_bipush (v := 10) hx hb dX2_swap_147 (by decide) ?_
                            refine lv_iload_n hx hb dX2_swap_149 rfl (lv_at hl 4 rfl) ?_
                            refine lv_imul hx hb dX2_swap_150 ?_
                            refine lv_iload_n hx hb dX2_swap_151 rfl (lv_at hl 1 rfl) ?_
                            refine lv_iadd hx hb dX2_swap_152 ?_
                            refine r_mld hx hb hw 8 (by decide) (by decide) (10 * j + k) (ix10 _ _) (show 10 * j + k < 240 by omega) dX2_swap_153 ?_
                            refine r_mst hx hb hw 8 (by decide) (by decide) (10 * i + k) (ix10 _ _) (show 10 * i + k < 240 by omega) dX2_swap_154 (fun H locs hw => ?_)
                            have hw : Wi G (f, wa, S, sU T 8 (10 * i + k) (T 8 (10 * j + k))) s H locs := hw
                            refine lv_aload_n hx hb dX2_swap_155 rfl (lv_at hl 2 rfl) ?_
                            refine r_getM (v := .ref (gc G 8)) hx hb hts hin2 hown hw 8 (by decide) lk35 rfl dX2_swap_156 ?_
                            refine lv_bipush (v := 10) hx hb dX2_swap_159 (by decide) ?_
                            refine lv_iload_n hx hb dX2_swap_161 rfl (lv_at hl 4 rfl) ?_
                            refine lv_imul hx hb dX2_swap_162 ?_
                            refine lv_iload_n hx hb dX2_swap_163 rfl (lv_at hl 1 rfl) ?_
                            refine lv_iadd hx hb dX2_swap_164 ?_
                            refine lv_iload hx hb dX2_swap_165 (lv_at hl 0 rfl) ?_
                            refine r_mst hx hb hw 8 (by decide) (by decide) (10 * j + k) (ix10 _ _) (show 10 * j + k < 240 by omega) dX2_swap_167 (fun H locs hw => ?_)
                            have hw : Wi G (f, wa, S, sU (sU T 8 (10 * i + k) (T 8 (10 * j + k))) 8 (10 * j + k) (T 8 (10 * i + k))) s H locs := hw
                            refine lv_iinc (v := nI (k + 1)) (lv' := [(3, .int (nI (k + 1))), (4, .int (T 8 (10 * i + k))), (0, .ref (gm G)), (1, .int (nI i)), (2, .int (nI j))]) hx hb dX2_swap_168 hl (k := 1) rfl (nI_1 _) (by decide) rfl (fun ls hl => ?_)
                            refine lv_goto (tgt := 114) hx hb dX2_swap_171 (by decide) ?_
                            exact ih (k + 1) (sU (sU T 8 (10 * i + k) (T 8 (10 * j + k))) 8 (10 * j + k) (T 8 (10 * i + k))) H locs ls ⟨by omega, hop.trans (by simp only [of_sw])⟩ hw (lv_sub hl [0, 2, 3, 4] rfl)
                      exact loop 10 0 M _ _ _ ⟨by omega, rfl⟩ hw (lv_sub hl [0, 1, 2, 3] rfl)
                    · skip
                      refine lv_aload_n hx hb dX2_swap_102 rfl (lv_at hl 0 rfl) ?_
                      refine lv_iload_n hx hb dX2_swap_103 rfl (lv_at hl 1 rfl) ?_
                      refine lv_iload_n hx hb dX2_swap_104 rfl (lv_at hl 2 rfl) ?_
                      refine lv_iconst (v := 4) hx hb dX2_swap_105 (by decide) ?_
                      refine lv_bipush (v := (-5)) hx hb dX2_swap_106 (by decide) ?_
                      refine k_i hw (va_runV (As := [.int (nI i), .int (nI j), .int 4, .int (-5)]) (rest := []) ⟨hx, hb, hml, hown, hts⟩ (c_X2_letBoth l G f wa S M (i := i) (j := j) (by omega) (by omega) 4 (-5)) (cwV 4 hts gX2_swap_X2_letBoth rfl rfl rfl (by decide +kernel) ⟨Nat.le_of_ble_eq_true rfl, Nat.le_of_ble_eq_true rfl⟩) (hw.preM _) rfl rfl hl.1 rfl (lv_room (Nat.le_of_ble_eq_true rfl)) dX2_swap_108 ⟨Nat.le_of_ble_eq_true rfl, Nat.le_of_ble_eq_true rfl⟩) (fun r u H locs hR hw => ?_)
                      obtain ⟨hq, rfl⟩ := hR
                      obtain rfl := hq.symm
                      exact e_i hx hb hr hlocks hw dX2_swap_111 (leafM (by simp only [om_swap, mj_swap, ml, ml2, ↓reduceIte, isH_nI hi, cl24 hi, c_4, isH_nI hj, cl24 hj, c_11, c_22, c_34, c_52, c_61, c_85, c_99]))
                · skip
                  refine lv_aload_n hx hb dX2_swap_64 rfl (lv_at hl 0 rfl) ?_
                  refine lv_iload_n hx hb dX2_swap_65 rfl (lv_at hl 1 rfl) ?_
                  refine lv_iload_n hx hb dX2_swap_66 rfl (lv_at hl 2 rfl) ?_
                  refine lv_iconst (v := 2) hx hb dX2_swap_67 (by decide) ?_
                  refine lv_bipush (v := (-3)) hx hb dX2_swap_68 (by decide) ?_
                  refine k_i hw (va_runV (As := [.int (nI i), .int (nI j), .int 2, .int (-3)]) (rest := []) ⟨hx, hb, hml, hown, hts⟩ (c_X2_letBoth l G f wa S M (i := i) (j := j) (by omega) (by omega) 2 (-3)) (cwV 4 hts gX2_swap_X2_letBoth rfl rfl rfl (by decide +kernel) ⟨Nat.le_of_ble_eq_true rfl, Nat.le_of_ble_eq_true rfl⟩) (hw.preM _) rfl rfl hl.1 rfl (lv_room (Nat.le_of_ble_eq_true rfl)) dX2_swap_70 ⟨Nat.le_of_ble_eq_true rfl, Nat.le_of_ble_eq_true rfl⟩) (fun r u H locs hR hw => ?_)
                  obtain ⟨hq, rfl⟩ := hR
                  obtain rfl := hq.symm
                  exact e_i hx hb hr hlocks hw dX2_swap_73 (leafM (by simp only [om_swap, mj_swap, ml, ml2, ↓reduceIte, isH_nI hi, cl24 hi, c_4, isH_nI hj, cl24 hj, c_11, c_22, c_34, c_52, c_61]))
            · skip
              refine lv_aload_n hx hb dX2_swap_37 rfl (lv_at hl 0 rfl) ?_
              refine lv_iload_n hx hb dX2_swap_38 rfl (lv_at hl 1 rfl) ?_
              refine lv_iconst (v := 4) hx hb dX2_swap_39 (by decide) ?_
              refine lv_bipush (v := (-2)) hx hb dX2_swap_40 (by decide) ?_
              refine k_i hw (va_runV (As := [.int (nI i), .int 4, .int (-2)]) (rest := []) ⟨hx, hb, hml, hown, hts⟩ (c_X2_let l G f wa S M (j := i) (by omega) 4 (-2)) (cwV 3 hts gX2_swap_X2_let rfl rfl rfl (by decide +kernel) ⟨Nat.le_of_ble_eq_true rfl, Nat.le_of_ble_eq_true rfl⟩) (hw.preM _) rfl rfl hl.1 rfl (lv_room (Nat.le_of_ble_eq_true rfl)) dX2_swap_42 ⟨Nat.le_of_ble_eq_true rfl, Nat.le_of_ble_eq_true rfl⟩) (fun r u H locs hR hw => ?_)
              obtain ⟨hq, rfl⟩ := hR
              obtain rfl := hq.symm
              exact e_i hx hb hr hlocks hw dX2_swap_45 (leafM (by simp only [om_swap, mj_swap, ml, ml2, ↓reduceIte, isH_nI hi, cl24 hi, c_4, isH_nI hj, cl24 hj, c_11, c_22, c_34]))
          · skip
            refine lv_bipush (v := (-2)) hx hb dX2_swap_25 (by decide) ?_
            exact e_i hx hb hr hlocks hw dX2_swap_27 (leafM (by simp only [om_swap, mj_swap, ml, ml2, ↓reduceIte, isH_nI hi, cl24 hi, c_4, isH_nI hj, cl24 hj, c_11, c_22]))
        · skip
          exact absurd c_11 (by decide)

set_option maxHeartbeats 800000 in
set_option maxRecDepth 100000 in
theorem c_X2_find (l : Launch) (G : GT) (f : Nat → Option Nat) (wa : Nat → Nat) (S M : Tb) (hI : Inv M) (p1 : Int32) : Met l yX2_find wsX2_find (rk 1) (va_Pc [.ref (gm G), .int p1] (Wo G (f, wa, S, M))) (Qi G (fun r u => r = (om_find M p1).1 ∧ u = (f, wa, S, (om_find M p1).2))) 0 0 (gA G) := by
  refine m_head (cc := cX2_find) (maxL := 4) (ret := (some .int)) (by decide) rfl (Nat.le_of_ble_eq_true rfl) ?_
  intro p e s m below meth c hx hb hml hr hlocks hown hts hw ls hl
  have hown : s.vm.findClass RX2 = some m.cls := hown
  have hl : lv_has ls 4 [(0, .ref (gm G)), (1, .int p1)] := hl
  have hin2 : ∀ w ∈ wsX20, w ∈ wsX2_find := by decide +kernel
  have lk7 := hts (.fieldLink RX2 7 "LockerWallModel" "there" "[Z") (by decide +kernel)
  have lk20 := hts (.fieldLink RX2 20 "LockerWallModel" "open" "[Z") (by decide +kernel)
  refine lv_iload_n hx hb dX2_find_0 rfl (lv_at hl 1 rfl) ?_
  refine k_i hw (va_runS (As := [.int p1]) (rest := []) ⟨hx, hb, hml, hown, hts⟩ (c_X2_isWeight l G f wa S M p1) (va_cwS 1 hts gX2_find_X2_isWeight rfl rfl rfl (by decide +kernel) ⟨Nat.le_of_ble_eq_true rfl, Nat.le_of_ble_eq_true rfl⟩) (hw.preS _) rfl rfl hl.1 rfl (lv_room (Nat.le_of_ble_eq_true rfl)) dX2_find_1 ⟨Nat.le_of_ble_eq_true rfl, Nat.le_of_ble_eq_true rfl⟩) (fun r u H locs hR hw => ?_)
  obtain ⟨hq, rfl⟩ := hR
  obtain rfl := hq.symm
  cases hh_1 : isWt p1
  · skip
    refine W.eq (g2 := F0 m 4 ls [.int 0]) rfl ?_
    refine lv_if_ne (tgt := 9) hx hb dX2_find_4 (by decide) (fun c_4 => ?_) (fun c_4 => ?_)
    · skip
      exact absurd c_4 (by decide)
    · skip
      refine lv_iconst (v := (-1)) hx hb dX2_find_7 (by decide) ?_
      exact e_i hx hb hr hlocks hw dX2_find_8 (leafM (by simp only [om_find, ml, ml2, ↓reduceIte, hh_1, Bool.false_eq_true, c_4]))
  · skip
    refine W.eq (g2 := F0 m 4 ls [.int 1]) rfl ?_
    refine lv_if_ne (tgt := 9) hx hb dX2_find_4 (by decide) (fun c_4 => ?_) (fun c_4 => ?_)
    · skip
      refine lv_iconst (v := 0) hx hb dX2_find_9 (by decide) ?_
      refine lv_istore_n (lv' := [(2, .int 0), (0, .ref (gm G)), (1, .int p1)]) hx hb dX2_find_10 rfl hl (by decide) rfl (fun ls hl => ?_)
      have loop : ∀ (d h : Nat) (T : Tb) (H : Heap) (locs : List Loc) (ls : Array Slot), (h + d = 24 ∧ Inv T ∧ om_find M p1 = mf_find p1 d h T) → Wi G (f, wa, S, T) s H locs → lv_has ls 4 [(2, .int (nI h)), (0, .ref (gm G)), (1, .int p1)] → W p l e (headSpec wsX2_find (rk 1)).room s m [.ref (gm G), .int p1].toArray below meth c H locs 0 0 (MQ below (Qi G (fun r u => r = (om_find M p1).1 ∧ u = (f, wa, S, (om_find M p1).2))) [.ref (gm G), .int p1].toArray s 0 0 (gA G)) (F0 m 11 ls []) := by
        intro d
        induction d with
        | zero =>
          intro h T H locs ls hk hw hl
          obtain ⟨hd24, hIT, hop⟩ := hk
          refine lv_iload_n hx hb dX2_find_11 rfl (lv_at hl 0 rfl) ?_
          refine lv_bipush (v := 24) hx hb dX2_find_12 (by decide) ?_
          refine lv_icmp_ge (tgt := 90) hx hb dX2_find_14 (by decide) (fun c_14 => ?_) (fun c_14 => ?_)
          · skip
            refine lv_bipush (v := (-8)) hx hb dX2_find_90 (by decide) ?_
            exact e_i hx hb hr hlocks hw dX2_find_92 (leafM (hop.trans (by simp only [mf_find, ml, ml2, ↓reduceIte, c_14])))
          · skip
            exact absurd (show (24 : Int32) ≤ nI h from nI_le (a := 24) (by omega) (by omega)) c_14
        | succ d ih =>
          intro h T H locs ls hk hw hl
          obtain ⟨hd24, hIT, hop⟩ := hk
          obtain ⟨n_h, h10_h, hn_h⟩ := hIT h (by omega)
          refine lv_iload_n hx hb dX2_find_11 rfl (lv_at hl 0 rfl) ?_
          refine lv_bipush (v := 24) hx hb dX2_find_12 (by decide) ?_
          refine lv_icmp_ge (tgt := 90) hx hb dX2_find_14 (by decide) (fun c_14 => ?_) (fun c_14 => ?_)
          · skip
            exact absurd c_14 (nI_ge (b := 24) (show h < 24 by omega) (by decide))
          · skip
            refine lv_aload_n hx hb dX2_find_17 rfl (lv_at hl 1 rfl) ?_
            refine r_getM (v := .ref (gc G 0)) hx hb hts hin2 hown hw 0 (by decide) lk7 rfl dX2_find_18 ?_
            refine lv_iload_n hx hb dX2_find_21 rfl (lv_at hl 0 rfl) ?_
            refine r_mldZ hx hb hw 0 (by decide) (by decide) (h) (rfl) (show h < 24 by omega) dX2_find_22 ?_
            refine lv_if_ne (tgt := 29) hx hb dX2_find_23 (by decide) (fun c_23 => ?_) (fun c_23 => ?_)
            · skip
              refine lv_aload_n hx hb dX2_find_29 rfl (lv_at hl 1 rfl) ?_
              refine r_getM (v := .ref (gc G 3)) hx hb hts hin2 hown hw 3 (by decide) lk20 rfl dX2_find_30 ?_
              refine lv_iload_n hx hb dX2_find_33 rfl (lv_at hl 0 rfl) ?_
              refine r_mldZ hx hb hw 3 (by decide) (by decide) (h) (rfl) (show h < 24 by omega) dX2_find_34 ?_
              refine lv_if_eq (tgt := 51) hx hb dX2_find_35 (by decide) (fun c_35 => ?_) (fun c_35 => ?_)
              · skip
                refine lv_iconst (v := 0) hx hb dX2_find_51 (by decide) ?_
                refine lv_istore_n (lv' := [(3, .int 0), (2, .int (nI h)), (0, .ref (gm G)), (1, .int p1)]) hx hb dX2_find_52 rfl hl (by decide) rfl (fun ls hl => ?_)
                refine lv_aload_n hx hb dX2_find_53 rfl (lv_at hl 2 rfl) ?_
                refine lv_iload_n hx hb dX2_find_54 rfl (lv_at hl 1 rfl) ?_
                refine lv_iload_n hx hb dX2_find_55 rfl (lv_at hl 0 rfl) ?_
                refine lv_if_ne (tgt := 68) hx hb dX2_find_56 (by decide) (fun c_56 => ?_) (fun c_56 => ?_)
                · skip
                  exact absurd c_56 (by decide)
                · skip
                  refine lv_aload_n hx hb dX2_find_59 rfl (lv_at hl 2 rfl) ?_
                  refine r_getM (v := .ref (gc G 3)) hx hb hts hin2 hown hw 3 (by decide) lk20 rfl dX2_find_60 ?_
                  refine lv_iload_n hx hb dX2_find_63 rfl (lv_at hl 1 rfl) ?_
                  refine r_mldZ hx hb hw 3 (by decide) (by decide) (h) (rfl) (show h < 24 by omega) dX2_find_64 ?_
                  refine lv_if_ne (tgt := 72) hx hb dX2_find_65 (by decide) (fun c_65 => ?_) (fun c_65 => ?_)
                  · skip
                    exact absurd c_35 c_65
                  · skip
                    refine lv_iconst (v := 3) hx hb dX2_find_68 (by decide) ?_
                    refine lv_goto (tgt := 73) hx hb dX2_find_69 (by decide) ?_
                    refine lv_iconst (v := 0) hx hb dX2_find_73 (by decide) ?_
                    refine k_i hw (va_runV (As := [.int (nI h), .int 3, .int 0]) (rest := []) ⟨hx, hb, hml, hown, hts⟩ (c_X2_let l G f wa S T (j := h) (by omega) 3 0) (cwV 3 hts gX2_find_X2_let rfl rfl rfl (by decide +kernel) ⟨Nat.le_of_ble_eq_true rfl, Nat.le_of_ble_eq_true rfl⟩) (hw.preM _) rfl rfl hl.1 rfl (lv_room (Nat.le_of_ble_eq_true rfl)) dX2_find_74 ⟨Nat.le_of_ble_eq_true rfl, Nat.le_of_ble_eq_true rfl⟩) (fun r u H locs hR hw => ?_)
                    obtain ⟨hq, rfl⟩ := hR
                    obtain rfl := hq.symm
                    refine lv_pop hx hb dX2_find_77 rfl ?_
                    refine lv_iload_n hx hb dX2_find_78 rfl (lv_at hl 0 rfl) ?_
                    refine lv_if_eq (tgt := 84) hx hb dX2_find_79 (by decide) (fun c_79 => ?_) (fun c_79 => ?_)
                    · skip
                      refine lv_iinc (v := nI (h + 1)) (lv' := [(2, .int (nI (h + 1))), (3, .int 0), (0, .ref (gm G)), (1, .int p1)]) hx hb dX2_find_84 hl (k := 1) rfl (nI_1 _) (by decide) rfl (fun ls hl => ?_)
                      refine lv_goto (tgt := 11) hx hb dX2_find_87 (by decide) ?_
                      exact ih (h + 1) (sU (sU T 6 h ((T 6 h) + 1)) 7 h 3) H locs ls ⟨by omega, (show Inv _ from hIT), hop.trans (by simp only [mf_find, ml, ml2, ↓reduceIte, c_14, c_23, c_35, c_56, c_65, c_79])⟩ hw (lv_sub hl [0, 2, 3] rfl)
                    · skip
                      exact absurd c_79 (by decide)
              · skip
                refine lv_aload_n hx hb dX2_find_38 rfl (lv_at hl 1 rfl) ?_
                refine lv_iload_n hx hb dX2_find_39 rfl (lv_at hl 0 rfl) ?_
                refine lv_iload_n hx hb dX2_find_40 rfl (lv_at hl 2 rfl) ?_
                refine k_i hw (va_runV (As := [.int (nI h), .int p1]) (rest := []) ⟨hx, hb, hml, hown, hts⟩ (c_X2_hasItem l G f wa S T (i := h) (by omega) hn_h h10_h p1) (cwV 2 hts gX2_find_X2_hasItem rfl rfl rfl (by decide +kernel) ⟨Nat.le_of_ble_eq_true rfl, Nat.le_of_ble_eq_true rfl⟩) (hw.preM _) rfl rfl hl.1 rfl (lv_room (Nat.le_of_ble_eq_true rfl)) dX2_find_41 ⟨Nat.le_of_ble_eq_true rfl, Nat.le_of_ble_eq_true rfl⟩) (fun r u H locs hR hw => ?_)
                obtain ⟨hq, rfl⟩ := hR
                obtain rfl := hq.symm
                cases hh_41 : has T h p1
                · skip
                  refine W.eq (g2 := F0 m 44 ls [.int 0]) rfl ?_
                  refine lv_if_eq (tgt := 51) hx hb dX2_find_44 (by decide) (fun c_44 => ?_) (fun c_44 => ?_)
                  · skip
                    refine lv_iconst (v := 0) hx hb dX2_find_51 (by decide) ?_
                    refine lv_istore_n (lv' := [(3, .int 0), (2, .int (nI h)), (0, .ref (gm G)), (1, .int p1)]) hx hb dX2_find_52 rfl hl (by decide) rfl (fun ls hl => ?_)
                    refine lv_aload_n hx hb dX2_find_53 rfl (lv_at hl 2 rfl) ?_
                    refine lv_iload_n hx hb dX2_find_54 rfl (lv_at hl 1 rfl) ?_
                    refine lv_iload_n hx hb dX2_find_55 rfl (lv_at hl 0 rfl) ?_
                    refine lv_if_ne (tgt := 68) hx hb dX2_find_56 (by decide) (fun c_56 => ?_) (fun c_56 => ?_)
                    · skip
                      exact absurd c_56 (by decide)
                    · skip
                      refine lv_aload_n hx hb dX2_find_59 rfl (lv_at hl 2 rfl) ?_
                      refine r_getM (v := .ref (gc G 3)) hx hb hts hin2 hown hw 3 (by decide) lk20 rfl dX2_find_60 ?_
                      refine lv_iload_n hx hb dX2_find_63 rfl (lv_at hl 1 rfl) ?_
                      refine r_mldZ hx hb hw 3 (by decide) (by decide) (h) (rfl) (show h < 24 by omega) dX2_find_64 ?_
                      refine lv_if_ne (tgt := 72) hx hb dX2_find_65 (by decide) (fun c_65 => ?_) (fun c_65 => ?_)
                      · skip
                        refine lv_iconst (v := 1) hx hb dX2_find_72 (by decide) ?_
                        refine lv_iconst (v := 0) hx hb dX2_find_73 (by decide) ?_
                        refine k_i hw (va_runV (As := [.int (nI h), .int 1, .int 0]) (rest := []) ⟨hx, hb, hml, hown, hts⟩ (c_X2_let l G f wa S T (j := h) (by omega) 1 0) (cwV 3 hts gX2_find_X2_let rfl rfl rfl (by decide +kernel) ⟨Nat.le_of_ble_eq_true rfl, Nat.le_of_ble_eq_true rfl⟩) (hw.preM _) rfl rfl hl.1 rfl (lv_room (Nat.le_of_ble_eq_true rfl)) dX2_find_74 ⟨Nat.le_of_ble_eq_true rfl, Nat.le_of_ble_eq_true rfl⟩) (fun r u H locs hR hw => ?_)
                        obtain ⟨hq, rfl⟩ := hR
                        obtain rfl := hq.symm
                        refine lv_pop hx hb dX2_find_77 rfl ?_
                        refine lv_iload_n hx hb dX2_find_78 rfl (lv_at hl 0 rfl) ?_
                        refine lv_if_eq (tgt := 84) hx hb dX2_find_79 (by decide) (fun c_79 => ?_) (fun c_79 => ?_)
                        · skip
                          refine lv_iinc (v := nI (h + 1)) (lv' := [(2, .int (nI (h + 1))), (3, .int 0), (0, .ref (gm G)), (1, .int p1)]) hx hb dX2_find_84 hl (k := 1) rfl (nI_1 _) (by decide) rfl (fun ls hl => ?_)
                          refine lv_goto (tgt := 11) hx hb dX2_find_87 (by decide) ?_
                          exact ih (h + 1) (sU (sU T 6 h ((T 6 h) + 1)) 7 h 1) H locs ls ⟨by omega, (show Inv _ from hIT), hop.trans (by simp only [mf_find, ml, ml2, ↓reduceIte, c_14, c_23, c_35, hh_41, Bool.false_eq_true, c_44, c_56, c_65, c_79])⟩ hw (lv_sub hl [0, 2, 3] rfl)
                        · skip
                          exact absurd c_79 (by decide)
                      · skip
                        exact absurd c_65 c_35
                  · skip
                    exact absurd c_44 (by decide)
                · skip
                  refine W.eq (g2 := F0 m 44 ls [.int 1]) rfl ?_
                  refine lv_if_eq (tgt := 51) hx hb dX2_find_44 (by decide) (fun c_44 => ?_) (fun c_44 => ?_)
                  · skip
                    exact absurd c_44 (by decide)
                  · skip
                    refine lv_iconst (v := 1) hx hb dX2_find_47 (by decide) ?_
                    refine lv_goto (tgt := 52) hx hb dX2_find_48 (by decide) ?_
                    refine lv_istore_n (lv' := [(3, .int 1), (2, .int (nI h)), (0, .ref (gm G)), (1, .int p1)]) hx hb dX2_find_52 rfl hl (by decide) rfl (fun ls hl => ?_)
                    refine lv_aload_n hx hb dX2_find_53 rfl (lv_at hl 2 rfl) ?_
                    refine lv_iload_n hx hb dX2_find_54 rfl (lv_at hl 1 rfl) ?_
                    refine lv_iload_n hx hb dX2_find_55 rfl (lv_at hl 0 rfl) ?_
                    refine lv_if_ne (tgt := 68) hx hb dX2_find_56 (by decide) (fun c_56 => ?_) (fun c_56 => ?_)
                    · skip
                      refine lv_iconst (v := 3) hx hb dX2_find_68 (by decide) ?_
                      refine lv_goto (tgt := 73) hx hb dX2_find_69 (by decide) ?_
                      refine lv_iconst (v := 0) hx hb dX2_find_73 (by decide) ?_
                      refine k_i hw (va_runV (As := [.int (nI h), .int 3, .int 0]) (rest := []) ⟨hx, hb, hml, hown, hts⟩ (c_X2_let l G f wa S T (j := h) (by omega) 3 0) (cwV 3 hts gX2_find_X2_let rfl rfl rfl (by decide +kernel) ⟨Nat.le_of_ble_eq_true rfl, Nat.le_of_ble_eq_true rfl⟩) (hw.preM _) rfl rfl hl.1 rfl (lv_room (Nat.le_of_ble_eq_true rfl)) dX2_find_74 ⟨Nat.le_of_ble_eq_true rfl, Nat.le_of_ble_eq_true rfl⟩) (fun r u H locs hR hw => ?_)
                      obtain ⟨hq, rfl⟩ := hR
                      obtain rfl := hq.symm
                      refine lv_pop hx hb dX2_find_77 rfl ?_
                      refine lv_iload_n hx hb dX2_find_78 rfl (lv_at hl 0 rfl) ?_
                      refine lv_if_eq (tgt := 84) hx hb dX2_find_79 (by decide) (fun c_79 => ?_) (fun c_79 => ?_)
                      · skip
                        exact absurd c_79 (by decide)
                      · skip
                        refine lv_iload_n hx hb dX2_find_82 rfl (lv_at hl 1 rfl) ?_
                        exact e_i hx hb hr hlocks hw dX2_find_83 (leafM (hop.trans (by simp only [mf_find, ml, ml2, ↓reduceIte, c_14, c_23, c_35, hh_41, c_44, c_56, c_79])))
                    · skip
                      exact absurd c_56 (by decide)
            · skip
              refine lv_goto (tgt := 84) hx hb dX2_find_26 (by decide) ?_
              refine lv_iinc (v := nI (h + 1)) (lv' := [(2, .int (nI (h + 1))), (0, .ref (gm G)), (1, .int p1)]) hx hb dX2_find_84 hl (k := 0) rfl (nI_1 _) (by decide) rfl (fun ls hl => ?_)
              refine lv_goto (tgt := 11) hx hb dX2_find_87 (by decide) ?_
              exact ih (h + 1) T H locs ls ⟨by omega, (show Inv _ from hIT), hop.trans (by simp only [mf_find, ml, ml2, ↓reduceIte, c_14, c_23])⟩ hw (lv_sub hl [0, 1, 2] rfl)
      exact loop 24 0 M _ _ _ ⟨by omega, hI, by simp only [om_find, ↓reduceIte, hh_1, c_4]⟩ hw (lv_sub hl [0, 1, 2] rfl)
    · skip
      exact absurd c_4 (by decide)

set_option maxHeartbeats 800000 in
set_option maxRecDepth 100000 in
theorem c_X2_first (l : Launch) (G : GT) (f : Nat → Option Nat) (wa : Nat → Nat) (S M : Tb) (hI : Inv M) (p1 : Int32) : Met l yX2_first wsX2_first (rk 1) (va_Pc [.ref (gm G), .int p1] (Wo G (f, wa, S, M))) (Qi G (fun r u => r = (om_first M p1).1 ∧ u = (f, wa, S, (om_first M p1).2))) 0 0 (gA G) := by
  refine m_head (cc := cX2_first) (maxL := 4) (ret := (some .int)) (by decide) rfl (Nat.le_of_ble_eq_true rfl) ?_
  intro p e s m below meth c hx hb hml hr hlocks hown hts hw ls hl
  have hown : s.vm.findClass RX2 = some m.cls := hown
  have hl : lv_has ls 4 [(0, .ref (gm G)), (1, .int p1)] := hl
  have hin2 : ∀ w ∈ wsX20, w ∈ wsX2_first := by decide +kernel
  have lk7 := hts (.fieldLink RX2 7 "LockerWallModel" "there" "[Z") (by decide +kernel)
  refine lv_iload_n hx hb dX2_first_0 rfl (lv_at hl 1 rfl) ?_
  refine lv_if_ge (tgt := 6) hx hb dX2_first_1 (by decide) (fun c_1 => ?_) (fun c_1 => ?_)
  · skip
    refine lv_iconst (v := 0) hx hb dX2_first_6 (by decide) ?_
    refine lv_istore_n (lv' := [(2, .int 0), (0, .ref (gm G)), (1, .int p1)]) hx hb dX2_first_7 rfl hl (by decide) rfl (fun ls hl => ?_)
    have loop : ∀ (d h : Nat) (T : Tb) (H : Heap) (locs : List Loc) (ls : Array Slot), (h + d = 24 ∧ Inv T ∧ om_first M p1 = mf_first p1 d h T) → Wi G (f, wa, S, T) s H locs → lv_has ls 4 [(2, .int (nI h)), (0, .ref (gm G)), (1, .int p1)] → W p l e (headSpec wsX2_first (rk 1)).room s m [.ref (gm G), .int p1].toArray below meth c H locs 0 0 (MQ below (Qi G (fun r u => r = (om_first M p1).1 ∧ u = (f, wa, S, (om_first M p1).2))) [.ref (gm G), .int p1].toArray s 0 0 (gA G)) (F0 m 8 ls []) := by
      intro d
      induction d with
      | zero =>
        intro h T H locs ls hk hw hl
        obtain ⟨hd24, hIT, hop⟩ := hk
        refine lv_iload_n hx hb dX2_first_8 rfl (lv_at hl 0 rfl) ?_
        refine lv_bipush (v := 24) hx hb dX2_first_9 (by decide) ?_
        refine lv_icmp_ge (tgt := 69) hx hb dX2_first_11 (by decide) (fun c_11 => ?_) (fun c_11 => ?_)
        · skip
          refine lv_bipush (v := (-8)) hx hb dX2_first_69 (by decide) ?_
          exact e_i hx hb hr hlocks hw dX2_first_71 (leafM (hop.trans (by simp only [mf_first, ml, ml2, ↓reduceIte, c_11])))
        · skip
          exact absurd (show (24 : Int32) ≤ nI h from nI_le (a := 24) (by omega) (by omega)) c_11
      | succ d ih =>
        intro h T H locs ls hk hw hl
        obtain ⟨hd24, hIT, hop⟩ := hk
        obtain ⟨n_h, h10_h, hn_h⟩ := hIT h (by omega)
        refine lv_iload_n hx hb dX2_first_8 rfl (lv_at hl 0 rfl) ?_
        refine lv_bipush (v := 24) hx hb dX2_first_9 (by decide) ?_
        refine lv_icmp_ge (tgt := 69) hx hb dX2_first_11 (by decide) (fun c_11 => ?_) (fun c_11 => ?_)
        · skip
          exact absurd c_11 (nI_ge (b := 24) (show h < 24 by omega) (by decide))
        · skip
          refine lv_aload_n hx hb dX2_first_14 rfl (lv_at hl 1 rfl) ?_
          refine r_getM (v := .ref (gc G 0)) hx hb hts hin2 hown hw 0 (by decide) lk7 rfl dX2_first_15 ?_
          refine lv_iload_n hx hb dX2_first_18 rfl (lv_at hl 0 rfl) ?_
          refine r_mldZ hx hb hw 0 (by decide) (by decide) (h) (rfl) (show h < 24 by omega) dX2_first_19 ?_
          refine lv_if_ne (tgt := 26) hx hb dX2_first_20 (by decide) (fun c_20 => ?_) (fun c_20 => ?_)
          · skip
            refine lv_aload_n hx hb dX2_first_26 rfl (lv_at hl 1 rfl) ?_
            refine lv_iload_n hx hb dX2_first_27 rfl (lv_at hl 0 rfl) ?_
            refine k_i hw (va_runV (As := [.int (nI h)]) (rest := []) ⟨hx, hb, hml, hown, hts⟩ (c_X2_weight l G f wa S T (i := h) (by omega) hn_h h10_h) (cwV 1 hts gX2_first_X2_weight rfl rfl rfl (by decide +kernel) ⟨Nat.le_of_ble_eq_true rfl, Nat.le_of_ble_eq_true rfl⟩) (hw.preM _) rfl rfl hl.1 rfl (lv_room (Nat.le_of_ble_eq_true rfl)) dX2_first_28 ⟨Nat.le_of_ble_eq_true rfl, Nat.le_of_ble_eq_true rfl⟩) (fun r u H locs hR hw => ?_)
            obtain ⟨hq, rfl⟩ := hR
            obtain rfl := hq.symm
            refine lv_iload_n hx hb dX2_first_31 rfl (lv_at hl 2 rfl) ?_
            refine lv_icmp_lt (tgt := 39) hx hb dX2_first_32 (by decide) (fun c_32 => ?_) (fun c_32 => ?_)
            · skip
              refine lv_iconst (v := 0) hx hb dX2_first_39 (by decide) ?_
              refine lv_istore_n (lv' := [(3, .int 0), (2, .int (nI h)), (0, .ref (gm G)), (1, .int p1)]) hx hb dX2_first_40 rfl hl (by decide) rfl (fun ls hl => ?_)
              refine lv_aload_n hx hb dX2_first_41 rfl (lv_at hl 2 rfl) ?_
              refine lv_iload_n hx hb dX2_first_42 rfl (lv_at hl 1 rfl) ?_
              refine lv_iload_n hx hb dX2_first_43 rfl (lv_at hl 0 rfl) ?_
              refine lv_if_eq (tgt := 51) hx hb dX2_first_44 (by decide) (fun c_44 => ?_) (fun c_44 => ?_)
              · skip
                refine lv_iconst (v := 1) hx hb dX2_first_51 (by decide) ?_
                refine lv_iconst (v := 0) hx hb dX2_first_52 (by decide) ?_
                refine k_i hw (va_runV (As := [.int (nI h), .int 1, .int 0]) (rest := []) ⟨hx, hb, hml, hown, hts⟩ (c_X2_let l G f wa S T (j := h) (by omega) 1 0) (cwV 3 hts gX2_first_X2_let rfl rfl rfl (by decide +kernel) ⟨Nat.le_of_ble_eq_true rfl, Nat.le_of_ble_eq_true rfl⟩) (hw.preM _) rfl rfl hl.1 rfl (lv_room (Nat.le_of_ble_eq_true rfl)) dX2_first_53 ⟨Nat.le_of_ble_eq_true rfl, Nat.le_of_ble_eq_true rfl⟩) (fun r u H locs hR hw => ?_)
                obtain ⟨hq, rfl⟩ := hR
                obtain rfl := hq.symm
                refine lv_pop hx hb dX2_first_56 rfl ?_
                refine lv_iload_n hx hb dX2_first_57 rfl (lv_at hl 0 rfl) ?_
                refine lv_if_eq (tgt := 63) hx hb dX2_first_58 (by decide) (fun c_58 => ?_) (fun c_58 => ?_)
                · skip
                  refine lv_iinc (v := nI (h + 1)) (lv' := [(2, .int (nI (h + 1))), (3, .int 0), (0, .ref (gm G)), (1, .int p1)]) hx hb dX2_first_63 hl (k := 1) rfl (nI_1 _) (by decide) rfl (fun ls hl => ?_)
                  refine lv_goto (tgt := 8) hx hb dX2_first_66 (by decide) ?_
                  exact ih (h + 1) (sU (sU T 6 h ((T 6 h) + 1)) 7 h 1) H locs ls ⟨by omega, (show Inv _ from hIT), hop.trans (by simp only [mf_first, ml, ml2, ↓reduceIte, c_11, c_20, c_32, c_44, c_58])⟩ hw (lv_sub hl [0, 2, 3] rfl)
                · skip
                  exact absurd c_58 (by decide)
              · skip
                exact absurd c_44 (by decide)
            · skip
              refine lv_iconst (v := 1) hx hb dX2_first_35 (by decide) ?_
              refine lv_goto (tgt := 40) hx hb dX2_first_36 (by decide) ?_
              refine lv_istore_n (lv' := [(3, .int 1), (2, .int (nI h)), (0, .ref (gm G)), (1, .int p1)]) hx hb dX2_first_40 rfl hl (by decide) rfl (fun ls hl => ?_)
              refine lv_aload_n hx hb dX2_first_41 rfl (lv_at hl 2 rfl) ?_
              refine lv_iload_n hx hb dX2_first_42 rfl (lv_at hl 1 rfl) ?_
              refine lv_iload_n hx hb dX2_first_43 rfl (lv_at hl 0 rfl) ?_
              refine lv_if_eq (tgt := 51) hx hb dX2_first_44 (by decide) (fun c_44 => ?_) (fun c_44 => ?_)
              · skip
                exact absurd c_44 (by decide)
              · skip
                refine lv_iconst (v := 2) hx hb dX2_first_47 (by decide) ?_
                refine lv_goto (tgt := 52) hx hb dX2_first_48 (by decide) ?_
                refine lv_iconst (v := 0) hx hb dX2_first_52 (by decide) ?_
                refine k_i hw (va_runV (As := [.int (nI h), .int 2, .int 0]) (rest := []) ⟨hx, hb, hml, hown, hts⟩ (c_X2_let l G f wa S T (j := h) (by omega) 2 0) (cwV 3 hts gX2_first_X2_let rfl rfl rfl (by decide +kernel) ⟨Nat.le_of_ble_eq_true rfl, Nat.le_of_ble_eq_true rfl⟩) (hw.preM _) rfl rfl hl.1 rfl (lv_room (Nat.le_of_ble_eq_true rfl)) dX2_first_53 ⟨Nat.le_of_ble_eq_true rfl, Nat.le_of_ble_eq_true rfl⟩) (fun r u H locs hR hw => ?_)
                obtain ⟨hq, rfl⟩ := hR
                obtain rfl := hq.symm
                refine lv_pop hx hb dX2_first_56 rfl ?_
                refine lv_iload_n hx hb dX2_first_57 rfl (lv_at hl 0 rfl) ?_
                refine lv_if_eq (tgt := 63) hx hb dX2_first_58 (by decide) (fun c_58 => ?_) (fun c_58 => ?_)
                · skip
                  exact absurd c_58 (by decide)
                · skip
                  refine lv_iload_n hx hb dX2_first_61 rfl (lv_at hl 1 rfl) ?_
                  exact e_i hx hb hr hlocks hw dX2_first_62 (leafM (hop.trans (by simp only [mf_first, ml, ml2, ↓reduceIte, c_11, c_20, c_32, c_44, c_58])))
          · skip
            refine lv_goto (tgt := 63) hx hb dX2_first_23 (by decide) ?_
            refine lv_iinc (v := nI (h + 1)) (lv' := [(2, .int (nI (h + 1))), (0, .ref (gm G)), (1, .int p1)]) hx hb dX2_first_63 hl (k := 0) rfl (nI_1 _) (by decide) rfl (fun ls hl => ?_)
            refine lv_goto (tgt := 8) hx hb dX2_first_66 (by decide) ?_
            exact ih (h + 1) T H locs ls ⟨by omega, (show Inv _ from hIT), hop.trans (by simp only [mf_first, ml, ml2, ↓reduceIte, c_11, c_20])⟩ hw (lv_sub hl [0, 1, 2] rfl)
    exact loop 24 0 M _ _ _ ⟨by omega, hI, by simp only [om_first, ↓reduceIte, c_1]⟩ hw (lv_sub hl [0, 1, 2] rfl)
  · skip
    refine lv_iconst (v := (-1)) hx hb dX2_first_4 (by decide) ?_
    exact e_i hx hb hr hlocks hw dX2_first_5 (leafM (by simp only [om_first, ml, ml2, ↓reduceIte, c_1]))

set_option maxHeartbeats 800000 in
set_option maxRecDepth 100000 in
theorem c_X2_tally (l : Launch) (G : GT) (f : Nat → Option Nat) (wa : Nat → Nat) (S M : Tb) (hI : Inv M) : Met l yX2_tally wsX2_tally (rk 1) (va_Pc [.ref (gm G)] (Wo G (f, wa, S, M))) (Ql G (fun r u => r = (om_tally M).1 ∧ u = (f, wa, S, (om_tally M).2))) 0 0 (gA G) := by
  refine m_head (cc := cX2_tally) (maxL := 4) (ret := (some .long)) (by decide) rfl (Nat.le_of_ble_eq_true rfl) ?_
  intro p e s m below meth c hx hb hml hr hlocks hown hts hw ls hl
  have hown : s.vm.findClass RX2 = some m.cls := hown
  have hl : lv_has ls 4 [(0, .ref (gm G))] := hl
  have hin2 : ∀ w ∈ wsX20, w ∈ wsX2_tally := by decide +kernel
  have lk49 := hts (.fieldLink RX2 49 "LockerWallModel" "latched" "I") (by decide +kernel)
  have lk7 := hts (.fieldLink RX2 7 "LockerWallModel" "there" "[Z") (by decide +kernel)
  refine lv_aload_n hx hb dX2_tally_0 rfl (lv_at hl 0 rfl) ?_
  refine lv_dup hx hb dX2_tally_1 rfl ?_
  refine r_getM (v := .int (M 9 0)) hx hb hts hin2 hown hw 9 (by decide) lk49 rfl dX2_tally_2 ?_
  refine lv_iconst (v := 1) hx hb dX2_tally_5 (by decide) ?_
  refine lv_iadd hx hb dX2_tally_6 ?_
  refine r_putMT hx hb hts hin2 hown hw lk49 dX2_tally_7 (fun H locs hw => ?_)
  have hw : Wi G (f, wa, S, sU M 9 0 ((M 9 0) + 1)) s H locs := hw
  refine lv_lconst (v := 0) hx hb dX2_tally_10 (by decide) ?_
  refine lv_lstore_n (lv' := [(1, .long 0), (0, .ref (gm G))]) hx hb dX2_tally_11 rfl hl (by decide) rfl (fun ls hl => ?_)
  refine lv_iconst (v := 0) hx hb dX2_tally_12 (by decide) ?_
  refine lv_istore_n (lv' := [(3, .int 0), (1, .long 0), (0, .ref (gm G))]) hx hb dX2_tally_13 rfl hl (by decide) rfl (fun ls hl => ?_)
  have loop : ∀ (d h : Nat) (z : Int64) (T : Tb) (H : Heap) (locs : List Loc) (ls : Array Slot), (h + d = 24 ∧ Inv T ∧ om_tally M = mf_tally d h z T) → Wi G (f, wa, S, T) s H locs → lv_has ls 4 [(3, .int (nI h)), (1, .long z), (0, .ref (gm G))] → W p l e (headSpec wsX2_tally (rk 1)).room s m [.ref (gm G)].toArray below meth c H locs 0 0 (MQ below (Ql G (fun r u => r = (om_tally M).1 ∧ u = (f, wa, S, (om_tally M).2))) [.ref (gm G)].toArray s 0 0 (gA G)) (F0 m 14 ls []) := by
    intro d
    induction d with
    | zero =>
      intro h z T H locs ls hk hw hl
      obtain ⟨hd24, hIT, hop⟩ := hk
      refine lv_iload_n hx hb dX2_tally_14 rfl (lv_at hl 0 rfl) ?_
      refine lv_bipush (v := 24) hx hb dX2_tally_15 (by decide) ?_
      refine lv_icmp_ge (tgt := 60) hx hb dX2_tally_17 (by decide) (fun c_17 => ?_) (fun c_17 => ?_)
      · skip
        refine lv_lload_n hx hb dX2_tally_60 rfl (lv_at hl 1 rfl) ?_
        exact e_l hx hb hr hlocks hw dX2_tally_61 (leafML (hop.trans (by simp only [mf_tally])))
      · skip
        exact absurd (show (24 : Int32) ≤ nI h from nI_le (a := 24) (by omega) (by omega)) c_17
    | succ d ih =>
      intro h z T H locs ls hk hw hl
      obtain ⟨hd24, hIT, hop⟩ := hk
      obtain ⟨n_h, h10_h, hn_h⟩ := hIT h (by omega)
      refine lv_iload_n hx hb dX2_tally_14 rfl (lv_at hl 0 rfl) ?_
      refine lv_bipush (v := 24) hx hb dX2_tally_15 (by decide) ?_
      refine lv_icmp_ge (tgt := 60) hx hb dX2_tally_17 (by decide) (fun c_17 => ?_) (fun c_17 => ?_)
      · skip
        exact absurd c_17 (nI_ge (b := 24) (show h < 24 by omega) (by decide))
      · skip
        refine lv_aload_n hx hb dX2_tally_20 rfl (lv_at hl 2 rfl) ?_
        refine r_getM (v := .ref (gc G 0)) hx hb hts hin2 hown hw 0 (by decide) lk7 rfl dX2_tally_21 ?_
        refine lv_iload_n hx hb dX2_tally_24 rfl (lv_at hl 0 rfl) ?_
        refine r_mldZ hx hb hw 0 (by decide) (by decide) (h) (rfl) (show h < 24 by omega) dX2_tally_25 ?_
        refine lv_if_ne (tgt := 32) hx hb dX2_tally_26 (by decide) (fun c_26 => ?_) (fun c_26 => ?_)
        · skip
          refine lv_lload_n hx hb dX2_tally_32 rfl (lv_at hl 1 rfl) ?_
          refine lv_aload_n hx hb dX2_tally_33 rfl (lv_at hl 2 rfl) ?_
          refine lv_iload_n hx hb dX2_tally_34 rfl (lv_at hl 0 rfl) ?_
          refine k_i hw (va_runV (As := [.int (nI h)]) (rest := [.long z]) ⟨hx, hb, hml, hown, hts⟩ (c_X2_weight l G f wa S T (i := h) (by omega) hn_h h10_h) (cwV 1 hts gX2_tally_X2_weight rfl rfl rfl (by decide +kernel) ⟨Nat.le_of_ble_eq_true rfl, Nat.le_of_ble_eq_true rfl⟩) (hw.preM _) rfl rfl hl.1 rfl (lv_room (Nat.le_of_ble_eq_true rfl)) dX2_tally_35 ⟨Nat.le_of_ble_eq_true rfl, Nat.le_of_ble_eq_true rfl⟩) (fun r u H locs hR hw => ?_)
          obtain ⟨hq, rfl⟩ := hR
          obtain rfl := hq.symm
          refine lv_i2l hx hb dX2_tally_38 rfl ?_
          refine lv_iload_n hx hb dX2_tally_39 rfl (lv_at hl 0 rfl) ?_
          refine lv_iconst (v := 1) hx hb dX2_tally_40 (by decide) ?_
          refine lv_iadd hx hb dX2_tally_41 ?_
          refine lv_i2l hx hb dX2_tally_42 rfl ?_
          refine lv_lmul hx hb dX2_tally_43 ?_
          refine lv_ladd hx hb dX2_tally_44 ?_
          refine lv_lstore_n (lv' := [(1, .long (z + (((wt T h).toInt64) * (((nI h) + 1).toInt64)))), (3, .int (nI h)), (0, .ref (gm G))]) hx hb dX2_tally_45 rfl hl (by decide) rfl (fun ls hl => ?_)
          refine lv_aload_n hx hb dX2_tally_46 rfl (lv_at hl 2 rfl) ?_
          refine lv_iload_n hx hb dX2_tally_47 rfl (lv_at hl 1 rfl) ?_
          refine lv_iconst (v := 1) hx hb dX2_tally_48 (by decide) ?_
          refine lv_iconst (v := 0) hx hb dX2_tally_49 (by decide) ?_
          refine k_i hw (va_runV (As := [.int (nI h), .int 1, .int 0]) (rest := []) ⟨hx, hb, hml, hown, hts⟩ (c_X2_let l G f wa S T (j := h) (by omega) 1 0) (cwV 3 hts gX2_tally_X2_let rfl rfl rfl (by decide +kernel) ⟨Nat.le_of_ble_eq_true rfl, Nat.le_of_ble_eq_true rfl⟩) (hw.preM _) rfl rfl hl.1 rfl (lv_room (Nat.le_of_ble_eq_true rfl)) dX2_tally_50 ⟨Nat.le_of_ble_eq_true rfl, Nat.le_of_ble_eq_true rfl⟩) (fun r u H locs hR hw => ?_)
          obtain ⟨hq, rfl⟩ := hR
          obtain rfl := hq.symm
          refine lv_pop hx hb dX2_tally_53 rfl ?_
          refine lv_iinc (v := nI (h + 1)) (lv' := [(3, .int (nI (h + 1))), (1, .long (z + (((wt T h).toInt64) * (((nI h) + 1).toInt64)))), (0, .ref (gm G))]) hx hb dX2_tally_54 hl (k := 1) rfl (nI_1 _) (by decide) rfl (fun ls hl => ?_)
          refine lv_goto (tgt := 14) hx hb dX2_tally_57 (by decide) ?_
          exact ih (h + 1) (z + (((wt T h).toInt64) * (((nI h) + 1).toInt64))) (sU (sU T 6 h ((T 6 h) + 1)) 7 h 1) H locs ls ⟨by omega, (show Inv _ from hIT), hop.trans (by simp only [mf_tally, ml, ml2, ↓reduceIte, c_17, c_26])⟩ hw (lv_sub hl [0, 1, 2] rfl)
        · skip
          refine lv_goto (tgt := 54) hx hb dX2_tally_29 (by decide) ?_
          refine lv_iinc (v := nI (h + 1)) (lv' := [(3, .int (nI (h + 1))), (1, .long z), (0, .ref (gm G))]) hx hb dX2_tally_54 hl (k := 0) rfl (nI_1 _) (by decide) rfl (fun ls hl => ?_)
          refine lv_goto (tgt := 14) hx hb dX2_tally_57 (by decide) ?_
          exact ih (h + 1) z T H locs ls ⟨by omega, (show Inv _ from hIT), hop.trans (by simp only [mf_tally, ml, ml2, ↓reduceIte, c_17, c_26])⟩ hw (lv_sub hl [0, 1, 2] rfl)
  exact loop 24 0 0 (sU M 9 0 (M 9 0 + 1)) _ _ _ ⟨by omega, (show Inv _ from hI), by rw [om_tally]⟩ hw (lv_sub hl [0, 1, 2] rfl)

set_option maxHeartbeats 800000 in
set_option maxRecDepth 100000 in
theorem c_X2_weigh (l : Launch) (G : GT) (f : Nat → Option Nat) (wa : Nat → Nat) (S M : Tb) (hI : Inv M) (p1 p2 : Int32) : Met l yX2_weigh wsX2_weigh (rk 1) (va_Pc [.ref (gm G), .int p1, .int p2] (Wo G (f, wa, S, M))) (Qi G (fun r u => r = (om_weigh M p1 p2).1 ∧ u = (f, wa, S, (om_weigh M p1 p2).2))) 0 0 (gA G) := by
  refine m_head (cc := cX2_weigh) (maxL := 6) (ret := (some .int)) (by decide) rfl (Nat.le_of_ble_eq_true rfl) ?_
  intro p e s m below meth c hx hb hml hr hlocks hown hts hw ls hl
  have hown : s.vm.findClass RX2 = some m.cls := hown
  have hl : lv_has ls 6 [(0, .ref (gm G)), (1, .int p1), (2, .int p2)] := hl
  have hin2 : ∀ w ∈ wsX20, w ∈ wsX2_weigh := by decide +kernel
  have lk49 := hts (.fieldLink RX2 49 "LockerWallModel" "latched" "I") (by decide +kernel)
  have lk7 := hts (.fieldLink RX2 7 "LockerWallModel" "there" "[Z") (by decide +kernel)
  refine lv_iload_n hx hb dX2_weigh_0 rfl (lv_at hl 1 rfl) ?_
  refine k_i hw (va_runS (As := [.int p1]) (rest := []) ⟨hx, hb, hml, hown, hts⟩ (c_X2_isHook l G f wa S M p1) (va_cwS 1 hts gX2_weigh_X2_isHook rfl rfl rfl (by decide +kernel) ⟨Nat.le_of_ble_eq_true rfl, Nat.le_of_ble_eq_true rfl⟩) (hw.preS _) rfl rfl hl.1 rfl (lv_room (Nat.le_of_ble_eq_true rfl)) dX2_weigh_1 ⟨Nat.le_of_ble_eq_true rfl, Nat.le_of_ble_eq_true rfl⟩) (fun r u H locs hR hw => ?_)
  obtain ⟨hq, rfl⟩ := hR
  obtain rfl := hq.symm
  cases hh_1 : isH p1
  · skip
    refine W.eq (g2 := F0 m 4 ls [.int 0]) rfl ?_
    refine lv_if_eq (tgt := 17) hx hb dX2_weigh_4 (by decide) (fun c_4 => ?_) (fun c_4 => ?_)
    · skip
      refine lv_iconst (v := (-1)) hx hb dX2_weigh_17 (by decide) ?_
      exact e_i hx hb hr hlocks hw dX2_weigh_18 (leafM (by simp only [om_weigh, ml, ml2, ↓reduceIte, hh_1, Bool.false_eq_true, c_4]))
    · skip
      exact absurd c_4 (by decide)
  · skip
    refine W.eq (g2 := F0 m 4 ls [.int 1]) rfl ?_
    obtain ⟨i, hi, rfl⟩ := isH_of hh_1
    refine lv_if_eq (tgt := 17) hx hb dX2_weigh_4 (by decide) (fun c_4 => ?_) (fun c_4 => ?_)
    · skip
      exact absurd c_4 (by decide)
    · skip
      refine lv_iload_n hx hb dX2_weigh_7 rfl (lv_at hl 2 rfl) ?_
      refine lv_if_lt (tgt := 17) hx hb dX2_weigh_8 (by decide) (fun c_8 => ?_) (fun c_8 => ?_)
      · skip
        refine lv_iconst (v := (-1)) hx hb dX2_weigh_17 (by decide) ?_
        exact e_i hx hb hr hlocks hw dX2_weigh_18 (leafM (by simp only [om_weigh, ml, ml2, ↓reduceIte, isH_nI hi, cl24 hi, c_4, c_8]))
      · skip
        refine lv_iload_n hx hb dX2_weigh_11 rfl (lv_at hl 2 rfl) ?_
        refine lv_bipush (v := 12) hx hb dX2_weigh_12 (by decide) ?_
        refine lv_icmp_le (tgt := 19) hx hb dX2_weigh_14 (by decide) (fun c_14 => ?_) (fun c_14 => ?_)
        · skip
          obtain ⟨q, hq12, rfl⟩ := nI_of2 (M := 12) (n := 12) rfl c_8 c_14
          have clq : (nI q).toNatClampNeg = q := nI_clamp (by omega)
          refine lv_aload_n hx hb dX2_weigh_19 rfl (lv_at hl 0 rfl) ?_
          refine lv_dup hx hb dX2_weigh_20 rfl ?_
          refine r_getM (v := .int (M 9 0)) hx hb hts hin2 hown hw 9 (by decide) lk49 rfl dX2_weigh_21 ?_
          refine lv_iconst (v := 1) hx hb dX2_weigh_24 (by decide) ?_
          refine lv_iadd hx hb dX2_weigh_25 ?_
          refine r_putMT hx hb hts hin2 hown hw lk49 dX2_weigh_26 (fun H locs hw => ?_)
          have hw : Wi G (f, wa, S, sU M 9 0 ((M 9 0) + 1)) s H locs := hw
          generalize hM1 : sU M 9 0 (M 9 0 + 1) = M1 at hw
          have hI1 : Inv M1 := by rw [← hM1]; exact hI
          refine lv_iconst (v := 0) hx hb dX2_weigh_29 (by decide) ?_
          refine lv_istore_n (lv' := [(3, .int 0), (0, .ref (gm G)), (1, .int (nI i)), (2, .int (nI q))]) hx hb dX2_weigh_30 rfl hl (by decide) rfl (fun ls hl => ?_)
          refine lv_iconst (v := 0) hx hb dX2_weigh_31 (by decide) ?_
          refine lv_istore (lv' := [(4, .int 0), (3, .int 0), (0, .ref (gm G)), (1, .int (nI i)), (2, .int (nI q))]) hx hb dX2_weigh_32 hl (by decide) rfl (fun ls hl => ?_)
          have fin : ∀ (k : Nat) (z : Int32) (H : Heap) (locs : List Loc) (ls : Array Slot), (k ≤ q ∧ mf_cnt i M1 q 0 0 = (k, z)) → Wi G (f, wa, S, M1) s H locs → lv_has ls 6 [(4, .int (nI k)), (3, .int z), (0, .ref (gm G)), (1, .int (nI i)), (2, .int (nI q))] → W p l e (headSpec wsX2_weigh (rk 1)).room s m [.ref (gm G), .int (nI i), .int (nI q)].toArray below meth c H locs 0 0 (MQ below (Qi G (fun r u => r = (om_weigh M (nI i) (nI q)).1 ∧ u = (f, wa, S, (om_weigh M (nI i) (nI q)).2))) [.ref (gm G), .int (nI i), .int (nI q)].toArray s 0 0 (gA G)) (F0 m 75 ls []) := by
            intro k z H locs ls hk hw hl
            obtain ⟨hkq, hcnt⟩ := hk
            by_cases hkn : nI q ≤ nI k
            · skip
              refine lv_iload hx hb dX2_weigh_75 (lv_at hl 0 rfl) ?_
              refine lv_iconst (v := 1) hx hb dX2_weigh_77 (by decide) ?_
              refine lv_isub hx hb dX2_weigh_78 ?_
              refine lv_istore (lv' := [(5, .int ((nI k) - 1)), (4, .int (nI k)), (3, .int z), (0, .ref (gm G)), (1, .int (nI i)), (2, .int (nI q))]) hx hb dX2_weigh_79 hl (by decide) rfl (fun ls hl => ?_)
              have loop : ∀ (t : Nat) (T : Tb) (H : Heap) (locs : List Loc) (ls : Array Slot), (t ≤ 12 ∧ mf_let i 2 k M1 = mf_let i 2 t T) → Wi G (f, wa, S, T) s H locs → lv_has ls 6 [(5, .int (nI t - 1)), (4, .int (nI k)), (3, .int z), (0, .ref (gm G)), (1, .int (nI i)), (2, .int (nI q))] → W p l e (headSpec wsX2_weigh (rk 1)).room s m [.ref (gm G), .int (nI i), .int (nI q)].toArray below meth c H locs 0 0 (MQ below (Qi G (fun r u => r = (om_weigh M (nI i) (nI q)).1 ∧ u = (f, wa, S, (om_weigh M (nI i) (nI q)).2))) [.ref (gm G), .int (nI i), .int (nI q)].toArray s 0 0 (gA G)) (F0 m 81 ls []) := by
                intro t
                induction t with
                | zero =>
                  intro T H locs ls hk hw hl
                  obtain ⟨ht, hop⟩ := hk
                  refine lv_iload hx hb dX2_weigh_81 (lv_at hl 0 rfl) ?_
                  refine lv_if_lt (tgt := 116) hx hb dX2_weigh_83 (by decide) (fun c_83 => ?_) (fun c_83 => ?_)
                  · skip
                    refine lv_iload hx hb dX2_weigh_116 (lv_at hl 1 rfl) ?_
                    refine lv_iload_n hx hb dX2_weigh_118 rfl (lv_at hl 5 rfl) ?_
                    refine lv_icmp_ge (tgt := 127) hx hb dX2_weigh_119 (by decide) (fun c_119 => ?_) (fun c_119 => ?_)
                    · skip
                      refine lv_iload_n hx hb dX2_weigh_127 rfl (lv_at hl 2 rfl) ?_
                      exact e_i hx hb hr hlocks hw dX2_weigh_128 (leafM (by simp only [om_weigh, mj_weigh, ↓reduceIte, hcnt, hkn, isH_nI hi, cl24 hi, c_4, c_8, c_14, clq, hM1, c_83, c_119]; simp only [hop, mf_let]))
                    · skip
                      exact absurd hkn c_119
                  · skip
                    exact absurd (by decide) c_83
                | succ t ih =>
                  intro T H locs ls hk hw hl
                  obtain ⟨ht, hop⟩ := hk
                  rw [nI_pred] at hl
                  refine lv_iload hx hb dX2_weigh_81 (lv_at hl 0 rfl) ?_
                  refine lv_if_lt (tgt := 116) hx hb dX2_weigh_83 (by decide) (fun c_83 => ?_) (fun c_83 => ?_)
                  · skip
                    exact absurd c_83 (nI_pos (by omega))
                  · skip
                    refine lv_aload_n hx hb dX2_weigh_86 rfl (lv_at hl 3 rfl) ?_
                    refine lv_iload_n hx hb dX2_weigh_87 rfl (lv_at hl 4 rfl) ?_
                    refine lv_iload hx hb dX2_weigh_88 (lv_at hl 0 rfl) ?_
                    refine lv_iadd hx hb dX2_weigh_90 ?_
                    refine W.eq (g2 := F0 m 91 ls [.int (nI (i + t)), .ref (gm G)]) (by rw [nI_add]) ?_
                    refine lv_bipush (v := 24) hx hb dX2_weigh_91 (by decide) ?_
                    refine lv_irem hx hb dX2_weigh_93 (by decide) ?_
                    refine W.eq (g2 := F0 m 94 ls [.int (nI ((i + t) % 24)), .ref (gm G)]) (by rw [ix24 (show i + t < 2 ^ 31 by omega)]) ?_
                    refine lv_iload hx hb dX2_weigh_94 (lv_at hl 1 rfl) ?_
                    refine lv_iload_n hx hb dX2_weigh_96 rfl (lv_at hl 5 rfl) ?_
                    refine lv_icmp_ge (tgt := 104) hx hb dX2_weigh_97 (by decide) (fun c_97 => ?_) (fun c_97 => ?_)
                    · skip
                      refine lv_iconst (v := 2) hx hb dX2_weigh_104 (by decide) ?_
                      refine lv_iconst (v := 0) hx hb dX2_weigh_105 (by decide) ?_
                      refine k_i hw (va_runV (As := [.int (nI ((i + t) % 24)), .int 2, .int 0]) (rest := []) ⟨hx, hb, hml, hown, hts⟩ (c_X2_let l G f wa S T (j := ((i + t) % 24)) (by omega) 2 0) (cwV 3 hts gX2_weigh_X2_let rfl rfl rfl (by decide +kernel) ⟨Nat.le_of_ble_eq_true rfl, Nat.le_of_ble_eq_true rfl⟩) (hw.preM _) rfl rfl hl.1 rfl (lv_room (Nat.le_of_ble_eq_true rfl)) dX2_weigh_106 ⟨Nat.le_of_ble_eq_true rfl, Nat.le_of_ble_eq_true rfl⟩) (fun r u H locs hR hw => ?_)
                      obtain ⟨hq, rfl⟩ := hR
                      obtain rfl := hq.symm
                      refine lv_pop hx hb dX2_weigh_109 rfl ?_
                      refine lv_iinc (v := nI t - 1) (lv' := [(5, .int (nI t - 1)), (4, .int (nI k)), (3, .int z), (0, .ref (gm G)), (1, .int (nI i)), (2, .int (nI q))]) hx hb dX2_weigh_110 hl (k := 0) rfl (m1 _) (by decide) rfl (fun ls hl => ?_)
                      refine lv_goto (tgt := 81) hx hb dX2_weigh_113 (by decide) ?_
                      exact ih (sU (sU T 6 ((i + t) % 24) ((T 6 ((i + t) % 24)) + 1)) 7 ((i + t) % 24) 2) H locs ls ⟨by omega, hop.trans (by simp only [mf_let, ml])⟩ hw (lv_sub hl [0, 1, 2, 3, 4, 5] rfl)
                    · skip
                      exact absurd hkn c_97
              exact loop k M1 _ _ _ ⟨by omega, rfl⟩ hw (lv_sub hl [0, 1, 2, 3, 4, 5] rfl)
            · skip
              refine lv_iload hx hb dX2_weigh_75 (lv_at hl 0 rfl) ?_
              refine lv_iconst (v := 1) hx hb dX2_weigh_77 (by decide) ?_
              refine lv_isub hx hb dX2_weigh_78 ?_
              refine lv_istore (lv' := [(5, .int ((nI k) - 1)), (4, .int (nI k)), (3, .int z), (0, .ref (gm G)), (1, .int (nI i)), (2, .int (nI q))]) hx hb dX2_weigh_79 hl (by decide) rfl (fun ls hl => ?_)
              have loop : ∀ (t : Nat) (T : Tb) (H : Heap) (locs : List Loc) (ls : Array Slot), (t ≤ 12 ∧ mf_let i 4 k M1 = mf_let i 4 t T) → Wi G (f, wa, S, T) s H locs → lv_has ls 6 [(5, .int (nI t - 1)), (4, .int (nI k)), (3, .int z), (0, .ref (gm G)), (1, .int (nI i)), (2, .int (nI q))] → W p l e (headSpec wsX2_weigh (rk 1)).room s m [.ref (gm G), .int (nI i), .int (nI q)].toArray below meth c H locs 0 0 (MQ below (Qi G (fun r u => r = (om_weigh M (nI i) (nI q)).1 ∧ u = (f, wa, S, (om_weigh M (nI i) (nI q)).2))) [.ref (gm G), .int (nI i), .int (nI q)].toArray s 0 0 (gA G)) (F0 m 81 ls []) := by
                intro t
                induction t with
                | zero =>
                  intro T H locs ls hk hw hl
                  obtain ⟨ht, hop⟩ := hk
                  refine lv_iload hx hb dX2_weigh_81 (lv_at hl 0 rfl) ?_
                  refine lv_if_lt (tgt := 116) hx hb dX2_weigh_83 (by decide) (fun c_83 => ?_) (fun c_83 => ?_)
                  · skip
                    refine lv_iload hx hb dX2_weigh_116 (lv_at hl 1 rfl) ?_
                    refine lv_iload_n hx hb dX2_weigh_118 rfl (lv_at hl 5 rfl) ?_
                    refine lv_icmp_ge (tgt := 127) hx hb dX2_weigh_119 (by decide) (fun c_119 => ?_) (fun c_119 => ?_)
                    · skip
                      exact absurd c_119 hkn
                    · skip
                      refine lv_bipush (v := (-2)) hx hb dX2_weigh_122 (by decide) ?_
                      refine lv_goto (tgt := 128) hx hb dX2_weigh_124 (by decide) ?_
                      exact e_i hx hb hr hlocks hw dX2_weigh_128 (leafM (by simp only [om_weigh, mj_weigh, ↓reduceIte, hcnt, hkn, isH_nI hi, cl24 hi, c_4, c_8, c_14, clq, hM1, c_83, c_119]; simp only [hop, mf_let]))
                  · skip
                    exact absurd (by decide) c_83
                | succ t ih =>
                  intro T H locs ls hk hw hl
                  obtain ⟨ht, hop⟩ := hk
                  rw [nI_pred] at hl
                  refine lv_iload hx hb dX2_weigh_81 (lv_at hl 0 rfl) ?_
                  refine lv_if_lt (tgt := 116) hx hb dX2_weigh_83 (by decide) (fun c_83 => ?_) (fun c_83 => ?_)
                  · skip
                    exact absurd c_83 (nI_pos (by omega))
                  · skip
                    refine lv_aload_n hx hb dX2_weigh_86 rfl (lv_at hl 3 rfl) ?_
                    refine lv_iload_n hx hb dX2_weigh_87 rfl (lv_at hl 4 rfl) ?_
                    refine lv_iload hx hb dX2_weigh_88 (lv_at hl 0 rfl) ?_
                    refine lv_iadd hx hb dX2_weigh_90 ?_
                    refine W.eq (g2 := F0 m 91 ls [.int (nI (i + t)), .ref (gm G)]) (by rw [nI_add]) ?_
                    refine lv_bipush (v := 24) hx hb dX2_weigh_91 (by decide) ?_
                    refine lv_irem hx hb dX2_weigh_93 (by decide) ?_
                    refine W.eq (g2 := F0 m 94 ls [.int (nI ((i + t) % 24)), .ref (gm G)]) (by rw [ix24 (show i + t < 2 ^ 31 by omega)]) ?_
                    refine lv_iload hx hb dX2_weigh_94 (lv_at hl 1 rfl) ?_
                    refine lv_iload_n hx hb dX2_weigh_96 rfl (lv_at hl 5 rfl) ?_
                    refine lv_icmp_ge (tgt := 104) hx hb dX2_weigh_97 (by decide) (fun c_97 => ?_) (fun c_97 => ?_)
                    · skip
                      exact absurd c_97 hkn
                    · skip
                      refine lv_iconst (v := 4) hx hb dX2_weigh_100 (by decide) ?_
                      refine lv_goto (tgt := 105) hx hb dX2_weigh_101 (by decide) ?_
                      refine lv_iconst (v := 0) hx hb dX2_weigh_105 (by decide) ?_
                      refine k_i hw (va_runV (As := [.int (nI ((i + t) % 24)), .int 4, .int 0]) (rest := []) ⟨hx, hb, hml, hown, hts⟩ (c_X2_let l G f wa S T (j := ((i + t) % 24)) (by omega) 4 0) (cwV 3 hts gX2_weigh_X2_let rfl rfl rfl (by decide +kernel) ⟨Nat.le_of_ble_eq_true rfl, Nat.le_of_ble_eq_true rfl⟩) (hw.preM _) rfl rfl hl.1 rfl (lv_room (Nat.le_of_ble_eq_true rfl)) dX2_weigh_106 ⟨Nat.le_of_ble_eq_true rfl, Nat.le_of_ble_eq_true rfl⟩) (fun r u H locs hR hw => ?_)
                      obtain ⟨hq, rfl⟩ := hR
                      obtain rfl := hq.symm
                      refine lv_pop hx hb dX2_weigh_109 rfl ?_
                      refine lv_iinc (v := nI t - 1) (lv' := [(5, .int (nI t - 1)), (4, .int (nI k)), (3, .int z), (0, .ref (gm G)), (1, .int (nI i)), (2, .int (nI q))]) hx hb dX2_weigh_110 hl (k := 0) rfl (m1 _) (by decide) rfl (fun ls hl => ?_)
                      refine lv_goto (tgt := 81) hx hb dX2_weigh_113 (by decide) ?_
                      exact ih (sU (sU T 6 ((i + t) % 24) ((T 6 ((i + t) % 24)) + 1)) 7 ((i + t) % 24) 4) H locs ls ⟨by omega, hop.trans (by simp only [mf_let, ml])⟩ hw (lv_sub hl [0, 1, 2, 3, 4, 5] rfl)
              exact loop k M1 _ _ _ ⟨by omega, rfl⟩ hw (lv_sub hl [0, 1, 2, 3, 4, 5] rfl)
          have loop : ∀ (d k : Nat) (z : Int32) (H : Heap) (locs : List Loc) (ls : Array Slot), (k + d = q ∧ mf_cnt i M1 q 0 0 = mf_cnt i M1 d k z) → Wi G (f, wa, S, M1) s H locs → lv_has ls 6 [(4, .int (nI k)), (3, .int z), (0, .ref (gm G)), (1, .int (nI i)), (2, .int (nI q))] → W p l e (headSpec wsX2_weigh (rk 1)).room s m [.ref (gm G), .int (nI i), .int (nI q)].toArray below meth c H locs 0 0 (MQ below (Qi G (fun r u => r = (om_weigh M (nI i) (nI q)).1 ∧ u = (f, wa, S, (om_weigh M (nI i) (nI q)).2))) [.ref (gm G), .int (nI i), .int (nI q)].toArray s 0 0 (gA G)) (F0 m 34 ls []) := by
            intro d
            induction d with
            | zero =>
              intro k z H locs ls hk hw hl
              obtain ⟨hkd, hop⟩ := hk
              refine lv_iload hx hb dX2_weigh_34 (lv_at hl 0 rfl) ?_
              refine lv_iload_n hx hb dX2_weigh_36 rfl (lv_at hl 4 rfl) ?_
              refine lv_icmp_ge (tgt := 75) hx hb dX2_weigh_37 (by decide) (fun c_37 => ?_) (fun c_37 => ?_)
              · skip
                exact fin k z _ _ _ ⟨by omega, hop.trans (by simp only [mf_cnt, ↓reduceIte, c_37])⟩ hw (lv_sub hl [0, 1, 2, 3, 4] rfl)
              · skip
                exact absurd (nI_le (show q ≤ k by omega) (by omega)) c_37
            | succ d ih =>
              intro k z H locs ls hk hw hl
              obtain ⟨hkd, hop⟩ := hk
              obtain ⟨n_h, h10_h, hn_h⟩ := hI1 ((i + k) % 24) (by omega)
              refine lv_iload hx hb dX2_weigh_34 (lv_at hl 0 rfl) ?_
              refine lv_iload_n hx hb dX2_weigh_36 rfl (lv_at hl 4 rfl) ?_
              refine lv_icmp_ge (tgt := 75) hx hb dX2_weigh_37 (by decide) (fun c_37 => ?_) (fun c_37 => ?_)
              · skip
                exact absurd c_37 (nI_ge (show k < q by omega) (by omega))
              · skip
                refine lv_aload_n hx hb dX2_weigh_40 rfl (lv_at hl 2 rfl) ?_
                refine r_getM (v := .ref (gc G 0)) hx hb hts hin2 hown hw 0 (by decide) lk7 rfl dX2_weigh_41 ?_
                refine lv_iload_n hx hb dX2_weigh_44 rfl (lv_at hl 3 rfl) ?_
                refine lv_iload hx hb dX2_weigh_45 (lv_at hl 0 rfl) ?_
                refine lv_iadd hx hb dX2_weigh_47 ?_
                refine W.eq (g2 := F0 m 48 ls [.int (nI (i + k)), .ref (gc G 0)]) (by rw [nI_add]) ?_
                refine lv_bipush (v := 24) hx hb dX2_weigh_48 (by decide) ?_
                refine lv_irem hx hb dX2_weigh_50 (by decide) ?_
                refine W.eq (g2 := F0 m 51 ls [.int (nI ((i + k) % 24)), .ref (gc G 0)]) (by rw [ix24 (show i + k < 2 ^ 31 by omega)]) ?_
                refine r_mldZ hx hb hw 0 (by decide) (by decide) (((i + k) % 24)) (rfl) (show ((i + k) % 24) < 24 by omega) dX2_weigh_51 ?_
                refine lv_if_eq (tgt := 75) hx hb dX2_weigh_52 (by decide) (fun c_52 => ?_) (fun c_52 => ?_)
                · skip
                  exact fin k z _ _ _ ⟨by omega, hop.trans (by simp only [mf_cnt, ↓reduceIte, c_37, c_52])⟩ hw (lv_sub hl [0, 1, 2, 3, 4] rfl)
                · skip
                  refine lv_iload_n hx hb dX2_weigh_55 rfl (lv_at hl 1 rfl) ?_
                  refine lv_aload_n hx hb dX2_weigh_56 rfl (lv_at hl 2 rfl) ?_
                  refine lv_iload_n hx hb dX2_weigh_57 rfl (lv_at hl 3 rfl) ?_
                  refine lv_iload hx hb dX2_weigh_58 (lv_at hl 0 rfl) ?_
                  refine lv_iadd hx hb dX2_weigh_60 ?_
                  refine W.eq (g2 := F0 m 61 ls [.int (nI (i + k)), .ref (gm G), .int z]) (by rw [nI_add]) ?_
                  refine lv_bipush (v := 24) hx hb dX2_weigh_61 (by decide) ?_
                  refine lv_irem hx hb dX2_weigh_63 (by decide) ?_
                  refine W.eq (g2 := F0 m 64 ls [.int (nI ((i + k) % 24)), .ref (gm G), .int z]) (by rw [ix24 (show i + k < 2 ^ 31 by omega)]) ?_
                  refine k_i hw (va_runV (As := [.int (nI ((i + k) % 24))]) (rest := [.int z]) ⟨hx, hb, hml, hown, hts⟩ (c_X2_weight l G f wa S M1 (i := ((i + k) % 24)) (by omega) hn_h h10_h) (cwV 1 hts gX2_weigh_X2_weight rfl rfl rfl (by decide +kernel) ⟨Nat.le_of_ble_eq_true rfl, Nat.le_of_ble_eq_true rfl⟩) (hw.preM _) rfl rfl hl.1 rfl (lv_room (Nat.le_of_ble_eq_true rfl)) dX2_weigh_64 ⟨Nat.le_of_ble_eq_true rfl, Nat.le_of_ble_eq_true rfl⟩) (fun r u H locs hR hw => ?_)
                  obtain ⟨hq, rfl⟩ := hR
                  obtain rfl := hq.symm
                  refine lv_iadd hx hb dX2_weigh_67 ?_
                  refine lv_istore_n (lv' := [(3, .int (z + (wt M1 ((i + k) % 24)))), (4, .int (nI k)), (0, .ref (gm G)), (1, .int (nI i)), (2, .int (nI q))]) hx hb dX2_weigh_68 rfl hl (by decide) rfl (fun ls hl => ?_)
                  refine lv_iinc (v := nI (k + 1)) (lv' := [(4, .int (nI (k + 1))), (3, .int (z + (wt M1 ((i + k) % 24)))), (0, .ref (gm G)), (1, .int (nI i)), (2, .int (nI q))]) hx hb dX2_weigh_69 hl (k := 1) rfl (nI_1 _) (by decide) rfl (fun ls hl => ?_)
                  refine lv_goto (tgt := 34) hx hb dX2_weigh_72 (by decide) ?_
                  exact ih (k + 1) (z + (wt M1 ((i + k) % 24))) H locs ls ⟨by omega, hop.trans (by simp only [mf_cnt, ↓reduceIte, c_37, c_52])⟩ hw (lv_sub hl [0, 1, 2, 3, 4] rfl)
          exact loop q 0 0 _ _ _ ⟨by omega, rfl⟩ hw (lv_sub hl [0, 1, 2, 3, 4] rfl)
        · skip
          refine lv_iconst (v := (-1)) hx hb dX2_weigh_17 (by decide) ?_
          exact e_i hx hb hr hlocks hw dX2_weigh_18 (leafM (by simp only [om_weigh, ml, ml2, ↓reduceIte, isH_nI hi, cl24 hi, c_4, c_8, c_14]))

set_option maxHeartbeats 800000 in
set_option maxRecDepth 100000 in
theorem c_X2_drop (l : Launch) (G : GT) (f : Nat → Option Nat) (wa : Nat → Nat) (S M : Tb) (hI : Inv M) (p1 p2 p3 : Int32) : Met l yX2_drop wsX2_drop (rk 1) (va_Pc [.ref (gm G), .int p1, .int p2, .int p3] (Wo G (f, wa, S, M))) (Qi G (fun r u => r = (om_drop M p1 p2 p3).1 ∧ u = (f, wa, S, (om_drop M p1 p2 p3).2))) 0 0 (gA G) := by
  refine m_head (cc := cX2_drop) (maxL := 7) (ret := (some .int)) (by decide) rfl (Nat.le_of_ble_eq_true rfl) ?_
  intro p e s m below meth c hx hb hml hr hlocks hown hts hw ls hl
  have hown : s.vm.findClass RX2 = some m.cls := hown
  have hl : lv_has ls 7 [(0, .ref (gm G)), (1, .int p1), (2, .int p2), (3, .int p3)] := hl
  have hin2 : ∀ w ∈ wsX20, w ∈ wsX2_drop := by decide +kernel
  have lk7 := hts (.fieldLink RX2 7 "LockerWallModel" "there" "[Z") (by decide +kernel)
  have lk20 := hts (.fieldLink RX2 20 "LockerWallModel" "open" "[Z") (by decide +kernel)
  have lk26 := hts (.fieldLink RX2 26 "LockerWallModel" "many" "[I") (by decide +kernel)
  refine lv_iload_n hx hb dX2_drop_0 rfl (lv_at hl 1 rfl) ?_
  refine k_i hw (va_runS (As := [.int p1]) (rest := []) ⟨hx, hb, hml, hown, hts⟩ (c_X2_isHook l G f wa S M p1) (va_cwS 1 hts gX2_drop_X2_isHook rfl rfl rfl (by decide +kernel) ⟨Nat.le_of_ble_eq_true rfl, Nat.le_of_ble_eq_true rfl⟩) (hw.preS _) rfl rfl hl.1 rfl (lv_room (Nat.le_of_ble_eq_true rfl)) dX2_drop_1 ⟨Nat.le_of_ble_eq_true rfl, Nat.le_of_ble_eq_true rfl⟩) (fun r u H locs hR hw => ?_)
  obtain ⟨hq, rfl⟩ := hR
  obtain rfl := hq.symm
  cases hh_1 : isH p1
  · skip
    refine W.eq (g2 := F0 m 4 ls [.int 0]) rfl ?_
    refine lv_if_eq (tgt := 18) hx hb dX2_drop_4 (by decide) (fun c_4 => ?_) (fun c_4 => ?_)
    · skip
      refine lv_iconst (v := (-1)) hx hb dX2_drop_18 (by decide) ?_
      exact e_i hx hb hr hlocks hw dX2_drop_19 (leafM (by simp only [om_drop, mj_drop, ml, ml2, ↓reduceIte, hh_1, Bool.false_eq_true, c_4]))
    · skip
      exact absurd c_4 (by decide)
  · skip
    refine W.eq (g2 := F0 m 4 ls [.int 1]) rfl ?_
    obtain ⟨i, hi, rfl⟩ := isH_of hh_1
    refine lv_if_eq (tgt := 18) hx hb dX2_drop_4 (by decide) (fun c_4 => ?_) (fun c_4 => ?_)
    · skip
      exact absurd c_4 (by decide)
    · skip
      refine lv_iload_n hx hb dX2_drop_7 rfl (lv_at hl 2 rfl) ?_
      refine lv_iconst (v := 1) hx hb dX2_drop_8 (by decide) ?_
      refine lv_icmp_lt (tgt := 18) hx hb dX2_drop_9 (by decide) (fun c_9 => ?_) (fun c_9 => ?_)
      · skip
        refine lv_iconst (v := (-1)) hx hb dX2_drop_18 (by decide) ?_
        exact e_i hx hb hr hlocks hw dX2_drop_19 (leafM (by simp only [om_drop, mj_drop, ml, ml2, ↓reduceIte, isH_nI hi, cl24 hi, c_4, c_9]))
      · skip
        refine lv_iload_n hx hb dX2_drop_12 rfl (lv_at hl 2 rfl) ?_
        refine lv_bipush (v := 10) hx hb dX2_drop_13 (by decide) ?_
        refine lv_icmp_le (tgt := 20) hx hb dX2_drop_15 (by decide) (fun c_15 => ?_) (fun c_15 => ?_)
        · skip
          obtain ⟨q, hq10, rfl⟩ := nI_of2 (M := 10) (n := 10) rfl (n1_0 c_9) c_15
          have clq : (nI q).toNatClampNeg = q := nI_clamp (by omega)
          refine lv_aload_n hx hb dX2_drop_20 rfl (lv_at hl 0 rfl) ?_
          refine r_getM (v := .ref (gc G 0)) hx hb hts hin2 hown hw 0 (by decide) lk7 rfl dX2_drop_21 ?_
          refine lv_iload_n hx hb dX2_drop_24 rfl (lv_at hl 1 rfl) ?_
          refine r_mldZ hx hb hw 0 (by decide) (by decide) (i) (rfl) (show i < 24 by omega) dX2_drop_25 ?_
          refine lv_if_ne (tgt := 32) hx hb dX2_drop_26 (by decide) (fun c_26 => ?_) (fun c_26 => ?_)
          · skip
            refine lv_aload_n hx hb dX2_drop_32 rfl (lv_at hl 0 rfl) ?_
            refine r_getM (v := .ref (gc G 3)) hx hb hts hin2 hown hw 3 (by decide) lk20 rfl dX2_drop_33 ?_
            refine lv_iload_n hx hb dX2_drop_36 rfl (lv_at hl 1 rfl) ?_
            refine r_mldZ hx hb hw 3 (by decide) (by decide) (i) (rfl) (show i < 24 by omega) dX2_drop_37 ?_
            refine lv_if_ne (tgt := 50) hx hb dX2_drop_38 (by decide) (fun c_38 => ?_) (fun c_38 => ?_)
            · skip
              refine lv_iconst (v := 0) hx hb dX2_drop_50 (by decide) ?_
              refine lv_istore (lv' := [(4, .int 0), (0, .ref (gm G)), (1, .int (nI i)), (2, .int (nI q)), (3, .int p3)]) hx hb dX2_drop_51 hl (by decide) rfl (fun ls hl => ?_)
              refine lv_iconst (v := 0) hx hb dX2_drop_53 (by decide) ?_
              refine lv_istore (lv' := [(5, .int 0), (4, .int 0), (0, .ref (gm G)), (1, .int (nI i)), (2, .int (nI q)), (3, .int p3)]) hx hb dX2_drop_54 hl (by decide) rfl (fun ls hl => ?_)
              refine lv_iconst (v := 0) hx hb dX2_drop_56 (by decide) ?_
              refine lv_istore (lv' := [(6, .int 0), (5, .int 0), (4, .int 0), (0, .ref (gm G)), (1, .int (nI i)), (2, .int (nI q)), (3, .int p3)]) hx hb dX2_drop_57 hl (by decide) rfl (fun ls hl => ?_)
              have hoc : ∀ (g' : Int32) (T' : Tb), of_drop i p3 q 0 M = (g', T') → om_drop M (nI i) (nI q) p3 = (g', ml T' i 1) := by
                intro g' T' hz
                simp only [om_drop, mj_drop, ↓reduceIte, isH_nI hi, cl24 hi, c_4, c_9, c_15, clq, c_26, c_38]
                simp only [hz]
              have fin : ∀ (v g : Int32) (T : Tb) (H : Heap) (locs : List Loc) (ls : Array Slot), of_drop i p3 q 0 M = (g, T) → Wi G (f, wa, S, T) s H locs → lv_has ls 7 [(4, .int v), (5, .int g), (6, .int 1), (0, .ref (gm G)), (1, .int (nI i)), (2, .int (nI q)), (3, .int p3)] → W p l e (headSpec wsX2_drop (rk 1)).room s m [.ref (gm G), .int (nI i), .int (nI q), .int p3].toArray below meth c H locs 0 0 (MQ below (Qi G (fun r u => r = (om_drop M (nI i) (nI q) p3).1 ∧ u = (f, wa, S, (om_drop M (nI i) (nI q) p3).2))) [.ref (gm G), .int (nI i), .int (nI q), .int p3].toArray s 0 0 (gA G)) (F0 m 59 ls []) := by
                intro v g T H locs ls hop hw hl
                refine lv_iload hx hb dX2_drop_59 (lv_at hl 0 rfl) ?_
                refine lv_iload_n hx hb dX2_drop_61 rfl (lv_at hl 5 rfl) ?_
                refine lv_icmp_ge (tgt := 108) hx hb dX2_drop_62 (by decide) (fun c_62 => ?_) (fun c_62 => ?_)
                · skip
                  refine lv_aload_n hx hb dX2_drop_108 rfl (lv_at hl 3 rfl) ?_
                  refine lv_iload_n hx hb dX2_drop_109 rfl (lv_at hl 4 rfl) ?_
                  refine lv_iconst (v := 1) hx hb dX2_drop_110 (by decide) ?_
                  refine lv_iload hx hb dX2_drop_111 (lv_at hl 1 rfl) ?_
                  refine k_i hw (va_runV (As := [.int (nI i), .int 1, .int g]) (rest := []) ⟨hx, hb, hml, hown, hts⟩ (c_X2_let l G f wa S T (j := i) (by omega) 1 g) (cwV 3 hts gX2_drop_X2_let rfl rfl rfl (by decide +kernel) ⟨Nat.le_of_ble_eq_true rfl, Nat.le_of_ble_eq_true rfl⟩) (hw.preM _) rfl rfl hl.1 rfl (lv_room (Nat.le_of_ble_eq_true rfl)) dX2_drop_113 ⟨Nat.le_of_ble_eq_true rfl, Nat.le_of_ble_eq_true rfl⟩) (fun r u H locs hR hw => ?_)
                  obtain ⟨hq, rfl⟩ := hR
                  obtain rfl := hq.symm
                  exact e_i hx hb hr hlocks hw dX2_drop_116 (leafM (hoc _ _ hop))
                · skip
                  refine lv_aload_n hx hb dX2_drop_65 rfl (lv_at hl 3 rfl) ?_
                  refine r_getM (v := .ref (gc G 5)) hx hb hts hin2 hown hw 5 (by decide) lk26 rfl dX2_drop_66 ?_
                  refine lv_iload_n hx hb dX2_drop_69 rfl (lv_at hl 4 rfl) ?_
                  refine r_mld hx hb hw 5 (by decide) (by decide) (i) (rfl) (show i < 24 by omega) dX2_drop_70 ?_
                  refine lv_if_le (tgt := 108) hx hb dX2_drop_71 (by decide) (fun c_71 => ?_) (fun c_71 => ?_)
                  · skip
                    refine lv_aload_n hx hb dX2_drop_108 rfl (lv_at hl 3 rfl) ?_
                    refine lv_iload_n hx hb dX2_drop_109 rfl (lv_at hl 4 rfl) ?_
                    refine lv_iconst (v := 1) hx hb dX2_drop_110 (by decide) ?_
                    refine lv_iload hx hb dX2_drop_111 (lv_at hl 1 rfl) ?_
                    refine k_i hw (va_runV (As := [.int (nI i), .int 1, .int g]) (rest := []) ⟨hx, hb, hml, hown, hts⟩ (c_X2_let l G f wa S T (j := i) (by omega) 1 g) (cwV 3 hts gX2_drop_X2_let rfl rfl rfl (by decide +kernel) ⟨Nat.le_of_ble_eq_true rfl, Nat.le_of_ble_eq_true rfl⟩) (hw.preM _) rfl rfl hl.1 rfl (lv_room (Nat.le_of_ble_eq_true rfl)) dX2_drop_113 ⟨Nat.le_of_ble_eq_true rfl, Nat.le_of_ble_eq_true rfl⟩) (fun r u H locs hR hw => ?_)
                    obtain ⟨hq, rfl⟩ := hR
                    obtain rfl := hq.symm
                    exact e_i hx hb hr hlocks hw dX2_drop_116 (leafM (hoc _ _ hop))
                  · skip
                    refine lv_iload hx hb dX2_drop_74 (lv_at hl 2 rfl) ?_
                    refine lv_if_ne (tgt := 108) hx hb dX2_drop_76 (by decide) (fun c_76 => ?_) (fun c_76 => ?_)
                    · skip
                      refine lv_aload_n hx hb dX2_drop_108 rfl (lv_at hl 3 rfl) ?_
                      refine lv_iload_n hx hb dX2_drop_109 rfl (lv_at hl 4 rfl) ?_
                      refine lv_iconst (v := 1) hx hb dX2_drop_110 (by decide) ?_
                      refine lv_iload hx hb dX2_drop_111 (lv_at hl 1 rfl) ?_
                      refine k_i hw (va_runV (As := [.int (nI i), .int 1, .int g]) (rest := []) ⟨hx, hb, hml, hown, hts⟩ (c_X2_let l G f wa S T (j := i) (by omega) 1 g) (cwV 3 hts gX2_drop_X2_let rfl rfl rfl (by decide +kernel) ⟨Nat.le_of_ble_eq_true rfl, Nat.le_of_ble_eq_true rfl⟩) (hw.preM _) rfl rfl hl.1 rfl (lv_room (Nat.le_of_ble_eq_true rfl)) dX2_drop_113 ⟨Nat.le_of_ble_eq_true rfl, Nat.le_of_ble_eq_true rfl⟩) (fun r u H locs hR hw => ?_)
                      obtain ⟨hq, rfl⟩ := hR
                      obtain rfl := hq.symm
                      exact e_i hx hb hr hlocks hw dX2_drop_116 (leafM (hoc _ _ hop))
                    · skip
                      exact absurd c_76 (by decide)
              have loop : ∀ (d k : Nat) (g : Int32) (T : Tb) (H : Heap) (locs : List Loc) (ls : Array Slot), (k + d = q ∧ Inv T ∧ of_drop i p3 q 0 M = of_drop i p3 d g T) → Wi G (f, wa, S, T) s H locs → lv_has ls 7 [(4, .int (nI k)), (5, .int g), (6, .int 0), (0, .ref (gm G)), (1, .int (nI i)), (2, .int (nI q)), (3, .int p3)] → W p l e (headSpec wsX2_drop (rk 1)).room s m [.ref (gm G), .int (nI i), .int (nI q), .int p3].toArray below meth c H locs 0 0 (MQ below (Qi G (fun r u => r = (om_drop M (nI i) (nI q) p3).1 ∧ u = (f, wa, S, (om_drop M (nI i) (nI q) p3).2))) [.ref (gm G), .int (nI i), .int (nI q), .int p3].toArray s 0 0 (gA G)) (F0 m 59 ls []) := by
                intro d
                induction d with
                | zero =>
                  intro k g T H locs ls hk hw hl
                  obtain ⟨hdq, hIT, hop⟩ := hk
                  refine lv_iload hx hb dX2_drop_59 (lv_at hl 0 rfl) ?_
                  refine lv_iload_n hx hb dX2_drop_61 rfl (lv_at hl 5 rfl) ?_
                  refine lv_icmp_ge (tgt := 108) hx hb dX2_drop_62 (by decide) (fun c_62 => ?_) (fun c_62 => ?_)
                  · skip
                    refine lv_aload_n hx hb dX2_drop_108 rfl (lv_at hl 3 rfl) ?_
                    refine lv_iload_n hx hb dX2_drop_109 rfl (lv_at hl 4 rfl) ?_
                    refine lv_iconst (v := 1) hx hb dX2_drop_110 (by decide) ?_
                    refine lv_iload hx hb dX2_drop_111 (lv_at hl 1 rfl) ?_
                    refine k_i hw (va_runV (As := [.int (nI i), .int 1, .int g]) (rest := []) ⟨hx, hb, hml, hown, hts⟩ (c_X2_let l G f wa S T (j := i) (by omega) 1 g) (cwV 3 hts gX2_drop_X2_let rfl rfl rfl (by decide +kernel) ⟨Nat.le_of_ble_eq_true rfl, Nat.le_of_ble_eq_true rfl⟩) (hw.preM _) rfl rfl hl.1 rfl (lv_room (Nat.le_of_ble_eq_true rfl)) dX2_drop_113 ⟨Nat.le_of_ble_eq_true rfl, Nat.le_of_ble_eq_true rfl⟩) (fun r u H locs hR hw => ?_)
                    obtain ⟨hq, rfl⟩ := hR
                    obtain rfl := hq.symm
                    exact e_i hx hb hr hlocks hw dX2_drop_116 (leafM (hoc _ _ (hop.trans (by simp only [of_drop, ↓reduceIte]))))
                  · skip
                    exact absurd (nI_le (show q ≤ k by omega) (by omega)) c_62
                | succ d ih =>
                  intro k g T H locs ls hk hw hl
                  obtain ⟨hdq, hIT, hop⟩ := hk
                  obtain ⟨n_h, h10_h, hn_h⟩ := hIT i hi
                  refine lv_iload hx hb dX2_drop_59 (lv_at hl 0 rfl) ?_
                  refine lv_iload_n hx hb dX2_drop_61 rfl (lv_at hl 5 rfl) ?_
                  refine lv_icmp_ge (tgt := 108) hx hb dX2_drop_62 (by decide) (fun c_62 => ?_) (fun c_62 => ?_)
                  · skip
                    exact absurd c_62 (nI_ge (show k < q by omega) (by omega))
                  · skip
                    refine lv_aload_n hx hb dX2_drop_65 rfl (lv_at hl 3 rfl) ?_
                    refine r_getM (v := .ref (gc G 5)) hx hb hts hin2 hown hw 5 (by decide) lk26 rfl dX2_drop_66 ?_
                    refine lv_iload_n hx hb dX2_drop_69 rfl (lv_at hl 4 rfl) ?_
                    refine r_mld hx hb hw 5 (by decide) (by decide) (i) (rfl) (show i < 24 by omega) dX2_drop_70 ?_
                    refine lv_if_le (tgt := 108) hx hb dX2_drop_71 (by decide) (fun c_71 => ?_) (fun c_71 => ?_)
                    · skip
                      refine lv_aload_n hx hb dX2_drop_108 rfl (lv_at hl 3 rfl) ?_
                      refine lv_iload_n hx hb dX2_drop_109 rfl (lv_at hl 4 rfl) ?_
                      refine lv_iconst (v := 1) hx hb dX2_drop_110 (by decide) ?_
                      refine lv_iload hx hb dX2_drop_111 (lv_at hl 1 rfl) ?_
                      refine k_i hw (va_runV (As := [.int (nI i), .int 1, .int g]) (rest := []) ⟨hx, hb, hml, hown, hts⟩ (c_X2_let l G f wa S T (j := i) (by omega) 1 g) (cwV 3 hts gX2_drop_X2_let rfl rfl rfl (by decide +kernel) ⟨Nat.le_of_ble_eq_true rfl, Nat.le_of_ble_eq_true rfl⟩) (hw.preM _) rfl rfl hl.1 rfl (lv_room (Nat.le_of_ble_eq_true rfl)) dX2_drop_113 ⟨Nat.le_of_ble_eq_true rfl, Nat.le_of_ble_eq_true rfl⟩) (fun r u H locs hR hw => ?_)
                      obtain ⟨hq, rfl⟩ := hR
                      obtain rfl := hq.symm
                      exact e_i hx hb hr hlocks hw dX2_drop_116 (leafM (hoc _ _ (hop.trans (by simp only [of_drop, ↓reduceIte, c_71]))))
                    · skip
                      refine lv_iload hx hb dX2_drop_74 (lv_at hl 2 rfl) ?_
                      refine lv_if_ne (tgt := 108) hx hb dX2_drop_76 (by decide) (fun c_76 => ?_) (fun c_76 => ?_)
                      · skip
                        exact absurd c_76 (by decide)
                      · skip
                        obtain ⟨q_h, hq_h, hs_h⟩ := n_succ hn_h h10_h (fun z => c_71 (by rw [z]; decide))
                        refine lv_iload hx hb dX2_drop_79 (lv_at hl 1 rfl) ?_
                        refine lv_aload_n hx hb dX2_drop_81 rfl (lv_at hl 3 rfl) ?_
                        refine lv_iload_n hx hb dX2_drop_82 rfl (lv_at hl 4 rfl) ?_
                        refine k_i hw (va_runV (As := [.int (nI i)]) (rest := [.int g]) ⟨hx, hb, hml, hown, hts⟩ (c_X2_takeLast l G f wa S T (i := i) (by omega) hs_h hq_h) (cwV 1 hts gX2_drop_X2_takeLast rfl rfl rfl (by decide +kernel) ⟨Nat.le_of_ble_eq_true rfl, Nat.le_of_ble_eq_true rfl⟩) (hw.preM _) rfl rfl hl.1 rfl (lv_room (Nat.le_of_ble_eq_true rfl)) dX2_drop_83 ⟨Nat.le_of_ble_eq_true rfl, Nat.le_of_ble_eq_true rfl⟩) (fun r u H locs hR hw => ?_)
                        obtain ⟨hq, rfl⟩ := hR
                        obtain rfl := hq.symm
                        refine lv_iadd hx hb dX2_drop_86 ?_
                        refine lv_istore (lv' := [(5, .int (g + (rmV T i))), (4, .int (nI k)), (6, .int 0), (0, .ref (gm G)), (1, .int (nI i)), (2, .int (nI q)), (3, .int p3)]) hx hb dX2_drop_87 hl (by decide) rfl (fun ls hl => ?_)
                        refine lv_iinc (v := nI (k + 1)) (lv' := [(4, .int (nI (k + 1))), (5, .int (g + (rmV T i))), (6, .int 0), (0, .ref (gm G)), (1, .int (nI i)), (2, .int (nI q)), (3, .int p3)]) hx hb dX2_drop_89 hl (k := 1) rfl (nI_1 _) (by decide) rfl (fun ls hl => ?_)
                        refine lv_iload hx hb dX2_drop_92 (lv_at hl 1 rfl) ?_
                        refine lv_iload_n hx hb dX2_drop_94 rfl (lv_at hl 6 rfl) ?_
                        refine lv_icmp_lt (tgt := 102) hx hb dX2_drop_95 (by decide) (fun c_95 => ?_) (fun c_95 => ?_)
                        · skip
                          refine lv_iconst (v := 0) hx hb dX2_drop_102 (by decide) ?_
                          refine lv_istore (lv' := [(6, .int 0), (4, .int (nI (k + 1))), (5, .int (g + (rmV T i))), (0, .ref (gm G)), (1, .int (nI i)), (2, .int (nI q)), (3, .int p3)]) hx hb dX2_drop_103 hl (by decide) rfl (fun ls hl => ?_)
                          refine lv_goto (tgt := 59) hx hb dX2_drop_105 (by decide) ?_
                          exact ih (k + 1) (g + (rmV T i)) (rmS T i) H locs ls ⟨by omega, hIT.rm hs_h hq_h, hop.trans (by simp only [of_drop, ↓reduceIte, c_62, c_71, c_76, c_95])⟩ hw (lv_sub hl [1, 2, 0, 3, 4, 5, 6] rfl)
                        · skip
                          refine lv_iconst (v := 1) hx hb dX2_drop_98 (by decide) ?_
                          refine lv_goto (tgt := 103) hx hb dX2_drop_99 (by decide) ?_
                          refine lv_istore (lv' := [(6, .int 1), (4, .int (nI (k + 1))), (5, .int (g + (rmV T i))), (0, .ref (gm G)), (1, .int (nI i)), (2, .int (nI q)), (3, .int p3)]) hx hb dX2_drop_103 hl (by decide) rfl (fun ls hl => ?_)
                          refine lv_goto (tgt := 59) hx hb dX2_drop_105 (by decide) ?_
                          exact fin _ (g + (rmV T i)) (rmS T i) H locs ls (hop.trans (by simp only [of_drop, ↓reduceIte, c_62, c_71, c_76, c_95])) hw (lv_sub hl [1, 2, 0, 3, 4, 5, 6] rfl)
              exact loop q 0 0 M _ _ _ ⟨by omega, hI, rfl⟩ hw (lv_sub hl [2, 1, 0, 3, 4, 5, 6] rfl)
            · skip
              refine lv_aload_n hx hb dX2_drop_41 rfl (lv_at hl 0 rfl) ?_
              refine lv_iload_n hx hb dX2_drop_42 rfl (lv_at hl 1 rfl) ?_
              refine lv_iconst (v := 2) hx hb dX2_drop_43 (by decide) ?_
              refine lv_bipush (v := (-3)) hx hb dX2_drop_44 (by decide) ?_
              refine k_i hw (va_runV (As := [.int (nI i), .int 2, .int (-3)]) (rest := []) ⟨hx, hb, hml, hown, hts⟩ (c_X2_let l G f wa S M (j := i) (by omega) 2 (-3)) (cwV 3 hts gX2_drop_X2_let rfl rfl rfl (by decide +kernel) ⟨Nat.le_of_ble_eq_true rfl, Nat.le_of_ble_eq_true rfl⟩) (hw.preM _) rfl rfl hl.1 rfl (lv_room (Nat.le_of_ble_eq_true rfl)) dX2_drop_46 ⟨Nat.le_of_ble_eq_true rfl, Nat.le_of_ble_eq_true rfl⟩) (fun r u H locs hR hw => ?_)
              obtain ⟨hq, rfl⟩ := hR
              obtain rfl := hq.symm
              exact e_i hx hb hr hlocks hw dX2_drop_49 (leafM (by simp only [om_drop, mj_drop, ml, ml2, ↓reduceIte, isH_nI hi, cl24 hi, c_4, c_9, c_15, clq, c_26, c_38]))
          · skip
            refine lv_bipush (v := (-2)) hx hb dX2_drop_29 (by decide) ?_
            exact e_i hx hb hr hlocks hw dX2_drop_31 (leafM (by simp only [om_drop, mj_drop, ml, ml2, ↓reduceIte, isH_nI hi, cl24 hi, c_4, c_9, c_15, clq, c_26]))
        · skip
          refine lv_iconst (v := (-1)) hx hb dX2_drop_18 (by decide) ?_
          exact e_i hx hb hr hlocks hw dX2_drop_19 (leafM (by simp only [om_drop, mj_drop, ml, ml2, ↓reduceIte, isH_nI hi, cl24 hi, c_4, c_9, c_15]))

set_option maxHeartbeats 800000 in
set_option maxRecDepth 100000 in
theorem c_X2_told (l : Launch) (G : GT) (f : Nat → Option Nat) (wa : Nat → Nat) (S M : Tb) (hI : Inv M) (p1 p2 : Int32) : Met l yX2_told wsX2_told (rk 1) (va_Pc [.ref (gm G), .int p1, .int p2] (Wo G (f, wa, S, M))) (Qi G (fun r u => r = (om_told M p1 p2).1 ∧ u = (f, wa, S, (om_told M p1 p2).2))) 0 0 (gA G) := by
  refine m_head (cc := cX2_told) (maxL := 3) (ret := (some .int)) (by decide) rfl (Nat.le_of_ble_eq_true rfl) ?_
  intro p e s m below meth c hx hb hml hr hlocks hown hts hw ls hl
  have hown : s.vm.findClass RX2 = some m.cls := hown
  have hl : lv_has ls 3 [(0, .ref (gm G)), (1, .int p1), (2, .int p2)] := hl
  have hin2 : ∀ w ∈ wsX20, w ∈ wsX2_told := by decide +kernel
  have lk7 := hts (.fieldLink RX2 7 "LockerWallModel" "there" "[Z") (by decide +kernel)
  have lk13 := hts (.fieldLink RX2 13 "LockerWallModel" "room" "[I") (by decide +kernel)
  have lk17 := hts (.fieldLink RX2 17 "LockerWallModel" "code" "[I") (by decide +kernel)
  have lk20 := hts (.fieldLink RX2 20 "LockerWallModel" "open" "[Z") (by decide +kernel)
  have lk23 := hts (.fieldLink RX2 23 "LockerWallModel" "tries" "[I") (by decide +kernel)
  have lk26 := hts (.fieldLink RX2 26 "LockerWallModel" "many" "[I") (by decide +kernel)
  have lk29 := hts (.fieldLink RX2 29 "LockerWallModel" "holds" "[I") (by decide +kernel)
  have lk32 := hts (.fieldLink RX2 32 "LockerWallModel" "left" "[I") (by decide +kernel)
  refine lv_iload_n hx hb dX2_told_0 rfl (lv_at hl 1 rfl) ?_
  refine k_i hw (va_runS (As := [.int p1]) (rest := []) ⟨hx, hb, hml, hown, hts⟩ (c_X2_isHook l G f wa S M p1) (va_cwS 1 hts gX2_told_X2_isHook rfl rfl rfl (by decide +kernel) ⟨Nat.le_of_ble_eq_true rfl, Nat.le_of_ble_eq_true rfl⟩) (hw.preS _) rfl rfl hl.1 rfl (lv_room (Nat.le_of_ble_eq_true rfl)) dX2_told_1 ⟨Nat.le_of_ble_eq_true rfl, Nat.le_of_ble_eq_true rfl⟩) (fun r u H locs hR hw => ?_)
  obtain ⟨hq, rfl⟩ := hR
  obtain rfl := hq.symm
  cases hh_1 : isH p1
  · skip
    refine W.eq (g2 := F0 m 4 ls [.int 0]) rfl ?_
    refine lv_if_eq (tgt := 17) hx hb dX2_told_4 (by decide) (fun c_4 => ?_) (fun c_4 => ?_)
    · skip
      refine lv_iconst (v := (-1)) hx hb dX2_told_17 (by decide) ?_
      exact e_i hx hb hr hlocks hw dX2_told_18 (leafM (by simp only [om_told, factS, ↓reduceIte, hh_1, Bool.false_eq_true, c_4]))
    · skip
      exact absurd c_4 (by decide)
  · skip
    refine W.eq (g2 := F0 m 4 ls [.int 1]) rfl ?_
    obtain ⟨i, hi, rfl⟩ := isH_of hh_1
    obtain ⟨n_i, h10_i, hn_i⟩ := hI i hi
    refine lv_if_eq (tgt := 17) hx hb dX2_told_4 (by decide) (fun c_4 => ?_) (fun c_4 => ?_)
    · skip
      exact absurd c_4 (by decide)
    · skip
      refine lv_iload_n hx hb dX2_told_7 rfl (lv_at hl 2 rfl) ?_
      refine lv_if_lt (tgt := 17) hx hb dX2_told_8 (by decide) (fun c_8 => ?_) (fun c_8 => ?_)
      · skip
        refine lv_iconst (v := (-1)) hx hb dX2_told_17 (by decide) ?_
        exact e_i hx hb hr hlocks hw dX2_told_18 (leafM (by simp only [om_told, factS, ↓reduceIte, isH_nI hi, cl24 hi, c_4, c_8]))
      · skip
        refine lv_iload_n hx hb dX2_told_11 rfl (lv_at hl 2 rfl) ?_
        refine lv_bipush (v := 8) hx hb dX2_told_12 (by decide) ?_
        refine lv_icmp_le (tgt := 19) hx hb dX2_told_14 (by decide) (fun c_14 => ?_) (fun c_14 => ?_)
        · skip
          refine lv_iload_n hx hb dX2_told_19 rfl (lv_at hl 2 rfl) ?_
          refine lv_if_ne (tgt := 38) hx hb dX2_told_20 (by decide) (fun c_20 => ?_) (fun c_20 => ?_)
          · skip
            refine lv_aload_n hx hb dX2_told_38 rfl (lv_at hl 0 rfl) ?_
            refine r_getM (v := .ref (gc G 0)) hx hb hts hin2 hown hw 0 (by decide) lk7 rfl dX2_told_39 ?_
            refine lv_iload_n hx hb dX2_told_42 rfl (lv_at hl 1 rfl) ?_
            refine r_mldZ hx hb hw 0 (by decide) (by decide) (i) (rfl) (show i < 24 by omega) dX2_told_43 ?_
            refine lv_if_ne (tgt := 50) hx hb dX2_told_44 (by decide) (fun c_44 => ?_) (fun c_44 => ?_)
            · skip
              refine lv_iload_n hx hb dX2_told_50 rfl (lv_at hl 2 rfl) ?_
              obtain ⟨q, hq8, rfl⟩ := nI_of2 (M := 8) (n := 8) rfl c_8 c_14
              have hq0 : q ≠ 0 := fun z => c_20 (by rw [z]; exact nI_0)
              rcases (show q = 1 ∨ q = 2 ∨ q = 3 ∨ q = 4 ∨ q = 5 ∨ q = 6 ∨ q = 7 ∨ q = 8 by omega) with rfl | rfl | rfl | rfl | rfl | rfl | rfl | rfl
              · skip
                have clq : (nI 1).toNatClampNeg = 1 := nI_clamp (by decide)
                refine lv_tableIn (tgt := 92) (off := 41) hx hb dX2_told_51 (by decide) (by decide) rfl (by decide) ?_
                refine lv_aload_n hx hb dX2_told_92 rfl (lv_at hl 0 rfl) ?_
                refine r_getM (v := .ref (gc G 1)) hx hb hts hin2 hown hw 1 (by decide) lk13 rfl dX2_told_93 ?_
                refine lv_iload_n hx hb dX2_told_96 rfl (lv_at hl 1 rfl) ?_
                refine r_mld hx hb hw 1 (by decide) (by decide) (i) (rfl) (show i < 24 by omega) dX2_told_97 ?_
                exact e_i hx hb hr hlocks hw dX2_told_98 (leafM (by simp only [om_told, factS, ↓reduceIte, isH_nI hi, cl24 hi, c_4, c_8, c_14, c_20, c_44, clq]))
              · skip
                have clq : (nI 2).toNatClampNeg = 2 := nI_clamp (by decide)
                refine lv_tableIn (tgt := 99) (off := 48) hx hb dX2_told_51 (by decide) (by decide) rfl (by decide) ?_
                refine lv_aload_n hx hb dX2_told_99 rfl (lv_at hl 0 rfl) ?_
                refine r_getM (v := .ref (gc G 2)) hx hb hts hin2 hown hw 2 (by decide) lk17 rfl dX2_told_100 ?_
                refine lv_iload_n hx hb dX2_told_103 rfl (lv_at hl 1 rfl) ?_
                refine r_mld hx hb hw 2 (by decide) (by decide) (i) (rfl) (show i < 24 by omega) dX2_told_104 ?_
                exact e_i hx hb hr hlocks hw dX2_told_105 (leafM (by simp only [om_told, factS, ↓reduceIte, isH_nI hi, cl24 hi, c_4, c_8, c_14, c_20, c_44, clq]))
              · skip
                have clq : (nI 3).toNatClampNeg = 3 := nI_clamp (by decide)
                refine lv_tableIn (tgt := 106) (off := 55) hx hb dX2_told_51 (by decide) (by decide) rfl (by decide) ?_
                refine lv_aload_n hx hb dX2_told_106 rfl (lv_at hl 0 rfl) ?_
                refine r_getM (v := .ref (gc G 3)) hx hb hts hin2 hown hw 3 (by decide) lk20 rfl dX2_told_107 ?_
                refine lv_iload_n hx hb dX2_told_110 rfl (lv_at hl 1 rfl) ?_
                refine r_mldZ hx hb hw 3 (by decide) (by decide) (i) (rfl) (show i < 24 by omega) dX2_told_111 ?_
                refine lv_if_eq (tgt := 119) hx hb dX2_told_112 (by decide) (fun c_112 => ?_) (fun c_112 => ?_)
                · skip
                  refine lv_iconst (v := 0) hx hb dX2_told_119 (by decide) ?_
                  exact e_i hx hb hr hlocks hw dX2_told_120 (leafM (by simp only [om_told, factS, ↓reduceIte, isH_nI hi, cl24 hi, c_4, c_8, c_14, c_20, c_44, clq, c_112]))
                · skip
                  refine lv_iconst (v := 1) hx hb dX2_told_115 (by decide) ?_
                  refine lv_goto (tgt := 120) hx hb dX2_told_116 (by decide) ?_
                  exact e_i hx hb hr hlocks hw dX2_told_120 (leafM (by simp only [om_told, factS, ↓reduceIte, isH_nI hi, cl24 hi, c_4, c_8, c_14, c_20, c_44, clq, c_112]))
              · skip
                have clq : (nI 4).toNatClampNeg = 4 := nI_clamp (by decide)
                refine lv_tableIn (tgt := 121) (off := 70) hx hb dX2_told_51 (by decide) (by decide) rfl (by decide) ?_
                refine lv_aload_n hx hb dX2_told_121 rfl (lv_at hl 0 rfl) ?_
                refine r_getM (v := .ref (gc G 4)) hx hb hts hin2 hown hw 4 (by decide) lk23 rfl dX2_told_122 ?_
                refine lv_iload_n hx hb dX2_told_125 rfl (lv_at hl 1 rfl) ?_
                refine r_mld hx hb hw 4 (by decide) (by decide) (i) (rfl) (show i < 24 by omega) dX2_told_126 ?_
                exact e_i hx hb hr hlocks hw dX2_told_127 (leafM (by simp only [om_told, factS, ↓reduceIte, isH_nI hi, cl24 hi, c_4, c_8, c_14, c_20, c_44, clq]))
              · skip
                have clq : (nI 5).toNatClampNeg = 5 := nI_clamp (by decide)
                refine lv_tableIn (tgt := 128) (off := 77) hx hb dX2_told_51 (by decide) (by decide) rfl (by decide) ?_
                refine lv_aload_n hx hb dX2_told_128 rfl (lv_at hl 0 rfl) ?_
                refine r_getM (v := .ref (gc G 5)) hx hb hts hin2 hown hw 5 (by decide) lk26 rfl dX2_told_129 ?_
                refine lv_iload_n hx hb dX2_told_132 rfl (lv_at hl 1 rfl) ?_
                refine r_mld hx hb hw 5 (by decide) (by decide) (i) (rfl) (show i < 24 by omega) dX2_told_133 ?_
                exact e_i hx hb hr hlocks hw dX2_told_134 (leafM (by simp only [om_told, factS, ↓reduceIte, isH_nI hi, cl24 hi, c_4, c_8, c_14, c_20, c_44, clq]))
              · skip
                have clq : (nI 6).toNatClampNeg = 6 := nI_clamp (by decide)
                refine lv_tableIn (tgt := 135) (off := 84) hx hb dX2_told_51 (by decide) (by decide) rfl (by decide) ?_
                refine lv_aload_n hx hb dX2_told_135 rfl (lv_at hl 0 rfl) ?_
                refine lv_iload_n hx hb dX2_told_136 rfl (lv_at hl 1 rfl) ?_
                refine k_i hw (va_runV (As := [.int (nI i)]) (rest := []) ⟨hx, hb, hml, hown, hts⟩ (c_X2_weight l G f wa S M (i := i) (by omega) hn_i h10_i) (cwV 1 hts gX2_told_X2_weight rfl rfl rfl (by decide +kernel) ⟨Nat.le_of_ble_eq_true rfl, Nat.le_of_ble_eq_true rfl⟩) (hw.preM _) rfl rfl hl.1 rfl (lv_room (Nat.le_of_ble_eq_true rfl)) dX2_told_137 ⟨Nat.le_of_ble_eq_true rfl, Nat.le_of_ble_eq_true rfl⟩) (fun r u H locs hR hw => ?_)
                obtain ⟨hq, rfl⟩ := hR
                obtain rfl := hq.symm
                exact e_i hx hb hr hlocks hw dX2_told_140 (leafM (by simp only [om_told, factS, ↓reduceIte, isH_nI hi, cl24 hi, c_4, c_8, c_14, c_20, c_44, clq]))
              · skip
                have clq : (nI 7).toNatClampNeg = 7 := nI_clamp (by decide)
                refine lv_tableIn (tgt := 141) (off := 90) hx hb dX2_told_51 (by decide) (by decide) rfl (by decide) ?_
                refine lv_aload_n hx hb dX2_told_141 rfl (lv_at hl 0 rfl) ?_
                refine r_getM (v := .ref (gc G 6)) hx hb hts hin2 hown hw 6 (by decide) lk29 rfl dX2_told_142 ?_
                refine lv_iload_n hx hb dX2_told_145 rfl (lv_at hl 1 rfl) ?_
                refine r_mld hx hb hw 6 (by decide) (by decide) (i) (rfl) (show i < 24 by omega) dX2_told_146 ?_
                exact e_i hx hb hr hlocks hw dX2_told_147 (leafM (by simp only [om_told, factS, ↓reduceIte, isH_nI hi, cl24 hi, c_4, c_8, c_14, c_20, c_44, clq]))
              · skip
                have clq : (nI 8).toNatClampNeg = 8 := nI_clamp (by decide)
                refine lv_tableOut (tgt := 148) hx hb dX2_told_51 (Or.inr (by decide)) (by decide) ?_
                refine lv_aload_n hx hb dX2_told_148 rfl (lv_at hl 0 rfl) ?_
                refine r_getM (v := .ref (gc G 7)) hx hb hts hin2 hown hw 7 (by decide) lk32 rfl dX2_told_149 ?_
                refine lv_iload_n hx hb dX2_told_152 rfl (lv_at hl 1 rfl) ?_
                refine r_mld hx hb hw 7 (by decide) (by decide) (i) (rfl) (show i < 24 by omega) dX2_told_153 ?_
                exact e_i hx hb hr hlocks hw dX2_told_154 (leafM (by simp only [om_told, factS, ↓reduceIte, isH_nI hi, cl24 hi, c_4, c_8, c_14, c_20, c_44, clq]))
            · skip
              refine lv_bipush (v := (-2)) hx hb dX2_told_47 (by decide) ?_
              exact e_i hx hb hr hlocks hw dX2_told_49 (leafM (by simp only [om_told, factS, ↓reduceIte, isH_nI hi, cl24 hi, c_4, c_8, c_14, c_20, c_44]))
          · skip
            refine lv_aload_n hx hb dX2_told_23 rfl (lv_at hl 0 rfl) ?_
            refine r_getM (v := .ref (gc G 0)) hx hb hts hin2 hown hw 0 (by decide) lk7 rfl dX2_told_24 ?_
            refine lv_iload_n hx hb dX2_told_27 rfl (lv_at hl 1 rfl) ?_
            refine r_mldZ hx hb hw 0 (by decide) (by decide) (i) (rfl) (show i < 24 by omega) dX2_told_28 ?_
            refine lv_if_eq (tgt := 36) hx hb dX2_told_29 (by decide) (fun c_29 => ?_) (fun c_29 => ?_)
            · skip
              refine lv_iconst (v := 0) hx hb dX2_told_36 (by decide) ?_
              exact e_i hx hb hr hlocks hw dX2_told_37 (leafM (by simp only [om_told, ↓reduceIte, isH_nI hi, cl24 hi, c_4, c_8, c_14, c_29]; rw [if_pos c_20]))
            · skip
              refine lv_iconst (v := 1) hx hb dX2_told_32 (by decide) ?_
              refine lv_goto (tgt := 37) hx hb dX2_told_33 (by decide) ?_
              exact e_i hx hb hr hlocks hw dX2_told_37 (leafM (by simp only [om_told, ↓reduceIte, isH_nI hi, cl24 hi, c_4, c_8, c_14, c_29]; rw [if_pos c_20]))
        · skip
          refine lv_iconst (v := (-1)) hx hb dX2_told_17 (by decide) ?_
          exact e_i hx hb hr hlocks hw dX2_told_18 (leafM (by simp only [om_told, factS, ↓reduceIte, isH_nI hi, cl24 hi, c_4, c_8, c_14]))
