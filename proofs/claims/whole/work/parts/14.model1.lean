theorem okA_lt {S : Tb} {i n : Nat} {w : Int32} (hn : S 5 i = nI n) (h10 : n ≤ 10) (h : okA S i w = true) : n < 10 := by
  rcases Nat.lt_or_ge n 10 with q | q
  · exact q
  · have h1 : (10 : Int32) ≤ S 5 i := by rw [hn]; exact nI_le (a := 10) q (by omega)
    simp [okA, h1] at h
set_option maxHeartbeats 800000 in
set_option maxRecDepth 100000 in
theorem c_X2_let (l : Launch) (G : GT) (f : Nat → Option Nat) (wa : Nat → Nat) (S M : Tb) {j : Nat} (hj : j < 24) (p2 p3 : Int32) : Met l yX2_let wsX2_let (rk 0) (va_Pc [.ref (gm G), .int (nI j), .int p2, .int p3] (Wo G (f, wa, S, M))) (Qi G (fun r u => r = p3 ∧ u = (f, wa, S, ml M j p2))) 0 0 (gA G) := by
  refine m_head (cc := cX2_let) (maxL := 4) (ret := (some .int)) (by decide) rfl (Nat.le_of_ble_eq_true rfl) ?_
  intro p e s m below meth c hx hb hml hr hlocks hown hts hw ls hl
  have hown : s.vm.findClass RX2 = some m.cls := hown
  have hl : lv_has ls 4 [(0, .ref (gm G)), (1, .int (nI j)), (2, .int p2), (3, .int p3)] := hl
  have hin2 : ∀ w ∈ wsX20, w ∈ wsX2_let := by decide +kernel
  have lk29 := hts (.fieldLink RX2 29 "LockerWallModel" "holds" "[I") (by decide +kernel)
  have lk32 := hts (.fieldLink RX2 32 "LockerWallModel" "left" "[I") (by decide +kernel)
  refine lv_aload_n hx hb dX2_let_0 rfl (lv_at hl 0 rfl) ?_
  refine r_getM (v := .ref (gc G 6)) hx hb hts hin2 hown hw 6 (by decide) lk29 rfl dX2_let_1 ?_
  refine lv_iload_n hx hb dX2_let_4 rfl (lv_at hl 1 rfl) ?_
  refine lv_dup2_11 hx hb dX2_let_5 rfl rfl ?_
  refine r_mld hx hb hw 6 (by decide) (by decide) (j) (rfl) (show j < 24 by omega) dX2_let_6 ?_
  refine lv_iconst (v := 1) hx hb dX2_let_7 (by decide) ?_
  refine lv_iadd hx hb dX2_let_8 ?_
  refine r_mst hx hb hw 6 (by decide) (by decide) (j) (rfl) (show j < 24 by omega) dX2_let_9 (fun H locs hw => ?_)
  have hw : Wi G (f, wa, S, sU M 6 j ((M 6 j) + 1)) s H locs := hw
  refine lv_aload_n hx hb dX2_let_10 rfl (lv_at hl 0 rfl) ?_
  refine r_getM (v := .ref (gc G 7)) hx hb hts hin2 hown hw 7 (by decide) lk32 rfl dX2_let_11 ?_
  refine lv_iload_n hx hb dX2_let_14 rfl (lv_at hl 1 rfl) ?_
  refine lv_iload_n hx hb dX2_let_15 rfl (lv_at hl 2 rfl) ?_
  refine r_mst hx hb hw 7 (by decide) (by decide) (j) (rfl) (show j < 24 by omega) dX2_let_16 (fun H locs hw => ?_)
  have hw : Wi G (f, wa, S, sU (sU M 6 j ((M 6 j) + 1)) 7 j p2) s H locs := hw
  refine lv_iload_n hx hb dX2_let_17 rfl (lv_at hl 3 rfl) ?_
  exact e_i hx hb hr hlocks hw dX2_let_18 ⟨rfl, rfl⟩

set_option maxHeartbeats 800000 in
set_option maxRecDepth 100000 in
theorem c_X2_letBoth (l : Launch) (G : GT) (f : Nat → Option Nat) (wa : Nat → Nat) (S M : Tb) {i j : Nat} (hi : i < 24) (hj : j < 24) (p3 p4 : Int32) : Met l yX2_letBoth wsX2_letBoth (rk 0) (va_Pc [.ref (gm G), .int (nI i), .int (nI j), .int p3, .int p4] (Wo G (f, wa, S, M))) (Qi G (fun r u => r = p4 ∧ u = (f, wa, S, ml2 M i j p3))) 0 0 (gA G) := by
  refine m_head (cc := cX2_letBoth) (maxL := 5) (ret := (some .int)) (by decide) rfl (Nat.le_of_ble_eq_true rfl) ?_
  intro p e s m below meth c hx hb hml hr hlocks hown hts hw ls hl
  have hown : s.vm.findClass RX2 = some m.cls := hown
  have hl : lv_has ls 5 [(0, .ref (gm G)), (1, .int (nI i)), (2, .int (nI j)), (3, .int p3), (4, .int p4)] := hl
  have hin2 : ∀ w ∈ wsX20, w ∈ wsX2_letBoth := by decide +kernel
  have lk29 := hts (.fieldLink RX2 29 "LockerWallModel" "holds" "[I") (by decide +kernel)
  have lk32 := hts (.fieldLink RX2 32 "LockerWallModel" "left" "[I") (by decide +kernel)
  refine lv_aload_n hx hb dX2_letBoth_0 rfl (lv_at hl 0 rfl) ?_
  refine r_getM (v := .ref (gc G 6)) hx hb hts hin2 hown hw 6 (by decide) lk29 rfl dX2_letBoth_1 ?_
  refine lv_iload_n hx hb dX2_letBoth_4 rfl (lv_at hl 1 rfl) ?_
  refine lv_dup2_11 hx hb dX2_letBoth_5 rfl rfl ?_
  refine r_mld hx hb hw 6 (by decide) (by decide) (i) (rfl) (show i < 24 by omega) dX2_letBoth_6 ?_
  refine lv_iconst (v := 1) hx hb dX2_letBoth_7 (by decide) ?_
  refine lv_iadd hx hb dX2_letBoth_8 ?_
  refine r_mst hx hb hw 6 (by decide) (by decide) (i) (rfl) (show i < 24 by omega) dX2_letBoth_9 (fun H locs hw => ?_)
  have hw : Wi G (f, wa, S, sU M 6 i ((M 6 i) + 1)) s H locs := hw
  refine lv_aload_n hx hb dX2_letBoth_10 rfl (lv_at hl 0 rfl) ?_
  refine r_getM (v := .ref (gc G 6)) hx hb hts hin2 hown hw 6 (by decide) lk29 rfl dX2_letBoth_11 ?_
  refine lv_iload_n hx hb dX2_letBoth_14 rfl (lv_at hl 2 rfl) ?_
  refine lv_dup2_11 hx hb dX2_letBoth_15 rfl rfl ?_
  refine r_mld hx hb hw 6 (by decide) (by decide) (j) (rfl) (show j < 24 by omega) dX2_letBoth_16 ?_
  refine lv_iconst (v := 1) hx hb dX2_letBoth_17 (by decide) ?_
  refine lv_iadd hx hb dX2_letBoth_18 ?_
  refine r_mst hx hb hw 6 (by decide) (by decide) (j) (rfl) (show j < 24 by omega) dX2_letBoth_19 (fun H locs hw => ?_)
  have hw : Wi G (f, wa, S, sU (sU M 6 i ((M 6 i) + 1)) 6 j (((sU M 6 i ((M 6 i) + 1)) 6 j) + 1)) s H locs := hw
  refine lv_aload_n hx hb dX2_letBoth_20 rfl (lv_at hl 0 rfl) ?_
  refine r_getM (v := .ref (gc G 7)) hx hb hts hin2 hown hw 7 (by decide) lk32 rfl dX2_letBoth_21 ?_
  refine lv_iload_n hx hb dX2_letBoth_24 rfl (lv_at hl 2 rfl) ?_
  refine lv_iload_n hx hb dX2_letBoth_25 rfl (lv_at hl 3 rfl) ?_
  refine r_mst hx hb hw 7 (by decide) (by decide) (j) (rfl) (show j < 24 by omega) dX2_letBoth_26 (fun H locs hw => ?_)
  have hw : Wi G (f, wa, S, sU (sU (sU M 6 i ((M 6 i) + 1)) 6 j (((sU M 6 i ((M 6 i) + 1)) 6 j) + 1)) 7 j p3) s H locs := hw
  refine lv_aload_n hx hb dX2_letBoth_27 rfl (lv_at hl 0 rfl) ?_
  refine r_getM (v := .ref (gc G 7)) hx hb hts hin2 hown hw 7 (by decide) lk32 rfl dX2_letBoth_28 ?_
  refine lv_iload_n hx hb dX2_letBoth_31 rfl (lv_at hl 1 rfl) ?_
  refine lv_iload_n hx hb dX2_letBoth_32 rfl (lv_at hl 3 rfl) ?_
  refine r_mst hx hb hw 7 (by decide) (by decide) (i) (rfl) (show i < 24 by omega) dX2_letBoth_33 (fun H locs hw => ?_)
  have hw : Wi G (f, wa, S, sU (sU (sU (sU M 6 i ((M 6 i) + 1)) 6 j (((sU M 6 i ((M 6 i) + 1)) 6 j) + 1)) 7 j p3) 7 i p3) s H locs := hw
  refine lv_iload hx hb dX2_letBoth_34 (lv_at hl 4 rfl) ?_
  exact e_i hx hb hr hlocks hw dX2_letBoth_36 ⟨rfl, rfl⟩

set_option maxHeartbeats 800000 in
set_option maxRecDepth 100000 in
theorem c_X2_weight (l : Launch) (G : GT) (f : Nat → Option Nat) (wa : Nat → Nat) (S M : Tb) {i : Nat} (hi : i < 24) {n : Nat} (hn : M 5 i = nI n) (h10 : n ≤ 10) : Met l yX2_weight wsX2_weight (rk 0) (va_Pc [.ref (gm G), .int (nI i)] (Wo G (f, wa, S, M))) (Qi G (fun r u => r = wt M i ∧ u = (f, wa, S, M))) 0 0 (gA G) := by
  refine m_head (cc := cX2_weight) (maxL := 4) (ret := (some .int)) (by decide) rfl (Nat.le_of_ble_eq_true rfl) ?_
  intro p e s m below meth c hx hb hml hr hlocks hown hts hw ls hl
  have hown : s.vm.findClass RX2 = some m.cls := hown
  have hl : lv_has ls 4 [(0, .ref (gm G)), (1, .int (nI i))] := hl
  have hin2 : ∀ w ∈ wsX20, w ∈ wsX2_weight := by decide +kernel
  have lk26 := hts (.fieldLink RX2 26 "LockerWallModel" "many" "[I") (by decide +kernel)
  have lk35 := hts (.fieldLink RX2 35 "LockerWallModel" "item" "[I") (by decide +kernel)
  refine lv_iconst (v := 0) hx hb dX2_weight_0 (by decide) ?_
  refine lv_istore_n (lv' := [(2, .int 0), (0, .ref (gm G)), (1, .int (nI i))]) hx hb dX2_weight_1 rfl hl (by decide) rfl (fun ls hl => ?_)
  refine lv_iconst (v := 0) hx hb dX2_weight_2 (by decide) ?_
  refine lv_istore_n (lv' := [(3, .int 0), (2, .int 0), (0, .ref (gm G)), (1, .int (nI i))]) hx hb dX2_weight_3 rfl hl (by decide) rfl (fun ls hl => ?_)
  have loop : ∀ (d k : Nat) (H : Heap) (locs : List Loc) (ls : Array Slot), k + d = n → Wi G (f, wa, S, M) s H locs → lv_has ls 4 [(3, .int (nI k)), (2, .int (l_sum (fun k => M 8 (10 * i + k)) k)), (0, .ref (gm G)), (1, .int (nI i))] → W p l e (headSpec wsX2_weight (rk 0)).room s m [.ref (gm G), .int (nI i)].toArray below meth c H locs 0 0 (MQ below (Qi G (fun r u => r = wt M i ∧ u = (f, wa, S, M))) [.ref (gm G), .int (nI i)].toArray s 0 0 (gA G)) (F0 m 4 ls []) := by
    intro d
    induction d with
    | zero =>
      intro k H locs ls hk hw hl
      refine lv_iload_n hx hb dX2_weight_4 rfl (lv_at hl 0 rfl) ?_
      refine lv_aload_n hx hb dX2_weight_5 rfl (lv_at hl 2 rfl) ?_
      refine r_getM (v := .ref (gc G 5)) hx hb hts hin2 hown hw 5 (by decide) lk26 rfl dX2_weight_6 ?_
      refine lv_iload_n hx hb dX2_weight_9 rfl (lv_at hl 3 rfl) ?_
      refine r_mld hx hb hw 5 (by decide) (by decide) (i) (rfl) (show i < 24 by omega) dX2_weight_10 ?_
      refine lv_icmp_ge (tgt := 34) hx hb dX2_weight_11 (by decide) (fun c_11 => ?_) (fun c_11 => ?_)
      · skip
        refine lv_iload_n hx hb dX2_weight_34 rfl (lv_at hl 1 rfl) ?_
        exact e_i hx hb hr hlocks hw dX2_weight_35 ⟨by rw [wt_n hn h10, show n = k by omega], rfl⟩
      · skip
        exact absurd (by rw [hn]; exact nI_le (by omega) (by omega)) c_11
    | succ d ih =>
      intro k H locs ls hk hw hl
      refine lv_iload_n hx hb dX2_weight_4 rfl (lv_at hl 0 rfl) ?_
      refine lv_aload_n hx hb dX2_weight_5 rfl (lv_at hl 2 rfl) ?_
      refine r_getM (v := .ref (gc G 5)) hx hb hts hin2 hown hw 5 (by decide) lk26 rfl dX2_weight_6 ?_
      refine lv_iload_n hx hb dX2_weight_9 rfl (lv_at hl 3 rfl) ?_
      refine r_mld hx hb hw 5 (by decide) (by decide) (i) (rfl) (show i < 24 by omega) dX2_weight_10 ?_
      refine lv_icmp_ge (tgt := 34) hx hb dX2_weight_11 (by decide) (fun c_11 => ?_) (fun c_11 => ?_)
      · skip
        exact absurd c_11 (by rw [hn]; exact nI_ge (show k < n by omega) (by omega))
      · skip
        refine lv_iload_n hx hb dX2_weight_14 rfl (lv_at hl 1 rfl) ?_
        refine lv_aload_n hx hb dX2_weight_15 rfl (lv_at hl 2 rfl) ?_
        refine r_getM (v := .ref (gc G 8)) hx hb hts hin2 hown hw 8 (by decide) lk35 rfl dX2_weight_16 ?_
        refine lv_bipush (v := 10) hx hb dX2_weight_19 (by decide) ?_
        refine lv_iload_n hx hb dX2_weight_21 rfl (lv_at hl 3 rfl) ?_
        refine lv_imul hx hb dX2_weight_22 ?_
        refine lv_iload_n hx hb dX2_weight_23 rfl (lv_at hl 0 rfl) ?_
        refine lv_iadd hx hb dX2_weight_24 ?_
        refine r_mld hx hb hw 8 (by decide) (by decide) (10 * i + k) (ix10 _ _) (show 10 * i + k < 240 by omega) dX2_weight_25 ?_
        refine lv_iadd hx hb dX2_weight_26 ?_
        refine lv_istore_n (lv' := [(2, .int ((l_sum (fun k => M 8 (10 * i + k)) k) + (M 8 (10 * i + k)))), (3, .int (nI k)), (0, .ref (gm G)), (1, .int (nI i))]) hx hb dX2_weight_27 rfl hl (by decide) rfl (fun ls hl => ?_)
        refine lv_iinc (v := nI (k + 1)) (lv' := [(3, .int (nI (k + 1))), (2, .int ((l_sum (fun k => M 8 (10 * i + k)) k) + (M 8 (10 * i + k)))), (0, .ref (gm G)), (1, .int (nI i))]) hx hb dX2_weight_28 hl (k := 1) rfl (nI_1 _) (by decide) rfl (fun ls hl => ?_)
        refine lv_goto (tgt := 4) hx hb dX2_weight_31 (by decide) ?_
        exact ih (k + 1) H locs ls (by omega) hw (lv_sub hl [0, 1, 2, 3] rfl)
  exact loop n 0 _ _ _ (by omega) hw (lv_sub hl [0, 1, 2, 3] rfl)

set_option maxHeartbeats 800000 in
set_option maxRecDepth 100000 in
theorem c_X2_hasRoom (l : Launch) (G : GT) (f : Nat → Option Nat) (wa : Nat → Nat) (S M : Tb) {i : Nat} (hi : i < 24) {n : Nat} (hn : M 5 i = nI n) (h10 : n ≤ 10) (p2 : Int32) : Met l yX2_hasRoom wsX2_hasRoom (rk 1) (va_Pc [.ref (gm G), .int (nI i), .int p2] (Wo G (f, wa, S, M))) (Qi G (fun r u => r = b2i (okA M i p2) ∧ u = (f, wa, S, M))) 0 0 (gA G) := by
  refine m_head (cc := cX2_hasRoom) (maxL := 3) (ret := (some .boolean)) (by decide) rfl (Nat.le_of_ble_eq_true rfl) ?_
  intro p e s m below meth c hx hb hml hr hlocks hown hts hw ls hl
  have hown : s.vm.findClass RX2 = some m.cls := hown
  have hl : lv_has ls 3 [(0, .ref (gm G)), (1, .int (nI i)), (2, .int p2)] := hl
  have hin2 : ∀ w ∈ wsX20, w ∈ wsX2_hasRoom := by decide +kernel
  have lk26 := hts (.fieldLink RX2 26 "LockerWallModel" "many" "[I") (by decide +kernel)
  have lk13 := hts (.fieldLink RX2 13 "LockerWallModel" "room" "[I") (by decide +kernel)
  refine lv_aload_n hx hb dX2_hasRoom_0 rfl (lv_at hl 0 rfl) ?_
  refine r_getM (v := .ref (gc G 5)) hx hb hts hin2 hown hw 5 (by decide) lk26 rfl dX2_hasRoom_1 ?_
  refine lv_iload_n hx hb dX2_hasRoom_4 rfl (lv_at hl 1 rfl) ?_
  refine r_mld hx hb hw 5 (by decide) (by decide) (i) (rfl) (show i < 24 by omega) dX2_hasRoom_5 ?_
  refine lv_bipush (v := 10) hx hb dX2_hasRoom_6 (by decide) ?_
  refine lv_icmp_ge (tgt := 31) hx hb dX2_hasRoom_8 (by decide) (fun c_8 => ?_) (fun c_8 => ?_)
  · skip
    refine lv_iconst (v := 0) hx hb dX2_hasRoom_31 (by decide) ?_
    exact e_z hx hb hr hlocks hw rfl dX2_hasRoom_32 ⟨by simp [b2i, okA, c_8], rfl⟩
  · skip
    refine lv_aload_n hx hb dX2_hasRoom_11 rfl (lv_at hl 0 rfl) ?_
    refine lv_iload_n hx hb dX2_hasRoom_12 rfl (lv_at hl 1 rfl) ?_
    refine k_i hw (va_runV (As := [.int (nI i)]) (rest := []) ⟨hx, hb, hml, hown, hts⟩ (c_X2_weight l G f wa S M (i := i) (by omega) hn h10) (cwV 1 hts gX2_hasRoom_X2_weight rfl rfl rfl (by decide +kernel) ⟨Nat.le_of_ble_eq_true rfl, Nat.le_of_ble_eq_true rfl⟩) (hw.preM _) rfl rfl hl.1 rfl (lv_room (Nat.le_of_ble_eq_true rfl)) dX2_hasRoom_13 ⟨Nat.le_of_ble_eq_true rfl, Nat.le_of_ble_eq_true rfl⟩) (fun r u H locs hR hw => ?_)
    obtain ⟨hq, rfl⟩ := hR
    obtain rfl := hq.symm
    refine lv_iload_n hx hb dX2_hasRoom_16 rfl (lv_at hl 2 rfl) ?_
    refine lv_iadd hx hb dX2_hasRoom_17 ?_
    refine lv_aload_n hx hb dX2_hasRoom_18 rfl (lv_at hl 0 rfl) ?_
    refine r_getM (v := .ref (gc G 1)) hx hb hts hin2 hown hw 1 (by decide) lk13 rfl dX2_hasRoom_19 ?_
    refine lv_iload_n hx hb dX2_hasRoom_22 rfl (lv_at hl 1 rfl) ?_
    refine r_mld hx hb hw 1 (by decide) (by decide) (i) (rfl) (show i < 24 by omega) dX2_hasRoom_23 ?_
    refine lv_icmp_gt (tgt := 31) hx hb dX2_hasRoom_24 (by decide) (fun c_24 => ?_) (fun c_24 => ?_)
    · skip
      refine lv_iconst (v := 0) hx hb dX2_hasRoom_31 (by decide) ?_
      exact e_z hx hb hr hlocks hw rfl dX2_hasRoom_32 ⟨by simp [b2i, okA, c_8, lt_nle c_24], rfl⟩
    · skip
      refine lv_iconst (v := 1) hx hb dX2_hasRoom_27 (by decide) ?_
      refine lv_goto (tgt := 32) hx hb dX2_hasRoom_28 (by decide) ?_
      exact e_z hx hb hr hlocks hw rfl dX2_hasRoom_32 ⟨by simp [b2i, okA, c_8, nlt_le c_24], rfl⟩

set_option maxHeartbeats 800000 in
set_option maxRecDepth 100000 in
theorem c_X2_add (l : Launch) (G : GT) (f : Nat → Option Nat) (wa : Nat → Nat) (S M : Tb) {i : Nat} (hi : i < 24) {n : Nat} (hn : M 5 i = nI n) (h10 : n < 10) (p2 : Int32) : Met l yX2_add wsX2_add (rk 0) (va_Pc [.ref (gm G), .int (nI i), .int p2] (Wo G (f, wa, S, M))) (Qv G (fun u => u = (f, wa, S, acS M i p2))) 0 0 (gA G) := by
  refine m_head (cc := cX2_add) (maxL := 3) (ret := none) (by decide) rfl (Nat.le_of_ble_eq_true rfl) ?_
  intro p e s m below meth c hx hb hml hr hlocks hown hts hw ls hl
  have hown : s.vm.findClass RX2 = some m.cls := hown
  have hl : lv_has ls 3 [(0, .ref (gm G)), (1, .int (nI i)), (2, .int p2)] := hl
  have hin2 : ∀ w ∈ wsX20, w ∈ wsX2_add := by decide +kernel
  have lk35 := hts (.fieldLink RX2 35 "LockerWallModel" "item" "[I") (by decide +kernel)
  have lk26 := hts (.fieldLink RX2 26 "LockerWallModel" "many" "[I") (by decide +kernel)
  refine lv_aload_n hx hb dX2_add_0 rfl (lv_at hl 0 rfl) ?_
  refine r_getM (v := .ref (gc G 8)) hx hb hts hin2 hown hw 8 (by decide) lk35 rfl dX2_add_1 ?_
  refine lv_bipush (v := 10) hx hb dX2_add_4 (by decide) ?_
  refine lv_iload_n hx hb dX2_add_6 rfl (lv_at hl 1 rfl) ?_
  refine lv_imul hx hb dX2_add_7 ?_
  refine lv_aload_n hx hb dX2_add_8 rfl (lv_at hl 0 rfl) ?_
  refine r_getM (v := .ref (gc G 5)) hx hb hts hin2 hown hw 5 (by decide) lk26 rfl dX2_add_9 ?_
  refine lv_iload_n hx hb dX2_add_12 rfl (lv_at hl 1 rfl) ?_
  refine r_mld hx hb hw 5 (by decide) (by decide) (i) (rfl) (show i < 24 by omega) dX2_add_13 ?_
  refine lv_iadd hx hb dX2_add_14 ?_
  refine lv_iload_n hx hb dX2_add_15 rfl (lv_at hl 2 rfl) ?_
  refine r_mst hx hb hw 8 (by decide) (by decide) (10 * i + n) ((by rw [hn]; exact ix10 _ _)) (show 10 * i + n < 240 by omega) dX2_add_16 (fun H locs hw => ?_)
  have hw : Wi G (f, wa, S, sU M 8 (10 * i + n) p2) s H locs := hw
  refine lv_aload_n hx hb dX2_add_17 rfl (lv_at hl 0 rfl) ?_
  refine r_getM (v := .ref (gc G 5)) hx hb hts hin2 hown hw 5 (by decide) lk26 rfl dX2_add_18 ?_
  refine lv_iload_n hx hb dX2_add_21 rfl (lv_at hl 1 rfl) ?_
  refine lv_dup2_11 hx hb dX2_add_22 rfl rfl ?_
  refine r_mld hx hb hw 5 (by decide) (by decide) (i) (rfl) (show i < 24 by omega) dX2_add_23 ?_
  refine W.eq (g2 := F0 m 24 ls [.int (M 5 i), .int (nI i), .ref (gc G 5)]) rfl ?_
  refine lv_iconst (v := 1) hx hb dX2_add_24 (by decide) ?_
  refine lv_iadd hx hb dX2_add_25 ?_
  refine r_mst hx hb hw 5 (by decide) (by decide) (i) (rfl) (show i < 24 by omega) dX2_add_26 (fun H locs hw => ?_)
  have hw : Wi G (f, wa, S, sU (sU M 8 (10 * i + n) p2) 5 i ((M 5 i) + 1)) s H locs := hw
  exact e_v hx hb hr hlocks hw dX2_add_27 (by rw [acS, hn, nI_clamp (by omega), ← hn])

set_option maxHeartbeats 800000 in
set_option maxRecDepth 100000 in
theorem c_X2_takeLast (l : Launch) (G : GT) (f : Nat → Option Nat) (wa : Nat → Nat) (S M : Tb) {i : Nat} (hi : i < 24) {n : Nat} (hn : M 5 i = nI (n + 1)) (h10 : n < 10) : Met l yX2_takeLast wsX2_takeLast (rk 0) (va_Pc [.ref (gm G), .int (nI i)] (Wo G (f, wa, S, M))) (Qi G (fun r u => r = rmV M i ∧ u = (f, wa, S, rmS M i))) 0 0 (gA G) := by
  refine m_head (cc := cX2_takeLast) (maxL := 2) (ret := (some .int)) (by decide) rfl (Nat.le_of_ble_eq_true rfl) ?_
  intro p e s m below meth c hx hb hml hr hlocks hown hts hw ls hl
  have hown : s.vm.findClass RX2 = some m.cls := hown
  have hl : lv_has ls 2 [(0, .ref (gm G)), (1, .int (nI i))] := hl
  have hin2 : ∀ w ∈ wsX20, w ∈ wsX2_takeLast := by decide +kernel
  have lk26 := hts (.fieldLink RX2 26 "LockerWallModel" "many" "[I") (by decide +kernel)
  have lk35 := hts (.fieldLink RX2 35 "LockerWallModel" "item" "[I") (by decide +kernel)
  refine lv_aload_n hx hb dX2_takeLast_0 rfl (lv_at hl 0 rfl) ?_
  refine r_getM (v := .ref (gc G 5)) hx hb hts hin2 hown hw 5 (by decide) lk26 rfl dX2_takeLast_1 ?_
  refine lv_iload_n hx hb dX2_takeLast_4 rfl (lv_at hl 1 rfl) ?_
  refine lv_dup2_11 hx hb dX2_takeLast_5 rfl rfl ?_
  refine r_mld hx hb hw 5 (by decide) (by decide) (i) (rfl) (show i < 24 by omega) dX2_takeLast_6 ?_
  refine lv_iconst (v := 1) hx hb dX2_takeLast_7 (by decide) ?_
  refine lv_isub hx hb dX2_takeLast_8 ?_
  refine r_mst hx hb hw 5 (by decide) (by decide) (i) (rfl) (show i < 24 by omega) dX2_takeLast_9 (fun H locs hw => ?_)
  have hw : Wi G (f, wa, S, sU M 5 i ((M 5 i) - 1)) s H locs := hw
  refine lv_aload_n hx hb dX2_takeLast_10 rfl (lv_at hl 0 rfl) ?_
  refine r_getM (v := .ref (gc G 8)) hx hb hts hin2 hown hw 8 (by decide) lk35 rfl dX2_takeLast_11 ?_
  refine lv_bipush (v := 10) hx hb dX2_takeLast_14 (by decide) ?_
  refine lv_iload_n hx hb dX2_takeLast_16 rfl (lv_at hl 1 rfl) ?_
  refine lv_imul hx hb dX2_takeLast_17 ?_
  refine lv_aload_n hx hb dX2_takeLast_18 rfl (lv_at hl 0 rfl) ?_
  refine r_getM (v := .ref (gc G 5)) hx hb hts hin2 hown hw 5 (by decide) lk26 rfl dX2_takeLast_19 ?_
  refine lv_iload_n hx hb dX2_takeLast_22 rfl (lv_at hl 1 rfl) ?_
  refine r_mld hx hb hw 5 (by decide) (by decide) (i) (rfl) (show i < 24 by omega) dX2_takeLast_23 ?_
  refine W.eq (g2 := F0 m 24 ls [.int ((M 5 i) - 1), .int (10 * (nI i)), .ref (gc G 8)]) (by simp [sU]) ?_
  refine lv_iadd hx hb dX2_takeLast_24 ?_
  refine r_mld hx hb hw 8 (by decide) (by decide) (10 * i + n) ((by rw [hn, nI_pred]; exact ix10 _ _)) (show 10 * i + n < 240 by omega) dX2_takeLast_25 ?_
  refine W.eq (g2 := F0 m 26 ls [.int (M 8 (10 * i + n))]) rfl ?_
  exact e_i hx hb hr hlocks hw dX2_takeLast_26 ⟨by simp [rmV, hn, nI_pred, nI_clamp (show n < 2 ^ 31 by omega)], rfl⟩

set_option maxHeartbeats 800000 in
set_option maxRecDepth 100000 in
theorem c_X2_hasItem (l : Launch) (G : GT) (f : Nat → Option Nat) (wa : Nat → Nat) (S M : Tb) {i : Nat} (hi : i < 24) {n : Nat} (hn : M 5 i = nI n) (h10 : n ≤ 10) (p2 : Int32) : Met l yX2_hasItem wsX2_hasItem (rk 0) (va_Pc [.ref (gm G), .int (nI i), .int p2] (Wo G (f, wa, S, M))) (Qi G (fun r u => r = b2i (has M i p2) ∧ u = (f, wa, S, M))) 0 0 (gA G) := by
  refine m_head (cc := cX2_hasItem) (maxL := 5) (ret := (some .boolean)) (by decide) rfl (Nat.le_of_ble_eq_true rfl) ?_
  intro p e s m below meth c hx hb hml hr hlocks hown hts hw ls hl
  have hown : s.vm.findClass RX2 = some m.cls := hown
  have hl : lv_has ls 5 [(0, .ref (gm G)), (1, .int (nI i)), (2, .int p2)] := hl
  have hin2 : ∀ w ∈ wsX20, w ∈ wsX2_hasItem := by decide +kernel
  have lk26 := hts (.fieldLink RX2 26 "LockerWallModel" "many" "[I") (by decide +kernel)
  have lk35 := hts (.fieldLink RX2 35 "LockerWallModel" "item" "[I") (by decide +kernel)
  refine lv_iconst (v := 0) hx hb dX2_hasItem_0 (by decide) ?_
  refine lv_istore_n (lv' := [(3, .int 0), (0, .ref (gm G)), (1, .int (nI i)), (2, .int p2)]) hx hb dX2_hasItem_1 rfl hl (by decide) rfl (fun ls hl => ?_)
  refine lv_iconst (v := 0) hx hb dX2_hasItem_2 (by decide) ?_
  refine lv_istore (lv' := [(4, .int 0), (3, .int 0), (0, .ref (gm G)), (1, .int (nI i)), (2, .int p2)]) hx hb dX2_hasItem_3 hl (by decide) rfl (fun ls hl => ?_)
  have loop : ∀ (d k : Nat) (H : Heap) (locs : List Loc) (ls : Array Slot), k + d = n → Wi G (f, wa, S, M) s H locs → lv_has ls 5 [(4, .int (nI k)), (3, .int (b2i (hasI M i p2 k))), (0, .ref (gm G)), (1, .int (nI i)), (2, .int p2)] → W p l e (headSpec wsX2_hasItem (rk 0)).room s m [.ref (gm G), .int (nI i), .int p2].toArray below meth c H locs 0 0 (MQ below (Qi G (fun r u => r = b2i (has M i p2) ∧ u = (f, wa, S, M))) [.ref (gm G), .int (nI i), .int p2].toArray s 0 0 (gA G)) (F0 m 5 ls []) := by
    intro d
    induction d with
    | zero =>
      intro k H locs ls hk hw hl
      refine lv_iload hx hb dX2_hasItem_5 (lv_at hl 0 rfl) ?_
      refine lv_aload_n hx hb dX2_hasItem_7 rfl (lv_at hl 2 rfl) ?_
      refine r_getM (v := .ref (gc G 5)) hx hb hts hin2 hown hw 5 (by decide) lk26 rfl dX2_hasItem_8 ?_
      refine lv_iload_n hx hb dX2_hasItem_11 rfl (lv_at hl 3 rfl) ?_
      refine r_mld hx hb hw 5 (by decide) (by decide) (i) (rfl) (show i < 24 by omega) dX2_hasItem_12 ?_
      refine lv_icmp_ge (tgt := 48) hx hb dX2_hasItem_13 (by decide) (fun c_13 => ?_) (fun c_13 => ?_)
      · skip
        refine lv_iload_n hx hb dX2_hasItem_48 rfl (lv_at hl 1 rfl) ?_
        exact e_z hx hb hr hlocks hw (by cases hasI M i p2 k <;> rfl) dX2_hasItem_49 ⟨by rw [has_n hn h10, show n = k by omega], rfl⟩
      · skip
        exact absurd (by rw [hn]; exact nI_le (by omega) (by omega)) c_13
    | succ d ih =>
      intro k H locs ls hk hw hl
      refine lv_iload hx hb dX2_hasItem_5 (lv_at hl 0 rfl) ?_
      refine lv_aload_n hx hb dX2_hasItem_7 rfl (lv_at hl 2 rfl) ?_
      refine r_getM (v := .ref (gc G 5)) hx hb hts hin2 hown hw 5 (by decide) lk26 rfl dX2_hasItem_8 ?_
      refine lv_iload_n hx hb dX2_hasItem_11 rfl (lv_at hl 3 rfl) ?_
      refine r_mld hx hb hw 5 (by decide) (by decide) (i) (rfl) (show i < 24 by omega) dX2_hasItem_12 ?_
      refine lv_icmp_ge (tgt := 48) hx hb dX2_hasItem_13 (by decide) (fun c_13 => ?_) (fun c_13 => ?_)
      · skip
        exact absurd c_13 (by rw [hn]; exact nI_ge (show k < n by omega) (by omega))
      · skip
        cases hb2 : hasI M i p2 k
        · skip
          have hl : lv_has ls 5 [(4, .int (nI k)), (3, .int 0), (0, .ref (gm G)), (1, .int (nI i)), (2, .int p2)] := by rw [hb2] at hl; exact hl
          refine lv_iload_n hx hb dX2_hasItem_16 rfl (lv_at hl 1 rfl) ?_
          refine lv_if_ne (tgt := 36) hx hb dX2_hasItem_17 (by decide) (fun c_17 => ?_) (fun c_17 => ?_)
          · skip
            exact absurd c_17 (by decide)
          · skip
            refine lv_aload_n hx hb dX2_hasItem_20 rfl (lv_at hl 2 rfl) ?_
            refine r_getM (v := .ref (gc G 8)) hx hb hts hin2 hown hw 8 (by decide) lk35 rfl dX2_hasItem_21 ?_
            refine lv_bipush (v := 10) hx hb dX2_hasItem_24 (by decide) ?_
            refine lv_iload_n hx hb dX2_hasItem_26 rfl (lv_at hl 3 rfl) ?_
            refine lv_imul hx hb dX2_hasItem_27 ?_
            refine lv_iload hx hb dX2_hasItem_28 (lv_at hl 0 rfl) ?_
            refine lv_iadd hx hb dX2_hasItem_30 ?_
            refine r_mld hx hb hw 8 (by decide) (by decide) (10 * i + k) (ix10 _ _) (show 10 * i + k < 240 by omega) dX2_hasItem_31 ?_
            refine lv_iload_n hx hb dX2_hasItem_32 rfl (lv_at hl 4 rfl) ?_
            refine lv_icmp_ne (tgt := 40) hx hb dX2_hasItem_33 (by decide) (fun c_33 => ?_) (fun c_33 => ?_)
            · skip
              refine lv_iconst (v := 0) hx hb dX2_hasItem_40 (by decide) ?_
              refine lv_istore_n (lv' := [(3, .int 0), (4, .int (nI k)), (0, .ref (gm G)), (1, .int (nI i)), (2, .int p2)]) hx hb dX2_hasItem_41 rfl hl (by decide) rfl (fun ls hl => ?_)
              refine lv_iinc (v := nI (k + 1)) (lv' := [(4, .int (nI (k + 1))), (3, .int 0), (0, .ref (gm G)), (1, .int (nI i)), (2, .int p2)]) hx hb dX2_hasItem_42 hl (k := 1) rfl (nI_1 _) (by decide) rfl (fun ls hl => ?_)
              refine lv_goto (tgt := 5) hx hb dX2_hasItem_45 (by decide) ?_
              have hv : (0 : Int32) = b2i (hasI M i p2 (k + 1)) := by simp [hasI, b2i, hb2, c_33]
              rw [hv] at hl
              exact ih (k + 1) H locs ls (by omega) hw (lv_sub hl [0, 1, 2, 3, 4] rfl)
            · skip
              refine lv_iconst (v := 1) hx hb dX2_hasItem_36 (by decide) ?_
              refine lv_goto (tgt := 41) hx hb dX2_hasItem_37 (by decide) ?_
              refine lv_istore_n (lv' := [(3, .int 1), (4, .int (nI k)), (0, .ref (gm G)), (1, .int (nI i)), (2, .int p2)]) hx hb dX2_hasItem_41 rfl hl (by decide) rfl (fun ls hl => ?_)
              refine lv_iinc (v := nI (k + 1)) (lv' := [(4, .int (nI (k + 1))), (3, .int 1), (0, .ref (gm G)), (1, .int (nI i)), (2, .int p2)]) hx hb dX2_hasItem_42 hl (k := 1) rfl (nI_1 _) (by decide) rfl (fun ls hl => ?_)
              refine lv_goto (tgt := 5) hx hb dX2_hasItem_45 (by decide) ?_
              have hv : (1 : Int32) = b2i (hasI M i p2 (k + 1)) := by simp [hasI, b2i, hb2, c_33]
              rw [hv] at hl
              exact ih (k + 1) H locs ls (by omega) hw (lv_sub hl [0, 1, 2, 3, 4] rfl)
        · skip
          have hl : lv_has ls 5 [(4, .int (nI k)), (3, .int 1), (0, .ref (gm G)), (1, .int (nI i)), (2, .int p2)] := by rw [hb2] at hl; exact hl
          refine lv_iload_n hx hb dX2_hasItem_16 rfl (lv_at hl 1 rfl) ?_
          refine lv_if_ne (tgt := 36) hx hb dX2_hasItem_17 (by decide) (fun c_17 => ?_) (fun c_17 => ?_)
          · skip
            refine lv_iconst (v := 1) hx hb dX2_hasItem_36 (by decide) ?_
            refine lv_goto (tgt := 41) hx hb dX2_hasItem_37 (by decide) ?_
            refine lv_istore_n (lv' := [(3, .int 1), (4, .int (nI k)), (0, .ref (gm G)), (1, .int (nI i)), (2, .int p2)]) hx hb dX2_hasItem_41 rfl hl (by decide) rfl (fun ls hl => ?_)
            refine lv_iinc (v := nI (k + 1)) (lv' := [(4, .int (nI (k + 1))), (3, .int 1), (0, .ref (gm G)), (1, .int (nI i)), (2, .int p2)]) hx hb dX2_hasItem_42 hl (k := 1) rfl (nI_1 _) (by decide) rfl (fun ls hl => ?_)
            refine lv_goto (tgt := 5) hx hb dX2_hasItem_45 (by decide) ?_
            have hv : (1 : Int32) = b2i (hasI M i p2 (k + 1)) := by simp [hasI, b2i, hb2]
            rw [hv] at hl
            exact ih (k + 1) H locs ls (by omega) hw (lv_sub hl [0, 1, 2, 3, 4] rfl)
          · skip
            exact absurd c_17 (by decide)
  exact loop n 0 _ _ _ (by omega) hw (lv_sub hl [0, 1, 2, 3, 4] rfl)

set_option maxHeartbeats 800000 in
set_option maxRecDepth 100000 in
theorem c_X2_mount (l : Launch) (G : GT) (f : Nat → Option Nat) (wa : Nat → Nat) (S M : Tb) (p1 p2 p3 : Int32) : Met l yX2_mount wsX2_mount (rk 1) (va_Pc [.ref (gm G), .int p1, .int p2, .int p3] (Wo G (f, wa, S, M))) (Qi G (fun r u => r = (om_mount M p1 p2 p3).1 ∧ u = (f, wa, S, (om_mount M p1 p2 p3).2))) 0 0 (gA G) := by
  refine m_head (cc := cX2_mount) (maxL := 4) (ret := (some .int)) (by decide) rfl (Nat.le_of_ble_eq_true rfl) ?_
  intro p e s m below meth c hx hb hml hr hlocks hown hts hw ls hl
  have hown : s.vm.findClass RX2 = some m.cls := hown
  have hl : lv_has ls 4 [(0, .ref (gm G)), (1, .int p1), (2, .int p2), (3, .int p3)] := hl
  have hin2 : ∀ w ∈ wsX20, w ∈ wsX2_mount := by decide +kernel
  have lk7 := hts (.fieldLink RX2 7 "LockerWallModel" "there" "[Z") (by decide +kernel)
  have lk13 := hts (.fieldLink RX2 13 "LockerWallModel" "room" "[I") (by decide +kernel)
  have lk17 := hts (.fieldLink RX2 17 "LockerWallModel" "code" "[I") (by decide +kernel)
  have lk20 := hts (.fieldLink RX2 20 "LockerWallModel" "open" "[Z") (by decide +kernel)
  have lk23 := hts (.fieldLink RX2 23 "LockerWallModel" "tries" "[I") (by decide +kernel)
  have lk26 := hts (.fieldLink RX2 26 "LockerWallModel" "many" "[I") (by decide +kernel)
  have lk29 := hts (.fieldLink RX2 29 "LockerWallModel" "holds" "[I") (by decide +kernel)
  have lk32 := hts (.fieldLink RX2 32 "LockerWallModel" "left" "[I") (by decide +kernel)
  refine lv_iload_n hx hb dX2_mount_0 rfl (lv_at hl 1 rfl) ?_
  refine k_i hw (va_runS (As := [.int p1]) (rest := []) ⟨hx, hb, hml, hown, hts⟩ (c_X2_isHook l G f wa S M p1) (va_cwS 1 hts gX2_mount_X2_isHook rfl rfl rfl (by decide +kernel) ⟨Nat.le_of_ble_eq_true rfl, Nat.le_of_ble_eq_true rfl⟩) (hw.preS _) rfl rfl hl.1 rfl (lv_room (Nat.le_of_ble_eq_true rfl)) dX2_mount_1 ⟨Nat.le_of_ble_eq_true rfl, Nat.le_of_ble_eq_true rfl⟩) (fun r u H locs hR hw => ?_)
  obtain ⟨hq, rfl⟩ := hR
  obtain rfl := hq.symm
  cases hh_1 : isH p1
  · skip
    refine W.eq (g2 := F0 m 4 ls [.int 0]) rfl ?_
    refine lv_if_eq (tgt := 14) hx hb dX2_mount_4 (by decide) (fun c_4 => ?_) (fun c_4 => ?_)
    · skip
      refine lv_iconst (v := (-1)) hx hb dX2_mount_14 (by decide) ?_
      exact e_i hx hb hr hlocks hw dX2_mount_15 (leafM (by simp only [om_mount, ml, ml2, ↓reduceIte, hh_1, Bool.false_eq_true, c_4]))
    · skip
      exact absurd c_4 (by decide)
  · skip
    refine W.eq (g2 := F0 m 4 ls [.int 1]) rfl ?_
    obtain ⟨i, hi, rfl⟩ := isH_of hh_1
    refine lv_if_eq (tgt := 14) hx hb dX2_mount_4 (by decide) (fun c_4 => ?_) (fun c_4 => ?_)
    · skip
      exact absurd c_4 (by decide)
    · skip
      refine lv_iload_n hx hb dX2_mount_7 rfl (lv_at hl 2 rfl) ?_
      refine k_i hw (va_runS (As := [.int p2]) (rest := []) ⟨hx, hb, hml, hown, hts⟩ (c_X2_isWeight l G f wa S M p2) (va_cwS 1 hts gX2_mount_X2_isWeight rfl rfl rfl (by decide +kernel) ⟨Nat.le_of_ble_eq_true rfl, Nat.le_of_ble_eq_true rfl⟩) (hw.preS _) rfl rfl hl.1 rfl (lv_room (Nat.le_of_ble_eq_true rfl)) dX2_mount_8 ⟨Nat.le_of_ble_eq_true rfl, Nat.le_of_ble_eq_true rfl⟩) (fun r u H locs hR hw => ?_)
      obtain ⟨hq, rfl⟩ := hR
      obtain rfl := hq.symm
      cases hh_8 : isWt p2
      · skip
        refine W.eq (g2 := F0 m 11 ls [.int 0]) rfl ?_
        refine lv_if_ne (tgt := 16) hx hb dX2_mount_11 (by decide) (fun c_11 => ?_) (fun c_11 => ?_)
        · skip
          exact absurd c_11 (by decide)
        · skip
          refine lv_iconst (v := (-1)) hx hb dX2_mount_14 (by decide) ?_
          exact e_i hx hb hr hlocks hw dX2_mount_15 (leafM (by simp only [om_mount, ml, ml2, ↓reduceIte, isH_nI hi, cl24 hi, c_4, hh_8, Bool.false_eq_true, c_11]))
      · skip
        refine W.eq (g2 := F0 m 11 ls [.int 1]) rfl ?_
        refine lv_if_ne (tgt := 16) hx hb dX2_mount_11 (by decide) (fun c_11 => ?_) (fun c_11 => ?_)
        · skip
          refine lv_aload_n hx hb dX2_mount_16 rfl (lv_at hl 0 rfl) ?_
          refine r_getM (v := .ref (gc G 0)) hx hb hts hin2 hown hw 0 (by decide) lk7 rfl dX2_mount_17 ?_
          refine lv_iload_n hx hb dX2_mount_20 rfl (lv_at hl 1 rfl) ?_
          refine r_mldZ hx hb hw 0 (by decide) (by decide) (i) (rfl) (show i < 24 by omega) dX2_mount_21 ?_
          refine lv_if_eq (tgt := 28) hx hb dX2_mount_22 (by decide) (fun c_22 => ?_) (fun c_22 => ?_)
          · skip
            refine lv_aload_n hx hb dX2_mount_28 rfl (lv_at hl 0 rfl) ?_
            refine r_getM (v := .ref (gc G 0)) hx hb hts hin2 hown hw 0 (by decide) lk7 rfl dX2_mount_29 ?_
            refine lv_iload_n hx hb dX2_mount_32 rfl (lv_at hl 1 rfl) ?_
            refine lv_iconst (v := 1) hx hb dX2_mount_33 (by decide) ?_
            refine r_mstZ hx hb hw 0 (by decide) (by decide) (by decide) (i) (rfl) (show i < 24 by omega) dX2_mount_34 (fun H locs hw => ?_)
            have hw : Wi G (f, wa, S, sU M 0 i 1) s H locs := hw
            refine lv_aload_n hx hb dX2_mount_35 rfl (lv_at hl 0 rfl) ?_
            refine r_getM (v := .ref (gc G 1)) hx hb hts hin2 hown hw 1 (by decide) lk13 rfl dX2_mount_36 ?_
            refine lv_iload_n hx hb dX2_mount_39 rfl (lv_at hl 1 rfl) ?_
            refine lv_iload_n hx hb dX2_mount_40 rfl (lv_at hl 2 rfl) ?_
            refine r_mst hx hb hw 1 (by decide) (by decide) (i) (rfl) (show i < 24 by omega) dX2_mount_41 (fun H locs hw => ?_)
            have hw : Wi G (f, wa, S, sU (sU M 0 i 1) 1 i p2) s H locs := hw
            refine lv_aload_n hx hb dX2_mount_42 rfl (lv_at hl 0 rfl) ?_
            refine r_getM (v := .ref (gc G 2)) hx hb hts hin2 hown hw 2 (by decide) lk17 rfl dX2_mount_43 ?_
            refine lv_iload_n hx hb dX2_mount_46 rfl (lv_at hl 1 rfl) ?_
            refine lv_iload_n hx hb dX2_mount_47 rfl (lv_at hl 3 rfl) ?_
            refine r_mst hx hb hw 2 (by decide) (by decide) (i) (rfl) (show i < 24 by omega) dX2_mount_48 (fun H locs hw => ?_)
            have hw : Wi G (f, wa, S, sU (sU (sU M 0 i 1) 1 i p2) 2 i p3) s H locs := hw
            refine lv_aload_n hx hb dX2_mount_49 rfl (lv_at hl 0 rfl) ?_
            refine r_getM (v := .ref (gc G 3)) hx hb hts hin2 hown hw 3 (by decide) lk20 rfl dX2_mount_50 ?_
            refine lv_iload_n hx hb dX2_mount_53 rfl (lv_at hl 1 rfl) ?_
            refine lv_iconst (v := 0) hx hb dX2_mount_54 (by decide) ?_
            refine r_mstZ hx hb hw 3 (by decide) (by decide) (by decide) (i) (rfl) (show i < 24 by omega) dX2_mount_55 (fun H locs hw => ?_)
            have hw : Wi G (f, wa, S, sU (sU (sU (sU M 0 i 1) 1 i p2) 2 i p3) 3 i 0) s H locs := hw
            refine lv_aload_n hx hb dX2_mount_56 rfl (lv_at hl 0 rfl) ?_
            refine r_getM (v := .ref (gc G 4)) hx hb hts hin2 hown hw 4 (by decide) lk23 rfl dX2_mount_57 ?_
            refine lv_iload_n hx hb dX2_mount_60 rfl (lv_at hl 1 rfl) ?_
            refine lv_iconst (v := 0) hx hb dX2_mount_61 (by decide) ?_
            refine r_mst hx hb hw 4 (by decide) (by decide) (i) (rfl) (show i < 24 by omega) dX2_mount_62 (fun H locs hw => ?_)
            have hw : Wi G (f, wa, S, sU (sU (sU (sU (sU M 0 i 1) 1 i p2) 2 i p3) 3 i 0) 4 i 0) s H locs := hw
            refine lv_aload_n hx hb dX2_mount_63 rfl (lv_at hl 0 rfl) ?_
            refine r_getM (v := .ref (gc G 5)) hx hb hts hin2 hown hw 5 (by decide) lk26 rfl dX2_mount_64 ?_
            refine lv_iload_n hx hb dX2_mount_67 rfl (lv_at hl 1 rfl) ?_
            refine lv_iconst (v := 0) hx hb dX2_mount_68 (by decide) ?_
            refine r_mst hx hb hw 5 (by decide) (by decide) (i) (rfl) (show i < 24 by omega) dX2_mount_69 (fun H locs hw => ?_)
            have hw : Wi G (f, wa, S, sU (sU (sU (sU (sU (sU M 0 i 1) 1 i p2) 2 i p3) 3 i 0) 4 i 0) 5 i 0) s H locs := hw
            refine lv_aload_n hx hb dX2_mount_70 rfl (lv_at hl 0 rfl) ?_
            refine r_getM (v := .ref (gc G 6)) hx hb hts hin2 hown hw 6 (by decide) lk29 rfl dX2_mount_71 ?_
            refine lv_iload_n hx hb dX2_mount_74 rfl (lv_at hl 1 rfl) ?_
            refine lv_iconst (v := 0) hx hb dX2_mount_75 (by decide) ?_
            refine r_mst hx hb hw 6 (by decide) (by decide) (i) (rfl) (show i < 24 by omega) dX2_mount_76 (fun H locs hw => ?_)
            have hw : Wi G (f, wa, S, sU (sU (sU (sU (sU (sU (sU M 0 i 1) 1 i p2) 2 i p3) 3 i 0) 4 i 0) 5 i 0) 6 i 0) s H locs := hw
            refine lv_aload_n hx hb dX2_mount_77 rfl (lv_at hl 0 rfl) ?_
            refine r_getM (v := .ref (gc G 7)) hx hb hts hin2 hown hw 7 (by decide) lk32 rfl dX2_mount_78 ?_
            refine lv_iload_n hx hb dX2_mount_81 rfl (lv_at hl 1 rfl) ?_
            refine lv_iconst (v := 0) hx hb dX2_mount_82 (by decide) ?_
            refine r_mst hx hb hw 7 (by decide) (by decide) (i) (rfl) (show i < 24 by omega) dX2_mount_83 (fun H locs hw => ?_)
            have hw : Wi G (f, wa, S, sU (sU (sU (sU (sU (sU (sU (sU M 0 i 1) 1 i p2) 2 i p3) 3 i 0) 4 i 0) 5 i 0) 6 i 0) 7 i 0) s H locs := hw
            refine lv_iconst (v := 1) hx hb dX2_mount_84 (by decide) ?_
            exact e_i hx hb hr hlocks hw dX2_mount_85 (leafM (by simp only [om_mount, ml, ml2, ↓reduceIte, isH_nI hi, cl24 hi, c_4, hh_8, c_11, c_22]))
          · skip
            refine lv_bipush (v := (-5)) hx hb dX2_mount_25 (by decide) ?_
            exact e_i hx hb hr hlocks hw dX2_mount_27 (leafM (by simp only [om_mount, ml, ml2, ↓reduceIte, isH_nI hi, cl24 hi, c_4, hh_8, c_11, c_22]))
        · skip
          exact absurd c_11 (by decide)

set_option maxHeartbeats 800000 in
set_option maxRecDepth 100000 in
theorem c_X2_unmount (l : Launch) (G : GT) (f : Nat → Option Nat) (wa : Nat → Nat) (S M : Tb) (p1 : Int32) : Met l yX2_unmount wsX2_unmount (rk 1) (va_Pc [.ref (gm G), .int p1] (Wo G (f, wa, S, M))) (Qi G (fun r u => r = (om_unmount M p1).1 ∧ u = (f, wa, S, (om_unmount M p1).2))) 0 0 (gA G) := by
  refine m_head (cc := cX2_unmount) (maxL := 2) (ret := (some .int)) (by decide) rfl (Nat.le_of_ble_eq_true rfl) ?_
  intro p e s m below meth c hx hb hml hr hlocks hown hts hw ls hl
  have hown : s.vm.findClass RX2 = some m.cls := hown
  have hl : lv_has ls 2 [(0, .ref (gm G)), (1, .int p1)] := hl
  have hin2 : ∀ w ∈ wsX20, w ∈ wsX2_unmount := by decide +kernel
  have lk49 := hts (.fieldLink RX2 49 "LockerWallModel" "latched" "I") (by decide +kernel)
  have lk7 := hts (.fieldLink RX2 7 "LockerWallModel" "there" "[Z") (by decide +kernel)
  have lk26 := hts (.fieldLink RX2 26 "LockerWallModel" "many" "[I") (by decide +kernel)
  have lk29 := hts (.fieldLink RX2 29 "LockerWallModel" "holds" "[I") (by decide +kernel)
  refine lv_iload_n hx hb dX2_unmount_0 rfl (lv_at hl 1 rfl) ?_
  refine k_i hw (va_runS (As := [.int p1]) (rest := []) ⟨hx, hb, hml, hown, hts⟩ (c_X2_isHook l G f wa S M p1) (va_cwS 1 hts gX2_unmount_X2_isHook rfl rfl rfl (by decide +kernel) ⟨Nat.le_of_ble_eq_true rfl, Nat.le_of_ble_eq_true rfl⟩) (hw.preS _) rfl rfl hl.1 rfl (lv_room (Nat.le_of_ble_eq_true rfl)) dX2_unmount_1 ⟨Nat.le_of_ble_eq_true rfl, Nat.le_of_ble_eq_true rfl⟩) (fun r u H locs hR hw => ?_)
  obtain ⟨hq, rfl⟩ := hR
  obtain rfl := hq.symm
  cases hh_1 : isH p1
  · skip
    refine W.eq (g2 := F0 m 4 ls [.int 0]) rfl ?_
    refine lv_if_ne (tgt := 9) hx hb dX2_unmount_4 (by decide) (fun c_4 => ?_) (fun c_4 => ?_)
    · skip
      exact absurd c_4 (by decide)
    · skip
      refine lv_iconst (v := (-1)) hx hb dX2_unmount_7 (by decide) ?_
      exact e_i hx hb hr hlocks hw dX2_unmount_8 (leafM (by simp only [om_unmount, mj_unmount, sU90 M _ (show 0 ≠ 9 by decide), sU90 M _ (show 5 ≠ 9 by decide), sU90 M _ (show 6 ≠ 9 by decide), ml, ml2, ↓reduceIte, hh_1, Bool.false_eq_true, c_4]))
  · skip
    refine W.eq (g2 := F0 m 4 ls [.int 1]) rfl ?_
    obtain ⟨i, hi, rfl⟩ := isH_of hh_1
    refine lv_if_ne (tgt := 9) hx hb dX2_unmount_4 (by decide) (fun c_4 => ?_) (fun c_4 => ?_)
    · skip
      refine lv_aload_n hx hb dX2_unmount_9 rfl (lv_at hl 0 rfl) ?_
      refine lv_dup hx hb dX2_unmount_10 rfl ?_
      refine r_getM (v := .int (M 9 0)) hx hb hts hin2 hown hw 9 (by decide) lk49 rfl dX2_unmount_11 ?_
      refine lv_iconst (v := 1) hx hb dX2_unmount_14 (by decide) ?_
      refine lv_iadd hx hb dX2_unmount_15 ?_
      refine r_putMT hx hb hts hin2 hown hw lk49 dX2_unmount_16 (fun H locs hw => ?_)
      have hw : Wi G (f, wa, S, sU M 9 0 ((M 9 0) + 1)) s H locs := hw
      refine lv_aload_n hx hb dX2_unmount_19 rfl (lv_at hl 0 rfl) ?_
      refine r_getM (v := .ref (gc G 0)) hx hb hts hin2 hown hw 0 (by decide) lk7 rfl dX2_unmount_20 ?_
      refine lv_iload_n hx hb dX2_unmount_23 rfl (lv_at hl 1 rfl) ?_
      refine r_mldZ hx hb hw 0 (by decide) (by decide) (i) (rfl) (show i < 24 by omega) dX2_unmount_24 ?_
      refine W.eq (g2 := F0 m 25 ls [.int (M 0 i)]) rfl ?_
      refine lv_if_ne (tgt := 31) hx hb dX2_unmount_25 (by decide) (fun c_25 => ?_) (fun c_25 => ?_)
      · skip
        refine lv_aload_n hx hb dX2_unmount_31 rfl (lv_at hl 0 rfl) ?_
        refine r_getM (v := .ref (gc G 5)) hx hb hts hin2 hown hw 5 (by decide) lk26 rfl dX2_unmount_32 ?_
        refine lv_iload_n hx hb dX2_unmount_35 rfl (lv_at hl 1 rfl) ?_
        refine r_mld hx hb hw 5 (by decide) (by decide) (i) (rfl) (show i < 24 by omega) dX2_unmount_36 ?_
        refine W.eq (g2 := F0 m 37 ls [.int (M 5 i)]) rfl ?_
        refine lv_if_le (tgt := 49) hx hb dX2_unmount_37 (by decide) (fun c_37 => ?_) (fun c_37 => ?_)
        · skip
          refine lv_aload_n hx hb dX2_unmount_49 rfl (lv_at hl 0 rfl) ?_
          refine r_getM (v := .ref (gc G 0)) hx hb hts hin2 hown hw 0 (by decide) lk7 rfl dX2_unmount_50 ?_
          refine lv_iload_n hx hb dX2_unmount_53 rfl (lv_at hl 1 rfl) ?_
          refine lv_iconst (v := 0) hx hb dX2_unmount_54 (by decide) ?_
          refine r_mstZ hx hb hw 0 (by decide) (by decide) (by decide) (i) (rfl) (show i < 24 by omega) dX2_unmount_55 (fun H locs hw => ?_)
          have hw : Wi G (f, wa, S, sU (sU M 9 0 ((M 9 0) + 1)) 0 i 0) s H locs := hw
          refine lv_aload_n hx hb dX2_unmount_56 rfl (lv_at hl 0 rfl) ?_
          refine lv_iload_n hx hb dX2_unmount_57 rfl (lv_at hl 1 rfl) ?_
          refine lv_iconst (v := 1) hx hb dX2_unmount_58 (by decide) ?_
          refine lv_aload_n hx hb dX2_unmount_59 rfl (lv_at hl 0 rfl) ?_
          refine r_getM (v := .ref (gc G 6)) hx hb hts hin2 hown hw 6 (by decide) lk29 rfl dX2_unmount_60 ?_
          refine lv_iload_n hx hb dX2_unmount_63 rfl (lv_at hl 1 rfl) ?_
          refine r_mld hx hb hw 6 (by decide) (by decide) (i) (rfl) (show i < 24 by omega) dX2_unmount_64 ?_
          refine W.eq (g2 := F0 m 65 ls [.int (M 6 i), .int 1, .int (nI i), .ref (gm G)]) rfl ?_
          refine lv_iconst (v := 1) hx hb dX2_unmount_65 (by decide) ?_
          refine lv_iadd hx hb dX2_unmount_66 ?_
          refine k_i hw (va_runV (As := [.int (nI i), .int 1, .int ((M 6 i) + 1)]) (rest := []) ⟨hx, hb, hml, hown, hts⟩ (c_X2_let l G f wa S (sU (sU M 9 0 ((M 9 0) + 1)) 0 i 0) (j := i) (by omega) 1 ((M 6 i) + 1)) (cwV 3 hts gX2_unmount_X2_let rfl rfl rfl (by decide +kernel) ⟨Nat.le_of_ble_eq_true rfl, Nat.le_of_ble_eq_true rfl⟩) (hw.preM _) rfl rfl hl.1 rfl (lv_room (Nat.le_of_ble_eq_true rfl)) dX2_unmount_67 ⟨Nat.le_of_ble_eq_true rfl, Nat.le_of_ble_eq_true rfl⟩) (fun r u H locs hR hw => ?_)
          obtain ⟨hq, rfl⟩ := hR
          obtain rfl := hq.symm
          exact e_i hx hb hr hlocks hw dX2_unmount_70 (leafM (by simp only [om_unmount, mj_unmount, sU90 M _ (show 0 ≠ 9 by decide), sU90 M _ (show 5 ≠ 9 by decide), sU90 M _ (show 6 ≠ 9 by decide), ml, ml2, ↓reduceIte, isH_nI hi, cl24 hi, c_4, c_25, c_37]))
        · skip
          refine lv_aload_n hx hb dX2_unmount_40 rfl (lv_at hl 0 rfl) ?_
          refine lv_iload_n hx hb dX2_unmount_41 rfl (lv_at hl 1 rfl) ?_
          refine lv_iconst (v := 2) hx hb dX2_unmount_42 (by decide) ?_
          refine lv_bipush (v := (-6)) hx hb dX2_unmount_43 (by decide) ?_
          refine k_i hw (va_runV (As := [.int (nI i), .int 2, .int (-6)]) (rest := []) ⟨hx, hb, hml, hown, hts⟩ (c_X2_let l G f wa S (sU M 9 0 ((M 9 0) + 1)) (j := i) (by omega) 2 (-6)) (cwV 3 hts gX2_unmount_X2_let rfl rfl rfl (by decide +kernel) ⟨Nat.le_of_ble_eq_true rfl, Nat.le_of_ble_eq_true rfl⟩) (hw.preM _) rfl rfl hl.1 rfl (lv_room (Nat.le_of_ble_eq_true rfl)) dX2_unmount_45 ⟨Nat.le_of_ble_eq_true rfl, Nat.le_of_ble_eq_true rfl⟩) (fun r u H locs hR hw => ?_)
          obtain ⟨hq, rfl⟩ := hR
          obtain rfl := hq.symm
          exact e_i hx hb hr hlocks hw dX2_unmount_48 (leafM (by simp only [om_unmount, mj_unmount, sU90 M _ (show 0 ≠ 9 by decide), sU90 M _ (show 5 ≠ 9 by decide), sU90 M _ (show 6 ≠ 9 by decide), ml, ml2, ↓reduceIte, isH_nI hi, cl24 hi, c_4, c_25, c_37]))
      · skip
        refine lv_bipush (v := (-2)) hx hb dX2_unmount_28 (by decide) ?_
        exact e_i hx hb hr hlocks hw dX2_unmount_30 (leafM (by simp only [om_unmount, mj_unmount, sU90 M _ (show 0 ≠ 9 by decide), sU90 M _ (show 5 ≠ 9 by decide), sU90 M _ (show 6 ≠ 9 by decide), ml, ml2, ↓reduceIte, isH_nI hi, cl24 hi, c_4, c_25]))
    · skip
      exact absurd c_4 (by decide)

set_option maxHeartbeats 800000 in
set_option maxRecDepth 100000 in
theorem c_X2_open (l : Launch) (G : GT) (f : Nat → Option Nat) (wa : Nat → Nat) (S M : Tb) (p1 p2 : Int32) : Met l yX2_open wsX2_open (rk 1) (va_Pc [.ref (gm G), .int p1, .int p2] (Wo G (f, wa, S, M))) (Qi G (fun r u => r = (om_open M p1 p2).1 ∧ u = (f, wa, S, (om_open M p1 p2).2))) 0 0 (gA G) := by
  refine m_head (cc := cX2_open) (maxL := 3) (ret := (some .int)) (by decide) rfl (Nat.le_of_ble_eq_true rfl) ?_
  intro p e s m below meth c hx hb hml hr hlocks hown hts hw ls hl
  have hown : s.vm.findClass RX2 = some m.cls := hown
  have hl : lv_has ls 3 [(0, .ref (gm G)), (1, .int p1), (2, .int p2)] := hl
  have hin2 : ∀ w ∈ wsX20, w ∈ wsX2_open := by decide +kernel
  have lk7 := hts (.fieldLink RX2 7 "LockerWallModel" "there" "[Z") (by decide +kernel)
  have lk23 := hts (.fieldLink RX2 23 "LockerWallModel" "tries" "[I") (by decide +kernel)
  have lk17 := hts (.fieldLink RX2 17 "LockerWallModel" "code" "[I") (by decide +kernel)
  have lk20 := hts (.fieldLink RX2 20 "LockerWallModel" "open" "[Z") (by decide +kernel)
  refine lv_iload_n hx hb dX2_open_0 rfl (lv_at hl 1 rfl) ?_
  refine k_i hw (va_runS (As := [.int p1]) (rest := []) ⟨hx, hb, hml, hown, hts⟩ (c_X2_isHook l G f wa S M p1) (va_cwS 1 hts gX2_open_X2_isHook rfl rfl rfl (by decide +kernel) ⟨Nat.le_of_ble_eq_true rfl, Nat.le_of_ble_eq_true rfl⟩) (hw.preS _) rfl rfl hl.1 rfl (lv_room (Nat.le_of_ble_eq_true rfl)) dX2_open_1 ⟨Nat.le_of_ble_eq_true rfl, Nat.le_of_ble_eq_true rfl⟩) (fun r u H locs hR hw => ?_)
  obtain ⟨hq, rfl⟩ := hR
  obtain rfl := hq.symm
  cases hh_1 : isH p1
  · skip
    refine W.eq (g2 := F0 m 4 ls [.int 0]) rfl ?_
    refine lv_if_ne (tgt := 9) hx hb dX2_open_4 (by decide) (fun c_4 => ?_) (fun c_4 => ?_)
    · skip
      exact absurd c_4 (by decide)
    · skip
      refine lv_iconst (v := (-1)) hx hb dX2_open_7 (by decide) ?_
      exact e_i hx hb hr hlocks hw dX2_open_8 (leafM (by simp only [om_open, mj_open, ml, ml2, ↓reduceIte, hh_1, Bool.false_eq_true, c_4]))
  · skip
    refine W.eq (g2 := F0 m 4 ls [.int 1]) rfl ?_
    obtain ⟨i, hi, rfl⟩ := isH_of hh_1
    refine lv_if_ne (tgt := 9) hx hb dX2_open_4 (by decide) (fun c_4 => ?_) (fun c_4 => ?_)
    · skip
      refine lv_aload_n hx hb dX2_open_9 rfl (lv_at hl 0 rfl) ?_
      refine r_getM (v := .ref (gc G 0)) hx hb hts hin2 hown hw 0 (by decide) lk7 rfl dX2_open_10 ?_
      refine lv_iload_n hx hb dX2_open_13 rfl (lv_at hl 1 rfl) ?_
      refine r_mldZ hx hb hw 0 (by decide) (by decide) (i) (rfl) (show i < 24 by omega) dX2_open_14 ?_
      refine lv_if_ne (tgt := 21) hx hb dX2_open_15 (by decide) (fun c_15 => ?_) (fun c_15 => ?_)
      · skip
        refine lv_aload_n hx hb dX2_open_21 rfl (lv_at hl 0 rfl) ?_
        refine r_getM (v := .ref (gc G 4)) hx hb hts hin2 hown hw 4 (by decide) lk23 rfl dX2_open_22 ?_
        refine lv_iload_n hx hb dX2_open_25 rfl (lv_at hl 1 rfl) ?_
        refine r_mld hx hb hw 4 (by decide) (by decide) (i) (rfl) (show i < 24 by omega) dX2_open_26 ?_
        refine lv_iconst (v := 3) hx hb dX2_open_27 (by decide) ?_
        refine lv_icmp_ne (tgt := 40) hx hb dX2_open_28 (by decide) (fun c_28 => ?_) (fun c_28 => ?_)
        · skip
          refine lv_iload_n hx hb dX2_open_40 rfl (lv_at hl 2 rfl) ?_
          refine lv_aload_n hx hb dX2_open_41 rfl (lv_at hl 0 rfl) ?_
          refine r_getM (v := .ref (gc G 2)) hx hb hts hin2 hown hw 2 (by decide) lk17 rfl dX2_open_42 ?_
          refine lv_iload_n hx hb dX2_open_45 rfl (lv_at hl 1 rfl) ?_
          refine r_mld hx hb hw 2 (by decide) (by decide) (i) (rfl) (show i < 24 by omega) dX2_open_46 ?_
          refine lv_icmp_eq (tgt := 69) hx hb dX2_open_47 (by decide) (fun c_47 => ?_) (fun c_47 => ?_)
          · skip
            refine lv_aload_n hx hb dX2_open_69 rfl (lv_at hl 0 rfl) ?_
            refine r_getM (v := .ref (gc G 3)) hx hb hts hin2 hown hw 3 (by decide) lk20 rfl dX2_open_70 ?_
            refine lv_iload_n hx hb dX2_open_73 rfl (lv_at hl 1 rfl) ?_
            refine lv_iconst (v := 1) hx hb dX2_open_74 (by decide) ?_
            refine r_mstZ hx hb hw 3 (by decide) (by decide) (by decide) (i) (rfl) (show i < 24 by omega) dX2_open_75 (fun H locs hw => ?_)
            have hw : Wi G (f, wa, S, sU M 3 i 1) s H locs := hw
            refine lv_aload_n hx hb dX2_open_76 rfl (lv_at hl 0 rfl) ?_
            refine r_getM (v := .ref (gc G 4)) hx hb hts hin2 hown hw 4 (by decide) lk23 rfl dX2_open_77 ?_
            refine lv_iload_n hx hb dX2_open_80 rfl (lv_at hl 1 rfl) ?_
            refine lv_iconst (v := 0) hx hb dX2_open_81 (by decide) ?_
            refine r_mst hx hb hw 4 (by decide) (by decide) (i) (rfl) (show i < 24 by omega) dX2_open_82 (fun H locs hw => ?_)
            have hw : Wi G (f, wa, S, sU (sU M 3 i 1) 4 i 0) s H locs := hw
            refine lv_aload_n hx hb dX2_open_83 rfl (lv_at hl 0 rfl) ?_
            refine lv_iload_n hx hb dX2_open_84 rfl (lv_at hl 1 rfl) ?_
            refine lv_iconst (v := 1) hx hb dX2_open_85 (by decide) ?_
            refine lv_iconst (v := 1) hx hb dX2_open_86 (by decide) ?_
            refine k_i hw (va_runV (As := [.int (nI i), .int 1, .int 1]) (rest := []) ⟨hx, hb, hml, hown, hts⟩ (c_X2_let l G f wa S (sU (sU M 3 i 1) 4 i 0) (j := i) (by omega) 1 1) (cwV 3 hts gX2_open_X2_let rfl rfl rfl (by decide +kernel) ⟨Nat.le_of_ble_eq_true rfl, Nat.le_of_ble_eq_true rfl⟩) (hw.preM _) rfl rfl hl.1 rfl (lv_room (Nat.le_of_ble_eq_true rfl)) dX2_open_87 ⟨Nat.le_of_ble_eq_true rfl, Nat.le_of_ble_eq_true rfl⟩) (fun r u H locs hR hw => ?_)
            obtain ⟨hq, rfl⟩ := hR
            obtain rfl := hq.symm
            exact e_i hx hb hr hlocks hw dX2_open_90 (leafM (by simp only [om_open, mj_open, ml, ml2, ↓reduceIte, isH_nI hi, cl24 hi, c_4, c_15, c_28, c_47]))
          · skip
            refine lv_aload_n hx hb dX2_open_50 rfl (lv_at hl 0 rfl) ?_
            refine r_getM (v := .ref (gc G 4)) hx hb hts hin2 hown hw 4 (by decide) lk23 rfl dX2_open_51 ?_
            refine lv_iload_n hx hb dX2_open_54 rfl (lv_at hl 1 rfl) ?_
            refine lv_dup2_11 hx hb dX2_open_55 rfl rfl ?_
            refine r_mld hx hb hw 4 (by decide) (by decide) (i) (rfl) (show i < 24 by omega) dX2_open_56 ?_
            refine lv_iconst (v := 1) hx hb dX2_open_57 (by decide) ?_
            refine lv_iadd hx hb dX2_open_58 ?_
            refine r_mst hx hb hw 4 (by decide) (by decide) (i) (rfl) (show i < 24 by omega) dX2_open_59 (fun H locs hw => ?_)
            have hw : Wi G (f, wa, S, sU M 4 i ((M 4 i) + 1)) s H locs := hw
            refine lv_aload_n hx hb dX2_open_60 rfl (lv_at hl 0 rfl) ?_
            refine lv_iload_n hx hb dX2_open_61 rfl (lv_at hl 1 rfl) ?_
            refine lv_iconst (v := 4) hx hb dX2_open_62 (by decide) ?_
            refine lv_bipush (v := (-7)) hx hb dX2_open_63 (by decide) ?_
            refine k_i hw (va_runV (As := [.int (nI i), .int 4, .int (-7)]) (rest := []) ⟨hx, hb, hml, hown, hts⟩ (c_X2_let l G f wa S (sU M 4 i ((M 4 i) + 1)) (j := i) (by omega) 4 (-7)) (cwV 3 hts gX2_open_X2_let rfl rfl rfl (by decide +kernel) ⟨Nat.le_of_ble_eq_true rfl, Nat.le_of_ble_eq_true rfl⟩) (hw.preM _) rfl rfl hl.1 rfl (lv_room (Nat.le_of_ble_eq_true rfl)) dX2_open_65 ⟨Nat.le_of_ble_eq_true rfl, Nat.le_of_ble_eq_true rfl⟩) (fun r u H locs hR hw => ?_)
            obtain ⟨hq, rfl⟩ := hR
            obtain rfl := hq.symm
            exact e_i hx hb hr hlocks hw dX2_open_68 (leafM (by simp only [om_open, mj_open, ml, ml2, ↓reduceIte, isH_nI hi, cl24 hi, c_4, c_15, c_28, c_47]))
        · skip
          refine lv_aload_n hx hb dX2_open_31 rfl (lv_at hl 0 rfl) ?_
          refine lv_iload_n hx hb dX2_open_32 rfl (lv_at hl 1 rfl) ?_
          refine lv_iconst (v := 2) hx hb dX2_open_33 (by decide) ?_
          refine lv_bipush (v := (-4)) hx hb dX2_open_34 (by decide) ?_
          refine k_i hw (va_runV (As := [.int (nI i), .int 2, .int (-4)]) (rest := []) ⟨hx, hb, hml, hown, hts⟩ (c_X2_let l G f wa S M (j := i) (by omega) 2 (-4)) (cwV 3 hts gX2_open_X2_let rfl rfl rfl (by decide +kernel) ⟨Nat.le_of_ble_eq_true rfl, Nat.le_of_ble_eq_true rfl⟩) (hw.preM _) rfl rfl hl.1 rfl (lv_room (Nat.le_of_ble_eq_true rfl)) dX2_open_36 ⟨Nat.le_of_ble_eq_true rfl, Nat.le_of_ble_eq_true rfl⟩) (fun r u H locs hR hw => ?_)
          obtain ⟨hq, rfl⟩ := hR
          obtain rfl := hq.symm
          exact e_i hx hb hr hlocks hw dX2_open_39 (leafM (by simp only [om_open, mj_open, ml, ml2, ↓reduceIte, isH_nI hi, cl24 hi, c_4, c_15, c_28]))
      · skip
        refine lv_bipush (v := (-2)) hx hb dX2_open_18 (by decide) ?_
        exact e_i hx hb hr hlocks hw dX2_open_20 (leafM (by simp only [om_open, mj_open, ml, ml2, ↓reduceIte, isH_nI hi, cl24 hi, c_4, c_15]))
    · skip
      exact absurd c_4 (by decide)

set_option maxHeartbeats 800000 in
set_option maxRecDepth 100000 in
theorem c_X2_shut (l : Launch) (G : GT) (f : Nat → Option Nat) (wa : Nat → Nat) (S M : Tb) (p1 : Int32) : Met l yX2_shut wsX2_shut (rk 1) (va_Pc [.ref (gm G), .int p1] (Wo G (f, wa, S, M))) (Qi G (fun r u => r = (om_shut M p1).1 ∧ u = (f, wa, S, (om_shut M p1).2))) 0 0 (gA G) := by
  refine m_head (cc := cX2_shut) (maxL := 2) (ret := (some .int)) (by decide) rfl (Nat.le_of_ble_eq_true rfl) ?_
  intro p e s m below meth c hx hb hml hr hlocks hown hts hw ls hl
  have hown : s.vm.findClass RX2 = some m.cls := hown
  have hl : lv_has ls 2 [(0, .ref (gm G)), (1, .int p1)] := hl
  have hin2 : ∀ w ∈ wsX20, w ∈ wsX2_shut := by decide +kernel
  have lk7 := hts (.fieldLink RX2 7 "LockerWallModel" "there" "[Z") (by decide +kernel)
  have lk20 := hts (.fieldLink RX2 20 "LockerWallModel" "open" "[Z") (by decide +kernel)
  refine lv_iload_n hx hb dX2_shut_0 rfl (lv_at hl 1 rfl) ?_
  refine k_i hw (va_runS (As := [.int p1]) (rest := []) ⟨hx, hb, hml, hown, hts⟩ (c_X2_isHook l G f wa S M p1) (va_cwS 1 hts gX2_shut_X2_isHook rfl rfl rfl (by decide +kernel) ⟨Nat.le_of_ble_eq_true rfl, Nat.le_of_ble_eq_true rfl⟩) (hw.preS _) rfl rfl hl.1 rfl (lv_room (Nat.le_of_ble_eq_true rfl)) dX2_shut_1 ⟨Nat.le_of_ble_eq_true rfl, Nat.le_of_ble_eq_true rfl⟩) (fun r u H locs hR hw => ?_)
  obtain ⟨hq, rfl⟩ := hR
  obtain rfl := hq.symm
  cases hh_1 : isH p1
  · skip
    refine W.eq (g2 := F0 m 4 ls [.int 0]) rfl ?_
    refine lv_if_ne (tgt := 9) hx hb dX2_shut_4 (by decide) (fun c_4 => ?_) (fun c_4 => ?_)
    · skip
      exact absurd c_4 (by decide)
    · skip
      refine lv_iconst (v := (-1)) hx hb dX2_shut_7 (by decide) ?_
      exact e_i hx hb hr hlocks hw dX2_shut_8 (leafM (by simp only [om_shut, mj_shut, ml, ml2, ↓reduceIte, hh_1, Bool.false_eq_true, c_4]))
  · skip
    refine W.eq (g2 := F0 m 4 ls [.int 1]) rfl ?_
    obtain ⟨i, hi, rfl⟩ := isH_of hh_1
    refine lv_if_ne (tgt := 9) hx hb dX2_shut_4 (by decide) (fun c_4 => ?_) (fun c_4 => ?_)
    · skip
      refine lv_aload_n hx hb dX2_shut_9 rfl (lv_at hl 0 rfl) ?_
      refine r_getM (v := .ref (gc G 0)) hx hb hts hin2 hown hw 0 (by decide) lk7 rfl dX2_shut_10 ?_
      refine lv_iload_n hx hb dX2_shut_13 rfl (lv_at hl 1 rfl) ?_
      refine r_mldZ hx hb hw 0 (by decide) (by decide) (i) (rfl) (show i < 24 by omega) dX2_shut_14 ?_
      refine lv_if_ne (tgt := 21) hx hb dX2_shut_15 (by decide) (fun c_15 => ?_) (fun c_15 => ?_)
      · skip
        refine lv_aload_n hx hb dX2_shut_21 rfl (lv_at hl 0 rfl) ?_
        refine r_getM (v := .ref (gc G 3)) hx hb hts hin2 hown hw 3 (by decide) lk20 rfl dX2_shut_22 ?_
        refine lv_iload_n hx hb dX2_shut_25 rfl (lv_at hl 1 rfl) ?_
        refine r_mldZ hx hb hw 3 (by decide) (by decide) (i) (rfl) (show i < 24 by omega) dX2_shut_26 ?_
        refine lv_if_ne (tgt := 39) hx hb dX2_shut_27 (by decide) (fun c_27 => ?_) (fun c_27 => ?_)
        · skip
          refine lv_aload_n hx hb dX2_shut_39 rfl (lv_at hl 0 rfl) ?_
          refine r_getM (v := .ref (gc G 3)) hx hb hts hin2 hown hw 3 (by decide) lk20 rfl dX2_shut_40 ?_
          refine lv_iload_n hx hb dX2_shut_43 rfl (lv_at hl 1 rfl) ?_
          refine lv_iconst (v := 0) hx hb dX2_shut_44 (by decide) ?_
          refine r_mstZ hx hb hw 3 (by decide) (by decide) (by decide) (i) (rfl) (show i < 24 by omega) dX2_shut_45 (fun H locs hw => ?_)
          have hw : Wi G (f, wa, S, sU M 3 i 0) s H locs := hw
          refine lv_aload_n hx hb dX2_shut_46 rfl (lv_at hl 0 rfl) ?_
          refine lv_iload_n hx hb dX2_shut_47 rfl (lv_at hl 1 rfl) ?_
          refine lv_iconst (v := 1) hx hb dX2_shut_48 (by decide) ?_
          refine lv_iconst (v := 1) hx hb dX2_shut_49 (by decide) ?_
          refine k_i hw (va_runV (As := [.int (nI i), .int 1, .int 1]) (rest := []) ⟨hx, hb, hml, hown, hts⟩ (c_X2_let l G f wa S (sU M 3 i 0) (j := i) (by omega) 1 1) (cwV 3 hts gX2_shut_X2_let rfl rfl rfl (by decide +kernel) ⟨Nat.le_of_ble_eq_true rfl, Nat.le_of_ble_eq_true rfl⟩) (hw.preM _) rfl rfl hl.1 rfl (lv_room (Nat.le_of_ble_eq_true rfl)) dX2_shut_50 ⟨Nat.le_of_ble_eq_true rfl, Nat.le_of_ble_eq_true rfl⟩) (fun r u H locs hR hw => ?_)
          obtain ⟨hq, rfl⟩ := hR
          obtain rfl := hq.symm
          exact e_i hx hb hr hlocks hw dX2_shut_53 (leafM (by simp only [om_shut, mj_shut, ml, ml2, ↓reduceIte, isH_nI hi, cl24 hi, c_4, c_15, c_27]))
        · skip
          refine lv_aload_n hx hb dX2_shut_30 rfl (lv_at hl 0 rfl) ?_
          refine lv_iload_n hx hb dX2_shut_31 rfl (lv_at hl 1 rfl) ?_
          refine lv_iconst (v := 2) hx hb dX2_shut_32 (by decide) ?_
          refine lv_bipush (v := (-3)) hx hb dX2_shut_33 (by decide) ?_
          refine k_i hw (va_runV (As := [.int (nI i), .int 2, .int (-3)]) (rest := []) ⟨hx, hb, hml, hown, hts⟩ (c_X2_let l G f wa S M (j := i) (by omega) 2 (-3)) (cwV 3 hts gX2_shut_X2_let rfl rfl rfl (by decide +kernel) ⟨Nat.le_of_ble_eq_true rfl, Nat.le_of_ble_eq_true rfl⟩) (hw.preM _) rfl rfl hl.1 rfl (lv_room (Nat.le_of_ble_eq_true rfl)) dX2_shut_35 ⟨Nat.le_of_ble_eq_true rfl, Nat.le_of_ble_eq_true rfl⟩) (fun r u H locs hR hw => ?_)
          obtain ⟨hq, rfl⟩ := hR
          obtain rfl := hq.symm
          exact e_i hx hb hr hlocks hw dX2_shut_38 (leafM (by simp only [om_shut, mj_shut, ml, ml2, ↓reduceIte, isH_nI hi, cl24 hi, c_4, c_15, c_27]))
      · skip
        refine lv_bipush (v := (-2)) hx hb dX2_shut_18 (by decide) ?_
        exact e_i hx hb hr hlocks hw dX2_shut_20 (leafM (by simp only [om_shut, mj_shut, ml, ml2, ↓reduceIte, isH_nI hi, cl24 hi, c_4, c_15]))
    · skip
      exact absurd c_4 (by decide)

set_option maxHeartbeats 800000 in
set_option maxRecDepth 100000 in
theorem c_X2_put (l : Launch) (G : GT) (f : Nat → Option Nat) (wa : Nat → Nat) (S M : Tb) (hI : Inv M) (p1 p2 : Int32) : Met l yX2_put wsX2_put (rk 2) (va_Pc [.ref (gm G), .int p1, .int p2] (Wo G (f, wa, S, M))) (Qi G (fun r u => r = (om_put M p1 p2).1 ∧ u = (f, wa, S, (om_put M p1 p2).2))) 0 0 (gA G) := by
  refine m_head (cc := cX2_put) (maxL := 3) (ret := (some .int)) (by decide) rfl (Nat.le_of_ble_eq_true rfl) ?_
  intro p e s m below meth c hx hb hml hr hlocks hown hts hw ls hl
  have hown : s.vm.findClass RX2 = some m.cls := hown
  have hl : lv_has ls 3 [(0, .ref (gm G)), (1, .int p1), (2, .int p2)] := hl
  have hin2 : ∀ w ∈ wsX20, w ∈ wsX2_put := by decide +kernel
  have lk7 := hts (.fieldLink RX2 7 "LockerWallModel" "there" "[Z") (by decide +kernel)
  have lk20 := hts (.fieldLink RX2 20 "LockerWallModel" "open" "[Z") (by decide +kernel)
  have lk26 := hts (.fieldLink RX2 26 "LockerWallModel" "many" "[I") (by decide +kernel)
  refine lv_iload_n hx hb dX2_put_0 rfl (lv_at hl 1 rfl) ?_
  refine k_i hw (va_runS (As := [.int p1]) (rest := []) ⟨hx, hb, hml, hown, hts⟩ (c_X2_isHook l G f wa S M p1) (va_cwS 1 hts gX2_put_X2_isHook rfl rfl rfl (by decide +kernel) ⟨Nat.le_of_ble_eq_true rfl, Nat.le_of_ble_eq_true rfl⟩) (hw.preS _) rfl rfl hl.1 rfl (lv_room (Nat.le_of_ble_eq_true rfl)) dX2_put_1 ⟨Nat.le_of_ble_eq_true rfl, Nat.le_of_ble_eq_true rfl⟩) (fun r u H locs hR hw => ?_)
  obtain ⟨hq, rfl⟩ := hR
  obtain rfl := hq.symm
  cases hh_1 : isH p1
  · skip
    refine W.eq (g2 := F0 m 4 ls [.int 0]) rfl ?_
    refine lv_if_eq (tgt := 14) hx hb dX2_put_4 (by decide) (fun c_4 => ?_) (fun c_4 => ?_)
    · skip
      refine lv_iconst (v := (-1)) hx hb dX2_put_14 (by decide) ?_
      exact e_i hx hb hr hlocks hw dX2_put_15 (leafM (by simp only [om_put, mj_put, ml, ml2, ↓reduceIte, hh_1, Bool.false_eq_true, c_4]))
    · skip
      exact absurd c_4 (by decide)
  · skip
    refine W.eq (g2 := F0 m 4 ls [.int 1]) rfl ?_
    obtain ⟨i, hi, rfl⟩ := isH_of hh_1
    obtain ⟨n_i, h10_i, hn_i⟩ := hI i hi
    refine lv_if_eq (tgt := 14) hx hb dX2_put_4 (by decide) (fun c_4 => ?_) (fun c_4 => ?_)
    · skip
      exact absurd c_4 (by decide)
    · skip
      refine lv_iload_n hx hb dX2_put_7 rfl (lv_at hl 2 rfl) ?_
      refine k_i hw (va_runS (As := [.int p2]) (rest := []) ⟨hx, hb, hml, hown, hts⟩ (c_X2_isWeight l G f wa S M p2) (va_cwS 1 hts gX2_put_X2_isWeight rfl rfl rfl (by decide +kernel) ⟨Nat.le_of_ble_eq_true rfl, Nat.le_of_ble_eq_true rfl⟩) (hw.preS _) rfl rfl hl.1 rfl (lv_room (Nat.le_of_ble_eq_true rfl)) dX2_put_8 ⟨Nat.le_of_ble_eq_true rfl, Nat.le_of_ble_eq_true rfl⟩) (fun r u H locs hR hw => ?_)
      obtain ⟨hq, rfl⟩ := hR
      obtain rfl := hq.symm
      cases hh_8 : isWt p2
      · skip
        refine W.eq (g2 := F0 m 11 ls [.int 0]) rfl ?_
        refine lv_if_ne (tgt := 16) hx hb dX2_put_11 (by decide) (fun c_11 => ?_) (fun c_11 => ?_)
        · skip
          exact absurd c_11 (by decide)
        · skip
          refine lv_iconst (v := (-1)) hx hb dX2_put_14 (by decide) ?_
          exact e_i hx hb hr hlocks hw dX2_put_15 (leafM (by simp only [om_put, mj_put, ml, ml2, ↓reduceIte, isH_nI hi, cl24 hi, c_4, hh_8, Bool.false_eq_true, c_11]))
      · skip
        refine W.eq (g2 := F0 m 11 ls [.int 1]) rfl ?_
        refine lv_if_ne (tgt := 16) hx hb dX2_put_11 (by decide) (fun c_11 => ?_) (fun c_11 => ?_)
        · skip
          refine lv_aload_n hx hb dX2_put_16 rfl (lv_at hl 0 rfl) ?_
          refine r_getM (v := .ref (gc G 0)) hx hb hts hin2 hown hw 0 (by decide) lk7 rfl dX2_put_17 ?_
          refine lv_iload_n hx hb dX2_put_20 rfl (lv_at hl 1 rfl) ?_
          refine r_mldZ hx hb hw 0 (by decide) (by decide) (i) (rfl) (show i < 24 by omega) dX2_put_21 ?_
          refine lv_if_ne (tgt := 28) hx hb dX2_put_22 (by decide) (fun c_22 => ?_) (fun c_22 => ?_)
          · skip
            refine lv_aload_n hx hb dX2_put_28 rfl (lv_at hl 0 rfl) ?_
            refine r_getM (v := .ref (gc G 3)) hx hb hts hin2 hown hw 3 (by decide) lk20 rfl dX2_put_29 ?_
            refine lv_iload_n hx hb dX2_put_32 rfl (lv_at hl 1 rfl) ?_
            refine r_mldZ hx hb hw 3 (by decide) (by decide) (i) (rfl) (show i < 24 by omega) dX2_put_33 ?_
            refine lv_if_ne (tgt := 46) hx hb dX2_put_34 (by decide) (fun c_34 => ?_) (fun c_34 => ?_)
            · skip
              refine lv_aload_n hx hb dX2_put_46 rfl (lv_at hl 0 rfl) ?_
              refine lv_iload_n hx hb dX2_put_47 rfl (lv_at hl 1 rfl) ?_
              refine lv_iload_n hx hb dX2_put_48 rfl (lv_at hl 2 rfl) ?_
              refine k_i hw (va_runV (As := [.int (nI i), .int p2]) (rest := []) ⟨hx, hb, hml, hown, hts⟩ (c_X2_hasRoom l G f wa S M (i := i) (by omega) hn_i h10_i p2) (cwV 2 hts gX2_put_X2_hasRoom rfl rfl rfl (by decide +kernel) ⟨Nat.le_of_ble_eq_true rfl, Nat.le_of_ble_eq_true rfl⟩) (hw.preM _) rfl rfl hl.1 rfl (lv_room (Nat.le_of_ble_eq_true rfl)) dX2_put_49 ⟨Nat.le_of_ble_eq_true rfl, Nat.le_of_ble_eq_true rfl⟩) (fun r u H locs hR hw => ?_)
              obtain ⟨hq, rfl⟩ := hR
              obtain rfl := hq.symm
              cases hh_49 : okA M i p2
              · skip
                refine W.eq (g2 := F0 m 52 ls [.int 0]) rfl ?_
                refine lv_if_ne (tgt := 64) hx hb dX2_put_52 (by decide) (fun c_52 => ?_) (fun c_52 => ?_)
                · skip
                  exact absurd c_52 (by decide)
                · skip
                  refine lv_aload_n hx hb dX2_put_55 rfl (lv_at hl 0 rfl) ?_
                  refine lv_iload_n hx hb dX2_put_56 rfl (lv_at hl 1 rfl) ?_
                  refine lv_iconst (v := 4) hx hb dX2_put_57 (by decide) ?_
                  refine lv_bipush (v := (-5)) hx hb dX2_put_58 (by decide) ?_
                  refine k_i hw (va_runV (As := [.int (nI i), .int 4, .int (-5)]) (rest := []) ⟨hx, hb, hml, hown, hts⟩ (c_X2_let l G f wa S M (j := i) (by omega) 4 (-5)) (cwV 3 hts gX2_put_X2_let rfl rfl rfl (by decide +kernel) ⟨Nat.le_of_ble_eq_true rfl, Nat.le_of_ble_eq_true rfl⟩) (hw.preM _) rfl rfl hl.1 rfl (lv_room (Nat.le_of_ble_eq_true rfl)) dX2_put_60 ⟨Nat.le_of_ble_eq_true rfl, Nat.le_of_ble_eq_true rfl⟩) (fun r u H locs hR hw => ?_)
                  obtain ⟨hq, rfl⟩ := hR
                  obtain rfl := hq.symm
                  exact e_i hx hb hr hlocks hw dX2_put_63 (leafM (by simp only [om_put, mj_put, ml, ml2, ↓reduceIte, isH_nI hi, cl24 hi, c_4, hh_8, c_11, c_22, c_34, hh_49, Bool.false_eq_true, c_52]))
              · skip
                refine W.eq (g2 := F0 m 52 ls [.int 1]) rfl ?_
                refine lv_if_ne (tgt := 64) hx hb dX2_put_52 (by decide) (fun c_52 => ?_) (fun c_52 => ?_)
                · skip
                  have hlt_i : n_i < 10 := okA_lt hn_i h10_i hh_49
                  refine lv_aload_n hx hb dX2_put_64 rfl (lv_at hl 0 rfl) ?_
                  refine lv_iload_n hx hb dX2_put_65 rfl (lv_at hl 1 rfl) ?_
                  refine lv_iload_n hx hb dX2_put_66 rfl (lv_at hl 2 rfl) ?_
                  refine k_v hw (va_runV (As := [.int (nI i), .int p2]) (rest := []) ⟨hx, hb, hml, hown, hts⟩ (c_X2_add l G f wa S M (i := i) (by omega) hn_i hlt_i p2) (cwV 2 hts gX2_put_X2_add rfl rfl rfl (by decide +kernel) ⟨Nat.le_of_ble_eq_true rfl, Nat.le_of_ble_eq_true rfl⟩) (hw.preM _) rfl rfl hl.1 rfl (lv_room (Nat.le_of_ble_eq_true rfl)) dX2_put_67 ⟨Nat.le_of_ble_eq_true rfl, Nat.le_of_ble_eq_true rfl⟩) (fun u H locs hR hw => ?_)
                  obtain rfl := hR
                  refine lv_aload_n hx hb dX2_put_70 rfl (lv_at hl 0 rfl) ?_
                  refine lv_iload_n hx hb dX2_put_71 rfl (lv_at hl 1 rfl) ?_
                  refine lv_iconst (v := 1) hx hb dX2_put_72 (by decide) ?_
                  refine lv_aload_n hx hb dX2_put_73 rfl (lv_at hl 0 rfl) ?_
                  refine r_getM (v := .ref (gc G 5)) hx hb hts hin2 hown hw 5 (by decide) lk26 rfl dX2_put_74 ?_
                  refine lv_iload_n hx hb dX2_put_77 rfl (lv_at hl 1 rfl) ?_
                  refine r_mld hx hb hw 5 (by decide) (by decide) (i) (rfl) (show i < 24 by omega) dX2_put_78 ?_
                  refine k_i hw (va_runV (As := [.int (nI i), .int 1, .int (acS M i p2 5 i)]) (rest := []) ⟨hx, hb, hml, hown, hts⟩ (c_X2_let l G f wa S (acS M i p2) (j := i) (by omega) 1 (acS M i p2 5 i)) (cwV 3 hts gX2_put_X2_let rfl rfl rfl (by decide +kernel) ⟨Nat.le_of_ble_eq_true rfl, Nat.le_of_ble_eq_true rfl⟩) (hw.preM _) rfl rfl hl.1 rfl (lv_room (Nat.le_of_ble_eq_true rfl)) dX2_put_79 ⟨Nat.le_of_ble_eq_true rfl, Nat.le_of_ble_eq_true rfl⟩) (fun r u H locs hR hw => ?_)
                  obtain ⟨hq, rfl⟩ := hR
                  obtain rfl := hq.symm
                  exact e_i hx hb hr hlocks hw dX2_put_82 (leafM (by simp only [om_put, mj_put, ml, ml2, ↓reduceIte, isH_nI hi, cl24 hi, c_4, hh_8, c_11, c_22, c_34, hh_49, c_52]))
                · skip
                  exact absurd c_52 (by decide)
            · skip
              refine lv_aload_n hx hb dX2_put_37 rfl (lv_at hl 0 rfl) ?_
              refine lv_iload_n hx hb dX2_put_38 rfl (lv_at hl 1 rfl) ?_
              refine lv_iconst (v := 2) hx hb dX2_put_39 (by decide) ?_
              refine lv_bipush (v := (-3)) hx hb dX2_put_40 (by decide) ?_
              refine k_i hw (va_runV (As := [.int (nI i), .int 2, .int (-3)]) (rest := []) ⟨hx, hb, hml, hown, hts⟩ (c_X2_let l G f wa S M (j := i) (by omega) 2 (-3)) (cwV 3 hts gX2_put_X2_let rfl rfl rfl (by decide +kernel) ⟨Nat.le_of_ble_eq_true rfl, Nat.le_of_ble_eq_true rfl⟩) (hw.preM _) rfl rfl hl.1 rfl (lv_room (Nat.le_of_ble_eq_true rfl)) dX2_put_42 ⟨Nat.le_of_ble_eq_true rfl, Nat.le_of_ble_eq_true rfl⟩) (fun r u H locs hR hw => ?_)
              obtain ⟨hq, rfl⟩ := hR
              obtain rfl := hq.symm
              exact e_i hx hb hr hlocks hw dX2_put_45 (leafM (by simp only [om_put, mj_put, ml, ml2, ↓reduceIte, isH_nI hi, cl24 hi, c_4, hh_8, c_11, c_22, c_34]))
          · skip
            refine lv_bipush (v := (-2)) hx hb dX2_put_25 (by decide) ?_
            exact e_i hx hb hr hlocks hw dX2_put_27 (leafM (by simp only [om_put, mj_put, ml, ml2, ↓reduceIte, isH_nI hi, cl24 hi, c_4, hh_8, c_11, c_22]))
        · skip
          exact absurd c_11 (by decide)

set_option maxHeartbeats 800000 in
set_option maxRecDepth 100000 in
theorem c_X2_take (l : Launch) (G : GT) (f : Nat → Option Nat) (wa : Nat → Nat) (S M : Tb) (hI : Inv M) (p1 : Int32) : Met l yX2_take wsX2_take (rk 1) (va_Pc [.ref (gm G), .int p1] (Wo G (f, wa, S, M))) (Qi G (fun r u => r = (om_take M p1).1 ∧ u = (f, wa, S, (om_take M p1).2))) 0 0 (gA G) := by
  refine m_head (cc := cX2_take) (maxL := 2) (ret := (some .int)) (by decide) rfl (Nat.le_of_ble_eq_true rfl) ?_
  intro p e s m below meth c hx hb hml hr hlocks hown hts hw ls hl
  have hown : s.vm.findClass RX2 = some m.cls := hown
  have hl : lv_has ls 2 [(0, .ref (gm G)), (1, .int p1)] := hl
  have hin2 : ∀ w ∈ wsX20, w ∈ wsX2_take := by decide +kernel
  have lk7 := hts (.fieldLink RX2 7 "LockerWallModel" "there" "[Z") (by decide +kernel)
  have lk20 := hts (.fieldLink RX2 20 "LockerWallModel" "open" "[Z") (by decide +kernel)
  have lk26 := hts (.fieldLink RX2 26 "LockerWallModel" "many" "[I") (by decide +kernel)
  refine lv_iload_n hx hb dX2_take_0 rfl (lv_at hl 1 rfl) ?_
  refine k_i hw (va_runS (As := [.int p1]) (rest := []) ⟨hx, hb, hml, hown, hts⟩ (c_X2_isHook l G f wa S M p1) (va_cwS 1 hts gX2_take_X2_isHook rfl rfl rfl (by decide +kernel) ⟨Nat.le_of_ble_eq_true rfl, Nat.le_of_ble_eq_true rfl⟩) (hw.preS _) rfl rfl hl.1 rfl (lv_room (Nat.le_of_ble_eq_true rfl)) dX2_take_1 ⟨Nat.le_of_ble_eq_true rfl, Nat.le_of_ble_eq_true rfl⟩) (fun r u H locs hR hw => ?_)
  obtain ⟨hq, rfl⟩ := hR
  obtain rfl := hq.symm
  cases hh_1 : isH p1
  · skip
    refine W.eq (g2 := F0 m 4 ls [.int 0]) rfl ?_
    refine lv_if_ne (tgt := 9) hx hb dX2_take_4 (by decide) (fun c_4 => ?_) (fun c_4 => ?_)
    · skip
      exact absurd c_4 (by decide)
    · skip
      refine lv_iconst (v := (-1)) hx hb dX2_take_7 (by decide) ?_
      exact e_i hx hb hr hlocks hw dX2_take_8 (leafM (by simp only [om_take, mj_take, ml, ml2, ↓reduceIte, hh_1, Bool.false_eq_true, c_4]))
  · skip
    refine W.eq (g2 := F0 m 4 ls [.int 1]) rfl ?_
    obtain ⟨i, hi, rfl⟩ := isH_of hh_1
    obtain ⟨n_i, h10_i, hn_i⟩ := hI i hi
    refine lv_if_ne (tgt := 9) hx hb dX2_take_4 (by decide) (fun c_4 => ?_) (fun c_4 => ?_)
    · skip
      refine lv_aload_n hx hb dX2_take_9 rfl (lv_at hl 0 rfl) ?_
      refine r_getM (v := .ref (gc G 0)) hx hb hts hin2 hown hw 0 (by decide) lk7 rfl dX2_take_10 ?_
      refine lv_iload_n hx hb dX2_take_13 rfl (lv_at hl 1 rfl) ?_
      refine r_mldZ hx hb hw 0 (by decide) (by decide) (i) (rfl) (show i < 24 by omega) dX2_take_14 ?_
      refine lv_if_ne (tgt := 21) hx hb dX2_take_15 (by decide) (fun c_15 => ?_) (fun c_15 => ?_)
      · skip
        refine lv_aload_n hx hb dX2_take_21 rfl (lv_at hl 0 rfl) ?_
        refine r_getM (v := .ref (gc G 3)) hx hb hts hin2 hown hw 3 (by decide) lk20 rfl dX2_take_22 ?_
        refine lv_iload_n hx hb dX2_take_25 rfl (lv_at hl 1 rfl) ?_
        refine r_mldZ hx hb hw 3 (by decide) (by decide) (i) (rfl) (show i < 24 by omega) dX2_take_26 ?_
        refine lv_if_ne (tgt := 39) hx hb dX2_take_27 (by decide) (fun c_27 => ?_) (fun c_27 => ?_)
        · skip
          refine lv_aload_n hx hb dX2_take_39 rfl (lv_at hl 0 rfl) ?_
          refine r_getM (v := .ref (gc G 5)) hx hb hts hin2 hown hw 5 (by decide) lk26 rfl dX2_take_40 ?_
          refine lv_iload_n hx hb dX2_take_43 rfl (lv_at hl 1 rfl) ?_
          refine r_mld hx hb hw 5 (by decide) (by decide) (i) (rfl) (show i < 24 by omega) dX2_take_44 ?_
          refine lv_if_ne (tgt := 57) hx hb dX2_take_45 (by decide) (fun c_45 => ?_) (fun c_45 => ?_)
          · skip
            obtain ⟨q_i, hq_i, hs_i⟩ := n_succ hn_i h10_i c_45
            refine lv_aload_n hx hb dX2_take_57 rfl (lv_at hl 0 rfl) ?_
            refine lv_iload_n hx hb dX2_take_58 rfl (lv_at hl 1 rfl) ?_
            refine lv_iconst (v := 1) hx hb dX2_take_59 (by decide) ?_
            refine lv_aload_n hx hb dX2_take_60 rfl (lv_at hl 0 rfl) ?_
            refine lv_iload_n hx hb dX2_take_61 rfl (lv_at hl 1 rfl) ?_
            refine k_i hw (va_runV (As := [.int (nI i)]) (rest := [.int 1, .int (nI i), .ref (gm G)]) ⟨hx, hb, hml, hown, hts⟩ (c_X2_takeLast l G f wa S M (i := i) (by omega) hs_i hq_i) (cwV 1 hts gX2_take_X2_takeLast rfl rfl rfl (by decide +kernel) ⟨Nat.le_of_ble_eq_true rfl, Nat.le_of_ble_eq_true rfl⟩) (hw.preM _) rfl rfl hl.1 rfl (lv_room (Nat.le_of_ble_eq_true rfl)) dX2_take_62 ⟨Nat.le_of_ble_eq_true rfl, Nat.le_of_ble_eq_true rfl⟩) (fun r u H locs hR hw => ?_)
            obtain ⟨hq, rfl⟩ := hR
            obtain rfl := hq.symm
            refine k_i hw (va_runV (As := [.int (nI i), .int 1, .int (rmV M i)]) (rest := []) ⟨hx, hb, hml, hown, hts⟩ (c_X2_let l G f wa S (rmS M i) (j := i) (by omega) 1 (rmV M i)) (cwV 3 hts gX2_take_X2_let rfl rfl rfl (by decide +kernel) ⟨Nat.le_of_ble_eq_true rfl, Nat.le_of_ble_eq_true rfl⟩) (hw.preM _) rfl rfl hl.1 rfl (lv_room (Nat.le_of_ble_eq_true rfl)) dX2_take_65 ⟨Nat.le_of_ble_eq_true rfl, Nat.le_of_ble_eq_true rfl⟩) (fun r u H locs hR hw => ?_)
            obtain ⟨hq, rfl⟩ := hR
            obtain rfl := hq.symm
            exact e_i hx hb hr hlocks hw dX2_take_68 (leafM (by simp only [om_take, mj_take, ml, ml2, ↓reduceIte, isH_nI hi, cl24 hi, c_4, c_15, c_27, c_45]))
          · skip
            refine lv_aload_n hx hb dX2_take_48 rfl (lv_at hl 0 rfl) ?_
            refine lv_iload_n hx hb dX2_take_49 rfl (lv_at hl 1 rfl) ?_
            refine lv_iconst (v := 4) hx hb dX2_take_50 (by decide) ?_
            refine lv_bipush (v := (-6)) hx hb dX2_take_51 (by decide) ?_
            refine k_i hw (va_runV (As := [.int (nI i), .int 4, .int (-6)]) (rest := []) ⟨hx, hb, hml, hown, hts⟩ (c_X2_let l G f wa S M (j := i) (by omega) 4 (-6)) (cwV 3 hts gX2_take_X2_let rfl rfl rfl (by decide +kernel) ⟨Nat.le_of_ble_eq_true rfl, Nat.le_of_ble_eq_true rfl⟩) (hw.preM _) rfl rfl hl.1 rfl (lv_room (Nat.le_of_ble_eq_true rfl)) dX2_take_53 ⟨Nat.le_of_ble_eq_true rfl, Nat.le_of_ble_eq_true rfl⟩) (fun r u H locs hR hw => ?_)
            obtain ⟨hq, rfl⟩ := hR
            obtain rfl := hq.symm
            exact e_i hx hb hr hlocks hw dX2_take_56 (leafM (by simp only [om_take, mj_take, ml, ml2, ↓reduceIte, isH_nI hi, cl24 hi, c_4, c_15, c_27, c_45]))
        · skip
          refine lv_aload_n hx hb dX2_take_30 rfl (lv_at hl 0 rfl) ?_
          refine lv_iload_n hx hb dX2_take_31 rfl (lv_at hl 1 rfl) ?_
          refine lv_iconst (v := 2) hx hb dX2_take_32 (by decide) ?_
          refine lv_bipush (v := (-3)) hx hb dX2_take_33 (by decide) ?_
          refine k_i hw (va_runV (As := [.int (nI i), .int 2, .int (-3)]) (rest := []) ⟨hx, hb, hml, hown, hts⟩ (c_X2_let l G f wa S M (j := i) (by omega) 2 (-3)) (cwV 3 hts gX2_take_X2_let rfl rfl rfl (by decide +kernel) ⟨Nat.le_of_ble_eq_true rfl, Nat.le_of_ble_eq_true rfl⟩) (hw.preM _) rfl rfl hl.1 rfl (lv_room (Nat.le_of_ble_eq_true rfl)) dX2_take_35 ⟨Nat.le_of_ble_eq_true rfl, Nat.le_of_ble_eq_true rfl⟩) (fun r u H locs hR hw => ?_)
          obtain ⟨hq, rfl⟩ := hR
          obtain rfl := hq.symm
          exact e_i hx hb hr hlocks hw dX2_take_38 (leafM (by simp only [om_take, mj_take, ml, ml2, ↓reduceIte, isH_nI hi, cl24 hi, c_4, c_15, c_27]))
      · skip
        refine lv_bipush (v := (-2)) hx hb dX2_take_18 (by decide) ?_
        exact e_i hx hb hr hlocks hw dX2_take_20 (leafM (by simp only [om_take, mj_take, ml, ml2, ↓reduceIte, isH_nI hi, cl24 hi, c_4, c_15]))
    · skip
      exact absurd c_4 (by decide)

set_option maxHeartbeats 800000 in
set_option maxRecDepth 100000 in
theorem c_X2_recode (l : Launch) (G : GT) (f : Nat → Option Nat) (wa : Nat → Nat) (S M : Tb) (p1 p2 : Int32) : Met l yX2_recode wsX2_recode (rk 1) (va_Pc [.ref (gm G), .int p1, .int p2] (Wo G (f, wa, S, M))) (Qi G (fun r u => r = (om_recode M p1 p2).1 ∧ u = (f, wa, S, (om_recode M p1 p2).2))) 0 0 (gA G) := by
  refine m_head (cc := cX2_recode) (maxL := 3) (ret := (some .int)) (by decide) rfl (Nat.le_of_ble_eq_true rfl) ?_
  intro p e s m below meth c hx hb hml hr hlocks hown hts hw ls hl
  have hown : s.vm.findClass RX2 = some m.cls := hown
  have hl : lv_has ls 3 [(0, .ref (gm G)), (1, .int p1), (2, .int p2)] := hl
  have hin2 : ∀ w ∈ wsX20, w ∈ wsX2_recode := by decide +kernel
  have lk7 := hts (.fieldLink RX2 7 "LockerWallModel" "there" "[Z") (by decide +kernel)
  have lk29 := hts (.fieldLink RX2 29 "LockerWallModel" "holds" "[I") (by decide +kernel)
  have lk32 := hts (.fieldLink RX2 32 "LockerWallModel" "left" "[I") (by decide +kernel)
  have lk20 := hts (.fieldLink RX2 20 "LockerWallModel" "open" "[Z") (by decide +kernel)
  have lk17 := hts (.fieldLink RX2 17 "LockerWallModel" "code" "[I") (by decide +kernel)
  refine lv_iload_n hx hb dX2_recode_0 rfl (lv_at hl 1 rfl) ?_
  refine k_i hw (va_runS (As := [.int p1]) (rest := []) ⟨hx, hb, hml, hown, hts⟩ (c_X2_isHook l G f wa S M p1) (va_cwS 1 hts gX2_recode_X2_isHook rfl rfl rfl (by decide +kernel) ⟨Nat.le_of_ble_eq_true rfl, Nat.le_of_ble_eq_true rfl⟩) (hw.preS _) rfl rfl hl.1 rfl (lv_room (Nat.le_of_ble_eq_true rfl)) dX2_recode_1 ⟨Nat.le_of_ble_eq_true rfl, Nat.le_of_ble_eq_true rfl⟩) (fun r u H locs hR hw => ?_)
  obtain ⟨hq, rfl⟩ := hR
  obtain rfl := hq.symm
  cases hh_1 : isH p1
  · skip
    refine W.eq (g2 := F0 m 4 ls [.int 0]) rfl ?_
    refine lv_if_ne (tgt := 9) hx hb dX2_recode_4 (by decide) (fun c_4 => ?_) (fun c_4 => ?_)
    · skip
      exact absurd c_4 (by decide)
    · skip
      refine lv_iconst (v := (-1)) hx hb dX2_recode_7 (by decide) ?_
      exact e_i hx hb hr hlocks hw dX2_recode_8 (leafM (by simp only [om_recode, mj_recode, ml, ml2, ↓reduceIte, hh_1, Bool.false_eq_true, c_4]))
  · skip
    refine W.eq (g2 := F0 m 4 ls [.int 1]) rfl ?_
    obtain ⟨i, hi, rfl⟩ := isH_of hh_1
    refine lv_if_ne (tgt := 9) hx hb dX2_recode_4 (by decide) (fun c_4 => ?_) (fun c_4 => ?_)
    · skip
      refine lv_aload_n hx hb dX2_recode_9 rfl (lv_at hl 0 rfl) ?_
      refine r_getM (v := .ref (gc G 0)) hx hb hts hin2 hown hw 0 (by decide) lk7 rfl dX2_recode_10 ?_
      refine lv_iload_n hx hb dX2_recode_13 rfl (lv_at hl 1 rfl) ?_
      refine r_mldZ hx hb hw 0 (by decide) (by decide) (i) (rfl) (show i < 24 by omega) dX2_recode_14 ?_
      refine lv_if_ne (tgt := 21) hx hb dX2_recode_15 (by decide) (fun c_15 => ?_) (fun c_15 => ?_)
      · skip
        refine lv_aload_n hx hb dX2_recode_21 rfl (lv_at hl 0 rfl) ?_
        refine r_getM (v := .ref (gc G 6)) hx hb hts hin2 hown hw 6 (by decide) lk29 rfl dX2_recode_22 ?_
        refine lv_iload_n hx hb dX2_recode_25 rfl (lv_at hl 1 rfl) ?_
        refine lv_dup2_11 hx hb dX2_recode_26 rfl rfl ?_
        refine r_mld hx hb hw 6 (by decide) (by decide) (i) (rfl) (show i < 24 by omega) dX2_recode_27 ?_
        refine lv_iconst (v := 3) hx hb dX2_recode_28 (by decide) ?_
        refine lv_iadd hx hb dX2_recode_29 ?_
        refine r_mst hx hb hw 6 (by decide) (by decide) (i) (rfl) (show i < 24 by omega) dX2_recode_30 (fun H locs hw => ?_)
        have hw : Wi G (f, wa, S, sU M 6 i ((M 6 i) + 3)) s H locs := hw
        refine lv_aload_n hx hb dX2_recode_31 rfl (lv_at hl 0 rfl) ?_
        refine r_getM (v := .ref (gc G 7)) hx hb hts hin2 hown hw 7 (by decide) lk32 rfl dX2_recode_32 ?_
        refine lv_iload_n hx hb dX2_recode_35 rfl (lv_at hl 1 rfl) ?_
        refine lv_aload_n hx hb dX2_recode_36 rfl (lv_at hl 0 rfl) ?_
        refine r_getM (v := .ref (gc G 3)) hx hb hts hin2 hown hw 3 (by decide) lk20 rfl dX2_recode_37 ?_
        refine lv_iload_n hx hb dX2_recode_40 rfl (lv_at hl 1 rfl) ?_
        refine r_mldZ hx hb hw 3 (by decide) (by decide) (i) (rfl) (show i < 24 by omega) dX2_recode_41 ?_
        refine W.eq (g2 := F0 m 42 ls [.int (M 3 i), .int (nI i), .ref (gc G 7)]) rfl ?_
        refine lv_if_eq (tgt := 49) hx hb dX2_recode_42 (by decide) (fun c_42 => ?_) (fun c_42 => ?_)
        · skip
          refine lv_iconst (v := 4) hx hb dX2_recode_49 (by decide) ?_
          refine r_mst hx hb hw 7 (by decide) (by decide) (i) (rfl) (show i < 24 by omega) dX2_recode_50 (fun H locs hw => ?_)
          have hw : Wi G (f, wa, S, sU (sU M 6 i ((M 6 i) + 3)) 7 i 4) s H locs := hw
          refine lv_aload_n hx hb dX2_recode_51 rfl (lv_at hl 0 rfl) ?_
          refine r_getM (v := .ref (gc G 3)) hx hb hts hin2 hown hw 3 (by decide) lk20 rfl dX2_recode_52 ?_
          refine lv_iload_n hx hb dX2_recode_55 rfl (lv_at hl 1 rfl) ?_
          refine r_mldZ hx hb hw 3 (by decide) (by decide) (i) (rfl) (show i < 24 by omega) dX2_recode_56 ?_
          refine W.eq (g2 := F0 m 57 ls [.int (M 3 i)]) rfl ?_
          refine lv_if_ne (tgt := 63) hx hb dX2_recode_57 (by decide) (fun c_57 => ?_) (fun c_57 => ?_)
          · skip
            exact absurd c_42 c_57
          · skip
            refine lv_bipush (v := (-7)) hx hb dX2_recode_60 (by decide) ?_
            exact e_i hx hb hr hlocks hw dX2_recode_62 (leafM (by simp only [om_recode, mj_recode, ml, ml2, ↓reduceIte, isH_nI hi, cl24 hi, c_4, c_15, c_42, c_57]))
        · skip
          refine lv_iconst (v := 2) hx hb dX2_recode_45 (by decide) ?_
          refine lv_goto (tgt := 50) hx hb dX2_recode_46 (by decide) ?_
          refine r_mst hx hb hw 7 (by decide) (by decide) (i) (rfl) (show i < 24 by omega) dX2_recode_50 (fun H locs hw => ?_)
          have hw : Wi G (f, wa, S, sU (sU M 6 i ((M 6 i) + 3)) 7 i 2) s H locs := hw
          refine lv_aload_n hx hb dX2_recode_51 rfl (lv_at hl 0 rfl) ?_
          refine r_getM (v := .ref (gc G 3)) hx hb hts hin2 hown hw 3 (by decide) lk20 rfl dX2_recode_52 ?_
          refine lv_iload_n hx hb dX2_recode_55 rfl (lv_at hl 1 rfl) ?_
          refine r_mldZ hx hb hw 3 (by decide) (by decide) (i) (rfl) (show i < 24 by omega) dX2_recode_56 ?_
          refine W.eq (g2 := F0 m 57 ls [.int (M 3 i)]) rfl ?_
          refine lv_if_ne (tgt := 63) hx hb dX2_recode_57 (by decide) (fun c_57 => ?_) (fun c_57 => ?_)
          · skip
            refine lv_aload_n hx hb dX2_recode_63 rfl (lv_at hl 0 rfl) ?_
            refine r_getM (v := .ref (gc G 2)) hx hb hts hin2 hown hw 2 (by decide) lk17 rfl dX2_recode_64 ?_
            refine lv_iload_n hx hb dX2_recode_67 rfl (lv_at hl 1 rfl) ?_
            refine lv_iload_n hx hb dX2_recode_68 rfl (lv_at hl 2 rfl) ?_
            refine r_mst hx hb hw 2 (by decide) (by decide) (i) (rfl) (show i < 24 by omega) dX2_recode_69 (fun H locs hw => ?_)
            have hw : Wi G (f, wa, S, sU (sU (sU M 6 i ((M 6 i) + 3)) 7 i 2) 2 i p2) s H locs := hw
            refine lv_iconst (v := 1) hx hb dX2_recode_70 (by decide) ?_
            exact e_i hx hb hr hlocks hw dX2_recode_71 (leafM (by simp only [om_recode, mj_recode, ml, ml2, ↓reduceIte, isH_nI hi, cl24 hi, c_4, c_15, c_42, c_57]))
          · skip
            exact absurd c_57 c_42
      · skip
        refine lv_bipush (v := (-2)) hx hb dX2_recode_18 (by decide) ?_
        exact e_i hx hb hr hlocks hw dX2_recode_20 (leafM (by simp only [om_recode, mj_recode, ml, ml2, ↓reduceIte, isH_nI hi, cl24 hi, c_4, c_15]))
    · skip
      exact absurd c_4 (by decide)

set_option maxHeartbeats 800000 in
set_option maxRecDepth 100000 in
theorem c_X2_item (l : Launch) (G : GT) (f : Nat → Option Nat) (wa : Nat → Nat) (S M : Tb) (hI : Inv M) (p1 p2 : Int32) : Met l yX2_item wsX2_item (rk 1) (va_Pc [.ref (gm G), .int p1, .int p2] (Wo G (f, wa, S, M))) (Qi G (fun r u => r = (om_item M p1 p2).1 ∧ u = (f, wa, S, (om_item M p1 p2).2))) 0 0 (gA G) := by
  refine m_head (cc := cX2_item) (maxL := 3) (ret := (some .int)) (by decide) rfl (Nat.le_of_ble_eq_true rfl) ?_
  intro p e s m below meth c hx hb hml hr hlocks hown hts hw ls hl
  have hown : s.vm.findClass RX2 = some m.cls := hown
  have hl : lv_has ls 3 [(0, .ref (gm G)), (1, .int p1), (2, .int p2)] := hl
  have hin2 : ∀ w ∈ wsX20, w ∈ wsX2_item := by decide +kernel
  have lk7 := hts (.fieldLink RX2 7 "LockerWallModel" "there" "[Z") (by decide +kernel)
  have lk26 := hts (.fieldLink RX2 26 "LockerWallModel" "many" "[I") (by decide +kernel)
  have lk35 := hts (.fieldLink RX2 35 "LockerWallModel" "item" "[I") (by decide +kernel)
  refine lv_iload_n hx hb dX2_item_0 rfl (lv_at hl 1 rfl) ?_
  refine k_i hw (va_runS (As := [.int p1]) (rest := []) ⟨hx, hb, hml, hown, hts⟩ (c_X2_isHook l G f wa S M p1) (va_cwS 1 hts gX2_item_X2_isHook rfl rfl rfl (by decide +kernel) ⟨Nat.le_of_ble_eq_true rfl, Nat.le_of_ble_eq_true rfl⟩) (hw.preS _) rfl rfl hl.1 rfl (lv_room (Nat.le_of_ble_eq_true rfl)) dX2_item_1 ⟨Nat.le_of_ble_eq_true rfl, Nat.le_of_ble_eq_true rfl⟩) (fun r u H locs hR hw => ?_)
  obtain ⟨hq, rfl⟩ := hR
  obtain rfl := hq.symm
  cases hh_1 : isH p1
  · skip
    refine W.eq (g2 := F0 m 4 ls [.int 0]) rfl ?_
    refine lv_if_ne (tgt := 9) hx hb dX2_item_4 (by decide) (fun c_4 => ?_) (fun c_4 => ?_)
    · skip
      exact absurd c_4 (by decide)
    · skip
      refine lv_iconst (v := (-1)) hx hb dX2_item_7 (by decide) ?_
      exact e_i hx hb hr hlocks hw dX2_item_8 (leafM (by simp only [om_item, wOf, ml, ml2, ↓reduceIte, hh_1, Bool.false_eq_true, c_4]))
  · skip
    refine W.eq (g2 := F0 m 4 ls [.int 1]) rfl ?_
    obtain ⟨i, hi, rfl⟩ := isH_of hh_1
    obtain ⟨n_i, h10_i, hn_i⟩ := hI i hi
    refine lv_if_ne (tgt := 9) hx hb dX2_item_4 (by decide) (fun c_4 => ?_) (fun c_4 => ?_)
    · skip
      refine lv_aload_n hx hb dX2_item_9 rfl (lv_at hl 0 rfl) ?_
      refine r_getM (v := .ref (gc G 0)) hx hb hts hin2 hown hw 0 (by decide) lk7 rfl dX2_item_10 ?_
      refine lv_iload_n hx hb dX2_item_13 rfl (lv_at hl 1 rfl) ?_
      refine r_mldZ hx hb hw 0 (by decide) (by decide) (i) (rfl) (show i < 24 by omega) dX2_item_14 ?_
      refine lv_if_ne (tgt := 21) hx hb dX2_item_15 (by decide) (fun c_15 => ?_) (fun c_15 => ?_)
      · skip
        refine lv_iload_n hx hb dX2_item_21 rfl (lv_at hl 2 rfl) ?_
        refine lv_if_lt (tgt := 49) hx hb dX2_item_22 (by decide) (fun c_22 => ?_) (fun c_22 => ?_)
        · skip
          refine lv_bipush (v := (-8)) hx hb dX2_item_49 (by decide) ?_
          exact e_i hx hb hr hlocks hw dX2_item_51 (leafM (by simp only [om_item, wOf, ml, ml2, ↓reduceIte, isH_nI hi, cl24 hi, c_4, c_15, c_22]))
        · skip
          refine lv_iload_n hx hb dX2_item_25 rfl (lv_at hl 2 rfl) ?_
          refine lv_aload_n hx hb dX2_item_26 rfl (lv_at hl 0 rfl) ?_
          refine r_getM (v := .ref (gc G 5)) hx hb hts hin2 hown hw 5 (by decide) lk26 rfl dX2_item_27 ?_
          refine lv_iload_n hx hb dX2_item_30 rfl (lv_at hl 1 rfl) ?_
          refine r_mld hx hb hw 5 (by decide) (by decide) (i) (rfl) (show i < 24 by omega) dX2_item_31 ?_
          refine lv_icmp_ge (tgt := 49) hx hb dX2_item_32 (by decide) (fun c_32 => ?_) (fun c_32 => ?_)
          · skip
            refine lv_bipush (v := (-8)) hx hb dX2_item_49 (by decide) ?_
            exact e_i hx hb hr hlocks hw dX2_item_51 (leafM (by simp only [om_item, wOf, ml, ml2, ↓reduceIte, isH_nI hi, cl24 hi, c_4, c_15, c_22, c_32]))
          · skip
            obtain ⟨q, hq, rfl⟩ : ∃ q : Nat, q < n_i ∧ p2 = nI q := by
              rcases pk_ix p2 (n := n_i) (by omega) with h | h | h
              · exact absurd h c_22
              · exact absurd (by rw [hn_i]; exact h) c_32
              · exact h
            have clq : (nI q).toNatClampNeg = q := nI_clamp (by omega)
            refine lv_aload_n hx hb dX2_item_35 rfl (lv_at hl 0 rfl) ?_
            refine r_getM (v := .ref (gc G 8)) hx hb hts hin2 hown hw 8 (by decide) lk35 rfl dX2_item_36 ?_
            refine lv_bipush (v := 10) hx hb dX2_item_39 (by decide) ?_
            refine lv_iload_n hx hb dX2_item_41 rfl (lv_at hl 1 rfl) ?_
            refine lv_imul hx hb dX2_item_42 ?_
            refine lv_iload_n hx hb dX2_item_43 rfl (lv_at hl 2 rfl) ?_
            refine lv_iadd hx hb dX2_item_44 ?_
            refine r_mld hx hb hw 8 (by decide) (by decide) (10 * i + q) (ix10 _ _) (show 10 * i + q < 240 by omega) dX2_item_45 ?_
            refine lv_goto (tgt := 51) hx hb dX2_item_46 (by decide) ?_
            exact e_i hx hb hr hlocks hw dX2_item_51 (leafM (by simp only [om_item, wOf, ml, ml2, ↓reduceIte, isH_nI hi, cl24 hi, c_4, c_15, c_22, c_32, clq]))
      · skip
        refine lv_bipush (v := (-2)) hx hb dX2_item_18 (by decide) ?_
        exact e_i hx hb hr hlocks hw dX2_item_20 (leafM (by simp only [om_item, wOf, ml, ml2, ↓reduceIte, isH_nI hi, cl24 hi, c_4, c_15]))
    · skip
      exact absurd c_4 (by decide)

set_option maxHeartbeats 800000 in
set_option maxRecDepth 100000 in
theorem c_X2_latch (l : Launch) (G : GT) (f : Nat → Option Nat) (wa : Nat → Nat) (S M : Tb)  : Met l yX2_latch wsX2_latch (rk 0) (va_Pc [.ref (gm G)] (Wo G (f, wa, S, M))) (Qi G (fun r u => r = ((M 9 0, M)).1 ∧ u = (f, wa, S, ((M 9 0, M)).2))) 0 0 (gA G) := by
  refine m_head (cc := cX2_latch) (maxL := 1) (ret := (some .int)) (by decide) rfl (Nat.le_of_ble_eq_true rfl) ?_
  intro p e s m below meth c hx hb hml hr hlocks hown hts hw ls hl
  have hown : s.vm.findClass RX2 = some m.cls := hown
  have hl : lv_has ls 1 [(0, .ref (gm G))] := hl
  have hin2 : ∀ w ∈ wsX20, w ∈ wsX2_latch := by decide +kernel
  have lk49 := hts (.fieldLink RX2 49 "LockerWallModel" "latched" "I") (by decide +kernel)
  refine lv_aload_n hx hb dX2_latch_0 rfl (lv_at hl 0 rfl) ?_
  refine r_getM (v := .int (M 9 0)) hx hb hts hin2 hown hw 9 (by decide) lk49 rfl dX2_latch_1 ?_
  exact e_i hx hb hr hlocks hw dX2_latch_4 ⟨rfl, rfl⟩
