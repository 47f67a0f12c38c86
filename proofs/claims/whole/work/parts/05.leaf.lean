set_option maxHeartbeats 4000000 in
set_option maxRecDepth 100000 in
theorem c_X1_isHook (l : Launch) (G : GT) (f : Nat → Option Nat) (wa : Nat → Nat) (S M : Tb) (p1 : Int32) : Met l yX1_isHook wsX1_isHook (rk 0) (va_Pc [.int p1] (Wo G (f, wa, S, M))) (Qi G (fun r u => r = b2i (isH p1) ∧ u = (f, wa, S, M))) 0 0 (gA G) := by
  refine m_head (cc := cX1_isHook) (maxL := 1) (ret := (some .boolean)) (by decide) rfl (Nat.le_of_ble_eq_true rfl) ?_
  intro p e s m below meth c hx hb hml hr hlocks hown hts hw ls hl
  have hown : s.vm.findClass RX1 = some m.cls := hown
  have hl : lv_has ls 1 [(0, .int p1)] := hl
  refine lv_iload_n hx hb dX1_isHook_0 rfl (lv_at hl 0 rfl) ?_
  refine lv_if_lt (tgt := 14) hx hb dX1_isHook_1 (by decide) (fun c_1 => ?_) (fun c_1 => ?_)
  · skip
    refine lv_iconst (v := 0) hx hb dX1_isHook_14 (by decide) ?_
    exact e_z hx hb hr hlocks hw rfl dX1_isHook_15 ⟨by simp [isH, b2i, *], rfl⟩
  · skip
    refine lv_iload_n hx hb dX1_isHook_4 rfl (lv_at hl 0 rfl) ?_
    refine lv_bipush (v := 24) hx hb dX1_isHook_5 (by decide) ?_
    refine lv_icmp_ge (tgt := 14) hx hb dX1_isHook_7 (by decide) (fun c_7 => ?_) (fun c_7 => ?_)
    · skip
      refine lv_iconst (v := 0) hx hb dX1_isHook_14 (by decide) ?_
      exact e_z hx hb hr hlocks hw rfl dX1_isHook_15 ⟨by simp [isH, b2i, *], rfl⟩
    · skip
      refine lv_iconst (v := 1) hx hb dX1_isHook_10 (by decide) ?_
      refine lv_goto (tgt := 15) hx hb dX1_isHook_11 (by decide) ?_
      exact e_z hx hb hr hlocks hw rfl dX1_isHook_15 ⟨by simp [isH, b2i, *], rfl⟩

set_option maxHeartbeats 4000000 in
set_option maxRecDepth 100000 in
theorem c_X1_isWeight (l : Launch) (G : GT) (f : Nat → Option Nat) (wa : Nat → Nat) (S M : Tb) (p1 : Int32) : Met l yX1_isWeight wsX1_isWeight (rk 0) (va_Pc [.int p1] (Wo G (f, wa, S, M))) (Qi G (fun r u => r = b2i (isWt p1) ∧ u = (f, wa, S, M))) 0 0 (gA G) := by
  refine m_head (cc := cX1_isWeight) (maxL := 1) (ret := (some .boolean)) (by decide) rfl (Nat.le_of_ble_eq_true rfl) ?_
  intro p e s m below meth c hx hb hml hr hlocks hown hts hw ls hl
  have hown : s.vm.findClass RX1 = some m.cls := hown
  have hl : lv_has ls 1 [(0, .int p1)] := hl
  refine lv_iload_n hx hb dX1_isWeight_0 rfl (lv_at hl 0 rfl) ?_
  refine lv_iconst (v := 1) hx hb dX1_isWeight_1 (by decide) ?_
  refine lv_icmp_lt (tgt := 16) hx hb dX1_isWeight_2 (by decide) (fun c_2 => ?_) (fun c_2 => ?_)
  · skip
    refine lv_iconst (v := 0) hx hb dX1_isWeight_16 (by decide) ?_
    exact e_z hx hb hr hlocks hw rfl dX1_isWeight_17 ⟨by simp [isWt, b2i, *], rfl⟩
  · skip
    refine lv_iload_n hx hb dX1_isWeight_5 rfl (lv_at hl 0 rfl) ?_
    refine lv_sipush (v := 1000) hx hb dX1_isWeight_6 (by decide) ?_
    refine lv_icmp_gt (tgt := 16) hx hb dX1_isWeight_9 (by decide) (fun c_9 => ?_) (fun c_9 => ?_)
    · skip
      refine lv_iconst (v := 0) hx hb dX1_isWeight_16 (by decide) ?_
      exact e_z hx hb hr hlocks hw rfl dX1_isWeight_17 ⟨by simp [isWt, b2i, *], rfl⟩
    · skip
      refine lv_iconst (v := 1) hx hb dX1_isWeight_12 (by decide) ?_
      refine lv_goto (tgt := 17) hx hb dX1_isWeight_13 (by decide) ?_
      exact e_z hx hb hr hlocks hw rfl dX1_isWeight_17 ⟨by simp [isWt, b2i, *], rfl⟩

set_option maxHeartbeats 4000000 in
set_option maxRecDepth 100000 in
theorem c_X2_isHook (l : Launch) (G : GT) (f : Nat → Option Nat) (wa : Nat → Nat) (S M : Tb) (p1 : Int32) : Met l yX2_isHook wsX2_isHook (rk 0) (va_Pc [.int p1] (Wo G (f, wa, S, M))) (Qi G (fun r u => r = b2i (isH p1) ∧ u = (f, wa, S, M))) 0 0 (gA G) := by
  refine m_head (cc := cX2_isHook) (maxL := 1) (ret := (some .boolean)) (by decide) rfl (Nat.le_of_ble_eq_true rfl) ?_
  intro p e s m below meth c hx hb hml hr hlocks hown hts hw ls hl
  have hown : s.vm.findClass RX2 = some m.cls := hown
  have hl : lv_has ls 1 [(0, .int p1)] := hl
  refine lv_iload_n hx hb dX2_isHook_0 rfl (lv_at hl 0 rfl) ?_
  refine lv_if_lt (tgt := 14) hx hb dX2_isHook_1 (by decide) (fun c_1 => ?_) (fun c_1 => ?_)
  · skip
    refine lv_iconst (v := 0) hx hb dX2_isHook_14 (by decide) ?_
    exact e_z hx hb hr hlocks hw rfl dX2_isHook_15 ⟨by simp [isH, b2i, *], rfl⟩
  · skip
    refine lv_iload_n hx hb dX2_isHook_4 rfl (lv_at hl 0 rfl) ?_
    refine lv_bipush (v := 24) hx hb dX2_isHook_5 (by decide) ?_
    refine lv_icmp_ge (tgt := 14) hx hb dX2_isHook_7 (by decide) (fun c_7 => ?_) (fun c_7 => ?_)
    · skip
      refine lv_iconst (v := 0) hx hb dX2_isHook_14 (by decide) ?_
      exact e_z hx hb hr hlocks hw rfl dX2_isHook_15 ⟨by simp [isH, b2i, *], rfl⟩
    · skip
      refine lv_iconst (v := 1) hx hb dX2_isHook_10 (by decide) ?_
      refine lv_goto (tgt := 15) hx hb dX2_isHook_11 (by decide) ?_
      exact e_z hx hb hr hlocks hw rfl dX2_isHook_15 ⟨by simp [isH, b2i, *], rfl⟩

set_option maxHeartbeats 4000000 in
set_option maxRecDepth 100000 in
theorem c_X2_isWeight (l : Launch) (G : GT) (f : Nat → Option Nat) (wa : Nat → Nat) (S M : Tb) (p1 : Int32) : Met l yX2_isWeight wsX2_isWeight (rk 0) (va_Pc [.int p1] (Wo G (f, wa, S, M))) (Qi G (fun r u => r = b2i (isWt p1) ∧ u = (f, wa, S, M))) 0 0 (gA G) := by
  refine m_head (cc := cX2_isWeight) (maxL := 1) (ret := (some .boolean)) (by decide) rfl (Nat.le_of_ble_eq_true rfl) ?_
  intro p e s m below meth c hx hb hml hr hlocks hown hts hw ls hl
  have hown : s.vm.findClass RX2 = some m.cls := hown
  have hl : lv_has ls 1 [(0, .int p1)] := hl
  refine lv_iload_n hx hb dX2_isWeight_0 rfl (lv_at hl 0 rfl) ?_
  refine lv_iconst (v := 1) hx hb dX2_isWeight_1 (by decide) ?_
  refine lv_icmp_lt (tgt := 16) hx hb dX2_isWeight_2 (by decide) (fun c_2 => ?_) (fun c_2 => ?_)
  · skip
    refine lv_iconst (v := 0) hx hb dX2_isWeight_16 (by decide) ?_
    exact e_z hx hb hr hlocks hw rfl dX2_isWeight_17 ⟨by simp [isWt, b2i, *], rfl⟩
  · skip
    refine lv_iload_n hx hb dX2_isWeight_5 rfl (lv_at hl 0 rfl) ?_
    refine lv_sipush (v := 1000) hx hb dX2_isWeight_6 (by decide) ?_
    refine lv_icmp_gt (tgt := 16) hx hb dX2_isWeight_9 (by decide) (fun c_9 => ?_) (fun c_9 => ?_)
    · skip
      refine lv_iconst (v := 0) hx hb dX2_isWeight_16 (by decide) ?_
      exact e_z hx hb hr hlocks hw rfl dX2_isWeight_17 ⟨by simp [isWt, b2i, *], rfl⟩
    · skip
      refine lv_iconst (v := 1) hx hb dX2_isWeight_12 (by decide) ?_
      refine lv_goto (tgt := 17) hx hb dX2_isWeight_13 (by decide) ?_
      exact e_z hx hb hr hlocks hw rfl dX2_isWeight_17 ⟨by simp [isWt, b2i, *], rfl⟩

set_option maxHeartbeats 4000000 in
set_option maxRecDepth 100000 in
theorem c_X0_letGo (l : Launch) (G : GT) (f : Nat → Option Nat) (wa : Nat → Nat) (S M : Tb) {i a : Nat} (hi : i < 25) (hf : f i = some a) (p1 p2 : Int32) : Met l yX0_letGo wsX0_letGo (rk 0) (va_Pc [.ref a, .int p1, .int p2] (Wo G (f, wa, S, M))) (Qi G (fun r u => r = p2 ∧ u = (f, wa, sU S 7 i p1, M))) 0 0 (gA G) := by
  refine m_head (cc := cX0_letGo) (maxL := 3) (ret := (some .int)) (by decide) rfl (Nat.le_of_ble_eq_true rfl) ?_
  intro p e s m below meth c hx hb hml hr hlocks hown hts hw ls hl
  have hown : s.vm.findClass RX0 = some m.cls := hown
  have hl : lv_has ls 3 [(0, .ref a), (1, .int p1), (2, .int p2)] := hl
  have hin0 : ∀ w ∈ wsX00, w ∈ wsX0_letGo := by decide +kernel
  have lk22 := hts (.fieldLink RX0 22 "LockerWall$Locker" "left" "I") (by decide +kernel)
  refine lv_aload_n hx hb dX0_letGo_0 rfl (lv_at hl 0 rfl) ?_
  refine lv_iload_n hx hb dX0_letGo_1 rfl (lv_at hl 1 rfl) ?_
  refine r_put0 hx hb hts hin0 hown hw hi hf 7 7 (by decide) lk22 rfl rfl dX0_letGo_2 (fun H locs hw => ?_)
  have hw : Wi G (f, wa, sU S 7 i p1, M) s H locs := hw
  refine lv_iload_n hx hb dX0_letGo_5 rfl (lv_at hl 2 rfl) ?_
  exact e_i hx hb hr hlocks hw dX0_letGo_6 ⟨rfl, rfl⟩

set_option maxHeartbeats 4000000 in
set_option maxRecDepth 100000 in
theorem c_X0_weight (l : Launch) (G : GT) (f : Nat → Option Nat) (wa : Nat → Nat) (S M : Tb) {i a : Nat} (hi : i < 25) (hf : f i = some a) {n : Nat} (hn : S 5 i = nI n) (h10 : n ≤ 10) : Met l yX0_weight wsX0_weight (rk 0) (va_Pc [.ref a] (Wo G (f, wa, S, M))) (Qi G (fun r u => r = wt S i ∧ u = (f, wa, S, M))) 0 0 (gA G) := by
  refine m_head (cc := cX0_weight) (maxL := 3) (ret := (some .int)) (by decide) rfl (Nat.le_of_ble_eq_true rfl) ?_
  intro p e s m below meth c hx hb hml hr hlocks hown hts hw ls hl
  have hown : s.vm.findClass RX0 = some m.cls := hown
  have hl : lv_has ls 3 [(0, .ref a)] := hl
  have hin0 : ∀ w ∈ wsX00, w ∈ wsX0_weight := by decide +kernel
  have lk25 := hts (.fieldLink RX0 25 "LockerWall$Locker" "count" "I") (by decide +kernel)
  have lk18 := hts (.fieldLink RX0 18 "LockerWall$Locker" "weights" "[I") (by decide +kernel)
  have loop : ∀ (d k : Nat) (H : Heap) (locs : List Loc) (ls : Array Slot), k + d = n → Wi G (f, wa, S, M) s H locs → lv_has ls 3 [(2, .int (nI k)), (1, .int (l_sum (fun k => S 8 (10 * i + k)) k)), (0, .ref a)] → W p l e (headSpec wsX0_weight (rk 0)).room s m [.ref a].toArray below meth c H locs 0 0 (MQ below (Qi G (fun r u => r = wt S i ∧ u = (f, wa, S, M))) [.ref a].toArray s 0 0 (gA G)) (F0 m 4 ls []) := by
    intro d
    induction d with
    | zero =>
      intro k H locs ls hk hw hl
      refine lv_iload_n hx hb dX0_weight_4 rfl (lv_at hl 0 rfl) ?_
      refine lv_aload_n hx hb dX0_weight_5 rfl (lv_at hl 2 rfl) ?_
      refine r_get0 (v := .int (S 5 i)) hx hb hts hin0 hown hw hi hf 5 (by decide) lk25 rfl dX0_weight_6 ?_
      refine lv_icmp_ge (tgt := 27) hx hb dX0_weight_9 (by decide) (fun c_9 => ?_) (fun c_9 => ?_)
      · skip
        refine lv_iload_n hx hb dX0_weight_27 rfl (lv_at hl 1 rfl) ?_
        exact e_i hx hb hr hlocks hw dX0_weight_28 ⟨by rw [wt_n hn h10, show n = k by omega], rfl⟩
      · skip
        exact absurd (by rw [hn]; exact nI_le (by omega) (by omega)) c_9
    | succ d ih =>
      intro k H locs ls hk hw hl
      refine lv_iload_n hx hb dX0_weight_4 rfl (lv_at hl 0 rfl) ?_
      refine lv_aload_n hx hb dX0_weight_5 rfl (lv_at hl 2 rfl) ?_
      refine r_get0 (v := .int (S 5 i)) hx hb hts hin0 hown hw hi hf 5 (by decide) lk25 rfl dX0_weight_6 ?_
      refine lv_icmp_ge (tgt := 27) hx hb dX0_weight_9 (by decide) (fun c_9 => ?_) (fun c_9 => ?_)
      · skip
        exact absurd c_9 (by rw [hn]; exact nI_ge (show k < n by omega) (by omega))
      · skip
        refine lv_iload_n hx hb dX0_weight_12 rfl (lv_at hl 1 rfl) ?_
        refine lv_aload_n hx hb dX0_weight_13 rfl (lv_at hl 2 rfl) ?_
        refine r_get0 (v := .ref (wa i)) hx hb hts hin0 hown hw hi hf 4 (by decide) lk18 rfl dX0_weight_14 ?_
        refine lv_iload_n hx hb dX0_weight_17 rfl (lv_at hl 0 rfl) ?_
        refine r_wld hx hb hw hi hf (k) (rfl) (show k < 10 by omega) dX0_weight_18 ?_
        refine lv_iadd hx hb dX0_weight_19 ?_
        refine lv_istore_n (lv' := [(1, .int ((l_sum (fun k => S 8 (10 * i + k)) k) + (S 8 (10 * i + k)))), (2, .int (nI k)), (0, .ref a)]) hx hb dX0_weight_20 rfl hl (by decide) rfl (fun ls hl => ?_)
        refine lv_iinc (v := nI (k + 1)) (lv' := [(2, .int (nI (k + 1))), (1, .int ((l_sum (fun k => S 8 (10 * i + k)) k) + (S 8 (10 * i + k)))), (0, .ref a)]) hx hb dX0_weight_21 hl (k := 1) rfl (nI_1 _) (by decide) rfl (fun ls hl => ?_)
        refine lv_goto (tgt := 4) hx hb dX0_weight_24 (by decide) ?_
        exact ih (k + 1) H locs ls (by omega) hw (lv_sub hl [0, 1, 2] rfl)
  refine lv_iconst (v := 0) hx hb dX0_weight_0 (by decide) ?_
  refine lv_istore_n (lv' := [(1, .int 0), (0, .ref a)]) hx hb dX0_weight_1 rfl hl (by decide) rfl (fun ls hl => ?_)
  refine lv_iconst (v := 0) hx hb dX0_weight_2 (by decide) ?_
  refine lv_istore_n (lv' := [(2, .int 0), (1, .int 0), (0, .ref a)]) hx hb dX0_weight_3 rfl hl (by decide) rfl (fun ls hl => ?_)
  exact loop n 0 _ _ _ (by omega) hw (lv_sub hl [0, 1, 2] rfl)

set_option maxHeartbeats 4000000 in
set_option maxRecDepth 100000 in
theorem c_X0_accept (l : Launch) (G : GT) (f : Nat → Option Nat) (wa : Nat → Nat) (S M : Tb) {i a : Nat} (hi : i < 25) (hf : f i = some a) {n : Nat} (hn : S 5 i = nI n) (h10 : n ≤ 10) (p1 : Int32) : Met l yX0_accept wsX0_accept (rk 1) (va_Pc [.ref a, .int p1] (Wo G (f, wa, S, M))) (Qi G (fun r u => r = b2i (okA S i p1) ∧ u = (f, wa, if okA S i p1 = true then acS S i p1 else S, M))) 0 0 (gA G) := by
  refine m_head (cc := cX0_accept) (maxL := 2) (ret := (some .boolean)) (by decide) rfl (Nat.le_of_ble_eq_true rfl) ?_
  intro p e s m below meth c hx hb hml hr hlocks hown hts hw ls hl
  have hown : s.vm.findClass RX0 = some m.cls := hown
  have hl : lv_has ls 2 [(0, .ref a), (1, .int p1)] := hl
  have hin0 : ∀ w ∈ wsX00, w ∈ wsX0_accept := by decide +kernel
  have lk25 := hts (.fieldLink RX0 25 "LockerWall$Locker" "count" "I") (by decide +kernel)
  have lk9 := hts (.fieldLink RX0 9 "LockerWall$Locker" "room" "I") (by decide +kernel)
  have lk18 := hts (.fieldLink RX0 18 "LockerWall$Locker" "weights" "[I") (by decide +kernel)
  refine lv_aload_n hx hb dX0_accept_0 rfl (lv_at hl 0 rfl) ?_
  refine r_get0 (v := .int (S 5 i)) hx hb hts hin0 hown hw hi hf 5 (by decide) lk25 rfl dX0_accept_1 ?_
  refine lv_bipush (v := 10) hx hb dX0_accept_4 (by decide) ?_
  refine lv_icmp_ge (tgt := 22) hx hb dX0_accept_6 (by decide) (fun c_6 => ?_) (fun c_6 => ?_)
  · skip
    refine lv_iconst (v := 0) hx hb dX0_accept_22 (by decide) ?_
    exact e_z hx hb hr hlocks hw rfl dX0_accept_23 ⟨by simp [b2i, okA, c_6], by simp [okA, c_6]⟩
  · skip
    refine lv_aload_n hx hb dX0_accept_9 rfl (lv_at hl 0 rfl) ?_
    refine k_i hw (va_runV (As := []) (rest := []) ⟨hx, hb, hml, hown, hts⟩ (c_X0_weight l G f wa S M hi hf hn h10) (cwV 0 hts gX0_accept_X0_weight rfl rfl rfl (by decide +kernel) ⟨Nat.le_of_ble_eq_true rfl, Nat.le_of_ble_eq_true rfl⟩) (hw.preL hi hf _) rfl rfl hl.1 rfl (lv_room (Nat.le_of_ble_eq_true rfl)) dX0_accept_10 ⟨Nat.le_of_ble_eq_true rfl, Nat.le_of_ble_eq_true rfl⟩) (fun r u H locs hR hw => ?_)
    obtain ⟨hq, rfl⟩ := hR
    obtain rfl := hq.symm
    refine lv_iload_n hx hb dX0_accept_13 rfl (lv_at hl 1 rfl) ?_
    refine lv_iadd hx hb dX0_accept_14 ?_
    refine lv_aload_n hx hb dX0_accept_15 rfl (lv_at hl 0 rfl) ?_
    refine r_get0 (v := .int (S 1 i)) hx hb hts hin0 hown hw hi hf 0 (by decide) lk9 rfl dX0_accept_16 ?_
    refine lv_icmp_le (tgt := 24) hx hb dX0_accept_19 (by decide) (fun c_19 => ?_) (fun c_19 => ?_)
    · skip
      have hlt : n < 10 := by
        rcases Nat.lt_or_ge n 10 with q | q
        · exact q
        · exact absurd (by rw [hn]; exact nI_le (a := 10) q (by omega)) c_6
      refine lv_aload_n hx hb dX0_accept_24 rfl (lv_at hl 0 rfl) ?_
      refine r_get0 (v := .ref (wa i)) hx hb hts hin0 hown hw hi hf 4 (by decide) lk18 rfl dX0_accept_25 ?_
      refine lv_aload_n hx hb dX0_accept_28 rfl (lv_at hl 0 rfl) ?_
      refine r_get0 (v := .int (S 5 i)) hx hb hts hin0 hown hw hi hf 5 (by decide) lk25 rfl dX0_accept_29 ?_
      refine lv_iload_n hx hb dX0_accept_32 rfl (lv_at hl 1 rfl) ?_
      refine r_wst hx hb hw hi hf (n) (hn) (show n < 10 by omega) dX0_accept_33 (fun H locs hw => ?_)
      have hw : Wi G (f, wa, sU S 8 (10 * i + n) p1, M) s H locs := hw
      refine lv_aload_n hx hb dX0_accept_34 rfl (lv_at hl 0 rfl) ?_
      refine lv_dup hx hb dX0_accept_35 rfl ?_
      refine r_get0 (v := .int (S 5 i)) hx hb hts hin0 hown hw hi hf 5 (by decide) lk25 rfl dX0_accept_36 ?_
      refine lv_iconst (v := 1) hx hb dX0_accept_39 (by decide) ?_
      refine lv_iadd hx hb dX0_accept_40 ?_
      refine r_put0 hx hb hts hin0 hown hw hi hf 5 5 (by decide) lk25 rfl rfl dX0_accept_41 (fun H locs hw => ?_)
      have hw : Wi G (f, wa, sU (sU S 8 (10 * i + n) p1) 5 i ((S 5 i) + 1), M) s H locs := hw
      refine lv_iconst (v := 1) hx hb dX0_accept_44 (by decide) ?_
      have hk : okA S i p1 = true := by simp [okA, c_6, c_19]
      exact e_z hx hb hr hlocks hw rfl dX0_accept_45 ⟨by rw [hk]; rfl, by rw [if_pos hk, acS, hn, nI_clamp (by omega), ← hn]⟩
    · skip
      refine lv_iconst (v := 0) hx hb dX0_accept_22 (by decide) ?_
      exact e_z hx hb hr hlocks hw rfl dX0_accept_23 ⟨by simp [b2i, okA, c_6, c_19], by simp [okA, c_6, c_19]⟩

set_option maxHeartbeats 4000000 in
set_option maxRecDepth 100000 in
theorem c_X0_removeLast (l : Launch) (G : GT) (f : Nat → Option Nat) (wa : Nat → Nat) (S M : Tb) {i a : Nat} (hi : i < 25) (hf : f i = some a) {n : Nat} (hn : S 5 i = nI (n + 1)) (h10 : n < 10) : Met l yX0_removeLast wsX0_removeLast (rk 0) (va_Pc [.ref a] (Wo G (f, wa, S, M))) (Qi G (fun r u => r = rmV S i ∧ u = (f, wa, rmS S i, M))) 0 0 (gA G) := by
  refine m_head (cc := cX0_removeLast) (maxL := 1) (ret := (some .int)) (by decide) rfl (Nat.le_of_ble_eq_true rfl) ?_
  intro p e s m below meth c hx hb hml hr hlocks hown hts hw ls hl
  have hown : s.vm.findClass RX0 = some m.cls := hown
  have hl : lv_has ls 1 [(0, .ref a)] := hl
  have hin0 : ∀ w ∈ wsX00, w ∈ wsX0_removeLast := by decide +kernel
  have lk25 := hts (.fieldLink RX0 25 "LockerWall$Locker" "count" "I") (by decide +kernel)
  have lk18 := hts (.fieldLink RX0 18 "LockerWall$Locker" "weights" "[I") (by decide +kernel)
  refine lv_aload_n hx hb dX0_removeLast_0 rfl (lv_at hl 0 rfl) ?_
  refine r_get0 (v := .int (S 5 i)) hx hb hts hin0 hown hw hi hf 5 (by decide) lk25 rfl dX0_removeLast_1 ?_
  refine lv_if_gt (tgt := 9) hx hb dX0_removeLast_4 (by decide) (fun c_4 => ?_) (fun c_4 => ?_)
  · skip
    refine lv_aload_n hx hb dX0_removeLast_9 rfl (lv_at hl 0 rfl) ?_
    refine lv_dup hx hb dX0_removeLast_10 rfl ?_
    refine r_get0 (v := .int (S 5 i)) hx hb hts hin0 hown hw hi hf 5 (by decide) lk25 rfl dX0_removeLast_11 ?_
    refine lv_iconst (v := 1) hx hb dX0_removeLast_14 (by decide) ?_
    refine lv_isub hx hb dX0_removeLast_15 ?_
    refine r_put0 hx hb hts hin0 hown hw hi hf 5 5 (by decide) lk25 rfl rfl dX0_removeLast_16 (fun H locs hw => ?_)
    have hw : Wi G (f, wa, sU S 5 i ((S 5 i) - 1), M) s H locs := hw
    refine lv_aload_n hx hb dX0_removeLast_19 rfl (lv_at hl 0 rfl) ?_
    refine r_get0 (v := .ref (wa i)) hx hb hts hin0 hown hw hi hf 4 (by decide) lk18 rfl dX0_removeLast_20 ?_
    refine lv_aload_n hx hb dX0_removeLast_23 rfl (lv_at hl 0 rfl) ?_
    refine r_get0 (v := .int ((S 5 i) - 1)) hx hb hts hin0 hown hw hi hf 5 (by decide) lk25 (by simp [sU]) dX0_removeLast_24 ?_
    refine r_wld hx hb hw hi hf (n) ((by rw [hn]; exact nI_pred n)) (show n < 10 by omega) dX0_removeLast_27 ?_
    refine W.eq (g2 := F0 m 28 ls [.int (S 8 (10 * i + n))]) rfl ?_
    exact e_i hx hb hr hlocks hw dX0_removeLast_28 ⟨by simp [rmV, hn, nI_pred, nI_clamp (show n < 2 ^ 31 by omega)], rfl⟩
  · skip
    exact absurd (by rw [hn, ← nI_0]; exact nI_lt (by omega) (by omega)) c_4

set_option maxHeartbeats 4000000 in
set_option maxRecDepth 100000 in
theorem c_X0_contains (l : Launch) (G : GT) (f : Nat → Option Nat) (wa : Nat → Nat) (S M : Tb) {i a : Nat} (hi : i < 25) (hf : f i = some a) {n : Nat} (hn : S 5 i = nI n) (h10 : n ≤ 10) (p1 : Int32) : Met l yX0_contains wsX0_contains (rk 0) (va_Pc [.ref a, .int p1] (Wo G (f, wa, S, M))) (Qi G (fun r u => r = b2i (has S i p1) ∧ u = (f, wa, S, M))) 0 0 (gA G) := by
  refine m_head (cc := cX0_contains) (maxL := 3) (ret := (some .boolean)) (by decide) rfl (Nat.le_of_ble_eq_true rfl) ?_
  intro p e s m below meth c hx hb hml hr hlocks hown hts hw ls hl
  have hown : s.vm.findClass RX0 = some m.cls := hown
  have hl : lv_has ls 3 [(0, .ref a), (1, .int p1)] := hl
  have hin0 : ∀ w ∈ wsX00, w ∈ wsX0_contains := by decide +kernel
  have lk25 := hts (.fieldLink RX0 25 "LockerWall$Locker" "count" "I") (by decide +kernel)
  have lk18 := hts (.fieldLink RX0 18 "LockerWall$Locker" "weights" "[I") (by decide +kernel)
  have loop : ∀ (d k : Nat) (H : Heap) (locs : List Loc) (ls : Array Slot), (k + d = n ∧ hasI S i p1 k = false) → Wi G (f, wa, S, M) s H locs → lv_has ls 3 [(2, .int (nI k)), (0, .ref a), (1, .int p1)] → W p l e (headSpec wsX0_contains (rk 0)).room s m [.ref a, .int p1].toArray below meth c H locs 0 0 (MQ below (Qi G (fun r u => r = b2i (has S i p1) ∧ u = (f, wa, S, M))) [.ref a, .int p1].toArray s 0 0 (gA G)) (F0 m 2 ls []) := by
    intro d
    induction d with
    | zero =>
      intro k H locs ls hk hw hl
      obtain ⟨hk, hno⟩ := hk
      refine lv_iload_n hx hb dX0_contains_2 rfl (lv_at hl 0 rfl) ?_
      refine lv_aload_n hx hb dX0_contains_3 rfl (lv_at hl 1 rfl) ?_
      refine r_get0 (v := .int (S 5 i)) hx hb hts hin0 hown hw hi hf 5 (by decide) lk25 rfl dX0_contains_4 ?_
      refine lv_icmp_ge (tgt := 28) hx hb dX0_contains_7 (by decide) (fun c_7 => ?_) (fun c_7 => ?_)
      · skip
        refine lv_iconst (v := 0) hx hb dX0_contains_28 (by decide) ?_
        exact e_z hx hb hr hlocks hw rfl dX0_contains_29 ⟨by rw [has_n hn h10, show n = k by omega, hno]; rfl, rfl⟩
      · skip
        exact absurd (by rw [hn]; exact nI_le (by omega) (by omega)) c_7
    | succ d ih =>
      intro k H locs ls hk hw hl
      obtain ⟨hk, hno⟩ := hk
      refine lv_iload_n hx hb dX0_contains_2 rfl (lv_at hl 0 rfl) ?_
      refine lv_aload_n hx hb dX0_contains_3 rfl (lv_at hl 1 rfl) ?_
      refine r_get0 (v := .int (S 5 i)) hx hb hts hin0 hown hw hi hf 5 (by decide) lk25 rfl dX0_contains_4 ?_
      refine lv_icmp_ge (tgt := 28) hx hb dX0_contains_7 (by decide) (fun c_7 => ?_) (fun c_7 => ?_)
      · skip
        exact absurd c_7 (by rw [hn]; exact nI_ge (show k < n by omega) (by omega))
      · skip
        refine lv_aload_n hx hb dX0_contains_10 rfl (lv_at hl 1 rfl) ?_
        refine r_get0 (v := .ref (wa i)) hx hb hts hin0 hown hw hi hf 4 (by decide) lk18 rfl dX0_contains_11 ?_
        refine lv_iload_n hx hb dX0_contains_14 rfl (lv_at hl 0 rfl) ?_
        refine r_wld hx hb hw hi hf (k) (rfl) (show k < 10 by omega) dX0_contains_15 ?_
        refine lv_iload_n hx hb dX0_contains_16 rfl (lv_at hl 2 rfl) ?_
        refine lv_icmp_ne (tgt := 22) hx hb dX0_contains_17 (by decide) (fun c_17 => ?_) (fun c_17 => ?_)
        · skip
          refine lv_iinc (v := nI (k + 1)) (lv' := [(2, .int (nI (k + 1))), (0, .ref a), (1, .int p1)]) hx hb dX0_contains_22 hl (k := 0) rfl (nI_1 _) (by decide) rfl (fun ls hl => ?_)
          refine lv_goto (tgt := 2) hx hb dX0_contains_25 (by decide) ?_
          exact ih (k + 1) H locs ls ⟨by omega, by simp [hasI, hno, c_17]⟩ hw (lv_sub hl [0, 1, 2] rfl)
        · skip
          refine lv_iconst (v := 1) hx hb dX0_contains_20 (by decide) ?_
          have h1 : hasI S i p1 (k + 1) = true := by simp [hasI, c_17]
          have h2 := hasI_up h1 d
          exact e_z hx hb hr hlocks hw rfl dX0_contains_21 ⟨by rw [has_n hn h10, show n = k + 1 + d by omega, h2]; rfl, rfl⟩
  refine lv_iconst (v := 0) hx hb dX0_contains_0 (by decide) ?_
  refine lv_istore_n (lv' := [(2, .int 0), (0, .ref a), (1, .int p1)]) hx hb dX0_contains_1 rfl hl (by decide) rfl (fun ls hl => ?_)
  exact loop n 0 _ _ _ ⟨by omega, rfl⟩ hw (lv_sub hl [0, 1, 2] rfl)

set_option maxHeartbeats 4000000 in
set_option maxRecDepth 100000 in
theorem c_X0_weightOf (l : Launch) (G : GT) (f : Nat → Option Nat) (wa : Nat → Nat) (S M : Tb) {i a : Nat} (hi : i < 25) (hf : f i = some a) {n : Nat} (hn : S 5 i = nI n) (h10 : n ≤ 10) (p1 : Int32) : Met l yX0_weightOf wsX0_weightOf (rk 0) (va_Pc [.ref a, .int p1] (Wo G (f, wa, S, M))) (Qi G (fun r u => r = wOf S i p1 ∧ u = (f, wa, S, M))) 0 0 (gA G) := by
  refine m_head (cc := cX0_weightOf) (maxL := 2) (ret := (some .int)) (by decide) rfl (Nat.le_of_ble_eq_true rfl) ?_
  intro p e s m below meth c hx hb hml hr hlocks hown hts hw ls hl
  have hown : s.vm.findClass RX0 = some m.cls := hown
  have hl : lv_has ls 2 [(0, .ref a), (1, .int p1)] := hl
  have hin0 : ∀ w ∈ wsX00, w ∈ wsX0_weightOf := by decide +kernel
  have lk25 := hts (.fieldLink RX0 25 "LockerWall$Locker" "count" "I") (by decide +kernel)
  have lk18 := hts (.fieldLink RX0 18 "LockerWall$Locker" "weights" "[I") (by decide +kernel)
  refine lv_iload_n hx hb dX0_weightOf_0 rfl (lv_at hl 1 rfl) ?_
  refine lv_if_lt (tgt := 21) hx hb dX0_weightOf_1 (by decide) (fun c_1 => ?_) (fun c_1 => ?_)
  · skip
    refine lv_bipush (v := (-8)) hx hb dX0_weightOf_21 (by decide) ?_
    exact e_i hx hb hr hlocks hw dX0_weightOf_23 ⟨by simp [wOf, c_1], rfl⟩
  · skip
    refine lv_iload_n hx hb dX0_weightOf_4 rfl (lv_at hl 1 rfl) ?_
    refine lv_aload_n hx hb dX0_weightOf_5 rfl (lv_at hl 0 rfl) ?_
    refine r_get0 (v := .int (S 5 i)) hx hb hts hin0 hown hw hi hf 5 (by decide) lk25 rfl dX0_weightOf_6 ?_
    refine lv_icmp_ge (tgt := 21) hx hb dX0_weightOf_9 (by decide) (fun c_9 => ?_) (fun c_9 => ?_)
    · skip
      refine lv_bipush (v := (-8)) hx hb dX0_weightOf_21 (by decide) ?_
      exact e_i hx hb hr hlocks hw dX0_weightOf_23 ⟨by simp [wOf, c_1, c_9], rfl⟩
    · skip
      obtain ⟨q, hq, rfl⟩ : ∃ q : Nat, q < n ∧ p1 = nI q := by
        rcases pk_ix p1 (n := n) (by omega) with h | h | h
        · exact absurd h c_1
        · exact absurd (by rw [hn]; exact h) c_9
        · exact h
      refine lv_aload_n hx hb dX0_weightOf_12 rfl (lv_at hl 0 rfl) ?_
      refine r_get0 (v := .ref (wa i)) hx hb hts hin0 hown hw hi hf 4 (by decide) lk18 rfl dX0_weightOf_13 ?_
      refine lv_iload_n hx hb dX0_weightOf_16 rfl (lv_at hl 1 rfl) ?_
      refine r_wld hx hb hw hi hf (q) (rfl) (show q < 10 by omega) dX0_weightOf_17 ?_
      refine lv_goto (tgt := 23) hx hb dX0_weightOf_18 (by decide) ?_
      exact e_i hx hb hr hlocks hw dX0_weightOf_23 ⟨by simp [wOf, c_1, c_9, nI_clamp (show q < 2 ^ 31 by omega)], rfl⟩

set_option maxHeartbeats 4000000 in
set_option maxRecDepth 100000 in
theorem c_X1_holdAt_n (l : Launch) (G : GT) (f : Nat → Option Nat) (wa : Nat → Nat) (S M : Tb) {i : Nat} (hi : i < 24) (hf : f i = none) : Met l yX1_holdAt wsX1_holdAt (rk 1) (va_Pc [.ref (gx G), .int (nI i)] (Wo G (f, wa, S, M))) (Qo G (fun r u => r = none ∧ u = (f, wa, S, M))) 0 0 (gA G) := by
  refine m_head (cc := cX1_holdAt) (maxL := 3) (ret := (some (.object "LockerWall$Locker"))) (by decide) rfl (Nat.le_of_ble_eq_true rfl) ?_
  intro p e s m below meth c hx hb hml hr hlocks hown hts hw ls hl
  have hown : s.vm.findClass RX1 = some m.cls := hown
  have hl : lv_has ls 3 [(0, .ref (gx G)), (1, .int (nI i))] := hl
  have hin1 : ∀ w ∈ wsX10, w ∈ wsX1_holdAt := by decide +kernel
  have lk11 := hts (.fieldLink RX1 11 "LockerWall" "hooks" "[LLockerWall$Locker;") (by decide +kernel)
  refine lv_iload_n hx hb dX1_holdAt_0 rfl (lv_at hl 1 rfl) ?_
  refine k_i hw (va_runS (As := [.int (nI i)]) (rest := []) ⟨hx, hb, hml, hown, hts⟩ (c_X1_isHook l G f wa S M (nI i)) (va_cwS 1 hts gX1_holdAt_X1_isHook rfl rfl rfl (by decide +kernel) ⟨Nat.le_of_ble_eq_true rfl, Nat.le_of_ble_eq_true rfl⟩) (hw.preS _) rfl rfl hl.1 rfl (lv_room (Nat.le_of_ble_eq_true rfl)) dX1_holdAt_1 ⟨Nat.le_of_ble_eq_true rfl, Nat.le_of_ble_eq_true rfl⟩) (fun r u H locs hR hw => ?_)
  obtain ⟨hq, rfl⟩ := hR
  obtain rfl := hq.symm
  refine W.eq (g2 := F0 m 4 ls [.int 1]) (by rw [isH_nI (show i < 24 by omega)]; rfl) ?_
  refine lv_if_ne (tgt := 9) hx hb dX1_holdAt_4 (by decide) (fun c_4 => ?_) (fun c_4 => ?_)
  · skip
    refine lv_aload_n hx hb dX1_holdAt_9 rfl (lv_at hl 0 rfl) ?_
    refine r_getH hx hb hts hin1 hown hw lk11 dX1_holdAt_10 ?_
    refine lv_iload_n hx hb dX1_holdAt_13 rfl (lv_at hl 1 rfl) ?_
    refine r_hld (v := .null) hx hb hw (i) (rfl) (show i < 24 by omega) (by rw [hf]; rfl) dX1_holdAt_14 ?_
    refine lv_astore_nN (lv' := [(2, .null), (0, .ref (gx G)), (1, .int (nI i))]) hx hb dX1_holdAt_15 rfl hl (by decide) rfl (fun ls hl => ?_)
    refine lv_aload_nN hx hb dX1_holdAt_16 rfl (lv_at hl 0 rfl) ?_
    refine lv_ifnullN (tgt := 30) hx hb dX1_holdAt_17 (by decide) ?_
    refine lv_aload_nN hx hb dX1_holdAt_30 rfl (lv_at hl 0 rfl) ?_
    exact e_o (none) rfl hx hb hr hlocks hw dX1_holdAt_31 ⟨rfl, rfl⟩
  · skip
    exact absurd c_4 (by decide)

set_option maxHeartbeats 4000000 in
set_option maxRecDepth 100000 in
theorem c_X1_holdAt_s (l : Launch) (G : GT) (f : Nat → Option Nat) (wa : Nat → Nat) (S M : Tb) {i a : Nat} (hi : i < 24) (hf : f i = some a) : Met l yX1_holdAt wsX1_holdAt (rk 1) (va_Pc [.ref (gx G), .int (nI i)] (Wo G (f, wa, S, M))) (Qo G (fun r u => r = some a ∧ u = (f, wa, sU S 6 i (S 6 i + 1), M))) 0 0 (gA G) := by
  refine m_head (cc := cX1_holdAt) (maxL := 3) (ret := (some (.object "LockerWall$Locker"))) (by decide) rfl (Nat.le_of_ble_eq_true rfl) ?_
  intro p e s m below meth c hx hb hml hr hlocks hown hts hw ls hl
  have hown : s.vm.findClass RX1 = some m.cls := hown
  have hl : lv_has ls 3 [(0, .ref (gx G)), (1, .int (nI i))] := hl
  have hin0 : ∀ w ∈ wsX00, w ∈ wsX1_holdAt := by decide +kernel
  have hin1 : ∀ w ∈ wsX10, w ∈ wsX1_holdAt := by decide +kernel
  have lk11 := hts (.fieldLink RX1 11 "LockerWall" "hooks" "[LLockerWall$Locker;") (by decide +kernel)
  have lk40 := hts (.fieldLink RX1 40 "LockerWall$Locker" "holds" "I") (by decide +kernel)
  refine lv_iload_n hx hb dX1_holdAt_0 rfl (lv_at hl 1 rfl) ?_
  refine k_i hw (va_runS (As := [.int (nI i)]) (rest := []) ⟨hx, hb, hml, hown, hts⟩ (c_X1_isHook l G f wa S M (nI i)) (va_cwS 1 hts gX1_holdAt_X1_isHook rfl rfl rfl (by decide +kernel) ⟨Nat.le_of_ble_eq_true rfl, Nat.le_of_ble_eq_true rfl⟩) (hw.preS _) rfl rfl hl.1 rfl (lv_room (Nat.le_of_ble_eq_true rfl)) dX1_holdAt_1 ⟨Nat.le_of_ble_eq_true rfl, Nat.le_of_ble_eq_true rfl⟩) (fun r u H locs hR hw => ?_)
  obtain ⟨hq, rfl⟩ := hR
  obtain rfl := hq.symm
  refine W.eq (g2 := F0 m 4 ls [.int 1]) (by rw [isH_nI (show i < 24 by omega)]; rfl) ?_
  refine lv_if_ne (tgt := 9) hx hb dX1_holdAt_4 (by decide) (fun c_4 => ?_) (fun c_4 => ?_)
  · skip
    refine lv_aload_n hx hb dX1_holdAt_9 rfl (lv_at hl 0 rfl) ?_
    refine r_getH hx hb hts hin1 hown hw lk11 dX1_holdAt_10 ?_
    refine lv_iload_n hx hb dX1_holdAt_13 rfl (lv_at hl 1 rfl) ?_
    refine r_hld (v := .ref a) hx hb hw (i) (rfl) (show i < 24 by omega) (by rw [hf]; rfl) dX1_holdAt_14 ?_
    refine lv_astore_n (lv' := [(2, .ref a), (0, .ref (gx G)), (1, .int (nI i))]) hx hb dX1_holdAt_15 rfl hl (by decide) rfl (fun ls hl => ?_)
    refine lv_aload_n hx hb dX1_holdAt_16 rfl (lv_at hl 0 rfl) ?_
    refine lv_ifnull hx hb dX1_holdAt_17 ?_
    refine lv_aload_n hx hb dX1_holdAt_20 rfl (lv_at hl 0 rfl) ?_
    refine lv_dup hx hb dX1_holdAt_21 rfl ?_
    refine r_get0 (v := .int (S 6 i)) hx hb hts hin0 hown hw (show i < 25 by omega) hf 6 (by decide) lk40 rfl dX1_holdAt_22 ?_
    refine lv_iconst (v := 1) hx hb dX1_holdAt_25 (by decide) ?_
    refine lv_iadd hx hb dX1_holdAt_26 ?_
    refine r_put0 hx hb hts hin0 hown hw (show i < 25 by omega) hf 6 6 (by decide) lk40 rfl rfl dX1_holdAt_27 (fun H locs hw => ?_)
    have hw : Wi G (f, wa, sU S 6 i ((S 6 i) + 1), M) s H locs := hw
    refine lv_aload_n hx hb dX1_holdAt_30 rfl (lv_at hl 0 rfl) ?_
    exact e_o (some a) rfl hx hb hr hlocks hw dX1_holdAt_31 ⟨rfl, rfl⟩
  · skip
    exact absurd c_4 (by decide)
