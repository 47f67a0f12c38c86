theorem lg_lg (M : Tb) (j : Nat) (a b : Int32) : lg (lg M j a) j b = lg M j b := by
  funext c r
  by_cases hc : c = 7 <;> by_cases hr : r = j <;> simp [lg, sU, hc, hr]
theorem i3 (x : Int32) : x + 1 + 1 + 1 = x + 3 := by
  rw [Int32.add_assoc, Int32.add_assoc]; rfl
theorem hd3 (M : Tb) (j : Nat) : hd (hd (hd M j) j) j = sU M 6 j (M 6 j + 3) := by
  funext c r
  by_cases hc : c = 6
  · subst hc
    by_cases hr : r = j
    · subst hr; simp only [hd, sU_self]; exact i3 _
    · simp [hd, sU, hr]
  · simp [hd, sU, hc]
theorem q_recode {S M : Tb} (h : Rel S M) (p1 p2 : Int32) : Ok (oc_recode S p1 p2) (om_recode M p1 p2) := by
  unfold oc_recode om_recode
  by_cases h1 : isH p1 = true
  · rw [if_pos h1, if_pos h1]
    obtain ⟨j, hj, rfl⟩ := isH_of h1
    rw [cl24 hj]
    unfold oj_recode mj_recode
    rw [h.c0 hj]
    by_cases h0 : M 0 j = 0
    · rw [if_pos h0, if_pos h0]; exact Ok.bad h _
    · have R := ((h.hd hj).hd hj).hd hj
      rw [if_neg h0, if_neg h0, h.col hj h0 (show 3 < 8 by decide), lg_lg, lg_lg, lg_lg, lg_lg]
      by_cases h3 : M 3 j = 0
      · rw [if_pos h3, if_pos h3]
        refine ⟨rfl, ?_⟩
        rw [← hd3]
        exact R.lg j 4
      · rw [if_neg h3, if_neg h3]
        refine ⟨rfl, ?_⟩
        rw [← hd3, sU_comm _ j j _ _ (show 7 ≠ 2 by decide)]
        exact (R.set (by decide) (by decide) (by decide) (fun q => by cases q) (fun _ => rfl)).lg j 2
  · rw [if_neg h1, if_neg h1]; exact Ok.bad h _
theorem q_told {S M : Tb} (h : Rel S M) (p1 p2 : Int32) : Ok (oc_told S p1 p2) (om_told M p1 p2) := by
  unfold oc_told om_told
  by_cases h1 : isH p1 = true
  · rw [if_pos h1, if_pos h1]
    by_cases h2 : p2 < 0
    · rw [if_pos h2, if_pos h2]; exact Ok.bad h _
    · rw [if_neg h2, if_neg h2]
      by_cases h3 : p2 ≤ 8
      · rw [if_pos h3, if_pos h3]
        obtain ⟨j, hj, rfl⟩ := isH_of h1
        rw [cl24 hj, h.c0 hj]
        by_cases h0 : M 0 j = 0
        · rw [if_pos h0, if_pos h0, if_pos h0]
          by_cases h4 : p2 = 0
          · rw [if_pos h4, if_pos h4]; exact Ok.bad h _
          · rw [if_neg h4, if_neg h4]; exact Ok.bad h _
        · rw [if_neg h0, if_neg h0, if_neg h0]
          by_cases h4 : p2 = 0
          · rw [if_pos h4, h4]; exact ⟨rfl, h⟩
          · rw [if_neg h4]; exact ⟨h.fact hj h0 _, h⟩
      · rw [if_neg h3, if_neg h3]; exact Ok.bad h _
  · rw [if_neg h1, if_neg h1]; exact Ok.bad h _
theorem q_item {S M : Tb} (h : Rel S M) (p1 p2 : Int32) : Ok (oc_item S p1 p2) (om_item M p1 p2) := by
  unfold oc_item om_item
  by_cases h1 : isH p1 = true
  · rw [if_pos h1, if_pos h1]
    obtain ⟨j, hj, rfl⟩ := isH_of h1
    rw [cl24 hj, h.c0 hj]
    by_cases h0 : M 0 j = 0
    · rw [if_pos h0, if_pos h0]; exact Ok.bad h _
    · rw [if_neg h0, if_neg h0]; exact ⟨h.wO hj h0 _, h⟩
  · rw [if_neg h1, if_neg h1]; exact Ok.bad h _
theorem has_hd (M : Tb) (j i : Nat) (w : Int32) : has (hd M j) i w = has M i w := by
  show hasI (hd M j) i w (M 5 i).toNatClampNeg = hasI M i w (M 5 i).toNatClampNeg
  exact hasI_eq _ (fun _ _ => rfl)
theorem qf_find (w : Int32) : ∀ (d k : Nat) {S M : Tb}, Rel S M → k + d ≤ 24 → Ok (of_find w d k S) (mf_find w d k M)
  | 0, _, _, _, h, _ => ⟨rfl, h⟩
  | d + 1, k, S, M, h, hk => by
    have hj : k < 24 := by omega
    show Ok (if S 0 k = 0 then _ else if S 3 k = 0 then _ else if has (hd S k) k w = true then _ else _) (if M 0 k = 0 then _ else if M 3 k = 0 then _ else if has M k w = true then _ else _)
    rw [h.c0 hj]
    by_cases h0 : M 0 k = 0
    · rw [if_pos h0, if_pos h0]; exact qf_find w d (k + 1) h (by omega)
    · rw [if_neg h0, if_neg h0, h.col hj h0 (show 3 < 8 by decide)]
      by_cases h3 : M 3 k = 0
      · rw [if_pos h3, if_pos h3]; exact qf_find w d (k + 1) ((h.hd hj).lg k 3) (by omega)
      · have e : has (hd S k) k w = has M k w := ((h.hd hj).has hj h0 w).trans (has_hd M k k w)
        rw [if_neg h3, if_neg h3, e]
        by_cases hh : has M k w = true
        · rw [if_pos hh, if_pos hh]; exact ⟨rfl, (h.hd hj).lg k 3⟩
        · rw [if_neg hh, if_neg hh]; exact qf_find w d (k + 1) ((h.hd hj).lg k 1) (by omega)
theorem q_find {S M : Tb} (h : Rel S M) (p1 : Int32) : Ok (oc_find S p1) (om_find M p1) := by
  unfold oc_find om_find
  by_cases h1 : isWt p1 = true
  · rw [if_pos h1, if_pos h1]; exact qf_find p1 24 0 h (by omega)
  · rw [if_neg h1, if_neg h1]; exact Ok.bad h _
theorem qf_first (w : Int32) : ∀ (d k : Nat) {S M : Tb}, Rel S M → k + d ≤ 24 → Ok (of_first w d k S) (mf_first w d k M)
  | 0, _, _, _, h, _ => ⟨rfl, h⟩
  | d + 1, k, S, M, h, hk => by
    have hj : k < 24 := by omega
    show Ok (if S 0 k = 0 then _ else if wt (hd S k) k < w then _ else _) (if M 0 k = 0 then _ else if wt M k < w then _ else _)
    rw [h.c0 hj]
    by_cases h0 : M 0 k = 0
    · rw [if_pos h0, if_pos h0]; exact qf_first w d (k + 1) h (by omega)
    · have e : wt (hd S k) k = wt M k := ((h.hd hj).wt hj h0).trans rfl
      rw [if_neg h0, if_neg h0, e]
      by_cases hh : wt M k < w
      · rw [if_pos hh, if_pos hh]; exact qf_first w d (k + 1) ((h.hd hj).lg k 1) (by omega)
      · rw [if_neg hh, if_neg hh]; exact ⟨rfl, (h.hd hj).lg k 2⟩
theorem q_first {S M : Tb} (h : Rel S M) (p1 : Int32) : Ok (oc_first S p1) (om_first M p1) := by
  unfold oc_first om_first
  by_cases h1 : 0 ≤ p1
  · rw [if_pos h1, if_pos h1]; exact qf_first p1 24 0 h (by omega)
  · rw [if_neg h1, if_neg h1]; exact Ok.bad h _
theorem tl_eq {k : Nat} (hk : k < 24) (x : Int64) : ((nI k).toInt64 + 1) * x = x * (nI k + 1).toInt64 := by
  rw [nI_1, nI_l (by omega), nI_l (by omega), lN_1, Int64.mul_comm]
theorem qf_tally : ∀ (d k : Nat) (z : Int64) {S M : Tb}, Rel S M → k + d ≤ 24 → (of_tally d k z S).1 = (mf_tally d k z M).1 ∧ Rel (of_tally d k z S).2 (mf_tally d k z M).2
  | 0, _, _, _, _, h, _ => ⟨rfl, h⟩
  | d + 1, k, z, S, M, h, hk => by
    have hj : k < 24 := by omega
    unfold of_tally mf_tally
    rw [h.c0 hj]
    by_cases h0 : M 0 k = 0
    · rw [if_pos h0, if_pos h0]; exact qf_tally d (k + 1) z h (by omega)
    · have e : wt (hd S k) k = wt M k := ((h.hd hj).wt hj h0).trans rfl
      rw [if_neg h0, if_neg h0, e, tl_eq hj]
      exact qf_tally d (k + 1) _ ((h.hd hj).lg k 1) (by omega)
theorem q_tally {S M : Tb} (h : Rel S M) : (oc_tally S).1 = (om_tally M).1 ∧ Rel (oc_tally S).2 (om_tally M).2 := qf_tally 24 0 0 h.t9 (by omega)
/-! weigh -/
def hdN (i : Nat) : Nat → Tb → Tb
  | 0, M => M
  | k + 1, M => hd (hdN i k M) ((i + k) % 24)
def lgN (i : Nat) (how : Int32) : Nat → Tb → Tb
  | 0, M => M
  | k + 1, M => lgN i how k (lg M ((i + k) % 24) how)
theorem hdN_hd (i : Nat) : ∀ (k : Nat) (M : Tb) (r : Nat), hdN i k (hd M r) = hd (hdN i k M) r
  | 0, _, _ => rfl
  | k + 1, M, r => by
    show hd (hdN i k (hd M r)) _ = hd (hd (hdN i k M) _) r
    rw [hdN_hd i k M r, hd_hd]
theorem hdN_lg (i : Nat) : ∀ (k : Nat) (M : Tb) (r : Nat) (how : Int32), hdN i k (lg M r how) = lg (hdN i k M) r how
  | 0, _, _, _ => rfl
  | k + 1, M, r, how => by
    show hd (hdN i k (lg M r how)) _ = lg (hd (hdN i k M) _) r how
    rw [hdN_lg i k M r how, hd_lg]
theorem mf_let_eq (i : Nat) (how : Int32) : ∀ (k : Nat) (M : Tb), mf_let i how k M = lgN i how k (hdN i k M)
  | 0, _ => rfl
  | k + 1, M => by
    show mf_let i how k (ml M _ how) = lgN i how k (lg (hd (hdN i k M) _) _ how)
    rw [mf_let_eq i how k, ml_eq, hdN_lg, hdN_hd]
theorem hdN_0 (i : Nat) : ∀ (k : Nat) (M : Tb) (r : Nat), hdN i k M 0 r = M 0 r
  | 0, _, _ => rfl
  | k + 1, M, r => by
    show hd (hdN i k M) _ 0 r = _
    exact (show hd (hdN i k M) _ 0 r = hdN i k M 0 r from rfl).trans (hdN_0 i k M r)
theorem hdN_wt (i : Nat) : ∀ (k : Nat) (M : Tb) (r : Nat), wt (hdN i k M) r = wt M r
  | 0, _, _ => rfl
  | k + 1, M, r => (wt_hd (hdN i k M) r _).trans (hdN_wt i k M r)
/-- what the reference counts, over what the wall holds -/
theorem cnt_hold (i : Nat) (M : Tb) : ∀ (d k : Nat), (∀ t, t < k → ¬ M 0 ((i + t) % 24) = 0) → ∃ q : Nat, k ≤ q ∧ of_hold i d k (hdN i k M) = (q, hdN i q M) ∧ mf_cnt i M d k (l_sum (fun t => wt M ((i + t) % 24)) k) = (q, l_sum (fun t => wt M ((i + t) % 24)) q) ∧ ∀ t, t < q → ¬ M 0 ((i + t) % 24) = 0
  | 0, k, h => ⟨k, Nat.le_refl _, rfl, rfl, h⟩
  | d + 1, k, h => by
    unfold of_hold mf_cnt
    rw [hdN_0]
    by_cases h0 : M 0 ((i + k) % 24) = 0
    · rw [if_pos h0, if_pos h0]; exact ⟨k, Nat.le_refl _, rfl, rfl, h⟩
    · rw [if_neg h0, if_neg h0]
      obtain ⟨q, q1, q2, q3, q4⟩ := cnt_hold i M d (k + 1) (fun t ht => by
        by_cases htk : t = k
        · rw [htk]; exact h0
        · exact h t (by omega))
      exact ⟨q, by omega, q2, q3, q4⟩
theorem let_sum (i : Nat) (how : Int32) : ∀ (k : Nat) (z : Int32) (T : Tb), (∀ t, t < k → ¬ T 0 ((i + t) % 24) = 0) → of_let i how k z T = (z + l_sum (fun t => wt T ((i + t) % 24)) k, lgN i how k T)
  | 0, z, T, _ => by
    show (z, T) = (z + 0, T)
    rw [Int32.add_zero]
  | k + 1, z, T, h => by
    unfold of_let
    rw [if_neg (h k (by omega)), let_sum i how k _ (lg T ((i + k) % 24) how) (fun t ht => h t (by omega))]
    show (z + wt T ((i + k) % 24) + l_sum (fun t => wt T ((i + t) % 24)) k, _) = (z + (l_sum (fun t => wt T ((i + t) % 24)) k + wt T ((i + k) % 24)), _)
    rw [Int32.add_assoc, Int32.add_comm (wt T ((i + k) % 24))]
    rfl
theorem qf_hold (i : Nat) : ∀ (d k : Nat) {S M : Tb}, Rel S M → (of_hold i d k S).1 = (of_hold i d k M).1 ∧ Rel (of_hold i d k S).2 (of_hold i d k M).2
  | 0, _, _, _, h => ⟨rfl, h⟩
  | d + 1, k, S, M, h => by
    have hj : (i + k) % 24 < 24 := by omega
    unfold of_hold
    rw [h.c0 hj]
    by_cases h0 : M 0 ((i + k) % 24) = 0
    · rw [if_pos h0, if_pos h0]; exact ⟨rfl, h⟩
    · rw [if_neg h0, if_neg h0]; exact qf_hold i d (k + 1) (h.hd hj)
theorem qf_let (i : Nat) (how : Int32) : ∀ (k : Nat) (z : Int32) {S M : Tb}, Rel S M → Ok (of_let i how k z S) (of_let i how k z M)
  | 0, _, _, _, h => ⟨rfl, h⟩
  | k + 1, z, S, M, h => by
    have hj : (i + k) % 24 < 24 := by omega
    unfold of_let
    rw [h.c0 hj]
    by_cases h0 : M 0 ((i + k) % 24) = 0
    · rw [if_pos h0, if_pos h0]; exact qf_let i how k z h
    · rw [if_neg h0, if_neg h0, h.wt hj h0]; exact qf_let i how k _ (h.lg _ how)
theorem q_weigh {S M : Tb} (h : Rel S M) (p1 p2 : Int32) : Ok (oc_weigh S p1 p2) (om_weigh M p1 p2) := by
  unfold oc_weigh om_weigh
  by_cases h1 : isH p1 = true
  · rw [if_pos h1, if_pos h1]
    by_cases h2 : p2 < 0
    · rw [if_pos h2, if_pos h2]; exact Ok.bad h _
    · rw [if_neg h2, if_neg h2]
      by_cases h3 : p2 ≤ 12
      · rw [if_pos h3, if_pos h3]
        obtain ⟨i, hi, rfl⟩ := isH_of h1
        obtain ⟨n, hn, rfl⟩ := nI_of2 (M := 12) (n := 12) rfl h2 h3
        rw [cl24 hi, nI_clamp (show n < 2 ^ 31 by omega)]
        have R := h.t9
        generalize sU S 9 0 (S 9 0 + 1) = S1 at R
        generalize sU M 9 0 (M 9 0 + 1) = M1 at R
        obtain ⟨e1, R1⟩ := qf_hold i n 0 R
        obtain ⟨q, q1, q2, q3, q4⟩ := cnt_hold i M1 n 0 (fun t ht => absurd ht (by omega))
        have q2 : of_hold i n 0 M1 = (q, hdN i q M1) := q2
        have q3 : mf_cnt i M1 n 0 0 = (q, l_sum (fun t => wt M1 ((i + t) % 24)) q) := q3
        have hqn : q ≤ n := by
          have := of_hold_le i n 0 M1
          rw [q2] at this
          omega
        unfold oj_weigh mj_weigh
        rw [q2] at e1 R1
        rw [e1, q3]
        have hT : ∀ t, t < q → ¬ hdN i q M1 0 ((i + t) % 24) = 0 := fun t ht => by rw [hdN_0]; exact q4 t ht
        have hs : l_sum (fun t => wt (hdN i q M1) ((i + t) % 24)) q = l_sum (fun t => wt M1 ((i + t) % 24)) q := l_sum_eq q (fun t _ => hdN_wt i q M1 _)
        show Ok (if nI n ≤ nI q then _ else _) (if nI n ≤ nI q then _ else _)
        by_cases hc : nI n ≤ nI q
        · have hnq : n = q := by
            have := (nI_leI (show n < 2 ^ 31 by omega) (show q < 2 ^ 31 by omega)).mp hc
            omega
          rw [if_pos hc, if_pos hc, hnq]
          have Z := qf_let i 2 q 0 R1
          rw [hnq] at Z
          rw [let_sum i 2 q 0 (hdN i q M1) hT, hs] at Z
          refine ⟨Z.1.trans ?_, ?_⟩
          · show (0 : Int32) + _ = _
            rw [Int32.zero_add]
          · show Rel _ (mf_let i 2 q M1)
            rw [mf_let_eq]
            exact Z.2
        · rw [if_neg hc, if_neg hc]
          have Z := qf_let i 4 q 0 R1
          rw [let_sum i 4 q 0 (hdN i q M1) hT] at Z
          refine ⟨rfl, ?_⟩
          show Rel _ (mf_let i 4 q M1)
          rw [mf_let_eq]
          exact Z.2
      · rw [if_neg h3, if_neg h3]; exact Ok.bad h _
  · rw [if_neg h1, if_neg h1]; exact Ok.bad h _
/-! drop -/
theorem drop_hd (j : Nat) (m : Int32) : ∀ (d : Nat) (g : Int32) (M : Tb), of_drop j m d g (hd M j) = ((of_drop j m d g M).1, hd (of_drop j m d g M).2 j)
  | 0, _, _ => rfl
  | d + 1, g, M => by
    unfold of_drop
    have e5 : hd M j 5 j = M 5 j := rfl
    have ev : rmV (hd M j) j = rmV M j := rfl
    rw [e5, ev]
    by_cases h1 : M 5 j ≤ 0
    · rw [if_pos h1, if_pos h1]
    · rw [if_neg h1, if_neg h1]
      by_cases h2 : g + rmV M j < m
      · rw [if_pos h2, if_pos h2, ← hd_rm]; exact drop_hd j m d _ _
      · rw [if_neg h2, if_neg h2, ← hd_rm]
theorem qf_drop (j : Nat) (hj : j < 24) (m : Int32) : ∀ (d : Nat) (g : Int32) {S M : Tb}, Rel S M → ¬ M 0 j = 0 → Ok (of_drop j m d g S) (of_drop j m d g M)
  | 0, _, _, _, h, _ => ⟨rfl, h⟩
  | d + 1, g, S, M, h, h0 => by
    unfold of_drop
    rw [h.col hj h0 (show 5 < 8 by decide)]
    by_cases h1 : M 5 j ≤ 0
    · rw [if_pos h1, if_pos h1]; exact ⟨rfl, h⟩
    · obtain ⟨n, n10, hn⟩ := h.invM j hj
      obtain ⟨q, q10, hq⟩ := n_succ hn n10 (fun z => h1 (by rw [z]; decide))
      rw [if_neg h1, if_neg h1, h.rV hj h0 hq q10]
      by_cases h2 : g + rmV M j < m
      · rw [if_pos h2, if_pos h2]; exact qf_drop j hj m d _ (h.rm hj h0 hq q10) h0
      · rw [if_neg h2, if_neg h2]; exact ⟨rfl, h.rm hj h0 hq q10⟩
theorem q_drop {S M : Tb} (h : Rel S M) (p1 p2 p3 : Int32) : Ok (oc_drop S p1 p2 p3) (om_drop M p1 p2 p3) := by
  unfold oc_drop om_drop
  by_cases h1 : isH p1 = true
  · rw [if_pos h1, if_pos h1]
    by_cases h2 : p2 < 1
    · rw [if_pos h2, if_pos h2]; exact Ok.bad h _
    · rw [if_neg h2, if_neg h2]
      by_cases h3 : p2 ≤ 10
      · rw [if_pos h3, if_pos h3]
        obtain ⟨j, hj, rfl⟩ := isH_of h1
        rw [cl24 hj]
        unfold oj_drop mj_drop
        rw [h.c0 hj]
        by_cases h0 : M 0 j = 0
        · rw [if_pos h0, if_pos h0]; exact Ok.bad h _
        · rw [if_neg h0, if_neg h0, h.col hj h0 (show 3 < 8 by decide)]
          by_cases h4 : M 3 j = 0
          · rw [if_pos h4, if_pos h4]; exact ⟨rfl, (h.hd hj).lg j 2⟩
          · rw [if_neg h4, if_neg h4]
            have Z := qf_drop j hj p3 p2.toNatClampNeg 0 (h.hd hj) (show ¬ hd M j 0 j = 0 from h0)
            rw [drop_hd j p3 p2.toNatClampNeg 0 M] at Z
            exact ⟨Z.1, Z.2.lg j 1⟩
      · rw [if_neg h3, if_neg h3]; exact Ok.bad h _
  · rw [if_neg h1, if_neg h1]; exact Ok.bad h _
/-! mount, unmount -/
theorem q_mount {S M : Tb} (h : Rel S M) (p1 p2 p3 : Int32) : Ok (oc_mount S p1 p2 p3) (om_mount M p1 p2 p3) := by
  unfold oc_mount om_mount
  by_cases h1 : isH p1 = true
  · rw [if_pos h1, if_pos h1]
    by_cases h2 : isWt p2 = true
    · rw [if_pos h2, if_pos h2]
      obtain ⟨j, hj, rfl⟩ := isH_of h1
      rw [cl24 hj, h.c0 hj]
      by_cases h0 : M 0 j = 0
      · rw [if_pos h0, if_pos h0]
        refine ⟨rfl, ?_, fun i hi => ?_⟩
        · show atS (nwS S p2 p3) j 9 0 = _
          simp only [atS, nwS, sU_oc _ j _ (show 9 ≠ 0 by decide), sU_oc _ j _ (show 9 ≠ 1 by decide), sU_oc _ j _ (show 9 ≠ 2 by decide), sU_oc _ j _ (show 9 ≠ 3 by decide), sU_oc _ j _ (show 9 ≠ 4 by decide), sU_oc _ j _ (show 9 ≠ 5 by decide), sU_oc _ j _ (show 9 ≠ 6 by decide), sU_oc _ j _ (show 9 ≠ 7 by decide)]
          exact h.1
        · by_cases hij : i = j
          · subst hij
            refine ⟨by simp [atS, nwS, sU], ⟨0, by omega, by simp [sU, nI_0]⟩, ⟨0, by omega, by simp [atS, nwS, nI_0]⟩, 0, by omega, by simp [sU, nI_0], fun _ => ⟨fun c hc => ?_, fun k hk => absurd hk (by omega)⟩⟩
            rcases (show c = 0 ∨ c = 1 ∨ c = 2 ∨ c = 3 ∨ c = 4 ∨ c = 5 ∨ c = 6 ∨ c = 7 by omega) with rfl | rfl | rfl | rfl | rfl | rfl | rfl | rfl <;> simp [atS, nwS, sU]
          · refine (h.2 i hi).congr (fun c hc => ?_) (fun c hc => ?_) (fun k hk => ?_) (fun k hk => ?_)
            · have : c ≠ 8 := by omega
              simp [atS, nwS, this, hc, hij, show i ≠ 24 by omega]
            · simp only [sU_oj _ _ c _ hij]
            · simp [atS, nwS, show (10 * i + k) / 10 = i by omega, hij, show i ≠ 24 by omega]
            · simp only [sU_oc _ j _ (show 8 ≠ 0 by decide), sU_oc _ j _ (show 8 ≠ 1 by decide), sU_oc _ j _ (show 8 ≠ 2 by decide), sU_oc _ j _ (show 8 ≠ 3 by decide), sU_oc _ j _ (show 8 ≠ 4 by decide), sU_oc _ j _ (show 8 ≠ 5 by decide), sU_oc _ j _ (show 8 ≠ 6 by decide), sU_oc _ j _ (show 8 ≠ 7 by decide)]
      · rw [if_neg h0, if_neg h0]; exact Ok.bad h _
    · rw [if_neg h2, if_neg h2]; exact Ok.bad h _
  · rw [if_neg h1, if_neg h1]; exact Ok.bad h _
theorem q_unmount {S M : Tb} (h : Rel S M) (p1 : Int32) : Ok (oc_unmount S p1) (om_unmount M p1) := by
  unfold oc_unmount om_unmount
  by_cases h1 : isH p1 = true
  · rw [if_pos h1, if_pos h1]
    obtain ⟨j, hj, rfl⟩ := isH_of h1
    have R := h.t9
    generalize sU S 9 0 (S 9 0 + 1) = S1 at R
    generalize sU M 9 0 (M 9 0 + 1) = M1 at R
    rw [cl24 hj]
    unfold oj_unmount mj_unmount
    rw [R.c0 hj]
    by_cases h0 : M1 0 j = 0
    · rw [if_pos h0, if_pos h0]; exact Ok.bad R _
    · rw [if_neg h0, if_neg h0, R.col hj h0 (show 5 < 8 by decide)]
      by_cases h5 : M1 5 j ≤ 0
      · rw [if_pos h5, if_pos h5]
        refine ⟨?_, ?_, fun i hi => ?_⟩
        · show dtS (hd S1 j) j 6 24 = M1 6 j + 1
          rw [← R.col hj h0 (show 6 < 8 by decide)]
          simp [dtS, hd, sU]
        · show lg (dtS (hd S1 j) j) 24 1 9 0 = ml (sU M1 0 j 0) j 1 9 0
          simp [lg, ml, dtS, hd, sU]
          exact R.1
        · by_cases hij : i = j
          · subst hij
            obtain ⟨a0, ⟨t, t3, a4⟩, ⟨n1, n10, a5⟩, n, m10, b5, b⟩ := R.2 i hi
            have h24 : i ≠ 24 := by omega
            refine ⟨by simp [lg, ml, dtS, sU, h24], ⟨t, t3, by simp [ml, sU]; exact a4⟩, ⟨n1, n10, by simp [lg, dtS, hd, sU, h24]; exact a5⟩, n, m10, by simp [ml, sU]; exact b5, fun hm => absurd (by simp [ml, sU]) hm⟩
          · have h24 : i ≠ 24 := by omega
            refine (R.2 i hi).congr (fun c hc => ?_) (fun c hc => ?_) (fun k hk => ?_) (fun k hk => ?_)
            · show lg (dtS (hd S1 j) j) 24 1 c i = S1 c i
              have : c ≠ 8 := by omega
              rw [lg, sU_oj _ 7 c _ h24]
              simp only [dtS, if_neg this, if_pos hc, if_neg h24]
              rw [if_neg (fun q => hij q.2), hd, sU_oj _ 6 c _ hij]
            · show ml (sU M1 0 j 0) j 1 c i = M1 c i
              rw [ml, sU_oj _ 7 c _ hij, sU_oj _ 6 c _ hij, sU_oj _ 0 c _ hij]
            · show lg (dtS (hd S1 j) j) 24 1 8 (10 * i + k) = S1 8 (10 * i + k)
              simp [lg, dtS, hd, sU, show (10 * i + k) / 10 = i by omega, h24]
            · rfl
      · rw [if_neg h5, if_neg h5]; exact ⟨rfl, (R.hd hj).lg j 2⟩
  · rw [if_neg h1, if_neg h1]; exact Ok.bad h _
