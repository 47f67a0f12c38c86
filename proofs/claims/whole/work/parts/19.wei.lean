/-! no locker holds more than its room -/
def nsum (g : Nat → Nat) : Nat → Nat
  | 0 => 0
  | n + 1 => nsum g n + g n
def WRow (M : Tb) (i : Nat) : Prop := ¬ M 0 i = 0 → ∃ (n : Nat) (g : Nat → Nat) (r : Nat), n ≤ 10 ∧ M 5 i = nI n ∧ (∀ k, k < n → g k ≤ 1000 ∧ M 8 (10 * i + k) = nI (g k)) ∧ r ≤ 1000 ∧ M 1 i = nI r ∧ nsum g n ≤ r
def Wei (M : Tb) : Prop := ∀ i, i < 24 → WRow M i
theorem l_nsum {a : Nat → Int32} {g : Nat → Nat} : ∀ n : Nat, (∀ k, k < n → a k = nI (g k)) → l_sum a n = nI (nsum g n)
  | 0, _ => nI_0.symm
  | n + 1, h => by
    show l_sum a n + a n = nI (nsum g n + g n)
    rw [l_nsum n (fun k hk => h k (by omega)), h n (by omega), nI_add]
theorem nsum_le {g : Nat → Nat} : ∀ n : Nat, (∀ k, k < n → g k ≤ 1000) → nsum g n ≤ 1000 * n
  | 0, _ => Nat.le_refl _
  | n + 1, h => by
    have h1 := nsum_le n (fun k hk => h k (by omega))
    have h2 := h n (by omega)
    show nsum g n + g n ≤ 1000 * (n + 1)
    omega
theorem nsum_eq {g g' : Nat → Nat} : ∀ n : Nat, (∀ k, k < n → g k = g' k) → nsum g n = nsum g' n
  | 0, _ => rfl
  | n + 1, h => by
    show nsum g n + g n = nsum g' n + g' n
    rw [nsum_eq n (fun k hk => h k (by omega)), h n (by omega)]
theorem Wei.le {M : Tb} (h : Wei M) {i : Nat} (hi : i < 24) (hm : ¬ M 0 i = 0) : wt M i ≤ M 1 i := by
  obtain ⟨n, g, r, n10, h5, hg, r10, h1, hs⟩ := h i hi hm
  rw [wt_n h5 n10, l_nsum n (fun k hk => (hg k hk).2), h1]
  exact nI_le hs (by omega)
theorem WRow.congr {M M' : Tb} {i : Nat} (h : WRow M i) (h0 : M' 0 i = M 0 i) (h1 : M' 1 i = M 1 i) (h5 : M' 5 i = M 5 i) (h8 : ∀ k, k < 10 → M' 8 (10 * i + k) = M 8 (10 * i + k)) : WRow M' i := by
  intro hm
  rw [h0] at hm
  obtain ⟨n, g, r, n10, a5, hg, r10, a1, hs⟩ := h hm
  exact ⟨n, g, r, n10, by rw [h5]; exact a5, fun k hk => ⟨(hg k hk).1, by rw [h8 k (by omega)]; exact (hg k hk).2⟩, r10, by rw [h1]; exact a1, hs⟩
theorem v_rm {M : Tb} (h : Wei M) {j q : Nat} (hq : M 5 j = nI (q + 1)) (hq10 : q < 10) : Wei (rmS M j) := by
  intro i hi
  by_cases hij : i = j
  · subst hij
    intro hm
    obtain ⟨n, g, r, n10, a5, hg, r10, a1, hs⟩ := h i hi hm
    have hn : n = q + 1 := by
      rw [a5] at hq
      exact (nI_eq (by omega) (by omega)).mp hq
    subst hn
    refine ⟨q, g, r, by omega, by rw [rmS, sU_self, hq, nI_pred], fun k hk => hg k (by omega), r10, a1, ?_⟩
    have : nsum g (q + 1) = nsum g q + g q := rfl
    omega
  · exact (h i hi).congr rfl rfl (by rw [rmS, sU_oj M 5 5 _ hij]) (fun k hk => rfl)
/-- what a locker takes: the weight of an item, within its room -/
theorem v_ac {M : Tb} (h : Wei M) {j x : Nat} (hj : j < 24) (hm0 : ¬ M 0 j = 0) (hx : x ≤ 1000) (hk : okA M j (nI x) = true) : Wei (acS M j (nI x)) := by
  intro i hi
  obtain ⟨n, g, r, n10, a5, hg, r10, a1, hs⟩ := h j hj hm0
  have hn : n < 10 := okA_lt a5 n10 hk
  have cl : (nI n).toNatClampNeg = n := nI_clamp (by omega)
  by_cases hij : i = j
  · subst hij
    intro hm
    have hb := nsum_le n (fun k hk => (hg k hk).1)
    have hle : nsum g n + x ≤ r := by
      have h2 : wt M i + nI x ≤ M 1 i := by
        unfold okA at hk
        simp only [Bool.and_eq_true, decide_eq_true_eq] at hk
        exact hk.2
      rw [wt_n a5 n10, l_nsum n (fun k hk => (hg k hk).2), nI_add, a1] at h2
      exact (nI_leI (by omega) (by omega)).mp h2
    refine ⟨n + 1, fun k => if k = n then x else g k, r, by omega, by rw [ac_5, if_pos rfl, a5, nI_1], fun k hk => ?_, r10, by rw [ac_c M i _ (by decide) (by decide)]; exact a1, ?_⟩
    · by_cases hkn : k = n
      · refine ⟨?_, ?_⟩
        · show (if k = n then x else g k) ≤ 1000
          rw [if_pos hkn]; exact hx
        · show _ = nI (if k = n then x else g k)
          rw [ac_8, a5, cl, hkn, if_pos rfl, if_pos rfl]
      · refine ⟨?_, ?_⟩
        · show (if k = n then x else g k) ≤ 1000
          rw [if_neg hkn]; exact (hg k (by omega)).1
        · show _ = nI (if k = n then x else g k)
          rw [ac_8, a5, cl, if_neg (by omega), if_neg hkn]
          exact (hg k (by omega)).2
    · show nsum _ n + (if n = n then x else g n) ≤ r
      rw [if_pos rfl, nsum_eq (g' := g) n (fun k hk => by rw [if_neg (by omega)])]
      exact hle
  · refine (h i hi).congr (ac_c M j _ (by decide) (by decide) i) (ac_c M j _ (by decide) (by decide) i) (by rw [ac_5, if_neg hij]) (fun k hk => ?_)
    rw [ac_8, a5, cl, if_neg (by omega)]
theorem v_rmV {M : Tb} (h : Wei M) {j q : Nat} (hj : j < 24) (hm0 : ¬ M 0 j = 0) (hq : M 5 j = nI (q + 1)) (hq10 : q < 10) : ∃ x : Nat, x ≤ 1000 ∧ rmV M j = nI x := by
  obtain ⟨n, g, r, n10, a5, hg, -⟩ := h j hj hm0
  have hn : n = q + 1 := by
    rw [a5] at hq
    exact (nI_eq (by omega) (by omega)).mp hq
  refine ⟨g q, (hg q (by omega)).1, ?_⟩
  rw [rmV, hq, nI_pred, nI_clamp (by omega)]
  exact (hg q (by omega)).2
theorem v_ex {M : Tb} (h : Wei M) {i j : Nat} (hi : i < 24) (hj : j < 24) (mi : ¬ M 0 i = 0) (mj : ¬ M 0 j = 0) (c1 : ¬ M 1 j < wt M i) (c2 : wt M j ≤ M 1 i) : Wei (exS M i j) := by
  intro r hr
  obtain ⟨n, g, x, n10, a5, hg, x10, a1, hs⟩ := h i hi mi
  obtain ⟨n', g', x', n10', a5', hg', x10', a1', hs'⟩ := h j hj mj
  have b := nsum_le n (fun k hk => (hg k hk).1)
  have b' := nsum_le n' (fun k hk => (hg' k hk).1)
  have w1 : wt M i = nI (nsum g n) := by rw [wt_n a5 n10, l_nsum n (fun k hk => (hg k hk).2)]
  have w2 : wt M j = nI (nsum g' n') := by rw [wt_n a5' n10', l_nsum n' (fun k hk => (hg' k hk).2)]
  have le1 : nsum g n ≤ x' := by
    have := nlt_le c1
    rw [w1, a1'] at this
    exact (nI_leI (by omega) (by omega)).mp this
  have le2 : nsum g' n' ≤ x := by
    rw [w2, a1] at c2
    exact (nI_leI (by omega) (by omega)).mp c2
  by_cases hri : r = i
  · subst hri
    intro _
    exact ⟨n', g', x, n10', by rw [exS_5, if_pos rfl]; exact a5', fun k hk => ⟨(hg' k hk).1, by rw [exS_8i M r j (by omega)]; exact (hg' k hk).2⟩, x10, by rw [exS_c M r j (by decide) (by decide)]; exact a1, le2⟩
  · by_cases hrj : r = j
    · subst hrj
      intro _
      exact ⟨n, g, x', n10, by rw [exS_5, if_neg hri, if_pos rfl]; exact a5, fun k hk => ⟨(hg k hk).1, by rw [exS_8j M i r (by omega)]; exact (hg k hk).2⟩, x10', by rw [exS_c M i r (by decide) (by decide)]; exact a1', le1⟩
    · exact (h r hr).congr (exS_c M i j (by decide) (by decide) r) (exS_c M i j (by decide) (by decide) r) (by rw [exS_5, if_neg hri, if_neg hrj]) (fun k hk => exS_8o M i j hk hri hrj)
theorem isWt_of {w : Int32} (h : isWt w = true) : ∃ x : Nat, x ≤ 1000 ∧ w = nI x := by
  have hh : ¬ w < 1 ∧ ¬ (1000 : Int32) < w := by simpa [isWt] using h
  exact nI_of2 (M := 1000) (n := 1000) rfl (n1_0 hh.1) (nlt_le hh.2)
theorem v_open {M : Tb} (h : Wei M) (p1 p2 : Int32) : Wei (om_open M p1 p2).2 := by
  unfold om_open mj_open
  split
  · split
    · exact h
    · split
      · exact h
      · split
        · exact h
        · exact h
  · exact h
theorem v_shut {M : Tb} (h : Wei M) (p1 : Int32) : Wei (om_shut M p1).2 := by
  unfold om_shut mj_shut
  split
  · split
    · exact h
    · split
      · exact h
      · exact h
  · exact h
theorem v_put {S M : Tb} (R : Rel S M) (h : Wei M) (p1 p2 : Int32) : Wei (om_put M p1 p2).2 := by
  unfold om_put
  by_cases h1 : isH p1 = true
  · rw [if_pos h1]
    by_cases h2 : isWt p2 = true
    · rw [if_pos h2]
      obtain ⟨j, hj, rfl⟩ := isH_of h1
      obtain ⟨x, hx, rfl⟩ := isWt_of h2
      rw [cl24 hj]
      unfold mj_put
      by_cases h0 : M 0 j = 0
      · rw [if_pos h0]; exact h
      · rw [if_neg h0]
        by_cases h3 : M 3 j = 0
        · rw [if_pos h3]; exact h
        · rw [if_neg h3]
          by_cases hk : okA M j (nI x) = true
          · rw [if_pos hk]; exact v_ac h hj h0 hx hk
          · rw [if_neg hk]; exact h
    · rw [if_neg h2]; exact h
  · rw [if_neg h1]; exact h
theorem v_take {S M : Tb} (R : Rel S M) (h : Wei M) (p1 : Int32) : Wei (om_take M p1).2 := by
  unfold om_take
  by_cases h1 : isH p1 = true
  · rw [if_pos h1]
    obtain ⟨j, hj, rfl⟩ := isH_of h1
    rw [cl24 hj]
    unfold mj_take
    by_cases h0 : M 0 j = 0
    · rw [if_pos h0]; exact h
    · rw [if_neg h0]
      by_cases h3 : M 3 j = 0
      · rw [if_pos h3]; exact h
      · rw [if_neg h3]
        by_cases h5 : M 5 j = 0
        · rw [if_pos h5]; exact h
        · rw [if_neg h5]
          obtain ⟨n, n10, hn⟩ := R.invM j hj
          obtain ⟨q, q10, hq⟩ := n_succ hn n10 h5
          exact v_rm h hq q10
  · rw [if_neg h1]; exact h
theorem v_move {S M : Tb} (R : Rel S M) (h : Wei M) (p1 p2 : Int32) : Wei (om_move M p1 p2).2 := by
  unfold om_move
  by_cases h1 : isH p1 = true
  · rw [if_pos h1]
    by_cases h2 : isH p2 = true
    · rw [if_pos h2]
      obtain ⟨i, hi, rfl⟩ := isH_of h1
      obtain ⟨j, hj, rfl⟩ := isH_of h2
      rw [cl24 hi, cl24 hj]
      unfold mj_move
      by_cases m0 : M 0 i = 0
      · rw [if_pos m0]; exact h
      · rw [if_neg m0]
        by_cases m1 : M 0 j = 0
        · rw [if_pos m1]; exact h
        · rw [if_neg m1]
          by_cases h3 : M 3 i = 0
          · rw [if_pos h3]; exact h
          · rw [if_neg h3]
            by_cases h4 : M 3 j = 0
            · rw [if_pos h4]; exact h
            · rw [if_neg h4]
              by_cases h5 : M 5 i = 0
              · rw [if_pos h5]; exact h
              · rw [if_neg h5]
                obtain ⟨n, n10, hn⟩ := R.invM i hi
                obtain ⟨q, q10, hq⟩ := n_succ hn n10 h5
                obtain ⟨x, hx, ex⟩ := v_rmV h hi m0 hq q10
                by_cases hk : okA (rmS M i) j (rmV M i) = true
                · rw [if_pos hk]
                  rw [ex] at hk ⊢
                  exact v_ac (v_rm h hq q10) hj (show ¬ rmS M i 0 j = 0 from m1) hx hk
                · rw [if_neg hk, ac_rm M hq q10]; exact h
    · rw [if_neg h2]; exact h
  · rw [if_neg h1]; exact h
theorem v_swap {M : Tb} (h : Wei M) (p1 p2 : Int32) : Wei (om_swap M p1 p2).2 := by
  unfold om_swap
  by_cases h1 : isH p1 = true
  · rw [if_pos h1]
    by_cases h2 : isH p2 = true
    · rw [if_pos h2]
      obtain ⟨i, hi, rfl⟩ := isH_of h1
      obtain ⟨j, hj, rfl⟩ := isH_of h2
      rw [cl24 hi, cl24 hj]
      unfold mj_swap
      by_cases m0 : M 0 i = 0
      · rw [if_pos m0]; exact h
      · rw [if_neg m0]
        by_cases m1 : M 0 j = 0
        · rw [if_pos m1]; exact h
        · rw [if_neg m1]
          by_cases h3 : M 3 i = 0
          · rw [if_pos h3]; exact h
          · rw [if_neg h3]
            by_cases h4 : M 3 j = 0
            · rw [if_pos h4]; exact h
            · rw [if_neg h4]
              by_cases c1 : M 1 j < wt M i
              · rw [if_pos c1]; exact h
              · rw [if_neg c1]
                by_cases c2 : wt M j ≤ M 1 i
                · rw [if_pos c2, swM_eq]; exact v_ex h hi hj m0 m1 c1 c2
                · rw [if_neg c2]; exact h
    · rw [if_neg h2]; exact h
  · rw [if_neg h1]; exact h
theorem vf_find (w : Int32) : ∀ (d k : Nat) {M : Tb}, Wei M → Wei (mf_find w d k M).2
  | 0, _, _, h => h
  | d + 1, k, M, h => by
    unfold mf_find
    split
    · exact vf_find w d (k + 1) h
    · split
      · exact vf_find w d (k + 1) (M := ml M k 3) h
      · split
        · exact h
        · exact vf_find w d (k + 1) (M := ml M k 1) h
theorem v_find {M : Tb} (h : Wei M) (p1 : Int32) : Wei (om_find M p1).2 := by
  unfold om_find
  split
  · exact vf_find p1 24 0 h
  · exact h
theorem vf_first (w : Int32) : ∀ (d k : Nat) {M : Tb}, Wei M → Wei (mf_first w d k M).2
  | 0, _, _, h => h
  | d + 1, k, M, h => by
    unfold mf_first
    split
    · exact vf_first w d (k + 1) h
    · split
      · exact vf_first w d (k + 1) (M := ml M k 1) h
      · exact h
theorem v_first {M : Tb} (h : Wei M) (p1 : Int32) : Wei (om_first M p1).2 := by
  unfold om_first
  split
  · exact vf_first p1 24 0 h
  · exact h
theorem vf_tally : ∀ (d k : Nat) (z : Int64) {M : Tb}, Wei M → Wei (mf_tally d k z M).2
  | 0, _, _, _, h => h
  | d + 1, k, z, M, h => by
    unfold mf_tally
    split
    · exact vf_tally d (k + 1) z h
    · exact vf_tally d (k + 1) _ (M := ml M k 1) h
theorem v_tally {M : Tb} (h : Wei M) : Wei (om_tally M).2 := vf_tally 24 0 0 (M := sU M 9 0 (M 9 0 + 1)) h
theorem vf_let (i : Nat) (how : Int32) : ∀ (k : Nat) {M : Tb}, Wei M → Wei (mf_let i how k M)
  | 0, _, h => h
  | k + 1, M, h => vf_let i how k (M := ml M ((i + k) % 24) how) h
theorem v_weigh {M : Tb} (h : Wei M) (p1 p2 : Int32) : Wei (om_weigh M p1 p2).2 := by
  have h9 : Wei (sU M 9 0 (M 9 0 + 1)) := h
  unfold om_weigh mj_weigh
  split
  · split
    · exact h
    · split
      · split
        · exact vf_let _ _ _ h9
        · exact vf_let _ _ _ h9
      · exact h
  · exact h
theorem vf_drop (j : Nat) (hj : j < 24) (m : Int32) : ∀ (d : Nat) (g : Int32) {M : Tb}, Inv M → Wei M → Wei (of_drop j m d g M).2
  | 0, _, _, _, h => h
  | d + 1, g, M, hI, h => by
    unfold of_drop
    by_cases h1 : M 5 j ≤ 0
    · rw [if_pos h1]; exact h
    · obtain ⟨n, n10, hn⟩ := hI j hj
      obtain ⟨q, q10, hq⟩ := n_succ hn n10 (fun z => h1 (by rw [z]; decide))
      rw [if_neg h1]
      split
      · exact vf_drop j hj m d _ (hI.rm hq q10) (v_rm h hq q10)
      · exact v_rm h hq q10
theorem v_drop {S M : Tb} (R : Rel S M) (h : Wei M) (p1 p2 p3 : Int32) : Wei (om_drop M p1 p2 p3).2 := by
  unfold om_drop
  by_cases h1 : isH p1 = true
  · rw [if_pos h1]
    obtain ⟨j, hj, rfl⟩ := isH_of h1
    rw [cl24 hj]
    split
    · exact h
    · split
      · unfold mj_drop
        split
        · exact h
        · split
          · exact h
          · exact vf_drop j hj p3 _ 0 R.invM h
      · exact h
  · rw [if_neg h1]; exact h
theorem v_recode {M : Tb} (h : Wei M) (p1 p2 : Int32) : Wei (om_recode M p1 p2).2 := by
  unfold om_recode mj_recode
  split
  · split
    · exact h
    · split
      · exact h
      · exact h
  · exact h
theorem v_told {M : Tb} (h : Wei M) (p1 p2 : Int32) : Wei (om_told M p1 p2).2 := by
  unfold om_told
  repeat' split
  all_goals exact h
theorem v_item {M : Tb} (h : Wei M) (p1 p2 : Int32) : Wei (om_item M p1 p2).2 := by
  unfold om_item
  repeat' split
  all_goals exact h
theorem v_mount {M : Tb} (h : Wei M) (p1 p2 p3 : Int32) : Wei (om_mount M p1 p2 p3).2 := by
  unfold om_mount
  by_cases h1 : isH p1 = true
  · rw [if_pos h1]
    by_cases h2 : isWt p2 = true
    · rw [if_pos h2]
      obtain ⟨j, hj, rfl⟩ := isH_of h1
      obtain ⟨x, hx, rfl⟩ := isWt_of h2
      rw [cl24 hj]
      split
      · intro i hi
        by_cases hij : i = j
        · subst hij
          intro _
          exact ⟨0, fun _ => 0, x, by omega, by simp [sU, nI_0], fun k hk => absurd hk (by omega), hx, by simp [sU], Nat.zero_le _⟩
        · refine (h i hi).congr ?_ ?_ ?_ (fun k hk => rfl)
          · simp only [sU_oj _ _ 0 _ hij]
          · simp only [sU_oj _ _ 1 _ hij]
          · simp only [sU_oj _ _ 5 _ hij]
      · exact h
    · rw [if_neg h2]; exact h
  · rw [if_neg h1]; exact h
theorem v_unmount {M : Tb} (h : Wei M) (p1 : Int32) : Wei (om_unmount M p1).2 := by
  have h9 : Wei (sU M 9 0 (M 9 0 + 1)) := h
  generalize hM : sU M 9 0 (M 9 0 + 1) = M1 at h9
  unfold om_unmount
  rw [hM]
  by_cases h1 : isH p1 = true
  · rw [if_pos h1]
    obtain ⟨j, hj, rfl⟩ := isH_of h1
    rw [cl24 hj]
    unfold mj_unmount
    split
    · exact h9
    · split
      · intro i hi
        by_cases hij : i = j
        · subst hij
          intro hm
          exact absurd (by simp [ml, sU]) hm
        · refine (h9 i hi).congr ?_ rfl rfl (fun k hk => rfl)
          show sU M1 0 j 0 0 i = M1 0 i
          rw [sU_oj _ 0 0 _ hij]
      · exact h9
  · rw [if_neg h1]; exact h
