/-! ONE ANSWER, and the relation again: method by method -/
abbrev Ok (a b : Int32 × Tb) : Prop := a.1 = b.1 ∧ Rel a.2 b.2
theorem Ok.bad {S M : Tb} (h : Rel S M) (r : Int32) : Ok (r, S) (r, M) := ⟨rfl, h⟩
theorem Ok.of {S M : Tb} {r r' : Int32} (e : r = r') (h : Rel S M) : Ok (r, S) (r', M) := ⟨e, h⟩
theorem nH {i : Int32} (h : ¬ isH i = true) : isH i = false := by simpa using h
theorem q_open {S M : Tb} (h : Rel S M) (p1 p2 : Int32) : Ok (oc_open S p1 p2) (om_open M p1 p2) := by
  unfold oc_open om_open
  by_cases h1 : isH p1 = true
  · rw [if_pos h1, if_pos h1]
    obtain ⟨j, hj, rfl⟩ := isH_of h1
    rw [cl24 hj]
    unfold oj_open mj_open
    rw [h.c0 hj]
    by_cases h0 : M 0 j = 0
    · rw [if_pos h0, if_pos h0]; exact Ok.bad h _
    · rw [if_neg h0, if_neg h0, h.col hj h0 (show 4 < 8 by decide), h.col hj h0 (show 2 < 8 by decide)]
      obtain ⟨-, ⟨t, t3, a4⟩, -⟩ := h.2 j hj
      by_cases ht : t = 3
      · have e4 : M 4 j = 3 := by rw [a4, ht]; rfl
        rw [if_neg (by rw [e4]; decide), if_pos e4]
        exact ⟨rfl, ((h.hd hj).lg j 2)⟩
      · have e4 : M 4 j < 3 := by rw [a4]; exact nI_lt (b := 3) (by omega) (by decide)
        have e5 : ¬ M 4 j = 3 := fun q => by rw [q] at e4; exact absurd e4 (by decide)
        rw [if_pos e4, if_neg e5]
        by_cases hc : M 2 j = p2
        · rw [if_pos hc, if_pos hc.symm]
          refine ⟨rfl, ?_⟩
          rw [ml_eq, hd_sU _ j j _ (show 4 ≠ 6 by decide), hd_sU _ j j _ (show 3 ≠ 6 by decide)]
          exact ((((h.hd hj).set (by decide) (by decide) (by decide) (fun q => by cases q) (fun _ => rfl)).set (by decide) (by decide) (by decide) (fun _ => ⟨0, by omega, nI_0.symm⟩) (fun _ => rfl)).lg j 1)
        · rw [if_neg hc, if_neg (fun q => hc q.symm)]
          refine ⟨rfl, ?_⟩
          rw [ml_eq, hd_sU _ j j _ (show 4 ≠ 6 by decide)]
          exact (((h.hd hj).set (by decide) (by decide) (by decide) (fun _ => ⟨t + 1, by omega, by rw [a4, nI_1]⟩) (fun _ => rfl)).lg j 4)
  · rw [if_neg h1, if_neg h1]; exact Ok.bad h _
theorem q_shut {S M : Tb} (h : Rel S M) (p1 : Int32) : Ok (oc_shut S p1) (om_shut M p1) := by
  unfold oc_shut om_shut
  by_cases h1 : isH p1 = true
  · rw [if_pos h1, if_pos h1]
    obtain ⟨j, hj, rfl⟩ := isH_of h1
    rw [cl24 hj]
    unfold oj_shut mj_shut
    rw [h.c0 hj]
    by_cases h0 : M 0 j = 0
    · rw [if_pos h0, if_pos h0]; exact Ok.bad h _
    · rw [if_neg h0, if_neg h0, h.col hj h0 (show 3 < 8 by decide)]
      by_cases h3 : M 3 j = 0
      · rw [if_pos h3, if_pos h3]; exact ⟨rfl, (h.hd hj).lg j 2⟩
      · rw [if_neg h3, if_neg h3]
        refine ⟨rfl, ?_⟩
        rw [ml_eq, hd_sU _ j j _ (show 3 ≠ 6 by decide)]
        exact (((h.hd hj).set (by decide) (by decide) (by decide) (fun q => by cases q) (fun _ => rfl)).lg j 1)
  · rw [if_neg h1, if_neg h1]; exact Ok.bad h _
theorem q_put {S M : Tb} (h : Rel S M) (p1 p2 : Int32) : Ok (oc_put S p1 p2) (om_put M p1 p2) := by
  unfold oc_put om_put
  by_cases h1 : isH p1 = true
  · rw [if_pos h1, if_pos h1]
    by_cases h2 : isWt p2 = true
    · rw [if_pos h2, if_pos h2]
      obtain ⟨j, hj, rfl⟩ := isH_of h1
      rw [cl24 hj]
      unfold oj_put mj_put
      rw [h.c0 hj]
      by_cases h0 : M 0 j = 0
      · rw [if_pos h0, if_pos h0]; exact Ok.bad h _
      · rw [if_neg h0, if_neg h0, h.col hj h0 (show 3 < 8 by decide)]
        by_cases h3 : M 3 j = 0
        · rw [if_pos h3, if_pos h3]; exact ⟨rfl, (h.hd hj).lg j 2⟩
        · have ek : okA (hd S j) j p2 = okA M j p2 := ((h.hd hj).kA hj h0 p2).trans rfl
          rw [if_neg h3, if_neg h3, ek]
          by_cases hk : okA M j p2 = true
          · rw [if_pos hk, if_pos hk]
            obtain ⟨n, n10, hn⟩ := h.invM j hj
            have R := (h.hd hj).ac hj h0 (show hd M j 5 j = nI n from hn) (okA_lt hn n10 hk) p2
            refine ⟨?_, ?_⟩
            · show acS (hd S j) j p2 5 j = acS M j p2 5 j
              rw [ac_5, if_pos rfl, ac_5, if_pos rfl]
              exact congrArg (· + 1) (h.col hj h0 (show 5 < 8 by decide))
            · rw [ml_eq, hd_ac]
              exact R.lg j 1
          · rw [if_neg hk, if_neg hk]; exact ⟨rfl, (h.hd hj).lg j 4⟩
    · rw [if_neg h2, if_neg h2]; exact Ok.bad h _
  · rw [if_neg h1, if_neg h1]; exact Ok.bad h _
theorem q_take {S M : Tb} (h : Rel S M) (p1 : Int32) : Ok (oc_take S p1) (om_take M p1) := by
  unfold oc_take om_take
  by_cases h1 : isH p1 = true
  · rw [if_pos h1, if_pos h1]
    obtain ⟨j, hj, rfl⟩ := isH_of h1
    rw [cl24 hj]
    unfold oj_take mj_take
    rw [h.c0 hj]
    by_cases h0 : M 0 j = 0
    · rw [if_pos h0, if_pos h0]; exact Ok.bad h _
    · rw [if_neg h0, if_neg h0, h.col hj h0 (show 3 < 8 by decide), h.col hj h0 (show 5 < 8 by decide)]
      by_cases h3 : M 3 j = 0
      · rw [if_pos h3, if_pos h3]; exact ⟨rfl, (h.hd hj).lg j 2⟩
      · rw [if_neg h3, if_neg h3]
        by_cases h5 : M 5 j = 0
        · rw [if_pos h5, if_pos h5]; exact ⟨rfl, (h.hd hj).lg j 4⟩
        · rw [if_neg h5, if_neg h5]
          obtain ⟨n, n10, hn⟩ := h.invM j hj
          obtain ⟨q, q10, hq⟩ := n_succ hn n10 h5
          refine ⟨((h.hd hj).rV hj h0 (show hd M j 5 j = nI (q + 1) from hq) q10).trans rfl, ?_⟩
          rw [ml_eq, hd_rm]
          exact ((h.hd hj).rm hj h0 (show hd M j 5 j = nI (q + 1) from hq) q10).lg j 1
  · rw [if_neg h1, if_neg h1]; exact Ok.bad h _
theorem ac_rm (M : Tb) {i q : Nat} (hq : M 5 i = nI (q + 1)) (hq10 : q < 10) : acS (rmS M i) i (rmV M i) = M := by
  have e5 : rmS M i 5 i = nI q := by rw [rmS, sU_self, hq, nI_pred]
  have ev : rmV M i = M 8 (10 * i + q) := by rw [rmV, hq, nI_pred, nI_clamp (by omega)]
  funext c r
  by_cases h5 : c = 5
  · subst h5
    rw [ac_5, e5]
    by_cases hr : r = i
    · rw [if_pos hr, hr, hq, nI_1]
    · rw [if_neg hr, rmS, sU_oj M 5 5 _ hr]
  · by_cases h8 : c = 8
    · subst h8
      rw [ac_8, e5, nI_clamp (by omega), ev]
      by_cases hr : r = 10 * i + q
      · rw [if_pos hr, hr]
      · rw [if_neg hr, rmS, sU_oc M i _ (by decide)]
    · rw [ac_c _ i _ h5 h8, rmS, sU_oc M i _ h5]
theorem wt_rm {M : Tb} {i q : Nat} (hq : M 5 i = nI (q + 1)) (hq10 : q < 10) : wt (rmS M i) i + rmV M i = wt M i := by
  have e5 : rmS M i 5 i = nI q := by rw [rmS, sU_self, hq, nI_pred]
  rw [wt_n e5 (by omega), wt_n hq (by omega), rmV, hq, nI_pred, nI_clamp (by omega)]
  rfl
theorem ok_rm {M : Tb} {i q : Nat} (hq : M 5 i = nI (q + 1)) (hq10 : q < 10) (hw : wt M i ≤ M 1 i) : okA (rmS M i) i (rmV M i) = true := by
  have e5 : rmS M i 5 i = nI q := by rw [rmS, sU_self, hq, nI_pred]
  have h1 : ¬ (10 : Int32) ≤ rmS M i 5 i := by rw [e5]; exact nI_ge (b := 10) hq10 (by decide)
  have h2 : wt (rmS M i) i + rmV M i ≤ rmS M i 1 i := by rw [wt_rm hq hq10]; exact hw
  unfold okA
  rw [decide_eq_true h2, decide_eq_false h1]
  rfl
theorem q_omv {S M : Tb} (h : Rel S M) {i j : Nat} (hi : i < 24) (hj : j < 24) (mi : ¬ M 0 i = 0) (mj : ¬ M 0 j = 0) (hwi : wt M i ≤ M 1 i) :
    Ok (omv S i j) (if M 5 i = 0 then (-6, lg2 M i j 4) else if okA (rmS M i) j (rmV M i) = true then (rmV M i, lg2 (acS (rmS M i) j (rmV M i)) i j 1) else (-5, lg2 (acS (rmS M i) i (rmV M i)) i j 4)) := by
  unfold omv
  rw [h.col hi mi (show 5 < 8 by decide)]
  by_cases h5 : M 5 i = 0
  · rw [if_pos h5, if_pos h5]; exact ⟨rfl, h.lg2 i j 4⟩
  · rw [if_neg h5, if_neg h5]
    obtain ⟨n, n10, hn⟩ := h.invM i hi
    obtain ⟨q, q10, hq⟩ := n_succ hn n10 h5
    have R1 := h.rm hi mi hq q10
    have ev := h.rV hi mi hq q10
    rw [ev, R1.kA hj (show ¬ rmS M i 0 j = 0 from mj) (rmV M i)]
    by_cases hk : okA (rmS M i) j (rmV M i) = true
    · rw [if_pos hk, if_pos hk]
      obtain ⟨n', n10', hn'⟩ := R1.invM j hj
      exact ⟨rfl, (R1.ac hj (show ¬ rmS M i 0 j = 0 from mj) hn' (okA_lt hn' n10' hk) _).lg2 i j 1⟩
    · rw [if_neg hk, if_neg hk, R1.kA hi (show ¬ rmS M i 0 i = 0 from mi) (rmV M i), if_pos (ok_rm hq q10 hwi)]
      exact ⟨rfl, (R1.ac hi (show ¬ rmS M i 0 i = 0 from mi) (show rmS M i 5 i = nI q by rw [rmS, sU_self, hq, nI_pred]) q10 (rmV M i)).lg2 i j 4⟩
theorem wt_hd (M : Tb) (i j : Nat) : wt (hd M j) i = wt M i := rfl
theorem q_move {S M : Tb} (h : Rel S M) (hW : ∀ i, i < 24 → ¬ M 0 i = 0 → wt M i ≤ M 1 i) (p1 p2 : Int32) : Ok (oc_act S p1 p2 0) (om_move M p1 p2) := by
  unfold oc_act om_move
  by_cases h1 : isH p1 = true
  · rw [if_pos h1, if_pos h1]
    by_cases h2 : isH p2 = true
    · rw [if_pos h2, if_pos h2]
      obtain ⟨i, hi, rfl⟩ := isH_of h1
      obtain ⟨j, hj, rfl⟩ := isH_of h2
      rw [cl24 hi, cl24 hj]
      unfold oj_act mj_move
      rw [h.c0 hi, h.c0 hj]
      by_cases m0 : M 0 i = 0
      · rw [if_pos m0, if_pos m0]; exact Ok.bad h _
      · rw [if_neg m0, if_neg m0]
        by_cases m1 : M 0 j = 0
        · rw [if_pos m1, if_pos m1]; exact ⟨rfl, (h.hd hi).lg i 4⟩
        · have R := (h.hd hi).hd hj
          rw [if_neg m1, if_neg m1, h.col hi m0 (show 3 < 8 by decide), h.col hj m1 (show 3 < 8 by decide)]
          by_cases h3 : M 3 i = 0
          · rw [if_pos h3, if_pos h3]; exact ⟨rfl, R.lg2 i j 2⟩
          · rw [if_neg h3, if_neg h3]
            by_cases h4 : M 3 j = 0
            · rw [if_pos h4, if_pos h4]; exact ⟨rfl, R.lg2 i j 2⟩
            · rw [if_neg h4, if_neg h4, if_pos rfl]
              have Z := q_omv R hi hj (show ¬ hd (hd M i) j 0 i = 0 from m0) (show ¬ hd (hd M i) j 0 j = 0 from m1) (show wt (hd (hd M i) j) i ≤ hd (hd M i) j 1 i from hW i hi m0)
              refine ⟨Z.1.trans ?_, ?_⟩
              · show (if M 5 i = 0 then _ else if okA (rmS M i) j (rmV M i) = true then _ else _ : Int32 × Tb).1 = _
                by_cases h5 : M 5 i = 0
                · rw [if_pos h5, if_pos h5]
                · rw [if_neg h5, if_neg h5]
                  by_cases hk : okA (rmS M i) j (rmV M i) = true
                  · rw [if_pos hk, if_pos hk]; rfl
                  · rw [if_neg hk, if_neg hk]
              · have Z2 := Z.2
                have e5 : hd (hd M i) j 5 i = M 5 i := rfl
                have eo : okA (rmS (hd (hd M i) j) i) j (rmV (hd (hd M i) j) i) = okA (rmS M i) j (rmV M i) := rfl
                have ev : rmV (hd (hd M i) j) i = rmV M i := rfl
                rw [e5, eo, ev, ← hd_rm, ← hd_rm, ← hd_ac, ← hd_ac, ← hd_ac, ← hd_ac] at Z2
                exact Z2
    · rw [if_neg h2, if_neg h2]; exact Ok.bad h _
  · rw [if_neg h1, if_neg h1]; exact Ok.bad h _
/-! the swap's loop -/
theorem sw_c (i j : Nat) : ∀ (d k : Nat) (M : Tb) (c r : Nat), c ≠ 8 → of_sw i j d k M c r = M c r
  | 0, _, _, _, _, _ => rfl
  | d + 1, k, M, c, r, h => by
    show of_sw i j d (k + 1) _ c r = _
    rw [sw_c i j d (k + 1) _ c r h, sU_oc _ _ _ h, sU_oc _ _ _ h]
theorem sw_8 (i j : Nat) : ∀ (d k : Nat) (M : Tb) (r : Nat), k + d ≤ 10 → of_sw i j d k M 8 r = if k ≤ r % 10 ∧ r % 10 < k + d then (if r / 10 = i then M 8 (10 * j + r % 10) else if r / 10 = j then M 8 (10 * i + r % 10) else M 8 r) else M 8 r
  | 0, k, M, r, h => by
    rw [if_neg (by omega)]; rfl
  | d + 1, k, M, r, h => by
    show of_sw i j d (k + 1) _ 8 r = _
    rw [sw_8 i j d (k + 1) _ r (by omega)]
    have st : ∀ x, sU (sU M 8 (10 * i + k) (M 8 (10 * j + k))) 8 (10 * j + k) (M 8 (10 * i + k)) 8 x = if x = 10 * j + k then M 8 (10 * i + k) else if x = 10 * i + k then M 8 (10 * j + k) else M 8 x := by
      intro x
      simp [sU]
    rw [st, st, st]
    by_cases hk : r % 10 = k
    · rw [if_neg (show ¬ (k + 1 ≤ r % 10 ∧ r % 10 < k + 1 + d) by omega), if_pos (show k ≤ r % 10 ∧ r % 10 < k + (d + 1) by omega)]
      by_cases hj : r / 10 = j
      · rw [if_pos (show r = 10 * j + k by omega)]
        by_cases hi : r / 10 = i
        · rw [if_pos hi]
          have e : 10 * i + k = 10 * j + r % 10 := by omega
          rw [e]
        · rw [if_neg hi, if_pos hj, hk]
      · rw [if_neg (show ¬ r = 10 * j + k by omega)]
        by_cases hi : r / 10 = i
        · rw [if_pos (show r = 10 * i + k by omega), if_pos hi, hk]
        · rw [if_neg (show ¬ r = 10 * i + k by omega), if_neg hi, if_neg hj]
    · by_cases hin : k ≤ r % 10 ∧ r % 10 < k + (d + 1)
      · rw [if_pos (show k + 1 ≤ r % 10 ∧ r % 10 < k + 1 + d by omega), if_pos hin]
        by_cases hi : r / 10 = i
        · rw [if_pos hi, if_pos hi, if_neg (by omega), if_neg (by omega)]
        · rw [if_neg hi, if_neg hi]
          by_cases hj : r / 10 = j
          · rw [if_pos hj, if_pos hj, if_neg (by omega), if_neg (by omega)]
          · rw [if_neg hj, if_neg hj, if_neg (by omega), if_neg (by omega)]
      · rw [if_neg (show ¬ (k + 1 ≤ r % 10 ∧ r % 10 < k + 1 + d) by omega), if_neg hin, if_neg (by omega), if_neg (by omega)]
theorem swM_eq (M : Tb) (i j : Nat) : swM M i j = exS M i j := by
  funext c r
  by_cases h5 : c = 5
  · subst h5
    rw [exS_5, swM]
    by_cases hj : r = j
    · subst hj
      rw [sU_self, sw_c i r 10 0 M 5 i (by decide)]
      by_cases hi : r = i
      · subst hi; rw [if_pos rfl]
      · rw [if_neg hi, if_pos rfl]
    · rw [sU_oj _ 5 5 _ hj]
      by_cases hi : r = i
      · subst hi; rw [sU_self, if_pos rfl, sw_c r j 10 0 M 5 j (by decide)]
      · rw [sU_oj _ 5 5 _ hi, if_neg hi, if_neg hj, sw_c i j 10 0 M 5 r (by decide)]
  · rw [swM, sU_oc _ _ _ h5, sU_oc _ _ _ h5]
    by_cases h8 : c = 8
    · subst h8
      rw [sw_8 i j 10 0 M r (by omega), if_pos (by omega)]
      simp [exS]
    · rw [sw_c i j 10 0 M c r h8, exS_c M i j h5 h8]
theorem q_swap {S M : Tb} (h : Rel S M) (p1 p2 : Int32) : Ok (oc_act S p1 p2 1) (om_swap M p1 p2) := by
  unfold oc_act om_swap
  by_cases h1 : isH p1 = true
  · rw [if_pos h1, if_pos h1]
    by_cases h2 : isH p2 = true
    · rw [if_pos h2, if_pos h2]
      obtain ⟨i, hi, rfl⟩ := isH_of h1
      obtain ⟨j, hj, rfl⟩ := isH_of h2
      rw [cl24 hi, cl24 hj]
      unfold oj_act mj_swap
      rw [h.c0 hi, h.c0 hj]
      by_cases m0 : M 0 i = 0
      · rw [if_pos m0, if_pos m0]; exact Ok.bad h _
      · rw [if_neg m0, if_neg m0]
        by_cases m1 : M 0 j = 0
        · rw [if_pos m1, if_pos m1]; exact ⟨rfl, (h.hd hi).lg i 4⟩
        · have R := (h.hd hi).hd hj
          rw [if_neg m1, if_neg m1, h.col hi m0 (show 3 < 8 by decide), h.col hj m1 (show 3 < 8 by decide)]
          by_cases h3 : M 3 i = 0
          · rw [if_pos h3, if_pos h3]; exact ⟨rfl, R.lg2 i j 2⟩
          · rw [if_neg h3, if_neg h3]
            by_cases h4 : M 3 j = 0
            · rw [if_pos h4, if_pos h4]; exact ⟨rfl, R.lg2 i j 2⟩
            · rw [if_neg h4, if_neg h4, if_neg (by decide)]
              unfold oex
              have e1 : wt (hd (hd S i) j) i = wt M i := (R.wt hi (show ¬ hd (hd M i) j 0 i = 0 from m0)).trans rfl
              have e2 : wt (hd (hd S i) j) j = wt M j := (R.wt hj (show ¬ hd (hd M i) j 0 j = 0 from m1)).trans rfl
              have e3 : hd (hd S i) j 1 i = M 1 i := h.col hi m0 (by decide)
              have e4 : hd (hd S i) j 1 j = M 1 j := h.col hj m1 (by decide)
              rw [e1, e2, e3, e4]
              by_cases c1 : M 1 j < wt M i
              · rw [if_pos c1, if_pos c1]; exact ⟨rfl, R.lg2 i j 4⟩
              · rw [if_neg c1, if_neg c1]
                by_cases c2 : wt M j ≤ M 1 i
                · rw [if_pos c2, if_pos c2, swM_eq]
                  have X := R.ex hi hj (show ¬ hd (hd M i) j 0 i = 0 from m0) (show ¬ hd (hd M i) j 0 j = 0 from m1)
                  refine ⟨?_, ?_⟩
                  · have x1 : exS (hd (hd S i) j) i j 5 i = exS M i j 5 i := (X.col hi (show ¬ exS (hd (hd M i) j) i j 0 i = 0 from m0) (show 5 < 8 by decide)).trans rfl
                    have x2 : exS (hd (hd S i) j) i j 5 j = exS M i j 5 j := (X.col hj (show ¬ exS (hd (hd M i) j) i j 0 j = 0 from m1) (show 5 < 8 by decide)).trans rfl
                    show exS (hd (hd S i) j) i j 5 i + exS (hd (hd S i) j) i j 5 j = _
                    rw [x1, x2]
                  · rw [ml2_eq, hd_ex, hd_ex]
                    exact X.lg2 i j 1
                · rw [if_neg c2, if_neg c2]; exact ⟨rfl, R.lg2 i j 4⟩
    · rw [if_neg h2, if_neg h2]; exact Ok.bad h _
  · rw [if_neg h1, if_neg h1]; exact Ok.bad h _
