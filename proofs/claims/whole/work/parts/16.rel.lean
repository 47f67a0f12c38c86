/-! THE RELATION between the wall's table and the reference's -/
def Row (S M : Tb) (i : Nat) : Prop := S 0 i = M 0 i ∧ (∃ t : Nat, t ≤ 3 ∧ M 4 i = nI t) ∧ (∃ n : Nat, n ≤ 10 ∧ S 5 i = nI n) ∧ ∃ n : Nat, n ≤ 10 ∧ M 5 i = nI n ∧ (¬ M 0 i = 0 → (∀ c, c < 8 → S c i = M c i) ∧ ∀ k, k < n → S 8 (10 * i + k) = M 8 (10 * i + k))
def Rel (S M : Tb) : Prop := S 9 0 = M 9 0 ∧ ∀ i, i < 24 → Row S M i
theorem Rel.inv {S M : Tb} (h : Rel S M) : Inv S := fun i hi => (h.2 i hi).2.2.1
theorem Rel.invM {S M : Tb} (h : Rel S M) : Inv M := fun i hi => by
  obtain ⟨-, -, -, n, h1, h2, -⟩ := h.2 i hi
  exact ⟨n, h1, h2⟩
theorem Rel.c0 {S M : Tb} (h : Rel S M) {i : Nat} (hi : i < 24) : S 0 i = M 0 i := (h.2 i hi).1
theorem Rel.col {S M : Tb} (h : Rel S M) {i : Nat} (hi : i < 24) (hm : ¬ M 0 i = 0) {c : Nat} (hc : c < 8) : S c i = M c i := by
  obtain ⟨-, -, -, n, -, -, h3⟩ := h.2 i hi
  exact (h3 hm).1 c hc
theorem Row.congr {S M S' M' : Tb} {i : Nat} (h : Row S M i) (h1 : ∀ c, c < 8 → S' c i = S c i) (h2 : ∀ c, c < 8 → M' c i = M c i) (h3 : ∀ k, k < 10 → S' 8 (10 * i + k) = S 8 (10 * i + k)) (h4 : ∀ k, k < 10 → M' 8 (10 * i + k) = M 8 (10 * i + k)) : Row S' M' i := by
  obtain ⟨a0, ⟨t, t3, a4⟩, ⟨n1, n10, a5⟩, n, m10, b5, b⟩ := h
  refine ⟨by rw [h1 0 (by decide), h2 0 (by decide)]; exact a0, ⟨t, t3, by rw [h2 4 (by decide)]; exact a4⟩, ⟨n1, n10, by rw [h1 5 (by decide)]; exact a5⟩, n, m10, by rw [h2 5 (by decide)]; exact b5, fun hm => ?_⟩
  rw [h2 0 (by decide)] at hm
  obtain ⟨b1, b2⟩ := b hm
  exact ⟨fun c hc => by rw [h1 c hc, h2 c hc]; exact b1 c hc, fun k hk => by rw [h3 k (by omega), h4 k (by omega)]; exact b2 k hk⟩
theorem Rel.set {S M : Tb} (h : Rel S M) {c j : Nat} {v v' : Int32} (hc : c < 8) (h0 : c ≠ 0) (h5 : c ≠ 5) (h4 : c = 4 → ∃ t : Nat, t ≤ 3 ∧ v' = nI t) (hv : ¬ M 0 j = 0 → v = v') : Rel (sU S c j v) (sU M c j v') := by
  refine ⟨by rw [sU_oc S j v (show 9 ≠ c by omega), sU_oc M j v' (show 9 ≠ c by omega)]; exact h.1, fun i hi => ?_⟩
  by_cases hij : i = j
  · subst hij
    obtain ⟨a0, ⟨t, t3, a4⟩, ⟨n1, n10, a5⟩, n, m10, b5, b⟩ := h.2 i hi
    refine ⟨by rw [sU_oc S i v (Ne.symm h0), sU_oc M i v' (Ne.symm h0)]; exact a0, ?_, ⟨n1, n10, by rw [sU_oc S i v (Ne.symm h5)]; exact a5⟩, n, m10, by rw [sU_oc M i v' (Ne.symm h5)]; exact b5, fun hm => ?_⟩
    · by_cases hc4 : c = 4
      · obtain ⟨t', h1, h2⟩ := h4 hc4
        exact ⟨t', h1, by rw [hc4, sU_self]; exact h2⟩
      · exact ⟨t, t3, by rw [sU_oc M i v' (Ne.symm hc4)]; exact a4⟩
    · rw [sU_oc M i v' (Ne.symm h0)] at hm
      obtain ⟨b1, b2⟩ := b hm
      refine ⟨fun d hd => ?_, fun k hk => by rw [sU_oc S i v (show 8 ≠ c by omega), sU_oc M i v' (show 8 ≠ c by omega)]; exact b2 k hk⟩
      by_cases hdc : d = c
      · rw [hdc, sU_self, sU_self]; exact hv hm
      · rw [sU_oc S i v hdc, sU_oc M i v' hdc]; exact b1 d hd
  · exact (h.2 i hi).congr (fun d _ => sU_oj S c d v hij) (fun d _ => sU_oj M c d v' hij) (fun k _ => by rw [sU_oc S j v (show 8 ≠ c by omega)]) (fun k _ => by rw [sU_oc M j v' (show 8 ≠ c by omega)])
theorem Rel.hd {S M : Tb} (h : Rel S M) {j : Nat} (hj : j < 24) : Rel (hd S j) (hd M j) := h.set (by decide) (by decide) (by decide) (fun q => by cases q) (fun hm => by rw [h.col hj hm (by decide)])
theorem Rel.lg {S M : Tb} (h : Rel S M) (j : Nat) (how : Int32) : Rel (lg S j how) (lg M j how) := h.set (by decide) (by decide) (by decide) (fun q => by cases q) (fun _ => rfl)
theorem Rel.t9 {S M : Tb} (h : Rel S M) : Rel (sU S 9 0 (S 9 0 + 1)) (sU M 9 0 (M 9 0 + 1)) := by
  refine ⟨by rw [sU_self, sU_self, h.1], fun i hi => (h.2 i hi).congr (fun c hc => by rw [sU_oc S 0 _ (show c ≠ 9 by omega)]) (fun c hc => by rw [sU_oc M 0 _ (show c ≠ 9 by omega)]) (fun k _ => by rw [sU_oc S 0 _ (show 8 ≠ 9 by decide)]) (fun k _ => by rw [sU_oc M 0 _ (show 8 ≠ 9 by decide)])⟩
theorem Rel.rm {S M : Tb} (h : Rel S M) {j q : Nat} (hj : j < 24) (hm0 : ¬ M 0 j = 0) (hq : M 5 j = nI (q + 1)) (hq10 : q < 10) : Rel (rmS S j) (rmS M j) := by
  have e5 : S 5 j = M 5 j := h.col hj hm0 (by decide)
  refine ⟨by rw [rmS, rmS, sU_oc S j _ (by decide), sU_oc M j _ (by decide)]; exact h.1, fun i hi => ?_⟩
  by_cases hij : i = j
  · subst hij
    obtain ⟨a0, ⟨t, t3, a4⟩, -, n, m10, b5, b⟩ := h.2 i hi
    have hn : n = q + 1 := by
      rw [b5] at hq
      exact (nI_eq (by omega) (by omega)).mp hq
    refine ⟨a0, ⟨t, t3, a4⟩, ⟨q, by omega, by rw [rmS, sU_self, e5, hq, nI_pred]⟩, q, by omega, by rw [rmS, sU_self, hq, nI_pred], fun hm => ?_⟩
    obtain ⟨b1, b2⟩ := b hm0
    refine ⟨fun d hd => ?_, fun k hk => b2 k (by omega)⟩
    by_cases hd5 : d = 5
    · rw [hd5, rmS, rmS, sU_self, sU_self, e5]
    · rw [rmS, rmS, sU_oc S i _ hd5, sU_oc M i _ hd5]; exact b1 d hd
  · exact (h.2 i hi).congr (fun d _ => sU_oj S 5 d _ hij) (fun d _ => sU_oj M 5 d _ hij) (fun k _ => by rw [rmS, sU_oc S j _ (show 8 ≠ 5 by decide)]) (fun k _ => by rw [rmS, sU_oc M j _ (show 8 ≠ 5 by decide)])
theorem ac_c (S : Tb) (j : Nat) (w : Int32) {c : Nat} (h5 : c ≠ 5) (h8 : c ≠ 8) (r : Nat) : acS S j w c r = S c r := by
  rw [acS, sU_oc _ j _ h5, sU_oc S _ _ h8]
theorem ac_8 (S : Tb) (j : Nat) (w : Int32) (r : Nat) : acS S j w 8 r = if r = 10 * j + (S 5 j).toNatClampNeg then w else S 8 r := by
  rw [acS, sU_oc _ j _ (show 8 ≠ 5 by decide)]
  simp [sU]
theorem ac_5 (S : Tb) (j : Nat) (w : Int32) (r : Nat) : acS S j w 5 r = if r = j then S 5 j + 1 else S 5 r := by
  simp [acS, sU]
theorem Rel.ac {S M : Tb} (h : Rel S M) {j n : Nat} (hj : j < 24) (hm0 : ¬ M 0 j = 0) (hn : M 5 j = nI n) (hn10 : n < 10) (w : Int32) : Rel (acS S j w) (acS M j w) := by
  have e5 : S 5 j = M 5 j := h.col hj hm0 (by decide)
  have cl : (nI n).toNatClampNeg = n := nI_clamp (by omega)
  refine ⟨by rw [ac_c S j w (by decide) (by decide), ac_c M j w (by decide) (by decide)]; exact h.1, fun i hi => ?_⟩
  by_cases hij : i = j
  · subst hij
    obtain ⟨a0, ⟨t, t3, a4⟩, -, n', m10, b5, b⟩ := h.2 i hi
    have hn' : n' = n := by
      rw [b5] at hn
      exact (nI_eq (by omega) (by omega)).mp hn
    subst hn'
    refine ⟨by rw [ac_c S i w (by decide) (by decide), ac_c M i w (by decide) (by decide)]; exact a0, ⟨t, t3, by rw [ac_c M i w (by decide) (by decide)]; exact a4⟩, ⟨n' + 1, by omega, by rw [ac_5, if_pos rfl, e5, hn, nI_1]⟩, n' + 1, by omega, by rw [ac_5, if_pos rfl, hn, nI_1], fun hm => ?_⟩
    obtain ⟨b1, b2⟩ := b hm0
    refine ⟨fun d hd => ?_, fun k hk => ?_⟩
    · by_cases hd5 : d = 5
      · rw [hd5, ac_5, ac_5, if_pos rfl, if_pos rfl, e5]
      · rw [ac_c S i w hd5 (by omega), ac_c M i w hd5 (by omega)]; exact b1 d hd
    · rw [ac_8, ac_8, e5, hn, cl]
      by_cases hkn : k = n'
      · rw [hkn, if_pos rfl, if_pos rfl]
      · rw [if_neg (by omega), if_neg (by omega)]; exact b2 k (by omega)
  · refine (h.2 i hi).congr (fun d hd => ?_) (fun d hd => ?_) (fun k hk => ?_) (fun k hk => ?_)
    · by_cases hd5 : d = 5
      · rw [hd5, ac_5, if_neg hij]
      · exact ac_c S j w hd5 (by omega) i
    · by_cases hd5 : d = 5
      · rw [hd5, ac_5, if_neg hij]
      · exact ac_c M j w hd5 (by omega) i
    · rw [ac_8, e5, hn, cl, if_neg (by omega)]
    · rw [ac_8, hn, cl, if_neg (by omega)]
theorem exS_5 (S : Tb) (i j r : Nat) : exS S i j 5 r = if r = i then S 5 j else if r = j then S 5 i else S 5 r := by simp [exS]
theorem Rel.ex {S M : Tb} (h : Rel S M) {i j : Nat} (hi : i < 24) (hj : j < 24) (mi : ¬ M 0 i = 0) (mj : ¬ M 0 j = 0) : Rel (exS S i j) (exS M i j) := by
  refine ⟨by rw [exS_c S i j (by decide) (by decide), exS_c M i j (by decide) (by decide)]; exact h.1, fun r hr => ?_⟩
  have key : ∀ z, z < 24 → ¬ M 0 z = 0 → ¬ M 0 r = 0 → (∀ T : Tb, exS T i j 5 r = T 5 z) → (∀ (T : Tb) k, k < 10 → exS T i j 8 (10 * r + k) = T 8 (10 * z + k)) → Row (exS S i j) (exS M i j) r := by
    intro z hz hmz hmr k5 k8
    obtain ⟨a0, ⟨t, t3, a4⟩, -, -⟩ := h.2 r hr
    obtain ⟨-, -, ⟨n1, n10, a5⟩, n, m10, b5, b⟩ := h.2 z hz
    refine ⟨by rw [exS_c S i j (by decide) (by decide), exS_c M i j (by decide) (by decide)]; exact a0, ⟨t, t3, by rw [exS_c M i j (by decide) (by decide)]; exact a4⟩, ⟨n1, n10, by rw [k5]; exact a5⟩, n, m10, by rw [k5]; exact b5, fun _ => ⟨fun d hd => ?_, fun k hk => ?_⟩⟩
    · by_cases hd5 : d = 5
      · rw [hd5, k5, k5]; exact (b hmz).1 5 (by decide)
      · rw [exS_c S i j hd5 (by omega), exS_c M i j hd5 (by omega)]; exact h.col hr hmr hd
    · rw [k8 S k (by omega), k8 M k (by omega)]; exact (b hmz).2 k hk
  by_cases hri : r = i
  · subst hri
    exact key j hj mj mi (fun T => by rw [exS_5, if_pos rfl]) (fun T k hk => exS_8i T r j hk)
  · by_cases hrj : r = j
    · subst hrj
      exact key i hi mi mj (fun T => by rw [exS_5, if_neg hri, if_pos rfl]) (fun T k hk => exS_8j T i r hk)
    · refine (h.2 r hr).congr (fun d hd => ?_) (fun d hd => ?_) (fun k hk => exS_8o S i j hk hri hrj) (fun k hk => exS_8o M i j hk hri hrj)
      · by_cases hd5 : d = 5
        · rw [hd5, exS_5, if_neg hri, if_neg hrj]
        · exact exS_c S i j hd5 (by omega) r
      · by_cases hd5 : d = 5
        · rw [hd5, exS_5, if_neg hri, if_neg hrj]
        · exact exS_c M i j hd5 (by omega) r
/-! steps that don't meet change places -/
theorem sU_comm (M : Tb) {c d : Nat} (x y : Nat) (v u : Int32) (h : c ≠ d) : sU (sU M c x v) d y u = sU (sU M d y u) c x v := by
  funext a r
  by_cases h1 : a = d
  · subst h1; simp [sU, Ne.symm h]
  · by_cases h2 : a = c
    · subst h2; simp [sU, h]
    · simp [sU, h1, h2]
theorem hd_sU (M : Tb) {c : Nat} (j x : Nat) (v : Int32) (h : c ≠ 6) : hd (sU M c x v) j = sU (hd M j) c x v := by
  rw [hd, hd, sU_oc M x v (Ne.symm h), sU_comm M x j v _ h]
theorem hd_lg (M : Tb) (j x : Nat) (v : Int32) : hd (lg M x v) j = lg (hd M j) x v := hd_sU M j x v (by decide)
theorem hd_rm (M : Tb) (j i : Nat) : hd (rmS M i) j = rmS (hd M j) i := by
  rw [rmS, hd_sU M j i _ (by decide)]; rfl
theorem hd_ac (M : Tb) (j i : Nat) (w : Int32) : hd (acS M i w) j = acS (hd M j) i w := by
  rw [acS, hd_sU _ j i _ (by decide), hd_sU M j _ _ (by decide)]; rfl
theorem hd_hd (M : Tb) (i j : Nat) : hd (hd M i) j = hd (hd M j) i := by
  funext c r
  by_cases h6 : c = 6
  · subst h6
    by_cases hi : r = i <;> by_cases hj : r = j
    · subst hi; subst hj; rfl
    · subst hi; simp [hd, sU, hj, Ne.symm hj]
    · subst hj; simp [hd, sU, hi, Ne.symm hi]
    · simp [hd, sU, hi, hj]
  · simp [hd, sU, h6]
theorem hd_ex (M : Tb) (i j r : Nat) : hd (exS M i j) r = exS (hd M r) i j := by
  funext c q
  by_cases h6 : c = 6
  · subst h6; simp [hd, sU, exS]
  · by_cases h5 : c = 5
    · subst h5; simp [hd, sU, exS]
    · by_cases h8 : c = 8
      · subst h8; simp [hd, sU, exS]
      · simp [hd, sU, exS, h5, h6, h8]
theorem ml_eq (M : Tb) (j : Nat) (how : Int32) : ml M j how = lg (hd M j) j how := rfl
theorem ml2_eq (M : Tb) (i j : Nat) (how : Int32) : ml2 M i j how = lg2 (hd (hd M i) j) i j how := rfl
theorem Rel.lg2 {S M : Tb} (h : Rel S M) (i j : Nat) (how : Int32) : Rel (lg2 S i j how) (lg2 M i j how) := (h.lg j how).lg i how
/-! words of a row -/
theorem l_sum_eq {a b : Nat → Int32} : ∀ n : Nat, (∀ k, k < n → a k = b k) → l_sum a n = l_sum b n
  | 0, _ => rfl
  | n + 1, h => by
    show l_sum a n + a n = l_sum b n + b n
    rw [l_sum_eq n (fun k hk => h k (by omega)), h n (by omega)]
theorem Rel.wt {S M : Tb} (h : Rel S M) {i : Nat} (hi : i < 24) (hm : ¬ M 0 i = 0) : wt S i = wt M i := by
  obtain ⟨-, -, -, n, m10, b5, b⟩ := h.2 i hi
  rw [wt_n ((h.col hi hm (by decide)).trans b5) m10, wt_n b5 m10]
  exact l_sum_eq n (b hm).2
theorem hasI_eq {S M : Tb} {i : Nat} {w : Int32} : ∀ n : Nat, (∀ k, k < n → S 8 (10 * i + k) = M 8 (10 * i + k)) → hasI S i w n = hasI M i w n
  | 0, _ => rfl
  | n + 1, h => by
    show (hasI S i w n || decide (S 8 (10 * i + n) = w)) = (hasI M i w n || decide (M 8 (10 * i + n) = w))
    rw [hasI_eq n (fun k hk => h k (by omega)), h n (by omega)]
theorem Rel.has {S M : Tb} (h : Rel S M) {i : Nat} (hi : i < 24) (hm : ¬ M 0 i = 0) (w : Int32) : has S i w = has M i w := by
  obtain ⟨-, -, -, n, m10, b5, b⟩ := h.2 i hi
  rw [has_n ((h.col hi hm (by decide)).trans b5) m10, has_n b5 m10]
  exact hasI_eq n (b hm).2
theorem Rel.kA {S M : Tb} (h : Rel S M) {i : Nat} (hi : i < 24) (hm : ¬ M 0 i = 0) (w : Int32) : okA S i w = okA M i w := by
  unfold okA
  rw [h.col hi hm (show 5 < 8 by decide), h.col hi hm (show 1 < 8 by decide), h.wt hi hm]
theorem Rel.rV {S M : Tb} (h : Rel S M) {i q : Nat} (hi : i < 24) (hm : ¬ M 0 i = 0) (hq : M 5 i = nI (q + 1)) (hq10 : q < 10) : rmV S i = rmV M i := by
  obtain ⟨-, -, -, n, m10, b5, b⟩ := h.2 i hi
  have hn : n = q + 1 := by
    rw [b5] at hq
    exact (nI_eq (by omega) (by omega)).mp hq
  unfold rmV
  rw [h.col hi hm (show 5 < 8 by decide), hq, nI_pred, nI_clamp (by omega)]
  exact (b hm).2 q (by omega)
theorem Rel.wO {S M : Tb} (h : Rel S M) {i : Nat} (hi : i < 24) (hm : ¬ M 0 i = 0) (x : Int32) : wOf S i x = wOf M i x := by
  obtain ⟨-, -, -, n, m10, b5, b⟩ := h.2 i hi
  unfold wOf
  rw [h.col hi hm (show 5 < 8 by decide)]
  by_cases h1 : x < 0
  · rw [if_pos h1, if_pos h1]
  · by_cases h2 : M 5 i ≤ x
    · rw [if_neg h1, if_neg h1, if_pos h2, if_pos h2]
    · rw [if_neg h1, if_neg h1, if_neg h2, if_neg h2]
      rcases pk_ix x (n := n) (by omega) with q | q | ⟨k, hk, rfl⟩
      · exact absurd q h1
      · exact absurd (by rw [b5]; exact q) h2
      · rw [nI_clamp (by omega)]; exact (b hm).2 k hk
theorem Rel.fact {S M : Tb} (h : Rel S M) {i : Nat} (hi : i < 24) (hm : ¬ M 0 i = 0) (q : Nat) : factS S i q = factS M i q := by
  have c : ∀ d, d < 8 → S d i = M d i := fun d hd => h.col hi hm hd
  match q with
  | 0 => rfl
  | 1 => exact c 1 (by decide)
  | 2 => exact c 2 (by decide)
  | 3 => show (if S 3 i = 0 then (0 : Int32) else 1) = if M 3 i = 0 then 0 else 1; rw [c 3 (by decide)]
  | 4 => exact c 4 (by decide)
  | 5 => exact c 5 (by decide)
  | 6 => exact h.wt hi hm
  | 7 => exact c 6 (by decide)
  | k + 8 => exact c 7 (by decide)
