/-! Locker.exchangeItems: two rows of weights change places -/
def exW (wa : Nat → Nat) (i j : Nat) : Nat → Nat := fun k => if k = i then wa j else if k = j then wa i else wa k
theorem exS_c (S : Tb) (i j : Nat) {c : Nat} (h5 : c ≠ 5) (h8 : c ≠ 8) (r : Nat) : exS S i j c r = S c r := by simp [exS, h5, h8]
theorem exS_8i (S : Tb) (i j : Nat) {k : Nat} (hk : k < 10) : exS S i j 8 (10 * i + k) = S 8 (10 * j + k) := by
  simp [exS, show (10 * i + k) / 10 = i by omega, show k % 10 = k by omega]
theorem exS_8j (S : Tb) (i j : Nat) {k : Nat} (hk : k < 10) : exS S i j 8 (10 * j + k) = S 8 (10 * i + k) := by
  by_cases h : j = i
  · subst h; exact exS_8i S j j hk
  · simp [exS, show (10 * j + k) / 10 = j by omega, show k % 10 = k by omega, h]
theorem exS_8o (S : Tb) (i j : Nat) {r k : Nat} (hk : k < 10) (hi : r ≠ i) (hj : r ≠ j) : exS S i j 8 (10 * r + k) = S 8 (10 * r + k) := by
  simp [exS, show (10 * r + k) / 10 = r by omega, hi, hj]
theorem exW_self (wa : Nat → Nat) (i : Nat) : exW wa i i = wa := by
  funext k
  by_cases h : k = i <;> simp [exW, h]
theorem exS_self5 (S : Tb) (i c r : Nat) (hc : c ≠ 8) : exS S i i c r = S c r := by
  by_cases h5 : c = 5
  · subst h5
    by_cases h : r = i <;> simp [exS, h]
  · exact exS_c S i i h5 hc r
theorem rpC_ex1 {G : GT} {f : Nat → Option Nat} {wa : Nat → Nat} {S : Tb} {L : List Nat} {e : Nat → va_E} {i : Nat} (h : rpC G f wa S L e) : rpC G f (exW wa i i) (exS S i i) L e := by
  obtain ⟨⟨x1, x2⟩, ⟨k1, f0, k2, k3⟩, c3, c4, c5, c6⟩ := h
  rw [exW_self]
  refine ⟨⟨x1, by rw [x2]; simp [exS]⟩, ⟨k1, f0, k2, k3⟩, fun r hr b hb => ⟨⟨(c3 r hr b hb).1.1, ?_⟩, (c3 r hr b hb).2.1, ?_⟩, c4, c5, fun r hr => by rw [exS_self5 _ _ _ _ (by decide)]; exact c6 r hr⟩
  · rw [(c3 r hr b hb).1.2]
    simp only [lkE, lkL, exS_self5 S i 1 r (by decide), exS_self5 S i 2 r (by decide), exS_self5 S i 3 r (by decide), exS_self5 S i 4 r (by decide), exS_self5 S i 5 r (by decide), exS_self5 S i 6 r (by decide), exS_self5 S i 7 r (by decide)]
  · obtain ⟨g, g1, g2⟩ := (c3 r hr b hb).2.2
    refine ⟨g, g1, fun k hk => ?_⟩
    by_cases hri : r = i
    · subst hri; rw [exS_8i S r r hk]; exact g2 k hk
    · rw [exS_8o S i i hk hri hri]; exact g2 k hk
theorem rpC_ex2 {G : GT} {f : Nat → Option Nat} {wa : Nat → Nat} {S : Tb} {L : List Nat} {e : Nat → va_E} {i j a b : Nat} (h : rpC G f wa S L e) (hi : i < 25) (hf : f i = some a) (hj : j < 25) (hg : f j = some b) (hij : i ≠ j) :
    rpC G f (exW wa i j) (exS S i j) L (va_up (va_up e b (.inr (0, [.int (S 1 j), .int (S 2 j), .int (S 3 j), .int (S 4 j), .ref (wa i), .int (S 5 i), .int (S 6 j), .int (S 7 j)]))) a (.inr (0, [.int (S 1 i), .int (S 2 i), .int (S 3 i), .int (S 4 i), .ref (wa j), .int (S 5 j), .int (S 6 i), .int (S 7 i)]))) := by
  obtain ⟨⟨x1, x2⟩, ⟨k1, f0, k2, k3⟩, c3, c4, c5, c6⟩ := h
  have hab : b ≠ a := fun q => hij (c4 i j a hi hj hf (by rw [← q]; exact hg))
  have ea := (c3 i hi a hf).1.2
  have eb := (c3 j hj b hg).1.2
  have ne : ∀ q, kd (e q) ≠ 0 → q ≠ a ∧ q ≠ b := fun q h2 => ⟨fun z => by subst z; rw [ea] at h2; exact h2 rfl, fun z => by subst z; rw [eb] at h2; exact h2 rfl⟩
  have up : ∀ {q : Nat} {v w : va_E}, q ≠ a ∧ q ≠ b → va_up (va_up e b v) a w q = e q := fun h => by rw [va_up_ne _ _ h.1, va_up_ne _ _ h.2]
  refine ⟨⟨x1, ?_⟩, ⟨k1, f0, k2, ?_⟩, fun r hr d hd => ?_, c4, ?_, fun r hr => by rw [exS_c S i j (by decide) (by decide)]; exact c6 r hr⟩
  · rw [up (ne _ (by rw [x2]; simp [kd])), x2]; simp [exS]
  · rw [up (ne _ (by rw [k3]; simp [kd]))]; exact k3
  · by_cases hri : r = i
    · subst hri
      rw [hf] at hd; cases hd
      refine ⟨⟨(c3 r hr a hf).1.1, ?_⟩, ?_⟩
      · rw [va_up_self]
        simp [exW, exS]
      · obtain ⟨w1, g, g1, g2⟩ := (c3 j hj b hg).2
        simp only [exW, if_true]
        exact ⟨w1, g, by rw [up (ne _ (by rw [g1]; simp [kd]))]; exact g1, fun k hk => by rw [exS_8i S r j hk]; exact g2 k hk⟩
    · by_cases hrj : r = j
      · subst hrj
        rw [hg] at hd; cases hd
        refine ⟨⟨(c3 r hr b hg).1.1, ?_⟩, ?_⟩
        · rw [va_up_ne _ _ hab, va_up_self]
          simp [exW, exS, hri]
        · obtain ⟨w1, g, g1, g2⟩ := (c3 i hi a hf).2
          simp only [exW, if_neg hri, if_true]
          exact ⟨w1, g, by rw [up (ne _ (by rw [g1]; simp [kd]))]; exact g1, fun k hk => by rw [exS_8j S i r hk]; exact g2 k hk⟩
      · have hne : d ≠ a ∧ d ≠ b := ⟨fun z => hri (c4 r i d hr hi hd (by rw [z]; exact hf)), fun z => hrj (c4 r j d hr hj hd (by rw [z]; exact hg))⟩
        refine ⟨⟨(c3 r hr d hd).1.1, ?_⟩, ?_⟩
        · rw [up hne, (c3 r hr d hd).1.2]
          simp [exW, exS, hri, hrj]
        · obtain ⟨w1, g, g1, g2⟩ := (c3 r hr d hd).2
          simp only [exW, if_neg hri, if_neg hrj]
          exact ⟨w1, g, by rw [up (ne _ (by rw [g1]; simp [kd]))]; exact g1, fun k hk => by rw [exS_8o S i j hk hri hrj]; exact g2 k hk⟩
  · intro r q u v hr hq hu hv hrq
    have key : ∀ z, z < 25 → ∀ y, f z = some y → ∃ z', z' < 25 ∧ (∃ y', f z' = some y') ∧ exW wa i j z = wa z' ∧ ((z = i ∧ z' = j) ∨ (z = j ∧ z' = i) ∨ (z ≠ i ∧ z ≠ j ∧ z' = z)) := by
      intro z hz y hy
      by_cases h1 : z = i
      · exact ⟨j, hj, ⟨b, hg⟩, by simp [exW, h1], Or.inl ⟨h1, rfl⟩⟩
      · by_cases h2 : z = j
        · exact ⟨i, hi, ⟨a, hf⟩, by simp [exW, h2, Ne.symm hij], Or.inr (Or.inl ⟨h2, rfl⟩)⟩
        · exact ⟨z, hz, ⟨y, hy⟩, by simp [exW, h1, h2], Or.inr (Or.inr ⟨h1, h2, rfl⟩)⟩
    obtain ⟨r', h1, ⟨y1, h2⟩, h3, h4⟩ := key r hr u hu
    obtain ⟨q', h5, ⟨y2, h6⟩, h7, h8⟩ := key q hq v hv
    have := c5 r' q' y1 y2 h1 h5 h2 h6 (by rw [← h3, ← h7]; exact hrq)
    omega
set_option maxHeartbeats 4000000 in
set_option maxRecDepth 100000 in
theorem c_X0_exchangeItems (l : Launch) (G : GT) (f : Nat → Option Nat) (wa : Nat → Nat) (S M : Tb) {i a j b : Nat} (hi : i < 25) (hf : f i = some a) (hj : j < 25) (hg : f j = some b) : Met l yX0_exchangeItems wsX0_exchangeItems (rk 0) (va_Pc [.ref a, .ref b] (Wo G (f, wa, S, M))) (Qv G (fun u => u = (f, exW wa i j, exS S i j, M))) 0 0 (gA G) := by
  refine m_head (cc := cX0_exchangeItems) (maxL := 4) (ret := none) (by decide) rfl (Nat.le_of_ble_eq_true rfl) ?_
  intro p e s m below meth c hx hb hml hr hlocks hown hts hw ls hl
  have hown : s.vm.findClass RX0 = some m.cls := hown
  have hl : lv_has ls 4 [(0, .ref a), (1, .ref b)] := hl
  have hin0 : ∀ w ∈ wsX00, w ∈ wsX0_exchangeItems := by decide +kernel
  have lk18 := hts (.fieldLink RX0 18 "LockerWall$Locker" "weights" "[I") (by decide +kernel)
  have lk25 := hts (.fieldLink RX0 25 "LockerWall$Locker" "count" "I") (by decide +kernel)
  refine lv_aload_n hx hb dX0_exchangeItems_0 rfl (lv_at hl 1 rfl) ?_
  refine r_get0 (v := .ref (wa j)) hx hb hts hin0 hown hw hj hg 4 (by decide) lk18 rfl dX0_exchangeItems_1 ?_
  refine lv_astore_n (lv' := [(2, .ref (wa j)), (0, .ref a), (1, .ref b)]) hx hb dX0_exchangeItems_4 rfl hl (by decide) rfl (fun ls hl => ?_)
  refine lv_aload_n hx hb dX0_exchangeItems_5 rfl (lv_at hl 2 rfl) ?_
  refine r_get0 (v := .int (S 5 j)) hx hb hts hin0 hown hw hj hg 5 (by decide) lk25 rfl dX0_exchangeItems_6 ?_
  refine lv_istore_n (lv' := [(3, .int (S 5 j)), (2, .ref (wa j)), (0, .ref a), (1, .ref b)]) hx hb dX0_exchangeItems_9 rfl hl (by decide) rfl (fun ls hl => ?_)
  obtain ⟨⟨L, ev, hP, hD, hC, hM⟩, hK, hA, hS⟩ := hw
  have ea : a ∈ L ∧ ev a = lkE S i (wa i) := (hC.2.2.1 i hi a hf).1
  have eb : b ∈ L ∧ ev b = lkE S j (wa j) := (hC.2.2.1 j hj b hg).1
  refine lv_aload_n hx hb dX0_exchangeItems_10 rfl (lv_at hl 3 rfl) ?_
  refine lv_aload_n hx hb dX0_exchangeItems_11 rfl (lv_at hl 2 rfl) ?_
  refine p_get (v := .ref (wa i)) hx hb hts hin0 hown hK hP ea.1 ea.2 rfl 4 (by decide) lk18 rfl rfl dX0_exchangeItems_12 ?_
  refine p_put hx hb hts hin0 tyX0 tyX0_ok nmX0 hown hK hP hD hS eb.1 eb.2 rfl 4 (by decide) lk18 rfl rfl rfl rfl (by simp) dX0_exchangeItems_15 (fun H locs hP hD hS => ?_)
  by_cases hij : i = j
  · subst hij
    rw [hf] at hg
    cases hg
    have e1 : va_up ev a (.inr (0, (lkL S i (wa i)).set 4 (.ref (wa i)))) = ev := by
      funext q
      by_cases hq : q = a
      · subst hq; rw [va_up_self]; exact ea.2.symm
      · rw [va_up_ne _ _ hq]
    have e2 : ∀ v : va_E, v = lkE S i (wa i) → va_up ev a v = ev := by
      intro v hv
      funext q
      by_cases hq : q = a
      · subst hq; rw [va_up_self, hv]; exact ea.2.symm
      · rw [va_up_ne _ _ hq]
    rw [e1] at hP hD
    refine lv_aload_n hx hb dX0_exchangeItems_18 rfl (lv_at hl 3 rfl) ?_
    refine lv_aload_n hx hb dX0_exchangeItems_19 rfl (lv_at hl 2 rfl) ?_
    refine p_get (v := .int (S 5 i)) hx hb hts hin0 hown hK hP ea.1 ea.2 rfl 5 (by decide) lk25 rfl rfl dX0_exchangeItems_20 ?_
    refine p_put hx hb hts hin0 tyX0 tyX0_ok nmX0 hown hK hP hD hS ea.1 ea.2 rfl 5 (by decide) lk25 rfl rfl rfl rfl (by simp) dX0_exchangeItems_23 (fun H locs hP hD hS => ?_)
    rw [e2 (.inr (0, (lkL S i (wa i)).set 5 (.int (S 5 i)))) rfl] at hP hD
    refine lv_aload_n hx hb dX0_exchangeItems_26 rfl (lv_at hl 2 rfl) ?_
    refine lv_aload_n hx hb dX0_exchangeItems_27 rfl (lv_at hl 1 rfl) ?_
    refine p_put hx hb hts hin0 tyX0 tyX0_ok nmX0 hown hK hP hD hS ea.1 ea.2 rfl 4 (by decide) lk18 rfl rfl rfl rfl (by simp) dX0_exchangeItems_28 (fun H locs hP hD hS => ?_)
    rw [e2 (.inr (0, (lkL S i (wa i)).set 4 (.ref (wa i)))) rfl] at hP hD
    refine lv_aload_n hx hb dX0_exchangeItems_31 rfl (lv_at hl 2 rfl) ?_
    refine lv_iload_n hx hb dX0_exchangeItems_32 rfl (lv_at hl 0 rfl) ?_
    refine p_put hx hb hts hin0 tyX0 tyX0_ok nmX0 hown hK hP hD hS ea.1 ea.2 rfl 5 (by decide) lk25 rfl rfl rfl rfl (by simp) dX0_exchangeItems_33 (fun H locs hP hD hS => ?_)
    rw [e2 (.inr (0, (lkL S i (wa i)).set 5 (.int (S 5 i)))) rfl] at hP hD
    have hw : Wi G (f, exW wa i i, exS S i i, M) s H locs := ⟨⟨L, ev, hP, hD, rpC_ex1 hC, hM⟩, hK, hA, hS⟩
    exact e_v hx hb hr hlocks hw dX0_exchangeItems_36 rfl
  · have hab : a ≠ b := fun q => hij (hC.2.2.2.1 i j a hi hj hf (by rw [q]; exact hg))
    have ea1 : va_up ev b (.inr (0, (lkL S j (wa j)).set 4 (.ref (wa i)))) a = lkE S i (wa i) := by rw [va_up_ne _ _ hab]; exact ea.2
    refine lv_aload_n hx hb dX0_exchangeItems_18 rfl (lv_at hl 3 rfl) ?_
    refine lv_aload_n hx hb dX0_exchangeItems_19 rfl (lv_at hl 2 rfl) ?_
    refine p_get (v := .int (S 5 i)) hx hb hts hin0 hown hK hP ea.1 ea1 rfl 5 (by decide) lk25 rfl rfl dX0_exchangeItems_20 ?_
    refine p_put hx hb hts hin0 tyX0 tyX0_ok nmX0 hown hK hP hD hS eb.1 (va_up_self _ _ _) rfl 5 (by decide) lk25 rfl rfl rfl rfl (by simp) dX0_exchangeItems_23 (fun H locs hP hD hS => ?_)
    rw [bx_uu] at hP hD
    refine lv_aload_n hx hb dX0_exchangeItems_26 rfl (lv_at hl 2 rfl) ?_
    refine lv_aload_n hx hb dX0_exchangeItems_27 rfl (lv_at hl 1 rfl) ?_
    refine p_put hx hb hts hin0 tyX0 tyX0_ok nmX0 hown hK hP hD hS ea.1 ((va_up_ne _ _ hab).trans ea.2) rfl 4 (by decide) lk18 rfl rfl rfl rfl (by simp) dX0_exchangeItems_28 (fun H locs hP hD hS => ?_)
    refine lv_aload_n hx hb dX0_exchangeItems_31 rfl (lv_at hl 2 rfl) ?_
    refine lv_iload_n hx hb dX0_exchangeItems_32 rfl (lv_at hl 0 rfl) ?_
    refine p_put hx hb hts hin0 tyX0 tyX0_ok nmX0 hown hK hP hD hS ea.1 (va_up_self _ _ _) rfl 5 (by decide) lk25 rfl rfl rfl rfl (by simp) dX0_exchangeItems_33 (fun H locs hP hD hS => ?_)
    rw [bx_uu] at hP hD
    have hM2 := rpM_up (v := .inr (0, [.int (S 1 j), .int (S 2 j), .int (S 3 j), .int (S 4 j), .ref (wa i), .int (S 5 i), .int (S 6 j), .int (S 7 j)])) hM (a := b) (by rw [eb.2]; simp [kd]) (by rw [eb.2]; simp [kd])
    have hM3 := rpM_up (v := .inr (0, [.int (S 1 i), .int (S 2 i), .int (S 3 i), .int (S 4 i), .ref (wa j), .int (S 5 j), .int (S 6 i), .int (S 7 i)])) hM2 (a := a) (by rw [va_up_ne _ _ hab, ea.2]; simp [kd]) (by rw [va_up_ne _ _ hab, ea.2]; simp [kd])
    have hw : Wi G (f, exW wa i j, exS S i j, M) s H locs := ⟨⟨L, _, hP, hD, rpC_ex2 hC hi hf hj hg hij, hM3⟩, hK, hA, hS⟩
    exact e_v hx hb hr hlocks hw dX0_exchangeItems_36 rfl
