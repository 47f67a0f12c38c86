/-! lockers come and go: id 24 is the one that is in no hook -/
abbrev dfL : List Value := [.int 0, .int 0, .int 0, .int 0, .null, .int 0, .int 0, .int 0]
def dtS (S : Tb) (i : Nat) : Tb := fun c r => if c = 8 then (if r / 10 = 24 then S 8 (10 * i + r % 10) else S c r) else if c < 8 then (if r = 24 then S c i else if c = 0 ∧ r = i then 0 else S c r) else S c r
def nwS (S : Tb) (room code : Int32) : Tb := fun c r => if c = 8 then (if r / 10 = 24 then 0 else S c r) else if c < 8 then (if r = 24 then (if c = 0 then 1 else if c = 1 then room else if c = 2 then code else 0) else S c r) else S c r
def atS (S : Tb) (i : Nat) : Tb := fun c r => if c = 8 then (if r / 10 = i then S 8 (240 + r % 10) else S c r) else if c < 8 then (if r = i then S c 24 else if c = 0 ∧ r = 24 then 0 else S c r) else S c r
def dtF (f : Nat → Option Nat) (i a : Nat) : Nat → Option Nat := va_up (va_up f 24 (some a)) i none
def atF (f : Nat → Option Nat) (i a : Nat) : Nat → Option Nat := va_up (va_up f 24 none) i (some a)
def WiN (G : GT) (u : WT) (q : Nat) (s : State) (H : Heap) (locs : List Loc) : Prop := (∃ (L : List Nat) (e : Nat → va_E), va_P (gD G) vwCl (va_pl L e) H ∧ va_D (gA G) (va_pl L e) ∧ rpC G u.1 u.2.1 u.2.2.1 L e ∧ rpM G u.2.2.2 L e ∧ q ∈ L ∧ e q = .inr (0, dfL)) ∧ va_K (gD G) vwCl (tysW G) s ∧ (∀ q, s.heap.size ≤ q → gA G q) ∧ va_S (gA G) s.heap H locs
def WoN (G : GT) (u : WT) (q : Nat) (U : State) : Prop := (∃ (L : List Nat) (e : Nat → va_E), va_P (gD G) vwCl (va_pl L e) U.heap ∧ va_D (gA G) (va_pl L e) ∧ rpC G u.1 u.2.1 u.2.2.1 L e ∧ rpM G u.2.2.2 L e ∧ q ∈ L ∧ e q = .inr (0, dfL)) ∧ va_K (gD G) vwCl (tysW G) U ∧ ∀ q, U.heap.size ≤ q → gA G q
theorem WiN.pre {G : GT} {u : WT} {q : Nat} {s : State} {H : Heap} {locs : List Loc} (h : WiN G u q s H locs) (av : List Value) : PreS s H (va_Pc av (WoN G u q)) av := by
  obtain ⟨h1, h2, h3, h4⟩ := h
  refine ⟨fun a U g mk z => ⟨z.1, z.2.1, va_K.moved (u := U) (U := U.calling g mk a) (Vm.Alike.refl U.vm) z.2.2.1, z.2.2.2⟩, fun U hU hW => ⟨rfl, by rw [hU]; exact h1, va_K.moved hW.alike h2, fun z hz => h3 z ?_⟩⟩
  rw [hU] at hz
  exact Nat.le_trans h4.1 hz
theorem rpC_new {G : GT} {f : Nat → Option Nat} {wa : Nat → Nat} {S : Tb} {L : List Nat} {e : Nat → va_E} {q : Nat} {v : va_E} (h : rpC G f wa S L e) (hq : q ∉ L) : rpC G f wa S (L ++ [q]) (va_up e q v) := by
  obtain ⟨⟨x1, x2⟩, ⟨k1, f0, k2, k3⟩, c3, c4, c5, c6⟩ := h
  have ne : ∀ b, b ∈ L → b ≠ q := fun b h2 z => hq (z ▸ h2)
  have up : ∀ b, b ∈ L → va_up e q v b = e b := fun b hb => va_up_ne _ _ (ne b hb)
  refine ⟨⟨List.mem_append_left _ x1, by rw [up _ x1]; exact x2⟩, ⟨List.mem_append_left _ k1, f0, k2, by rw [up _ k1]; exact k3⟩, fun i hi a ha => ?_, c4, c5, c6⟩
  obtain ⟨⟨h1, h2⟩, h3, g, h4, h5⟩ := c3 i hi a ha
  exact ⟨⟨List.mem_append_left _ h1, by rw [up _ h1]; exact h2⟩, List.mem_append_left _ h3, g, by rw [up _ h3]; exact h4, h5⟩
theorem rpM_new {G : GT} {M : Tb} {L : List Nat} {e : Nat → va_E} {q : Nat} {v : va_E} (h : rpM G M L e) (hq : q ∉ L) : rpM G M (L ++ [q]) (va_up e q v) := by
  obtain ⟨⟨m1, m2⟩, m3, m4⟩ := h
  have up : ∀ b, b ∈ L → va_up e q v b = e b := fun b hb => va_up_ne _ _ (fun z => hq (z ▸ hb))
  exact ⟨⟨List.mem_append_left _ m1, by rw [up _ m1]; exact m2⟩, fun c hc => ⟨List.mem_append_left _ (m3 c hc).1, by rw [up _ (m3 c hc).1]; exact (m3 c hc).2⟩, m4⟩
/-- an unlisted object may become anything of its kind -/
theorem rpC_free {G : GT} {f : Nat → Option Nat} {wa : Nat → Nat} {S : Tb} {L : List Nat} {e : Nat → va_E} {q : Nat} {v : va_E} (h : rpC G f wa S L e) (h0 : kd (e q) = 0) (hno : ∀ i, i < 25 → f i ≠ some q) : rpC G f wa S L (va_up e q v) := by
  obtain ⟨⟨x1, x2⟩, ⟨k1, f0, k2, k3⟩, c3, c4, c5, c6⟩ := h
  have ne : ∀ b, kd (e b) ≠ 0 → b ≠ q := fun b h2 z => h2 (z ▸ h0)
  refine ⟨⟨x1, ?_⟩, ⟨k1, f0, k2, ?_⟩, fun i hi b hb => ⟨⟨(c3 i hi b hb).1.1, ?_⟩, (c3 i hi b hb).2.1, ?_⟩, c4, c5, c6⟩
  · rw [va_up_ne _ _ (ne _ (by rw [x2]; simp [kd]))]; exact x2
  · rw [va_up_ne _ _ (ne _ (by rw [k3]; simp [kd]))]; exact k3
  · rw [va_up_ne _ _ (fun z : b = q => hno i hi (by rw [← z]; exact hb))]; exact (c3 i hi b hb).1.2
  · obtain ⟨g, g1, g2⟩ := (c3 i hi b hb).2.2
    exact ⟨g, by rw [va_up_ne _ _ (ne _ (by rw [g1]; simp [kd]))]; exact g1, g2⟩
/-- the made locker stands at id 24 -/
theorem rpC_made {G : GT} {f : Nat → Option Nat} {wa : Nat → Nat} {S : Tb} {L : List Nat} {e : Nat → va_E} {q w : Nat} {p1 p2 : Int32} (h : rpC G f wa S L e) (hq : q ∈ L) (hw : w ∈ L) (eq : e q = .inr (0, [.int p1, .int p2, .int 0, .int 0, .ref w, .int 0, .int 0, .int 0])) (ew : e w = arE G (fun _ => 0)) (hno : ∀ i, i < 25 → f i ≠ some q) (hnw : ∀ i a, i < 25 → f i = some a → wa i ≠ w) :
    rpC G (va_up f 24 (some q)) (va_up wa 24 w) (nwS S p1 p2) L e := by
  obtain ⟨⟨x1, x2⟩, ⟨k1, f0, k2, k3⟩, c3, c4, c5, c6⟩ := h
  refine ⟨⟨x1, by rw [x2]; simp [nwS]⟩, ⟨k1, f0, fun j hj => by rw [va_up_ne _ _ (by omega)]; exact k2 j hj, k3⟩, fun i hi a ha => ?_, fun i j a hi hj ha hb => ?_, fun i j a b hi hj ha hb hab => ?_, fun i hi => ?_⟩
  · by_cases h24 : i = 24
    · subst h24
      rw [va_up_self] at ha
      cases ha
      rw [va_up_self]
      refine ⟨⟨hq, by rw [eq]; simp [nwS]⟩, hw, fun _ => 0, ew, fun k hk => by simp [nwS, show (240 + k) / 10 = 24 by omega]⟩
    · rw [va_up_ne _ _ h24] at ha
      rw [va_up_ne _ _ h24]
      obtain ⟨⟨h1, h2⟩, h3, g, h4, h5⟩ := c3 i hi a ha
      refine ⟨⟨h1, by rw [h2]; simp [nwS, h24]⟩, h3, g, h4, fun k hk => by rw [h5 k hk]; simp [nwS, show (10 * i + k) / 10 = i by omega, h24]⟩
  · by_cases hi24 : i = 24 <;> by_cases hj24 : j = 24
    · omega
    · subst hi24
      rw [va_up_self] at ha
      cases ha
      rw [va_up_ne _ _ hj24] at hb
      exact absurd hb (hno j hj)
    · subst hj24
      rw [va_up_self] at hb
      cases hb
      rw [va_up_ne _ _ hi24] at ha
      exact absurd ha (hno i hi)
    · rw [va_up_ne _ _ hi24] at ha
      rw [va_up_ne _ _ hj24] at hb
      exact c4 i j a hi hj ha hb
  · by_cases hi24 : i = 24 <;> by_cases hj24 : j = 24
    · omega
    · subst hi24
      rw [va_up_self, va_up_ne _ _ hj24] at hab
      rw [va_up_ne _ _ hj24] at hb
      exact absurd hab.symm (hnw j b hj hb)
    · subst hj24
      rw [va_up_self, va_up_ne _ _ hi24] at hab
      rw [va_up_ne _ _ hi24] at ha
      exact absurd hab (hnw i a hi ha)
    · rw [va_up_ne _ _ hi24] at ha hab
      rw [va_up_ne _ _ hj24] at hb hab
      exact c5 i j a b hi hj ha hb hab
  · by_cases h24 : i = 24
    · subst h24; rw [va_up_self]; simp [nwS, oN]
    · rw [va_up_ne _ _ h24, ← c6 i hi]; simp [nwS, h24]
/-- a hook gives its locker up -/
theorem rpC_dt {G : GT} {f f1 : Nat → Option Nat} {wa : Nat → Nat} {S : Tb} {L : List Nat} {e : Nat → va_E} {i a : Nat} (h : rpC G f wa S L e) (hi : i < 24) (hf : f i = some a) (hf1 : ∀ j, j < 24 → f1 j = f j) :
    rpC G (dtF f i a) (va_up wa 24 (wa i)) (dtS S i) L (va_up e (gh G) (hkE G (va_up f1 i none))) := by
  obtain ⟨⟨x1, x2⟩, ⟨k1, f0, k2, k3⟩, c3, c4, c5, c6⟩ := h
  have ne : ∀ b, kd (e b) ≠ 4 → b ≠ gh G := fun b h2 z => h2 (by rw [z, k3]; rfl)
  have hi24 : i ≠ 24 := by omega
  have F : ∀ r, r < 25 → ∀ b, dtF f i a r = some b → (r = 24 ∧ b = a) ∨ (r ≠ 24 ∧ r ≠ i ∧ f r = some b) := by
    intro r hr b hb
    unfold dtF at hb
    by_cases hri : r = i
    · subst hri; rw [va_up_self] at hb; cases hb
    · rw [va_up_ne _ _ hri] at hb
      by_cases hr24 : r = 24
      · subst hr24; rw [va_up_self] at hb; cases hb; exact Or.inl ⟨rfl, rfl⟩
      · rw [va_up_ne _ _ hr24] at hb; exact Or.inr ⟨hr24, hri, hb⟩
  refine ⟨⟨x1, ?_⟩, ⟨k1, va_up f1 i none, fun j hj => ?_, va_up_self _ _ _⟩, fun r hr b hb => ?_, fun r q b hr hq hb hb2 => ?_, fun r q b d hr hq hb hd hrq => ?_, fun r hr => ?_⟩
  · rw [va_up_ne _ _ (ne _ (by rw [x2]; simp [kd])), x2]; simp [dtS]
  · unfold dtF
    by_cases hji : j = i
    · subst hji; rw [va_up_self, va_up_self]
    · rw [va_up_ne _ _ hji, va_up_ne _ _ hji, va_up_ne _ _ (show j ≠ 24 by omega)]; exact hf1 j hj
  · rcases F r hr b hb with ⟨rfl, rfl⟩ | ⟨h24, hri, hfr⟩
    · obtain ⟨⟨h1, h2⟩, h3, g, h4, h5⟩ := c3 i (by omega) b hf
      rw [va_up_self]
      refine ⟨⟨h1, by rw [va_up_ne _ _ (ne _ (by rw [h2]; simp [kd])), h2]; simp [dtS]⟩, h3, g, by rw [va_up_ne _ _ (ne _ (by rw [h4]; simp [kd]))]; exact h4, fun k hk => by rw [h5 k hk]; simp [dtS, show (240 + k) / 10 = 24 by omega, show (240 + k) % 10 = k by omega]⟩
    · obtain ⟨⟨h1, h2⟩, h3, g, h4, h5⟩ := c3 r hr b hfr
      rw [va_up_ne _ _ h24]
      refine ⟨⟨h1, by rw [va_up_ne _ _ (ne _ (by rw [h2]; simp [kd])), h2]; simp [dtS, h24]⟩, h3, g, by rw [va_up_ne _ _ (ne _ (by rw [h4]; simp [kd]))]; exact h4, fun k hk => by rw [h5 k hk]; simp [dtS, show (10 * r + k) / 10 = r by omega, h24]⟩
  · rcases F r hr b hb with ⟨h1, h2⟩ | ⟨h1, h2, h3⟩ <;> rcases F q hq b hb2 with ⟨g1, g2⟩ | ⟨g1, g2, g3⟩
    · omega
    · rw [h2] at g3; exact absurd (c4 q i a hq (by omega) g3 hf) g2
    · rw [g2] at h3; exact absurd (c4 r i a hr (by omega) h3 hf) h2
    · exact c4 r q b hr hq h3 g3
  · rcases F r hr b hb with ⟨h1, h2⟩ | ⟨h1, h2, h3⟩ <;> rcases F q hq d hd with ⟨g1, g2⟩ | ⟨g1, g2, g3⟩
    · omega
    · rw [h1, va_up_self, va_up_ne _ _ g1] at hrq; exact absurd (c5 i q a d (by omega) hq hf g3 hrq).symm g2
    · rw [g1, va_up_self, va_up_ne _ _ h1] at hrq; exact absurd (c5 r i b a hr (by omega) h3 hf hrq) h2
    · rw [va_up_ne _ _ h1, va_up_ne _ _ g1] at hrq; exact c5 r q b d hr hq h3 g3 hrq
  · by_cases hri : r = i
    · subst hri; simp [dtS, dtF, va_up_self, oN, hi24]
    · by_cases h24 : r = 24
      · subst h24
        have := c6 i (by omega)
        rw [hf] at this
        simp only [dtS, dtF, va_up_ne _ _ hri, va_up_self]
        simp [this, oN]
      · simp only [dtF, va_up_ne _ _ hri, va_up_ne _ _ h24]
        rw [← c6 r hr]; simp [dtS, hri, h24]
/-- a hook gets the locker of id 24 -/
theorem rpC_at {G : GT} {f f1 : Nat → Option Nat} {wa : Nat → Nat} {S : Tb} {L : List Nat} {e : Nat → va_E} {i a : Nat} (h : rpC G f wa S L e) (hi : i < 24) (hf : f 24 = some a) (hf1 : ∀ j, j < 24 → f1 j = f j) :
    rpC G (atF f i a) (va_up wa i (wa 24)) (atS S i) L (va_up e (gh G) (hkE G (va_up f1 i (some a)))) := by
  obtain ⟨⟨x1, x2⟩, ⟨k1, f0, k2, k3⟩, c3, c4, c5, c6⟩ := h
  have ne : ∀ b, kd (e b) ≠ 4 → b ≠ gh G := fun b h2 z => h2 (by rw [z, k3]; rfl)
  have hi24 : i ≠ 24 := by omega
  have F : ∀ r, r < 25 → ∀ b, atF f i a r = some b → (r = i ∧ b = a) ∨ (r ≠ 24 ∧ r ≠ i ∧ f r = some b) := by
    intro r hr b hb
    unfold atF at hb
    by_cases hri : r = i
    · subst hri; rw [va_up_self] at hb; cases hb; exact Or.inl ⟨rfl, rfl⟩
    · rw [va_up_ne _ _ hri] at hb
      by_cases hr24 : r = 24
      · subst hr24; rw [va_up_self] at hb; cases hb
      · rw [va_up_ne _ _ hr24] at hb; exact Or.inr ⟨hr24, hri, hb⟩
  refine ⟨⟨x1, ?_⟩, ⟨k1, va_up f1 i (some a), fun j hj => ?_, va_up_self _ _ _⟩, fun r hr b hb => ?_, fun r q b hr hq hb hb2 => ?_, fun r q b d hr hq hb hd hrq => ?_, fun r hr => ?_⟩
  · rw [va_up_ne _ _ (ne _ (by rw [x2]; simp [kd])), x2]; simp [atS]
  · unfold atF
    by_cases hji : j = i
    · subst hji; rw [va_up_self, va_up_self]
    · rw [va_up_ne _ _ hji, va_up_ne _ _ hji, va_up_ne _ _ (show j ≠ 24 by omega)]; exact hf1 j hj
  · rcases F r hr b hb with ⟨rfl, rfl⟩ | ⟨h24, hri, hfr⟩
    · obtain ⟨⟨h1, h2⟩, h3, g, h4, h5⟩ := c3 24 (by omega) b hf
      rw [va_up_self]
      refine ⟨⟨h1, by rw [va_up_ne _ _ (ne _ (by rw [h2]; simp [kd])), h2]; simp [atS]⟩, h3, g, by rw [va_up_ne _ _ (ne _ (by rw [h4]; simp [kd]))]; exact h4, fun k hk => by rw [h5 k hk]; simp [atS, show (10 * r + k) / 10 = r by omega, show k % 10 = k by omega]⟩
    · obtain ⟨⟨h1, h2⟩, h3, g, h4, h5⟩ := c3 r hr b hfr
      rw [va_up_ne _ _ hri]
      refine ⟨⟨h1, by rw [va_up_ne _ _ (ne _ (by rw [h2]; simp [kd])), h2]; simp [atS, hri, h24]⟩, h3, g, by rw [va_up_ne _ _ (ne _ (by rw [h4]; simp [kd]))]; exact h4, fun k hk => by rw [h5 k hk]; simp [atS, show (10 * r + k) / 10 = r by omega, hri]⟩
  · rcases F r hr b hb with ⟨h1, h2⟩ | ⟨h1, h2, h3⟩ <;> rcases F q hq b hb2 with ⟨g1, g2⟩ | ⟨g1, g2, g3⟩
    · omega
    · rw [h2] at g3; exact absurd (c4 q 24 a hq (by omega) g3 hf) g1
    · rw [g2] at h3; exact absurd (c4 r 24 a hr (by omega) h3 hf) h1
    · exact c4 r q b hr hq h3 g3
  · rcases F r hr b hb with ⟨h1, h2⟩ | ⟨h1, h2, h3⟩ <;> rcases F q hq d hd with ⟨g1, g2⟩ | ⟨g1, g2, g3⟩
    · omega
    · rw [h1, va_up_self, va_up_ne _ _ g2] at hrq; exact absurd (c5 24 q a d (by omega) hq hf g3 hrq).symm g1
    · rw [g1, va_up_self, va_up_ne _ _ h2] at hrq; exact absurd (c5 r 24 b a hr (by omega) h3 hf hrq) h1
    · rw [va_up_ne _ _ h2, va_up_ne _ _ g2] at hrq; exact c5 r q b d hr hq h3 g3 hrq
  · by_cases hri : r = i
    · subst hri
      have := c6 24 (by omega)
      rw [hf] at this
      simp only [atF, va_up_self]
      simp [atS, this, oN]
    · by_cases h24 : r = 24
      · subst h24
        simp only [atF, va_up_ne _ _ hri, va_up_self]
        simp [atS, oN, hri]
      · simp only [atF, va_up_ne _ _ hri, va_up_ne _ _ h24]
        rw [← c6 r hr]; simp [atS, hri, h24]
section MK
variable {p : Program} {l : Launch} {e : Env} {R : Room} {s : State} {m : MethodId} {args : Array Value} {below : List Frame} {meth : Method} {c : Code} {H : Heap} {locs : List Loc} {cells slots : Nat} {Q : State → Prop}
variable {cc : ByteArray} {pc : Nat} {ls : Array Slot} {rest : List Value} {G : GT} {f : Nat → Option Nat} {wa : Nat → Nat} {S M : Tb} {Ts : List Cond} {own : String} {index : Nat}
theorem r_hstN (hx : p.tables.exec = Jvm.exec) (hb : c.code = cc) (hw : Wi G (f, wa, S, M) s H locs) {i a : Nat} (hi : i < 24) (hf : f i = some a) (hdg : decode cc pc = .ok (.aastore, 1))
    (kk : ∀ (H1 : Heap) (locs1 : List Loc), Wi G (dtF f i a, va_up wa 24 (wa i), dtS S i, M) s H1 locs1 → W p l e R s m args below meth c H1 locs1 cells slots Q (F0 m (pc + 1) ls rest)) : W p l e R s m args below meth c H locs cells slots Q (F0 m pc ls (.null :: .int (nI i) :: .ref (gh G) :: rest)) := by
  obtain ⟨⟨L, ev, hP, hD, hC, hM⟩, hK, hA, hS⟩ := hw
  obtain ⟨h1, f0, h2, h3⟩ := hC.2.1
  obtain ⟨k0, hk0⟩ := va_pl_get (X := []) (f := ev) h1
  have hk1 := hk0
  rw [h3] at hk1
  refine va_astqN (C := RX0) hx hb hK hP hD hS k0 2 hk1 rfl (vp_in_nI hi (by decide)) hdg (fun H1 locs1 g1 g2 g3 => ?_)
  rw [nI_clamp (by omega)] at g1 g2
  have q := va_pl_set (X := []) (e := hkE G (va_up f0 i none)) hD h1 hk0
  have q : (va_pl L ev).set k0 _ = va_pl L _ := q
  exact kk H1 locs1 ⟨⟨L, _, q ▸ g1, q ▸ g2, rpC_dt hC hi hf h2, rpM_up hM (by rw [h3]; simp [kd]) (by rw [h3]; simp [kd])⟩, hK, hA, g3⟩
theorem r_hst (hx : p.tables.exec = Jvm.exec) (hb : c.code = cc) (hw : Wi G (f, wa, S, M) s H locs) {i a : Nat} (hi : i < 24) (hf : f 24 = some a) (hdg : decode cc pc = .ok (.aastore, 1))
    (kk : ∀ (H1 : Heap) (locs1 : List Loc), Wi G (atF f i a, va_up wa i (wa 24), atS S i, M) s H1 locs1 → W p l e R s m args below meth c H1 locs1 cells slots Q (F0 m (pc + 1) ls rest)) : W p l e R s m args below meth c H locs cells slots Q (F0 m pc ls (.ref a :: .int (nI i) :: .ref (gh G) :: rest)) := by
  obtain ⟨⟨L, ev, hP, hD, hC, hM⟩, hK, hA, hS⟩ := hw
  obtain ⟨h1, f0, h2, h3⟩ := hC.2.1
  obtain ⟨k0, hk0⟩ := va_pl_get (X := []) (f := ev) h1
  have hk1 := hk0
  rw [h3] at hk1
  have ea := (hC.2.2.1 24 (by decide) a hf).1
  obtain ⟨ka, hka⟩ := va_pl_get (X := []) (f := ev) ea.1
  rw [ea.2] at hka
  refine va_astq (r := (RX0, TX0, 8)) hx hb hK hP hD hS k0 2 ka 0 hk1 rfl hka rfl (vp_in_nI hi (by decide)) hdg (fun H1 locs1 g1 g2 g3 => ?_)
  rw [nI_clamp (by omega)] at g1 g2
  have q := va_pl_set (X := []) (e := hkE G (va_up f0 i (some a))) hD h1 hk0
  have q : (va_pl L ev).set k0 _ = va_pl L _ := q
  exact kk H1 locs1 ⟨⟨L, _, q ▸ g1, q ▸ g2, rpC_at hC hi hf h2, rpM_up hM (by rw [h3]; simp [kd]) (by rw [h3]; simp [kd])⟩, hK, hA, g3⟩
theorem r_newL (hx : p.tables.exec = Jvm.exec) (hb : c.code = cc) (hts : ∀ w ∈ Ts, w.before args s = true) (hin : ∀ w ∈ wsX00, w ∈ Ts) (hown : s.vm.findClass own = some m.cls) (hcl : (Cond.classLink own index RX0).before args s = true) (hinst : (Cond.instantiable RX0 8).before args s = true) (hini : (Cond.initialized RX0).before args s = true) (hw : Wi G (f, wa, S, M) s H locs) (hcells : cells + 1 ≤ R.cells) (hslots : slots + 8 ≤ R.slots) (hdg : decode cc pc = .ok (.new index, 3))
    (kk : ∀ (q : Nat) (H1 : Heap), WiN G (f, wa, S, M) q s H1 locs → W p l e R s m args below meth c H1 locs (cells + 1) (slots + 8) Q (F0 m (pc + 3) ls (.ref q :: rest))) : W p l e R s m args below meth c H locs cells slots Q (F0 m pc ls rest) := by
  obtain ⟨⟨L, ev, hP, hD, hC, hM⟩, hK, hA, hS⟩ := hw
  refine va_new (ci := 0) (fs := dfL) (C := RX0) (T := TX0) (N := 8) hx hb hts hin tyX0 tyX0_ok hown hcl hinst hini hK hP hD hS hA rfl (fun j hj => ?_) hcells hslots hdg (fun q H1 g1 g2 g3 => ?_)
  · rcases (show j = 0 ∨ j = 1 ∨ j = 2 ∨ j = 3 ∨ j = 4 ∨ j = 5 ∨ j = 6 ∨ j = 7 by omega) with rfl | rfl | rfl | rfl | rfl | rfl | rfl | rfl <;> rfl
  · have hq : q ∉ L := va_pl_fresh2 (X := []) (f := ev) g2
    have z := va_pl_push (f := ev) (e := .inr (0, dfL)) hq
    exact kk q H1 ⟨⟨L ++ [q], va_up ev q (.inr (0, dfL)), z ▸ g1, z ▸ g2, rpC_new hC hq, rpM_new hM hq, List.mem_append_right _ (List.mem_singleton.mpr rfl), va_up_self _ _ _⟩, hK, hA, g3⟩
end MK
