/-! THE WORLD: a table of columns for each side (0 there, 1 room, 2 code, 3 open, 4 wrong tries, 5 how many, 6 holds, 7 left, 8 items by 10*i+k, 9 the latch at 0), held by one pool of cells -/
abbrev Tb : Type := Nat → Nat → Int32
def sU (S : Tb) (c j : Nat) (v : Int32) : Tb := fun c' j' => if c' = c then (if j' = j then v else S c' j') else S c' j'
theorem sU_col (S : Tb) (c j : Nat) (v : Int32) : sU S c j v c = upd (S c) j v := by
  funext j'
  simp [sU, upd]
theorem sU_oc (S : Tb) {c c' : Nat} (j : Nat) (v : Int32) (h : c' ≠ c) : sU S c j v c' = S c' := by
  funext j'
  simp [sU, h]
theorem sU_oj (S : Tb) (c c' : Nat) {j j' : Nat} (v : Int32) (h : j' ≠ j) : sU S c j v c' j' = S c' j' := by
  by_cases hc : c' = c <;> simp [sU, h, hc]
theorem sU_self (S : Tb) (c j : Nat) (v : Int32) : sU S c j v c j = v := by simp [sU]
/-- statics: tables of classes, classes of arrays, what may be written, the wall and its row of hooks, the model and its rows -/
abbrev GT : Type := va_G × (ClassId × ClassId × ClassId) × (Nat → Prop) × Nat × Nat × Nat × (Nat → Nat)
abbrev gD (G : GT) : va_G := G.1
abbrev gI (G : GT) : ClassId := G.2.1.1
abbrev gZ (G : GT) : ClassId := G.2.1.2.1
abbrev gQ (G : GT) : ClassId := G.2.1.2.2
abbrev gA (G : GT) : Nat → Prop := G.2.2.1
abbrev gx (G : GT) : Nat := G.2.2.2.1
abbrev gh (G : GT) : Nat := G.2.2.2.2.1
abbrev gm (G : GT) : Nat := G.2.2.2.2.2.1
abbrev gc (G : GT) : Nat → Nat := G.2.2.2.2.2.2
/-- hooks by locker, weights' rows by hook, the wall's table, the model's table -/
abbrev WT : Type := (Nat → Option Nat) × (Nat → Nat) × Tb × Tb
abbrev tysW (G : GT) : List (ClassId × FieldType) := [(gI G, .int), (gZ G, .boolean), (gQ G, .object RX0)]
abbrev lkL (S : Tb) (i w : Nat) : List Value := [.int (S 1 i), .int (S 2 i), .int (S 3 i), .int (S 4 i), .ref w, .int (S 5 i), .int (S 6 i), .int (S 7 i)]
abbrev lkE (S : Tb) (i w : Nat) : va_E := .inr (0, lkL S i w)
abbrev arE (G : GT) (g : Nat → Int32) : va_E := .inl (gI G, 10, .inl g)
abbrev wlE (G : GT) (S : Tb) : va_E := .inr (1, [.ref (gh G), .int (S 9 0)])
abbrev hkE (G : GT) (f : Nat → Option Nat) : va_E := .inl (gQ G, 24, .inr (.inr (.inr (.inr f))))
abbrev mdL (G : GT) (M : Tb) : List Value := [.ref (gc G 0), .ref (gc G 1), .ref (gc G 2), .ref (gc G 3), .ref (gc G 4), .ref (gc G 5), .ref (gc G 6), .ref (gc G 7), .ref (gc G 8), .int (M 9 0)]
abbrev mdE (G : GT) (M : Tb) : va_E := .inr (2, mdL G M)
def mcl (G : GT) (c : Nat) : ClassId := if c = 0 ∨ c = 3 then gZ G else gI G
def mln (c : Nat) : Nat := if c = 8 then 240 else 24
abbrev maE (G : GT) (M : Tb) (c : Nat) : va_E := .inl (mcl G c, mln c, .inl (M c))
def oN (r : Option Nat) : Int32 := match r with
  | none => 0
  | some _ => 1
/-- kinds of cells -/
def kd (v : va_E) : Nat := match v with
  | .inr o => o.1
  | .inl (_, n, .inl _) => if n = 10 then 3 else 5
  | .inl (_, _, .inr _) => 4
theorem kd_ma (G : GT) (M : Tb) (c : Nat) : kd (maE G M c) = 5 := by
  by_cases h : c = 8 <;> simp [kd, mln, h]
def rpC (G : GT) (f : Nat → Option Nat) (wa : Nat → Nat) (S : Tb) (L : List Nat) (e : Nat → va_E) : Prop :=
  (gx G ∈ L ∧ e (gx G) = wlE G S) ∧ (gh G ∈ L ∧ ∃ f0 : Nat → Option Nat, (∀ j, j < 24 → f0 j = f j) ∧ e (gh G) = hkE G f0) ∧
  (∀ i, i < 25 → ∀ a, f i = some a → (a ∈ L ∧ e a = lkE S i (wa i)) ∧ (wa i ∈ L ∧ ∃ g : Nat → Int32, e (wa i) = arE G g ∧ ∀ k, k < 10 → g k = S 8 (10 * i + k))) ∧
  (∀ i j a, i < 25 → j < 25 → f i = some a → f j = some a → i = j) ∧
  (∀ i j a b, i < 25 → j < 25 → f i = some a → f j = some b → wa i = wa j → i = j) ∧
  ∀ i, i < 25 → S 0 i = oN (f i)
def rpM (G : GT) (M : Tb) (L : List Nat) (e : Nat → va_E) : Prop :=
  (gm G ∈ L ∧ e (gm G) = mdE G M) ∧ (∀ c, c < 9 → gc G c ∈ L ∧ e (gc G c) = maE G M c) ∧ ∀ c d, c < 9 → d < 9 → gc G c = gc G d → c = d
theorem rpM_up {G : GT} {M : Tb} {L : List Nat} {e : Nat → va_E} {a : Nat} {v : va_E} (h : rpM G M L e) (h2 : kd (e a) ≠ 2) (h5 : kd (e a) ≠ 5) : rpM G M L (va_up e a v) := by
  obtain ⟨⟨m1, m2⟩, m3, m4⟩ := h
  refine ⟨⟨m1, ?_⟩, fun c hc => ⟨(m3 c hc).1, ?_⟩, m4⟩
  · rw [va_up_ne _ _ (fun q => h2 (by rw [← q, m2]; rfl))]; exact m2
  · rw [va_up_ne _ _ (fun q => h5 (by rw [← q, (m3 c hc).2]; exact kd_ma G M c))]; exact (m3 c hc).2
theorem rpC_up {G : GT} {f : Nat → Option Nat} {wa : Nat → Nat} {S : Tb} {L : List Nat} {e : Nat → va_E} {a : Nat} {v : va_E} (h : rpC G f wa S L e) (hk : kd (e a) = 2 ∨ kd (e a) = 5) : rpC G f wa S L (va_up e a v) := by
  obtain ⟨⟨x1, x2⟩, ⟨k1, f0, k2, k3⟩, c3, c4, c5, c6⟩ := h
  have ne : ∀ b, kd (e b) ≠ 2 → kd (e b) ≠ 5 → b ≠ a := fun b h2 h5 q => by subst q; omega
  refine ⟨⟨x1, ?_⟩, ⟨k1, f0, k2, ?_⟩, fun i hi b hb => ⟨⟨(c3 i hi b hb).1.1, ?_⟩, (c3 i hi b hb).2.1, ?_⟩, c4, c5, c6⟩
  · rw [va_up_ne _ _ (ne _ (by rw [x2]; simp [kd]) (by rw [x2]; simp [kd]))]; exact x2
  · rw [va_up_ne _ _ (ne _ (by rw [k3]; simp [kd]) (by rw [k3]; simp [kd]))]; exact k3
  · rw [va_up_ne _ _ (ne _ (by rw [(c3 i hi b hb).1.2]; simp [kd]) (by rw [(c3 i hi b hb).1.2]; simp [kd]))]; exact (c3 i hi b hb).1.2
  · obtain ⟨g, g1, g2⟩ := (c3 i hi b hb).2.2
    exact ⟨g, by rw [va_up_ne _ _ (ne _ (by rw [g1]; simp [kd]) (by rw [g1]; simp [kd]))]; exact g1, g2⟩
/-- a locker's cell changes with one column of its row -/
theorem rpC_lk {G : GT} {f : Nat → Option Nat} {wa : Nat → Nat} {S : Tb} {L : List Nat} {e : Nat → va_E} {i a c : Nat} {y : Int32} (h : rpC G f wa S L e) (hi : i < 25) (hf : f i = some a) (h0 : c ≠ 0) (h8 : c ≠ 8) (h9 : c ≠ 9) :
    rpC G f wa (sU S c i y) L (va_up e a (lkE (sU S c i y) i (wa i))) := by
  obtain ⟨⟨x1, x2⟩, ⟨k1, f0, k2, k3⟩, c3, c4, c5, c6⟩ := h
  have ea := (c3 i hi a hf).1.2
  have ne : ∀ b, kd (e b) ≠ 0 → b ≠ a := fun b h2 q => by subst q; rw [ea] at h2; exact h2 rfl
  refine ⟨⟨x1, ?_⟩, ⟨k1, f0, k2, ?_⟩, fun j hj b hb => ⟨⟨(c3 j hj b hb).1.1, ?_⟩, (c3 j hj b hb).2.1, ?_⟩, c4, c5, fun j hj => ?_⟩
  · rw [va_up_ne _ _ (ne _ (by rw [x2]; simp [kd])), x2, wlE, wlE, sU_oc S i y (Ne.symm h9)]
  · rw [va_up_ne _ _ (ne _ (by rw [k3]; simp [kd]))]; exact k3
  · by_cases hji : j = i
    · subst hji
      rw [hf] at hb
      cases hb
      rw [va_up_self]
    · have hba : b ≠ a := fun q => hji (c4 j i b hj hi hb (by rw [q]; exact hf))
      rw [va_up_ne _ _ hba, (c3 j hj b hb).1.2]
      simp only [lkE, lkL, sU_oj S c _ y hji]
  · obtain ⟨g, g1, g2⟩ := (c3 j hj b hb).2.2
    exact ⟨g, by rw [va_up_ne _ _ (ne _ (by rw [g1]; simp [kd]))]; exact g1, by rw [sU_oc S i y (Ne.symm h8)]; exact g2⟩
  · rw [sU_oc S i y (Ne.symm h0)]; exact c6 j hj
/-- one item of a locker's row -/
theorem rpC_ar {G : GT} {f : Nat → Option Nat} {wa : Nat → Nat} {S : Tb} {L : List Nat} {e : Nat → va_E} {i a k : Nat} {y : Int32} {g : Nat → Int32} (h : rpC G f wa S L e) (hi : i < 25) (hf : f i = some a) (hk : k < 10) (hg : e (wa i) = arE G g) :
    rpC G f wa (sU S 8 (10 * i + k) y) L (va_up e (wa i) (arE G (upd g k y))) := by
  obtain ⟨⟨x1, x2⟩, ⟨k1, f0, k2, k3⟩, c3, c4, c5, c6⟩ := h
  have ne : ∀ b, kd (e b) ≠ 3 → b ≠ wa i := fun b h2 q => by subst q; rw [hg] at h2; exact h2 rfl
  refine ⟨⟨x1, ?_⟩, ⟨k1, f0, k2, ?_⟩, fun j hj b hb => ⟨⟨(c3 j hj b hb).1.1, ?_⟩, (c3 j hj b hb).2.1, ?_⟩, c4, c5, fun j hj => ?_⟩
  · rw [va_up_ne _ _ (ne _ (by rw [x2]; simp [kd])), x2, wlE, wlE, sU_oc S _ y (by decide)]
  · rw [va_up_ne _ _ (ne _ (by rw [k3]; simp [kd]))]; exact k3
  · rw [va_up_ne _ _ (ne _ (by rw [(c3 j hj b hb).1.2]; simp [kd])), (c3 j hj b hb).1.2]
    rfl
  · obtain ⟨gj, g1, g2⟩ := (c3 j hj b hb).2.2
    by_cases hji : j = i
    · subst hji
      rw [hg] at g1
      cases g1
      refine ⟨upd g k y, va_up_self _ _ _, fun k' hk' => ?_⟩
      by_cases hkk : k' = k
      · subst hkk; rw [sU_self]; simp [upd]
      · rw [sU_oj S 8 8 y (show 10 * j + k' ≠ 10 * j + k by omega), ← g2 k' hk']
        simp [upd, hkk]
    · have hba : wa j ≠ wa i := fun q => hji (c5 j i b a hj hi hb hf q)
      refine ⟨gj, by rw [va_up_ne _ _ hba]; exact g1, fun k' hk' => ?_⟩
      rw [sU_oj S 8 8 y (show 10 * j + k' ≠ 10 * i + k by omega)]
      exact g2 k' hk'
  · exact c6 j hj
/-- the wall's own cell -/
theorem rpC_wl {G : GT} {f : Nat → Option Nat} {wa : Nat → Nat} {S : Tb} {L : List Nat} {e : Nat → va_E} {y : Int32} (h : rpC G f wa S L e) :
    rpC G f wa (sU S 9 0 y) L (va_up e (gx G) (wlE G (sU S 9 0 y))) := by
  obtain ⟨⟨x1, x2⟩, ⟨k1, f0, k2, k3⟩, c3, c4, c5, c6⟩ := h
  have ne : ∀ b, kd (e b) ≠ 1 → b ≠ gx G := fun b h2 q => by subst q; rw [x2] at h2; exact h2 rfl
  refine ⟨⟨x1, va_up_self _ _ _⟩, ⟨k1, f0, k2, ?_⟩, fun j hj b hb => ⟨⟨(c3 j hj b hb).1.1, ?_⟩, (c3 j hj b hb).2.1, ?_⟩, c4, c5, fun j hj => ?_⟩
  · rw [va_up_ne _ _ (ne _ (by rw [k3]; simp [kd]))]; exact k3
  · rw [va_up_ne _ _ (ne _ (by rw [(c3 j hj b hb).1.2]; simp [kd])), (c3 j hj b hb).1.2]
    rfl
  · obtain ⟨g, g1, g2⟩ := (c3 j hj b hb).2.2
    exact ⟨g, by rw [va_up_ne _ _ (ne _ (by rw [g1]; simp [kd]))]; exact g1, g2⟩
  · exact c6 j hj
/-- the model's own cell, and its rows -/
theorem rpM_md {G : GT} {M : Tb} {L : List Nat} {e : Nat → va_E} {y : Int32} (h : rpM G M L e) : rpM G (sU M 9 0 y) L (va_up e (gm G) (mdE G (sU M 9 0 y))) := by
  obtain ⟨⟨m1, m2⟩, m3, m4⟩ := h
  refine ⟨⟨m1, va_up_self _ _ _⟩, fun c hc => ⟨(m3 c hc).1, ?_⟩, m4⟩
  have hne : gc G c ≠ gm G := fun q => by
    have h1 := congrArg kd (m3 c hc).2
    rw [q, m2, kd_ma] at h1
    cases h1
  rw [va_up_ne _ _ hne, (m3 c hc).2, maE, maE, sU_oc M 0 y (show c ≠ 9 by omega)]
theorem rpM_ma {G : GT} {M : Tb} {L : List Nat} {e : Nat → va_E} {c j : Nat} {y : Int32} (h : rpM G M L e) (hc : c < 9) : rpM G (sU M c j y) L (va_up e (gc G c) (.inl (mcl G c, mln c, .inl (upd (M c) j y)))) := by
  obtain ⟨⟨m1, m2⟩, m3, m4⟩ := h
  have hne : gm G ≠ gc G c := fun q => by
    have h1 := congrArg kd (m3 c hc).2
    rw [← q, m2, kd_ma] at h1
    cases h1
  refine ⟨⟨m1, ?_⟩, fun d hd => ⟨(m3 d hd).1, ?_⟩, m4⟩
  · rw [va_up_ne _ _ hne, m2, mdE, mdE, mdL, mdL, sU_oc M j y (show 9 ≠ c by omega)]
  · by_cases hdc : d = c
    · subst hdc
      rw [va_up_self, maE, sU_col]
    · rw [va_up_ne _ _ (fun q => hdc (m4 d c hd hc q)), (m3 d hd).2, maE, maE, sU_oc M j y hdc]
def Wh (G : GT) (u : WT) (H : Heap) : Prop := ∃ (L : List Nat) (e : Nat → va_E), va_P (gD G) vwCl (va_pl L e) H ∧ va_D (gA G) (va_pl L e) ∧ rpC G u.1 u.2.1 u.2.2.1 L e ∧ rpM G u.2.2.2 L e
def Wo (G : GT) (u : WT) (U : State) : Prop := Wh G u U.heap ∧ va_K (gD G) vwCl (tysW G) U ∧ ∀ q, U.heap.size ≤ q → gA G q
def Wi (G : GT) (u : WT) (s : State) (H : Heap) (locs : List Loc) : Prop := Wh G u H ∧ va_K (gD G) vwCl (tysW G) s ∧ (∀ q, s.heap.size ≤ q → gA G q) ∧ va_S (gA G) s.heap H locs
theorem Wo.i {G : GT} {u : WT} {s : State} (h : Wo G u s) : Wi G u s s.heap [] := ⟨h.1, h.2.1, h.2.2, va_S.rf⟩
theorem Wi.o {G : GT} {u : WT} {s t : State} {H : Heap} {locs : List Loc} (h : Wi G u s H locs) (ht : t.heap = H) (hvm : s.vm.Alike t.vm) : Wo G u t := by
  obtain ⟨h1, h2, h3, h4⟩ := h
  refine ⟨by rw [ht]; exact h1, va_K.moved hvm h2, fun q hq => h3 q ?_⟩
  rw [ht] at hq
  exact Nat.le_trans h4.1 hq
theorem Wo.blind {G : GT} {u : WT} {av : List Value} : FrameBlind (va_Pc av (Wo G u)) := fun a U g mk q => ⟨q.1, q.2.1, va_K.moved (u := U) (U := U.calling g mk a) (Vm.Alike.refl U.vm) q.2.2.1, q.2.2.2⟩
theorem Wi.preS {G : GT} {u : WT} {s : State} {H : Heap} {locs : List Loc} (h : Wi G u s H locs) (av : List Value) : PreS s H (va_Pc av (Wo G u)) av :=
  ⟨Wo.blind, fun U hU hW => ⟨rfl, h.o hU hW.alike⟩⟩
theorem p_recv {s : State} {H : Heap} {D : va_G} {cl : List vw_C} {a ci : Nat} {q : vw_C} {fs : List Value} {L : List Nat} {e : Nat → va_E} {tys : List (ClassId × FieldType)} (hK : va_K D cl tys s) (hP : va_P D cl (va_pl L e) H) (hc : cl[ci]? = some q) (ha : a ∈ L) (he : e a = .inr (ci, fs)) : ∃ cell : Cell, H[a]? = some cell ∧ cell.vm.isStatics = false ∧ s.vm.findClass q.1 = some cell.cls := by
  obtain ⟨k, hk⟩ := va_pl_get (X := []) (f := e) ha
  rw [he] at hk
  exact va_recv (q0 := k) hK hP hc hk
theorem Wi.preX {G : GT} {u : WT} {s : State} {H : Heap} {locs : List Loc} (h : Wi G u s H locs) (av : List Value) : PreV s H RX1 (gx G) (va_Pc (.ref (gx G) :: av) (Wo G u)) av :=
  ⟨Wo.blind, by
    obtain ⟨⟨L, e, hP, hD, ⟨⟨x1, x2⟩, -⟩, -⟩, hK, -⟩ := h
    exact p_recv (ci := 1) (q := (RX1, TX1, 2)) hK hP rfl x1 x2, fun U hU hW => ⟨rfl, h.o hU hW.alike⟩⟩
theorem Wi.preM {G : GT} {u : WT} {s : State} {H : Heap} {locs : List Loc} (h : Wi G u s H locs) (av : List Value) : PreV s H RX2 (gm G) (va_Pc (.ref (gm G) :: av) (Wo G u)) av :=
  ⟨Wo.blind, by
    obtain ⟨⟨L, e, hP, hD, -, ⟨m1, m2⟩, -⟩, hK, -⟩ := h
    exact p_recv (ci := 2) (q := (RX2, TX2, 10)) hK hP rfl m1 m2, fun U hU hW => ⟨rfl, h.o hU hW.alike⟩⟩
theorem Wi.preL {G : GT} {u : WT} {s : State} {H : Heap} {locs : List Loc} (h : Wi G u s H locs) {i a : Nat} (hi : i < 25) (hf : u.1 i = some a) (av : List Value) : PreV s H RX0 a (va_Pc (.ref a :: av) (Wo G u)) av :=
  ⟨Wo.blind, by
    obtain ⟨⟨L, e, hP, hD, ⟨-, -, c3, -⟩, -⟩, hK, -⟩ := h
    exact p_recv (ci := 0) (q := (RX0, TX0, 8)) hK hP rfl (c3 i hi a hf).1.1 (c3 i hi a hf).1.2, fun U hU hW => ⟨rfl, h.o hU hW.alike⟩⟩
