/-! constructors of the wall and of the reference -/
abbrev tyl (cI cZ cQ : ClassId) : List (ClassId × FieldType) := [(cI, .int), (cZ, .boolean), (cQ, .object RX0)]
def P0 (D : va_G) (tys : List (ClassId × FieldType)) (A : Nat → Prop) (L : List Nat) (ev : Nat → va_E) (U : State) : Prop := va_P D vwCl (va_pl L ev) U.heap ∧ va_K D vwCl tys U ∧ va_D A (va_pl L ev) ∧ ∀ q, U.heap.size ≤ q → A q
theorem ne_in {x y : Nat} {L : List Nat} (h : x ∈ L) (hq : y ∉ L) : x ≠ y := fun w => hq (w ▸ h)
theorem ne_in' {x y : Nat} {L : List Nat} (h : y ∈ L) (hq : x ∉ L) : x ≠ y := fun w => hq (w ▸ h)
theorem RA_obj {U : State} {c1 c2 : ClassId} {C : String} (h1 : va_RA U c1 (.object C)) (h2 : va_RA U c2 (.object C)) : c1 = c2 := by
  obtain ⟨_, _, -, -, -, a1⟩ := h1
  obtain ⟨_, _, -, -, -, a2⟩ := h2
  rw [a1] at a2
  exact Option.some.inj a2
theorem va_pl_up {L : List Nat} {ev : Nat → va_E} {q : Nat} {v : va_E} (h : ev q = v) : va_up ev q v = ev := by
  funext r
  by_cases hr : r = q
  · subst hr; rw [va_up_self, h]
  · rw [va_up_ne _ _ hr]
set_option maxHeartbeats 800000 in
set_option maxRecDepth 100000 in
theorem c_X1_init (l : Launch) (D : va_G) (cI cZ cQ : ClassId) (A : Nat → Prop) (L : List Nat) (ev : Nat → va_E) (a : Nat) (ha : a ∈ L) (ea : ev a = .inr (1, [.null, .int 0])) : Met l yX1_init wsX1_init ({ frames := 1, cells := 1, slots := 24, locals := 30 }) (va_Pc [.ref a] (fun U => P0 D (tyl cI cZ cQ) A L ev U ∧ va_AO RX0 U)) (va_Qv (fun q : Nat => q ∉ L) (fun q t => P0 D (tyl cI cZ cQ) A (L ++ [q]) (va_up (va_up ev q (.inl (cQ, 24, .inr (.inr (.inr (.inr (fun _ => none))))))) a (.inr (1, [.ref q, .int 0]))) t) A) 1 24 A := by
  refine Met.ofW (cc := cX1_init) (maxL := 1) (ret := none) (by decide) rfl ?_
  intro p e s m args below meth c s₁ B hml hv
  obtain ⟨rfl, ⟨hP, hK, hD, hA⟩, hAO⟩ := hv
  have hx := B.exec
  have hb := B.bytes
  have hr := B.returns
  have hlocks := B.notSynchronized
  have hts := atoms_spec (ws := wsX1_init) B.pre
  have hown : s.vm.findClass RX1 = some m.cls := findClass_of_methodNamed B.named
  have hin : meth.name = "<init>" := (name_of_methodNamed B.named B.method).1
  have hS : va_S A s.heap s.heap [] := va_S.rf
  have hl := lv_entry ([.ref a]) (n := 1) (Nat.le_of_ble_eq_true rfl)
  rw [lg_entry_eq]
  generalize (lg_sl ([.ref a]) ++ List.replicate (1 - (lg_sl ([.ref a])).length) Slot.unset).toArray = ls at hl ⊢
  have hl : lv_has ls 1 [(0, .ref a)] := hl
  have hin1 : ∀ w ∈ wsX10, w ∈ wsX1_init := by decide +kernel
  refine lv_aload_n hx hb dX1_init_0 rfl (lv_at hl 0 rfl) ?_
  refine W.objInit hx hb hown (hts (.methodLink RX1 1 objectInit) (by decide +kernel)) (hts (.instanceMethod objectInit) (by decide +kernel)) (hts _ (List.mem_cons_of_mem _ (List.mem_append_left _ (List.mem_of_getElem? (i := 2) rfl)))) rfl (by rw [hml]; exact hl.1) rfl dX1_init_1 (Nat.le_of_ble_eq_true rfl) (Nat.le_of_ble_eq_true rfl) ?_
  refine W.eq (g2 := F0 m 4 ls []) rfl ?_
  refine lv_aload_n hx hb dX1_init_4 rfl (lv_at hl 0 rfl) ?_
  refine lv_bipush (v := 24) hx hb dX1_init_5 (by decide) ?_
  refine va_newq (C := RX0) (N' := 24) hx hb hown (hts (.classLink RX1 9 RX0) (by decide +kernel)) hAO hK hP hD hS hA (by decide) (by decide) (by decide) (Nat.le_of_ble_eq_true rfl) (Nat.le_of_ble_eq_true rfl) dX1_init_7 (fun q cA H hK1 hP hD hS => ?_)
  have hcA : cA = cQ := RA_obj (hK1.2 3 (cA, .object RX0) rfl).2 (hK.2 2 (cQ, .object RX0) rfl).2
  subst hcA
  have hq : q ∉ L := va_pl_fresh2 (X := []) (f := ev) hD
  have z := va_pl_push (f := ev) (e := .inl (cA, 24, .inr (.inr (.inr (.inr (fun _ => none)))))) hq
  rw [z] at hP hD
  have haq : a ≠ q := fun w => hq (w ▸ ha)
  have ha1 : a ∈ L ++ [q] := List.mem_append_left _ ha
  refine p_putF hx hb hts hin1 tyX1 tyX1_ok nmX1 hown hK hP hD hS ha1 ((va_up_ne _ _ haq).trans ea) rfl 0 (by decide) (hts (.fieldLink RX1 11 "LockerWall" "hooks" "[LLockerWall$Locker;") (by decide +kernel)) rfl rfl hin rfl rfl rfl (by simp) dX1_init_10 (fun H locs hP hD hS => ?_)
  refine lv_aload_n hx hb dX1_init_13 rfl (lv_at hl 0 rfl) ?_
  refine lv_iconst (v := 0) hx hb dX1_init_14 (by decide) ?_
  refine p_put hx hb hts hin1 tyX1 tyX1_ok nmX1 hown hK hP hD hS ha1 (va_up_self _ _ _) rfl 1 (by decide) (hts (.fieldLink RX1 15 "LockerWall" "latchHolds" "I") (by decide +kernel)) rfl rfl rfl rfl (by simp) dX1_init_15 (fun H locs hP hD hS => ?_)
  rw [bx_uu] at hP hD
  exact W.vret hx hb hr (fun t ht hW => ⟨⟨q, rfl, hq, by rw [ht]; exact hP, va_K.moved hW.alike hK, hD, fun r hr => hA r (Nat.le_trans hS.1 (by rw [ht] at hr; exact hr))⟩, hS.F ht⟩) hS.2.2 dX1_init_18
/-- the reference's arrays so far: k of them -/
def lsM (k : Nat) (qs : Nat → Nat) : List Value := [if 0 < k then .ref (qs 0) else .null, if 1 < k then .ref (qs 1) else .null, if 2 < k then .ref (qs 2) else .null, if 3 < k then .ref (qs 3) else .null, if 4 < k then .ref (qs 4) else .null, if 5 < k then .ref (qs 5) else .null, if 6 < k then .ref (qs 6) else .null, if 7 < k then .ref (qs 7) else .null, if 8 < k then .ref (qs 8) else .null, .int 0]
def arM (cI cZ : ClassId) (c : Nat) : va_E := .inl (if c = 0 ∨ c = 3 then cZ else cI, mln c, .inl (fun _ => 0))
def JM (cI cZ : ClassId) (a : Nat) (L0 : List Nat) (e0 : Nat → va_E) (k : Nat) (qs : Nat → Nat) (L : List Nat) (ev : Nat → va_E) : Prop :=
  (a ∈ L ∧ ev a = .inr (2, lsM k qs)) ∧ (∀ c, c < k → qs c ∈ L ∧ qs c ∉ L0 ∧ ev (qs c) = arM cI cZ c) ∧ (∀ c d, c < k → d < k → qs c = qs d → c = d) ∧ ∀ b, b ∈ L0 → b ∈ L ∧ (b ≠ a → ev b = e0 b)
theorem JM.step {cI cZ : ClassId} {a : Nat} {L0 L : List Nat} {e0 ev : Nat → va_E} {k q : Nat} {qs : Nat → Nat} {x : va_E} (h : JM cI cZ a L0 e0 k qs L ev) (ha0 : a ∈ L0) (hq : q ∉ L) (hx : x = arM cI cZ k) {fs : List Value} (hfs : fs = lsM (k + 1) (va_up qs k q)) :
    JM cI cZ a L0 e0 (k + 1) (va_up qs k q) (L ++ [q]) (va_up (va_up ev q x) a (.inr (2, fs))) := by
  obtain ⟨⟨h1, h2⟩, h3, h4, h5⟩ := h
  have haq : a ≠ q := fun w => hq (w ▸ h1)
  refine ⟨⟨List.mem_append_left _ h1, by rw [va_up_self, hfs]⟩, fun c hc => ?_, fun c d hc hd hcd => ?_, fun b hb => ⟨List.mem_append_left _ (h5 b hb).1, fun hba => ?_⟩⟩
  · by_cases hck : c = k
    · subst hck
      rw [va_up_self]
      refine ⟨List.mem_append_right _ (List.mem_singleton.mpr rfl), fun w => hq (h5 q w).1, ?_⟩
      rw [va_up_ne _ _ (Ne.symm haq), va_up_self, hx]
    · rw [va_up_ne _ _ hck]
      obtain ⟨g1, g2, g3⟩ := h3 c (by omega)
      refine ⟨List.mem_append_left _ g1, g2, ?_⟩
      rw [va_up_ne _ _ (ne_in' ha0 g2), va_up_ne _ _ (ne_in g1 hq)]
      exact g3
  · by_cases hck : c = k <;> by_cases hdk : d = k
    · omega
    · rw [hck, va_up_self, va_up_ne _ _ hdk] at hcd
      exact absurd (hcd ▸ (h3 d (by omega)).1) hq
    · rw [hdk, va_up_self, va_up_ne _ _ hck] at hcd
      exact absurd (hcd ▸ (h3 c (by omega)).1) hq
    · rw [va_up_ne _ _ hck, va_up_ne _ _ hdk] at hcd
      exact h4 c d (by omega) (by omega) hcd
  · rw [va_up_ne _ _ hba, va_up_ne _ _ (ne_in (h5 b hb).1 hq)]
    exact (h5 b hb).2 hba
theorem bytes24 : 24 * componentBytes FieldType.int ≤ 536870912 := by decide
theorem bytes24z : 24 * componentBytes FieldType.boolean ≤ 536870912 := by decide
theorem bytes240 : 240 * componentBytes FieldType.int ≤ 536870912 := by decide
-- THE REFERENCE
set_option maxHeartbeats 1600000 in
set_option maxRecDepth 100000 in
theorem c_X2_init (l : Launch) (D : va_G) (cI cZ cQ : ClassId) (A : Nat → Prop) (L0 : List Nat) (e0 : Nat → va_E) (a : Nat) (ha : a ∈ L0) (ea : e0 a = .inr (2, [.null, .null, .null, .null, .null, .null, .null, .null, .null, .int 0])) : Met l yX2_init wsX2_init ({ frames := 1, cells := 9, slots := 432, locals := 30 }) (va_Pc [.ref a] (fun U => P0 D (tyl cI cZ cQ) A L0 e0 U)) (va_Qv (fun u : (Nat → Nat) × List Nat × (Nat → va_E) => JM cI cZ a L0 e0 9 u.1 u.2.1 u.2.2) (fun u t => P0 D (tyl cI cZ cQ) A u.2.1 u.2.2 t) A) 9 432 A := by
  refine Met.ofW (cc := cX2_init) (maxL := 1) (ret := none) (by decide) rfl ?_
  intro p e s m args below meth c s₁ B hml hv
  obtain ⟨rfl, ⟨hP, hK, hD, hA⟩⟩ := hv
  have hx := B.exec
  have hb := B.bytes
  have hr := B.returns
  have hlocks := B.notSynchronized
  have hts := atoms_spec (ws := wsX2_init) B.pre
  have hown : s.vm.findClass RX2 = some m.cls := findClass_of_methodNamed B.named
  have hin : meth.name = "<init>" := (name_of_methodNamed B.named B.method).1
  have hS : va_S A s.heap s.heap [] := va_S.rf
  have hl := lv_entry ([.ref a]) (n := 1) (Nat.le_of_ble_eq_true rfl)
  rw [lg_entry_eq]
  generalize (lg_sl ([.ref a]) ++ List.replicate (1 - (lg_sl ([.ref a])).length) Slot.unset).toArray = ls at hl ⊢
  have hl : lv_has ls 1 [(0, .ref a)] := hl
  have hin2 : ∀ w ∈ wsX20, w ∈ wsX2_init := by decide +kernel
  have haI := hts (.arrayClass .int) (by decide +kernel)
  have haZ := hts (.arrayClass .boolean) (by decide +kernel)
  have J : JM cI cZ a L0 e0 0 (fun _ => 0) L0 e0 := ⟨⟨ha, by rw [ea]; rfl⟩, fun c hc => absurd hc (by omega), fun c d hc => absurd hc (by omega), fun b hb => ⟨hb, fun _ => rfl⟩⟩
  refine lv_aload_n hx hb dX2_init_0 rfl (lv_at hl 0 rfl) ?_
  refine W.objInit hx hb hown (hts (.methodLink RX2 1 objectInit) (by decide +kernel)) (hts (.instanceMethod objectInit) (by decide +kernel)) (hts _ (List.mem_cons_of_mem _ (List.mem_append_left _ (List.mem_of_getElem? (i := 2) rfl)))) rfl (by rw [hml]; exact hl.1) rfl dX2_init_1 (Nat.le_of_ble_eq_true rfl) (Nat.le_of_ble_eq_true rfl) ?_
  refine W.eq (g2 := F0 m 4 ls []) rfl ?_
  refine lv_aload_n hx hb dX2_init_4 rfl (lv_at hl 0 rfl) ?_
  refine lv_bipush (v := 24) hx hb dX2_init_5 (by decide) ?_
  refine va_newa (atype := .boolean) (ty := .boolean) (N' := 24) (a0 := (24, .inl (fun _ => 0))) hx hb haZ rfl hK hP hD hS hA (fun cA => rfl) (by decide) (by decide) bytes24z (Nat.le_of_ble_eq_true rfl) (Nat.le_of_ble_eq_true rfl) dX2_init_7 (fun q0 cA0 H hK1 hP hD hS => ?_)
  have hc0 : cA0 = cZ := RA_bool (hK1.2 3 (cA0, .boolean) rfl).2 (hK.2 1 (cZ, .boolean) rfl).2
  rw [hc0] at hP hD
  have hq0 : q0 ∉ L0 := va_pl_fresh2 (X := []) (f := e0) hD
  rw [va_pl_push (f := e0) (e := .inl (cZ, 24, .inl (fun _ => 0))) hq0] at hP hD
  refine p_putF hx hb hts hin2 tyX2 tyX2_ok nmX2 hown hK hP hD hS (List.mem_append_left _ J.1.1) ((va_up_ne _ _ (ne_in J.1.1 hq0)).trans J.1.2) rfl 0 (by decide) (hts (.fieldLink RX2 7 "LockerWallModel" "there" "[Z") (by decide +kernel)) rfl rfl hin rfl rfl rfl (by simp [lsM]) dX2_init_9 (fun H locs hP hD hS => ?_)
  have J := J.step (q := q0) (x := .inl (cZ, 24, .inl (fun _ => 0))) (fs := (lsM 0 (fun _ => 0)).set 0 (.ref q0)) ha hq0 rfl (by simp [lsM, va_up])
  generalize hev0 : va_up (va_up e0 q0 (.inl (cZ, 24, .inl (fun _ => 0)))) a (.inr (2, (lsM 0 (fun _ => 0)).set 0 (.ref q0))) = ev0 at hP hD J
  generalize hqs0 : va_up (fun _ => 0) 0 q0 = qs0 at J
  generalize hLL0 : L0 ++ [q0] = L1 at hP hD J
  refine lv_aload_n hx hb dX2_init_12 rfl (lv_at hl 0 rfl) ?_
  refine lv_bipush (v := 24) hx hb dX2_init_13 (by decide) ?_
  refine va_newa (atype := .int) (ty := .int) (N' := 24) (a0 := (24, .inl (fun _ => 0))) hx hb haI rfl hK hP hD hS hA (fun cA => rfl) (by decide) (by decide) bytes24 (Nat.le_of_ble_eq_true rfl) (Nat.le_of_ble_eq_true rfl) dX2_init_15 (fun q1 cA1 H hK1 hP hD hS => ?_)
  have hc1 : cA1 = cI := RA_int (hK1.2 3 (cA1, .int) rfl).2 (hK.2 0 (cI, .int) rfl).2
  rw [hc1] at hP hD
  have hq1 : q1 ∉ L1 := va_pl_fresh2 (X := []) (f := ev0) hD
  rw [va_pl_push (f := ev0) (e := .inl (cI, 24, .inl (fun _ => 0))) hq1] at hP hD
  refine p_putF hx hb hts hin2 tyX2 tyX2_ok nmX2 hown hK hP hD hS (List.mem_append_left _ J.1.1) ((va_up_ne _ _ (ne_in J.1.1 hq1)).trans J.1.2) rfl 1 (by decide) (hts (.fieldLink RX2 13 "LockerWallModel" "room" "[I") (by decide +kernel)) rfl rfl hin rfl rfl rfl (by simp [lsM]) dX2_init_17 (fun H locs hP hD hS => ?_)
  have J := J.step (q := q1) (x := .inl (cI, 24, .inl (fun _ => 0))) (fs := (lsM 1 qs0).set 1 (.ref q1)) ha hq1 rfl (by simp [lsM, va_up])
  generalize hev1 : va_up (va_up ev0 q1 (.inl (cI, 24, .inl (fun _ => 0)))) a (.inr (2, (lsM 1 qs0).set 1 (.ref q1))) = ev1 at hP hD J
  generalize hqs1 : va_up qs0 1 q1 = qs1 at J
  generalize hLL1 : L1 ++ [q1] = L2 at hP hD J
  refine lv_aload_n hx hb dX2_init_20 rfl (lv_at hl 0 rfl) ?_
  refine lv_bipush (v := 24) hx hb dX2_init_21 (by decide) ?_
  refine va_newa (atype := .int) (ty := .int) (N' := 24) (a0 := (24, .inl (fun _ => 0))) hx hb haI rfl hK hP hD hS hA (fun cA => rfl) (by decide) (by decide) bytes24 (Nat.le_of_ble_eq_true rfl) (Nat.le_of_ble_eq_true rfl) dX2_init_23 (fun q2 cA2 H hK1 hP hD hS => ?_)
  have hc2 : cA2 = cI := RA_int (hK1.2 3 (cA2, .int) rfl).2 (hK.2 0 (cI, .int) rfl).2
  rw [hc2] at hP hD
  have hq2 : q2 ∉ L2 := va_pl_fresh2 (X := []) (f := ev1) hD
  rw [va_pl_push (f := ev1) (e := .inl (cI, 24, .inl (fun _ => 0))) hq2] at hP hD
  refine p_putF hx hb hts hin2 tyX2 tyX2_ok nmX2 hown hK hP hD hS (List.mem_append_left _ J.1.1) ((va_up_ne _ _ (ne_in J.1.1 hq2)).trans J.1.2) rfl 2 (by decide) (hts (.fieldLink RX2 17 "LockerWallModel" "code" "[I") (by decide +kernel)) rfl rfl hin rfl rfl rfl (by simp [lsM]) dX2_init_25 (fun H locs hP hD hS => ?_)
  have J := J.step (q := q2) (x := .inl (cI, 24, .inl (fun _ => 0))) (fs := (lsM 2 qs1).set 2 (.ref q2)) ha hq2 rfl (by simp [lsM, va_up])
  generalize hev2 : va_up (va_up ev1 q2 (.inl (cI, 24, .inl (fun _ => 0)))) a (.inr (2, (lsM 2 qs1).set 2 (.ref q2))) = ev2 at hP hD J
  generalize hqs2 : va_up qs1 2 q2 = qs2 at J
  generalize hLL2 : L2 ++ [q2] = L3 at hP hD J
  refine lv_aload_n hx hb dX2_init_28 rfl (lv_at hl 0 rfl) ?_
  refine lv_bipush (v := 24) hx hb dX2_init_29 (by decide) ?_
  refine va_newa (atype := .boolean) (ty := .boolean) (N' := 24) (a0 := (24, .inl (fun _ => 0))) hx hb haZ rfl hK hP hD hS hA (fun cA => rfl) (by decide) (by decide) bytes24z (Nat.le_of_ble_eq_true rfl) (Nat.le_of_ble_eq_true rfl) dX2_init_31 (fun q3 cA3 H hK1 hP hD hS => ?_)
  have hc3 : cA3 = cZ := RA_bool (hK1.2 3 (cA3, .boolean) rfl).2 (hK.2 1 (cZ, .boolean) rfl).2
  rw [hc3] at hP hD
  have hq3 : q3 ∉ L3 := va_pl_fresh2 (X := []) (f := ev2) hD
  rw [va_pl_push (f := ev2) (e := .inl (cZ, 24, .inl (fun _ => 0))) hq3] at hP hD
  refine p_putF hx hb hts hin2 tyX2 tyX2_ok nmX2 hown hK hP hD hS (List.mem_append_left _ J.1.1) ((va_up_ne _ _ (ne_in J.1.1 hq3)).trans J.1.2) rfl 3 (by decide) (hts (.fieldLink RX2 20 "LockerWallModel" "open" "[Z") (by decide +kernel)) rfl rfl hin rfl rfl rfl (by simp [lsM]) dX2_init_33 (fun H locs hP hD hS => ?_)
  have J := J.step (q := q3) (x := .inl (cZ, 24, .inl (fun _ => 0))) (fs := (lsM 3 qs2).set 3 (.ref q3)) ha hq3 rfl (by simp [lsM, va_up])
  generalize hev3 : va_up (va_up ev2 q3 (.inl (cZ, 24, .inl (fun _ => 0)))) a (.inr (2, (lsM 3 qs2).set 3 (.ref q3))) = ev3 at hP hD J
  generalize hqs3 : va_up qs2 3 q3 = qs3 at J
  generalize hLL3 : L3 ++ [q3] = L4 at hP hD J
  refine lv_aload_n hx hb dX2_init_36 rfl (lv_at hl 0 rfl) ?_
  refine lv_bipush (v := 24) hx hb dX2_init_37 (by decide) ?_
  refine va_newa (atype := .int) (ty := .int) (N' := 24) (a0 := (24, .inl (fun _ => 0))) hx hb haI rfl hK hP hD hS hA (fun cA => rfl) (by decide) (by decide) bytes24 (Nat.le_of_ble_eq_true rfl) (Nat.le_of_ble_eq_true rfl) dX2_init_39 (fun q4 cA4 H hK1 hP hD hS => ?_)
  have hc4 : cA4 = cI := RA_int (hK1.2 3 (cA4, .int) rfl).2 (hK.2 0 (cI, .int) rfl).2
  rw [hc4] at hP hD
  have hq4 : q4 ∉ L4 := va_pl_fresh2 (X := []) (f := ev3) hD
  rw [va_pl_push (f := ev3) (e := .inl (cI, 24, .inl (fun _ => 0))) hq4] at hP hD
  refine p_putF hx hb hts hin2 tyX2 tyX2_ok nmX2 hown hK hP hD hS (List.mem_append_left _ J.1.1) ((va_up_ne _ _ (ne_in J.1.1 hq4)).trans J.1.2) rfl 4 (by decide) (hts (.fieldLink RX2 23 "LockerWallModel" "tries" "[I") (by decide +kernel)) rfl rfl hin rfl rfl rfl (by simp [lsM]) dX2_init_41 (fun H locs hP hD hS => ?_)
  have J := J.step (q := q4) (x := .inl (cI, 24, .inl (fun _ => 0))) (fs := (lsM 4 qs3).set 4 (.ref q4)) ha hq4 rfl (by simp [lsM, va_up])
  generalize hev4 : va_up (va_up ev3 q4 (.inl (cI, 24, .inl (fun _ => 0)))) a (.inr (2, (lsM 4 qs3).set 4 (.ref q4))) = ev4 at hP hD J
  generalize hqs4 : va_up qs3 4 q4 = qs4 at J
  generalize hLL4 : L4 ++ [q4] = L5 at hP hD J
  refine lv_aload_n hx hb dX2_init_44 rfl (lv_at hl 0 rfl) ?_
  refine lv_bipush (v := 24) hx hb dX2_init_45 (by decide) ?_
  refine va_newa (atype := .int) (ty := .int) (N' := 24) (a0 := (24, .inl (fun _ => 0))) hx hb haI rfl hK hP hD hS hA (fun cA => rfl) (by decide) (by decide) bytes24 (Nat.le_of_ble_eq_true rfl) (Nat.le_of_ble_eq_true rfl) dX2_init_47 (fun q5 cA5 H hK1 hP hD hS => ?_)
  have hc5 : cA5 = cI := RA_int (hK1.2 3 (cA5, .int) rfl).2 (hK.2 0 (cI, .int) rfl).2
  rw [hc5] at hP hD
  have hq5 : q5 ∉ L5 := va_pl_fresh2 (X := []) (f := ev4) hD
  rw [va_pl_push (f := ev4) (e := .inl (cI, 24, .inl (fun _ => 0))) hq5] at hP hD
  refine p_putF hx hb hts hin2 tyX2 tyX2_ok nmX2 hown hK hP hD hS (List.mem_append_left _ J.1.1) ((va_up_ne _ _ (ne_in J.1.1 hq5)).trans J.1.2) rfl 5 (by decide) (hts (.fieldLink RX2 26 "LockerWallModel" "many" "[I") (by decide +kernel)) rfl rfl hin rfl rfl rfl (by simp [lsM]) dX2_init_49 (fun H locs hP hD hS => ?_)
  have J := J.step (q := q5) (x := .inl (cI, 24, .inl (fun _ => 0))) (fs := (lsM 5 qs4).set 5 (.ref q5)) ha hq5 rfl (by simp [lsM, va_up])
  generalize hev5 : va_up (va_up ev4 q5 (.inl (cI, 24, .inl (fun _ => 0)))) a (.inr (2, (lsM 5 qs4).set 5 (.ref q5))) = ev5 at hP hD J
  generalize hqs5 : va_up qs4 5 q5 = qs5 at J
  generalize hLL5 : L5 ++ [q5] = L6 at hP hD J
  refine lv_aload_n hx hb dX2_init_52 rfl (lv_at hl 0 rfl) ?_
  refine lv_bipush (v := 24) hx hb dX2_init_53 (by decide) ?_
  refine va_newa (atype := .int) (ty := .int) (N' := 24) (a0 := (24, .inl (fun _ => 0))) hx hb haI rfl hK hP hD hS hA (fun cA => rfl) (by decide) (by decide) bytes24 (Nat.le_of_ble_eq_true rfl) (Nat.le_of_ble_eq_true rfl) dX2_init_55 (fun q6 cA6 H hK1 hP hD hS => ?_)
  have hc6 : cA6 = cI := RA_int (hK1.2 3 (cA6, .int) rfl).2 (hK.2 0 (cI, .int) rfl).2
  rw [hc6] at hP hD
  have hq6 : q6 ∉ L6 := va_pl_fresh2 (X := []) (f := ev5) hD
  rw [va_pl_push (f := ev5) (e := .inl (cI, 24, .inl (fun _ => 0))) hq6] at hP hD
  refine p_putF hx hb hts hin2 tyX2 tyX2_ok nmX2 hown hK hP hD hS (List.mem_append_left _ J.1.1) ((va_up_ne _ _ (ne_in J.1.1 hq6)).trans J.1.2) rfl 6 (by decide) (hts (.fieldLink RX2 29 "LockerWallModel" "holds" "[I") (by decide +kernel)) rfl rfl hin rfl rfl rfl (by simp [lsM]) dX2_init_57 (fun H locs hP hD hS => ?_)
  have J := J.step (q := q6) (x := .inl (cI, 24, .inl (fun _ => 0))) (fs := (lsM 6 qs5).set 6 (.ref q6)) ha hq6 rfl (by simp [lsM, va_up])
  generalize hev6 : va_up (va_up ev5 q6 (.inl (cI, 24, .inl (fun _ => 0)))) a (.inr (2, (lsM 6 qs5).set 6 (.ref q6))) = ev6 at hP hD J
  generalize hqs6 : va_up qs5 6 q6 = qs6 at J
  generalize hLL6 : L6 ++ [q6] = L7 at hP hD J
  refine lv_aload_n hx hb dX2_init_60 rfl (lv_at hl 0 rfl) ?_
  refine lv_bipush (v := 24) hx hb dX2_init_61 (by decide) ?_
  refine va_newa (atype := .int) (ty := .int) (N' := 24) (a0 := (24, .inl (fun _ => 0))) hx hb haI rfl hK hP hD hS hA (fun cA => rfl) (by decide) (by decide) bytes24 (Nat.le_of_ble_eq_true rfl) (Nat.le_of_ble_eq_true rfl) dX2_init_63 (fun q7 cA7 H hK1 hP hD hS => ?_)
  have hc7 : cA7 = cI := RA_int (hK1.2 3 (cA7, .int) rfl).2 (hK.2 0 (cI, .int) rfl).2
  rw [hc7] at hP hD
  have hq7 : q7 ∉ L7 := va_pl_fresh2 (X := []) (f := ev6) hD
  rw [va_pl_push (f := ev6) (e := .inl (cI, 24, .inl (fun _ => 0))) hq7] at hP hD
  refine p_putF hx hb hts hin2 tyX2 tyX2_ok nmX2 hown hK hP hD hS (List.mem_append_left _ J.1.1) ((va_up_ne _ _ (ne_in J.1.1 hq7)).trans J.1.2) rfl 7 (by decide) (hts (.fieldLink RX2 32 "LockerWallModel" "left" "[I") (by decide +kernel)) rfl rfl hin rfl rfl rfl (by simp [lsM]) dX2_init_65 (fun H locs hP hD hS => ?_)
  have J := J.step (q := q7) (x := .inl (cI, 24, .inl (fun _ => 0))) (fs := (lsM 7 qs6).set 7 (.ref q7)) ha hq7 rfl (by simp [lsM, va_up])
  generalize hev7 : va_up (va_up ev6 q7 (.inl (cI, 24, .inl (fun _ => 0)))) a (.inr (2, (lsM 7 qs6).set 7 (.ref q7))) = ev7 at hP hD J
  generalize hqs7 : va_up qs6 7 q7 = qs7 at J
  generalize hLL7 : L7 ++ [q7] = L8 at hP hD J
  refine lv_aload_n hx hb dX2_init_68 rfl (lv_at hl 0 rfl) ?_
  refine lv_sipush (v := 240) hx hb dX2_init_69 (by decide) ?_
  refine va_newa (atype := .int) (ty := .int) (N' := 240) (a0 := (240, .inl (fun _ => 0))) hx hb haI rfl hK hP hD hS hA (fun cA => rfl) (by decide) (by decide) bytes240 (Nat.le_of_ble_eq_true rfl) (Nat.le_of_ble_eq_true rfl) dX2_init_72 (fun q8 cA8 H hK1 hP hD hS => ?_)
  have hc8 : cA8 = cI := RA_int (hK1.2 3 (cA8, .int) rfl).2 (hK.2 0 (cI, .int) rfl).2
  rw [hc8] at hP hD
  have hq8 : q8 ∉ L8 := va_pl_fresh2 (X := []) (f := ev7) hD
  rw [va_pl_push (f := ev7) (e := .inl (cI, 240, .inl (fun _ => 0))) hq8] at hP hD
  refine p_putF hx hb hts hin2 tyX2 tyX2_ok nmX2 hown hK hP hD hS (List.mem_append_left _ J.1.1) ((va_up_ne _ _ (ne_in J.1.1 hq8)).trans J.1.2) rfl 8 (by decide) (hts (.fieldLink RX2 35 "LockerWallModel" "item" "[I") (by decide +kernel)) rfl rfl hin rfl rfl rfl (by simp [lsM]) dX2_init_74 (fun H locs hP hD hS => ?_)
  have J := J.step (q := q8) (x := .inl (cI, 240, .inl (fun _ => 0))) (fs := (lsM 8 qs7).set 8 (.ref q8)) ha hq8 rfl (by simp [lsM, va_up])
  generalize hev8 : va_up (va_up ev7 q8 (.inl (cI, 240, .inl (fun _ => 0)))) a (.inr (2, (lsM 8 qs7).set 8 (.ref q8))) = ev8 at hP hD J
  generalize hqs8 : va_up qs7 8 q8 = qs8 at J
  generalize hLL8 : L8 ++ [q8] = L9 at hP hD J
  exact W.vret hx hb hr (fun t ht hW => ⟨⟨(qs8, L9, ev8), rfl, J, by rw [ht]; exact hP, va_K.moved hW.alike hK, hD, fun r hr => hA r (Nat.le_trans hS.1 (by rw [ht] at hr; exact hr))⟩, hS.F ht⟩) hS.2.2 dX2_init_77
