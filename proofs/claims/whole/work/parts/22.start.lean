theorem P0.pre {D : va_G} {tys : List (ClassId × FieldType)} {A : Nat → Prop} {L : List Nat} {ev : Nat → va_E} {s : State} {H : Heap} {locs : List Loc} (hP : va_P D vwCl (va_pl L ev) H) (hK : va_K D vwCl tys s) (hD : va_D A (va_pl L ev)) (hA : ∀ q, s.heap.size ≤ q → A q) (hS : va_S A s.heap H locs) (av : List Value) : PreS s H (va_Pc av (fun U => P0 D tys A L ev U)) av :=
  ⟨fun a U g mk z => ⟨z.1, z.2.1, va_K.moved (u := U) (U := U.calling g mk a) (Vm.Alike.refl U.vm) z.2.2.1, z.2.2.2.1, z.2.2.2.2⟩, fun U hU hW => ⟨rfl, by rw [hU]; exact hP, va_K.moved hW.alike hK, hD, fun q hq => hA q (Nat.le_trans hS.1 (by rw [hU] at hq; exact hq))⟩⟩
theorem P0.preA {D : va_G} {tys : List (ClassId × FieldType)} {A : Nat → Prop} {L : List Nat} {ev : Nat → va_E} {s : State} {H : Heap} {locs : List Loc} (hP : va_P D vwCl (va_pl L ev) H) (hK : va_K D vwCl tys s) (hD : va_D A (va_pl L ev)) (hA : ∀ q, s.heap.size ≤ q → A q) (hS : va_S A s.heap H locs) (hO : va_AO RX0 s) (av : List Value) : PreS s H (va_Pc av (fun U => P0 D tys A L ev U ∧ va_AO RX0 U)) av :=
  ⟨fun a U g mk z => ⟨z.1, ⟨z.2.1.1, va_K.moved (u := U) (U := U.calling g mk a) (Vm.Alike.refl U.vm) z.2.1.2.1, z.2.1.2.2.1, z.2.1.2.2.2⟩, va_AO.moved (u := U) (U := U.calling g mk a) (Vm.Alike.refl U.vm) z.2.2⟩, fun U hU hW => ⟨rfl, ⟨by rw [hU]; exact hP, va_K.moved hW.alike hK, hD, fun q hq => hA q (Nat.le_trans hS.1 (by rw [hU] at hq; exact hq))⟩, va_AO.moved hW.alike hO⟩⟩
theorem arr_int {args : Array Value} {s : State} (h : (Cond.arrayClass .int).before args s = true) : ∃ cA : ClassId, ArrOfT s cA .int ∧ va_RA s cA .int := by
  obtain ⟨cA, kA, comp, h1, h2, h3⟩ := Cond.arrayClass_spec h
  exact ⟨cA, fun n z => ⟨fun k q => (by cases q), kA, h2, comp, h3⟩, h1⟩
theorem arr_bool {args : Array Value} {s : State} (h : (Cond.arrayClass .boolean).before args s = true) : ∃ cA : ClassId, ArrOfT s cA .boolean ∧ va_RA s cA .boolean := by
  obtain ⟨cA, kA, comp, h1, h2, h3⟩ := Cond.arrayClass_spec h
  exact ⟨cA, fun n z => ⟨fun k q => (by cases q), kA, h2, comp, h3⟩, h1⟩
theorem arr_obj {args : Array Value} {s : State} {C : String} (h : (Cond.arrayOver (.object C)).before args s = true) : ∃ cA : ClassId, ArrOfT s cA (.object C) ∧ va_RA s cA (.object C) := by
  obtain ⟨comp, cA, kA, h1, h2, h3, h4, h5⟩ := Cond.arrayOver_spec h
  exact ⟨cA, fun n z => ⟨fun k q => (by cases q), kA, h3, comp, h4⟩, kA, comp, h3, h4, h1, h5⟩
theorem Rel0 : Rel (fun _ _ => 0) (fun _ _ => 0) := ⟨rfl, fun i hi => ⟨rfl, ⟨0, by omega, nI_0.symm⟩, ⟨0, by omega, nI_0.symm⟩, 0, by omega, nI_0.symm, fun h => absurd rfl h⟩⟩
theorem Wei0 : Wei (fun _ _ => 0) := fun i hi h => absurd rfl h
/-- the world at the start -/
theorem Wh0 {D : va_G} {cI cZ cQ : ClassId} {A : Nat → Prop} {x hk q1 : Nat} {qs : Nat → Nat} {L0 L : List Nat} {e0 ev : Nat → va_E} {H : Heap} (hP : va_P D vwCl (va_pl L ev) H) (hD : va_D A (va_pl L ev)) (J : JM cI cZ q1 L0 e0 9 qs L ev) (h1 : x ∈ L0) (h2 : hk ∈ L0) (n1 : x ≠ q1) (n2 : hk ≠ q1) (e1 : e0 x = .inr (1, [.ref hk, .int 0])) (e2 : e0 hk = .inl (cQ, 24, .inr (.inr (.inr (.inr (fun _ => none)))))) :
    Wh (D, (cI, cZ, cQ), A, x, hk, q1, qs) (fun _ => none, fun _ => 0, fun _ _ => 0, fun _ _ => 0) H := by
  obtain ⟨⟨j1, j2⟩, j3, j4, j5⟩ := J
  refine ⟨L, ev, hP, hD, ⟨⟨(j5 x h1).1, ((j5 x h1).2 n1).trans e1⟩, ⟨(j5 hk h2).1, fun _ => none, fun _ _ => rfl, ((j5 hk h2).2 n2).trans e2⟩, fun i hi a ha => ?_, fun i j a _ _ ha => ?_, fun i j a b _ _ ha => ?_, fun i hi => rfl⟩, ⟨j1, j2.trans rfl⟩, fun c hc => ⟨(j3 c hc).1, (j3 c hc).2.2⟩, j4⟩
  · cases ha
  · cases ha
  · cases ha
set_option maxHeartbeats 4000000 in
set_option maxRecDepth 100000 in
/-- THE LAW, from its entry -/
theorem whole_start {p : Program} {e : Env} {s : State} {m : MethodId} {below : List Frame} {meth : Method} {c : Code} (l : Launch) {b L : Nat} {xs : Nat → Int32} (hL : L ≤ 2048) (C0 : lw_At p s m meth c b L xs) : W p l e room_1 s m #[Value.ref b] below meth c s.heap [] 0 0 (lw_Z below #[Value.ref b] s) (entryFrame m ([Value.ref b] : List Value).toArray 4) := by
  obtain ⟨hx, hb, hr, hml, hown, htsT, hX, hbl, hlocks, hgv⟩ := id C0
  have hown : s.vm.findClass RL = some m.cls := hown
  have hAO : va_AO RX0 s := va_AO.of (htsT (.arrayOver (.object RX0)) (by decide +kernel))
  have hts : ∀ w ∈ wsL_law, w.before #[Value.ref b] s = true := fun w h => htsT w (wsL_law_in w h)
  have hA : ∀ q : Nat, s.heap.size ≤ q → (fun q : Nat => s.heap.size ≤ q) q := fun _ h => h
  obtain ⟨c0, iS0, hKn0⟩ := u_known (C := RX0) (T := TX0) (N := 8) (n := 8) hts inlX0 (hts (.instantiable RX0 8) (by decide +kernel))
  obtain ⟨c1, iS1, hKn1⟩ := u_known (C := RX1) (T := TX1) (N := 2) (n := 2) hts inlX1 (hts (.instantiable RX1 2) (by decide +kernel))
  obtain ⟨c2, iS2, hKn2⟩ := u_known (C := RX2) (T := TX2) (N := 10) (n := 10) hts inlX2 (hts (.instantiable RX2 10) (by decide +kernel))
  obtain ⟨dC, dI, hKc⟩ : ∃ (dC : Nat → ClassId) (dI : Nat → Nat → Nat), ∀ (k : Nat) (q : vw_C), vwCl[k]? = some q → u_Kn s q.1 q.2.1 q.2.2 (dC k) (dI k) := by
    refine ⟨fun k => if k = 0 then c0 else if k = 1 then c1 else c2, fun k => if k = 0 then iS0 else if k = 1 then iS1 else iS2, ?_⟩
    intro k q hq
    match k, hq with
    | 0, hq => cases hq; exact hKn0
    | 1, hq => cases hq; exact hKn1
    | 2, hq => cases hq; exact hKn2
    | k + 3, hq => simp [vwCl] at hq
  obtain ⟨cI, aI, rI⟩ := arr_int (hts (.arrayClass .int) (by decide +kernel))
  obtain ⟨cZ, aZ, rZ⟩ := arr_bool (hts (.arrayClass .boolean) (by decide +kernel))
  obtain ⟨cQ, aQ, rQ⟩ := arr_obj (C := RX0) (htsT (.arrayOver (.object RX0)) (by decide +kernel))
  have hK : va_K (dC, dI) vwCl (tyl cI cZ cQ) s := by
    refine ⟨hKc, fun k q hq => ?_⟩
    match k, hq with
    | 0, hq => cases hq; exact ⟨aI, rI⟩
    | 1, hq => cases hq; exact ⟨aZ, rZ⟩
    | 2, hq => cases hq; exact ⟨aQ, rQ⟩
    | k + 3, hq => simp at hq
  have hS : va_S (fun q : Nat => s.heap.size ≤ q) s.heap s.heap [] := va_S.rf
  have hP : va_P (dC, dI) vwCl (va_pl [] (fun _ => .inr (0, []))) s.heap := fun k q h => by simp [va_pl] at h
  have hD : va_D (fun q : Nat => s.heap.size ≤ q) (va_pl [] (fun _ => .inr (0, []))) := ⟨fun i j p q h => by simp [va_pl] at h, fun k q h => by simp [va_pl] at h⟩
  have hl := lv_entry ([.ref b]) (n := 4) (Nat.le_of_ble_eq_true rfl)
  rw [lg_entry_eq]
  generalize (lg_sl ([.ref b]) ++ List.replicate (4 - (lg_sl ([.ref b])).length) Slot.unset).toArray = ls at hl ⊢
  have hl : lv_has ls 4 [(0, .ref b)] := hl
  refine va_new (ci := 1) (fs := [.null, .int 0]) (C := RX1) (T := TX1) (N := 2) hx hb hts inlX1 tyX1 tyX1_ok hown (hts (.classLink RL 7 RX1) (by decide +kernel)) (hts (.instantiable RX1 2) (by decide +kernel)) (hts (.initialized RX1) (by decide +kernel)) hK hP hD hS hA rfl (fun j hj => by rcases (show j = 0 ∨ j = 1 by omega) with rfl | rfl <;> rfl) (Nat.le_of_ble_eq_true rfl) (Nat.le_of_ble_eq_true rfl) dL_law_0 (fun q0 H hP hD hS => ?_)
  have z0 : q0 ∉ ([] : List Nat) := List.not_mem_nil
  rw [va_pl_push (L := []) (f := fun _ => .inr (0, [])) (e := .inr (1, [.null, .int 0])) z0] at hP hD
  refine lv_dup hx hb dL_law_3 rfl ?_
  refine va_callv (va_runI (As := []) (rest := [.ref q0]) ⟨hx, hb, hml, hown, hts⟩ (c_X1_init l (dC, dI) cI cZ cQ (fun q : Nat => s.heap.size ≤ q) ([] ++ [q0]) (va_up (fun _ => .inr (0, [])) q0 (.inr (1, [.null, .int 0]))) q0 (List.mem_singleton.mpr rfl) (va_up_self _ _ _)) (cwI 0 hts gL_law_X1_init rfl rfl rfl (hts (.initialized RX1) (by decide +kernel)) (hts (.methodLink RL 9 yX1_init) (by decide +kernel)) (hts (.instanceMethod yX1_init) (by decide +kernel)) rfl (by decide +kernel) ⟨Nat.le_of_ble_eq_true rfl, Nat.le_of_ble_eq_true rfl⟩) (P0.preA hP hK hD hA hS hAO _) rfl rfl hl.1 rfl (lv_room (Nat.le_of_ble_eq_true rfl)) dL_law_4 ⟨Nat.le_of_ble_eq_true rfl, Nat.le_of_ble_eq_true rfl⟩) hS (fun _ _ h => h) (fun _ h => h) (fun hk t H locs ht hvm hR hB _ _ hS => ?_)
  obtain ⟨hP, -, hD, -⟩ := hB
  rw [ht] at hP
  have n0 : hk ≠ q0 := fun w => hR (w ▸ List.mem_singleton.mpr rfl)
  have e0x : va_up (α := va_E) (va_up (α := va_E) (va_up (α := va_E) (fun _ => .inr (0, [])) q0 (.inr (1, [.null, .int 0]))) hk (.inl (cQ, 24, .inr (.inr (.inr (.inr (fun _ => none))))))) q0 (.inr (1, [.ref hk, .int 0])) q0 = .inr (1, [.ref hk, .int 0]) := va_up_self _ _ _
  have e0h : va_up (α := va_E) (va_up (α := va_E) (va_up (α := va_E) (fun _ => .inr (0, [])) q0 (.inr (1, [.null, .int 0]))) hk (.inl (cQ, 24, .inr (.inr (.inr (.inr (fun _ => none))))))) q0 (.inr (1, [.ref hk, .int 0])) hk = .inl (cQ, 24, .inr (.inr (.inr (.inr (fun _ => none))))) := by rw [va_up_ne _ _ n0, va_up_self]
  generalize va_up (α := va_E) (va_up (α := va_E) (va_up (α := va_E) (fun _ => .inr (0, [])) q0 (.inr (1, [.null, .int 0]))) hk (.inl (cQ, 24, .inr (.inr (.inr (.inr (fun _ => none))))))) q0 (.inr (1, [.ref hk, .int 0])) = e0 at hP hD e0x e0h
  have m0 : q0 ∈ ([] ++ [q0]) ++ [hk] := by simp
  have m1 : hk ∈ ([] ++ [q0]) ++ [hk] := by simp
  generalize ([] ++ [q0]) ++ [hk] = L1 at hP hD m0 m1
  refine lv_astore_n (lv' := [(1, .ref q0), (0, .ref b)]) hx hb dL_law_7 rfl hl (by decide) rfl (fun ls hl => ?_)
  refine va_new (ci := 2) (fs := [.null, .null, .null, .null, .null, .null, .null, .null, .null, .int 0]) (C := RX2) (T := TX2) (N := 10) hx hb hts inlX2 tyX2 tyX2_ok hown (hts (.classLink RL 10 RX2) (by decide +kernel)) (hts (.instantiable RX2 10) (by decide +kernel)) (hts (.initialized RX2) (by decide +kernel)) hK hP hD hS hA rfl (fun j hj => by rcases (show j = 0 ∨ j = 1 ∨ j = 2 ∨ j = 3 ∨ j = 4 ∨ j = 5 ∨ j = 6 ∨ j = 7 ∨ j = 8 ∨ j = 9 by omega) with rfl | rfl | rfl | rfl | rfl | rfl | rfl | rfl | rfl | rfl <;> rfl) (Nat.le_of_ble_eq_true rfl) (Nat.le_of_ble_eq_true rfl) dL_law_8 (fun q1 H hP hD hS => ?_)
  have z1 : q1 ∉ L1 := va_pl_fresh2 (X := []) (f := e0) hD
  rw [va_pl_push (f := e0) (e := .inr (2, [.null, .null, .null, .null, .null, .null, .null, .null, .null, .int 0])) z1] at hP hD
  have n1 : q0 ≠ q1 := ne_in m0 z1
  have n2 : hk ≠ q1 := ne_in m1 z1
  have e1x : va_up e0 q1 (.inr (2, [.null, .null, .null, .null, .null, .null, .null, .null, .null, .int 0])) q0 = .inr (1, [.ref hk, .int 0]) := by rw [va_up_ne _ _ n1]; exact e0x
  have e1h : va_up e0 q1 (.inr (2, [.null, .null, .null, .null, .null, .null, .null, .null, .null, .int 0])) hk = .inl (cQ, 24, .inr (.inr (.inr (.inr (fun _ => none))))) := by rw [va_up_ne _ _ n2]; exact e0h
  have e1m : va_up e0 q1 (.inr (2, [.null, .null, .null, .null, .null, .null, .null, .null, .null, .int 0])) q1 = .inr (2, [.null, .null, .null, .null, .null, .null, .null, .null, .null, .int 0]) := va_up_self _ _ _
  generalize va_up e0 q1 (.inr (2, [.null, .null, .null, .null, .null, .null, .null, .null, .null, .int 0])) = e1 at hP hD e1x e1h e1m
  have m2 : q1 ∈ L1 ++ [q1] := by simp
  have m0 : q0 ∈ L1 ++ [q1] := List.mem_append_left _ m0
  have m1 : hk ∈ L1 ++ [q1] := List.mem_append_left _ m1
  generalize L1 ++ [q1] = L2 at hP hD m0 m1 m2
  refine lv_dup hx hb dL_law_11 rfl ?_
  refine va_callv (va_runI (As := []) (rest := [.ref q1]) ⟨hx, hb, hml, hown, hts⟩ (c_X2_init l (dC, dI) cI cZ cQ (fun q : Nat => s.heap.size ≤ q) L2 e1 q1 m2 e1m) (cwI 0 hts gL_law_X2_init rfl rfl rfl (hts (.initialized RX2) (by decide +kernel)) (hts (.methodLink RL 12 yX2_init) (by decide +kernel)) (hts (.instanceMethod yX2_init) (by decide +kernel)) rfl (by decide +kernel) ⟨Nat.le_of_ble_eq_true rfl, Nat.le_of_ble_eq_true rfl⟩) (P0.pre hP hK hD hA hS _) rfl rfl hl.1 rfl (lv_room (Nat.le_of_ble_eq_true rfl)) dL_law_12 ⟨Nat.le_of_ble_eq_true rfl, Nat.le_of_ble_eq_true rfl⟩) hS (fun _ _ h => h) (fun _ h => h) (fun u t H locs ht hvm hR hB _ _ hS => ?_)
  obtain ⟨hP, -, hD, -⟩ := hB
  rw [ht] at hP
  have hW := Wh0 hP hD hR m0 m1 n1 n2 e1x e1h
  refine lv_astore_n (lv' := [(2, .ref q1), (1, .ref q0), (0, .ref b)]) hx hb dL_law_15 rfl hl (by decide) rfl (fun ls hl => ?_)
  refine lv_iconst (v := 0) hx hb dL_law_16 (by decide) ?_
  refine lv_istore_n (lv' := [(3, .int 0), (2, .ref q1), (1, .ref q0), (0, .ref b)]) hx hb dL_law_17 rfl hl (by decide) rfl (fun ls hl => ?_)
  refine W.widen (k := 12) (n := 468) (Nat.le_of_ble_eq_true rfl) (Nat.le_of_ble_eq_true rfl) ?_
  exact law_loop (G := ((dC, dI), (cI, cZ, cQ), (fun q : Nat => s.heap.size ≤ q), q0, hk, q1, u.1)) hL C0 rfl 513 0 0 (fun _ _ => 0) (fun _ _ => 0) (fun _ => none) (fun _ => 0) 12 468 H locs ls ⟨rfl, rfl, by omega, Nat.le_refl _, Nat.le_refl _, Rel0, Wei0⟩ ⟨hW, hK, hA, hS⟩ (lv_sub hl [0, 3, 2, 1] (by rw [← nI_0]; rfl))
-- ===== YOUR PART ENDS =====
set_option maxHeartbeats 4000000 in
theorem lw_walk (l : Launch) (b : Addr) (xs : List Int32) : MetFree l x (headSpec (Jvm.Cond.code x code maxLocals ret :: tables_1) room_1) (lw_P b xs) (fun _ _ _ _ _ => True) lw_Q := by
  refine MetFree.of_bodyS (code := code) (maxLocals := maxLocals) (ret := ret) (by decide) ?_ ?_
  · intro args s m h hn
    obtain ⟨meth, c, h1, h2, h3, h4, h5, h6, -, -⟩ := Cond.code_spec hn (atoms_spec (ws := Jvm.Cond.code x code maxLocals ret :: tables_1) h _ List.mem_cons_self)
    exact ⟨meth, c, h1, h2, h3, h4, h5, h6⟩
  · intro p e s m args below meth c s₁ B hml0 hP _
    obtain ⟨rfl, hx, hbd, hgv⟩ := hP
    obtain ⟨scr, harrAt, hlist, hof, hsmall⟩ := hx
    obtain ⟨hcb, hkn, -, -⟩ := State.arrayAt?_spec harrAt
    have hown : s.vm.findClass R_law = some m.cls := findClass_of_methodNamed B.named
    have hts0 : ∀ c ∈ (Jvm.Cond.code x code maxLocals ret :: tables_1), c.before #[Value.ref b] s = true := atoms_spec (ws := Jvm.Cond.code x code maxLocals ret :: tables_1) B.pre
    have hts : ∀ w ∈ lw_tbl, w.before #[Value.ref b] s = true := k2_hts_sels lw_privs (fun w hw => hts0 w (List.mem_cons_of_mem _ hw)) lw_privs_ok
    have hml : c.maxLocals = 4 := B.maxLocals_eq (hts0 _ List.mem_cons_self)
    have X₀ : Stand p l e room_1 s m #[Value.ref b] below meth c s₁ [] 0 0 := Stand.of_body B
    have hh0 : s₁.heap = s.heap := by rw [B.state]; rfl
    have hsz : scr.slots.size = xs.length := by rw [← Array.length_toList, hlist, List.length_map]
    have hval : ∀ j : Nat, j < xs.length → scr.slots[j]? = some (.int (xs.getD j 0)) := fun j hj => by
      rw [← Array.getElem?_toList, hlist]
      simp [hj]
    have hbl : b < s.heap.size := (Array.getElem?_eq_some_iff.mp hcb).1
    have hX : va_X b xs.length (fun j => xs.getD j 0) s s.heap := ⟨scr, hcb, hof, hkn, hsz, hval⟩
    have K : W p l e room_1 s m #[Value.ref b] below meth c s₁.heap [] 0 0 (lw_Z below #[Value.ref b] s) (entryFrame m ([Value.ref b] : List Value).toArray 4) := by
      rw [hh0]
      exact whole_start l hbd ⟨B.exec, B.bytes, B.returns, hml, hown, hts, hX, hbl, B.notSynchronized, hgv⟩
    obtain ⟨t, a1, o, b1, b2, b3⟩ := K s₁ rfl X₀
    exact ⟨t, o, a1, b1, b2, b3⟩
theorem lw_pre_spec {args : Array Value} {s : State} (h : (Jvm.Cond.and given_1 narrow_1).before args s = true) (hr : rest_1_c.before args s = true) : ∃ (b : Addr) (xs : List Int32), lw_P b xs args s := by
  have hs := flat_of_before _ h
  have hq := flat_of_before _ hr
  have hc : (Cond.count 1).before args s = true := hs _ (by decide +kernel)
  have harr : (Cond.arrayOf (.arg 0) .int).before args s = true := hs _ (by decide +kernel)
  have hle : (Cond.le (.length (.arg 0)) (.int 2048)).before args s = true := hs _ (by decide +kernel)
  have hlen : (Cond.isInt (.length (.arg 0))).before args s = true := hq _ (by decide +kernel)
  have hall : (Cond.all (.arg 0) (.isInt (.elem (.arg 0) (.index 0)))).before args s = true := hq _ (by decide +kernel)
  obtain ⟨b, xs, hb, hx⟩ := State.ints_of_pre rfl harr hlen hall
  have hsm : xs.length < 2 ^ 31 := hx.choose_spec.2.2.2
  have hev : (Term.length (.arg 0)).eval args s none [] s = some (.int xs.length.toInt32) := hx.length_eval hb
  have hv := Cond.le_ints hev (show (Term.int 2048).eval args s none [] s = some (.int 2048) from rfl)
  have hd : xs.length.toInt32 ≤ 2048 := by
    simpa [Cond.before, Cond.holds, hv] using hle
  have hN : xs.length ≤ 2048 := (Int32.ofNat_le_ofNat hsm (by decide)).mp (show Int32.ofNat xs.length ≤ Int32.ofNat 2048 from hd)
  exact ⟨b, xs, Cond.one_arg hc (show args[0]? = some (.ref b) from hb), hx, hN, h⟩
theorem lw_comes (l : Launch) : Comes l x (Jvm.Cond.code x code maxLocals ret :: tables_1) room_1 (fun tb e args s => Calls_1 tb e args s ∧ rest_1 tb e args s ∧ Pre_1 tb e args s)
    (fun _ _ args s o t => lw_Q args s o t) := by
  intro p e ha hc hk s m args below hf hfit hheap happ hpre
  obtain ⟨b, xs, hP⟩ := lw_pre_spec hpre.2.2 hpre.2.1
  obtain ⟨k, o, h1, h2, h3, hQ⟩ := lw_walk l b xs p e ha hc hk s m args below hf ((Spec.applies_iff_loose hf).mp happ).1 hP trivial
  exact ⟨k, o, h1, h2, h3, hQ⟩
theorem lw_frame {s t : State} {o : Outcome} {args : Array Value} (h : Framed s o t [] 600000 7302250) :
    Framed s o t (fieldLocs frame_1_writes args s ++ arrayLocs frame_1_arrays args s ++ staticLocs frame_1_statics s) 600000 7302250 := h
theorem lw_limb (L : Cond) (hL : ∀ (args : Array Value) (s t : State), L.after args s (.returned (some (.int 1))) t = true) :
    ArmFor flags0 classFile x code maxLocals ret World_1 tables_1 room_1 Calls_1 rest_1 Pre_1
      (fun tb e a s o t => postC L tb e a s o t ∧ Framed s o t (fieldLocs frame_1_writes a s ++ arrayLocs frame_1_arrays a s ++ staticLocs frame_1_statics s) 600000 7302250) := by
  intro l _ _ _ p e ha hc hk s m args below hf hfit hheap happ hpre
  obtain ⟨k, o, h1, h2, h3, rfl, hF⟩ := lw_comes l p e ha hc hk s m args below hf hfit hheap happ hpre
  exact ⟨k, _, h1, h2, h3, hL args s _, lw_frame hF⟩
theorem i_vc : Claimed_1_1 ∧ Claimed_1_2 := ⟨lw_limb limb_1_1 (fun args s t => by simp [limb_1_1, Cond.after, Cond.holds, Cond.value]), lw_limb limb_1_2 (fun args s t => Cond.after_iff.mpr (by
  first | (rw [show limb_1_2 = Cond.eq .result (.int 1) from rfl, Cond.eq_ints (x := 1) (y := 1) rfl rfl]; simp; done) | (simp [limb_1_2, Cond.value, Term.eval]; done)))⟩
