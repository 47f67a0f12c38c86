/-! ROWS over the world: fields and rows of cells -/
theorem TX0_1 : ∀ k, k < 8 → (TX0 k).1 = "LockerWall$Locker" := by decide +kernel
theorem TX1_1 : ∀ k, k < 2 → (TX1 k).1 = "LockerWall" := by decide +kernel
theorem TX2_1 : ∀ k, k < 10 → (TX2 k).1 = "LockerWallModel" := by decide +kernel
section RW
variable {p : Program} {l : Launch} {e : Env} {R : Room} {s : State} {m : MethodId} {args : Array Value} {below : List Frame} {meth : Method} {c : Code} {H : Heap} {locs : List Loc} {cells slots : Nat} {Q : State → Prop}
variable {cc : ByteArray} {pc : Nat} {ls : Array Slot} {rest : List Value} {G : GT} {f : Nat → Option Nat} {wa : Nat → Nat} {S M : Tb} {Ts : List Cond} {own : String} {index : Nat}
/-- a field of a pooled object -/
theorem p_put {D : va_G} {cl : List vw_C} {tys : List (ClassId × FieldType)} {A : Nat → Prop} {H0 : Heap} {L : List Nat} {ev : Nat → va_E} {a ci N : Nat} {C ref : String} {T : u_T} {fs : List Value} (hexec : p.tables.exec = Jvm.exec) (hb : c.code = cc) (hts : ∀ w ∈ Ts, w.before args s = true) (hin : ∀ w ∈ u_ws C T N, w ∈ Ts) (ty0 : Nat → FieldType) (hty : ∀ k, k < N → parseFieldDescriptor (T k).2.2.1 = some (ty0 k)) (hnm : ∀ a, a < N → ∀ b, b < N → a ≠ b → (T a).2.1 ≠ (T b).2.1) (hown : s.vm.findClass own = some m.cls) (hK : va_K D cl tys s) (hP : va_P D cl (va_pl L ev) H) (hD : va_D A (va_pl L ev)) (hS0 : va_S A H0 H locs) (ha : a ∈ L) (he : ev a = .inr (ci, fs)) (hc : cl[ci]? = some (C, T, N)) (k : Nat) (hk : k < N) (hlink : (Cond.fieldLink own index ref (T k).2.1 (T k).2.2.1).before args s = true) (hsame : (T k).1 = ref) (hfin : (T k).2.2.2 = false) {v : Value} (hn : narrow (ty0 k) v = v) (hfit : fits (ty0 k) v = true) (hl : k < fs.length)
    (hdg : decode cc pc = .ok (.putfield index, 3)) (kk : ∀ (H1 : Heap) (locs1 : List Loc), va_P D cl (va_pl L (va_up ev a (.inr (ci, fs.set k v)))) H1 → va_D A (va_pl L (va_up ev a (.inr (ci, fs.set k v)))) → va_S A H0 H1 locs1 → W p l e R s m args below meth c H1 locs1 cells slots Q (F0 m (pc + 3) ls rest)) : W p l e R s m args below meth c H locs cells slots Q (F0 m pc ls (v :: .ref a :: rest)) := by
  obtain ⟨k0, hk0⟩ := va_pl_get (X := []) (f := ev) ha
  have hk1 := hk0
  rw [he] at hk1
  refine va_put hexec hb hts hin ty0 hty hnm hown hK hP hD hS0 k0 hk1 hc k hk hlink (fun x9 h9 => by rw [hsame] at h9; exact h9) hfin (hty k hk) hn hfit hl hdg (fun H1 locs1 h1 h2 h3 => kk H1 locs1 ?_ ?_ h3)
  · have q := va_pl_set (X := []) (e := .inr (ci, fs.set k v)) hD ha hk0
    exact (show _ = va_pl L _ from q) ▸ h1
  · have q := va_pl_set (X := []) (e := .inr (ci, fs.set k v)) hD ha hk0
    exact (show _ = va_pl L _ from q) ▸ h2
theorem p_get {D : va_G} {cl : List vw_C} {tys : List (ClassId × FieldType)} {L : List Nat} {ev : Nat → va_E} {a ci N : Nat} {C ref : String} {T : u_T} {fs : List Value} (hexec : p.tables.exec = Jvm.exec) (hb : c.code = cc) (hts : ∀ w ∈ Ts, w.before args s = true) (hin : ∀ w ∈ u_ws C T N, w ∈ Ts) (hown : s.vm.findClass own = some m.cls) (hK : va_K D cl tys s) (hP : va_P D cl (va_pl L ev) H) (ha : a ∈ L) (he : ev a = .inr (ci, fs)) (hc : cl[ci]? = some (C, T, N)) (k : Nat) (hk : k < N) (hlink : (Cond.fieldLink own index ref (T k).2.1 (T k).2.2.1).before args s = true) (hsame : (T k).1 = ref) {v : Value} (hv : fs[k]? = some v)
    (hdg : decode cc pc = .ok (.getfield index, 3)) (kk : W p l e R s m args below meth c H locs cells slots Q (F0 m (pc + 3) ls (v :: rest))) : W p l e R s m args below meth c H locs cells slots Q (F0 m pc ls (.ref a :: rest)) := by
  obtain ⟨k0, hk0⟩ := va_pl_get (X := []) (f := ev) ha
  rw [he] at hk0
  exact va_get hexec hb hts hin hown hK hP k0 hk0 hc k hk hlink (fun x9 h9 => by rw [hsame] at h9; exact h9) hv hdg kk
/-- lockers -/
theorem r_get0 (hx : p.tables.exec = Jvm.exec) (hb : c.code = cc) (hts : ∀ w ∈ Ts, w.before args s = true) (hin : ∀ w ∈ wsX00, w ∈ Ts) (hown : s.vm.findClass own = some m.cls) (hw : Wi G (f, wa, S, M) s H locs) {i a : Nat} (hi : i < 25) (hf : f i = some a) (k : Nat) (hk : k < 8) (hlink : (Cond.fieldLink own index "LockerWall$Locker" (TX0 k).2.1 (TX0 k).2.2.1).before args s = true) {v : Value} (hv : (lkL S i (wa i))[k]? = some v) (hdg : decode cc pc = .ok (.getfield index, 3))
    (kk : W p l e R s m args below meth c H locs cells slots Q (F0 m (pc + 3) ls (v :: rest))) : W p l e R s m args below meth c H locs cells slots Q (F0 m pc ls (.ref a :: rest)) := by
  obtain ⟨⟨L, ev, hP, hD, ⟨-, -, c3, -⟩, -⟩, hK, -⟩ := hw
  exact p_get hx hb hts hin hown hK hP (c3 i hi a hf).1.1 (c3 i hi a hf).1.2 rfl k hk hlink (TX0_1 k hk) hv hdg kk
theorem r_put0 (hx : p.tables.exec = Jvm.exec) (hb : c.code = cc) (hts : ∀ w ∈ Ts, w.before args s = true) (hin : ∀ w ∈ wsX00, w ∈ Ts) (hown : s.vm.findClass own = some m.cls) (hw : Wi G (f, wa, S, M) s H locs) {i a : Nat} (hi : i < 25) (hf : f i = some a) (k col : Nat) (hkc : (k, col) ∈ [(1, 2), (2, 3), (3, 4), (5, 5), (6, 6), (7, 7)]) (hlink : (Cond.fieldLink own index "LockerWall$Locker" (TX0 k).2.1 (TX0 k).2.2.1).before args s = true) {y : Int32} (hn : narrow (tyX0 k) (.int y) = .int y) (hfit : fits (tyX0 k) (.int y) = true) (hdg : decode cc pc = .ok (.putfield index, 3))
    (kk : ∀ (H1 : Heap) (locs1 : List Loc), Wi G (f, wa, sU S col i y, M) s H1 locs1 → W p l e R s m args below meth c H1 locs1 cells slots Q (F0 m (pc + 3) ls rest)) : W p l e R s m args below meth c H locs cells slots Q (F0 m pc ls (.int y :: .ref a :: rest)) := by
  obtain ⟨⟨L, ev, hP, hD, hC, hM⟩, hK, hA, hS⟩ := hw
  have h1 := (hC.2.2.1 i hi a hf).1
  have hk : k < 8 ∧ (TX0 k).2.2.2 = false ∧ (lkL S i (wa i)).set k (.int y) = lkL (sU S col i y) i (wa i) ∧ col ≠ 0 ∧ col ≠ 8 ∧ col ≠ 9 := by
    simp only [List.mem_cons, Prod.mk.injEq, List.not_mem_nil, or_false] at hkc
    rcases hkc with ⟨rfl, rfl⟩ | ⟨rfl, rfl⟩ | ⟨rfl, rfl⟩ | ⟨rfl, rfl⟩ | ⟨rfl, rfl⟩ | ⟨rfl, rfl⟩ <;>
      exact ⟨by decide, rfl, by simp [sU], by decide, by decide, by decide⟩
  obtain ⟨hk8, hfin, hset, h0, h8, h9⟩ := hk
  refine p_put hx hb hts hin tyX0 tyX0_ok nmX0 hown hK hP hD hS h1.1 h1.2 rfl k hk8 hlink (TX0_1 k hk8) hfin hn hfit hk8 hdg (fun H1 locs1 e1 e2 e3 => kk H1 locs1 ⟨⟨L, _, e1, e2, ?_, rpM_up hM (by rw [h1.2]; simp [kd]) (by rw [h1.2]; simp [kd])⟩, hK, hA, e3⟩)
  rw [hset]
  exact rpC_lk hC hi hf h0 h8 h9
/-- the wall -/
theorem r_getH (hx : p.tables.exec = Jvm.exec) (hb : c.code = cc) (hts : ∀ w ∈ Ts, w.before args s = true) (hin : ∀ w ∈ wsX10, w ∈ Ts) (hown : s.vm.findClass own = some m.cls) (hw : Wi G (f, wa, S, M) s H locs) (hlink : (Cond.fieldLink own index "LockerWall" "hooks" "[LLockerWall$Locker;").before args s = true) (hdg : decode cc pc = .ok (.getfield index, 3))
    (kk : W p l e R s m args below meth c H locs cells slots Q (F0 m (pc + 3) ls (.ref (gh G) :: rest))) : W p l e R s m args below meth c H locs cells slots Q (F0 m pc ls (.ref (gx G) :: rest)) := by
  obtain ⟨⟨L, ev, hP, hD, ⟨⟨x1, x2⟩, -⟩, -⟩, hK, -⟩ := hw
  exact p_get hx hb hts hin hown hK hP x1 x2 rfl 0 (by decide) hlink rfl rfl hdg kk
theorem r_getT (hx : p.tables.exec = Jvm.exec) (hb : c.code = cc) (hts : ∀ w ∈ Ts, w.before args s = true) (hin : ∀ w ∈ wsX10, w ∈ Ts) (hown : s.vm.findClass own = some m.cls) (hw : Wi G (f, wa, S, M) s H locs) (hlink : (Cond.fieldLink own index "LockerWall" "latchHolds" "I").before args s = true) (hdg : decode cc pc = .ok (.getfield index, 3))
    (kk : W p l e R s m args below meth c H locs cells slots Q (F0 m (pc + 3) ls (.int (S 9 0) :: rest))) : W p l e R s m args below meth c H locs cells slots Q (F0 m pc ls (.ref (gx G) :: rest)) := by
  obtain ⟨⟨L, ev, hP, hD, ⟨⟨x1, x2⟩, -⟩, -⟩, hK, -⟩ := hw
  exact p_get hx hb hts hin hown hK hP x1 x2 rfl 1 (by decide) hlink rfl rfl hdg kk
theorem r_putT (hx : p.tables.exec = Jvm.exec) (hb : c.code = cc) (hts : ∀ w ∈ Ts, w.before args s = true) (hin : ∀ w ∈ wsX10, w ∈ Ts) (hown : s.vm.findClass own = some m.cls) (hw : Wi G (f, wa, S, M) s H locs) (hlink : (Cond.fieldLink own index "LockerWall" "latchHolds" "I").before args s = true) {y : Int32} (hdg : decode cc pc = .ok (.putfield index, 3))
    (kk : ∀ (H1 : Heap) (locs1 : List Loc), Wi G (f, wa, sU S 9 0 y, M) s H1 locs1 → W p l e R s m args below meth c H1 locs1 cells slots Q (F0 m (pc + 3) ls rest)) : W p l e R s m args below meth c H locs cells slots Q (F0 m pc ls (.int y :: .ref (gx G) :: rest)) := by
  obtain ⟨⟨L, ev, hP, hD, hC, hM⟩, hK, hA, hS⟩ := hw
  refine p_put hx hb hts hin tyX1 tyX1_ok nmX1 hown hK hP hD hS hC.1.1 hC.1.2 rfl 1 (by decide) hlink rfl rfl rfl rfl (by simp) hdg (fun H1 locs1 e1 e2 e3 => kk H1 locs1 ⟨⟨L, _, e1, e2, rpC_wl hC, rpM_up hM (by rw [hC.1.2]; simp [kd]) (by rw [hC.1.2]; simp [kd])⟩, hK, hA, e3⟩)
/-- the model -/
theorem r_getM (hx : p.tables.exec = Jvm.exec) (hb : c.code = cc) (hts : ∀ w ∈ Ts, w.before args s = true) (hin : ∀ w ∈ wsX20, w ∈ Ts) (hown : s.vm.findClass own = some m.cls) (hw : Wi G (f, wa, S, M) s H locs) (k : Nat) (hk : k < 10) (hlink : (Cond.fieldLink own index "LockerWallModel" (TX2 k).2.1 (TX2 k).2.2.1).before args s = true) {v : Value} (hv : (mdL G M)[k]? = some v) (hdg : decode cc pc = .ok (.getfield index, 3))
    (kk : W p l e R s m args below meth c H locs cells slots Q (F0 m (pc + 3) ls (v :: rest))) : W p l e R s m args below meth c H locs cells slots Q (F0 m pc ls (.ref (gm G) :: rest)) := by
  obtain ⟨⟨L, ev, hP, hD, -, ⟨m1, m2⟩, -⟩, hK, -⟩ := hw
  exact p_get hx hb hts hin hown hK hP m1 m2 rfl k hk hlink (TX2_1 k hk) hv hdg kk
theorem r_putMT (hx : p.tables.exec = Jvm.exec) (hb : c.code = cc) (hts : ∀ w ∈ Ts, w.before args s = true) (hin : ∀ w ∈ wsX20, w ∈ Ts) (hown : s.vm.findClass own = some m.cls) (hw : Wi G (f, wa, S, M) s H locs) (hlink : (Cond.fieldLink own index "LockerWallModel" "latched" "I").before args s = true) {y : Int32} (hdg : decode cc pc = .ok (.putfield index, 3))
    (kk : ∀ (H1 : Heap) (locs1 : List Loc), Wi G (f, wa, S, sU M 9 0 y) s H1 locs1 → W p l e R s m args below meth c H1 locs1 cells slots Q (F0 m (pc + 3) ls rest)) : W p l e R s m args below meth c H locs cells slots Q (F0 m pc ls (.int y :: .ref (gm G) :: rest)) := by
  obtain ⟨⟨L, ev, hP, hD, hC, hM⟩, hK, hA, hS⟩ := hw
  refine p_put hx hb hts hin tyX2 tyX2_ok nmX2 hown hK hP hD hS hM.1.1 hM.1.2 rfl 9 (by decide) hlink rfl rfl rfl rfl (by simp) hdg (fun H1 locs1 e1 e2 e3 => kk H1 locs1 ⟨⟨L, _, e1, e2, rpC_up hC (Or.inl (by rw [hM.1.2]; rfl)), rpM_md hM⟩, hK, hA, e3⟩)
theorem r_mld (hx : p.tables.exec = Jvm.exec) (hb : c.code = cc) (hw : Wi G (f, wa, S, M) s H locs) (k : Nat) (hk : k < 9) (hki : ¬ (k = 0 ∨ k = 3)) {ix : Int32} (j : Nat) (hix : ix = nI j) (hj : j < mln k) (hdg : decode cc pc = .ok (.iaload, 1))
    (kk : W p l e R s m args below meth c H locs cells slots Q (F0 m (pc + 1) ls (.int (M k j) :: rest))) : W p l e R s m args below meth c H locs cells slots Q (F0 m pc ls (.int ix :: .ref (gc G k) :: rest)) := by
  obtain ⟨⟨L, ev, hP, hD, -, -, m3, -⟩, hK, -⟩ := hw
  have hl : mln k < 2 ^ 31 := by unfold mln; split <;> decide
  obtain ⟨k0, hk0⟩ := va_pl_get (X := []) (f := ev) (m3 k hk).1
  rw [(m3 k hk).2, maE, mcl, if_neg hki] at hk0
  subst hix
  refine va_iald hx hb hK hP k0 0 hk0 rfl (vp_in_nI hj hl) hdg ?_
  rw [nI_clamp (by omega)]
  exact kk
theorem r_mldZ (hx : p.tables.exec = Jvm.exec) (hb : c.code = cc) (hw : Wi G (f, wa, S, M) s H locs) (k : Nat) (hk : k < 9) (hki : k = 0 ∨ k = 3) {ix : Int32} (j : Nat) (hix : ix = nI j) (hj : j < mln k) (hdg : decode cc pc = .ok (.baload, 1))
    (kk : W p l e R s m args below meth c H locs cells slots Q (F0 m (pc + 1) ls (.int (M k j) :: rest))) : W p l e R s m args below meth c H locs cells slots Q (F0 m pc ls (.int ix :: .ref (gc G k) :: rest)) := by
  obtain ⟨⟨L, ev, hP, hD, -, -, m3, -⟩, hK, -⟩ := hw
  have hl : mln k < 2 ^ 31 := by unfold mln; split <;> decide
  obtain ⟨k0, hk0⟩ := va_pl_get (X := []) (f := ev) (m3 k hk).1
  rw [(m3 k hk).2, maE, mcl, if_pos hki] at hk0
  subst hix
  refine va_zald hx hb hK hP k0 1 hk0 rfl (vp_in_nI hj hl) hdg ?_
  rw [nI_clamp (by omega)]
  exact kk
theorem r_mst (hx : p.tables.exec = Jvm.exec) (hb : c.code = cc) (hw : Wi G (f, wa, S, M) s H locs) (k : Nat) (hk : k < 9) (hki : ¬ (k = 0 ∨ k = 3)) {ix y : Int32} (j : Nat) (hix : ix = nI j) (hj : j < mln k) (hdg : decode cc pc = .ok (.iastore, 1))
    (kk : ∀ (H1 : Heap) (locs1 : List Loc), Wi G (f, wa, S, sU M k j y) s H1 locs1 → W p l e R s m args below meth c H1 locs1 cells slots Q (F0 m (pc + 1) ls rest)) : W p l e R s m args below meth c H locs cells slots Q (F0 m pc ls (.int y :: .int ix :: .ref (gc G k) :: rest)) := by
  obtain ⟨⟨L, ev, hP, hD, hC, hM⟩, hK, hA, hS⟩ := hw
  have hl : mln k < 2 ^ 31 := by unfold mln; split <;> decide
  obtain ⟨m1, m2⟩ := hM.2.1 k hk
  obtain ⟨k0, hk0⟩ := va_pl_get (X := []) (f := ev) m1
  have hk1 := hk0
  have hcl : mcl G k = gI G := by rw [mcl, if_neg hki]
  rw [m2] at hk1
  subst hix
  refine va_iast hx hb hK hP hD hS k0 0 hk1 (by rw [hcl]; rfl) (vp_in_nI hj hl) hdg (fun H1 locs1 h1 h2 h3 => ?_)
  rw [nI_clamp (by omega)] at h1 h2
  have q := va_pl_set (X := []) (e := .inl (mcl G k, mln k, .inl (upd (M k) j y))) hD m1 hk0
  have q : (va_pl L ev).set k0 _ = va_pl L _ := q
  refine kk H1 locs1 ⟨⟨L, _, q ▸ h1, q ▸ h2, rpC_up hC (Or.inr (by rw [m2]; exact kd_ma G M k)), rpM_ma hM hk⟩, hK, hA, h3⟩
theorem r_mstZ (hx : p.tables.exec = Jvm.exec) (hb : c.code = cc) (hw : Wi G (f, wa, S, M) s H locs) (k : Nat) (hk : k < 9) (hki : k = 0 ∨ k = 3) {ix y : Int32} (hy : vp_nar .boolean y = y) (j : Nat) (hix : ix = nI j) (hj : j < mln k) (hdg : decode cc pc = .ok (.bastore, 1))
    (kk : ∀ (H1 : Heap) (locs1 : List Loc), Wi G (f, wa, S, sU M k j y) s H1 locs1 → W p l e R s m args below meth c H1 locs1 cells slots Q (F0 m (pc + 1) ls rest)) : W p l e R s m args below meth c H locs cells slots Q (F0 m pc ls (.int y :: .int ix :: .ref (gc G k) :: rest)) := by
  obtain ⟨⟨L, ev, hP, hD, hC, hM⟩, hK, hA, hS⟩ := hw
  have hl : mln k < 2 ^ 31 := by unfold mln; split <;> decide
  obtain ⟨m1, m2⟩ := hM.2.1 k hk
  obtain ⟨k0, hk0⟩ := va_pl_get (X := []) (f := ev) m1
  have hk1 := hk0
  have hcl : mcl G k = gZ G := by rw [mcl, if_pos hki]
  rw [m2] at hk1
  subst hix
  refine va_zast hx hb hK hP hD hS k0 1 hk1 (by rw [hcl]; rfl) (vp_in_nI hj hl) hdg (fun H1 locs1 h1 h2 h3 => ?_)
  rw [nI_clamp (by omega), hy] at h1 h2
  have q := va_pl_set (X := []) (e := .inl (mcl G k, mln k, .inl (upd (M k) j y))) hD m1 hk0
  have q : (va_pl L ev).set k0 _ = va_pl L _ := q
  refine kk H1 locs1 ⟨⟨L, _, q ▸ h1, q ▸ h2, rpC_up hC (Or.inr (by rw [m2]; exact kd_ma G M k)), rpM_ma hM hk⟩, hK, hA, h3⟩
/-- a locker's items -/
theorem r_wld (hx : p.tables.exec = Jvm.exec) (hb : c.code = cc) (hw : Wi G (f, wa, S, M) s H locs) {i a : Nat} (hi : i < 25) (hf : f i = some a) {ix : Int32} (j : Nat) (hix : ix = nI j) (hj : j < 10) (hdg : decode cc pc = .ok (.iaload, 1))
    (kk : W p l e R s m args below meth c H locs cells slots Q (F0 m (pc + 1) ls (.int (S 8 (10 * i + j)) :: rest))) : W p l e R s m args below meth c H locs cells slots Q (F0 m pc ls (.int ix :: .ref (wa i) :: rest)) := by
  obtain ⟨⟨L, ev, hP, hD, ⟨-, -, c3, -⟩, -⟩, hK, -⟩ := hw
  obtain ⟨w1, g, w2, w3⟩ := (c3 i hi a hf).2
  obtain ⟨k0, hk0⟩ := va_pl_get (X := []) (f := ev) w1
  rw [w2] at hk0
  subst hix
  refine va_iald hx hb hK hP k0 0 hk0 rfl (vp_in_nI hj (by decide)) hdg ?_
  rw [nI_clamp (by omega), w3 j hj]
  exact kk
theorem r_wst (hx : p.tables.exec = Jvm.exec) (hb : c.code = cc) (hw : Wi G (f, wa, S, M) s H locs) {i a : Nat} (hi : i < 25) (hf : f i = some a) {ix y : Int32} (j : Nat) (hix : ix = nI j) (hj : j < 10) (hdg : decode cc pc = .ok (.iastore, 1))
    (kk : ∀ (H1 : Heap) (locs1 : List Loc), Wi G (f, wa, sU S 8 (10 * i + j) y, M) s H1 locs1 → W p l e R s m args below meth c H1 locs1 cells slots Q (F0 m (pc + 1) ls rest)) : W p l e R s m args below meth c H locs cells slots Q (F0 m pc ls (.int y :: .int ix :: .ref (wa i) :: rest)) := by
  obtain ⟨⟨L, ev, hP, hD, hC, hM⟩, hK, hA, hS⟩ := hw
  obtain ⟨w1, g, w2, w3⟩ := (hC.2.2.1 i hi a hf).2
  obtain ⟨k0, hk0⟩ := va_pl_get (X := []) (f := ev) w1
  have hk1 := hk0
  rw [w2] at hk1
  subst hix
  refine va_iast hx hb hK hP hD hS k0 0 hk1 rfl (vp_in_nI hj (by decide)) hdg (fun H1 locs1 h1 h2 h3 => ?_)
  rw [nI_clamp (by omega)] at h1 h2
  have q := va_pl_set (X := []) (e := .inl (gI G, 10, .inl (upd g j y))) hD w1 hk0
  have q : (va_pl L ev).set k0 _ = va_pl L _ := q
  refine kk H1 locs1 ⟨⟨L, _, q ▸ h1, q ▸ h2, rpC_ar hC hi hf hj w2, rpM_up hM (by rw [w2]; simp [kd]) (by rw [w2]; simp [kd])⟩, hK, hA, h3⟩
/-- the hooks -/
theorem r_hld (hx : p.tables.exec = Jvm.exec) (hb : c.code = cc) (hw : Wi G (f, wa, S, M) s H locs) {ix : Int32} (j : Nat) (hix : ix = nI j) (hj : j < 24) {v : Value} (hv : va_rf (f j) = v) (hdg : decode cc pc = .ok (.aaload, 1))
    (kk : W p l e R s m args below meth c H locs cells slots Q (F0 m (pc + 1) ls (v :: rest))) : W p l e R s m args below meth c H locs cells slots Q (F0 m pc ls (.int ix :: .ref (gh G) :: rest)) := by
  obtain ⟨⟨L, ev, hP, hD, ⟨-, ⟨h1, f0, h2, h3⟩, -⟩, -⟩, hK, -⟩ := hw
  obtain ⟨k0, hk0⟩ := va_pl_get (X := []) (f := ev) h1
  rw [h3] at hk0
  subst hix
  refine va_aldq (C := RX0) hx hb hK hP k0 2 hk0 rfl (vp_in_nI hj (by decide)) hdg ?_
  rw [nI_clamp (by omega), h2 j hj]
  exact hv ▸ kk
/-- method's head -/
theorem m_head {y : MethodName} {ws ws' : List Cond} {rm : Room} {Qc : Array Value → State → Outcome → State → Prop} {mc ms : Nat} {free : Addr → Prop} {maxL : Nat} {ret : Option FieldType} {av : List Value} {u : WT}
    (hy : plainName y.cls = true) (hw : ws = Cond.code y cc maxL ret :: ws') (hlen : (lg_sl av).length ≤ maxL)
    (body : ∀ (p : Program) (e : Env) (s : State) (m : MethodId) (below : List Frame) (meth : Method) (c : Code), p.tables.exec = Jvm.exec → c.code = cc → c.maxLocals = maxL → meth.sig.returnType = ret → meth.locks = false → s.vm.findClass y.cls = some m.cls → (∀ w ∈ ws, w.before av.toArray s = true) → Wi G u s s.heap [] → ∀ ls : Array Slot, lv_has ls maxL (lv_args 0 av) →
      W p l e (headSpec ws rm).room s m av.toArray below meth c s.heap [] 0 0 (MQ below Qc av.toArray s mc ms free) (F0 m 0 ls [])) : Met l y ws rm (va_Pc av (Wo G u)) Qc mc ms free := by
  refine Met.ofW (cc := cc) (maxL := maxL) (ret := ret) hy hw ?_
  intro p e s m args below meth c s₁ B hml hv
  obtain ⟨rfl, hW⟩ := hv
  rw [lg_entry_eq]
  exact body p e s m below meth c B.exec B.bytes hml B.returns B.notSynchronized (findClass_of_methodNamed B.named) (atoms_spec (ws := ws) B.pre) hW.i _ (lv_entry av hlen)
/-- ends -/
abbrev Qi (G : GT) (P : Int32 → WT → Prop) : Array Value → State → Outcome → State → Prop := va_Qi P (fun u t => Wo G u t) (gA G)
abbrev Ql (G : GT) (P : Int64 → WT → Prop) : Array Value → State → Outcome → State → Prop := va_Ql P (fun u t => Wo G u t) (gA G)
abbrev Qv (G : GT) (P : WT → Prop) : Array Value → State → Outcome → State → Prop := va_Qv P (fun u t => Wo G u t) (gA G)
abbrev Qo (G : GT) (P : Option Nat → WT → Prop) : Array Value → State → Outcome → State → Prop := va_Qq P (fun u t => Wo G u t) (gA G)
theorem e_i {u : WT} {P : Int32 → WT → Prop} {v : Int32} (hx : p.tables.exec = Jvm.exec) (hb : c.code = cc) (hr : meth.sig.returnType = some .int) (hlocks : meth.locks = false) (hw : Wi G u s H locs) (hdg : decode cc pc = .ok (.ireturn, 1)) (hP : P v u) :
    W p l e R s m args below meth c H locs cells slots (MQ below (Qi G P) args s cells slots (gA G)) (F0 m pc ls [.int v]) :=
  W.iret hx hb hr (fun t ht hW => ⟨⟨v, u, rfl, hP, hw.o ht hW.alike⟩, hw.2.2.2.F ht⟩) hw.2.2.2.2.2 hdg
theorem e_z {u : WT} {P : Int32 → WT → Prop} {v : Int32} (hx : p.tables.exec = Jvm.exec) (hb : c.code = cc) (hr : meth.sig.returnType = some .boolean) (hlocks : meth.locks = false) (hw : Wi G u s H locs) (hn : narrow .boolean (.int v) = .int v) (hdg : decode cc pc = .ok (.ireturn, 1)) (hP : P v u) :
    W p l e R s m args below meth c H locs cells slots (MQ below (Qi G P) args s cells slots (gA G)) (F0 m pc ls [.int v]) :=
  W.zret hx hb hr hn (fun t ht hW => ⟨⟨v, u, rfl, hP, hw.o ht hW.alike⟩, hw.2.2.2.F ht⟩) hw.2.2.2.2.2 hdg
theorem e_l {u : WT} {P : Int64 → WT → Prop} {v : Int64} (hx : p.tables.exec = Jvm.exec) (hb : c.code = cc) (hr : meth.sig.returnType = some .long) (hlocks : meth.locks = false) (hw : Wi G u s H locs) (hdg : decode cc pc = .ok (.lreturn, 1)) (hP : P v u) :
    W p l e R s m args below meth c H locs cells slots (MQ below (Ql G P) args s cells slots (gA G)) (F0 m pc ls [.long v]) :=
  W.lret hx hb hr (fun t ht hW => ⟨⟨v, u, rfl, hP, hw.o ht hW.alike⟩, hw.2.2.2.F ht⟩) hw.2.2.2.2.2 hdg
theorem e_v {u : WT} {P : WT → Prop} (hx : p.tables.exec = Jvm.exec) (hb : c.code = cc) (hr : meth.sig.returnType = none) (hlocks : meth.locks = false) (hw : Wi G u s H locs) (hdg : decode cc pc = .ok (.return_, 1)) (hP : P u) :
    W p l e R s m args below meth c H locs cells slots (MQ below (Qv G P) args s cells slots (gA G)) (F0 m pc ls []) :=
  W.vret hx hb hr (fun t ht hW => ⟨⟨u, rfl, hP, hw.o ht hW.alike⟩, hw.2.2.2.F ht⟩) hw.2.2.2.2.2 hdg
theorem e_o {u : WT} {P : Option Nat → WT → Prop} (r : Option Nat) {v : Value} (hv : v = va_rf r) {C : String} (hx : p.tables.exec = Jvm.exec) (hb : c.code = cc) (hr : meth.sig.returnType = some (.object C)) (hlocks : meth.locks = false) (hw : Wi G u s H locs) (hdg : decode cc pc = .ok (.areturn, 1)) (hP : P r u) :
    W p l e R s m args below meth c H locs cells slots (MQ below (Qo G P) args s cells slots (gA G)) (F0 m pc ls [v]) := by
  subst hv
  exact W.aret hx hb hr (Or.inl ⟨C, rfl⟩) (va_rf_or r) (fun t ht hW => ⟨⟨r, u, rfl, hP, hw.o ht hW.alike⟩, hw.2.2.2.F ht⟩) hw.2.2.2.2.2 hdg
/-- behind a call -/
theorem Wi.back {u u' : WT} {t : State} {H1 : Heap} {locs1 : List Loc} (hw : Wi G u s H locs) (ht : t.heap = H1) (hvm : s.vm.Alike t.vm) (ho : Wo G u' t) (hS : va_S (gA G) s.heap H1 locs1) : Wi G u' s H1 locs1 :=
  ⟨ht ▸ ho.1, hw.2.1, hw.2.2.1, hS⟩
theorem k_i {u : WT} {P : Int32 → WT → Prop} {mc ms : Nat} {st0 : List Value} {a : Array Value} (hw : Wi G u s H locs) (hr : va_Run p l e R s m args below meth c H locs cells slots mc ms (F0 m pc ls st0) rest (Qi G P a) (gA G))
    (kk : ∀ (r : Int32) (u' : WT) (H1 : Heap) (locs1 : List Loc), P r u' → Wi G u' s H1 locs1 → W p l e R s m args below meth c H1 locs1 (cells + mc) (slots + ms) Q (F0 m (pc + 3) ls (.int r :: rest))) : W p l e R s m args below meth c H locs cells slots Q (F0 m pc ls st0) :=
  va_calli hr hw.2.2.2 (fun _ _ h => h) (fun _ h => h) (fun r u' t H1 locs1 ht hvm hp hB _ _ hS => kk r u' H1 locs1 hp (hw.back ht hvm hB hS))
theorem k_l {u : WT} {P : Int64 → WT → Prop} {mc ms : Nat} {st0 : List Value} {a : Array Value} (hw : Wi G u s H locs) (hr : va_Run p l e R s m args below meth c H locs cells slots mc ms (F0 m pc ls st0) rest (Ql G P a) (gA G))
    (kk : ∀ (r : Int64) (u' : WT) (H1 : Heap) (locs1 : List Loc), P r u' → Wi G u' s H1 locs1 → W p l e R s m args below meth c H1 locs1 (cells + mc) (slots + ms) Q (F0 m (pc + 3) ls (.long r :: rest))) : W p l e R s m args below meth c H locs cells slots Q (F0 m pc ls st0) :=
  va_calll hr hw.2.2.2 (fun _ _ h => h) (fun _ h => h) (fun r u' t H1 locs1 ht hvm hp hB _ _ hS => kk r u' H1 locs1 hp (hw.back ht hvm hB hS))
theorem k_v {u : WT} {P : WT → Prop} {mc ms : Nat} {st0 : List Value} {a : Array Value} (hw : Wi G u s H locs) (hr : va_Run p l e R s m args below meth c H locs cells slots mc ms (F0 m pc ls st0) rest (Qv G P a) (gA G))
    (kk : ∀ (u' : WT) (H1 : Heap) (locs1 : List Loc), P u' → Wi G u' s H1 locs1 → W p l e R s m args below meth c H1 locs1 (cells + mc) (slots + ms) Q (F0 m (pc + 3) ls rest)) : W p l e R s m args below meth c H locs cells slots Q (F0 m pc ls st0) :=
  va_callv hr hw.2.2.2 (fun _ _ h => h) (fun _ h => h) (fun u' t H1 locs1 ht hvm hp hB _ _ hS => kk u' H1 locs1 hp (hw.back ht hvm hB hS))
theorem k_o {u : WT} {P : Option Nat → WT → Prop} {mc ms : Nat} {st0 : List Value} {a : Array Value} (hw : Wi G u s H locs) (hr : va_Run p l e R s m args below meth c H locs cells slots mc ms (F0 m pc ls st0) rest (Qo G P a) (gA G))
    (kk : ∀ (r : Option Nat) (u' : WT) (H1 : Heap) (locs1 : List Loc), P r u' → Wi G u' s H1 locs1 → W p l e R s m args below meth c H1 locs1 (cells + mc) (slots + ms) Q (F0 m (pc + 3) ls (va_rf r :: rest))) : W p l e R s m args below meth c H locs cells slots Q (F0 m pc ls st0) :=
  va_callq hr hw.2.2.2 (fun _ _ h => h) (fun _ h => h) (fun r u' t H1 locs1 ht hvm hp hB _ _ hS => kk r u' H1 locs1 hp (hw.back ht hvm hB hS))
end RW
