section MK2
variable {p : Program} {l : Launch} {e : Env} {R : Room} {s : State} {m : MethodId} {args : Array Value} {below : List Frame} {meth : Method} {c : Code} {H : Heap} {locs : List Loc} {cells slots : Nat} {Q : State → Prop}
variable {cc : ByteArray} {pc : Nat} {ls : Array Slot} {rest : List Value} {Ts : List Cond} {own : String} {index : Nat}
theorem p_putF {D : va_G} {cl : List vw_C} {tys : List (ClassId × FieldType)} {A : Nat → Prop} {H0 : Heap} {L : List Nat} {ev : Nat → va_E} {a ci N : Nat} {C ref : String} {T : u_T} {fs : List Value} (hexec : p.tables.exec = Jvm.exec) (hb : c.code = cc) (hts : ∀ w ∈ Ts, w.before args s = true) (hin : ∀ w ∈ u_ws C T N, w ∈ Ts) (ty0 : Nat → FieldType) (hty : ∀ k, k < N → parseFieldDescriptor (T k).2.2.1 = some (ty0 k)) (hnm : ∀ a, a < N → ∀ b, b < N → a ≠ b → (T a).2.1 ≠ (T b).2.1) (hown : s.vm.findClass own = some m.cls) (hK : va_K D cl tys s) (hP : va_P D cl (va_pl L ev) H) (hD : va_D A (va_pl L ev)) (hS0 : va_S A H0 H locs) (ha : a ∈ L) (he : ev a = .inr (ci, fs)) (hc : cl[ci]? = some (C, T, N)) (k : Nat) (hk : k < N) (hlink : (Cond.fieldLink own index ref (T k).2.1 (T k).2.2.1).before args s = true) (hsame : (T k).1 = ref) (hfin : (T k).2.2.2 = true) (hin2 : meth.name = "<init>") (hdecl : (T k).1 = own) {v : Value} (hn : narrow (ty0 k) v = v) (hfit : fits (ty0 k) v = true) (hl : k < fs.length)
    (hdg : decode cc pc = .ok (.putfield index, 3)) (kk : ∀ (H1 : Heap) (locs1 : List Loc), va_P D cl (va_pl L (va_up ev a (.inr (ci, fs.set k v)))) H1 → va_D A (va_pl L (va_up ev a (.inr (ci, fs.set k v)))) → va_S A H0 H1 locs1 → W p l e R s m args below meth c H1 locs1 cells slots Q (F0 m (pc + 3) ls rest)) : W p l e R s m args below meth c H locs cells slots Q (F0 m pc ls (v :: .ref a :: rest)) := by
  obtain ⟨k0, hk0⟩ := va_pl_get (X := []) (f := ev) ha
  have hk1 := hk0
  rw [he] at hk1
  refine va_putF hexec hb hts hin ty0 hty hnm hown hK hP hD hS0 k0 hk1 hc k hk hlink (fun x9 h9 => by rw [hsame] at h9; exact h9) hfin hin2 hdecl (hty k hk) hn hfit hl hdg (fun H1 locs1 h1 h2 h3 => kk H1 locs1 ?_ ?_ h3)
  · have q := va_pl_set (X := []) (e := .inr (ci, fs.set k v)) hD ha hk0
    exact (show _ = va_pl L _ from q) ▸ h1
  · have q := va_pl_set (X := []) (e := .inr (ci, fs.set k v)) hD ha hk0
    exact (show _ = va_pl L _ from q) ▸ h2
end MK2
theorem RA_int {U : State} {c1 c2 : ClassId} (h1 : va_RA U c1 .int) (h2 : va_RA U c2 .int) : c1 = c2 := by
  have a1 : U.vm.findClass ("[" ++ FieldType.int.toString) = some c1 := h1
  have a2 : U.vm.findClass ("[" ++ FieldType.int.toString) = some c2 := h2
  rw [a1] at a2
  exact Option.some.inj a2
theorem RA_bool {U : State} {c1 c2 : ClassId} (h1 : va_RA U c1 .boolean) (h2 : va_RA U c2 .boolean) : c1 = c2 := by
  have a1 : U.vm.findClass ("[" ++ FieldType.boolean.toString) = some c1 := h1
  have a2 : U.vm.findClass ("[" ++ FieldType.boolean.toString) = some c2 := h2
  rw [a1] at a2
  exact Option.some.inj a2
theorem bytes10 : 10 * componentBytes FieldType.int ≤ 536870912 := by decide
set_option maxHeartbeats 800000 in
set_option maxRecDepth 100000 in
theorem c_X0_init (l : Launch) (G : GT) (f : Nat → Option Nat) (wa : Nat → Nat) (S M : Tb) (a : Nat) (p1 p2 : Int32) : Met l yX0_init wsX0_init ({ frames := 1, cells := 1, slots := 10, locals := 30 }) (va_Pc [.ref a, .int p1, .int p2] (WoN G (f, wa, S, M) a)) (Qv G (fun u => ∃ w : Nat, u = (va_up f 24 (some a), va_up wa 24 w, nwS S p1 p2, M))) 1 10 (gA G) := by
  refine Met.ofW (cc := cX0_init) (maxL := 3) (ret := none) (by decide) rfl ?_
  intro p e s m args below meth c s₁ B hml hv
  obtain ⟨rfl, hW⟩ := hv
  have hx := B.exec
  have hb := B.bytes
  have hr := B.returns
  have hlocks := B.notSynchronized
  have hts := atoms_spec (ws := wsX0_init) B.pre
  have hown : s.vm.findClass RX0 = some m.cls := findClass_of_methodNamed B.named
  have hin : meth.name = "<init>" := (name_of_methodNamed B.named B.method).1
  obtain ⟨⟨L, ev, hP, hD, hC, hM, hq, eq⟩, hK, hA⟩ := hW
  have hS : va_S (gA G) s.heap s.heap [] := va_S.rf
  have hl := lv_entry ([.ref a, .int p1, .int p2]) (n := 3) (Nat.le_of_ble_eq_true rfl)
  rw [lg_entry_eq]
  generalize (lg_sl ([.ref a, .int p1, .int p2]) ++ List.replicate (3 - (lg_sl ([.ref a, .int p1, .int p2])).length) Slot.unset).toArray = ls at hl ⊢
  have hl : lv_has ls 3 [(0, .ref a), (1, .int p1), (2, .int p2)] := hl
  have hin0 : ∀ w ∈ wsX00, w ∈ wsX0_init := by decide +kernel
  have hno : ∀ i, i < 25 → f i ≠ some a := fun i hi hf => by
    have h1 := (hC.2.2.1 i hi a hf).1.2
    rw [eq] at h1
    simp [dfL] at h1
  refine lv_aload_n hx hb dX0_init_0 rfl (lv_at hl 0 rfl) ?_
  refine W.objInit hx hb hown (hts (.methodLink RX0 3 objectInit) (by decide +kernel)) (hts (.instanceMethod objectInit) (by decide +kernel)) (hts _ (List.mem_cons_of_mem _ (List.mem_append_left _ (List.mem_of_getElem? (i := 2) rfl)))) rfl (by rw [hml]; exact hl.1) rfl dX0_init_1 (Nat.le_of_ble_eq_true rfl) (Nat.le_of_ble_eq_true rfl) ?_
  refine W.eq (g2 := F0 m 4 ls []) rfl ?_
  refine lv_aload_n hx hb dX0_init_4 rfl (lv_at hl 0 rfl) ?_
  refine lv_iload_n hx hb dX0_init_5 rfl (lv_at hl 1 rfl) ?_
  refine p_putF hx hb hts hin0 tyX0 tyX0_ok nmX0 hown hK hP hD hS hq eq rfl 0 (by decide) (hts (.fieldLink RX0 9 "LockerWall$Locker" "room" "I") (by decide +kernel)) rfl rfl hin rfl rfl rfl (by simp) dX0_init_6 (fun H locs hP hD hS => ?_)
  have hC1 := rpC_free (v := .inr (0, dfL.set 0 (.int p1))) hC (by rw [eq]; rfl) hno
  have hM1 := rpM_up (v := .inr (0, dfL.set 0 (.int p1))) hM (a := a) (by rw [eq]; simp [kd]) (by rw [eq]; simp [kd])
  refine lv_aload_n hx hb dX0_init_9 rfl (lv_at hl 0 rfl) ?_
  refine lv_iload_n hx hb dX0_init_10 rfl (lv_at hl 2 rfl) ?_
  refine p_put hx hb hts hin0 tyX0 tyX0_ok nmX0 hown hK hP hD hS hq (va_up_self _ _ _) rfl 1 (by decide) (hts (.fieldLink RX0 15 "LockerWall$Locker" "code" "I") (by decide +kernel)) rfl rfl rfl rfl (by simp) dX0_init_11 (fun H locs hP hD hS => ?_)
  rw [bx_uu] at hP hD
  have hC2 := rpC_free (v := .inr (0, [.int p1, .int p2, .int 0, .int 0, .null, .int 0, .int 0, .int 0])) hC (by rw [eq]; rfl) hno
  have hM2 := rpM_up (v := .inr (0, [.int p1, .int p2, .int 0, .int 0, .null, .int 0, .int 0, .int 0])) hM (a := a) (by rw [eq]; simp [kd]) (by rw [eq]; simp [kd])
  have e2 : va_up ev a (.inr (0, [.int p1, .int p2, .int 0, .int 0, .null, .int 0, .int 0, .int 0])) a = .inr (0, [.int p1, .int p2, .int 0, .int 0, .null, .int 0, .int 0, .int 0]) := va_up_self _ _ _
  have hP : va_P (gD G) vwCl (va_pl L (va_up ev a (.inr (0, [.int p1, .int p2, .int 0, .int 0, .null, .int 0, .int 0, .int 0])))) H := hP
  have hD : va_D (gA G) (va_pl L (va_up ev a (.inr (0, [.int p1, .int p2, .int 0, .int 0, .null, .int 0, .int 0, .int 0])))) := hD
  generalize va_up ev a (.inr (0, [.int p1, .int p2, .int 0, .int 0, .null, .int 0, .int 0, .int 0])) = ev2 at hC2 hM2 e2 hP hD
  refine lv_aload_n hx hb dX0_init_14 rfl (lv_at hl 0 rfl) ?_
  refine lv_bipush (v := 10) hx hb dX0_init_15 (by decide) ?_
  refine va_newa (atype := .int) (ty := .int) (N' := 10) (a0 := (10, .inl (fun _ => 0))) hx hb (hts (.arrayClass .int) (by decide +kernel)) rfl hK hP hD hS hA (fun cA => rfl) (by decide) (by decide) bytes10 (Nat.le_of_ble_eq_true rfl) (Nat.le_of_ble_eq_true rfl) dX0_init_17 (fun w cA H hK1 hP hD hS => ?_)
  have hcA : cA = gI G := RA_int (hK1.2 3 (cA, .int) rfl).2 (hK.2 0 (gI G, .int) rfl).2
  subst hcA
  have hwL : w ∉ L := va_pl_fresh2 (X := []) (f := ev2) hD
  have z := va_pl_push (f := ev2) (e := .inl (gI G, 10, .inl (fun _ => 0))) hwL
  rw [z] at hP hD
  have hC3 := rpC_new (v := .inl (gI G, 10, .inl (fun _ => 0))) hC2 hwL
  have hM3 := rpM_new (v := .inl (gI G, 10, .inl (fun _ => 0))) hM2 hwL
  have haw : a ≠ w := fun q => hwL (q ▸ hq)
  have e3 : va_up ev2 w (.inl (gI G, 10, .inl (fun _ => 0))) a = .inr (0, [.int p1, .int p2, .int 0, .int 0, .null, .int 0, .int 0, .int 0]) := by rw [va_up_ne _ _ haw]; exact e2
  have ew3 : va_up ev2 w (.inl (gI G, 10, .inl (fun _ => 0))) w = arE G (fun _ => 0) := va_up_self _ _ _
  have hnw : ∀ i a, i < 25 → f i = some a → wa i ≠ w := fun i b hi hf q => hwL (q ▸ (hC2.2.2.1 i hi b hf).2.1)
  generalize va_up ev2 w (.inl (gI G, 10, .inl (fun _ => 0))) = ev3 at hC3 hM3 e3 ew3 hP hD
  have hq3 : a ∈ L ++ [w] := List.mem_append_left _ hq
  refine p_put hx hb hts hin0 tyX0 tyX0_ok nmX0 hown hK hP hD hS hq3 e3 rfl 4 (by decide) (hts (.fieldLink RX0 18 "LockerWall$Locker" "weights" "[I") (by decide +kernel)) rfl rfl rfl rfl (by simp) dX0_init_19 (fun H locs hP hD hS => ?_)
  have hC4 := rpC_free (v := .inr (0, [.int p1, .int p2, .int 0, .int 0, .ref w, .int 0, .int 0, .int 0])) hC3 (by rw [e3]; rfl) hno
  have hM4 := rpM_up (v := .inr (0, [.int p1, .int p2, .int 0, .int 0, .ref w, .int 0, .int 0, .int 0])) hM3 (a := a) (by rw [e3]; simp [kd]) (by rw [e3]; simp [kd])
  have hC5 := rpC_made (q := a) (w := w) (p1 := p1) (p2 := p2) hC4 hq3 (List.mem_append_right _ (List.mem_singleton.mpr rfl)) (va_up_self _ _ _) (by rw [va_up_ne _ _ (Ne.symm haw)]; exact ew3) hno hnw
  have hw : Wi G (va_up f 24 (some a), va_up wa 24 w, nwS S p1 p2, M) s H locs := ⟨⟨L ++ [w], _, hP, hD, hC5, hM4⟩, hK, hA, hS⟩
  exact e_v hx hb hr hlocks hw dX0_init_22 ⟨w, rfl⟩
def oc_mount (S : Tb) (p1 p2 p3 : Int32) : Int32 × Tb := if isH p1 = true then (if isWt p2 = true then (if S 0 p1.toNatClampNeg = 0 then (1, atS (nwS S p2 p3) p1.toNatClampNeg) else (-5, S)) else (-1, S)) else (-1, S)
def oj_unmount (S : Tb) (j : Nat) : Int32 × Tb := if S 0 j = 0 then (-2, S) else if S 5 j ≤ 0 then (dtS (hd S j) j 6 24, lg (dtS (hd S j) j) 24 1) else (-6, lg (hd S j) j 2)
def oc_unmount (S : Tb) (p1 : Int32) : Int32 × Tb := if isH p1 = true then oj_unmount (sU S 9 0 (S 9 0 + 1)) p1.toNatClampNeg else (-1, S)
theorem dtF_24 (f : Nat → Option Nat) {i : Nat} (a : Nat) (hi : i < 24) : dtF f i a 24 = some a := by
  unfold dtF
  rw [va_up_ne _ _ (show 24 ≠ i by omega), va_up_self]
theorem sU90 (S : Tb) (v : Int32) {c : Nat} (h : c ≠ 9) (j : Nat) : sU S 9 0 v c j = S c j := by rw [sU_oc S 0 v h]
set_option maxHeartbeats 800000 in
set_option maxRecDepth 100000 in
theorem c_X1_mount (l : Launch) (G : GT) (f : Nat → Option Nat) (wa : Nat → Nat) (S M : Tb) (p1 p2 p3 : Int32) : Met l yX1_mount wsX1_mount ({ frames := 2, cells := 2, slots := 18, locals := 60 }) (va_Pc [.ref (gx G), .int p1, .int p2, .int p3] (Wo G (f, wa, S, M))) (Qi G (fun r u => r = (oc_mount S p1 p2 p3).1 ∧ ∃ (f' : Nat → Option Nat) (wa' : Nat → Nat), u = (f', wa', (oc_mount S p1 p2 p3).2, M))) 2 18 (gA G) := by
  refine m_head (cc := cX1_mount) (maxL := 4) (ret := (some .int)) (by decide) rfl (Nat.le_of_ble_eq_true rfl) ?_
  intro p e s m below meth c hx hb hml hr hlocks hown hts hw ls hl
  have hown : s.vm.findClass RX1 = some m.cls := hown
  have hl : lv_has ls 4 [(0, .ref (gx G)), (1, .int p1), (2, .int p2), (3, .int p3)] := hl
  have hin0 : ∀ w ∈ wsX00, w ∈ wsX1_mount := by decide +kernel
  have hin1 : ∀ w ∈ wsX10, w ∈ wsX1_mount := by decide +kernel
  have lk11 := hts (.fieldLink RX1 11 "LockerWall" "hooks" "[LLockerWall$Locker;") (by decide +kernel)
  refine lv_iload_n hx hb dX1_mount_0 rfl (lv_at hl 1 rfl) ?_
  refine k_i hw (va_runS (As := [.int p1]) (rest := []) ⟨hx, hb, hml, hown, hts⟩ (c_X1_isHook l G f wa S M p1) (va_cwS 1 hts gX1_mount_X1_isHook rfl rfl rfl (by decide +kernel) ⟨Nat.le_of_ble_eq_true rfl, Nat.le_of_ble_eq_true rfl⟩) (hw.preS _) rfl rfl hl.1 rfl (lv_room (Nat.le_of_ble_eq_true rfl)) dX1_mount_1 ⟨Nat.le_of_ble_eq_true rfl, Nat.le_of_ble_eq_true rfl⟩) (fun r u H locs hR hw => ?_)
  obtain ⟨hq, rfl⟩ := hR
  obtain rfl := hq.symm
  cases hh_1 : isH p1
  · skip
    refine W.eq (g2 := F0 m 4 ls [.int 0]) rfl ?_
    refine lv_if_eq (tgt := 14) hx hb dX1_mount_4 (by decide) (fun c_4 => ?_) (fun c_4 => ?_)
    · skip
      refine lv_iconst (v := (-1)) hx hb dX1_mount_14 (by decide) ?_
      refine W.widen (k := 2) (n := 18) (by decide) (by decide) ?_
      exact e_i hx hb hr hlocks hw dX1_mount_15 (leafC (by simp only [oc_mount, hd, lg, lg2, ↓reduceIte, hh_1, Bool.false_eq_true, c_4]))
    · skip
      exact absurd c_4 (by decide)
  · skip
    refine W.eq (g2 := F0 m 4 ls [.int 1]) rfl ?_
    obtain ⟨i, hi, rfl⟩ := isH_of hh_1
    refine lv_if_eq (tgt := 14) hx hb dX1_mount_4 (by decide) (fun c_4 => ?_) (fun c_4 => ?_)
    · skip
      exact absurd c_4 (by decide)
    · skip
      refine lv_iload_n hx hb dX1_mount_7 rfl (lv_at hl 2 rfl) ?_
      refine k_i hw (va_runS (As := [.int p2]) (rest := []) ⟨hx, hb, hml, hown, hts⟩ (c_X1_isWeight l G f wa S M p2) (va_cwS 1 hts gX1_mount_X1_isWeight rfl rfl rfl (by decide +kernel) ⟨Nat.le_of_ble_eq_true rfl, Nat.le_of_ble_eq_true rfl⟩) (hw.preS _) rfl rfl hl.1 rfl (lv_room (Nat.le_of_ble_eq_true rfl)) dX1_mount_8 ⟨Nat.le_of_ble_eq_true rfl, Nat.le_of_ble_eq_true rfl⟩) (fun r u H locs hR hw => ?_)
      obtain ⟨hq, rfl⟩ := hR
      obtain rfl := hq.symm
      cases hh_8 : isWt p2
      · skip
        refine W.eq (g2 := F0 m 11 ls [.int 0]) rfl ?_
        refine lv_if_ne (tgt := 16) hx hb dX1_mount_11 (by decide) (fun c_11 => ?_) (fun c_11 => ?_)
        · skip
          exact absurd c_11 (by decide)
        · skip
          refine lv_iconst (v := (-1)) hx hb dX1_mount_14 (by decide) ?_
          refine W.widen (k := 2) (n := 18) (by decide) (by decide) ?_
          exact e_i hx hb hr hlocks hw dX1_mount_15 (leafC (by simp only [oc_mount, hd, lg, lg2, ↓reduceIte, isH_nI hi, cl24 hi, c_4, hh_8, Bool.false_eq_true, c_11]))
      · skip
        refine W.eq (g2 := F0 m 11 ls [.int 1]) rfl ?_
        refine lv_if_ne (tgt := 16) hx hb dX1_mount_11 (by decide) (fun c_11 => ?_) (fun c_11 => ?_)
        · skip
          refine lv_aload_n hx hb dX1_mount_16 rfl (lv_at hl 0 rfl) ?_
          refine r_getH hx hb hts hin1 hown hw lk11 dX1_mount_17 ?_
          refine lv_iload_n hx hb dX1_mount_20 rfl (lv_at hl 1 rfl) ?_
          rcases hf_i : f i with _ | a_i
          · skip
            have h0_i : S 0 i = 0 := (show S 0 i = oN (f i) from hw.col0 (show i < 25 by omega)).trans (by rw [hf_i]; rfl)
            refine r_hld (v := .null) hx hb hw (i) (rfl) (show i < 24 by omega) (by rw [hf_i]; rfl) dX1_mount_21 ?_
            refine lv_ifnullN (tgt := 28) hx hb dX1_mount_22 (by decide) ?_
            refine lv_aload_n hx hb dX1_mount_28 rfl (lv_at hl 0 rfl) ?_
            refine r_getH hx hb hts hin1 hown hw lk11 dX1_mount_29 ?_
            refine lv_iload_n hx hb dX1_mount_32 rfl (lv_at hl 1 rfl) ?_
            refine r_newL hx hb hts hin0 hown (hts (.classLink RX1 9 RX0) (by decide +kernel)) (hts (.instantiable RX0 8) (by decide +kernel)) (hts (.initialized RX0) (by decide +kernel)) hw (Nat.le_of_ble_eq_true rfl) (Nat.le_of_ble_eq_true rfl) dX1_mount_33 (fun q H hwn => ?_)
            refine lv_dup hx hb dX1_mount_36 rfl ?_
            refine lv_iload_n hx hb dX1_mount_37 rfl (lv_at hl 2 rfl) ?_
            refine lv_iload_n hx hb dX1_mount_38 rfl (lv_at hl 3 rfl) ?_
            refine va_callv (va_runI (As := [.int p2, .int p3]) (rest := [.ref q, .int (nI i), .ref (gh G)]) ⟨hx, hb, hml, hown, hts⟩ (c_X0_init l G f wa S M q p2 p3) (cwI 2 hts gX1_mount_X0_init rfl rfl rfl (hts (.initialized RX0) (by decide +kernel)) (hts (.methodLink RX1 26 yX0_init) (by decide +kernel)) (hts (.instanceMethod yX0_init) (by decide +kernel)) rfl (by decide +kernel) ⟨Nat.le_of_ble_eq_true rfl, Nat.le_of_ble_eq_true rfl⟩) (hwn.pre _) rfl rfl hl.1 rfl (lv_room (Nat.le_of_ble_eq_true rfl)) dX1_mount_39 ⟨Nat.le_of_ble_eq_true rfl, Nat.le_of_ble_eq_true rfl⟩) hwn.2.2.2 (fun _ _ h => h) (fun _ h => h) (fun u t H locs ht hvm hR hB _ _ hS => ?_)
            obtain ⟨w24, rfl⟩ := hR
            have hw : Wi G (va_up f 24 (some q), va_up wa 24 w24, nwS S p2 p3, M) s H locs := ⟨ht ▸ hB.1, hwn.2.1, hwn.2.2.1, hS⟩
            refine r_hst hx hb hw hi (va_up_self _ _ _) dX1_mount_42 (fun H locs hw => ?_)
            refine lv_iconst (v := 1) hx hb dX1_mount_43 (by decide) ?_
            refine W.widen (k := 2) (n := 18) (by decide) (by decide) ?_
            exact e_i hx hb hr hlocks hw dX1_mount_44 (leafC (by simp only [oc_mount, hd, lg, lg2, ↓reduceIte, isH_nI hi, cl24 hi, c_4, hh_8, c_11, h0_i]))
          · skip
            have h0_i : ¬ S 0 i = 0 := by rw [(show S 0 i = oN (f i) from hw.col0 (show i < 25 by omega)), hf_i]; exact oN_s _
            refine r_hld (v := .ref a_i) hx hb hw (i) (rfl) (show i < 24 by omega) (by rw [hf_i]; rfl) dX1_mount_21 ?_
            refine lv_ifnull hx hb dX1_mount_22 ?_
            refine lv_bipush (v := (-5)) hx hb dX1_mount_25 (by decide) ?_
            refine W.widen (k := 2) (n := 18) (by decide) (by decide) ?_
            exact e_i hx hb hr hlocks hw dX1_mount_27 (leafC (by simp only [oc_mount, hd, lg, lg2, ↓reduceIte, isH_nI hi, cl24 hi, c_4, hh_8, c_11, h0_i]))
        · skip
          exact absurd c_11 (by decide)

set_option maxHeartbeats 800000 in
set_option maxRecDepth 100000 in
theorem c_X1_unmount (l : Launch) (G : GT) (f : Nat → Option Nat) (wa : Nat → Nat) (S M : Tb) (p1 : Int32) : Met l yX1_unmount wsX1_unmount (rk 2) (va_Pc [.ref (gx G), .int p1] (Wo G (f, wa, S, M))) (Qi G (fun r u => r = (oc_unmount S p1).1 ∧ ∃ (f' : Nat → Option Nat) (wa' : Nat → Nat), u = (f', wa', (oc_unmount S p1).2, M))) 0 0 (gA G) := by
  refine m_head (cc := cX1_unmount) (maxL := 3) (ret := (some .int)) (by decide) rfl (Nat.le_of_ble_eq_true rfl) ?_
  intro p e s m below meth c hx hb hml hr hlocks hown hts hw ls hl
  have hown : s.vm.findClass RX1 = some m.cls := hown
  have hl : lv_has ls 3 [(0, .ref (gx G)), (1, .int p1)] := hl
  have hin0 : ∀ w ∈ wsX00, w ∈ wsX1_unmount := by decide +kernel
  have hin1 : ∀ w ∈ wsX10, w ∈ wsX1_unmount := by decide +kernel
  have lk15 := hts (.fieldLink RX1 15 "LockerWall" "latchHolds" "I") (by decide +kernel)
  have lk33 := hts (.fieldLink RX1 33 "LockerWall$Locker" "count" "I") (by decide +kernel)
  have lk11 := hts (.fieldLink RX1 11 "LockerWall" "hooks" "[LLockerWall$Locker;") (by decide +kernel)
  have lk40 := hts (.fieldLink RX1 40 "LockerWall$Locker" "holds" "I") (by decide +kernel)
  refine lv_iload_n hx hb dX1_unmount_0 rfl (lv_at hl 1 rfl) ?_
  refine k_i hw (va_runS (As := [.int p1]) (rest := []) ⟨hx, hb, hml, hown, hts⟩ (c_X1_isHook l G f wa S M p1) (va_cwS 1 hts gX1_unmount_X1_isHook rfl rfl rfl (by decide +kernel) ⟨Nat.le_of_ble_eq_true rfl, Nat.le_of_ble_eq_true rfl⟩) (hw.preS _) rfl rfl hl.1 rfl (lv_room (Nat.le_of_ble_eq_true rfl)) dX1_unmount_1 ⟨Nat.le_of_ble_eq_true rfl, Nat.le_of_ble_eq_true rfl⟩) (fun r u H locs hR hw => ?_)
  obtain ⟨hq, rfl⟩ := hR
  obtain rfl := hq.symm
  cases hh_1 : isH p1
  · skip
    refine W.eq (g2 := F0 m 4 ls [.int 0]) rfl ?_
    refine lv_if_ne (tgt := 9) hx hb dX1_unmount_4 (by decide) (fun c_4 => ?_) (fun c_4 => ?_)
    · skip
      exact absurd c_4 (by decide)
    · skip
      refine lv_iconst (v := (-1)) hx hb dX1_unmount_7 (by decide) ?_
      exact e_i hx hb hr hlocks hw dX1_unmount_8 (leafC (by simp only [oc_unmount, oj_unmount, sU90 S _ (show 0 ≠ 9 by decide), sU90 S _ (show 5 ≠ 9 by decide), sU90 S _ (show 6 ≠ 9 by decide), hd, lg, lg2, ↓reduceIte, hh_1, Bool.false_eq_true, c_4]))
  · skip
    refine W.eq (g2 := F0 m 4 ls [.int 1]) rfl ?_
    obtain ⟨i, hi, rfl⟩ := isH_of hh_1
    refine lv_if_ne (tgt := 9) hx hb dX1_unmount_4 (by decide) (fun c_4 => ?_) (fun c_4 => ?_)
    · skip
      refine lv_aload_n hx hb dX1_unmount_9 rfl (lv_at hl 0 rfl) ?_
      refine lv_dup hx hb dX1_unmount_10 rfl ?_
      refine r_getT hx hb hts hin1 hown hw lk15 dX1_unmount_11 ?_
      refine lv_iconst (v := 1) hx hb dX1_unmount_14 (by decide) ?_
      refine lv_iadd hx hb dX1_unmount_15 ?_
      refine r_putT hx hb hts hin1 hown hw lk15 dX1_unmount_16 (fun H locs hw => ?_)
      have hw : Wi G (f, wa, sU S 9 0 ((S 9 0) + 1), M) s H locs := hw
      refine lv_aload_n hx hb dX1_unmount_19 rfl (lv_at hl 0 rfl) ?_
      refine lv_iload_n hx hb dX1_unmount_20 rfl (lv_at hl 1 rfl) ?_
      rcases hf_i : f i with _ | a_i
      · skip
        have h0_i : S 0 i = 0 := (show S 0 i = oN (f i) from hw.col0 (show i < 25 by omega)).trans (by rw [hf_i]; rfl)
        refine k_o hw (va_runV (As := [.int (nI i)]) (rest := []) ⟨hx, hb, hml, hown, hts⟩ (c_X1_holdAt_n l G f wa (sU S 9 0 ((S 9 0) + 1)) M (show i < 24 by omega) hf_i) (cwV 1 hts gX1_unmount_X1_holdAt rfl rfl rfl (by decide +kernel) ⟨Nat.le_of_ble_eq_true rfl, Nat.le_of_ble_eq_true rfl⟩) (hw.preX _) rfl rfl hl.1 rfl (lv_room (Nat.le_of_ble_eq_true rfl)) dX1_unmount_21 ⟨Nat.le_of_ble_eq_true rfl, Nat.le_of_ble_eq_true rfl⟩) (fun r u H locs hR hw => ?_)
        obtain ⟨hq, rfl⟩ := hR
        obtain rfl := hq.symm
        refine W.eq (g2 := F0 m 24 ls [.null]) rfl ?_
        refine lv_astore_nN (lv' := [(2, .null), (0, .ref (gx G)), (1, .int (nI i))]) hx hb dX1_unmount_24 rfl hl (by decide) rfl (fun ls hl => ?_)
        refine lv_aload_nN hx hb dX1_unmount_25 rfl (lv_at hl 0 rfl) ?_
        refine lv_ifnonnullN hx hb dX1_unmount_26 ?_
        refine lv_bipush (v := (-2)) hx hb dX1_unmount_29 (by decide) ?_
        exact e_i hx hb hr hlocks hw dX1_unmount_31 (leafC (by simp only [oc_unmount, oj_unmount, sU90 S _ (show 0 ≠ 9 by decide), sU90 S _ (show 5 ≠ 9 by decide), sU90 S _ (show 6 ≠ 9 by decide), hd, lg, lg2, ↓reduceIte, isH_nI hi, cl24 hi, c_4, h0_i]))
      · skip
        have h0_i : ¬ S 0 i = 0 := by rw [(show S 0 i = oN (f i) from hw.col0 (show i < 25 by omega)), hf_i]; exact oN_s _
        refine k_o hw (va_runV (As := [.int (nI i)]) (rest := []) ⟨hx, hb, hml, hown, hts⟩ (c_X1_holdAt_s l G f wa (sU S 9 0 ((S 9 0) + 1)) M (show i < 24 by omega) hf_i) (cwV 1 hts gX1_unmount_X1_holdAt rfl rfl rfl (by decide +kernel) ⟨Nat.le_of_ble_eq_true rfl, Nat.le_of_ble_eq_true rfl⟩) (hw.preX _) rfl rfl hl.1 rfl (lv_room (Nat.le_of_ble_eq_true rfl)) dX1_unmount_21 ⟨Nat.le_of_ble_eq_true rfl, Nat.le_of_ble_eq_true rfl⟩) (fun r u H locs hR hw => ?_)
        obtain ⟨hq, rfl⟩ := hR
        obtain rfl := hq.symm
        refine W.eq (g2 := F0 m 24 ls [.ref a_i]) rfl ?_
        refine lv_astore_n (lv' := [(2, .ref a_i), (0, .ref (gx G)), (1, .int (nI i))]) hx hb dX1_unmount_24 rfl hl (by decide) rfl (fun ls hl => ?_)
        refine lv_aload_n hx hb dX1_unmount_25 rfl (lv_at hl 0 rfl) ?_
        refine lv_ifnonnull (tgt := 32) hx hb dX1_unmount_26 (by decide) ?_
        refine lv_aload_n hx hb dX1_unmount_32 rfl (lv_at hl 0 rfl) ?_
        refine r_get0 (v := .int (S 5 i)) hx hb hts hin0 hown hw (show i < 25 by omega) hf_i 5 (by decide) lk33 rfl dX1_unmount_33 ?_
        refine lv_if_le (tgt := 47) hx hb dX1_unmount_36 (by decide) (fun c_36 => ?_) (fun c_36 => ?_)
        · skip
          refine lv_aload_n hx hb dX1_unmount_47 rfl (lv_at hl 1 rfl) ?_
          refine r_getH hx hb hts hin1 hown hw lk11 dX1_unmount_48 ?_
          refine lv_iload_n hx hb dX1_unmount_51 rfl (lv_at hl 2 rfl) ?_
          refine lv_null hx hb dX1_unmount_52 ?_
          refine r_hstN hx hb hw hi hf_i dX1_unmount_53 (fun H locs hw => ?_)
          have hf24 := dtF_24 f a_i hi
          refine lv_aload_n hx hb dX1_unmount_54 rfl (lv_at hl 0 rfl) ?_
          refine lv_iconst (v := 1) hx hb dX1_unmount_55 (by decide) ?_
          refine lv_aload_n hx hb dX1_unmount_56 rfl (lv_at hl 0 rfl) ?_
          refine r_get0 (v := .int (dtS (sU (sU S 9 0 ((S 9 0) + 1)) 6 i ((S 6 i) + 1)) i 6 24)) hx hb hts hin0 hown hw (show 24 < 25 by decide) hf24 6 (by decide) lk40 rfl dX1_unmount_57 ?_
          refine k_i hw (va_runV (As := [.int 1, .int (dtS (sU (sU S 9 0 ((S 9 0) + 1)) 6 i ((S 6 i) + 1)) i 6 24)]) (rest := []) ⟨hx, hb, hml, hown, hts⟩ (c_X0_letGo l G (dtF f i a_i) (va_up wa 24 (wa i)) (dtS (sU (sU S 9 0 ((S 9 0) + 1)) 6 i ((S 6 i) + 1)) i) M (show 24 < 25 by decide) hf24 1 (dtS (sU (sU S 9 0 ((S 9 0) + 1)) 6 i ((S 6 i) + 1)) i 6 24)) (cwV 2 hts gX1_unmount_X0_letGo rfl rfl rfl (by decide +kernel) ⟨Nat.le_of_ble_eq_true rfl, Nat.le_of_ble_eq_true rfl⟩) (hw.preL (show 24 < 25 by decide) hf24 _) rfl rfl hl.1 rfl (lv_room (Nat.le_of_ble_eq_true rfl)) dX1_unmount_60 ⟨Nat.le_of_ble_eq_true rfl, Nat.le_of_ble_eq_true rfl⟩) (fun r u H locs hR hw => ?_)
          obtain ⟨hq, rfl⟩ := hR
          obtain rfl := hq.symm
          exact e_i hx hb hr hlocks hw dX1_unmount_63 (leafC (by simp only [oc_unmount, oj_unmount, sU90 S _ (show 0 ≠ 9 by decide), sU90 S _ (show 5 ≠ 9 by decide), sU90 S _ (show 6 ≠ 9 by decide), hd, lg, lg2, ↓reduceIte, isH_nI hi, cl24 hi, c_4, h0_i, c_36]))
        · skip
          refine lv_aload_n hx hb dX1_unmount_39 rfl (lv_at hl 0 rfl) ?_
          refine lv_iconst (v := 2) hx hb dX1_unmount_40 (by decide) ?_
          refine lv_bipush (v := (-6)) hx hb dX1_unmount_41 (by decide) ?_
          refine k_i hw (va_runV (As := [.int 2, .int (-6)]) (rest := []) ⟨hx, hb, hml, hown, hts⟩ (c_X0_letGo l G f wa (sU (sU S 9 0 ((S 9 0) + 1)) 6 i ((S 6 i) + 1)) M (show i < 25 by omega) hf_i 2 (-6)) (cwV 2 hts gX1_unmount_X0_letGo rfl rfl rfl (by decide +kernel) ⟨Nat.le_of_ble_eq_true rfl, Nat.le_of_ble_eq_true rfl⟩) (hw.preL (show i < 25 by omega) hf_i _) rfl rfl hl.1 rfl (lv_room (Nat.le_of_ble_eq_true rfl)) dX1_unmount_43 ⟨Nat.le_of_ble_eq_true rfl, Nat.le_of_ble_eq_true rfl⟩) (fun r u H locs hR hw => ?_)
          obtain ⟨hq, rfl⟩ := hR
          obtain rfl := hq.symm
          exact e_i hx hb hr hlocks hw dX1_unmount_46 (leafC (by simp only [oc_unmount, oj_unmount, sU90 S _ (show 0 ≠ 9 by decide), sU90 S _ (show 5 ≠ 9 by decide), sU90 S _ (show 6 ≠ 9 by decide), hd, lg, lg2, ↓reduceIte, isH_nI hi, cl24 hi, c_4, h0_i, c_36]))
    · skip
      exact absurd c_4 (by decide)
