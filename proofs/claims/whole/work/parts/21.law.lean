/-! THE CLAIM OUT OF ONE WALK OF THE LAW'S BODY. Your part is whole_start (and what it stands on); all else here is the same for every law, but numbers. -/
def R_law : String := "LockerWallLaw"
def lw_P (b : Addr) (xs : List Int32) (args : Array Value) (s : State) : Prop := args = #[.ref b] ∧ s.IntsAt b xs ∧ xs.length ≤ 2048 ∧ (Jvm.Cond.and given_1 narrow_1).before args s = true
def lw_Q (_ : Array Value) (s : State) (o : Outcome) (t : State) : Prop := o = .returned (some (.int 1)) ∧ Framed s o t [] 600000 7302250
def lw_Z (below : List Frame) (a : Array Value) (s : State) : State → Prop := fun t => ∃ o, t.status = .running ∧ Ended t below o ∧ lw_Q a s o t
/-- the law's own end, with 1 on the stack, nothing written that was there before, its room as the claim has it -/
theorem lw_ret {p : Program} {l : Launch} {e : Env} {s : State} {m : MethodId} {below : List Frame} {meth : Method} {c : Code} {b : Nat} (hx : p.tables.exec = Jvm.exec) (hb : c.code = code) (hr : meth.sig.returnType = ret) (hlocks : meth.locks = false) {pc : Nat} {H : Heap} {ls : Array Slot} (hdg : decode code pc = .ok (.ireturn, 1)) : W p l e room_1 s m #[Value.ref b] below meth c H [] 600000 7302250 (lw_Z below #[Value.ref b] s) (F0 m pc ls [.int 1]) := by
  intro T hT X
  obtain ⟨fs, hret, hrun, hended, hW, hframe⟩ := X.leave (v := some (.int 1)) (hlocks := hlocks) (fun h => by rw [hr] at h; cases h)
  have hmeth' : T.vm.method? m = some meth := X.method'
  refine ⟨T.setFrames fs, ?_, .returned (some (.int 1)), hrun, hended, rfl, ⟨_, rfl⟩, hW, hframe⟩
  jvm_step X.here [X.here.top, hx, hb, hdg, hmeth', hr, ret, narrow_b1]
  (try refine ⟨rfl, ?_⟩); (try refine ⟨rfl, ?_⟩)
  first | (intro acts; rw [hret _ acts rfl rfl rfl]) | rw [hret _ _ rfl rfl rfl]
  exact Steps.refl _
/-- what holds at the law's entry: the machine, the code, the tables' words (any of lw_tbl by 'hts w (by decide +kernel)'), the script of L ints xs at the cell b, what the Statement gives of the start (any of its parts by flat_of_before) -/
def lw_At (p : Program) (s : State) (m : MethodId) (meth : Method) (c : Code) (b L : Nat) (xs : Nat → Int32) : Prop :=
  p.tables.exec = Jvm.exec ∧ c.code = code ∧ meth.sig.returnType = ret ∧ c.maxLocals = 4 ∧ s.vm.findClass R_law = some m.cls ∧ (∀ w ∈ lw_tbl, w.before #[Value.ref b] s = true) ∧ va_X b L xs s s.heap ∧ b < s.heap.size ∧ meth.locks = false ∧ (Jvm.Cond.and given_1 narrow_1).before #[Value.ref b] s = true
theorem lim {L j : Nat} (hL : L < 2 ^ 30) (hj : j < 2 ^ 30) : Int32.ofNat L - 4 < nI j ↔ L < j + 4 := by
  have h1 : (Int32.ofNat L - 4).toInt = (L : Int) - 4 := pk_sub_toInt (a := L) (b := 4) hL (by decide)
  rw [Int32.lt_iff_toInt_lt, h1, nI_toInt (by omega)]
  omega
theorem lcmp_eq {x y : Int64} (h : x = y) : lg_cmp x y = 0 := by
  subst h
  simp [lg_cmp]
section RS
variable {p : Program} {l : Launch} {e : Env} {R : Room} {s : State} {m : MethodId} {args : Array Value} {below : List Frame} {meth : Method} {c : Code} {H : Heap} {locs : List Loc} {cells slots : Nat} {Q : State → Prop}
variable {cc : ByteArray} {pc : Nat} {ls : Array Slot} {rest : List Value} {G : GT} {u : WT}
theorem r_sld (hx : p.tables.exec = Jvm.exec) (hb : c.code = cc) {b L : Nat} {xs : Nat → Int32} (hX : va_X b L xs s s.heap) (hbl : b < s.heap.size) (hbA : ¬ gA G b) (hw : Wi G u s H locs) {ix : Int32} (q : Nat) (hix : ix = nI q) (hq : q < L) (hL : L < 2 ^ 31) (hdg : decode cc pc = .ok (.iaload, 1))
    (kk : W p l e R s m args below meth c H locs cells slots Q (F0 m (pc + 1) ls (.int (xs q) :: rest))) : W p l e R s m args below meth c H locs cells slots Q (F0 m pc ls (.int ix :: .ref b :: rest)) := by
  subst hix
  refine va_sld hx hb hX hbl hbA hw.2.2.2 (vp_in_nI hq hL) hdg ?_
  rw [nI_clamp (by omega)]
  exact kk
end RS
set_option maxHeartbeats 4000000 in
set_option maxRecDepth 100000 in
/-- THE LAW'S LOOP -/
theorem law_loop {p : Program} {l : Launch} {e : Env} {s : State} {m : MethodId} {below : List Frame} {meth : Method} {c : Code} {G : GT} {b L : Nat} {xs : Nat → Int32} (hL : L ≤ 2048) (C0 : lw_At p s m meth c b L xs) (hGA : gA G = fun q : Nat => s.heap.size ≤ q) :
    ∀ (d t j : Nat) (S M : Tb) (f : Nat → Option Nat) (wa : Nat → Nat) (cells slots : Nat) (H : Heap) (locs : List Loc) (ls : Array Slot), (j = 4 * t ∧ t + d = 513 ∧ j ≤ L ∧ cells ≤ 12 + 2 * t ∧ slots ≤ 468 + 18 * t ∧ Rel S M ∧ Wei M) → Wi G (f, wa, S, M) s H locs → lv_has ls 4 [(3, .int (nI j)), (0, .ref b), (1, .ref (gx G)), (2, .ref (gm G))] → W p l e room_1 s m #[Value.ref b] below meth c H locs cells slots (lw_Z below #[Value.ref b] s) (F0 m 18 ls []) := by
  obtain ⟨hx, hb, hr, hml, hown, hts, hX, hbl, hlocks, hgv⟩ := C0
  have hown : s.vm.findClass RL = some m.cls := hown
  have hts : ∀ w ∈ wsL_law, w.before #[Value.ref b] s = true := fun w h => hts w (wsL_law_in w h)
  have hbA : ¬ gA G b := by rw [hGA]; exact Nat.not_le.mpr hbl
  intro d
  induction d with
  | zero =>
    intro t j S M f wa cells slots H locs ls hk hw hl
    obtain ⟨hj4, htd, hjL, hcc, hss, hRel, hWei⟩ := hk
    exact absurd hjL (by omega)
  | succ d ih =>
    intro t j S M f wa cells slots H locs ls hk hw hl
    obtain ⟨hj4, htd, hjL0, hcc, hss, hRel, hWei⟩ := hk
    refine lv_iload_n hx hb dL_law_18 rfl (lv_at hl 0 rfl) ?_
    refine lv_aload_n hx hb dL_law_19 rfl (lv_at hl 1 rfl) ?_
    refine va_slen hx hb hX hbl hbA hw.2.2.2 dL_law_20 ?_
    refine lv_iconst (v := 4) hx hb dL_law_21 (by decide) ?_
    refine lv_isub hx hb dL_law_22 ?_
    refine lv_icmp_gt (tgt := 614) hx hb dL_law_23 (by decide) (fun c_23 => ?_) (fun c_23 => ?_)
    · skip
      refine lv_iconst (v := 1) hx hb dL_law_614 (by decide) ?_
      refine va_forget (fun q hq => by have h1 := hw.2.2.2.2.2 q hq; rw [hGA] at h1; exact h1) ?_
      refine W.widen (k := 600000) (n := 7302250) (by omega) (by omega) ?_
      exact lw_ret hx hb hr hlocks dL_law_615
    · skip
      have hjL : j + 4 ≤ L := by
        rcases Nat.lt_or_ge L (j + 4) with q | q
        · exact absurd ((lim (by omega) (by omega)).mpr q) c_23
        · exact q
      obtain ⟨v, hv, ev⟩ := pk_andE (xs j) (m := 31) 5 (by decide)
      refine lv_aload_n hx hb dL_law_26 rfl (lv_at hl 1 rfl) ?_
      refine lv_iload_n hx hb dL_law_27 rfl (lv_at hl 0 rfl) ?_
      refine r_sld hx hb hX hbl hbA hw (j) (rfl) (show j < L by omega) (show L < 2 ^ 31 by omega) dL_law_28 ?_
      refine lv_bipush (v := 31) hx hb dL_law_29 (by decide) ?_
      refine lv_iand hx hb dL_law_31 ?_
      refine W.eq (g2 := F0 m 32 ls [.int (nI v)]) (by rw [ev]) ?_
      by_cases hv16 : v ≤ 16
      · skip
        rcases (show v = 0 ∨ v = 1 ∨ v = 2 ∨ v = 3 ∨ v = 4 ∨ v = 5 ∨ v = 6 ∨ v = 7 ∨ v = 8 ∨ v = 9 ∨ v = 10 ∨ v = 11 ∨ v = 12 ∨ v = 13 ∨ v = 14 ∨ v = 15 ∨ v = 16 by omega) with rfl | rfl | rfl | rfl | rfl | rfl | rfl | rfl | rfl | rfl | rfl | rfl | rfl | rfl | rfl | rfl | rfl
        · skip
          refine lv_tableIn (tgt := 116) (off := 84) hx hb dL_law_32 (by decide) (by decide) rfl (by decide) ?_
          refine lv_aload_n hx hb dL_law_116 rfl (lv_at hl 2 rfl) ?_
          refine lv_aload_n hx hb dL_law_117 rfl (lv_at hl 1 rfl) ?_
          refine lv_iload_n hx hb dL_law_118 rfl (lv_at hl 0 rfl) ?_
          refine lv_iconst (v := 1) hx hb dL_law_119 (by decide) ?_
          refine lv_iadd hx hb dL_law_120 ?_
          refine r_sld hx hb hX hbl hbA hw (j + 1) (nI_1 _) (show j + 1 < L by omega) (show L < 2 ^ 31 by omega) dL_law_121 ?_
          refine lv_aload_n hx hb dL_law_122 rfl (lv_at hl 1 rfl) ?_
          refine lv_iload_n hx hb dL_law_123 rfl (lv_at hl 0 rfl) ?_
          refine lv_iconst (v := 2) hx hb dL_law_124 (by decide) ?_
          refine lv_iadd hx hb dL_law_125 ?_
          refine r_sld hx hb hX hbl hbA hw (j + 2) (nI_add _ 2) (show j + 2 < L by omega) (show L < 2 ^ 31 by omega) dL_law_126 ?_
          refine lv_aload_n hx hb dL_law_127 rfl (lv_at hl 1 rfl) ?_
          refine lv_iload_n hx hb dL_law_128 rfl (lv_at hl 0 rfl) ?_
          refine lv_iconst (v := 3) hx hb dL_law_129 (by decide) ?_
          refine lv_iadd hx hb dL_law_130 ?_
          refine r_sld hx hb hX hbl hbA hw (j + 3) (nI_add _ 3) (show j + 3 < L by omega) (show L < 2 ^ 31 by omega) dL_law_131 ?_
          refine k_i hw (va_runV (As := [.int (xs (j + 1)), .int (xs (j + 2)), .int (xs (j + 3))]) (rest := []) ⟨hx, hb, hml, hown, hts⟩ (c_X1_mount l G f wa S M (xs (j + 1)) (xs (j + 2)) (xs (j + 3))) (cwV 3 hts gL_law_X1_mount rfl rfl rfl (by decide +kernel) ⟨Nat.le_of_ble_eq_true rfl, Nat.le_of_ble_eq_true rfl⟩) (hw.preX _) rfl rfl hl.1 rfl (lv_room (Nat.le_of_ble_eq_true rfl)) dL_law_132 ⟨(show _ ≤ 600000 by omega), (show _ ≤ 7302250 by omega)⟩) (fun r u H locs hR hw => ?_)
          obtain ⟨hq, f', wa', rfl⟩ := hR
          obtain rfl := hq.symm
          refine lv_aload_n hx hb dL_law_135 rfl (lv_at hl 3 rfl) ?_
          refine lv_aload_n hx hb dL_law_136 rfl (lv_at hl 1 rfl) ?_
          refine lv_iload_n hx hb dL_law_137 rfl (lv_at hl 0 rfl) ?_
          refine lv_iconst (v := 1) hx hb dL_law_138 (by decide) ?_
          refine lv_iadd hx hb dL_law_139 ?_
          refine r_sld hx hb hX hbl hbA hw (j + 1) (nI_1 _) (show j + 1 < L by omega) (show L < 2 ^ 31 by omega) dL_law_140 ?_
          refine lv_aload_n hx hb dL_law_141 rfl (lv_at hl 1 rfl) ?_
          refine lv_iload_n hx hb dL_law_142 rfl (lv_at hl 0 rfl) ?_
          refine lv_iconst (v := 2) hx hb dL_law_143 (by decide) ?_
          refine lv_iadd hx hb dL_law_144 ?_
          refine r_sld hx hb hX hbl hbA hw (j + 2) (nI_add _ 2) (show j + 2 < L by omega) (show L < 2 ^ 31 by omega) dL_law_145 ?_
          refine lv_aload_n hx hb dL_law_146 rfl (lv_at hl 1 rfl) ?_
          refine lv_iload_n hx hb dL_law_147 rfl (lv_at hl 0 rfl) ?_
          refine lv_iconst (v := 3) hx hb dL_law_148 (by decide) ?_
          refine lv_iadd hx hb dL_law_149 ?_
          refine r_sld hx hb hX hbl hbA hw (j + 3) (nI_add _ 3) (show j + 3 < L by omega) (show L < 2 ^ 31 by omega) dL_law_150 ?_
          refine k_i hw (va_runV (As := [.int (xs (j + 1)), .int (xs (j + 2)), .int (xs (j + 3))]) (rest := [.int ((oc_mount S (xs (j + 1)) (xs (j + 2)) (xs (j + 3))).1)]) ⟨hx, hb, hml, hown, hts⟩ (c_X2_mount l G f' wa' (oc_mount S (xs (j + 1)) (xs (j + 2)) (xs (j + 3))).2 M (xs (j + 1)) (xs (j + 2)) (xs (j + 3))) (cwV 3 hts gL_law_X2_mount rfl rfl rfl (by decide +kernel) ⟨Nat.le_of_ble_eq_true rfl, Nat.le_of_ble_eq_true rfl⟩) (hw.preM _) rfl rfl hl.1 rfl (lv_room (Nat.le_of_ble_eq_true rfl)) dL_law_151 ⟨(show _ ≤ 600000 by omega), (show _ ≤ 7302250 by omega)⟩) (fun r u H locs hR hw => ?_)
          obtain ⟨hq, rfl⟩ := hR
          obtain rfl := hq.symm
          have hOk := q_mount hRel (xs (j + 1)) (xs (j + 2)) (xs (j + 3))
          have hWe := v_mount hWei (xs (j + 1)) (xs (j + 2)) (xs (j + 3))
          refine lv_icmp_eq (tgt := 608) hx hb dL_law_154 (by decide) (fun c_154 => ?_) (fun c_154 => ?_)
          · skip
            refine lv_iinc (v := nI (j + 4)) (lv' := [(3, .int (nI (j + 4))), (0, .ref b), (1, .ref (gx G)), (2, .ref (gm G))]) hx hb dL_law_608 hl (k := 0) rfl (nI_add _ 4) (by decide) rfl (fun ls hl => ?_)
            refine lv_goto (tgt := 18) hx hb dL_law_611 (by decide) ?_
            exact ih (t + 1) (j + 4) ((oc_mount S (xs (j + 1)) (xs (j + 2)) (xs (j + 3))).2) ((om_mount M (xs (j + 1)) (xs (j + 2)) (xs (j + 3))).2) f' wa' _ _ _ _ ls ⟨by omega, by omega, by omega, (by omega), (by omega), hOk.2, hWe⟩ hw (lv_sub hl [0, 1, 2, 3] rfl)
          · skip
            exact absurd hOk.1 c_154
        · skip
          refine lv_tableIn (tgt := 159) (off := 127) hx hb dL_law_32 (by decide) (by decide) rfl (by decide) ?_
          refine lv_aload_n hx hb dL_law_159 rfl (lv_at hl 2 rfl) ?_
          refine lv_aload_n hx hb dL_law_160 rfl (lv_at hl 1 rfl) ?_
          refine lv_iload_n hx hb dL_law_161 rfl (lv_at hl 0 rfl) ?_
          refine lv_iconst (v := 1) hx hb dL_law_162 (by decide) ?_
          refine lv_iadd hx hb dL_law_163 ?_
          refine r_sld hx hb hX hbl hbA hw (j + 1) (nI_1 _) (show j + 1 < L by omega) (show L < 2 ^ 31 by omega) dL_law_164 ?_
          refine k_i hw (va_runV (As := [.int (xs (j + 1))]) (rest := []) ⟨hx, hb, hml, hown, hts⟩ (c_X1_unmount l G f wa S M (xs (j + 1))) (cwV 1 hts gL_law_X1_unmount rfl rfl rfl (by decide +kernel) ⟨Nat.le_of_ble_eq_true rfl, Nat.le_of_ble_eq_true rfl⟩) (hw.preX _) rfl rfl hl.1 rfl (lv_room (Nat.le_of_ble_eq_true rfl)) dL_law_165 ⟨(show _ ≤ 600000 by omega), (show _ ≤ 7302250 by omega)⟩) (fun r u H locs hR hw => ?_)
          obtain ⟨hq, f', wa', rfl⟩ := hR
          obtain rfl := hq.symm
          refine lv_aload_n hx hb dL_law_168 rfl (lv_at hl 3 rfl) ?_
          refine lv_aload_n hx hb dL_law_169 rfl (lv_at hl 1 rfl) ?_
          refine lv_iload_n hx hb dL_law_170 rfl (lv_at hl 0 rfl) ?_
          refine lv_iconst (v := 1) hx hb dL_law_171 (by decide) ?_
          refine lv_iadd hx hb dL_law_172 ?_
          refine r_sld hx hb hX hbl hbA hw (j + 1) (nI_1 _) (show j + 1 < L by omega) (show L < 2 ^ 31 by omega) dL_law_173 ?_
          refine k_i hw (va_runV (As := [.int (xs (j + 1))]) (rest := [.int ((oc_unmount S (xs (j + 1))).1)]) ⟨hx, hb, hml, hown, hts⟩ (c_X2_unmount l G f' wa' (oc_unmount S (xs (j + 1))).2 M (xs (j + 1))) (cwV 1 hts gL_law_X2_unmount rfl rfl rfl (by decide +kernel) ⟨Nat.le_of_ble_eq_true rfl, Nat.le_of_ble_eq_true rfl⟩) (hw.preM _) rfl rfl hl.1 rfl (lv_room (Nat.le_of_ble_eq_true rfl)) dL_law_174 ⟨(show _ ≤ 600000 by omega), (show _ ≤ 7302250 by omega)⟩) (fun r u H locs hR hw => ?_)
          obtain ⟨hq, rfl⟩ := hR
          obtain rfl := hq.symm
          have hOk := q_unmount hRel (xs (j + 1))
          have hWe := v_unmount hWei (xs (j + 1))
          refine lv_icmp_eq (tgt := 608) hx hb dL_law_177 (by decide) (fun c_177 => ?_) (fun c_177 => ?_)
          · skip
            refine lv_iinc (v := nI (j + 4)) (lv' := [(3, .int (nI (j + 4))), (0, .ref b), (1, .ref (gx G)), (2, .ref (gm G))]) hx hb dL_law_608 hl (k := 0) rfl (nI_add _ 4) (by decide) rfl (fun ls hl => ?_)
            refine lv_goto (tgt := 18) hx hb dL_law_611 (by decide) ?_
            exact ih (t + 1) (j + 4) ((oc_unmount S (xs (j + 1))).2) ((om_unmount M (xs (j + 1))).2) f' wa' _ _ _ _ ls ⟨by omega, by omega, by omega, (by omega), (by omega), hOk.2, hWe⟩ hw (lv_sub hl [0, 1, 2, 3] rfl)
          · skip
            exact absurd hOk.1 c_177
        · skip
          refine lv_tableIn (tgt := 182) (off := 150) hx hb dL_law_32 (by decide) (by decide) rfl (by decide) ?_
          refine lv_aload_n hx hb dL_law_182 rfl (lv_at hl 2 rfl) ?_
          refine lv_aload_n hx hb dL_law_183 rfl (lv_at hl 1 rfl) ?_
          refine lv_iload_n hx hb dL_law_184 rfl (lv_at hl 0 rfl) ?_
          refine lv_iconst (v := 1) hx hb dL_law_185 (by decide) ?_
          refine lv_iadd hx hb dL_law_186 ?_
          refine r_sld hx hb hX hbl hbA hw (j + 1) (nI_1 _) (show j + 1 < L by omega) (show L < 2 ^ 31 by omega) dL_law_187 ?_
          refine lv_aload_n hx hb dL_law_188 rfl (lv_at hl 1 rfl) ?_
          refine lv_iload_n hx hb dL_law_189 rfl (lv_at hl 0 rfl) ?_
          refine lv_iconst (v := 2) hx hb dL_law_190 (by decide) ?_
          refine lv_iadd hx hb dL_law_191 ?_
          refine r_sld hx hb hX hbl hbA hw (j + 2) (nI_add _ 2) (show j + 2 < L by omega) (show L < 2 ^ 31 by omega) dL_law_192 ?_
          refine k_i hw (va_runV (As := [.int (xs (j + 1)), .int (xs (j + 2))]) (rest := []) ⟨hx, hb, hml, hown, hts⟩ (c_X1_open l G f wa S M (xs (j + 1)) (xs (j + 2))) (cwV 2 hts gL_law_X1_open rfl rfl rfl (by decide +kernel) ⟨Nat.le_of_ble_eq_true rfl, Nat.le_of_ble_eq_true rfl⟩) (hw.preX _) rfl rfl hl.1 rfl (lv_room (Nat.le_of_ble_eq_true rfl)) dL_law_193 ⟨(show _ ≤ 600000 by omega), (show _ ≤ 7302250 by omega)⟩) (fun r u H locs hR hw => ?_)
          obtain ⟨hq, f', wa', rfl⟩ := hR
          obtain rfl := hq.symm
          refine lv_aload_n hx hb dL_law_196 rfl (lv_at hl 3 rfl) ?_
          refine lv_aload_n hx hb dL_law_197 rfl (lv_at hl 1 rfl) ?_
          refine lv_iload_n hx hb dL_law_198 rfl (lv_at hl 0 rfl) ?_
          refine lv_iconst (v := 1) hx hb dL_law_199 (by decide) ?_
          refine lv_iadd hx hb dL_law_200 ?_
          refine r_sld hx hb hX hbl hbA hw (j + 1) (nI_1 _) (show j + 1 < L by omega) (show L < 2 ^ 31 by omega) dL_law_201 ?_
          refine lv_aload_n hx hb dL_law_202 rfl (lv_at hl 1 rfl) ?_
          refine lv_iload_n hx hb dL_law_203 rfl (lv_at hl 0 rfl) ?_
          refine lv_iconst (v := 2) hx hb dL_law_204 (by decide) ?_
          refine lv_iadd hx hb dL_law_205 ?_
          refine r_sld hx hb hX hbl hbA hw (j + 2) (nI_add _ 2) (show j + 2 < L by omega) (show L < 2 ^ 31 by omega) dL_law_206 ?_
          refine k_i hw (va_runV (As := [.int (xs (j + 1)), .int (xs (j + 2))]) (rest := [.int ((oc_open S (xs (j + 1)) (xs (j + 2))).1)]) ⟨hx, hb, hml, hown, hts⟩ (c_X2_open l G f' wa' (oc_open S (xs (j + 1)) (xs (j + 2))).2 M (xs (j + 1)) (xs (j + 2))) (cwV 2 hts gL_law_X2_open rfl rfl rfl (by decide +kernel) ⟨Nat.le_of_ble_eq_true rfl, Nat.le_of_ble_eq_true rfl⟩) (hw.preM _) rfl rfl hl.1 rfl (lv_room (Nat.le_of_ble_eq_true rfl)) dL_law_207 ⟨(show _ ≤ 600000 by omega), (show _ ≤ 7302250 by omega)⟩) (fun r u H locs hR hw => ?_)
          obtain ⟨hq, rfl⟩ := hR
          obtain rfl := hq.symm
          have hOk := q_open hRel (xs (j + 1)) (xs (j + 2))
          have hWe := v_open hWei (xs (j + 1)) (xs (j + 2))
          refine lv_icmp_eq (tgt := 608) hx hb dL_law_210 (by decide) (fun c_210 => ?_) (fun c_210 => ?_)
          · skip
            refine lv_iinc (v := nI (j + 4)) (lv' := [(3, .int (nI (j + 4))), (0, .ref b), (1, .ref (gx G)), (2, .ref (gm G))]) hx hb dL_law_608 hl (k := 0) rfl (nI_add _ 4) (by decide) rfl (fun ls hl => ?_)
            refine lv_goto (tgt := 18) hx hb dL_law_611 (by decide) ?_
            exact ih (t + 1) (j + 4) ((oc_open S (xs (j + 1)) (xs (j + 2))).2) ((om_open M (xs (j + 1)) (xs (j + 2))).2) f' wa' _ _ _ _ ls ⟨by omega, by omega, by omega, (by omega), (by omega), hOk.2, hWe⟩ hw (lv_sub hl [0, 1, 2, 3] rfl)
          · skip
            exact absurd hOk.1 c_210
        · skip
          refine lv_tableIn (tgt := 215) (off := 183) hx hb dL_law_32 (by decide) (by decide) rfl (by decide) ?_
          refine lv_aload_n hx hb dL_law_215 rfl (lv_at hl 2 rfl) ?_
          refine lv_aload_n hx hb dL_law_216 rfl (lv_at hl 1 rfl) ?_
          refine lv_iload_n hx hb dL_law_217 rfl (lv_at hl 0 rfl) ?_
          refine lv_iconst (v := 1) hx hb dL_law_218 (by decide) ?_
          refine lv_iadd hx hb dL_law_219 ?_
          refine r_sld hx hb hX hbl hbA hw (j + 1) (nI_1 _) (show j + 1 < L by omega) (show L < 2 ^ 31 by omega) dL_law_220 ?_
          refine k_i hw (va_runV (As := [.int (xs (j + 1))]) (rest := []) ⟨hx, hb, hml, hown, hts⟩ (c_X1_shut l G f wa S M (xs (j + 1))) (cwV 1 hts gL_law_X1_shut rfl rfl rfl (by decide +kernel) ⟨Nat.le_of_ble_eq_true rfl, Nat.le_of_ble_eq_true rfl⟩) (hw.preX _) rfl rfl hl.1 rfl (lv_room (Nat.le_of_ble_eq_true rfl)) dL_law_221 ⟨(show _ ≤ 600000 by omega), (show _ ≤ 7302250 by omega)⟩) (fun r u H locs hR hw => ?_)
          obtain ⟨hq, f', wa', rfl⟩ := hR
          obtain rfl := hq.symm
          refine lv_aload_n hx hb dL_law_224 rfl (lv_at hl 3 rfl) ?_
          refine lv_aload_n hx hb dL_law_225 rfl (lv_at hl 1 rfl) ?_
          refine lv_iload_n hx hb dL_law_226 rfl (lv_at hl 0 rfl) ?_
          refine lv_iconst (v := 1) hx hb dL_law_227 (by decide) ?_
          refine lv_iadd hx hb dL_law_228 ?_
          refine r_sld hx hb hX hbl hbA hw (j + 1) (nI_1 _) (show j + 1 < L by omega) (show L < 2 ^ 31 by omega) dL_law_229 ?_
          refine k_i hw (va_runV (As := [.int (xs (j + 1))]) (rest := [.int ((oc_shut S (xs (j + 1))).1)]) ⟨hx, hb, hml, hown, hts⟩ (c_X2_shut l G f' wa' (oc_shut S (xs (j + 1))).2 M (xs (j + 1))) (cwV 1 hts gL_law_X2_shut rfl rfl rfl (by decide +kernel) ⟨Nat.le_of_ble_eq_true rfl, Nat.le_of_ble_eq_true rfl⟩) (hw.preM _) rfl rfl hl.1 rfl (lv_room (Nat.le_of_ble_eq_true rfl)) dL_law_230 ⟨(show _ ≤ 600000 by omega), (show _ ≤ 7302250 by omega)⟩) (fun r u H locs hR hw => ?_)
          obtain ⟨hq, rfl⟩ := hR
          obtain rfl := hq.symm
          have hOk := q_shut hRel (xs (j + 1))
          have hWe := v_shut hWei (xs (j + 1))
          refine lv_icmp_eq (tgt := 608) hx hb dL_law_233 (by decide) (fun c_233 => ?_) (fun c_233 => ?_)
          · skip
            refine lv_iinc (v := nI (j + 4)) (lv' := [(3, .int (nI (j + 4))), (0, .ref b), (1, .ref (gx G)), (2, .ref (gm G))]) hx hb dL_law_608 hl (k := 0) rfl (nI_add _ 4) (by decide) rfl (fun ls hl => ?_)
            refine lv_goto (tgt := 18) hx hb dL_law_611 (by decide) ?_
            exact ih (t + 1) (j + 4) ((oc_shut S (xs (j + 1))).2) ((om_shut M (xs (j + 1))).2) f' wa' _ _ _ _ ls ⟨by omega, by omega, by omega, (by omega), (by omega), hOk.2, hWe⟩ hw (lv_sub hl [0, 1, 2, 3] rfl)
          · skip
            exact absurd hOk.1 c_233
        · skip
          refine lv_tableIn (tgt := 238) (off := 206) hx hb dL_law_32 (by decide) (by decide) rfl (by decide) ?_
          refine lv_aload_n hx hb dL_law_238 rfl (lv_at hl 2 rfl) ?_
          refine lv_aload_n hx hb dL_law_239 rfl (lv_at hl 1 rfl) ?_
          refine lv_iload_n hx hb dL_law_240 rfl (lv_at hl 0 rfl) ?_
          refine lv_iconst (v := 1) hx hb dL_law_241 (by decide) ?_
          refine lv_iadd hx hb dL_law_242 ?_
          refine r_sld hx hb hX hbl hbA hw (j + 1) (nI_1 _) (show j + 1 < L by omega) (show L < 2 ^ 31 by omega) dL_law_243 ?_
          refine lv_aload_n hx hb dL_law_244 rfl (lv_at hl 1 rfl) ?_
          refine lv_iload_n hx hb dL_law_245 rfl (lv_at hl 0 rfl) ?_
          refine lv_iconst (v := 2) hx hb dL_law_246 (by decide) ?_
          refine lv_iadd hx hb dL_law_247 ?_
          refine r_sld hx hb hX hbl hbA hw (j + 2) (nI_add _ 2) (show j + 2 < L by omega) (show L < 2 ^ 31 by omega) dL_law_248 ?_
          refine k_i hw (va_runV (As := [.int (xs (j + 1)), .int (xs (j + 2))]) (rest := []) ⟨hx, hb, hml, hown, hts⟩ (c_X1_put l G f wa S M hRel.inv (xs (j + 1)) (xs (j + 2))) (cwV 2 hts gL_law_X1_put rfl rfl rfl (by decide +kernel) ⟨Nat.le_of_ble_eq_true rfl, Nat.le_of_ble_eq_true rfl⟩) (hw.preX _) rfl rfl hl.1 rfl (lv_room (Nat.le_of_ble_eq_true rfl)) dL_law_249 ⟨(show _ ≤ 600000 by omega), (show _ ≤ 7302250 by omega)⟩) (fun r u H locs hR hw => ?_)
          obtain ⟨hq, f', wa', rfl⟩ := hR
          obtain rfl := hq.symm
          refine lv_aload_n hx hb dL_law_252 rfl (lv_at hl 3 rfl) ?_
          refine lv_aload_n hx hb dL_law_253 rfl (lv_at hl 1 rfl) ?_
          refine lv_iload_n hx hb dL_law_254 rfl (lv_at hl 0 rfl) ?_
          refine lv_iconst (v := 1) hx hb dL_law_255 (by decide) ?_
          refine lv_iadd hx hb dL_law_256 ?_
          refine r_sld hx hb hX hbl hbA hw (j + 1) (nI_1 _) (show j + 1 < L by omega) (show L < 2 ^ 31 by omega) dL_law_257 ?_
          refine lv_aload_n hx hb dL_law_258 rfl (lv_at hl 1 rfl) ?_
          refine lv_iload_n hx hb dL_law_259 rfl (lv_at hl 0 rfl) ?_
          refine lv_iconst (v := 2) hx hb dL_law_260 (by decide) ?_
          refine lv_iadd hx hb dL_law_261 ?_
          refine r_sld hx hb hX hbl hbA hw (j + 2) (nI_add _ 2) (show j + 2 < L by omega) (show L < 2 ^ 31 by omega) dL_law_262 ?_
          refine k_i hw (va_runV (As := [.int (xs (j + 1)), .int (xs (j + 2))]) (rest := [.int ((oc_put S (xs (j + 1)) (xs (j + 2))).1)]) ⟨hx, hb, hml, hown, hts⟩ (c_X2_put l G f' wa' (oc_put S (xs (j + 1)) (xs (j + 2))).2 M hRel.invM (xs (j + 1)) (xs (j + 2))) (cwV 2 hts gL_law_X2_put rfl rfl rfl (by decide +kernel) ⟨Nat.le_of_ble_eq_true rfl, Nat.le_of_ble_eq_true rfl⟩) (hw.preM _) rfl rfl hl.1 rfl (lv_room (Nat.le_of_ble_eq_true rfl)) dL_law_263 ⟨(show _ ≤ 600000 by omega), (show _ ≤ 7302250 by omega)⟩) (fun r u H locs hR hw => ?_)
          obtain ⟨hq, rfl⟩ := hR
          obtain rfl := hq.symm
          have hOk := q_put hRel (xs (j + 1)) (xs (j + 2))
          have hWe := v_put hRel hWei (xs (j + 1)) (xs (j + 2))
          refine lv_icmp_eq (tgt := 608) hx hb dL_law_266 (by decide) (fun c_266 => ?_) (fun c_266 => ?_)
          · skip
            refine lv_iinc (v := nI (j + 4)) (lv' := [(3, .int (nI (j + 4))), (0, .ref b), (1, .ref (gx G)), (2, .ref (gm G))]) hx hb dL_law_608 hl (k := 0) rfl (nI_add _ 4) (by decide) rfl (fun ls hl => ?_)
            refine lv_goto (tgt := 18) hx hb dL_law_611 (by decide) ?_
            exact ih (t + 1) (j + 4) ((oc_put S (xs (j + 1)) (xs (j + 2))).2) ((om_put M (xs (j + 1)) (xs (j + 2))).2) f' wa' _ _ _ _ ls ⟨by omega, by omega, by omega, (by omega), (by omega), hOk.2, hWe⟩ hw (lv_sub hl [0, 1, 2, 3] rfl)
          · skip
            exact absurd hOk.1 c_266
        · skip
          refine lv_tableIn (tgt := 271) (off := 239) hx hb dL_law_32 (by decide) (by decide) rfl (by decide) ?_
          refine lv_aload_n hx hb dL_law_271 rfl (lv_at hl 2 rfl) ?_
          refine lv_aload_n hx hb dL_law_272 rfl (lv_at hl 1 rfl) ?_
          refine lv_iload_n hx hb dL_law_273 rfl (lv_at hl 0 rfl) ?_
          refine lv_iconst (v := 1) hx hb dL_law_274 (by decide) ?_
          refine lv_iadd hx hb dL_law_275 ?_
          refine r_sld hx hb hX hbl hbA hw (j + 1) (nI_1 _) (show j + 1 < L by omega) (show L < 2 ^ 31 by omega) dL_law_276 ?_
          refine k_i hw (va_runV (As := [.int (xs (j + 1))]) (rest := []) ⟨hx, hb, hml, hown, hts⟩ (c_X1_take l G f wa S M hRel.inv (xs (j + 1))) (cwV 1 hts gL_law_X1_take rfl rfl rfl (by decide +kernel) ⟨Nat.le_of_ble_eq_true rfl, Nat.le_of_ble_eq_true rfl⟩) (hw.preX _) rfl rfl hl.1 rfl (lv_room (Nat.le_of_ble_eq_true rfl)) dL_law_277 ⟨(show _ ≤ 600000 by omega), (show _ ≤ 7302250 by omega)⟩) (fun r u H locs hR hw => ?_)
          obtain ⟨hq, f', wa', rfl⟩ := hR
          obtain rfl := hq.symm
          refine lv_aload_n hx hb dL_law_280 rfl (lv_at hl 3 rfl) ?_
          refine lv_aload_n hx hb dL_law_281 rfl (lv_at hl 1 rfl) ?_
          refine lv_iload_n hx hb dL_law_282 rfl (lv_at hl 0 rfl) ?_
          refine lv_iconst (v := 1) hx hb dL_law_283 (by decide) ?_
          refine lv_iadd hx hb dL_law_284 ?_
          refine r_sld hx hb hX hbl hbA hw (j + 1) (nI_1 _) (show j + 1 < L by omega) (show L < 2 ^ 31 by omega) dL_law_285 ?_
          refine k_i hw (va_runV (As := [.int (xs (j + 1))]) (rest := [.int ((oc_take S (xs (j + 1))).1)]) ⟨hx, hb, hml, hown, hts⟩ (c_X2_take l G f' wa' (oc_take S (xs (j + 1))).2 M hRel.invM (xs (j + 1))) (cwV 1 hts gL_law_X2_take rfl rfl rfl (by decide +kernel) ⟨Nat.le_of_ble_eq_true rfl, Nat.le_of_ble_eq_true rfl⟩) (hw.preM _) rfl rfl hl.1 rfl (lv_room (Nat.le_of_ble_eq_true rfl)) dL_law_286 ⟨(show _ ≤ 600000 by omega), (show _ ≤ 7302250 by omega)⟩) (fun r u H locs hR hw => ?_)
          obtain ⟨hq, rfl⟩ := hR
          obtain rfl := hq.symm
          have hOk := q_take hRel (xs (j + 1))
          have hWe := v_take hRel hWei (xs (j + 1))
          refine lv_icmp_eq (tgt := 608) hx hb dL_law_289 (by decide) (fun c_289 => ?_) (fun c_289 => ?_)
          · skip
            refine lv_iinc (v := nI (j + 4)) (lv' := [(3, .int (nI (j + 4))), (0, .ref b), (1, .ref (gx G)), (2, .ref (gm G))]) hx hb dL_law_608 hl (k := 0) rfl (nI_add _ 4) (by decide) rfl (fun ls hl => ?_)
            refine lv_goto (tgt := 18) hx hb dL_law_611 (by decide) ?_
            exact ih (t + 1) (j + 4) ((oc_take S (xs (j + 1))).2) ((om_take M (xs (j + 1))).2) f' wa' _ _ _ _ ls ⟨by omega, by omega, by omega, (by omega), (by omega), hOk.2, hWe⟩ hw (lv_sub hl [0, 1, 2, 3] rfl)
          · skip
            exact absurd hOk.1 c_289
        · skip
          refine lv_tableIn (tgt := 294) (off := 262) hx hb dL_law_32 (by decide) (by decide) rfl (by decide) ?_
          refine lv_aload_n hx hb dL_law_294 rfl (lv_at hl 2 rfl) ?_
          refine lv_aload_n hx hb dL_law_295 rfl (lv_at hl 1 rfl) ?_
          refine lv_iload_n hx hb dL_law_296 rfl (lv_at hl 0 rfl) ?_
          refine lv_iconst (v := 1) hx hb dL_law_297 (by decide) ?_
          refine lv_iadd hx hb dL_law_298 ?_
          refine r_sld hx hb hX hbl hbA hw (j + 1) (nI_1 _) (show j + 1 < L by omega) (show L < 2 ^ 31 by omega) dL_law_299 ?_
          refine lv_aload_n hx hb dL_law_300 rfl (lv_at hl 1 rfl) ?_
          refine lv_iload_n hx hb dL_law_301 rfl (lv_at hl 0 rfl) ?_
          refine lv_iconst (v := 2) hx hb dL_law_302 (by decide) ?_
          refine lv_iadd hx hb dL_law_303 ?_
          refine r_sld hx hb hX hbl hbA hw (j + 2) (nI_add _ 2) (show j + 2 < L by omega) (show L < 2 ^ 31 by omega) dL_law_304 ?_
          refine k_i hw (va_runV (As := [.int (xs (j + 1)), .int (xs (j + 2))]) (rest := []) ⟨hx, hb, hml, hown, hts⟩ (c_X1_move l G f wa S M hRel.inv (xs (j + 1)) (xs (j + 2))) (cwV 2 hts gL_law_X1_move rfl rfl rfl (by decide +kernel) ⟨Nat.le_of_ble_eq_true rfl, Nat.le_of_ble_eq_true rfl⟩) (hw.preX _) rfl rfl hl.1 rfl (lv_room (Nat.le_of_ble_eq_true rfl)) dL_law_305 ⟨(show _ ≤ 600000 by omega), (show _ ≤ 7302250 by omega)⟩) (fun r u H locs hR hw => ?_)
          obtain ⟨hq, f', wa', rfl⟩ := hR
          obtain rfl := hq.symm
          refine lv_aload_n hx hb dL_law_308 rfl (lv_at hl 3 rfl) ?_
          refine lv_aload_n hx hb dL_law_309 rfl (lv_at hl 1 rfl) ?_
          refine lv_iload_n hx hb dL_law_310 rfl (lv_at hl 0 rfl) ?_
          refine lv_iconst (v := 1) hx hb dL_law_311 (by decide) ?_
          refine lv_iadd hx hb dL_law_312 ?_
          refine r_sld hx hb hX hbl hbA hw (j + 1) (nI_1 _) (show j + 1 < L by omega) (show L < 2 ^ 31 by omega) dL_law_313 ?_
          refine lv_aload_n hx hb dL_law_314 rfl (lv_at hl 1 rfl) ?_
          refine lv_iload_n hx hb dL_law_315 rfl (lv_at hl 0 rfl) ?_
          refine lv_iconst (v := 2) hx hb dL_law_316 (by decide) ?_
          refine lv_iadd hx hb dL_law_317 ?_
          refine r_sld hx hb hX hbl hbA hw (j + 2) (nI_add _ 2) (show j + 2 < L by omega) (show L < 2 ^ 31 by omega) dL_law_318 ?_
          refine k_i hw (va_runV (As := [.int (xs (j + 1)), .int (xs (j + 2))]) (rest := [.int ((oc_act S (xs (j + 1)) (xs (j + 2)) 0).1)]) ⟨hx, hb, hml, hown, hts⟩ (c_X2_move l G f' wa' (oc_act S (xs (j + 1)) (xs (j + 2)) 0).2 M hRel.invM (xs (j + 1)) (xs (j + 2))) (cwV 2 hts gL_law_X2_move rfl rfl rfl (by decide +kernel) ⟨Nat.le_of_ble_eq_true rfl, Nat.le_of_ble_eq_true rfl⟩) (hw.preM _) rfl rfl hl.1 rfl (lv_room (Nat.le_of_ble_eq_true rfl)) dL_law_319 ⟨(show _ ≤ 600000 by omega), (show _ ≤ 7302250 by omega)⟩) (fun r u H locs hR hw => ?_)
          obtain ⟨hq, rfl⟩ := hR
          obtain rfl := hq.symm
          have hOk := q_move hRel (fun i hi hm => hWei.le hi hm) (xs (j + 1)) (xs (j + 2))
          have hWe := v_move hRel hWei (xs (j + 1)) (xs (j + 2))
          refine lv_icmp_eq (tgt := 608) hx hb dL_law_322 (by decide) (fun c_322 => ?_) (fun c_322 => ?_)
          · skip
            refine lv_iinc (v := nI (j + 4)) (lv' := [(3, .int (nI (j + 4))), (0, .ref b), (1, .ref (gx G)), (2, .ref (gm G))]) hx hb dL_law_608 hl (k := 0) rfl (nI_add _ 4) (by decide) rfl (fun ls hl => ?_)
            refine lv_goto (tgt := 18) hx hb dL_law_611 (by decide) ?_
            exact ih (t + 1) (j + 4) ((oc_act S (xs (j + 1)) (xs (j + 2)) 0).2) ((om_move M (xs (j + 1)) (xs (j + 2))).2) f' wa' _ _ _ _ ls ⟨by omega, by omega, by omega, (by omega), (by omega), hOk.2, hWe⟩ hw (lv_sub hl [0, 1, 2, 3] rfl)
          · skip
            exact absurd hOk.1 c_322
        · skip
          refine lv_tableIn (tgt := 327) (off := 295) hx hb dL_law_32 (by decide) (by decide) rfl (by decide) ?_
          refine lv_aload_n hx hb dL_law_327 rfl (lv_at hl 2 rfl) ?_
          refine lv_aload_n hx hb dL_law_328 rfl (lv_at hl 1 rfl) ?_
          refine lv_iload_n hx hb dL_law_329 rfl (lv_at hl 0 rfl) ?_
          refine lv_iconst (v := 1) hx hb dL_law_330 (by decide) ?_
          refine lv_iadd hx hb dL_law_331 ?_
          refine r_sld hx hb hX hbl hbA hw (j + 1) (nI_1 _) (show j + 1 < L by omega) (show L < 2 ^ 31 by omega) dL_law_332 ?_
          refine lv_aload_n hx hb dL_law_333 rfl (lv_at hl 1 rfl) ?_
          refine lv_iload_n hx hb dL_law_334 rfl (lv_at hl 0 rfl) ?_
          refine lv_iconst (v := 2) hx hb dL_law_335 (by decide) ?_
          refine lv_iadd hx hb dL_law_336 ?_
          refine r_sld hx hb hX hbl hbA hw (j + 2) (nI_add _ 2) (show j + 2 < L by omega) (show L < 2 ^ 31 by omega) dL_law_337 ?_
          refine k_i hw (va_runV (As := [.int (xs (j + 1)), .int (xs (j + 2))]) (rest := []) ⟨hx, hb, hml, hown, hts⟩ (c_X1_swap l G f wa S M hRel.inv (xs (j + 1)) (xs (j + 2))) (cwV 2 hts gL_law_X1_swap rfl rfl rfl (by decide +kernel) ⟨Nat.le_of_ble_eq_true rfl, Nat.le_of_ble_eq_true rfl⟩) (hw.preX _) rfl rfl hl.1 rfl (lv_room (Nat.le_of_ble_eq_true rfl)) dL_law_338 ⟨(show _ ≤ 600000 by omega), (show _ ≤ 7302250 by omega)⟩) (fun r u H locs hR hw => ?_)
          obtain ⟨hq, f', wa', rfl⟩ := hR
          obtain rfl := hq.symm
          refine lv_aload_n hx hb dL_law_341 rfl (lv_at hl 3 rfl) ?_
          refine lv_aload_n hx hb dL_law_342 rfl (lv_at hl 1 rfl) ?_
          refine lv_iload_n hx hb dL_law_343 rfl (lv_at hl 0 rfl) ?_
          refine lv_iconst (v := 1) hx hb dL_law_344 (by decide) ?_
          refine lv_iadd hx hb dL_law_345 ?_
          refine r_sld hx hb hX hbl hbA hw (j + 1) (nI_1 _) (show j + 1 < L by omega) (show L < 2 ^ 31 by omega) dL_law_346 ?_
          refine lv_aload_n hx hb dL_law_347 rfl (lv_at hl 1 rfl) ?_
          refine lv_iload_n hx hb dL_law_348 rfl (lv_at hl 0 rfl) ?_
          refine lv_iconst (v := 2) hx hb dL_law_349 (by decide) ?_
          refine lv_iadd hx hb dL_law_350 ?_
          refine r_sld hx hb hX hbl hbA hw (j + 2) (nI_add _ 2) (show j + 2 < L by omega) (show L < 2 ^ 31 by omega) dL_law_351 ?_
          refine k_i hw (va_runV (As := [.int (xs (j + 1)), .int (xs (j + 2))]) (rest := [.int ((oc_act S (xs (j + 1)) (xs (j + 2)) 1).1)]) ⟨hx, hb, hml, hown, hts⟩ (c_X2_swap l G f' wa' (oc_act S (xs (j + 1)) (xs (j + 2)) 1).2 M hRel.invM (xs (j + 1)) (xs (j + 2))) (cwV 2 hts gL_law_X2_swap rfl rfl rfl (by decide +kernel) ⟨Nat.le_of_ble_eq_true rfl, Nat.le_of_ble_eq_true rfl⟩) (hw.preM _) rfl rfl hl.1 rfl (lv_room (Nat.le_of_ble_eq_true rfl)) dL_law_352 ⟨(show _ ≤ 600000 by omega), (show _ ≤ 7302250 by omega)⟩) (fun r u H locs hR hw => ?_)
          obtain ⟨hq, rfl⟩ := hR
          obtain rfl := hq.symm
          have hOk := q_swap hRel (xs (j + 1)) (xs (j + 2))
          have hWe := v_swap hWei (xs (j + 1)) (xs (j + 2))
          refine lv_icmp_eq (tgt := 608) hx hb dL_law_355 (by decide) (fun c_355 => ?_) (fun c_355 => ?_)
          · skip
            refine lv_iinc (v := nI (j + 4)) (lv' := [(3, .int (nI (j + 4))), (0, .ref b), (1, .ref (gx G)), (2, .ref (gm G))]) hx hb dL_law_608 hl (k := 0) rfl (nI_add _ 4) (by decide) rfl (fun ls hl => ?_)
            refine lv_goto (tgt := 18) hx hb dL_law_611 (by decide) ?_
            exact ih (t + 1) (j + 4) ((oc_act S (xs (j + 1)) (xs (j + 2)) 1).2) ((om_swap M (xs (j + 1)) (xs (j + 2))).2) f' wa' _ _ _ _ ls ⟨by omega, by omega, by omega, (by omega), (by omega), hOk.2, hWe⟩ hw (lv_sub hl [0, 1, 2, 3] rfl)
          · skip
            exact absurd hOk.1 c_355
        · skip
          refine lv_tableIn (tgt := 360) (off := 328) hx hb dL_law_32 (by decide) (by decide) rfl (by decide) ?_
          refine lv_aload_n hx hb dL_law_360 rfl (lv_at hl 2 rfl) ?_
          refine lv_aload_n hx hb dL_law_361 rfl (lv_at hl 1 rfl) ?_
          refine lv_iload_n hx hb dL_law_362 rfl (lv_at hl 0 rfl) ?_
          refine lv_iconst (v := 1) hx hb dL_law_363 (by decide) ?_
          refine lv_iadd hx hb dL_law_364 ?_
          refine r_sld hx hb hX hbl hbA hw (j + 1) (nI_1 _) (show j + 1 < L by omega) (show L < 2 ^ 31 by omega) dL_law_365 ?_
          refine k_i hw (va_runV (As := [.int (xs (j + 1))]) (rest := []) ⟨hx, hb, hml, hown, hts⟩ (c_X1_find l G f wa S M hRel.inv (xs (j + 1))) (cwV 1 hts gL_law_X1_find rfl rfl rfl (by decide +kernel) ⟨Nat.le_of_ble_eq_true rfl, Nat.le_of_ble_eq_true rfl⟩) (hw.preX _) rfl rfl hl.1 rfl (lv_room (Nat.le_of_ble_eq_true rfl)) dL_law_366 ⟨(show _ ≤ 600000 by omega), (show _ ≤ 7302250 by omega)⟩) (fun r u H locs hR hw => ?_)
          obtain ⟨hq, f', wa', rfl⟩ := hR
          obtain rfl := hq.symm
          refine lv_aload_n hx hb dL_law_369 rfl (lv_at hl 3 rfl) ?_
          refine lv_aload_n hx hb dL_law_370 rfl (lv_at hl 1 rfl) ?_
          refine lv_iload_n hx hb dL_law_371 rfl (lv_at hl 0 rfl) ?_
          refine lv_iconst (v := 1) hx hb dL_law_372 (by decide) ?_
          refine lv_iadd hx hb dL_law_373 ?_
          refine r_sld hx hb hX hbl hbA hw (j + 1) (nI_1 _) (show j + 1 < L by omega) (show L < 2 ^ 31 by omega) dL_law_374 ?_
          refine k_i hw (va_runV (As := [.int (xs (j + 1))]) (rest := [.int ((oc_find S (xs (j + 1))).1)]) ⟨hx, hb, hml, hown, hts⟩ (c_X2_find l G f' wa' (oc_find S (xs (j + 1))).2 M hRel.invM (xs (j + 1))) (cwV 1 hts gL_law_X2_find rfl rfl rfl (by decide +kernel) ⟨Nat.le_of_ble_eq_true rfl, Nat.le_of_ble_eq_true rfl⟩) (hw.preM _) rfl rfl hl.1 rfl (lv_room (Nat.le_of_ble_eq_true rfl)) dL_law_375 ⟨(show _ ≤ 600000 by omega), (show _ ≤ 7302250 by omega)⟩) (fun r u H locs hR hw => ?_)
          obtain ⟨hq, rfl⟩ := hR
          obtain rfl := hq.symm
          have hOk := q_find hRel (xs (j + 1))
          have hWe := v_find hWei (xs (j + 1))
          refine lv_icmp_eq (tgt := 608) hx hb dL_law_378 (by decide) (fun c_378 => ?_) (fun c_378 => ?_)
          · skip
            refine lv_iinc (v := nI (j + 4)) (lv' := [(3, .int (nI (j + 4))), (0, .ref b), (1, .ref (gx G)), (2, .ref (gm G))]) hx hb dL_law_608 hl (k := 0) rfl (nI_add _ 4) (by decide) rfl (fun ls hl => ?_)
            refine lv_goto (tgt := 18) hx hb dL_law_611 (by decide) ?_
            exact ih (t + 1) (j + 4) ((oc_find S (xs (j + 1))).2) ((om_find M (xs (j + 1))).2) f' wa' _ _ _ _ ls ⟨by omega, by omega, by omega, (by omega), (by omega), hOk.2, hWe⟩ hw (lv_sub hl [0, 1, 2, 3] rfl)
          · skip
            exact absurd hOk.1 c_378
        · skip
          refine lv_tableIn (tgt := 383) (off := 351) hx hb dL_law_32 (by decide) (by decide) rfl (by decide) ?_
          refine lv_aload_n hx hb dL_law_383 rfl (lv_at hl 2 rfl) ?_
          refine lv_aload_n hx hb dL_law_384 rfl (lv_at hl 1 rfl) ?_
          refine lv_iload_n hx hb dL_law_385 rfl (lv_at hl 0 rfl) ?_
          refine lv_iconst (v := 1) hx hb dL_law_386 (by decide) ?_
          refine lv_iadd hx hb dL_law_387 ?_
          refine r_sld hx hb hX hbl hbA hw (j + 1) (nI_1 _) (show j + 1 < L by omega) (show L < 2 ^ 31 by omega) dL_law_388 ?_
          refine lv_aload_n hx hb dL_law_389 rfl (lv_at hl 1 rfl) ?_
          refine lv_iload_n hx hb dL_law_390 rfl (lv_at hl 0 rfl) ?_
          refine lv_iconst (v := 2) hx hb dL_law_391 (by decide) ?_
          refine lv_iadd hx hb dL_law_392 ?_
          refine r_sld hx hb hX hbl hbA hw (j + 2) (nI_add _ 2) (show j + 2 < L by omega) (show L < 2 ^ 31 by omega) dL_law_393 ?_
          refine k_i hw (va_runV (As := [.int (xs (j + 1)), .int (xs (j + 2))]) (rest := []) ⟨hx, hb, hml, hown, hts⟩ (c_X1_weigh l G f wa S M hRel.inv (xs (j + 1)) (xs (j + 2))) (cwV 2 hts gL_law_X1_weigh rfl rfl rfl (by decide +kernel) ⟨Nat.le_of_ble_eq_true rfl, Nat.le_of_ble_eq_true rfl⟩) (hw.preX _) rfl rfl hl.1 rfl (lv_room (Nat.le_of_ble_eq_true rfl)) dL_law_394 ⟨(show _ ≤ 600000 by omega), (show _ ≤ 7302250 by omega)⟩) (fun r u H locs hR hw => ?_)
          obtain ⟨hq, f', wa', rfl⟩ := hR
          obtain rfl := hq.symm
          refine lv_aload_n hx hb dL_law_397 rfl (lv_at hl 3 rfl) ?_
          refine lv_aload_n hx hb dL_law_398 rfl (lv_at hl 1 rfl) ?_
          refine lv_iload_n hx hb dL_law_399 rfl (lv_at hl 0 rfl) ?_
          refine lv_iconst (v := 1) hx hb dL_law_400 (by decide) ?_
          refine lv_iadd hx hb dL_law_401 ?_
          refine r_sld hx hb hX hbl hbA hw (j + 1) (nI_1 _) (show j + 1 < L by omega) (show L < 2 ^ 31 by omega) dL_law_402 ?_
          refine lv_aload_n hx hb dL_law_403 rfl (lv_at hl 1 rfl) ?_
          refine lv_iload_n hx hb dL_law_404 rfl (lv_at hl 0 rfl) ?_
          refine lv_iconst (v := 2) hx hb dL_law_405 (by decide) ?_
          refine lv_iadd hx hb dL_law_406 ?_
          refine r_sld hx hb hX hbl hbA hw (j + 2) (nI_add _ 2) (show j + 2 < L by omega) (show L < 2 ^ 31 by omega) dL_law_407 ?_
          refine k_i hw (va_runV (As := [.int (xs (j + 1)), .int (xs (j + 2))]) (rest := [.int ((oc_weigh S (xs (j + 1)) (xs (j + 2))).1)]) ⟨hx, hb, hml, hown, hts⟩ (c_X2_weigh l G f' wa' (oc_weigh S (xs (j + 1)) (xs (j + 2))).2 M hRel.invM (xs (j + 1)) (xs (j + 2))) (cwV 2 hts gL_law_X2_weigh rfl rfl rfl (by decide +kernel) ⟨Nat.le_of_ble_eq_true rfl, Nat.le_of_ble_eq_true rfl⟩) (hw.preM _) rfl rfl hl.1 rfl (lv_room (Nat.le_of_ble_eq_true rfl)) dL_law_408 ⟨(show _ ≤ 600000 by omega), (show _ ≤ 7302250 by omega)⟩) (fun r u H locs hR hw => ?_)
          obtain ⟨hq, rfl⟩ := hR
          obtain rfl := hq.symm
          have hOk := q_weigh hRel (xs (j + 1)) (xs (j + 2))
          have hWe := v_weigh hWei (xs (j + 1)) (xs (j + 2))
          refine lv_icmp_eq (tgt := 608) hx hb dL_law_411 (by decide) (fun c_411 => ?_) (fun c_411 => ?_)
          · skip
            refine lv_iinc (v := nI (j + 4)) (lv' := [(3, .int (nI (j + 4))), (0, .ref b), (1, .ref (gx G)), (2, .ref (gm G))]) hx hb dL_law_608 hl (k := 0) rfl (nI_add _ 4) (by decide) rfl (fun ls hl => ?_)
            refine lv_goto (tgt := 18) hx hb dL_law_611 (by decide) ?_
            exact ih (t + 1) (j + 4) ((oc_weigh S (xs (j + 1)) (xs (j + 2))).2) ((om_weigh M (xs (j + 1)) (xs (j + 2))).2) f' wa' _ _ _ _ ls ⟨by omega, by omega, by omega, (by omega), (by omega), hOk.2, hWe⟩ hw (lv_sub hl [0, 1, 2, 3] rfl)
          · skip
            exact absurd hOk.1 c_411
        · skip
          refine lv_tableIn (tgt := 416) (off := 384) hx hb dL_law_32 (by decide) (by decide) rfl (by decide) ?_
          refine lv_aload_n hx hb dL_law_416 rfl (lv_at hl 2 rfl) ?_
          refine lv_aload_n hx hb dL_law_417 rfl (lv_at hl 1 rfl) ?_
          refine lv_iload_n hx hb dL_law_418 rfl (lv_at hl 0 rfl) ?_
          refine lv_iconst (v := 1) hx hb dL_law_419 (by decide) ?_
          refine lv_iadd hx hb dL_law_420 ?_
          refine r_sld hx hb hX hbl hbA hw (j + 1) (nI_1 _) (show j + 1 < L by omega) (show L < 2 ^ 31 by omega) dL_law_421 ?_
          refine lv_aload_n hx hb dL_law_422 rfl (lv_at hl 1 rfl) ?_
          refine lv_iload_n hx hb dL_law_423 rfl (lv_at hl 0 rfl) ?_
          refine lv_iconst (v := 2) hx hb dL_law_424 (by decide) ?_
          refine lv_iadd hx hb dL_law_425 ?_
          refine r_sld hx hb hX hbl hbA hw (j + 2) (nI_add _ 2) (show j + 2 < L by omega) (show L < 2 ^ 31 by omega) dL_law_426 ?_
          refine lv_aload_n hx hb dL_law_427 rfl (lv_at hl 1 rfl) ?_
          refine lv_iload_n hx hb dL_law_428 rfl (lv_at hl 0 rfl) ?_
          refine lv_iconst (v := 3) hx hb dL_law_429 (by decide) ?_
          refine lv_iadd hx hb dL_law_430 ?_
          refine r_sld hx hb hX hbl hbA hw (j + 3) (nI_add _ 3) (show j + 3 < L by omega) (show L < 2 ^ 31 by omega) dL_law_431 ?_
          refine k_i hw (va_runV (As := [.int (xs (j + 1)), .int (xs (j + 2)), .int (xs (j + 3))]) (rest := []) ⟨hx, hb, hml, hown, hts⟩ (c_X1_drop l G f wa S M hRel.inv (xs (j + 1)) (xs (j + 2)) (xs (j + 3))) (cwV 3 hts gL_law_X1_drop rfl rfl rfl (by decide +kernel) ⟨Nat.le_of_ble_eq_true rfl, Nat.le_of_ble_eq_true rfl⟩) (hw.preX _) rfl rfl hl.1 rfl (lv_room (Nat.le_of_ble_eq_true rfl)) dL_law_432 ⟨(show _ ≤ 600000 by omega), (show _ ≤ 7302250 by omega)⟩) (fun r u H locs hR hw => ?_)
          obtain ⟨hq, f', wa', rfl⟩ := hR
          obtain rfl := hq.symm
          refine lv_aload_n hx hb dL_law_435 rfl (lv_at hl 3 rfl) ?_
          refine lv_aload_n hx hb dL_law_436 rfl (lv_at hl 1 rfl) ?_
          refine lv_iload_n hx hb dL_law_437 rfl (lv_at hl 0 rfl) ?_
          refine lv_iconst (v := 1) hx hb dL_law_438 (by decide) ?_
          refine lv_iadd hx hb dL_law_439 ?_
          refine r_sld hx hb hX hbl hbA hw (j + 1) (nI_1 _) (show j + 1 < L by omega) (show L < 2 ^ 31 by omega) dL_law_440 ?_
          refine lv_aload_n hx hb dL_law_441 rfl (lv_at hl 1 rfl) ?_
          refine lv_iload_n hx hb dL_law_442 rfl (lv_at hl 0 rfl) ?_
          refine lv_iconst (v := 2) hx hb dL_law_443 (by decide) ?_
          refine lv_iadd hx hb dL_law_444 ?_
          refine r_sld hx hb hX hbl hbA hw (j + 2) (nI_add _ 2) (show j + 2 < L by omega) (show L < 2 ^ 31 by omega) dL_law_445 ?_
          refine lv_aload_n hx hb dL_law_446 rfl (lv_at hl 1 rfl) ?_
          refine lv_iload_n hx hb dL_law_447 rfl (lv_at hl 0 rfl) ?_
          refine lv_iconst (v := 3) hx hb dL_law_448 (by decide) ?_
          refine lv_iadd hx hb dL_law_449 ?_
          refine r_sld hx hb hX hbl hbA hw (j + 3) (nI_add _ 3) (show j + 3 < L by omega) (show L < 2 ^ 31 by omega) dL_law_450 ?_
          refine k_i hw (va_runV (As := [.int (xs (j + 1)), .int (xs (j + 2)), .int (xs (j + 3))]) (rest := [.int ((oc_drop S (xs (j + 1)) (xs (j + 2)) (xs (j + 3))).1)]) ⟨hx, hb, hml, hown, hts⟩ (c_X2_drop l G f' wa' (oc_drop S (xs (j + 1)) (xs (j + 2)) (xs (j + 3))).2 M hRel.invM (xs (j + 1)) (xs (j + 2)) (xs (j + 3))) (cwV 3 hts gL_law_X2_drop rfl rfl rfl (by decide +kernel) ⟨Nat.le_of_ble_eq_true rfl, Nat.le_of_ble_eq_true rfl⟩) (hw.preM _) rfl rfl hl.1 rfl (lv_room (Nat.le_of_ble_eq_true rfl)) dL_law_451 ⟨(show _ ≤ 600000 by omega), (show _ ≤ 7302250 by omega)⟩) (fun r u H locs hR hw => ?_)
          obtain ⟨hq, rfl⟩ := hR
          obtain rfl := hq.symm
          have hOk := q_drop hRel (xs (j + 1)) (xs (j + 2)) (xs (j + 3))
          have hWe := v_drop hRel hWei (xs (j + 1)) (xs (j + 2)) (xs (j + 3))
          refine lv_icmp_eq (tgt := 608) hx hb dL_law_454 (by decide) (fun c_454 => ?_) (fun c_454 => ?_)
          · skip
            refine lv_iinc (v := nI (j + 4)) (lv' := [(3, .int (nI (j + 4))), (0, .ref b), (1, .ref (gx G)), (2, .ref (gm G))]) hx hb dL_law_608 hl (k := 0) rfl (nI_add _ 4) (by decide) rfl (fun ls hl => ?_)
            refine lv_goto (tgt := 18) hx hb dL_law_611 (by decide) ?_
            exact ih (t + 1) (j + 4) ((oc_drop S (xs (j + 1)) (xs (j + 2)) (xs (j + 3))).2) ((om_drop M (xs (j + 1)) (xs (j + 2)) (xs (j + 3))).2) f' wa' _ _ _ _ ls ⟨by omega, by omega, by omega, (by omega), (by omega), hOk.2, hWe⟩ hw (lv_sub hl [0, 1, 2, 3] rfl)
          · skip
            exact absurd hOk.1 c_454
        · skip
          refine lv_tableIn (tgt := 459) (off := 427) hx hb dL_law_32 (by decide) (by decide) rfl (by decide) ?_
          refine lv_aload_n hx hb dL_law_459 rfl (lv_at hl 2 rfl) ?_
          refine k_l hw (va_runV (As := []) (rest := []) ⟨hx, hb, hml, hown, hts⟩ (c_X1_tally l G f wa S M hRel.inv ) (cwV 0 hts gL_law_X1_tally rfl rfl rfl (by decide +kernel) ⟨Nat.le_of_ble_eq_true rfl, Nat.le_of_ble_eq_true rfl⟩) (hw.preX _) rfl rfl hl.1 rfl (lv_room (Nat.le_of_ble_eq_true rfl)) dL_law_460 ⟨(show _ ≤ 600000 by omega), (show _ ≤ 7302250 by omega)⟩) (fun r u H locs hR hw => ?_)
          obtain ⟨hq, f', wa', rfl⟩ := hR
          obtain rfl := hq.symm
          refine lv_aload_n hx hb dL_law_463 rfl (lv_at hl 3 rfl) ?_
          refine k_l hw (va_runV (As := []) (rest := [.long ((oc_tally S).1)]) ⟨hx, hb, hml, hown, hts⟩ (c_X2_tally l G f' wa' (oc_tally S).2 M hRel.invM ) (cwV 0 hts gL_law_X2_tally rfl rfl rfl (by decide +kernel) ⟨Nat.le_of_ble_eq_true rfl, Nat.le_of_ble_eq_true rfl⟩) (hw.preM _) rfl rfl hl.1 rfl (lv_room (Nat.le_of_ble_eq_true rfl)) dL_law_464 ⟨(show _ ≤ 600000 by omega), (show _ ≤ 7302250 by omega)⟩) (fun r u H locs hR hw => ?_)
          obtain ⟨hq, rfl⟩ := hR
          obtain rfl := hq.symm
          have hOk := q_tally hRel
          have hWe := v_tally hWei
          refine W.lcmp hx hb dL_law_467 ?_
          refine lv_if_eq (tgt := 608) hx hb dL_law_468 (by decide) (fun c_468 => ?_) (fun c_468 => ?_)
          · skip
            refine lv_iinc (v := nI (j + 4)) (lv' := [(3, .int (nI (j + 4))), (0, .ref b), (1, .ref (gx G)), (2, .ref (gm G))]) hx hb dL_law_608 hl (k := 0) rfl (nI_add _ 4) (by decide) rfl (fun ls hl => ?_)
            refine lv_goto (tgt := 18) hx hb dL_law_611 (by decide) ?_
            exact ih (t + 1) (j + 4) ((oc_tally S).2) ((om_tally M).2) f' wa' _ _ _ _ ls ⟨by omega, by omega, by omega, (by omega), (by omega), hOk.2, hWe⟩ hw (lv_sub hl [0, 1, 2, 3] rfl)
          · skip
            exact absurd (lcmp_eq hOk.1) c_468
        · skip
          refine lv_tableIn (tgt := 473) (off := 441) hx hb dL_law_32 (by decide) (by decide) rfl (by decide) ?_
          refine lv_aload_n hx hb dL_law_473 rfl (lv_at hl 2 rfl) ?_
          refine lv_aload_n hx hb dL_law_474 rfl (lv_at hl 1 rfl) ?_
          refine lv_iload_n hx hb dL_law_475 rfl (lv_at hl 0 rfl) ?_
          refine lv_iconst (v := 1) hx hb dL_law_476 (by decide) ?_
          refine lv_iadd hx hb dL_law_477 ?_
          refine r_sld hx hb hX hbl hbA hw (j + 1) (nI_1 _) (show j + 1 < L by omega) (show L < 2 ^ 31 by omega) dL_law_478 ?_
          refine k_i hw (va_runV (As := [.int (xs (j + 1))]) (rest := []) ⟨hx, hb, hml, hown, hts⟩ (c_X1_first l G f wa S M hRel.inv (xs (j + 1))) (cwV 1 hts gL_law_X1_first rfl rfl rfl (by decide +kernel) ⟨Nat.le_of_ble_eq_true rfl, Nat.le_of_ble_eq_true rfl⟩) (hw.preX _) rfl rfl hl.1 rfl (lv_room (Nat.le_of_ble_eq_true rfl)) dL_law_479 ⟨(show _ ≤ 600000 by omega), (show _ ≤ 7302250 by omega)⟩) (fun r u H locs hR hw => ?_)
          obtain ⟨hq, f', wa', rfl⟩ := hR
          obtain rfl := hq.symm
          refine lv_aload_n hx hb dL_law_482 rfl (lv_at hl 3 rfl) ?_
          refine lv_aload_n hx hb dL_law_483 rfl (lv_at hl 1 rfl) ?_
          refine lv_iload_n hx hb dL_law_484 rfl (lv_at hl 0 rfl) ?_
          refine lv_iconst (v := 1) hx hb dL_law_485 (by decide) ?_
          refine lv_iadd hx hb dL_law_486 ?_
          refine r_sld hx hb hX hbl hbA hw (j + 1) (nI_1 _) (show j + 1 < L by omega) (show L < 2 ^ 31 by omega) dL_law_487 ?_
          refine k_i hw (va_runV (As := [.int (xs (j + 1))]) (rest := [.int ((oc_first S (xs (j + 1))).1)]) ⟨hx, hb, hml, hown, hts⟩ (c_X2_first l G f' wa' (oc_first S (xs (j + 1))).2 M hRel.invM (xs (j + 1))) (cwV 1 hts gL_law_X2_first rfl rfl rfl (by decide +kernel) ⟨Nat.le_of_ble_eq_true rfl, Nat.le_of_ble_eq_true rfl⟩) (hw.preM _) rfl rfl hl.1 rfl (lv_room (Nat.le_of_ble_eq_true rfl)) dL_law_488 ⟨(show _ ≤ 600000 by omega), (show _ ≤ 7302250 by omega)⟩) (fun r u H locs hR hw => ?_)
          obtain ⟨hq, rfl⟩ := hR
          obtain rfl := hq.symm
          have hOk := q_first hRel (xs (j + 1))
          have hWe := v_first hWei (xs (j + 1))
          refine lv_icmp_eq (tgt := 608) hx hb dL_law_491 (by decide) (fun c_491 => ?_) (fun c_491 => ?_)
          · skip
            refine lv_iinc (v := nI (j + 4)) (lv' := [(3, .int (nI (j + 4))), (0, .ref b), (1, .ref (gx G)), (2, .ref (gm G))]) hx hb dL_law_608 hl (k := 0) rfl (nI_add _ 4) (by decide) rfl (fun ls hl => ?_)
            refine lv_goto (tgt := 18) hx hb dL_law_611 (by decide) ?_
            exact ih (t + 1) (j + 4) ((oc_first S (xs (j + 1))).2) ((om_first M (xs (j + 1))).2) f' wa' _ _ _ _ ls ⟨by omega, by omega, by omega, (by omega), (by omega), hOk.2, hWe⟩ hw (lv_sub hl [0, 1, 2, 3] rfl)
          · skip
            exact absurd hOk.1 c_491
        · skip
          refine lv_tableIn (tgt := 496) (off := 464) hx hb dL_law_32 (by decide) (by decide) rfl (by decide) ?_
          refine lv_aload_n hx hb dL_law_496 rfl (lv_at hl 2 rfl) ?_
          refine lv_aload_n hx hb dL_law_497 rfl (lv_at hl 1 rfl) ?_
          refine lv_iload_n hx hb dL_law_498 rfl (lv_at hl 0 rfl) ?_
          refine lv_iconst (v := 1) hx hb dL_law_499 (by decide) ?_
          refine lv_iadd hx hb dL_law_500 ?_
          refine r_sld hx hb hX hbl hbA hw (j + 1) (nI_1 _) (show j + 1 < L by omega) (show L < 2 ^ 31 by omega) dL_law_501 ?_
          refine lv_aload_n hx hb dL_law_502 rfl (lv_at hl 1 rfl) ?_
          refine lv_iload_n hx hb dL_law_503 rfl (lv_at hl 0 rfl) ?_
          refine lv_iconst (v := 2) hx hb dL_law_504 (by decide) ?_
          refine lv_iadd hx hb dL_law_505 ?_
          refine r_sld hx hb hX hbl hbA hw (j + 2) (nI_add _ 2) (show j + 2 < L by omega) (show L < 2 ^ 31 by omega) dL_law_506 ?_
          refine k_i hw (va_runV (As := [.int (xs (j + 1)), .int (xs (j + 2))]) (rest := []) ⟨hx, hb, hml, hown, hts⟩ (c_X1_recode l G f wa S M (xs (j + 1)) (xs (j + 2))) (cwV 2 hts gL_law_X1_recode rfl rfl rfl (by decide +kernel) ⟨Nat.le_of_ble_eq_true rfl, Nat.le_of_ble_eq_true rfl⟩) (hw.preX _) rfl rfl hl.1 rfl (lv_room (Nat.le_of_ble_eq_true rfl)) dL_law_507 ⟨(show _ ≤ 600000 by omega), (show _ ≤ 7302250 by omega)⟩) (fun r u H locs hR hw => ?_)
          obtain ⟨hq, f', wa', rfl⟩ := hR
          obtain rfl := hq.symm
          refine lv_aload_n hx hb dL_law_510 rfl (lv_at hl 3 rfl) ?_
          refine lv_aload_n hx hb dL_law_511 rfl (lv_at hl 1 rfl) ?_
          refine lv_iload_n hx hb dL_law_512 rfl (lv_at hl 0 rfl) ?_
          refine lv_iconst (v := 1) hx hb dL_law_513 (by decide) ?_
          refine lv_iadd hx hb dL_law_514 ?_
          refine r_sld hx hb hX hbl hbA hw (j + 1) (nI_1 _) (show j + 1 < L by omega) (show L < 2 ^ 31 by omega) dL_law_515 ?_
          refine lv_aload_n hx hb dL_law_516 rfl (lv_at hl 1 rfl) ?_
          refine lv_iload_n hx hb dL_law_517 rfl (lv_at hl 0 rfl) ?_
          refine lv_iconst (v := 2) hx hb dL_law_518 (by decide) ?_
          refine lv_iadd hx hb dL_law_519 ?_
          refine r_sld hx hb hX hbl hbA hw (j + 2) (nI_add _ 2) (show j + 2 < L by omega) (show L < 2 ^ 31 by omega) dL_law_520 ?_
          refine k_i hw (va_runV (As := [.int (xs (j + 1)), .int (xs (j + 2))]) (rest := [.int ((oc_recode S (xs (j + 1)) (xs (j + 2))).1)]) ⟨hx, hb, hml, hown, hts⟩ (c_X2_recode l G f' wa' (oc_recode S (xs (j + 1)) (xs (j + 2))).2 M (xs (j + 1)) (xs (j + 2))) (cwV 2 hts gL_law_X2_recode rfl rfl rfl (by decide +kernel) ⟨Nat.le_of_ble_eq_true rfl, Nat.le_of_ble_eq_true rfl⟩) (hw.preM _) rfl rfl hl.1 rfl (lv_room (Nat.le_of_ble_eq_true rfl)) dL_law_521 ⟨(show _ ≤ 600000 by omega), (show _ ≤ 7302250 by omega)⟩) (fun r u H locs hR hw => ?_)
          obtain ⟨hq, rfl⟩ := hR
          obtain rfl := hq.symm
          have hOk := q_recode hRel (xs (j + 1)) (xs (j + 2))
          have hWe := v_recode hWei (xs (j + 1)) (xs (j + 2))
          refine lv_icmp_eq (tgt := 608) hx hb dL_law_524 (by decide) (fun c_524 => ?_) (fun c_524 => ?_)
          · skip
            refine lv_iinc (v := nI (j + 4)) (lv' := [(3, .int (nI (j + 4))), (0, .ref b), (1, .ref (gx G)), (2, .ref (gm G))]) hx hb dL_law_608 hl (k := 0) rfl (nI_add _ 4) (by decide) rfl (fun ls hl => ?_)
            refine lv_goto (tgt := 18) hx hb dL_law_611 (by decide) ?_
            exact ih (t + 1) (j + 4) ((oc_recode S (xs (j + 1)) (xs (j + 2))).2) ((om_recode M (xs (j + 1)) (xs (j + 2))).2) f' wa' _ _ _ _ ls ⟨by omega, by omega, by omega, (by omega), (by omega), hOk.2, hWe⟩ hw (lv_sub hl [0, 1, 2, 3] rfl)
          · skip
            exact absurd hOk.1 c_524
        · skip
          refine lv_tableIn (tgt := 529) (off := 497) hx hb dL_law_32 (by decide) (by decide) rfl (by decide) ?_
          refine lv_aload_n hx hb dL_law_529 rfl (lv_at hl 2 rfl) ?_
          refine lv_aload_n hx hb dL_law_530 rfl (lv_at hl 1 rfl) ?_
          refine lv_iload_n hx hb dL_law_531 rfl (lv_at hl 0 rfl) ?_
          refine lv_iconst (v := 1) hx hb dL_law_532 (by decide) ?_
          refine lv_iadd hx hb dL_law_533 ?_
          refine r_sld hx hb hX hbl hbA hw (j + 1) (nI_1 _) (show j + 1 < L by omega) (show L < 2 ^ 31 by omega) dL_law_534 ?_
          refine lv_aload_n hx hb dL_law_535 rfl (lv_at hl 1 rfl) ?_
          refine lv_iload_n hx hb dL_law_536 rfl (lv_at hl 0 rfl) ?_
          refine lv_iconst (v := 2) hx hb dL_law_537 (by decide) ?_
          refine lv_iadd hx hb dL_law_538 ?_
          refine r_sld hx hb hX hbl hbA hw (j + 2) (nI_add _ 2) (show j + 2 < L by omega) (show L < 2 ^ 31 by omega) dL_law_539 ?_
          refine k_i hw (va_runV (As := [.int (xs (j + 1)), .int (xs (j + 2))]) (rest := []) ⟨hx, hb, hml, hown, hts⟩ (c_X1_told l G f wa S M hRel.inv (xs (j + 1)) (xs (j + 2))) (cwV 2 hts gL_law_X1_told rfl rfl rfl (by decide +kernel) ⟨Nat.le_of_ble_eq_true rfl, Nat.le_of_ble_eq_true rfl⟩) (hw.preX _) rfl rfl hl.1 rfl (lv_room (Nat.le_of_ble_eq_true rfl)) dL_law_540 ⟨(show _ ≤ 600000 by omega), (show _ ≤ 7302250 by omega)⟩) (fun r u H locs hR hw => ?_)
          obtain ⟨hq, f', wa', rfl⟩ := hR
          obtain rfl := hq.symm
          refine lv_aload_n hx hb dL_law_543 rfl (lv_at hl 3 rfl) ?_
          refine lv_aload_n hx hb dL_law_544 rfl (lv_at hl 1 rfl) ?_
          refine lv_iload_n hx hb dL_law_545 rfl (lv_at hl 0 rfl) ?_
          refine lv_iconst (v := 1) hx hb dL_law_546 (by decide) ?_
          refine lv_iadd hx hb dL_law_547 ?_
          refine r_sld hx hb hX hbl hbA hw (j + 1) (nI_1 _) (show j + 1 < L by omega) (show L < 2 ^ 31 by omega) dL_law_548 ?_
          refine lv_aload_n hx hb dL_law_549 rfl (lv_at hl 1 rfl) ?_
          refine lv_iload_n hx hb dL_law_550 rfl (lv_at hl 0 rfl) ?_
          refine lv_iconst (v := 2) hx hb dL_law_551 (by decide) ?_
          refine lv_iadd hx hb dL_law_552 ?_
          refine r_sld hx hb hX hbl hbA hw (j + 2) (nI_add _ 2) (show j + 2 < L by omega) (show L < 2 ^ 31 by omega) dL_law_553 ?_
          refine k_i hw (va_runV (As := [.int (xs (j + 1)), .int (xs (j + 2))]) (rest := [.int ((oc_told S (xs (j + 1)) (xs (j + 2))).1)]) ⟨hx, hb, hml, hown, hts⟩ (c_X2_told l G f' wa' (oc_told S (xs (j + 1)) (xs (j + 2))).2 M hRel.invM (xs (j + 1)) (xs (j + 2))) (cwV 2 hts gL_law_X2_told rfl rfl rfl (by decide +kernel) ⟨Nat.le_of_ble_eq_true rfl, Nat.le_of_ble_eq_true rfl⟩) (hw.preM _) rfl rfl hl.1 rfl (lv_room (Nat.le_of_ble_eq_true rfl)) dL_law_554 ⟨(show _ ≤ 600000 by omega), (show _ ≤ 7302250 by omega)⟩) (fun r u H locs hR hw => ?_)
          obtain ⟨hq, rfl⟩ := hR
          obtain rfl := hq.symm
          have hOk := q_told hRel (xs (j + 1)) (xs (j + 2))
          have hWe := v_told hWei (xs (j + 1)) (xs (j + 2))
          refine lv_icmp_eq (tgt := 608) hx hb dL_law_557 (by decide) (fun c_557 => ?_) (fun c_557 => ?_)
          · skip
            refine lv_iinc (v := nI (j + 4)) (lv' := [(3, .int (nI (j + 4))), (0, .ref b), (1, .ref (gx G)), (2, .ref (gm G))]) hx hb dL_law_608 hl (k := 0) rfl (nI_add _ 4) (by decide) rfl (fun ls hl => ?_)
            refine lv_goto (tgt := 18) hx hb dL_law_611 (by decide) ?_
            exact ih (t + 1) (j + 4) ((oc_told S (xs (j + 1)) (xs (j + 2))).2) ((om_told M (xs (j + 1)) (xs (j + 2))).2) f' wa' _ _ _ _ ls ⟨by omega, by omega, by omega, (by omega), (by omega), hOk.2, hWe⟩ hw (lv_sub hl [0, 1, 2, 3] rfl)
          · skip
            exact absurd hOk.1 c_557
        · skip
          refine lv_tableIn (tgt := 562) (off := 530) hx hb dL_law_32 (by decide) (by decide) rfl (by decide) ?_
          refine lv_aload_n hx hb dL_law_562 rfl (lv_at hl 2 rfl) ?_
          refine lv_aload_n hx hb dL_law_563 rfl (lv_at hl 1 rfl) ?_
          refine lv_iload_n hx hb dL_law_564 rfl (lv_at hl 0 rfl) ?_
          refine lv_iconst (v := 1) hx hb dL_law_565 (by decide) ?_
          refine lv_iadd hx hb dL_law_566 ?_
          refine r_sld hx hb hX hbl hbA hw (j + 1) (nI_1 _) (show j + 1 < L by omega) (show L < 2 ^ 31 by omega) dL_law_567 ?_
          refine lv_aload_n hx hb dL_law_568 rfl (lv_at hl 1 rfl) ?_
          refine lv_iload_n hx hb dL_law_569 rfl (lv_at hl 0 rfl) ?_
          refine lv_iconst (v := 2) hx hb dL_law_570 (by decide) ?_
          refine lv_iadd hx hb dL_law_571 ?_
          refine r_sld hx hb hX hbl hbA hw (j + 2) (nI_add _ 2) (show j + 2 < L by omega) (show L < 2 ^ 31 by omega) dL_law_572 ?_
          refine k_i hw (va_runV (As := [.int (xs (j + 1)), .int (xs (j + 2))]) (rest := []) ⟨hx, hb, hml, hown, hts⟩ (c_X1_item l G f wa S M hRel.inv (xs (j + 1)) (xs (j + 2))) (cwV 2 hts gL_law_X1_item rfl rfl rfl (by decide +kernel) ⟨Nat.le_of_ble_eq_true rfl, Nat.le_of_ble_eq_true rfl⟩) (hw.preX _) rfl rfl hl.1 rfl (lv_room (Nat.le_of_ble_eq_true rfl)) dL_law_573 ⟨(show _ ≤ 600000 by omega), (show _ ≤ 7302250 by omega)⟩) (fun r u H locs hR hw => ?_)
          obtain ⟨hq, f', wa', rfl⟩ := hR
          obtain rfl := hq.symm
          refine lv_aload_n hx hb dL_law_576 rfl (lv_at hl 3 rfl) ?_
          refine lv_aload_n hx hb dL_law_577 rfl (lv_at hl 1 rfl) ?_
          refine lv_iload_n hx hb dL_law_578 rfl (lv_at hl 0 rfl) ?_
          refine lv_iconst (v := 1) hx hb dL_law_579 (by decide) ?_
          refine lv_iadd hx hb dL_law_580 ?_
          refine r_sld hx hb hX hbl hbA hw (j + 1) (nI_1 _) (show j + 1 < L by omega) (show L < 2 ^ 31 by omega) dL_law_581 ?_
          refine lv_aload_n hx hb dL_law_582 rfl (lv_at hl 1 rfl) ?_
          refine lv_iload_n hx hb dL_law_583 rfl (lv_at hl 0 rfl) ?_
          refine lv_iconst (v := 2) hx hb dL_law_584 (by decide) ?_
          refine lv_iadd hx hb dL_law_585 ?_
          refine r_sld hx hb hX hbl hbA hw (j + 2) (nI_add _ 2) (show j + 2 < L by omega) (show L < 2 ^ 31 by omega) dL_law_586 ?_
          refine k_i hw (va_runV (As := [.int (xs (j + 1)), .int (xs (j + 2))]) (rest := [.int ((oc_item S (xs (j + 1)) (xs (j + 2))).1)]) ⟨hx, hb, hml, hown, hts⟩ (c_X2_item l G f' wa' (oc_item S (xs (j + 1)) (xs (j + 2))).2 M hRel.invM (xs (j + 1)) (xs (j + 2))) (cwV 2 hts gL_law_X2_item rfl rfl rfl (by decide +kernel) ⟨Nat.le_of_ble_eq_true rfl, Nat.le_of_ble_eq_true rfl⟩) (hw.preM _) rfl rfl hl.1 rfl (lv_room (Nat.le_of_ble_eq_true rfl)) dL_law_587 ⟨(show _ ≤ 600000 by omega), (show _ ≤ 7302250 by omega)⟩) (fun r u H locs hR hw => ?_)
          obtain ⟨hq, rfl⟩ := hR
          obtain rfl := hq.symm
          have hOk := q_item hRel (xs (j + 1)) (xs (j + 2))
          have hWe := v_item hWei (xs (j + 1)) (xs (j + 2))
          refine lv_icmp_eq (tgt := 608) hx hb dL_law_590 (by decide) (fun c_590 => ?_) (fun c_590 => ?_)
          · skip
            refine lv_iinc (v := nI (j + 4)) (lv' := [(3, .int (nI (j + 4))), (0, .ref b), (1, .ref (gx G)), (2, .ref (gm G))]) hx hb dL_law_608 hl (k := 0) rfl (nI_add _ 4) (by decide) rfl (fun ls hl => ?_)
            refine lv_goto (tgt := 18) hx hb dL_law_611 (by decide) ?_
            exact ih (t + 1) (j + 4) ((oc_item S (xs (j + 1)) (xs (j + 2))).2) ((om_item M (xs (j + 1)) (xs (j + 2))).2) f' wa' _ _ _ _ ls ⟨by omega, by omega, by omega, (by omega), (by omega), hOk.2, hWe⟩ hw (lv_sub hl [0, 1, 2, 3] rfl)
          · skip
            exact absurd hOk.1 c_590
        · skip
          refine lv_tableIn (tgt := 595) (off := 563) hx hb dL_law_32 (by decide) (by decide) rfl (by decide) ?_
          refine lv_aload_n hx hb dL_law_595 rfl (lv_at hl 2 rfl) ?_
          refine k_i hw (va_runV (As := []) (rest := []) ⟨hx, hb, hml, hown, hts⟩ (c_X1_latch l G f wa S M ) (cwV 0 hts gL_law_X1_latch rfl rfl rfl (by decide +kernel) ⟨Nat.le_of_ble_eq_true rfl, Nat.le_of_ble_eq_true rfl⟩) (hw.preX _) rfl rfl hl.1 rfl (lv_room (Nat.le_of_ble_eq_true rfl)) dL_law_596 ⟨(show _ ≤ 600000 by omega), (show _ ≤ 7302250 by omega)⟩) (fun r u H locs hR hw => ?_)
          obtain ⟨hq, f', wa', rfl⟩ := hR
          obtain rfl := hq.symm
          refine lv_aload_n hx hb dL_law_599 rfl (lv_at hl 3 rfl) ?_
          refine k_i hw (va_runV (As := []) (rest := [.int (((S 9 0, S)).1)]) ⟨hx, hb, hml, hown, hts⟩ (c_X2_latch l G f' wa' ((S 9 0, S)).2 M ) (cwV 0 hts gL_law_X2_latch rfl rfl rfl (by decide +kernel) ⟨Nat.le_of_ble_eq_true rfl, Nat.le_of_ble_eq_true rfl⟩) (hw.preM _) rfl rfl hl.1 rfl (lv_room (Nat.le_of_ble_eq_true rfl)) dL_law_600 ⟨(show _ ≤ 600000 by omega), (show _ ≤ 7302250 by omega)⟩) (fun r u H locs hR hw => ?_)
          obtain ⟨hq, rfl⟩ := hR
          obtain rfl := hq.symm
          have hOk : Ok (S 9 0, S) (M 9 0, M) := ⟨hRel.1, hRel⟩
          have hWe : Wei (M 9 0, M).2 := hWei
          refine lv_icmp_eq (tgt := 608) hx hb dL_law_603 (by decide) (fun c_603 => ?_) (fun c_603 => ?_)
          · skip
            refine lv_iinc (v := nI (j + 4)) (lv' := [(3, .int (nI (j + 4))), (0, .ref b), (1, .ref (gx G)), (2, .ref (gm G))]) hx hb dL_law_608 hl (k := 0) rfl (nI_add _ 4) (by decide) rfl (fun ls hl => ?_)
            refine lv_goto (tgt := 18) hx hb dL_law_611 (by decide) ?_
            exact ih (t + 1) (j + 4) (((S 9 0, S)).2) (((M 9 0, M)).2) f' wa' _ _ _ _ ls ⟨by omega, by omega, by omega, (by omega), (by omega), hOk.2, hWe⟩ hw (lv_sub hl [0, 1, 2, 3] rfl)
          · skip
            exact absurd hOk.1 c_603
      · skip
        refine lv_tableOut (tgt := 608) hx hb dL_law_32 (Or.inr (by rw [nI_toInt (by omega)]; omega)) (by decide) ?_
        refine lv_iinc (v := nI (j + 4)) (lv' := [(3, .int (nI (j + 4))), (0, .ref b), (1, .ref (gx G)), (2, .ref (gm G))]) hx hb dL_law_608 hl (k := 0) rfl (nI_add _ 4) (by decide) rfl (fun ls hl => ?_)
        refine lv_goto (tgt := 18) hx hb dL_law_611 (by decide) ?_
        exact ih (t + 1) (j + 4) S M f wa _ _ _ _ ls ⟨by omega, by omega, by omega, (by omega), (by omega), hRel, hWei⟩ hw (lv_sub hl [0, 1, 2, 3] rfl)
