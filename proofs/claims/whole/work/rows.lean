section
-- ===== PART A: goes FIRST, ahead of the names: the tables' words, and 'selects' of the private methods out of them =====
/-- a private method of a class that the tables say can be made, by its rows of tables_1 -/
def lw_okq (q : MethodName × Nat) : Prop := (q.1.cls ≠ "java/lang/invoke/MethodHandle" ∧ q.1.cls ≠ "java/lang/invoke/VarHandle") ∧ Cond.instantiable q.1.cls q.2 ∈ tables_1 ∧ Cond.privateMethod q.1 ∈ tables_1 ∧ Cond.instanceMethod q.1 ∈ tables_1
theorem lw_p0 : lw_okq (⟨"LockerWall", "holdAt", "(I)LLockerWall$Locker;"⟩, 2) := ⟨⟨by decide +kernel, by decide +kernel⟩, List.mem_of_getElem? (i := 5) (by decide +kernel), List.mem_of_getElem? (i := 73) (by decide +kernel), List.mem_of_getElem? (i := 74) (by decide +kernel)⟩
theorem lw_p1 : lw_okq (⟨"LockerWall", "actOnTwo", "(IIZ)I"⟩, 2) := ⟨⟨by decide +kernel, by decide +kernel⟩, List.mem_of_getElem? (i := 5) (by decide +kernel), List.mem_of_getElem? (i := 113) (by decide +kernel), List.mem_of_getElem? (i := 114) (by decide +kernel)⟩
theorem lw_p2 : lw_okq (⟨"LockerWall", "holdRow", "(II)I"⟩, 2) := ⟨⟨by decide +kernel, by decide +kernel⟩, List.mem_of_getElem? (i := 5) (by decide +kernel), List.mem_of_getElem? (i := 147) (by decide +kernel), List.mem_of_getElem? (i := 148) (by decide +kernel)⟩
theorem lw_p3 : lw_okq (⟨"LockerWall", "letGoRow", "(III)I"⟩, 2) := ⟨⟨by decide +kernel, by decide +kernel⟩, List.mem_of_getElem? (i := 5) (by decide +kernel), List.mem_of_getElem? (i := 151) (by decide +kernel), List.mem_of_getElem? (i := 152) (by decide +kernel)⟩
theorem lw_p4 : lw_okq (⟨"LockerWallModel", "let", "(III)I"⟩, 10) := ⟨⟨by decide +kernel, by decide +kernel⟩, List.mem_of_getElem? (i := 191) (by decide +kernel), List.mem_of_getElem? (i := 243) (by decide +kernel), List.mem_of_getElem? (i := 244) (by decide +kernel)⟩
theorem lw_p5 : lw_okq (⟨"LockerWallModel", "hasRoom", "(II)Z"⟩, 10) := ⟨⟨by decide +kernel, by decide +kernel⟩, List.mem_of_getElem? (i := 191) (by decide +kernel), List.mem_of_getElem? (i := 259) (by decide +kernel), List.mem_of_getElem? (i := 260) (by decide +kernel)⟩
theorem lw_p6 : lw_okq (⟨"LockerWallModel", "weight", "(I)I"⟩, 10) := ⟨⟨by decide +kernel, by decide +kernel⟩, List.mem_of_getElem? (i := 191) (by decide +kernel), List.mem_of_getElem? (i := 263) (by decide +kernel), List.mem_of_getElem? (i := 264) (by decide +kernel)⟩
theorem lw_p7 : lw_okq (⟨"LockerWallModel", "add", "(II)V"⟩, 10) := ⟨⟨by decide +kernel, by decide +kernel⟩, List.mem_of_getElem? (i := 191) (by decide +kernel), List.mem_of_getElem? (i := 267) (by decide +kernel), List.mem_of_getElem? (i := 268) (by decide +kernel)⟩
theorem lw_p8 : lw_okq (⟨"LockerWallModel", "takeLast", "(I)I"⟩, 10) := ⟨⟨by decide +kernel, by decide +kernel⟩, List.mem_of_getElem? (i := 191) (by decide +kernel), List.mem_of_getElem? (i := 275) (by decide +kernel), List.mem_of_getElem? (i := 276) (by decide +kernel)⟩
theorem lw_p9 : lw_okq (⟨"LockerWallModel", "letBoth", "(IIII)I"⟩, 10) := ⟨⟨by decide +kernel, by decide +kernel⟩, List.mem_of_getElem? (i := 191) (by decide +kernel), List.mem_of_getElem? (i := 283) (by decide +kernel), List.mem_of_getElem? (i := 284) (by decide +kernel)⟩
theorem lw_p10 : lw_okq (⟨"LockerWallModel", "hasItem", "(II)Z"⟩, 10) := ⟨⟨by decide +kernel, by decide +kernel⟩, List.mem_of_getElem? (i := 191) (by decide +kernel), List.mem_of_getElem? (i := 295) (by decide +kernel), List.mem_of_getElem? (i := 296) (by decide +kernel)⟩
def lw_privs_1 : List (MethodName × Nat) := [(⟨"LockerWall", "holdAt", "(I)LLockerWall$Locker;"⟩, 2), (⟨"LockerWall", "actOnTwo", "(IIZ)I"⟩, 2), (⟨"LockerWall", "holdRow", "(II)I"⟩, 2), (⟨"LockerWall", "letGoRow", "(III)I"⟩, 2), (⟨"LockerWallModel", "let", "(III)I"⟩, 10), (⟨"LockerWallModel", "hasRoom", "(II)Z"⟩, 10), (⟨"LockerWallModel", "weight", "(I)I"⟩, 10), (⟨"LockerWallModel", "add", "(II)V"⟩, 10), (⟨"LockerWallModel", "takeLast", "(I)I"⟩, 10), (⟨"LockerWallModel", "letBoth", "(IIII)I"⟩, 10), (⟨"LockerWallModel", "hasItem", "(II)Z"⟩, 10)]
theorem lw_r1 : ∀ q ∈ lw_privs_1, lw_okq q := List.forall_mem_cons.mpr ⟨lw_p0, List.forall_mem_cons.mpr ⟨lw_p1, List.forall_mem_cons.mpr ⟨lw_p2, List.forall_mem_cons.mpr ⟨lw_p3, List.forall_mem_cons.mpr ⟨lw_p4, List.forall_mem_cons.mpr ⟨lw_p5, List.forall_mem_cons.mpr ⟨lw_p6, List.forall_mem_cons.mpr ⟨lw_p7, List.forall_mem_cons.mpr ⟨lw_p8, List.forall_mem_cons.mpr ⟨lw_p9, List.forall_mem_cons.mpr ⟨lw_p10, fun _ h => absurd h List.not_mem_nil⟩⟩⟩⟩⟩⟩⟩⟩⟩⟩⟩
def lw_privs : List (MethodName × Nat) := lw_privs_1
def lw_tbl : List Cond := k2_sels lw_privs ++ tables_1
theorem lw_privs_ok : ∀ q ∈ lw_privs, lw_okq q := lw_r1
-- ===== end of PART A; then your names; then what follows =====
/-! ===== BEGIN words of one list among another's, by their places ===== -/
theorem goodIn_r {big : List Cond} (ws : List Cond) (ps : List Nat) (hp : ws = ps.filterMap (fun i => big[i]?)) (h : ws.all goodWord = true) : GoodIn big ws := by
  intro w hw
  have h1 := List.all_eq_true.mp h w hw
  rw [hp] at hw
  obtain ⟨i, -, hi⟩ := List.mem_filterMap.mp hw
  have hm : w ∈ big := by first | exact List.mem_of_getElem? hi | exact List.getElem?_mem hi
  exact ⟨hm, good_of_word h1⟩
theorem goodIn_app {big a b : List Cond} (ha : GoodIn big a) (hb : GoodIn big b) : GoodIn big (a ++ b) := fun w h => (List.mem_append.mp h).elim (ha w) (hb w)
theorem goodIn_ca {big a b : List Cond} {c : Cond} (ha : GoodIn big (c :: a)) (hb : GoodIn big b) : GoodIn big (c :: (a ++ b)) := fun w h => (List.mem_cons.mp h).elim (fun e => ha w (List.mem_cons.mpr (Or.inl e))) (fun h => (List.mem_append.mp h).elim (fun h => ha w (List.mem_cons.mpr (Or.inr h))) (hb w))
theorem goodIn_sub {big ws : List Cond} (hm : ∀ w ∈ ws, w ∈ big) (h : ws.all goodWord = true) : GoodIn big ws := fun w hw => ⟨hm w hw, good_of_word (List.all_eq_true.mp h w hw)⟩
/-! ===== END ===== -/

/-! ===== BEGIN printed: names, fields, word lists, decode rows ===== -/
def RX0 : String := "LockerWall$Locker"
def TX0 : u_T := fun k => match k with
  | 0 => ("LockerWall$Locker", "room", "I", true)
  | 1 => ("LockerWall$Locker", "code", "I", false)
  | 2 => ("LockerWall$Locker", "isOpen", "Z", false)
  | 3 => ("LockerWall$Locker", "wrongTries", "I", false)
  | 4 => ("LockerWall$Locker", "weights", "[I", false)
  | 5 => ("LockerWall$Locker", "count", "I", false)
  | 6 => ("LockerWall$Locker", "holds", "I", false)
  | _ => ("LockerWall$Locker", "left", "I", false)
def tyX0 : Nat → FieldType := fun k => match k with
  | 0 => .int
  | 1 => .int
  | 2 => .boolean
  | 3 => .int
  | 4 => .array .int
  | 5 => .int
  | 6 => .int
  | _ => .int
abbrev wsX00 : List Cond := u_ws RX0 TX0 8
theorem nmX0 : ∀ a, a < 8 → ∀ b, b < 8 → a ≠ b → (TX0 a).2.1 ≠ (TX0 b).2.1 := by decide +kernel
theorem tyX0_ok : ∀ k, k < 8 → parseFieldDescriptor (TX0 k).2.2.1 = some (tyX0 k) := by decide +kernel
abbrev cX0_init : ByteArray := prog_2_method_1_code
def yX0_init : MethodName := ⟨RX0, "<init>", "(II)V"⟩
abbrev cX0_letGo : ByteArray := prog_2_method_2_code
def yX0_letGo : MethodName := ⟨RX0, "letGo", "(II)I"⟩
abbrev cX0_accept : ByteArray := prog_2_method_3_code
def yX0_accept : MethodName := ⟨RX0, "accept", "(I)Z"⟩
abbrev cX0_removeLast : ByteArray := prog_2_method_4_code
def yX0_removeLast : MethodName := ⟨RX0, "removeLast", "()I"⟩
abbrev cX0_weight : ByteArray := prog_2_method_5_code
def yX0_weight : MethodName := ⟨RX0, "weight", "()I"⟩
abbrev cX0_contains : ByteArray := prog_2_method_6_code
def yX0_contains : MethodName := ⟨RX0, "contains", "(I)Z"⟩
abbrev cX0_weightOf : ByteArray := prog_2_method_7_code
def yX0_weightOf : MethodName := ⟨RX0, "weightOf", "(I)I"⟩
abbrev cX0_exchangeItems : ByteArray := prog_2_method_8_code
def yX0_exchangeItems : MethodName := ⟨RX0, "exchangeItems", "(LLockerWall$Locker;)V"⟩
abbrev cX0_fact : ByteArray := prog_2_method_9_code
def yX0_fact : MethodName := ⟨RX0, "fact", "(I)I"⟩
def RX1 : String := "LockerWall"
def TX1 : u_T := fun k => match k with
  | 0 => ("LockerWall", "hooks", "[LLockerWall$Locker;", true)
  | _ => ("LockerWall", "latchHolds", "I", false)
def tyX1 : Nat → FieldType := fun k => match k with
  | 0 => .array (.object "LockerWall$Locker")
  | _ => .int
abbrev wsX10 : List Cond := u_ws RX1 TX1 2
theorem nmX1 : ∀ a, a < 2 → ∀ b, b < 2 → a ≠ b → (TX1 a).2.1 ≠ (TX1 b).2.1 := by decide +kernel
theorem tyX1_ok : ∀ k, k < 2 → parseFieldDescriptor (TX1 k).2.2.1 = some (tyX1 k) := by decide +kernel
abbrev cX1_init : ByteArray := prog_1_method_1_code
def yX1_init : MethodName := ⟨RX1, "<init>", "()V"⟩
abbrev cX1_mount : ByteArray := prog_1_method_2_code
def yX1_mount : MethodName := ⟨RX1, "mount", "(III)I"⟩
abbrev cX1_unmount : ByteArray := prog_1_method_3_code
def yX1_unmount : MethodName := ⟨RX1, "unmount", "(I)I"⟩
abbrev cX1_open : ByteArray := prog_1_method_4_code
def yX1_open : MethodName := ⟨RX1, "open", "(II)I"⟩
abbrev cX1_shut : ByteArray := prog_1_method_5_code
def yX1_shut : MethodName := ⟨RX1, "shut", "(I)I"⟩
abbrev cX1_put : ByteArray := prog_1_method_6_code
def yX1_put : MethodName := ⟨RX1, "put", "(II)I"⟩
abbrev cX1_take : ByteArray := prog_1_method_7_code
def yX1_take : MethodName := ⟨RX1, "take", "(I)I"⟩
abbrev cX1_move : ByteArray := prog_1_method_8_code
def yX1_move : MethodName := ⟨RX1, "move", "(II)I"⟩
abbrev cX1_swap : ByteArray := prog_1_method_9_code
def yX1_swap : MethodName := ⟨RX1, "swap", "(II)I"⟩
abbrev cX1_find : ByteArray := prog_1_method_10_code
def yX1_find : MethodName := ⟨RX1, "find", "(I)I"⟩
abbrev cX1_weigh : ByteArray := prog_1_method_11_code
def yX1_weigh : MethodName := ⟨RX1, "weigh", "(II)I"⟩
abbrev cX1_drop : ByteArray := prog_1_method_12_code
def yX1_drop : MethodName := ⟨RX1, "drop", "(III)I"⟩
abbrev cX1_tally : ByteArray := prog_1_method_13_code
def yX1_tally : MethodName := ⟨RX1, "tally", "()J"⟩
abbrev cX1_first : ByteArray := prog_1_method_14_code
def yX1_first : MethodName := ⟨RX1, "first", "(I)I"⟩
abbrev cX1_recode : ByteArray := prog_1_method_15_code
def yX1_recode : MethodName := ⟨RX1, "recode", "(II)I"⟩
abbrev cX1_told : ByteArray := prog_1_method_16_code
def yX1_told : MethodName := ⟨RX1, "told", "(II)I"⟩
abbrev cX1_item : ByteArray := prog_1_method_17_code
def yX1_item : MethodName := ⟨RX1, "item", "(II)I"⟩
abbrev cX1_latch : ByteArray := prog_1_method_18_code
def yX1_latch : MethodName := ⟨RX1, "latch", "()I"⟩
abbrev cX1_isHook : ByteArray := prog_1_method_19_code
def yX1_isHook : MethodName := ⟨RX1, "isHook", "(I)Z"⟩
abbrev cX1_isWeight : ByteArray := prog_1_method_20_code
def yX1_isWeight : MethodName := ⟨RX1, "isWeight", "(I)Z"⟩
abbrev cX1_holdAt : ByteArray := prog_1_method_21_code
def yX1_holdAt : MethodName := ⟨RX1, "holdAt", "(I)LLockerWall$Locker;"⟩
abbrev cX1_actOnTwo : ByteArray := prog_1_method_22_code
def yX1_actOnTwo : MethodName := ⟨RX1, "actOnTwo", "(IIZ)I"⟩
abbrev cX1_moveHeld : ByteArray := prog_1_method_23_code
def yX1_moveHeld : MethodName := ⟨RX1, "moveHeld", "(LLockerWall$Locker;LLockerWall$Locker;)I"⟩
abbrev cX1_exchangeHeld : ByteArray := prog_1_method_24_code
def yX1_exchangeHeld : MethodName := ⟨RX1, "exchangeHeld", "(LLockerWall$Locker;LLockerWall$Locker;)I"⟩
abbrev cX1_letGoTwo : ByteArray := prog_1_method_25_code
def yX1_letGoTwo : MethodName := ⟨RX1, "letGoTwo", "(LLockerWall$Locker;LLockerWall$Locker;II)I"⟩
abbrev cX1_holdRow : ByteArray := prog_1_method_26_code
def yX1_holdRow : MethodName := ⟨RX1, "holdRow", "(II)I"⟩
abbrev cX1_letGoRow : ByteArray := prog_1_method_27_code
def yX1_letGoRow : MethodName := ⟨RX1, "letGoRow", "(III)I"⟩
def RX2 : String := "LockerWallModel"
def TX2 : u_T := fun k => match k with
  | 0 => ("LockerWallModel", "there", "[Z", true)
  | 1 => ("LockerWallModel", "room", "[I", true)
  | 2 => ("LockerWallModel", "code", "[I", true)
  | 3 => ("LockerWallModel", "open", "[Z", true)
  | 4 => ("LockerWallModel", "tries", "[I", true)
  | 5 => ("LockerWallModel", "many", "[I", true)
  | 6 => ("LockerWallModel", "holds", "[I", true)
  | 7 => ("LockerWallModel", "left", "[I", true)
  | 8 => ("LockerWallModel", "item", "[I", true)
  | _ => ("LockerWallModel", "latched", "I", false)
def tyX2 : Nat → FieldType := fun k => match k with
  | 0 => .array .boolean
  | 1 => .array .int
  | 2 => .array .int
  | 3 => .array .boolean
  | 4 => .array .int
  | 5 => .array .int
  | 6 => .array .int
  | 7 => .array .int
  | 8 => .array .int
  | _ => .int
abbrev wsX20 : List Cond := u_ws RX2 TX2 10
theorem nmX2 : ∀ a, a < 10 → ∀ b, b < 10 → a ≠ b → (TX2 a).2.1 ≠ (TX2 b).2.1 := by decide +kernel
theorem tyX2_ok : ∀ k, k < 10 → parseFieldDescriptor (TX2 k).2.2.1 = some (tyX2 k) := by decide +kernel
abbrev cX2_init : ByteArray := prog_4_method_1_code
def yX2_init : MethodName := ⟨RX2, "<init>", "()V"⟩
abbrev cX2_isHook : ByteArray := prog_4_method_2_code
def yX2_isHook : MethodName := ⟨RX2, "isHook", "(I)Z"⟩
abbrev cX2_isWeight : ByteArray := prog_4_method_3_code
def yX2_isWeight : MethodName := ⟨RX2, "isWeight", "(I)Z"⟩
abbrev cX2_weight : ByteArray := prog_4_method_4_code
def yX2_weight : MethodName := ⟨RX2, "weight", "(I)I"⟩
abbrev cX2_let : ByteArray := prog_4_method_5_code
def yX2_let : MethodName := ⟨RX2, "let", "(III)I"⟩
abbrev cX2_letBoth : ByteArray := prog_4_method_6_code
def yX2_letBoth : MethodName := ⟨RX2, "letBoth", "(IIII)I"⟩
abbrev cX2_hasRoom : ByteArray := prog_4_method_7_code
def yX2_hasRoom : MethodName := ⟨RX2, "hasRoom", "(II)Z"⟩
abbrev cX2_add : ByteArray := prog_4_method_8_code
def yX2_add : MethodName := ⟨RX2, "add", "(II)V"⟩
abbrev cX2_takeLast : ByteArray := prog_4_method_9_code
def yX2_takeLast : MethodName := ⟨RX2, "takeLast", "(I)I"⟩
abbrev cX2_mount : ByteArray := prog_4_method_10_code
def yX2_mount : MethodName := ⟨RX2, "mount", "(III)I"⟩
abbrev cX2_unmount : ByteArray := prog_4_method_11_code
def yX2_unmount : MethodName := ⟨RX2, "unmount", "(I)I"⟩
abbrev cX2_open : ByteArray := prog_4_method_12_code
def yX2_open : MethodName := ⟨RX2, "open", "(II)I"⟩
abbrev cX2_shut : ByteArray := prog_4_method_13_code
def yX2_shut : MethodName := ⟨RX2, "shut", "(I)I"⟩
abbrev cX2_put : ByteArray := prog_4_method_14_code
def yX2_put : MethodName := ⟨RX2, "put", "(II)I"⟩
abbrev cX2_take : ByteArray := prog_4_method_15_code
def yX2_take : MethodName := ⟨RX2, "take", "(I)I"⟩
abbrev cX2_move : ByteArray := prog_4_method_16_code
def yX2_move : MethodName := ⟨RX2, "move", "(II)I"⟩
abbrev cX2_swap : ByteArray := prog_4_method_17_code
def yX2_swap : MethodName := ⟨RX2, "swap", "(II)I"⟩
abbrev cX2_hasItem : ByteArray := prog_4_method_18_code
def yX2_hasItem : MethodName := ⟨RX2, "hasItem", "(II)Z"⟩
abbrev cX2_find : ByteArray := prog_4_method_19_code
def yX2_find : MethodName := ⟨RX2, "find", "(I)I"⟩
abbrev cX2_weigh : ByteArray := prog_4_method_20_code
def yX2_weigh : MethodName := ⟨RX2, "weigh", "(II)I"⟩
abbrev cX2_drop : ByteArray := prog_4_method_21_code
def yX2_drop : MethodName := ⟨RX2, "drop", "(III)I"⟩
abbrev cX2_tally : ByteArray := prog_4_method_22_code
def yX2_tally : MethodName := ⟨RX2, "tally", "()J"⟩
abbrev cX2_first : ByteArray := prog_4_method_23_code
def yX2_first : MethodName := ⟨RX2, "first", "(I)I"⟩
abbrev cX2_recode : ByteArray := prog_4_method_24_code
def yX2_recode : MethodName := ⟨RX2, "recode", "(II)I"⟩
abbrev cX2_told : ByteArray := prog_4_method_25_code
def yX2_told : MethodName := ⟨RX2, "told", "(II)I"⟩
abbrev cX2_item : ByteArray := prog_4_method_26_code
def yX2_item : MethodName := ⟨RX2, "item", "(II)I"⟩
abbrev cX2_latch : ByteArray := prog_4_method_27_code
def yX2_latch : MethodName := ⟨RX2, "latch", "()I"⟩
def RL : String := "LockerWallLaw"
abbrev cL_law : ByteArray := code
def yL_law : MethodName := ⟨RL, "law", "([I)Z"⟩
def wsX0_init : List Cond := .code yX0_init cX0_init 3 none :: ([.methodLink RX0 3 objectInit, .instanceMethod objectInit, .code objectInit ⟨#[0xb1]⟩ 1 none, .fieldLink RX0 9 "LockerWall$Locker" "room" "I", .fieldLink RX0 15 "LockerWall$Locker" "code" "I", .arrayClass .int, .fieldLink RX0 18 "LockerWall$Locker" "weights" "[I"] ++ wsX00)
def wsX0_letGo : List Cond := .code yX0_letGo cX0_letGo 3 (some .int) :: ([.fieldLink RX0 22 "LockerWall$Locker" "left" "I"] ++ wsX00)
def wsX0_weight : List Cond := .code yX0_weight cX0_weight 3 (some .int) :: ([.fieldLink RX0 25 "LockerWall$Locker" "count" "I", .fieldLink RX0 18 "LockerWall$Locker" "weights" "[I"] ++ wsX00)
def wsX0_accept : List Cond := .code yX0_accept cX0_accept 2 (some .boolean) :: ([.fieldLink RX0 25 "LockerWall$Locker" "count" "I", .fieldLink RX0 9 "LockerWall$Locker" "room" "I", .fieldLink RX0 18 "LockerWall$Locker" "weights" "[I", .methodLink RX0 28 yX0_weight, .instanceMethod yX0_weight, .selects RX0 yX0_weight yX0_weight, .initialized RX0, .code yX0_weight cX0_weight 3 (some .int)] ++ wsX00)
def wsX0_removeLast : List Cond := .code yX0_removeLast cX0_removeLast 1 (some .int) :: ([.fieldLink RX0 25 "LockerWall$Locker" "count" "I", .fieldLink RX0 18 "LockerWall$Locker" "weights" "[I"] ++ wsX00)
def wsX0_contains : List Cond := .code yX0_contains cX0_contains 3 (some .boolean) :: ([.fieldLink RX0 25 "LockerWall$Locker" "count" "I", .fieldLink RX0 18 "LockerWall$Locker" "weights" "[I"] ++ wsX00)
def wsX0_weightOf : List Cond := .code yX0_weightOf cX0_weightOf 2 (some .int) :: ([.fieldLink RX0 25 "LockerWall$Locker" "count" "I", .fieldLink RX0 18 "LockerWall$Locker" "weights" "[I"] ++ wsX00)
def wsX0_exchangeItems : List Cond := .code yX0_exchangeItems cX0_exchangeItems 4 none :: ([.fieldLink RX0 18 "LockerWall$Locker" "weights" "[I", .fieldLink RX0 25 "LockerWall$Locker" "count" "I"] ++ wsX00)
def wsX0_fact : List Cond := .code yX0_fact cX0_fact 2 (some .int) :: ([.fieldLink RX0 9 "LockerWall$Locker" "room" "I", .fieldLink RX0 15 "LockerWall$Locker" "code" "I", .fieldLink RX0 32 "LockerWall$Locker" "isOpen" "Z", .fieldLink RX0 36 "LockerWall$Locker" "wrongTries" "I", .fieldLink RX0 25 "LockerWall$Locker" "count" "I", .fieldLink RX0 39 "LockerWall$Locker" "holds" "I", .fieldLink RX0 22 "LockerWall$Locker" "left" "I", .methodLink RX0 28 yX0_weight, .instanceMethod yX0_weight, .selects RX0 yX0_weight yX0_weight, .initialized RX0, .code yX0_weight cX0_weight 3 (some .int), .fieldLink RX0 18 "LockerWall$Locker" "weights" "[I"] ++ wsX00)
def wsX1_init : List Cond := .code yX1_init cX1_init 1 none :: ([.methodLink RX1 1 objectInit, .instanceMethod objectInit, .code objectInit ⟨#[0xb1]⟩ 1 none, .classLink RX1 9 RX0, .fieldLink RX1 11 "LockerWall" "hooks" "[LLockerWall$Locker;", .fieldLink RX1 15 "LockerWall" "latchHolds" "I"] ++ wsX10)
def wsX1_isHook : List Cond := .code yX1_isHook cX1_isHook 1 (some .boolean) :: ([])
def wsX1_isWeight : List Cond := .code yX1_isWeight cX1_isWeight 1 (some .boolean) :: ([])
def wsX1_mount : List Cond := .code yX1_mount cX1_mount 4 (some .int) :: ([.fieldLink RX1 11 "LockerWall" "hooks" "[LLockerWall$Locker;", .classLink RX1 9 RX0, .instantiable RX0 8, .initialized RX0, .methodLink RX1 19 yX1_isHook, .static yX1_isHook, .initialized RX1, .code yX1_isHook cX1_isHook 1 (some .boolean), .methodLink RX1 23 yX1_isWeight, .static yX1_isWeight, .code yX1_isWeight cX1_isWeight 1 (some .boolean), .methodLink RX1 26 yX0_init, .instanceMethod yX0_init, .code yX0_init cX0_init 3 none, .methodLink RX0 3 objectInit, .instanceMethod objectInit, .code objectInit ⟨#[0xb1]⟩ 1 none, .fieldLink RX0 9 "LockerWall$Locker" "room" "I", .fieldLink RX0 15 "LockerWall$Locker" "code" "I", .arrayClass .int, .fieldLink RX0 18 "LockerWall$Locker" "weights" "[I"] ++ wsX10 ++ wsX00)
def wsX1_holdAt : List Cond := .code yX1_holdAt cX1_holdAt 3 (some (.object "LockerWall$Locker")) :: ([.fieldLink RX1 11 "LockerWall" "hooks" "[LLockerWall$Locker;", .fieldLink RX1 40 "LockerWall$Locker" "holds" "I", .methodLink RX1 19 yX1_isHook, .static yX1_isHook, .initialized RX1, .code yX1_isHook cX1_isHook 1 (some .boolean)] ++ wsX10 ++ wsX00)
def wsX1_unmount : List Cond := .code yX1_unmount cX1_unmount 3 (some .int) :: ([.fieldLink RX1 15 "LockerWall" "latchHolds" "I", .fieldLink RX1 33 "LockerWall$Locker" "count" "I", .fieldLink RX1 11 "LockerWall" "hooks" "[LLockerWall$Locker;", .fieldLink RX1 40 "LockerWall$Locker" "holds" "I", .methodLink RX1 19 yX1_isHook, .static yX1_isHook, .initialized RX1, .code yX1_isHook cX1_isHook 1 (some .boolean), .methodLink RX1 29 yX1_holdAt, .instanceMethod yX1_holdAt, .selects RX1 yX1_holdAt yX1_holdAt, .code yX1_holdAt cX1_holdAt 3 (some (.object "LockerWall$Locker")), .methodLink RX1 36 yX0_letGo, .instanceMethod yX0_letGo, .selects RX0 yX0_letGo yX0_letGo, .initialized RX0, .code yX0_letGo cX0_letGo 3 (some .int), .fieldLink RX0 22 "LockerWall$Locker" "left" "I"] ++ wsX10 ++ wsX00)
def wsX1_open : List Cond := .code yX1_open cX1_open 4 (some .int) :: ([.fieldLink RX1 43 "LockerWall$Locker" "wrongTries" "I", .fieldLink RX1 46 "LockerWall$Locker" "code" "I", .fieldLink RX1 49 "LockerWall$Locker" "isOpen" "Z", .methodLink RX1 19 yX1_isHook, .static yX1_isHook, .initialized RX1, .code yX1_isHook cX1_isHook 1 (some .boolean), .methodLink RX1 29 yX1_holdAt, .instanceMethod yX1_holdAt, .selects RX1 yX1_holdAt yX1_holdAt, .code yX1_holdAt cX1_holdAt 3 (some (.object "LockerWall$Locker")), .fieldLink RX1 11 "LockerWall" "hooks" "[LLockerWall$Locker;", .fieldLink RX1 40 "LockerWall$Locker" "holds" "I", .methodLink RX1 36 yX0_letGo, .instanceMethod yX0_letGo, .selects RX0 yX0_letGo yX0_letGo, .initialized RX0, .code yX0_letGo cX0_letGo 3 (some .int), .fieldLink RX0 22 "LockerWall$Locker" "left" "I"] ++ wsX00 ++ wsX10)
def wsX1_shut : List Cond := .code yX1_shut cX1_shut 3 (some .int) :: ([.fieldLink RX1 49 "LockerWall$Locker" "isOpen" "Z", .methodLink RX1 19 yX1_isHook, .static yX1_isHook, .initialized RX1, .code yX1_isHook cX1_isHook 1 (some .boolean), .methodLink RX1 29 yX1_holdAt, .instanceMethod yX1_holdAt, .selects RX1 yX1_holdAt yX1_holdAt, .code yX1_holdAt cX1_holdAt 3 (some (.object "LockerWall$Locker")), .fieldLink RX1 11 "LockerWall" "hooks" "[LLockerWall$Locker;", .fieldLink RX1 40 "LockerWall$Locker" "holds" "I", .methodLink RX1 36 yX0_letGo, .instanceMethod yX0_letGo, .selects RX0 yX0_letGo yX0_letGo, .initialized RX0, .code yX0_letGo cX0_letGo 3 (some .int), .fieldLink RX0 22 "LockerWall$Locker" "left" "I"] ++ wsX00 ++ wsX10)
def wsX1_put_r1 : List Cond := [Cond.fieldLink RX1 49 "LockerWall$Locker" "isOpen" "Z", Cond.fieldLink RX1 33 "LockerWall$Locker" "count" "I", Cond.methodLink RX1 19 yX1_isHook, Cond.static yX1_isHook, Cond.initialized RX1, Cond.code yX1_isHook cX1_isHook 1 (some .boolean), Cond.methodLink RX1 23 yX1_isWeight, Cond.static yX1_isWeight, Cond.code yX1_isWeight cX1_isWeight 1 (some .boolean), Cond.methodLink RX1 29 yX1_holdAt, Cond.instanceMethod yX1_holdAt, Cond.selects RX1 yX1_holdAt yX1_holdAt, Cond.code yX1_holdAt cX1_holdAt 3 (some (.object "LockerWall$Locker")), Cond.fieldLink RX1 11 "LockerWall" "hooks" "[LLockerWall$Locker;", Cond.fieldLink RX1 40 "LockerWall$Locker" "holds" "I", Cond.methodLink RX1 36 yX0_letGo, Cond.instanceMethod yX0_letGo, Cond.selects RX0 yX0_letGo yX0_letGo, Cond.initialized RX0, Cond.code yX0_letGo cX0_letGo 3 (some .int), Cond.fieldLink RX0 22 "LockerWall$Locker" "left" "I", Cond.methodLink RX1 53 yX0_accept, Cond.instanceMethod yX0_accept, Cond.selects RX0 yX0_accept yX0_accept]
def wsX1_put_r2 : List Cond := [Cond.code yX0_accept cX0_accept 2 (some .boolean), Cond.fieldLink RX0 25 "LockerWall$Locker" "count" "I", Cond.fieldLink RX0 9 "LockerWall$Locker" "room" "I", Cond.fieldLink RX0 18 "LockerWall$Locker" "weights" "[I", Cond.methodLink RX0 28 yX0_weight, Cond.instanceMethod yX0_weight, Cond.selects RX0 yX0_weight yX0_weight, Cond.code yX0_weight cX0_weight 3 (some .int)]
def wsX1_put : List Cond := .code yX1_put cX1_put 4 (some .int) :: ((wsX1_put_r1 ++ wsX1_put_r2) ++ wsX00 ++ wsX10)
def wsX1_take : List Cond := .code yX1_take cX1_take 3 (some .int) :: ([.fieldLink RX1 49 "LockerWall$Locker" "isOpen" "Z", .fieldLink RX1 33 "LockerWall$Locker" "count" "I", .methodLink RX1 19 yX1_isHook, .static yX1_isHook, .initialized RX1, .code yX1_isHook cX1_isHook 1 (some .boolean), .methodLink RX1 29 yX1_holdAt, .instanceMethod yX1_holdAt, .selects RX1 yX1_holdAt yX1_holdAt, .code yX1_holdAt cX1_holdAt 3 (some (.object "LockerWall$Locker")), .fieldLink RX1 11 "LockerWall" "hooks" "[LLockerWall$Locker;", .fieldLink RX1 40 "LockerWall$Locker" "holds" "I", .methodLink RX1 36 yX0_letGo, .instanceMethod yX0_letGo, .selects RX0 yX0_letGo yX0_letGo, .initialized RX0, .code yX0_letGo cX0_letGo 3 (some .int), .fieldLink RX0 22 "LockerWall$Locker" "left" "I", .methodLink RX1 56 yX0_removeLast, .instanceMethod yX0_removeLast, .selects RX0 yX0_removeLast yX0_removeLast, .code yX0_removeLast cX0_removeLast 1 (some .int), .fieldLink RX0 25 "LockerWall$Locker" "count" "I", .fieldLink RX0 18 "LockerWall$Locker" "weights" "[I"] ++ wsX00 ++ wsX10)
def wsX1_letGoTwo : List Cond := .code yX1_letGoTwo cX1_letGoTwo 4 (some .int) :: ([.methodLink RX1 36 yX0_letGo, .instanceMethod yX0_letGo, .selects RX0 yX0_letGo yX0_letGo, .initialized RX0, .code yX0_letGo cX0_letGo 3 (some .int), .fieldLink RX0 22 "LockerWall$Locker" "left" "I"] ++ wsX00)
def wsX1_exchangeHeld : List Cond := .code yX1_exchangeHeld cX1_exchangeHeld 2 (some .int) :: ([.fieldLink RX1 95 "LockerWall$Locker" "room" "I", .fieldLink RX1 33 "LockerWall$Locker" "count" "I", .methodLink RX1 74 yX0_weight, .instanceMethod yX0_weight, .selects RX0 yX0_weight yX0_weight, .initialized RX0, .code yX0_weight cX0_weight 3 (some .int), .fieldLink RX0 25 "LockerWall$Locker" "count" "I", .fieldLink RX0 18 "LockerWall$Locker" "weights" "[I", .methodLink RX1 84 yX1_letGoTwo, .static yX1_letGoTwo, .initialized RX1, .code yX1_letGoTwo cX1_letGoTwo 4 (some .int), .methodLink RX1 36 yX0_letGo, .instanceMethod yX0_letGo, .selects RX0 yX0_letGo yX0_letGo, .code yX0_letGo cX0_letGo 3 (some .int), .fieldLink RX0 22 "LockerWall$Locker" "left" "I", .methodLink RX1 98 yX0_exchangeItems, .instanceMethod yX0_exchangeItems, .selects RX0 yX0_exchangeItems yX0_exchangeItems, .code yX0_exchangeItems cX0_exchangeItems 4 none] ++ wsX00)
def wsX1_moveHeld_r1 : List Cond := [Cond.fieldLink RX1 33 "LockerWall$Locker" "count" "I", Cond.methodLink RX1 84 yX1_letGoTwo, Cond.static yX1_letGoTwo, Cond.initialized RX1, Cond.code yX1_letGoTwo cX1_letGoTwo 4 (some .int), Cond.methodLink RX1 36 yX0_letGo, Cond.instanceMethod yX0_letGo, Cond.selects RX0 yX0_letGo yX0_letGo, Cond.initialized RX0, Cond.code yX0_letGo cX0_letGo 3 (some .int), Cond.fieldLink RX0 22 "LockerWall$Locker" "left" "I", Cond.methodLink RX1 56 yX0_removeLast, Cond.instanceMethod yX0_removeLast, Cond.selects RX0 yX0_removeLast yX0_removeLast, Cond.code yX0_removeLast cX0_removeLast 1 (some .int), Cond.fieldLink RX0 25 "LockerWall$Locker" "count" "I", Cond.fieldLink RX0 18 "LockerWall$Locker" "weights" "[I", Cond.methodLink RX1 53 yX0_accept, Cond.instanceMethod yX0_accept, Cond.selects RX0 yX0_accept yX0_accept, Cond.code yX0_accept cX0_accept 2 (some .boolean), Cond.fieldLink RX0 9 "LockerWall$Locker" "room" "I", Cond.methodLink RX0 28 yX0_weight, Cond.instanceMethod yX0_weight]
def wsX1_moveHeld_r2 : List Cond := [Cond.selects RX0 yX0_weight yX0_weight, Cond.code yX0_weight cX0_weight 3 (some .int)]
def wsX1_moveHeld : List Cond := .code yX1_moveHeld cX1_moveHeld 3 (some .int) :: ((wsX1_moveHeld_r1 ++ wsX1_moveHeld_r2) ++ wsX00)
def wsX1_actOnTwo_r1 : List Cond := [Cond.fieldLink RX1 49 "LockerWall$Locker" "isOpen" "Z", Cond.methodLink RX1 19 yX1_isHook, Cond.static yX1_isHook, Cond.initialized RX1, Cond.code yX1_isHook cX1_isHook 1 (some .boolean), Cond.methodLink RX1 29 yX1_holdAt, Cond.instanceMethod yX1_holdAt, Cond.selects RX1 yX1_holdAt yX1_holdAt, Cond.code yX1_holdAt cX1_holdAt 3 (some (.object "LockerWall$Locker")), Cond.fieldLink RX1 11 "LockerWall" "hooks" "[LLockerWall$Locker;", Cond.fieldLink RX1 40 "LockerWall$Locker" "holds" "I", Cond.methodLink RX1 36 yX0_letGo, Cond.instanceMethod yX0_letGo, Cond.selects RX0 yX0_letGo yX0_letGo, Cond.initialized RX0, Cond.code yX0_letGo cX0_letGo 3 (some .int), Cond.fieldLink RX0 22 "LockerWall$Locker" "left" "I", Cond.methodLink RX1 84 yX1_letGoTwo, Cond.static yX1_letGoTwo, Cond.code yX1_letGoTwo cX1_letGoTwo 4 (some .int), Cond.methodLink RX1 88 yX1_exchangeHeld, Cond.static yX1_exchangeHeld, Cond.code yX1_exchangeHeld cX1_exchangeHeld 2 (some .int), Cond.fieldLink RX1 95 "LockerWall$Locker" "room" "I"]
def wsX1_actOnTwo_r2 : List Cond := [Cond.fieldLink RX1 33 "LockerWall$Locker" "count" "I", Cond.methodLink RX1 74 yX0_weight, Cond.instanceMethod yX0_weight, Cond.selects RX0 yX0_weight yX0_weight, Cond.code yX0_weight cX0_weight 3 (some .int), Cond.fieldLink RX0 25 "LockerWall$Locker" "count" "I", Cond.fieldLink RX0 18 "LockerWall$Locker" "weights" "[I", Cond.methodLink RX1 98 yX0_exchangeItems, Cond.instanceMethod yX0_exchangeItems, Cond.selects RX0 yX0_exchangeItems yX0_exchangeItems, Cond.code yX0_exchangeItems cX0_exchangeItems 4 none, Cond.methodLink RX1 92 yX1_moveHeld, Cond.static yX1_moveHeld, Cond.code yX1_moveHeld cX1_moveHeld 3 (some .int), Cond.methodLink RX1 56 yX0_removeLast, Cond.instanceMethod yX0_removeLast, Cond.selects RX0 yX0_removeLast yX0_removeLast, Cond.code yX0_removeLast cX0_removeLast 1 (some .int), Cond.methodLink RX1 53 yX0_accept, Cond.instanceMethod yX0_accept, Cond.selects RX0 yX0_accept yX0_accept, Cond.code yX0_accept cX0_accept 2 (some .boolean), Cond.fieldLink RX0 9 "LockerWall$Locker" "room" "I", Cond.methodLink RX0 28 yX0_weight]
def wsX1_actOnTwo : List Cond := .code yX1_actOnTwo cX1_actOnTwo 6 (some .int) :: ((wsX1_actOnTwo_r1 ++ wsX1_actOnTwo_r2) ++ wsX00 ++ wsX10)
def wsX1_move_r1 : List Cond := [Cond.methodLink RX1 60 yX1_actOnTwo, Cond.instanceMethod yX1_actOnTwo, Cond.selects RX1 yX1_actOnTwo yX1_actOnTwo, Cond.initialized RX1, Cond.code yX1_actOnTwo cX1_actOnTwo 6 (some .int), Cond.fieldLink RX1 49 "LockerWall$Locker" "isOpen" "Z", Cond.methodLink RX1 19 yX1_isHook, Cond.static yX1_isHook, Cond.code yX1_isHook cX1_isHook 1 (some .boolean), Cond.methodLink RX1 29 yX1_holdAt, Cond.instanceMethod yX1_holdAt, Cond.selects RX1 yX1_holdAt yX1_holdAt, Cond.code yX1_holdAt cX1_holdAt 3 (some (.object "LockerWall$Locker")), Cond.fieldLink RX1 11 "LockerWall" "hooks" "[LLockerWall$Locker;", Cond.fieldLink RX1 40 "LockerWall$Locker" "holds" "I", Cond.methodLink RX1 36 yX0_letGo, Cond.instanceMethod yX0_letGo, Cond.selects RX0 yX0_letGo yX0_letGo, Cond.initialized RX0, Cond.code yX0_letGo cX0_letGo 3 (some .int), Cond.fieldLink RX0 22 "LockerWall$Locker" "left" "I", Cond.methodLink RX1 84 yX1_letGoTwo, Cond.static yX1_letGoTwo, Cond.code yX1_letGoTwo cX1_letGoTwo 4 (some .int)]
def wsX1_move_r2 : List Cond := [Cond.methodLink RX1 88 yX1_exchangeHeld, Cond.static yX1_exchangeHeld, Cond.code yX1_exchangeHeld cX1_exchangeHeld 2 (some .int), Cond.fieldLink RX1 95 "LockerWall$Locker" "room" "I", Cond.fieldLink RX1 33 "LockerWall$Locker" "count" "I", Cond.methodLink RX1 74 yX0_weight, Cond.instanceMethod yX0_weight, Cond.selects RX0 yX0_weight yX0_weight, Cond.code yX0_weight cX0_weight 3 (some .int), Cond.fieldLink RX0 25 "LockerWall$Locker" "count" "I", Cond.fieldLink RX0 18 "LockerWall$Locker" "weights" "[I", Cond.methodLink RX1 98 yX0_exchangeItems, Cond.instanceMethod yX0_exchangeItems, Cond.selects RX0 yX0_exchangeItems yX0_exchangeItems, Cond.code yX0_exchangeItems cX0_exchangeItems 4 none, Cond.methodLink RX1 92 yX1_moveHeld, Cond.static yX1_moveHeld, Cond.code yX1_moveHeld cX1_moveHeld 3 (some .int), Cond.methodLink RX1 56 yX0_removeLast, Cond.instanceMethod yX0_removeLast, Cond.selects RX0 yX0_removeLast yX0_removeLast, Cond.code yX0_removeLast cX0_removeLast 1 (some .int), Cond.methodLink RX1 53 yX0_accept, Cond.instanceMethod yX0_accept]
def wsX1_move_r3 : List Cond := [Cond.selects RX0 yX0_accept yX0_accept, Cond.code yX0_accept cX0_accept 2 (some .boolean), Cond.fieldLink RX0 9 "LockerWall$Locker" "room" "I", Cond.methodLink RX0 28 yX0_weight]
def wsX1_move : List Cond := .code yX1_move cX1_move 3 (some .int) :: ((wsX1_move_r1 ++ (wsX1_move_r2 ++ wsX1_move_r3)) ++ wsX00 ++ wsX10)
def wsX1_swap_r1 : List Cond := [Cond.methodLink RX1 60 yX1_actOnTwo, Cond.instanceMethod yX1_actOnTwo, Cond.selects RX1 yX1_actOnTwo yX1_actOnTwo, Cond.initialized RX1, Cond.code yX1_actOnTwo cX1_actOnTwo 6 (some .int), Cond.fieldLink RX1 49 "LockerWall$Locker" "isOpen" "Z", Cond.methodLink RX1 19 yX1_isHook, Cond.static yX1_isHook, Cond.code yX1_isHook cX1_isHook 1 (some .boolean), Cond.methodLink RX1 29 yX1_holdAt, Cond.instanceMethod yX1_holdAt, Cond.selects RX1 yX1_holdAt yX1_holdAt, Cond.code yX1_holdAt cX1_holdAt 3 (some (.object "LockerWall$Locker")), Cond.fieldLink RX1 11 "LockerWall" "hooks" "[LLockerWall$Locker;", Cond.fieldLink RX1 40 "LockerWall$Locker" "holds" "I", Cond.methodLink RX1 36 yX0_letGo, Cond.instanceMethod yX0_letGo, Cond.selects RX0 yX0_letGo yX0_letGo, Cond.initialized RX0, Cond.code yX0_letGo cX0_letGo 3 (some .int), Cond.fieldLink RX0 22 "LockerWall$Locker" "left" "I", Cond.methodLink RX1 84 yX1_letGoTwo, Cond.static yX1_letGoTwo, Cond.code yX1_letGoTwo cX1_letGoTwo 4 (some .int)]
def wsX1_swap_r2 : List Cond := [Cond.methodLink RX1 88 yX1_exchangeHeld, Cond.static yX1_exchangeHeld, Cond.code yX1_exchangeHeld cX1_exchangeHeld 2 (some .int), Cond.fieldLink RX1 95 "LockerWall$Locker" "room" "I", Cond.fieldLink RX1 33 "LockerWall$Locker" "count" "I", Cond.methodLink RX1 74 yX0_weight, Cond.instanceMethod yX0_weight, Cond.selects RX0 yX0_weight yX0_weight, Cond.code yX0_weight cX0_weight 3 (some .int), Cond.fieldLink RX0 25 "LockerWall$Locker" "count" "I", Cond.fieldLink RX0 18 "LockerWall$Locker" "weights" "[I", Cond.methodLink RX1 98 yX0_exchangeItems, Cond.instanceMethod yX0_exchangeItems, Cond.selects RX0 yX0_exchangeItems yX0_exchangeItems, Cond.code yX0_exchangeItems cX0_exchangeItems 4 none, Cond.methodLink RX1 92 yX1_moveHeld, Cond.static yX1_moveHeld, Cond.code yX1_moveHeld cX1_moveHeld 3 (some .int), Cond.methodLink RX1 56 yX0_removeLast, Cond.instanceMethod yX0_removeLast, Cond.selects RX0 yX0_removeLast yX0_removeLast, Cond.code yX0_removeLast cX0_removeLast 1 (some .int), Cond.methodLink RX1 53 yX0_accept, Cond.instanceMethod yX0_accept]
def wsX1_swap_r3 : List Cond := [Cond.selects RX0 yX0_accept yX0_accept, Cond.code yX0_accept cX0_accept 2 (some .boolean), Cond.fieldLink RX0 9 "LockerWall$Locker" "room" "I", Cond.methodLink RX0 28 yX0_weight]
def wsX1_swap : List Cond := .code yX1_swap cX1_swap 3 (some .int) :: ((wsX1_swap_r1 ++ (wsX1_swap_r2 ++ wsX1_swap_r3)) ++ wsX00 ++ wsX10)
def wsX1_find_r1 : List Cond := [Cond.fieldLink RX1 49 "LockerWall$Locker" "isOpen" "Z", Cond.methodLink RX1 23 yX1_isWeight, Cond.static yX1_isWeight, Cond.initialized RX1, Cond.code yX1_isWeight cX1_isWeight 1 (some .boolean), Cond.methodLink RX1 29 yX1_holdAt, Cond.instanceMethod yX1_holdAt, Cond.selects RX1 yX1_holdAt yX1_holdAt, Cond.code yX1_holdAt cX1_holdAt 3 (some (.object "LockerWall$Locker")), Cond.fieldLink RX1 11 "LockerWall" "hooks" "[LLockerWall$Locker;", Cond.fieldLink RX1 40 "LockerWall$Locker" "holds" "I", Cond.methodLink RX1 19 yX1_isHook, Cond.static yX1_isHook, Cond.code yX1_isHook cX1_isHook 1 (some .boolean), Cond.methodLink RX1 36 yX0_letGo, Cond.instanceMethod yX0_letGo, Cond.selects RX0 yX0_letGo yX0_letGo, Cond.initialized RX0, Cond.code yX0_letGo cX0_letGo 3 (some .int), Cond.fieldLink RX0 22 "LockerWall$Locker" "left" "I", Cond.methodLink RX1 64 yX0_contains, Cond.instanceMethod yX0_contains, Cond.selects RX0 yX0_contains yX0_contains, Cond.code yX0_contains cX0_contains 3 (some .boolean)]
def wsX1_find_r2 : List Cond := [Cond.fieldLink RX0 25 "LockerWall$Locker" "count" "I", Cond.fieldLink RX0 18 "LockerWall$Locker" "weights" "[I"]
def wsX1_find : List Cond := .code yX1_find cX1_find 4 (some .int) :: ((wsX1_find_r1 ++ wsX1_find_r2) ++ wsX00 ++ wsX10)
def wsX1_holdRow : List Cond := .code yX1_holdRow cX1_holdRow 4 (some .int) :: ([.methodLink RX1 29 yX1_holdAt, .instanceMethod yX1_holdAt, .selects RX1 yX1_holdAt yX1_holdAt, .initialized RX1, .code yX1_holdAt cX1_holdAt 3 (some (.object "LockerWall$Locker")), .fieldLink RX1 11 "LockerWall" "hooks" "[LLockerWall$Locker;", .fieldLink RX1 40 "LockerWall$Locker" "holds" "I", .methodLink RX1 19 yX1_isHook, .static yX1_isHook, .code yX1_isHook cX1_isHook 1 (some .boolean)] ++ wsX10 ++ wsX00)
def wsX1_letGoRow : List Cond := .code yX1_letGoRow cX1_letGoRow 8 (some .int) :: ([.fieldLink RX1 11 "LockerWall" "hooks" "[LLockerWall$Locker;", .methodLink RX1 19 yX1_isHook, .static yX1_isHook, .initialized RX1, .code yX1_isHook cX1_isHook 1 (some .boolean), .methodLink RX1 74 yX0_weight, .instanceMethod yX0_weight, .selects RX0 yX0_weight yX0_weight, .initialized RX0, .code yX0_weight cX0_weight 3 (some .int), .fieldLink RX0 25 "LockerWall$Locker" "count" "I", .fieldLink RX0 18 "LockerWall$Locker" "weights" "[I", .methodLink RX1 36 yX0_letGo, .instanceMethod yX0_letGo, .selects RX0 yX0_letGo yX0_letGo, .code yX0_letGo cX0_letGo 3 (some .int), .fieldLink RX0 22 "LockerWall$Locker" "left" "I"] ++ wsX10 ++ wsX00)
def wsX1_weigh_r1 : List Cond := [Cond.fieldLink RX1 15 "LockerWall" "latchHolds" "I", Cond.methodLink RX1 19 yX1_isHook, Cond.static yX1_isHook, Cond.initialized RX1, Cond.code yX1_isHook cX1_isHook 1 (some .boolean), Cond.methodLink RX1 67 yX1_holdRow, Cond.instanceMethod yX1_holdRow, Cond.selects RX1 yX1_holdRow yX1_holdRow, Cond.code yX1_holdRow cX1_holdRow 4 (some .int), Cond.methodLink RX1 29 yX1_holdAt, Cond.instanceMethod yX1_holdAt, Cond.selects RX1 yX1_holdAt yX1_holdAt, Cond.code yX1_holdAt cX1_holdAt 3 (some (.object "LockerWall$Locker")), Cond.fieldLink RX1 11 "LockerWall" "hooks" "[LLockerWall$Locker;", Cond.fieldLink RX1 40 "LockerWall$Locker" "holds" "I", Cond.methodLink RX1 70 yX1_letGoRow, Cond.instanceMethod yX1_letGoRow, Cond.selects RX1 yX1_letGoRow yX1_letGoRow, Cond.code yX1_letGoRow cX1_letGoRow 8 (some .int), Cond.methodLink RX1 74 yX0_weight, Cond.instanceMethod yX0_weight, Cond.selects RX0 yX0_weight yX0_weight, Cond.initialized RX0, Cond.code yX0_weight cX0_weight 3 (some .int)]
def wsX1_weigh_r2 : List Cond := [Cond.fieldLink RX0 25 "LockerWall$Locker" "count" "I", Cond.fieldLink RX0 18 "LockerWall$Locker" "weights" "[I", Cond.methodLink RX1 36 yX0_letGo, Cond.instanceMethod yX0_letGo, Cond.selects RX0 yX0_letGo yX0_letGo, Cond.code yX0_letGo cX0_letGo 3 (some .int), Cond.fieldLink RX0 22 "LockerWall$Locker" "left" "I"]
def wsX1_weigh : List Cond := .code yX1_weigh cX1_weigh 4 (some .int) :: ((wsX1_weigh_r1 ++ wsX1_weigh_r2) ++ wsX10 ++ wsX00)
def wsX1_drop : List Cond := .code yX1_drop cX1_drop 7 (some .int) :: ([.fieldLink RX1 49 "LockerWall$Locker" "isOpen" "Z", .fieldLink RX1 33 "LockerWall$Locker" "count" "I", .methodLink RX1 19 yX1_isHook, .static yX1_isHook, .initialized RX1, .code yX1_isHook cX1_isHook 1 (some .boolean), .methodLink RX1 29 yX1_holdAt, .instanceMethod yX1_holdAt, .selects RX1 yX1_holdAt yX1_holdAt, .code yX1_holdAt cX1_holdAt 3 (some (.object "LockerWall$Locker")), .fieldLink RX1 11 "LockerWall" "hooks" "[LLockerWall$Locker;", .fieldLink RX1 40 "LockerWall$Locker" "holds" "I", .methodLink RX1 36 yX0_letGo, .instanceMethod yX0_letGo, .selects RX0 yX0_letGo yX0_letGo, .initialized RX0, .code yX0_letGo cX0_letGo 3 (some .int), .fieldLink RX0 22 "LockerWall$Locker" "left" "I", .methodLink RX1 56 yX0_removeLast, .instanceMethod yX0_removeLast, .selects RX0 yX0_removeLast yX0_removeLast, .code yX0_removeLast cX0_removeLast 1 (some .int), .fieldLink RX0 25 "LockerWall$Locker" "count" "I", .fieldLink RX0 18 "LockerWall$Locker" "weights" "[I"] ++ wsX00 ++ wsX10)
def wsX1_tally : List Cond := .code yX1_tally cX1_tally 5 (some .long) :: ([.fieldLink RX1 15 "LockerWall" "latchHolds" "I", .methodLink RX1 29 yX1_holdAt, .instanceMethod yX1_holdAt, .selects RX1 yX1_holdAt yX1_holdAt, .initialized RX1, .code yX1_holdAt cX1_holdAt 3 (some (.object "LockerWall$Locker")), .fieldLink RX1 11 "LockerWall" "hooks" "[LLockerWall$Locker;", .fieldLink RX1 40 "LockerWall$Locker" "holds" "I", .methodLink RX1 19 yX1_isHook, .static yX1_isHook, .code yX1_isHook cX1_isHook 1 (some .boolean), .methodLink RX1 74 yX0_weight, .instanceMethod yX0_weight, .selects RX0 yX0_weight yX0_weight, .initialized RX0, .code yX0_weight cX0_weight 3 (some .int), .fieldLink RX0 25 "LockerWall$Locker" "count" "I", .fieldLink RX0 18 "LockerWall$Locker" "weights" "[I", .methodLink RX1 36 yX0_letGo, .instanceMethod yX0_letGo, .selects RX0 yX0_letGo yX0_letGo, .code yX0_letGo cX0_letGo 3 (some .int), .fieldLink RX0 22 "LockerWall$Locker" "left" "I"] ++ wsX10 ++ wsX00)
def wsX1_first : List Cond := .code yX1_first cX1_first 4 (some .int) :: ([.methodLink RX1 29 yX1_holdAt, .instanceMethod yX1_holdAt, .selects RX1 yX1_holdAt yX1_holdAt, .initialized RX1, .code yX1_holdAt cX1_holdAt 3 (some (.object "LockerWall$Locker")), .fieldLink RX1 11 "LockerWall" "hooks" "[LLockerWall$Locker;", .fieldLink RX1 40 "LockerWall$Locker" "holds" "I", .methodLink RX1 19 yX1_isHook, .static yX1_isHook, .code yX1_isHook cX1_isHook 1 (some .boolean), .methodLink RX1 74 yX0_weight, .instanceMethod yX0_weight, .selects RX0 yX0_weight yX0_weight, .initialized RX0, .code yX0_weight cX0_weight 3 (some .int), .fieldLink RX0 25 "LockerWall$Locker" "count" "I", .fieldLink RX0 18 "LockerWall$Locker" "weights" "[I", .methodLink RX1 36 yX0_letGo, .instanceMethod yX0_letGo, .selects RX0 yX0_letGo yX0_letGo, .code yX0_letGo cX0_letGo 3 (some .int), .fieldLink RX0 22 "LockerWall$Locker" "left" "I"] ++ wsX10 ++ wsX00)
def wsX1_recode : List Cond := .code yX1_recode cX1_recode 8 (some .int) :: ([.fieldLink RX1 49 "LockerWall$Locker" "isOpen" "Z", .fieldLink RX1 46 "LockerWall$Locker" "code" "I", .methodLink RX1 19 yX1_isHook, .static yX1_isHook, .initialized RX1, .code yX1_isHook cX1_isHook 1 (some .boolean), .methodLink RX1 29 yX1_holdAt, .instanceMethod yX1_holdAt, .selects RX1 yX1_holdAt yX1_holdAt, .code yX1_holdAt cX1_holdAt 3 (some (.object "LockerWall$Locker")), .fieldLink RX1 11 "LockerWall" "hooks" "[LLockerWall$Locker;", .fieldLink RX1 40 "LockerWall$Locker" "holds" "I", .methodLink RX1 36 yX0_letGo, .instanceMethod yX0_letGo, .selects RX0 yX0_letGo yX0_letGo, .initialized RX0, .code yX0_letGo cX0_letGo 3 (some .int), .fieldLink RX0 22 "LockerWall$Locker" "left" "I"] ++ wsX00 ++ wsX10)
def wsX1_told : List Cond := .code yX1_told cX1_told 4 (some .int) :: ([.fieldLink RX1 11 "LockerWall" "hooks" "[LLockerWall$Locker;", .methodLink RX1 19 yX1_isHook, .static yX1_isHook, .initialized RX1, .code yX1_isHook cX1_isHook 1 (some .boolean), .methodLink RX1 77 yX0_fact, .instanceMethod yX0_fact, .selects RX0 yX0_fact yX0_fact, .initialized RX0, .code yX0_fact cX0_fact 2 (some .int), .fieldLink RX0 9 "LockerWall$Locker" "room" "I", .fieldLink RX0 15 "LockerWall$Locker" "code" "I", .fieldLink RX0 32 "LockerWall$Locker" "isOpen" "Z", .fieldLink RX0 36 "LockerWall$Locker" "wrongTries" "I", .fieldLink RX0 25 "LockerWall$Locker" "count" "I", .fieldLink RX0 39 "LockerWall$Locker" "holds" "I", .fieldLink RX0 22 "LockerWall$Locker" "left" "I", .methodLink RX0 28 yX0_weight, .instanceMethod yX0_weight, .selects RX0 yX0_weight yX0_weight, .code yX0_weight cX0_weight 3 (some .int), .fieldLink RX0 18 "LockerWall$Locker" "weights" "[I"] ++ wsX10 ++ wsX00)
def wsX1_item : List Cond := .code yX1_item cX1_item 4 (some .int) :: ([.fieldLink RX1 11 "LockerWall" "hooks" "[LLockerWall$Locker;", .methodLink RX1 19 yX1_isHook, .static yX1_isHook, .initialized RX1, .code yX1_isHook cX1_isHook 1 (some .boolean), .methodLink RX1 81 yX0_weightOf, .instanceMethod yX0_weightOf, .selects RX0 yX0_weightOf yX0_weightOf, .initialized RX0, .code yX0_weightOf cX0_weightOf 2 (some .int), .fieldLink RX0 25 "LockerWall$Locker" "count" "I", .fieldLink RX0 18 "LockerWall$Locker" "weights" "[I"] ++ wsX10 ++ wsX00)
def wsX1_latch : List Cond := .code yX1_latch cX1_latch 1 (some .int) :: ([.fieldLink RX1 15 "LockerWall" "latchHolds" "I"] ++ wsX10)
def wsX2_init : List Cond := .code yX2_init cX2_init 1 none :: ([.methodLink RX2 1 objectInit, .instanceMethod objectInit, .code objectInit ⟨#[0xb1]⟩ 1 none, .arrayClass .boolean, .fieldLink RX2 7 "LockerWallModel" "there" "[Z", .arrayClass .int, .fieldLink RX2 13 "LockerWallModel" "room" "[I", .fieldLink RX2 17 "LockerWallModel" "code" "[I", .fieldLink RX2 20 "LockerWallModel" "open" "[Z", .fieldLink RX2 23 "LockerWallModel" "tries" "[I", .fieldLink RX2 26 "LockerWallModel" "many" "[I", .fieldLink RX2 29 "LockerWallModel" "holds" "[I", .fieldLink RX2 32 "LockerWallModel" "left" "[I", .fieldLink RX2 35 "LockerWallModel" "item" "[I"] ++ wsX20)
def wsX2_isHook : List Cond := .code yX2_isHook cX2_isHook 1 (some .boolean) :: ([])
def wsX2_isWeight : List Cond := .code yX2_isWeight cX2_isWeight 1 (some .boolean) :: ([])
def wsX2_weight : List Cond := .code yX2_weight cX2_weight 4 (some .int) :: ([.fieldLink RX2 26 "LockerWallModel" "many" "[I", .fieldLink RX2 35 "LockerWallModel" "item" "[I"] ++ wsX20)
def wsX2_let : List Cond := .code yX2_let cX2_let 4 (some .int) :: ([.fieldLink RX2 29 "LockerWallModel" "holds" "[I", .fieldLink RX2 32 "LockerWallModel" "left" "[I"] ++ wsX20)
def wsX2_letBoth : List Cond := .code yX2_letBoth cX2_letBoth 5 (some .int) :: ([.fieldLink RX2 29 "LockerWallModel" "holds" "[I", .fieldLink RX2 32 "LockerWallModel" "left" "[I"] ++ wsX20)
def wsX2_hasRoom : List Cond := .code yX2_hasRoom cX2_hasRoom 3 (some .boolean) :: ([.fieldLink RX2 26 "LockerWallModel" "many" "[I", .fieldLink RX2 13 "LockerWallModel" "room" "[I", .methodLink RX2 38 yX2_weight, .instanceMethod yX2_weight, .selects RX2 yX2_weight yX2_weight, .initialized RX2, .code yX2_weight cX2_weight 4 (some .int), .fieldLink RX2 35 "LockerWallModel" "item" "[I"] ++ wsX20)
def wsX2_add : List Cond := .code yX2_add cX2_add 3 none :: ([.fieldLink RX2 35 "LockerWallModel" "item" "[I", .fieldLink RX2 26 "LockerWallModel" "many" "[I"] ++ wsX20)
def wsX2_takeLast : List Cond := .code yX2_takeLast cX2_takeLast 2 (some .int) :: ([.fieldLink RX2 26 "LockerWallModel" "many" "[I", .fieldLink RX2 35 "LockerWallModel" "item" "[I"] ++ wsX20)
def wsX2_mount : List Cond := .code yX2_mount cX2_mount 4 (some .int) :: ([.fieldLink RX2 7 "LockerWallModel" "there" "[Z", .fieldLink RX2 13 "LockerWallModel" "room" "[I", .fieldLink RX2 17 "LockerWallModel" "code" "[I", .fieldLink RX2 20 "LockerWallModel" "open" "[Z", .fieldLink RX2 23 "LockerWallModel" "tries" "[I", .fieldLink RX2 26 "LockerWallModel" "many" "[I", .fieldLink RX2 29 "LockerWallModel" "holds" "[I", .fieldLink RX2 32 "LockerWallModel" "left" "[I", .methodLink RX2 42 yX2_isHook, .static yX2_isHook, .initialized RX2, .code yX2_isHook cX2_isHook 1 (some .boolean), .methodLink RX2 46 yX2_isWeight, .static yX2_isWeight, .code yX2_isWeight cX2_isWeight 1 (some .boolean)] ++ wsX20)
def wsX2_unmount : List Cond := .code yX2_unmount cX2_unmount 2 (some .int) :: ([.fieldLink RX2 49 "LockerWallModel" "latched" "I", .fieldLink RX2 7 "LockerWallModel" "there" "[Z", .fieldLink RX2 26 "LockerWallModel" "many" "[I", .fieldLink RX2 29 "LockerWallModel" "holds" "[I", .methodLink RX2 42 yX2_isHook, .static yX2_isHook, .initialized RX2, .code yX2_isHook cX2_isHook 1 (some .boolean), .methodLink RX2 53 yX2_let, .instanceMethod yX2_let, .selects RX2 yX2_let yX2_let, .code yX2_let cX2_let 4 (some .int), .fieldLink RX2 32 "LockerWallModel" "left" "[I"] ++ wsX20)
def wsX2_open : List Cond := .code yX2_open cX2_open 3 (some .int) :: ([.fieldLink RX2 7 "LockerWallModel" "there" "[Z", .fieldLink RX2 23 "LockerWallModel" "tries" "[I", .fieldLink RX2 17 "LockerWallModel" "code" "[I", .fieldLink RX2 20 "LockerWallModel" "open" "[Z", .methodLink RX2 42 yX2_isHook, .static yX2_isHook, .initialized RX2, .code yX2_isHook cX2_isHook 1 (some .boolean), .methodLink RX2 53 yX2_let, .instanceMethod yX2_let, .selects RX2 yX2_let yX2_let, .code yX2_let cX2_let 4 (some .int), .fieldLink RX2 29 "LockerWallModel" "holds" "[I", .fieldLink RX2 32 "LockerWallModel" "left" "[I"] ++ wsX20)
def wsX2_shut : List Cond := .code yX2_shut cX2_shut 2 (some .int) :: ([.fieldLink RX2 7 "LockerWallModel" "there" "[Z", .fieldLink RX2 20 "LockerWallModel" "open" "[Z", .methodLink RX2 42 yX2_isHook, .static yX2_isHook, .initialized RX2, .code yX2_isHook cX2_isHook 1 (some .boolean), .methodLink RX2 53 yX2_let, .instanceMethod yX2_let, .selects RX2 yX2_let yX2_let, .code yX2_let cX2_let 4 (some .int), .fieldLink RX2 29 "LockerWallModel" "holds" "[I", .fieldLink RX2 32 "LockerWallModel" "left" "[I"] ++ wsX20)
def wsX2_put_r1 : List Cond := [Cond.fieldLink RX2 7 "LockerWallModel" "there" "[Z", Cond.fieldLink RX2 20 "LockerWallModel" "open" "[Z", Cond.fieldLink RX2 26 "LockerWallModel" "many" "[I", Cond.methodLink RX2 42 yX2_isHook, Cond.static yX2_isHook, Cond.initialized RX2, Cond.code yX2_isHook cX2_isHook 1 (some .boolean), Cond.methodLink RX2 46 yX2_isWeight, Cond.static yX2_isWeight, Cond.code yX2_isWeight cX2_isWeight 1 (some .boolean), Cond.methodLink RX2 53 yX2_let, Cond.instanceMethod yX2_let, Cond.selects RX2 yX2_let yX2_let, Cond.code yX2_let cX2_let 4 (some .int), Cond.fieldLink RX2 29 "LockerWallModel" "holds" "[I", Cond.fieldLink RX2 32 "LockerWallModel" "left" "[I", Cond.methodLink RX2 57 yX2_hasRoom, Cond.instanceMethod yX2_hasRoom, Cond.selects RX2 yX2_hasRoom yX2_hasRoom, Cond.code yX2_hasRoom cX2_hasRoom 3 (some .boolean), Cond.fieldLink RX2 13 "LockerWallModel" "room" "[I", Cond.methodLink RX2 38 yX2_weight, Cond.instanceMethod yX2_weight, Cond.selects RX2 yX2_weight yX2_weight]
def wsX2_put_r2 : List Cond := [Cond.code yX2_weight cX2_weight 4 (some .int), Cond.fieldLink RX2 35 "LockerWallModel" "item" "[I", Cond.methodLink RX2 61 yX2_add, Cond.instanceMethod yX2_add, Cond.selects RX2 yX2_add yX2_add, Cond.code yX2_add cX2_add 3 none]
def wsX2_put : List Cond := .code yX2_put cX2_put 3 (some .int) :: ((wsX2_put_r1 ++ wsX2_put_r2) ++ wsX20)
def wsX2_take : List Cond := .code yX2_take cX2_take 2 (some .int) :: ([.fieldLink RX2 7 "LockerWallModel" "there" "[Z", .fieldLink RX2 20 "LockerWallModel" "open" "[Z", .fieldLink RX2 26 "LockerWallModel" "many" "[I", .methodLink RX2 42 yX2_isHook, .static yX2_isHook, .initialized RX2, .code yX2_isHook cX2_isHook 1 (some .boolean), .methodLink RX2 53 yX2_let, .instanceMethod yX2_let, .selects RX2 yX2_let yX2_let, .code yX2_let cX2_let 4 (some .int), .fieldLink RX2 29 "LockerWallModel" "holds" "[I", .fieldLink RX2 32 "LockerWallModel" "left" "[I", .methodLink RX2 65 yX2_takeLast, .instanceMethod yX2_takeLast, .selects RX2 yX2_takeLast yX2_takeLast, .code yX2_takeLast cX2_takeLast 2 (some .int), .fieldLink RX2 35 "LockerWallModel" "item" "[I"] ++ wsX20)
def wsX2_move_r1 : List Cond := [Cond.fieldLink RX2 7 "LockerWallModel" "there" "[Z", Cond.fieldLink RX2 20 "LockerWallModel" "open" "[Z", Cond.fieldLink RX2 26 "LockerWallModel" "many" "[I", Cond.methodLink RX2 42 yX2_isHook, Cond.static yX2_isHook, Cond.initialized RX2, Cond.code yX2_isHook cX2_isHook 1 (some .boolean), Cond.methodLink RX2 53 yX2_let, Cond.instanceMethod yX2_let, Cond.selects RX2 yX2_let yX2_let, Cond.code yX2_let cX2_let 4 (some .int), Cond.fieldLink RX2 29 "LockerWallModel" "holds" "[I", Cond.fieldLink RX2 32 "LockerWallModel" "left" "[I", Cond.methodLink RX2 68 yX2_letBoth, Cond.instanceMethod yX2_letBoth, Cond.selects RX2 yX2_letBoth yX2_letBoth, Cond.code yX2_letBoth cX2_letBoth 5 (some .int), Cond.methodLink RX2 65 yX2_takeLast, Cond.instanceMethod yX2_takeLast, Cond.selects RX2 yX2_takeLast yX2_takeLast, Cond.code yX2_takeLast cX2_takeLast 2 (some .int), Cond.fieldLink RX2 35 "LockerWallModel" "item" "[I", Cond.methodLink RX2 57 yX2_hasRoom, Cond.instanceMethod yX2_hasRoom]
def wsX2_move_r2 : List Cond := [Cond.selects RX2 yX2_hasRoom yX2_hasRoom, Cond.code yX2_hasRoom cX2_hasRoom 3 (some .boolean), Cond.fieldLink RX2 13 "LockerWallModel" "room" "[I", Cond.methodLink RX2 38 yX2_weight, Cond.instanceMethod yX2_weight, Cond.selects RX2 yX2_weight yX2_weight, Cond.code yX2_weight cX2_weight 4 (some .int), Cond.methodLink RX2 61 yX2_add, Cond.instanceMethod yX2_add, Cond.selects RX2 yX2_add yX2_add, Cond.code yX2_add cX2_add 3 none]
def wsX2_move : List Cond := .code yX2_move cX2_move 4 (some .int) :: ((wsX2_move_r1 ++ wsX2_move_r2) ++ wsX20)
def wsX2_swap : List Cond := .code yX2_swap cX2_swap 5 (some .int) :: ([.fieldLink RX2 7 "LockerWallModel" "there" "[Z", .fieldLink RX2 20 "LockerWallModel" "open" "[Z", .fieldLink RX2 13 "LockerWallModel" "room" "[I", .fieldLink RX2 35 "LockerWallModel" "item" "[I", .fieldLink RX2 26 "LockerWallModel" "many" "[I", .methodLink RX2 42 yX2_isHook, .static yX2_isHook, .initialized RX2, .code yX2_isHook cX2_isHook 1 (some .boolean), .methodLink RX2 53 yX2_let, .instanceMethod yX2_let, .selects RX2 yX2_let yX2_let, .code yX2_let cX2_let 4 (some .int), .fieldLink RX2 29 "LockerWallModel" "holds" "[I", .fieldLink RX2 32 "LockerWallModel" "left" "[I", .methodLink RX2 68 yX2_letBoth, .instanceMethod yX2_letBoth, .selects RX2 yX2_letBoth yX2_letBoth, .code yX2_letBoth cX2_letBoth 5 (some .int), .methodLink RX2 38 yX2_weight, .instanceMethod yX2_weight, .selects RX2 yX2_weight yX2_weight, .code yX2_weight cX2_weight 4 (some .int)] ++ wsX20)
def wsX2_hasItem : List Cond := .code yX2_hasItem cX2_hasItem 5 (some .boolean) :: ([.fieldLink RX2 26 "LockerWallModel" "many" "[I", .fieldLink RX2 35 "LockerWallModel" "item" "[I"] ++ wsX20)
def wsX2_find : List Cond := .code yX2_find cX2_find 4 (some .int) :: ([.fieldLink RX2 7 "LockerWallModel" "there" "[Z", .fieldLink RX2 20 "LockerWallModel" "open" "[Z", .methodLink RX2 46 yX2_isWeight, .static yX2_isWeight, .initialized RX2, .code yX2_isWeight cX2_isWeight 1 (some .boolean), .methodLink RX2 72 yX2_hasItem, .instanceMethod yX2_hasItem, .selects RX2 yX2_hasItem yX2_hasItem, .code yX2_hasItem cX2_hasItem 5 (some .boolean), .fieldLink RX2 26 "LockerWallModel" "many" "[I", .fieldLink RX2 35 "LockerWallModel" "item" "[I", .methodLink RX2 53 yX2_let, .instanceMethod yX2_let, .selects RX2 yX2_let yX2_let, .code yX2_let cX2_let 4 (some .int), .fieldLink RX2 29 "LockerWallModel" "holds" "[I", .fieldLink RX2 32 "LockerWallModel" "left" "[I"] ++ wsX20)
def wsX2_weigh : List Cond := .code yX2_weigh cX2_weigh 6 (some .int) :: ([.fieldLink RX2 49 "LockerWallModel" "latched" "I", .fieldLink RX2 7 "LockerWallModel" "there" "[Z", .methodLink RX2 42 yX2_isHook, .static yX2_isHook, .initialized RX2, .code yX2_isHook cX2_isHook 1 (some .boolean), .methodLink RX2 38 yX2_weight, .instanceMethod yX2_weight, .selects RX2 yX2_weight yX2_weight, .code yX2_weight cX2_weight 4 (some .int), .fieldLink RX2 26 "LockerWallModel" "many" "[I", .fieldLink RX2 35 "LockerWallModel" "item" "[I", .methodLink RX2 53 yX2_let, .instanceMethod yX2_let, .selects RX2 yX2_let yX2_let, .code yX2_let cX2_let 4 (some .int), .fieldLink RX2 29 "LockerWallModel" "holds" "[I", .fieldLink RX2 32 "LockerWallModel" "left" "[I"] ++ wsX20)
def wsX2_drop : List Cond := .code yX2_drop cX2_drop 7 (some .int) :: ([.fieldLink RX2 7 "LockerWallModel" "there" "[Z", .fieldLink RX2 20 "LockerWallModel" "open" "[Z", .fieldLink RX2 26 "LockerWallModel" "many" "[I", .methodLink RX2 42 yX2_isHook, .static yX2_isHook, .initialized RX2, .code yX2_isHook cX2_isHook 1 (some .boolean), .methodLink RX2 53 yX2_let, .instanceMethod yX2_let, .selects RX2 yX2_let yX2_let, .code yX2_let cX2_let 4 (some .int), .fieldLink RX2 29 "LockerWallModel" "holds" "[I", .fieldLink RX2 32 "LockerWallModel" "left" "[I", .methodLink RX2 65 yX2_takeLast, .instanceMethod yX2_takeLast, .selects RX2 yX2_takeLast yX2_takeLast, .code yX2_takeLast cX2_takeLast 2 (some .int), .fieldLink RX2 35 "LockerWallModel" "item" "[I"] ++ wsX20)
def wsX2_tally : List Cond := .code yX2_tally cX2_tally 4 (some .long) :: ([.fieldLink RX2 49 "LockerWallModel" "latched" "I", .fieldLink RX2 7 "LockerWallModel" "there" "[Z", .methodLink RX2 38 yX2_weight, .instanceMethod yX2_weight, .selects RX2 yX2_weight yX2_weight, .initialized RX2, .code yX2_weight cX2_weight 4 (some .int), .fieldLink RX2 26 "LockerWallModel" "many" "[I", .fieldLink RX2 35 "LockerWallModel" "item" "[I", .methodLink RX2 53 yX2_let, .instanceMethod yX2_let, .selects RX2 yX2_let yX2_let, .code yX2_let cX2_let 4 (some .int), .fieldLink RX2 29 "LockerWallModel" "holds" "[I", .fieldLink RX2 32 "LockerWallModel" "left" "[I"] ++ wsX20)
def wsX2_first : List Cond := .code yX2_first cX2_first 4 (some .int) :: ([.fieldLink RX2 7 "LockerWallModel" "there" "[Z", .methodLink RX2 38 yX2_weight, .instanceMethod yX2_weight, .selects RX2 yX2_weight yX2_weight, .initialized RX2, .code yX2_weight cX2_weight 4 (some .int), .fieldLink RX2 26 "LockerWallModel" "many" "[I", .fieldLink RX2 35 "LockerWallModel" "item" "[I", .methodLink RX2 53 yX2_let, .instanceMethod yX2_let, .selects RX2 yX2_let yX2_let, .code yX2_let cX2_let 4 (some .int), .fieldLink RX2 29 "LockerWallModel" "holds" "[I", .fieldLink RX2 32 "LockerWallModel" "left" "[I"] ++ wsX20)
def wsX2_recode : List Cond := .code yX2_recode cX2_recode 3 (some .int) :: ([.fieldLink RX2 7 "LockerWallModel" "there" "[Z", .fieldLink RX2 29 "LockerWallModel" "holds" "[I", .fieldLink RX2 32 "LockerWallModel" "left" "[I", .fieldLink RX2 20 "LockerWallModel" "open" "[Z", .fieldLink RX2 17 "LockerWallModel" "code" "[I", .methodLink RX2 42 yX2_isHook, .static yX2_isHook, .initialized RX2, .code yX2_isHook cX2_isHook 1 (some .boolean)] ++ wsX20)
def wsX2_told : List Cond := .code yX2_told cX2_told 3 (some .int) :: ([.fieldLink RX2 7 "LockerWallModel" "there" "[Z", .fieldLink RX2 13 "LockerWallModel" "room" "[I", .fieldLink RX2 17 "LockerWallModel" "code" "[I", .fieldLink RX2 20 "LockerWallModel" "open" "[Z", .fieldLink RX2 23 "LockerWallModel" "tries" "[I", .fieldLink RX2 26 "LockerWallModel" "many" "[I", .fieldLink RX2 29 "LockerWallModel" "holds" "[I", .fieldLink RX2 32 "LockerWallModel" "left" "[I", .methodLink RX2 42 yX2_isHook, .static yX2_isHook, .initialized RX2, .code yX2_isHook cX2_isHook 1 (some .boolean), .methodLink RX2 38 yX2_weight, .instanceMethod yX2_weight, .selects RX2 yX2_weight yX2_weight, .code yX2_weight cX2_weight 4 (some .int), .fieldLink RX2 35 "LockerWallModel" "item" "[I"] ++ wsX20)
def wsX2_item : List Cond := .code yX2_item cX2_item 3 (some .int) :: ([.fieldLink RX2 7 "LockerWallModel" "there" "[Z", .fieldLink RX2 26 "LockerWallModel" "many" "[I", .fieldLink RX2 35 "LockerWallModel" "item" "[I", .methodLink RX2 42 yX2_isHook, .static yX2_isHook, .initialized RX2, .code yX2_isHook cX2_isHook 1 (some .boolean)] ++ wsX20)
def wsX2_latch : List Cond := .code yX2_latch cX2_latch 1 (some .int) :: ([.fieldLink RX2 49 "LockerWallModel" "latched" "I"] ++ wsX20)
def wsL_law_r1 : List Cond := [Cond.classLink RL 7 RX1, Cond.instantiable RX1 2, Cond.initialized RX1, Cond.classLink RL 10 RX2, Cond.instantiable RX2 10, Cond.initialized RX2, Cond.methodLink RL 9 yX1_init, Cond.instanceMethod yX1_init, Cond.code yX1_init cX1_init 1 none, Cond.methodLink RX1 1 objectInit, Cond.instanceMethod objectInit, Cond.code objectInit ⟨#[0xb1]⟩ 1 none, Cond.classLink RX1 9 RX0, Cond.fieldLink RX1 11 "LockerWall" "hooks" "[LLockerWall$Locker;", Cond.fieldLink RX1 15 "LockerWall" "latchHolds" "I", Cond.methodLink RL 12 yX2_init, Cond.instanceMethod yX2_init, Cond.code yX2_init cX2_init 1 none, Cond.methodLink RX2 1 objectInit, Cond.arrayClass .boolean, Cond.fieldLink RX2 7 "LockerWallModel" "there" "[Z", Cond.arrayClass .int, Cond.fieldLink RX2 13 "LockerWallModel" "room" "[I", Cond.fieldLink RX2 17 "LockerWallModel" "code" "[I"]
def wsL_law_r2 : List Cond := [Cond.fieldLink RX2 20 "LockerWallModel" "open" "[Z", Cond.fieldLink RX2 23 "LockerWallModel" "tries" "[I", Cond.fieldLink RX2 26 "LockerWallModel" "many" "[I", Cond.fieldLink RX2 29 "LockerWallModel" "holds" "[I", Cond.fieldLink RX2 32 "LockerWallModel" "left" "[I", Cond.fieldLink RX2 35 "LockerWallModel" "item" "[I", Cond.methodLink RL 13 yX1_mount, Cond.instanceMethod yX1_mount, Cond.selects RX1 yX1_mount yX1_mount, Cond.code yX1_mount cX1_mount 4 (some .int), Cond.instantiable RX0 8, Cond.initialized RX0, Cond.methodLink RX1 19 yX1_isHook, Cond.static yX1_isHook, Cond.code yX1_isHook cX1_isHook 1 (some .boolean), Cond.methodLink RX1 23 yX1_isWeight, Cond.static yX1_isWeight, Cond.code yX1_isWeight cX1_isWeight 1 (some .boolean), Cond.methodLink RX1 26 yX0_init, Cond.instanceMethod yX0_init, Cond.code yX0_init cX0_init 3 none, Cond.methodLink RX0 3 objectInit, Cond.fieldLink RX0 9 "LockerWall$Locker" "room" "I", Cond.fieldLink RX0 15 "LockerWall$Locker" "code" "I"]
def wsL_law_r3 : List Cond := [Cond.fieldLink RX0 18 "LockerWall$Locker" "weights" "[I", Cond.methodLink RL 17 yX2_mount, Cond.instanceMethod yX2_mount, Cond.selects RX2 yX2_mount yX2_mount, Cond.code yX2_mount cX2_mount 4 (some .int), Cond.methodLink RX2 42 yX2_isHook, Cond.static yX2_isHook, Cond.code yX2_isHook cX2_isHook 1 (some .boolean), Cond.methodLink RX2 46 yX2_isWeight, Cond.static yX2_isWeight, Cond.code yX2_isWeight cX2_isWeight 1 (some .boolean), Cond.methodLink RL 18 yX1_unmount, Cond.instanceMethod yX1_unmount, Cond.selects RX1 yX1_unmount yX1_unmount, Cond.code yX1_unmount cX1_unmount 3 (some .int), Cond.fieldLink RX1 33 "LockerWall$Locker" "count" "I", Cond.fieldLink RX1 40 "LockerWall$Locker" "holds" "I", Cond.methodLink RX1 29 yX1_holdAt, Cond.instanceMethod yX1_holdAt, Cond.selects RX1 yX1_holdAt yX1_holdAt, Cond.code yX1_holdAt cX1_holdAt 3 (some (.object "LockerWall$Locker")), Cond.methodLink RX1 36 yX0_letGo, Cond.instanceMethod yX0_letGo, Cond.selects RX0 yX0_letGo yX0_letGo]
def wsL_law_r4 : List Cond := [Cond.code yX0_letGo cX0_letGo 3 (some .int), Cond.fieldLink RX0 22 "LockerWall$Locker" "left" "I", Cond.methodLink RL 22 yX2_unmount, Cond.instanceMethod yX2_unmount, Cond.selects RX2 yX2_unmount yX2_unmount, Cond.code yX2_unmount cX2_unmount 2 (some .int), Cond.fieldLink RX2 49 "LockerWallModel" "latched" "I", Cond.methodLink RX2 53 yX2_let, Cond.instanceMethod yX2_let, Cond.selects RX2 yX2_let yX2_let, Cond.code yX2_let cX2_let 4 (some .int), Cond.methodLink RL 23 yX1_open, Cond.instanceMethod yX1_open, Cond.selects RX1 yX1_open yX1_open, Cond.code yX1_open cX1_open 4 (some .int), Cond.fieldLink RX1 43 "LockerWall$Locker" "wrongTries" "I", Cond.fieldLink RX1 46 "LockerWall$Locker" "code" "I", Cond.fieldLink RX1 49 "LockerWall$Locker" "isOpen" "Z", Cond.methodLink RL 27 yX2_open, Cond.instanceMethod yX2_open, Cond.selects RX2 yX2_open yX2_open, Cond.code yX2_open cX2_open 3 (some .int), Cond.methodLink RL 28 yX1_shut, Cond.instanceMethod yX1_shut]
def wsL_law_r5 : List Cond := [Cond.selects RX1 yX1_shut yX1_shut, Cond.code yX1_shut cX1_shut 3 (some .int), Cond.methodLink RL 31 yX2_shut, Cond.instanceMethod yX2_shut, Cond.selects RX2 yX2_shut yX2_shut, Cond.code yX2_shut cX2_shut 2 (some .int), Cond.methodLink RL 32 yX1_put, Cond.instanceMethod yX1_put, Cond.selects RX1 yX1_put yX1_put, Cond.code yX1_put cX1_put 4 (some .int), Cond.methodLink RX1 53 yX0_accept, Cond.instanceMethod yX0_accept, Cond.selects RX0 yX0_accept yX0_accept, Cond.code yX0_accept cX0_accept 2 (some .boolean), Cond.fieldLink RX0 25 "LockerWall$Locker" "count" "I", Cond.methodLink RX0 28 yX0_weight, Cond.instanceMethod yX0_weight, Cond.selects RX0 yX0_weight yX0_weight, Cond.code yX0_weight cX0_weight 3 (some .int), Cond.methodLink RL 35 yX2_put, Cond.instanceMethod yX2_put, Cond.selects RX2 yX2_put yX2_put, Cond.code yX2_put cX2_put 3 (some .int), Cond.methodLink RX2 57 yX2_hasRoom]
def wsL_law_r6 : List Cond := [Cond.instanceMethod yX2_hasRoom, Cond.selects RX2 yX2_hasRoom yX2_hasRoom, Cond.code yX2_hasRoom cX2_hasRoom 3 (some .boolean), Cond.methodLink RX2 38 yX2_weight, Cond.instanceMethod yX2_weight, Cond.selects RX2 yX2_weight yX2_weight, Cond.code yX2_weight cX2_weight 4 (some .int), Cond.methodLink RX2 61 yX2_add, Cond.instanceMethod yX2_add, Cond.selects RX2 yX2_add yX2_add, Cond.code yX2_add cX2_add 3 none, Cond.methodLink RL 36 yX1_take, Cond.instanceMethod yX1_take, Cond.selects RX1 yX1_take yX1_take, Cond.code yX1_take cX1_take 3 (some .int), Cond.methodLink RX1 56 yX0_removeLast, Cond.instanceMethod yX0_removeLast, Cond.selects RX0 yX0_removeLast yX0_removeLast, Cond.code yX0_removeLast cX0_removeLast 1 (some .int), Cond.methodLink RL 39 yX2_take, Cond.instanceMethod yX2_take, Cond.selects RX2 yX2_take yX2_take, Cond.code yX2_take cX2_take 2 (some .int), Cond.methodLink RX2 65 yX2_takeLast]
def wsL_law_r7 : List Cond := [Cond.instanceMethod yX2_takeLast, Cond.selects RX2 yX2_takeLast yX2_takeLast, Cond.code yX2_takeLast cX2_takeLast 2 (some .int), Cond.methodLink RL 40 yX1_move, Cond.instanceMethod yX1_move, Cond.selects RX1 yX1_move yX1_move, Cond.code yX1_move cX1_move 3 (some .int), Cond.methodLink RX1 60 yX1_actOnTwo, Cond.instanceMethod yX1_actOnTwo, Cond.selects RX1 yX1_actOnTwo yX1_actOnTwo, Cond.code yX1_actOnTwo cX1_actOnTwo 6 (some .int), Cond.methodLink RX1 84 yX1_letGoTwo, Cond.static yX1_letGoTwo, Cond.code yX1_letGoTwo cX1_letGoTwo 4 (some .int), Cond.methodLink RX1 88 yX1_exchangeHeld, Cond.static yX1_exchangeHeld, Cond.code yX1_exchangeHeld cX1_exchangeHeld 2 (some .int), Cond.fieldLink RX1 95 "LockerWall$Locker" "room" "I", Cond.methodLink RX1 74 yX0_weight, Cond.methodLink RX1 98 yX0_exchangeItems, Cond.instanceMethod yX0_exchangeItems, Cond.selects RX0 yX0_exchangeItems yX0_exchangeItems, Cond.code yX0_exchangeItems cX0_exchangeItems 4 none, Cond.methodLink RX1 92 yX1_moveHeld]
def wsL_law_r8 : List Cond := [Cond.static yX1_moveHeld, Cond.code yX1_moveHeld cX1_moveHeld 3 (some .int), Cond.methodLink RL 43 yX2_move, Cond.instanceMethod yX2_move, Cond.selects RX2 yX2_move yX2_move, Cond.code yX2_move cX2_move 4 (some .int), Cond.methodLink RX2 68 yX2_letBoth, Cond.instanceMethod yX2_letBoth, Cond.selects RX2 yX2_letBoth yX2_letBoth, Cond.code yX2_letBoth cX2_letBoth 5 (some .int), Cond.methodLink RL 44 yX1_swap, Cond.instanceMethod yX1_swap, Cond.selects RX1 yX1_swap yX1_swap, Cond.code yX1_swap cX1_swap 3 (some .int), Cond.methodLink RL 47 yX2_swap, Cond.instanceMethod yX2_swap, Cond.selects RX2 yX2_swap yX2_swap, Cond.code yX2_swap cX2_swap 5 (some .int), Cond.methodLink RL 48 yX1_find, Cond.instanceMethod yX1_find, Cond.selects RX1 yX1_find yX1_find, Cond.code yX1_find cX1_find 4 (some .int), Cond.methodLink RX1 64 yX0_contains, Cond.instanceMethod yX0_contains]
def wsL_law_r9 : List Cond := [Cond.selects RX0 yX0_contains yX0_contains, Cond.code yX0_contains cX0_contains 3 (some .boolean), Cond.methodLink RL 51 yX2_find, Cond.instanceMethod yX2_find, Cond.selects RX2 yX2_find yX2_find, Cond.code yX2_find cX2_find 4 (some .int), Cond.methodLink RX2 72 yX2_hasItem, Cond.instanceMethod yX2_hasItem, Cond.selects RX2 yX2_hasItem yX2_hasItem, Cond.code yX2_hasItem cX2_hasItem 5 (some .boolean), Cond.methodLink RL 52 yX1_weigh, Cond.instanceMethod yX1_weigh, Cond.selects RX1 yX1_weigh yX1_weigh, Cond.code yX1_weigh cX1_weigh 4 (some .int), Cond.methodLink RX1 67 yX1_holdRow, Cond.instanceMethod yX1_holdRow, Cond.selects RX1 yX1_holdRow yX1_holdRow, Cond.code yX1_holdRow cX1_holdRow 4 (some .int), Cond.methodLink RX1 70 yX1_letGoRow, Cond.instanceMethod yX1_letGoRow, Cond.selects RX1 yX1_letGoRow yX1_letGoRow, Cond.code yX1_letGoRow cX1_letGoRow 8 (some .int), Cond.methodLink RL 55 yX2_weigh, Cond.instanceMethod yX2_weigh]
def wsL_law_r10 : List Cond := [Cond.selects RX2 yX2_weigh yX2_weigh, Cond.code yX2_weigh cX2_weigh 6 (some .int), Cond.methodLink RL 56 yX1_drop, Cond.instanceMethod yX1_drop, Cond.selects RX1 yX1_drop yX1_drop, Cond.code yX1_drop cX1_drop 7 (some .int), Cond.methodLink RL 59 yX2_drop, Cond.instanceMethod yX2_drop, Cond.selects RX2 yX2_drop yX2_drop, Cond.code yX2_drop cX2_drop 7 (some .int), Cond.methodLink RL 60 yX1_tally, Cond.instanceMethod yX1_tally, Cond.selects RX1 yX1_tally yX1_tally, Cond.code yX1_tally cX1_tally 5 (some .long), Cond.methodLink RL 64 yX2_tally, Cond.instanceMethod yX2_tally, Cond.selects RX2 yX2_tally yX2_tally, Cond.code yX2_tally cX2_tally 4 (some .long), Cond.methodLink RL 65 yX1_first, Cond.instanceMethod yX1_first, Cond.selects RX1 yX1_first yX1_first, Cond.code yX1_first cX1_first 4 (some .int), Cond.methodLink RL 68 yX2_first, Cond.instanceMethod yX2_first]
def wsL_law_r11 : List Cond := [Cond.selects RX2 yX2_first yX2_first, Cond.code yX2_first cX2_first 4 (some .int), Cond.methodLink RL 69 yX1_recode, Cond.instanceMethod yX1_recode, Cond.selects RX1 yX1_recode yX1_recode, Cond.code yX1_recode cX1_recode 8 (some .int), Cond.methodLink RL 72 yX2_recode, Cond.instanceMethod yX2_recode, Cond.selects RX2 yX2_recode yX2_recode, Cond.code yX2_recode cX2_recode 3 (some .int), Cond.methodLink RL 73 yX1_told, Cond.instanceMethod yX1_told, Cond.selects RX1 yX1_told yX1_told, Cond.code yX1_told cX1_told 4 (some .int), Cond.methodLink RX1 77 yX0_fact, Cond.instanceMethod yX0_fact, Cond.selects RX0 yX0_fact yX0_fact, Cond.code yX0_fact cX0_fact 2 (some .int), Cond.fieldLink RX0 32 "LockerWall$Locker" "isOpen" "Z", Cond.fieldLink RX0 36 "LockerWall$Locker" "wrongTries" "I", Cond.fieldLink RX0 39 "LockerWall$Locker" "holds" "I", Cond.methodLink RL 76 yX2_told, Cond.instanceMethod yX2_told, Cond.selects RX2 yX2_told yX2_told]
def wsL_law_r12 : List Cond := [Cond.code yX2_told cX2_told 3 (some .int), Cond.methodLink RL 77 yX1_item, Cond.instanceMethod yX1_item, Cond.selects RX1 yX1_item yX1_item, Cond.code yX1_item cX1_item 4 (some .int), Cond.methodLink RX1 81 yX0_weightOf, Cond.instanceMethod yX0_weightOf, Cond.selects RX0 yX0_weightOf yX0_weightOf, Cond.code yX0_weightOf cX0_weightOf 2 (some .int), Cond.methodLink RL 80 yX2_item, Cond.instanceMethod yX2_item, Cond.selects RX2 yX2_item yX2_item, Cond.code yX2_item cX2_item 3 (some .int), Cond.methodLink RL 81 yX1_latch, Cond.instanceMethod yX1_latch, Cond.selects RX1 yX1_latch yX1_latch, Cond.code yX1_latch cX1_latch 1 (some .int), Cond.methodLink RL 85 yX2_latch, Cond.instanceMethod yX2_latch, Cond.selects RX2 yX2_latch yX2_latch, Cond.code yX2_latch cX2_latch 1 (some .int)]
def wsL_law : List Cond := (wsL_law_r1 ++ (wsL_law_r2 ++ (wsL_law_r3 ++ (wsL_law_r4 ++ (wsL_law_r5 ++ (wsL_law_r6 ++ (wsL_law_r7 ++ (wsL_law_r8 ++ (wsL_law_r9 ++ (wsL_law_r10 ++ (wsL_law_r11 ++ wsL_law_r12))))))))))) ++ wsX10 ++ wsX20 ++ wsX00 ++ ([] : List Cond)
set_option maxRecDepth 20000 in
theorem wsL_law_in : ∀ w ∈ wsL_law, w ∈ lw_tbl := fun w h => (goodIn_p wsL_law [19, 22, 205, 35, 38, 41, 45, 242, 245, 248, 82, 86, 90, 252, 256, 94, 260, 98, 264, 102, 106, 110, 268, 272, 276, 280, 114, 118, 284, 288, 122, 126, 129, 132, 137, 140, 292, 296, 144, 300, 148, 152, 304, 308, 156, 160, 164, 312, 168, 316, 172, 320, 176, 324, 180, 328, 184, 188, 332, 192, 196, 336, 200, 340] (by decide +kernel) (by decide +kernel) w h).1
theorem inlX0 : ∀ w ∈ wsX00, w ∈ wsL_law := fun _ h => List.mem_append_left _ (List.mem_append_right _ h)
theorem inX0 : ∀ w ∈ wsX00, w ∈ lw_tbl := fun w h => wsL_law_in w (inlX0 w h)
theorem inlX1 : ∀ w ∈ wsX10, w ∈ wsL_law := fun _ h => List.mem_append_left _ (List.mem_append_left _ (List.mem_append_left _ (List.mem_append_right _ h)))
theorem inX1 : ∀ w ∈ wsX10, w ∈ lw_tbl := fun w h => wsL_law_in w (inlX1 w h)
theorem inlX2 : ∀ w ∈ wsX20, w ∈ wsL_law := fun _ h => List.mem_append_left _ (List.mem_append_left _ (List.mem_append_right _ h))
theorem inX2 : ∀ w ∈ wsX20, w ∈ lw_tbl := fun w h => wsL_law_in w (inlX2 w h)
theorem dX0_init_0 : decode cX0_init 0 = .ok (.aload_n 0, 1) := by decide +kernel
theorem dX0_init_1 : decode cX0_init 1 = .ok (.invokespecial 3, 3) := by decide +kernel
theorem dX0_init_4 : decode cX0_init 4 = .ok (.aload_n 0, 1) := by decide +kernel
theorem dX0_init_5 : decode cX0_init 5 = .ok (.iload_n 1, 1) := by decide +kernel
theorem dX0_init_6 : decode cX0_init 6 = .ok (.putfield 9, 3) := by decide +kernel
theorem dX0_init_9 : decode cX0_init 9 = .ok (.aload_n 0, 1) := by decide +kernel
theorem dX0_init_10 : decode cX0_init 10 = .ok (.iload_n 2, 1) := by decide +kernel
theorem dX0_init_11 : decode cX0_init 11 = .ok (.putfield 15, 3) := by decide +kernel
theorem dX0_init_14 : decode cX0_init 14 = .ok (.aload_n 0, 1) := by decide +kernel
theorem dX0_init_15 : decode cX0_init 15 = .ok (.bipush 10, 2) := by decide +kernel
theorem dX0_init_17 : decode cX0_init 17 = .ok (.newarray .int, 2) := by decide +kernel
theorem dX0_init_19 : decode cX0_init 19 = .ok (.putfield 18, 3) := by decide +kernel
theorem dX0_init_22 : decode cX0_init 22 = .ok (.return_, 1) := by decide +kernel
theorem dX0_letGo_0 : decode cX0_letGo 0 = .ok (.aload_n 0, 1) := by decide +kernel
theorem dX0_letGo_1 : decode cX0_letGo 1 = .ok (.iload_n 1, 1) := by decide +kernel
theorem dX0_letGo_2 : decode cX0_letGo 2 = .ok (.putfield 22, 3) := by decide +kernel
theorem dX0_letGo_5 : decode cX0_letGo 5 = .ok (.iload_n 2, 1) := by decide +kernel
theorem dX0_letGo_6 : decode cX0_letGo 6 = .ok (.ireturn, 1) := by decide +kernel
set_option maxRecDepth 20000 in
theorem ggX0_accept_X0_weight : GoodIn wsX0_accept wsX0_weight := goodIn_r _ [8, 1, 3, 9, 10, 11, 12, 13, 14, 15, 16] (by decide +kernel) (by decide +kernel)
set_option maxRecDepth 20000 in
theorem gX0_accept_X0_weight : GoodIn wsX0_accept (wsV RX0 28 RX0 yX0_weight wsX0_weight) := goodIn_app (goodIn_of _ (by decide +kernel)) ggX0_accept_X0_weight
theorem dX0_accept_0 : decode cX0_accept 0 = .ok (.aload_n 0, 1) := by decide +kernel
theorem dX0_accept_1 : decode cX0_accept 1 = .ok (.getfield 25, 3) := by decide +kernel
theorem dX0_accept_4 : decode cX0_accept 4 = .ok (.bipush 10, 2) := by decide +kernel
theorem dX0_accept_6 : decode cX0_accept 6 = .ok (.if_icmp .ge 16, 3) := by decide +kernel
theorem dX0_accept_9 : decode cX0_accept 9 = .ok (.aload_n 0, 1) := by decide +kernel
theorem dX0_accept_10 : decode cX0_accept 10 = .ok (.invokevirtual 28, 3) := by decide +kernel
theorem dX0_accept_13 : decode cX0_accept 13 = .ok (.iload_n 1, 1) := by decide +kernel
theorem dX0_accept_14 : decode cX0_accept 14 = .ok (.iadd, 1) := by decide +kernel
theorem dX0_accept_15 : decode cX0_accept 15 = .ok (.aload_n 0, 1) := by decide +kernel
theorem dX0_accept_16 : decode cX0_accept 16 = .ok (.getfield 9, 3) := by decide +kernel
theorem dX0_accept_19 : decode cX0_accept 19 = .ok (.if_icmp .le 5, 3) := by decide +kernel
theorem dX0_accept_22 : decode cX0_accept 22 = .ok (.iconst 0, 1) := by decide +kernel
theorem dX0_accept_23 : decode cX0_accept 23 = .ok (.ireturn, 1) := by decide +kernel
theorem dX0_accept_24 : decode cX0_accept 24 = .ok (.aload_n 0, 1) := by decide +kernel
theorem dX0_accept_25 : decode cX0_accept 25 = .ok (.getfield 18, 3) := by decide +kernel
theorem dX0_accept_28 : decode cX0_accept 28 = .ok (.aload_n 0, 1) := by decide +kernel
theorem dX0_accept_29 : decode cX0_accept 29 = .ok (.getfield 25, 3) := by decide +kernel
theorem dX0_accept_32 : decode cX0_accept 32 = .ok (.iload_n 1, 1) := by decide +kernel
theorem dX0_accept_33 : decode cX0_accept 33 = .ok (.iastore, 1) := by decide +kernel
theorem dX0_accept_34 : decode cX0_accept 34 = .ok (.aload_n 0, 1) := by decide +kernel
theorem dX0_accept_35 : decode cX0_accept 35 = .ok (.dup, 1) := by decide +kernel
theorem dX0_accept_36 : decode cX0_accept 36 = .ok (.getfield 25, 3) := by decide +kernel
theorem dX0_accept_39 : decode cX0_accept 39 = .ok (.iconst 1, 1) := by decide +kernel
theorem dX0_accept_40 : decode cX0_accept 40 = .ok (.iadd, 1) := by decide +kernel
theorem dX0_accept_41 : decode cX0_accept 41 = .ok (.putfield 25, 3) := by decide +kernel
theorem dX0_accept_44 : decode cX0_accept 44 = .ok (.iconst 1, 1) := by decide +kernel
theorem dX0_accept_45 : decode cX0_accept 45 = .ok (.ireturn, 1) := by decide +kernel
theorem dX0_removeLast_0 : decode cX0_removeLast 0 = .ok (.aload_n 0, 1) := by decide +kernel
theorem dX0_removeLast_1 : decode cX0_removeLast 1 = .ok (.getfield 25, 3) := by decide +kernel
theorem dX0_removeLast_4 : decode cX0_removeLast 4 = .ok (.ifCond .gt 5, 3) := by decide +kernel
theorem dX0_removeLast_7 : decode cX0_removeLast 7 = .ok (.iconst 0, 1) := by decide +kernel
theorem dX0_removeLast_8 : decode cX0_removeLast 8 = .ok (.ireturn, 1) := by decide +kernel
theorem dX0_removeLast_9 : decode cX0_removeLast 9 = .ok (.aload_n 0, 1) := by decide +kernel
theorem dX0_removeLast_10 : decode cX0_removeLast 10 = .ok (.dup, 1) := by decide +kernel
theorem dX0_removeLast_11 : decode cX0_removeLast 11 = .ok (.getfield 25, 3) := by decide +kernel
theorem dX0_removeLast_14 : decode cX0_removeLast 14 = .ok (.iconst 1, 1) := by decide +kernel
theorem dX0_removeLast_15 : decode cX0_removeLast 15 = .ok (.isub, 1) := by decide +kernel
theorem dX0_removeLast_16 : decode cX0_removeLast 16 = .ok (.putfield 25, 3) := by decide +kernel
theorem dX0_removeLast_19 : decode cX0_removeLast 19 = .ok (.aload_n 0, 1) := by decide +kernel
theorem dX0_removeLast_20 : decode cX0_removeLast 20 = .ok (.getfield 18, 3) := by decide +kernel
theorem dX0_removeLast_23 : decode cX0_removeLast 23 = .ok (.aload_n 0, 1) := by decide +kernel
theorem dX0_removeLast_24 : decode cX0_removeLast 24 = .ok (.getfield 25, 3) := by decide +kernel
theorem dX0_removeLast_27 : decode cX0_removeLast 27 = .ok (.iaload, 1) := by decide +kernel
theorem dX0_removeLast_28 : decode cX0_removeLast 28 = .ok (.ireturn, 1) := by decide +kernel
theorem dX0_weight_0 : decode cX0_weight 0 = .ok (.iconst 0, 1) := by decide +kernel
theorem dX0_weight_1 : decode cX0_weight 1 = .ok (.istore_n 1, 1) := by decide +kernel
theorem dX0_weight_2 : decode cX0_weight 2 = .ok (.iconst 0, 1) := by decide +kernel
theorem dX0_weight_3 : decode cX0_weight 3 = .ok (.istore_n 2, 1) := by decide +kernel
theorem dX0_weight_4 : decode cX0_weight 4 = .ok (.iload_n 2, 1) := by decide +kernel
theorem dX0_weight_5 : decode cX0_weight 5 = .ok (.aload_n 0, 1) := by decide +kernel
theorem dX0_weight_6 : decode cX0_weight 6 = .ok (.getfield 25, 3) := by decide +kernel
theorem dX0_weight_9 : decode cX0_weight 9 = .ok (.if_icmp .ge 18, 3) := by decide +kernel
theorem dX0_weight_12 : decode cX0_weight 12 = .ok (.iload_n 1, 1) := by decide +kernel
theorem dX0_weight_13 : decode cX0_weight 13 = .ok (.aload_n 0, 1) := by decide +kernel
theorem dX0_weight_14 : decode cX0_weight 14 = .ok (.getfield 18, 3) := by decide +kernel
theorem dX0_weight_17 : decode cX0_weight 17 = .ok (.iload_n 2, 1) := by decide +kernel
theorem dX0_weight_18 : decode cX0_weight 18 = .ok (.iaload, 1) := by decide +kernel
theorem dX0_weight_19 : decode cX0_weight 19 = .ok (.iadd, 1) := by decide +kernel
theorem dX0_weight_20 : decode cX0_weight 20 = .ok (.istore_n 1, 1) := by decide +kernel
theorem dX0_weight_21 : decode cX0_weight 21 = .ok (.iinc 2 1, 3) := by decide +kernel
theorem dX0_weight_24 : decode cX0_weight 24 = .ok (.goto (-20), 3) := by decide +kernel
theorem dX0_weight_27 : decode cX0_weight 27 = .ok (.iload_n 1, 1) := by decide +kernel
theorem dX0_weight_28 : decode cX0_weight 28 = .ok (.ireturn, 1) := by decide +kernel
theorem dX0_contains_0 : decode cX0_contains 0 = .ok (.iconst 0, 1) := by decide +kernel
theorem dX0_contains_1 : decode cX0_contains 1 = .ok (.istore_n 2, 1) := by decide +kernel
theorem dX0_contains_2 : decode cX0_contains 2 = .ok (.iload_n 2, 1) := by decide +kernel
theorem dX0_contains_3 : decode cX0_contains 3 = .ok (.aload_n 0, 1) := by decide +kernel
theorem dX0_contains_4 : decode cX0_contains 4 = .ok (.getfield 25, 3) := by decide +kernel
theorem dX0_contains_7 : decode cX0_contains 7 = .ok (.if_icmp .ge 21, 3) := by decide +kernel
theorem dX0_contains_10 : decode cX0_contains 10 = .ok (.aload_n 0, 1) := by decide +kernel
theorem dX0_contains_11 : decode cX0_contains 11 = .ok (.getfield 18, 3) := by decide +kernel
theorem dX0_contains_14 : decode cX0_contains 14 = .ok (.iload_n 2, 1) := by decide +kernel
theorem dX0_contains_15 : decode cX0_contains 15 = .ok (.iaload, 1) := by decide +kernel
theorem dX0_contains_16 : decode cX0_contains 16 = .ok (.iload_n 1, 1) := by decide +kernel
theorem dX0_contains_17 : decode cX0_contains 17 = .ok (.if_icmp .ne 5, 3) := by decide +kernel
theorem dX0_contains_20 : decode cX0_contains 20 = .ok (.iconst 1, 1) := by decide +kernel
theorem dX0_contains_21 : decode cX0_contains 21 = .ok (.ireturn, 1) := by decide +kernel
theorem dX0_contains_22 : decode cX0_contains 22 = .ok (.iinc 2 1, 3) := by decide +kernel
theorem dX0_contains_25 : decode cX0_contains 25 = .ok (.goto (-23), 3) := by decide +kernel
theorem dX0_contains_28 : decode cX0_contains 28 = .ok (.iconst 0, 1) := by decide +kernel
theorem dX0_contains_29 : decode cX0_contains 29 = .ok (.ireturn, 1) := by decide +kernel
theorem dX0_weightOf_0 : decode cX0_weightOf 0 = .ok (.iload_n 1, 1) := by decide +kernel
theorem dX0_weightOf_1 : decode cX0_weightOf 1 = .ok (.ifCond .lt 20, 3) := by decide +kernel
theorem dX0_weightOf_4 : decode cX0_weightOf 4 = .ok (.iload_n 1, 1) := by decide +kernel
theorem dX0_weightOf_5 : decode cX0_weightOf 5 = .ok (.aload_n 0, 1) := by decide +kernel
theorem dX0_weightOf_6 : decode cX0_weightOf 6 = .ok (.getfield 25, 3) := by decide +kernel
theorem dX0_weightOf_9 : decode cX0_weightOf 9 = .ok (.if_icmp .ge 12, 3) := by decide +kernel
theorem dX0_weightOf_12 : decode cX0_weightOf 12 = .ok (.aload_n 0, 1) := by decide +kernel
theorem dX0_weightOf_13 : decode cX0_weightOf 13 = .ok (.getfield 18, 3) := by decide +kernel
theorem dX0_weightOf_16 : decode cX0_weightOf 16 = .ok (.iload_n 1, 1) := by decide +kernel
theorem dX0_weightOf_17 : decode cX0_weightOf 17 = .ok (.iaload, 1) := by decide +kernel
theorem dX0_weightOf_18 : decode cX0_weightOf 18 = .ok (.goto 5, 3) := by decide +kernel
theorem dX0_weightOf_21 : decode cX0_weightOf 21 = .ok (.bipush (-8), 2) := by decide +kernel
theorem dX0_weightOf_23 : decode cX0_weightOf 23 = .ok (.ireturn, 1) := by decide +kernel
theorem dX0_exchangeItems_0 : decode cX0_exchangeItems 0 = .ok (.aload_n 1, 1) := by decide +kernel
theorem dX0_exchangeItems_1 : decode cX0_exchangeItems 1 = .ok (.getfield 18, 3) := by decide +kernel
theorem dX0_exchangeItems_4 : decode cX0_exchangeItems 4 = .ok (.astore_n 2, 1) := by decide +kernel
theorem dX0_exchangeItems_5 : decode cX0_exchangeItems 5 = .ok (.aload_n 1, 1) := by decide +kernel
theorem dX0_exchangeItems_6 : decode cX0_exchangeItems 6 = .ok (.getfield 25, 3) := by decide +kernel
theorem dX0_exchangeItems_9 : decode cX0_exchangeItems 9 = .ok (.istore_n 3, 1) := by decide +kernel
theorem dX0_exchangeItems_10 : decode cX0_exchangeItems 10 = .ok (.aload_n 1, 1) := by decide +kernel
theorem dX0_exchangeItems_11 : decode cX0_exchangeItems 11 = .ok (.aload_n 0, 1) := by decide +kernel
theorem dX0_exchangeItems_12 : decode cX0_exchangeItems 12 = .ok (.getfield 18, 3) := by decide +kernel
theorem dX0_exchangeItems_15 : decode cX0_exchangeItems 15 = .ok (.putfield 18, 3) := by decide +kernel
theorem dX0_exchangeItems_18 : decode cX0_exchangeItems 18 = .ok (.aload_n 1, 1) := by decide +kernel
theorem dX0_exchangeItems_19 : decode cX0_exchangeItems 19 = .ok (.aload_n 0, 1) := by decide +kernel
theorem dX0_exchangeItems_20 : decode cX0_exchangeItems 20 = .ok (.getfield 25, 3) := by decide +kernel
theorem dX0_exchangeItems_23 : decode cX0_exchangeItems 23 = .ok (.putfield 25, 3) := by decide +kernel
theorem dX0_exchangeItems_26 : decode cX0_exchangeItems 26 = .ok (.aload_n 0, 1) := by decide +kernel
theorem dX0_exchangeItems_27 : decode cX0_exchangeItems 27 = .ok (.aload_n 2, 1) := by decide +kernel
theorem dX0_exchangeItems_28 : decode cX0_exchangeItems 28 = .ok (.putfield 18, 3) := by decide +kernel
theorem dX0_exchangeItems_31 : decode cX0_exchangeItems 31 = .ok (.aload_n 0, 1) := by decide +kernel
theorem dX0_exchangeItems_32 : decode cX0_exchangeItems 32 = .ok (.iload_n 3, 1) := by decide +kernel
theorem dX0_exchangeItems_33 : decode cX0_exchangeItems 33 = .ok (.putfield 25, 3) := by decide +kernel
theorem dX0_exchangeItems_36 : decode cX0_exchangeItems 36 = .ok (.return_, 1) := by decide +kernel
set_option maxRecDepth 20000 in
theorem ggX0_fact_X0_weight : GoodIn wsX0_fact wsX0_weight := goodIn_r _ [12, 5, 13, 14, 15, 16, 17, 18, 19, 20, 21] (by decide +kernel) (by decide +kernel)
set_option maxRecDepth 20000 in
theorem gX0_fact_X0_weight : GoodIn wsX0_fact (wsV RX0 28 RX0 yX0_weight wsX0_weight) := goodIn_app (goodIn_of _ (by decide +kernel)) ggX0_fact_X0_weight
theorem dX0_fact_0 : decode cX0_fact 0 = .ok (.iload_n 1, 1) := by decide +kernel
theorem dX0_fact_1 : decode cX0_fact 1 = .ok (.tableswitch 101 0 8 #[51, 53, 58, 63, 76, 81, 86, 91, 96], 51) := by decide +kernel
theorem dX0_fact_52 : decode cX0_fact 52 = .ok (.iconst 1, 1) := by decide +kernel
theorem dX0_fact_53 : decode cX0_fact 53 = .ok (.ireturn, 1) := by decide +kernel
theorem dX0_fact_54 : decode cX0_fact 54 = .ok (.aload_n 0, 1) := by decide +kernel
theorem dX0_fact_55 : decode cX0_fact 55 = .ok (.getfield 9, 3) := by decide +kernel
theorem dX0_fact_58 : decode cX0_fact 58 = .ok (.ireturn, 1) := by decide +kernel
theorem dX0_fact_59 : decode cX0_fact 59 = .ok (.aload_n 0, 1) := by decide +kernel
theorem dX0_fact_60 : decode cX0_fact 60 = .ok (.getfield 15, 3) := by decide +kernel
theorem dX0_fact_63 : decode cX0_fact 63 = .ok (.ireturn, 1) := by decide +kernel
theorem dX0_fact_64 : decode cX0_fact 64 = .ok (.aload_n 0, 1) := by decide +kernel
theorem dX0_fact_65 : decode cX0_fact 65 = .ok (.getfield 32, 3) := by decide +kernel
theorem dX0_fact_68 : decode cX0_fact 68 = .ok (.ifCond .eq 7, 3) := by decide +kernel
theorem dX0_fact_71 : decode cX0_fact 71 = .ok (.iconst 1, 1) := by decide +kernel
theorem dX0_fact_72 : decode cX0_fact 72 = .ok (.goto 4, 3) := by decide +kernel
theorem dX0_fact_75 : decode cX0_fact 75 = .ok (.iconst 0, 1) := by decide +kernel
theorem dX0_fact_76 : decode cX0_fact 76 = .ok (.ireturn, 1) := by decide +kernel
theorem dX0_fact_77 : decode cX0_fact 77 = .ok (.aload_n 0, 1) := by decide +kernel
theorem dX0_fact_78 : decode cX0_fact 78 = .ok (.getfield 36, 3) := by decide +kernel
theorem dX0_fact_81 : decode cX0_fact 81 = .ok (.ireturn, 1) := by decide +kernel
theorem dX0_fact_82 : decode cX0_fact 82 = .ok (.aload_n 0, 1) := by decide +kernel
theorem dX0_fact_83 : decode cX0_fact 83 = .ok (.getfield 25, 3) := by decide +kernel
theorem dX0_fact_86 : decode cX0_fact 86 = .ok (.ireturn, 1) := by decide +kernel
theorem dX0_fact_87 : decode cX0_fact 87 = .ok (.aload_n 0, 1) := by decide +kernel
theorem dX0_fact_88 : decode cX0_fact 88 = .ok (.invokevirtual 28, 3) := by decide +kernel
theorem dX0_fact_91 : decode cX0_fact 91 = .ok (.ireturn, 1) := by decide +kernel
theorem dX0_fact_92 : decode cX0_fact 92 = .ok (.aload_n 0, 1) := by decide +kernel
theorem dX0_fact_93 : decode cX0_fact 93 = .ok (.getfield 39, 3) := by decide +kernel
theorem dX0_fact_96 : decode cX0_fact 96 = .ok (.ireturn, 1) := by decide +kernel
theorem dX0_fact_97 : decode cX0_fact 97 = .ok (.aload_n 0, 1) := by decide +kernel
theorem dX0_fact_98 : decode cX0_fact 98 = .ok (.getfield 22, 3) := by decide +kernel
theorem dX0_fact_101 : decode cX0_fact 101 = .ok (.ireturn, 1) := by decide +kernel
theorem dX0_fact_102 : decode cX0_fact 102 = .ok (.iconst (-1), 1) := by decide +kernel
theorem dX0_fact_103 : decode cX0_fact 103 = .ok (.ireturn, 1) := by decide +kernel
theorem dX1_init_0 : decode cX1_init 0 = .ok (.aload_n 0, 1) := by decide +kernel
theorem dX1_init_1 : decode cX1_init 1 = .ok (.invokespecial 1, 3) := by decide +kernel
theorem dX1_init_4 : decode cX1_init 4 = .ok (.aload_n 0, 1) := by decide +kernel
theorem dX1_init_5 : decode cX1_init 5 = .ok (.bipush 24, 2) := by decide +kernel
theorem dX1_init_7 : decode cX1_init 7 = .ok (.anewarray 9, 3) := by decide +kernel
theorem dX1_init_10 : decode cX1_init 10 = .ok (.putfield 11, 3) := by decide +kernel
theorem dX1_init_13 : decode cX1_init 13 = .ok (.aload_n 0, 1) := by decide +kernel
theorem dX1_init_14 : decode cX1_init 14 = .ok (.iconst 0, 1) := by decide +kernel
theorem dX1_init_15 : decode cX1_init 15 = .ok (.putfield 15, 3) := by decide +kernel
theorem dX1_init_18 : decode cX1_init 18 = .ok (.return_, 1) := by decide +kernel
set_option maxRecDepth 20000 in
theorem ggX1_mount_X1_isHook : GoodIn wsX1_mount wsX1_isHook := goodIn_r _ [8] (by decide +kernel) (by decide +kernel)
set_option maxRecDepth 20000 in
theorem gX1_mount_X1_isHook : GoodIn wsX1_mount (va_wsS RX1 19 yX1_isHook wsX1_isHook) := goodIn_app (goodIn_of _ (by decide +kernel)) ggX1_mount_X1_isHook
set_option maxRecDepth 20000 in
theorem ggX1_mount_X1_isWeight : GoodIn wsX1_mount wsX1_isWeight := goodIn_r _ [11] (by decide +kernel) (by decide +kernel)
set_option maxRecDepth 20000 in
theorem gX1_mount_X1_isWeight : GoodIn wsX1_mount (va_wsS RX1 23 yX1_isWeight wsX1_isWeight) := goodIn_app (goodIn_of _ (by decide +kernel)) ggX1_mount_X1_isWeight
set_option maxRecDepth 20000 in
theorem ggX1_mount_X0_init : GoodIn wsX1_mount wsX0_init := goodIn_r _ [14, 15, 16, 17, 18, 19, 20, 21, 24, 25, 26, 27, 28, 29, 30, 31] (by decide +kernel) (by decide +kernel)
set_option maxRecDepth 20000 in
theorem gX1_mount_X0_init : GoodIn wsX1_mount (wsX0_init) := ggX1_mount_X0_init
theorem dX1_mount_0 : decode cX1_mount 0 = .ok (.iload_n 1, 1) := by decide +kernel
theorem dX1_mount_1 : decode cX1_mount 1 = .ok (.invokestatic 19, 3) := by decide +kernel
theorem dX1_mount_4 : decode cX1_mount 4 = .ok (.ifCond .eq 10, 3) := by decide +kernel
theorem dX1_mount_7 : decode cX1_mount 7 = .ok (.iload_n 2, 1) := by decide +kernel
theorem dX1_mount_8 : decode cX1_mount 8 = .ok (.invokestatic 23, 3) := by decide +kernel
theorem dX1_mount_11 : decode cX1_mount 11 = .ok (.ifCond .ne 5, 3) := by decide +kernel
theorem dX1_mount_14 : decode cX1_mount 14 = .ok (.iconst (-1), 1) := by decide +kernel
theorem dX1_mount_15 : decode cX1_mount 15 = .ok (.ireturn, 1) := by decide +kernel
theorem dX1_mount_16 : decode cX1_mount 16 = .ok (.aload_n 0, 1) := by decide +kernel
theorem dX1_mount_17 : decode cX1_mount 17 = .ok (.getfield 11, 3) := by decide +kernel
theorem dX1_mount_20 : decode cX1_mount 20 = .ok (.iload_n 1, 1) := by decide +kernel
theorem dX1_mount_21 : decode cX1_mount 21 = .ok (.aaload, 1) := by decide +kernel
theorem dX1_mount_22 : decode cX1_mount 22 = .ok (.ifnull 6, 3) := by decide +kernel
theorem dX1_mount_25 : decode cX1_mount 25 = .ok (.bipush (-5), 2) := by decide +kernel
theorem dX1_mount_27 : decode cX1_mount 27 = .ok (.ireturn, 1) := by decide +kernel
theorem dX1_mount_28 : decode cX1_mount 28 = .ok (.aload_n 0, 1) := by decide +kernel
theorem dX1_mount_29 : decode cX1_mount 29 = .ok (.getfield 11, 3) := by decide +kernel
theorem dX1_mount_32 : decode cX1_mount 32 = .ok (.iload_n 1, 1) := by decide +kernel
theorem dX1_mount_33 : decode cX1_mount 33 = .ok (.new 9, 3) := by decide +kernel
theorem dX1_mount_36 : decode cX1_mount 36 = .ok (.dup, 1) := by decide +kernel
theorem dX1_mount_37 : decode cX1_mount 37 = .ok (.iload_n 2, 1) := by decide +kernel
theorem dX1_mount_38 : decode cX1_mount 38 = .ok (.iload_n 3, 1) := by decide +kernel
theorem dX1_mount_39 : decode cX1_mount 39 = .ok (.invokespecial 26, 3) := by decide +kernel
theorem dX1_mount_42 : decode cX1_mount 42 = .ok (.aastore, 1) := by decide +kernel
theorem dX1_mount_43 : decode cX1_mount 43 = .ok (.iconst 1, 1) := by decide +kernel
theorem dX1_mount_44 : decode cX1_mount 44 = .ok (.ireturn, 1) := by decide +kernel
set_option maxRecDepth 20000 in
theorem ggX1_unmount_X1_isHook : GoodIn wsX1_unmount wsX1_isHook := goodIn_r _ [8] (by decide +kernel) (by decide +kernel)
set_option maxRecDepth 20000 in
theorem gX1_unmount_X1_isHook : GoodIn wsX1_unmount (va_wsS RX1 19 yX1_isHook wsX1_isHook) := goodIn_app (goodIn_of _ (by decide +kernel)) ggX1_unmount_X1_isHook
set_option maxRecDepth 20000 in
theorem ggX1_unmount_X1_holdAt : GoodIn wsX1_unmount wsX1_holdAt := goodIn_r _ [12, 3, 4, 5, 6, 7, 8, 19, 20, 21, 22, 23, 24, 25, 26, 27, 28] (by decide +kernel) (by decide +kernel)
set_option maxRecDepth 20000 in
theorem gX1_unmount_X1_holdAt : GoodIn wsX1_unmount (wsV RX1 29 RX1 yX1_holdAt wsX1_holdAt) := goodIn_app (goodIn_of _ (by decide +kernel)) ggX1_unmount_X1_holdAt
set_option maxRecDepth 20000 in
theorem ggX1_unmount_X0_letGo : GoodIn wsX1_unmount wsX0_letGo := goodIn_r _ [17, 18, 21, 22, 23, 24, 25, 26, 27, 28] (by decide +kernel) (by decide +kernel)
set_option maxRecDepth 20000 in
theorem gX1_unmount_X0_letGo : GoodIn wsX1_unmount (wsV RX1 36 RX0 yX0_letGo wsX0_letGo) := goodIn_app (goodIn_of _ (by decide +kernel)) ggX1_unmount_X0_letGo
theorem dX1_unmount_0 : decode cX1_unmount 0 = .ok (.iload_n 1, 1) := by decide +kernel
theorem dX1_unmount_1 : decode cX1_unmount 1 = .ok (.invokestatic 19, 3) := by decide +kernel
theorem dX1_unmount_4 : decode cX1_unmount 4 = .ok (.ifCond .ne 5, 3) := by decide +kernel
theorem dX1_unmount_7 : decode cX1_unmount 7 = .ok (.iconst (-1), 1) := by decide +kernel
theorem dX1_unmount_8 : decode cX1_unmount 8 = .ok (.ireturn, 1) := by decide +kernel
theorem dX1_unmount_9 : decode cX1_unmount 9 = .ok (.aload_n 0, 1) := by decide +kernel
theorem dX1_unmount_10 : decode cX1_unmount 10 = .ok (.dup, 1) := by decide +kernel
theorem dX1_unmount_11 : decode cX1_unmount 11 = .ok (.getfield 15, 3) := by decide +kernel
theorem dX1_unmount_14 : decode cX1_unmount 14 = .ok (.iconst 1, 1) := by decide +kernel
theorem dX1_unmount_15 : decode cX1_unmount 15 = .ok (.iadd, 1) := by decide +kernel
theorem dX1_unmount_16 : decode cX1_unmount 16 = .ok (.putfield 15, 3) := by decide +kernel
theorem dX1_unmount_19 : decode cX1_unmount 19 = .ok (.aload_n 0, 1) := by decide +kernel
theorem dX1_unmount_20 : decode cX1_unmount 20 = .ok (.iload_n 1, 1) := by decide +kernel
theorem dX1_unmount_21 : decode cX1_unmount 21 = .ok (.invokevirtual 29, 3) := by decide +kernel
theorem dX1_unmount_24 : decode cX1_unmount 24 = .ok (.astore_n 2, 1) := by decide +kernel
theorem dX1_unmount_25 : decode cX1_unmount 25 = .ok (.aload_n 2, 1) := by decide +kernel
theorem dX1_unmount_26 : decode cX1_unmount 26 = .ok (.ifnonnull 6, 3) := by decide +kernel
theorem dX1_unmount_29 : decode cX1_unmount 29 = .ok (.bipush (-2), 2) := by decide +kernel
theorem dX1_unmount_31 : decode cX1_unmount 31 = .ok (.ireturn, 1) := by decide +kernel
theorem dX1_unmount_32 : decode cX1_unmount 32 = .ok (.aload_n 2, 1) := by decide +kernel
theorem dX1_unmount_33 : decode cX1_unmount 33 = .ok (.getfield 33, 3) := by decide +kernel
theorem dX1_unmount_36 : decode cX1_unmount 36 = .ok (.ifCond .le 11, 3) := by decide +kernel
theorem dX1_unmount_39 : decode cX1_unmount 39 = .ok (.aload_n 2, 1) := by decide +kernel
theorem dX1_unmount_40 : decode cX1_unmount 40 = .ok (.iconst 2, 1) := by decide +kernel
theorem dX1_unmount_41 : decode cX1_unmount 41 = .ok (.bipush (-6), 2) := by decide +kernel
theorem dX1_unmount_43 : decode cX1_unmount 43 = .ok (.invokevirtual 36, 3) := by decide +kernel
theorem dX1_unmount_46 : decode cX1_unmount 46 = .ok (.ireturn, 1) := by decide +kernel
theorem dX1_unmount_47 : decode cX1_unmount 47 = .ok (.aload_n 0, 1) := by decide +kernel
theorem dX1_unmount_48 : decode cX1_unmount 48 = .ok (.getfield 11, 3) := by decide +kernel
theorem dX1_unmount_51 : decode cX1_unmount 51 = .ok (.iload_n 1, 1) := by decide +kernel
theorem dX1_unmount_52 : decode cX1_unmount 52 = .ok (.aconst_null, 1) := by decide +kernel
theorem dX1_unmount_53 : decode cX1_unmount 53 = .ok (.aastore, 1) := by decide +kernel
theorem dX1_unmount_54 : decode cX1_unmount 54 = .ok (.aload_n 2, 1) := by decide +kernel
theorem dX1_unmount_55 : decode cX1_unmount 55 = .ok (.iconst 1, 1) := by decide +kernel
theorem dX1_unmount_56 : decode cX1_unmount 56 = .ok (.aload_n 2, 1) := by decide +kernel
theorem dX1_unmount_57 : decode cX1_unmount 57 = .ok (.getfield 40, 3) := by decide +kernel
theorem dX1_unmount_60 : decode cX1_unmount 60 = .ok (.invokevirtual 36, 3) := by decide +kernel
theorem dX1_unmount_63 : decode cX1_unmount 63 = .ok (.ireturn, 1) := by decide +kernel
set_option maxRecDepth 20000 in
theorem ggX1_open_X1_isHook : GoodIn wsX1_open wsX1_isHook := goodIn_r _ [7] (by decide +kernel) (by decide +kernel)
set_option maxRecDepth 20000 in
theorem gX1_open_X1_isHook : GoodIn wsX1_open (va_wsS RX1 19 yX1_isHook wsX1_isHook) := goodIn_app (goodIn_of _ (by decide +kernel)) ggX1_open_X1_isHook
set_option maxRecDepth 20000 in
theorem ggX1_open_X1_holdAt : GoodIn wsX1_open wsX1_holdAt := goodIn_r _ [11, 12, 13, 4, 5, 6, 7, 28, 29, 20, 21, 22, 23, 24, 25, 26, 27] (by decide +kernel) (by decide +kernel)
set_option maxRecDepth 20000 in
theorem gX1_open_X1_holdAt : GoodIn wsX1_open (wsV RX1 29 RX1 yX1_holdAt wsX1_holdAt) := goodIn_app (goodIn_of _ (by decide +kernel)) ggX1_open_X1_holdAt
set_option maxRecDepth 20000 in
theorem ggX1_open_X0_letGo : GoodIn wsX1_open wsX0_letGo := goodIn_r _ [18, 19, 20, 21, 22, 23, 24, 25, 26, 27] (by decide +kernel) (by decide +kernel)
set_option maxRecDepth 20000 in
theorem gX1_open_X0_letGo : GoodIn wsX1_open (wsV RX1 36 RX0 yX0_letGo wsX0_letGo) := goodIn_app (goodIn_of _ (by decide +kernel)) ggX1_open_X0_letGo
theorem dX1_open_0 : decode cX1_open 0 = .ok (.iload_n 1, 1) := by decide +kernel
theorem dX1_open_1 : decode cX1_open 1 = .ok (.invokestatic 19, 3) := by decide +kernel
theorem dX1_open_4 : decode cX1_open 4 = .ok (.ifCond .ne 5, 3) := by decide +kernel
theorem dX1_open_7 : decode cX1_open 7 = .ok (.iconst (-1), 1) := by decide +kernel
theorem dX1_open_8 : decode cX1_open 8 = .ok (.ireturn, 1) := by decide +kernel
theorem dX1_open_9 : decode cX1_open 9 = .ok (.aload_n 0, 1) := by decide +kernel
theorem dX1_open_10 : decode cX1_open 10 = .ok (.iload_n 1, 1) := by decide +kernel
theorem dX1_open_11 : decode cX1_open 11 = .ok (.invokevirtual 29, 3) := by decide +kernel
theorem dX1_open_14 : decode cX1_open 14 = .ok (.astore_n 3, 1) := by decide +kernel
theorem dX1_open_15 : decode cX1_open 15 = .ok (.aload_n 3, 1) := by decide +kernel
theorem dX1_open_16 : decode cX1_open 16 = .ok (.ifnonnull 6, 3) := by decide +kernel
theorem dX1_open_19 : decode cX1_open 19 = .ok (.bipush (-2), 2) := by decide +kernel
theorem dX1_open_21 : decode cX1_open 21 = .ok (.ireturn, 1) := by decide +kernel
theorem dX1_open_22 : decode cX1_open 22 = .ok (.aload_n 3, 1) := by decide +kernel
theorem dX1_open_23 : decode cX1_open 23 = .ok (.getfield 43, 3) := by decide +kernel
theorem dX1_open_26 : decode cX1_open 26 = .ok (.iconst 3, 1) := by decide +kernel
theorem dX1_open_27 : decode cX1_open 27 = .ok (.if_icmp .lt 11, 3) := by decide +kernel
theorem dX1_open_30 : decode cX1_open 30 = .ok (.aload_n 3, 1) := by decide +kernel
theorem dX1_open_31 : decode cX1_open 31 = .ok (.iconst 2, 1) := by decide +kernel
theorem dX1_open_32 : decode cX1_open 32 = .ok (.bipush (-4), 2) := by decide +kernel
theorem dX1_open_34 : decode cX1_open 34 = .ok (.invokevirtual 36, 3) := by decide +kernel
theorem dX1_open_37 : decode cX1_open 37 = .ok (.ireturn, 1) := by decide +kernel
theorem dX1_open_38 : decode cX1_open 38 = .ok (.aload_n 3, 1) := by decide +kernel
theorem dX1_open_39 : decode cX1_open 39 = .ok (.getfield 46, 3) := by decide +kernel
theorem dX1_open_42 : decode cX1_open 42 = .ok (.iload_n 2, 1) := by decide +kernel
theorem dX1_open_43 : decode cX1_open 43 = .ok (.if_icmp .eq 21, 3) := by decide +kernel
theorem dX1_open_46 : decode cX1_open 46 = .ok (.aload_n 3, 1) := by decide +kernel
theorem dX1_open_47 : decode cX1_open 47 = .ok (.dup, 1) := by decide +kernel
theorem dX1_open_48 : decode cX1_open 48 = .ok (.getfield 43, 3) := by decide +kernel
theorem dX1_open_51 : decode cX1_open 51 = .ok (.iconst 1, 1) := by decide +kernel
theorem dX1_open_52 : decode cX1_open 52 = .ok (.iadd, 1) := by decide +kernel
theorem dX1_open_53 : decode cX1_open 53 = .ok (.putfield 43, 3) := by decide +kernel
theorem dX1_open_56 : decode cX1_open 56 = .ok (.aload_n 3, 1) := by decide +kernel
theorem dX1_open_57 : decode cX1_open 57 = .ok (.iconst 4, 1) := by decide +kernel
theorem dX1_open_58 : decode cX1_open 58 = .ok (.bipush (-7), 2) := by decide +kernel
theorem dX1_open_60 : decode cX1_open 60 = .ok (.invokevirtual 36, 3) := by decide +kernel
theorem dX1_open_63 : decode cX1_open 63 = .ok (.ireturn, 1) := by decide +kernel
theorem dX1_open_64 : decode cX1_open 64 = .ok (.aload_n 3, 1) := by decide +kernel
theorem dX1_open_65 : decode cX1_open 65 = .ok (.iconst 1, 1) := by decide +kernel
theorem dX1_open_66 : decode cX1_open 66 = .ok (.putfield 49, 3) := by decide +kernel
theorem dX1_open_69 : decode cX1_open 69 = .ok (.aload_n 3, 1) := by decide +kernel
theorem dX1_open_70 : decode cX1_open 70 = .ok (.iconst 0, 1) := by decide +kernel
theorem dX1_open_71 : decode cX1_open 71 = .ok (.putfield 43, 3) := by decide +kernel
theorem dX1_open_74 : decode cX1_open 74 = .ok (.aload_n 3, 1) := by decide +kernel
theorem dX1_open_75 : decode cX1_open 75 = .ok (.iconst 1, 1) := by decide +kernel
theorem dX1_open_76 : decode cX1_open 76 = .ok (.iconst 1, 1) := by decide +kernel
theorem dX1_open_77 : decode cX1_open 77 = .ok (.invokevirtual 36, 3) := by decide +kernel
theorem dX1_open_80 : decode cX1_open 80 = .ok (.ireturn, 1) := by decide +kernel
set_option maxRecDepth 20000 in
theorem ggX1_shut_X1_isHook : GoodIn wsX1_shut wsX1_isHook := goodIn_r _ [5] (by decide +kernel) (by decide +kernel)
set_option maxRecDepth 20000 in
theorem gX1_shut_X1_isHook : GoodIn wsX1_shut (va_wsS RX1 19 yX1_isHook wsX1_isHook) := goodIn_app (goodIn_of _ (by decide +kernel)) ggX1_shut_X1_isHook
set_option maxRecDepth 20000 in
theorem ggX1_shut_X1_holdAt : GoodIn wsX1_shut wsX1_holdAt := goodIn_r _ [9, 10, 11, 2, 3, 4, 5, 26, 27, 18, 19, 20, 21, 22, 23, 24, 25] (by decide +kernel) (by decide +kernel)
set_option maxRecDepth 20000 in
theorem gX1_shut_X1_holdAt : GoodIn wsX1_shut (wsV RX1 29 RX1 yX1_holdAt wsX1_holdAt) := goodIn_app (goodIn_of _ (by decide +kernel)) ggX1_shut_X1_holdAt
set_option maxRecDepth 20000 in
theorem ggX1_shut_X0_letGo : GoodIn wsX1_shut wsX0_letGo := goodIn_r _ [16, 17, 18, 19, 20, 21, 22, 23, 24, 25] (by decide +kernel) (by decide +kernel)
set_option maxRecDepth 20000 in
theorem gX1_shut_X0_letGo : GoodIn wsX1_shut (wsV RX1 36 RX0 yX0_letGo wsX0_letGo) := goodIn_app (goodIn_of _ (by decide +kernel)) ggX1_shut_X0_letGo
theorem dX1_shut_0 : decode cX1_shut 0 = .ok (.iload_n 1, 1) := by decide +kernel
theorem dX1_shut_1 : decode cX1_shut 1 = .ok (.invokestatic 19, 3) := by decide +kernel
theorem dX1_shut_4 : decode cX1_shut 4 = .ok (.ifCond .ne 5, 3) := by decide +kernel
theorem dX1_shut_7 : decode cX1_shut 7 = .ok (.iconst (-1), 1) := by decide +kernel
theorem dX1_shut_8 : decode cX1_shut 8 = .ok (.ireturn, 1) := by decide +kernel
theorem dX1_shut_9 : decode cX1_shut 9 = .ok (.aload_n 0, 1) := by decide +kernel
theorem dX1_shut_10 : decode cX1_shut 10 = .ok (.iload_n 1, 1) := by decide +kernel
theorem dX1_shut_11 : decode cX1_shut 11 = .ok (.invokevirtual 29, 3) := by decide +kernel
theorem dX1_shut_14 : decode cX1_shut 14 = .ok (.astore_n 2, 1) := by decide +kernel
theorem dX1_shut_15 : decode cX1_shut 15 = .ok (.aload_n 2, 1) := by decide +kernel
theorem dX1_shut_16 : decode cX1_shut 16 = .ok (.ifnonnull 6, 3) := by decide +kernel
theorem dX1_shut_19 : decode cX1_shut 19 = .ok (.bipush (-2), 2) := by decide +kernel
theorem dX1_shut_21 : decode cX1_shut 21 = .ok (.ireturn, 1) := by decide +kernel
theorem dX1_shut_22 : decode cX1_shut 22 = .ok (.aload_n 2, 1) := by decide +kernel
theorem dX1_shut_23 : decode cX1_shut 23 = .ok (.getfield 49, 3) := by decide +kernel
theorem dX1_shut_26 : decode cX1_shut 26 = .ok (.ifCond .ne 11, 3) := by decide +kernel
theorem dX1_shut_29 : decode cX1_shut 29 = .ok (.aload_n 2, 1) := by decide +kernel
theorem dX1_shut_30 : decode cX1_shut 30 = .ok (.iconst 2, 1) := by decide +kernel
theorem dX1_shut_31 : decode cX1_shut 31 = .ok (.bipush (-3), 2) := by decide +kernel
theorem dX1_shut_33 : decode cX1_shut 33 = .ok (.invokevirtual 36, 3) := by decide +kernel
theorem dX1_shut_36 : decode cX1_shut 36 = .ok (.ireturn, 1) := by decide +kernel
theorem dX1_shut_37 : decode cX1_shut 37 = .ok (.aload_n 2, 1) := by decide +kernel
theorem dX1_shut_38 : decode cX1_shut 38 = .ok (.iconst 0, 1) := by decide +kernel
theorem dX1_shut_39 : decode cX1_shut 39 = .ok (.putfield 49, 3) := by decide +kernel
theorem dX1_shut_42 : decode cX1_shut 42 = .ok (.aload_n 2, 1) := by decide +kernel
theorem dX1_shut_43 : decode cX1_shut 43 = .ok (.iconst 1, 1) := by decide +kernel
theorem dX1_shut_44 : decode cX1_shut 44 = .ok (.iconst 1, 1) := by decide +kernel
theorem dX1_shut_45 : decode cX1_shut 45 = .ok (.invokevirtual 36, 3) := by decide +kernel
theorem dX1_shut_48 : decode cX1_shut 48 = .ok (.ireturn, 1) := by decide +kernel
set_option maxRecDepth 20000 in
theorem ggX1_put_X1_isHook : GoodIn wsX1_put wsX1_isHook := goodIn_r _ [6] (by decide +kernel) (by decide +kernel)
set_option maxRecDepth 20000 in
theorem gX1_put_X1_isHook : GoodIn wsX1_put (va_wsS RX1 19 yX1_isHook wsX1_isHook) := goodIn_app (goodIn_of _ (by decide +kernel)) ggX1_put_X1_isHook
set_option maxRecDepth 20000 in
theorem ggX1_put_X1_isWeight : GoodIn wsX1_put wsX1_isWeight := goodIn_r _ [9] (by decide +kernel) (by decide +kernel)
set_option maxRecDepth 20000 in
theorem gX1_put_X1_isWeight : GoodIn wsX1_put (va_wsS RX1 23 yX1_isWeight wsX1_isWeight) := goodIn_app (goodIn_of _ (by decide +kernel)) ggX1_put_X1_isWeight
set_option maxRecDepth 20000 in
theorem ggX1_put_X1_holdAt : GoodIn wsX1_put wsX1_holdAt := goodIn_r _ [13, 14, 15, 3, 4, 5, 6, 41, 42, 33, 34, 35, 36, 37, 38, 39, 40] (by decide +kernel) (by decide +kernel)
set_option maxRecDepth 20000 in
theorem gX1_put_X1_holdAt : GoodIn wsX1_put (wsV RX1 29 RX1 yX1_holdAt wsX1_holdAt) := goodIn_app (goodIn_of _ (by decide +kernel)) ggX1_put_X1_holdAt
set_option maxRecDepth 20000 in
theorem ggX1_put_X0_letGo : GoodIn wsX1_put wsX0_letGo := goodIn_r _ [20, 21, 33, 34, 35, 36, 37, 38, 39, 40] (by decide +kernel) (by decide +kernel)
set_option maxRecDepth 20000 in
theorem gX1_put_X0_letGo : GoodIn wsX1_put (wsV RX1 36 RX0 yX0_letGo wsX0_letGo) := goodIn_app (goodIn_of _ (by decide +kernel)) ggX1_put_X0_letGo
set_option maxRecDepth 20000 in
theorem ggX1_put_X0_accept : GoodIn wsX1_put wsX0_accept := goodIn_r _ [25, 26, 27, 28, 29, 30, 31, 19, 32, 33, 34, 35, 36, 37, 38, 39, 40] (by decide +kernel) (by decide +kernel)
set_option maxRecDepth 20000 in
theorem gX1_put_X0_accept : GoodIn wsX1_put (wsV RX1 53 RX0 yX0_accept wsX0_accept) := goodIn_app (goodIn_of _ (by decide +kernel)) ggX1_put_X0_accept
theorem dX1_put_0 : decode cX1_put 0 = .ok (.iload_n 1, 1) := by decide +kernel
theorem dX1_put_1 : decode cX1_put 1 = .ok (.invokestatic 19, 3) := by decide +kernel
theorem dX1_put_4 : decode cX1_put 4 = .ok (.ifCond .eq 10, 3) := by decide +kernel
theorem dX1_put_7 : decode cX1_put 7 = .ok (.iload_n 2, 1) := by decide +kernel
theorem dX1_put_8 : decode cX1_put 8 = .ok (.invokestatic 23, 3) := by decide +kernel
theorem dX1_put_11 : decode cX1_put 11 = .ok (.ifCond .ne 5, 3) := by decide +kernel
theorem dX1_put_14 : decode cX1_put 14 = .ok (.iconst (-1), 1) := by decide +kernel
theorem dX1_put_15 : decode cX1_put 15 = .ok (.ireturn, 1) := by decide +kernel
theorem dX1_put_16 : decode cX1_put 16 = .ok (.aload_n 0, 1) := by decide +kernel
theorem dX1_put_17 : decode cX1_put 17 = .ok (.iload_n 1, 1) := by decide +kernel
theorem dX1_put_18 : decode cX1_put 18 = .ok (.invokevirtual 29, 3) := by decide +kernel
theorem dX1_put_21 : decode cX1_put 21 = .ok (.astore_n 3, 1) := by decide +kernel
theorem dX1_put_22 : decode cX1_put 22 = .ok (.aload_n 3, 1) := by decide +kernel
theorem dX1_put_23 : decode cX1_put 23 = .ok (.ifnonnull 6, 3) := by decide +kernel
theorem dX1_put_26 : decode cX1_put 26 = .ok (.bipush (-2), 2) := by decide +kernel
theorem dX1_put_28 : decode cX1_put 28 = .ok (.ireturn, 1) := by decide +kernel
theorem dX1_put_29 : decode cX1_put 29 = .ok (.aload_n 3, 1) := by decide +kernel
theorem dX1_put_30 : decode cX1_put 30 = .ok (.getfield 49, 3) := by decide +kernel
theorem dX1_put_33 : decode cX1_put 33 = .ok (.ifCond .ne 11, 3) := by decide +kernel
theorem dX1_put_36 : decode cX1_put 36 = .ok (.aload_n 3, 1) := by decide +kernel
theorem dX1_put_37 : decode cX1_put 37 = .ok (.iconst 2, 1) := by decide +kernel
theorem dX1_put_38 : decode cX1_put 38 = .ok (.bipush (-3), 2) := by decide +kernel
theorem dX1_put_40 : decode cX1_put 40 = .ok (.invokevirtual 36, 3) := by decide +kernel
theorem dX1_put_43 : decode cX1_put 43 = .ok (.ireturn, 1) := by decide +kernel
theorem dX1_put_44 : decode cX1_put 44 = .ok (.aload_n 3, 1) := by decide +kernel
theorem dX1_put_45 : decode cX1_put 45 = .ok (.iload_n 2, 1) := by decide +kernel
theorem dX1_put_46 : decode cX1_put 46 = .ok (.invokevirtual 53, 3) := by decide +kernel
theorem dX1_put_49 : decode cX1_put 49 = .ok (.ifCond .ne 11, 3) := by decide +kernel
theorem dX1_put_52 : decode cX1_put 52 = .ok (.aload_n 3, 1) := by decide +kernel
theorem dX1_put_53 : decode cX1_put 53 = .ok (.iconst 4, 1) := by decide +kernel
theorem dX1_put_54 : decode cX1_put 54 = .ok (.bipush (-5), 2) := by decide +kernel
theorem dX1_put_56 : decode cX1_put 56 = .ok (.invokevirtual 36, 3) := by decide +kernel
theorem dX1_put_59 : decode cX1_put 59 = .ok (.ireturn, 1) := by decide +kernel
theorem dX1_put_60 : decode cX1_put 60 = .ok (.aload_n 3, 1) := by decide +kernel
theorem dX1_put_61 : decode cX1_put 61 = .ok (.iconst 1, 1) := by decide +kernel
theorem dX1_put_62 : decode cX1_put 62 = .ok (.aload_n 3, 1) := by decide +kernel
theorem dX1_put_63 : decode cX1_put 63 = .ok (.getfield 33, 3) := by decide +kernel
theorem dX1_put_66 : decode cX1_put 66 = .ok (.invokevirtual 36, 3) := by decide +kernel
theorem dX1_put_69 : decode cX1_put 69 = .ok (.ireturn, 1) := by decide +kernel
set_option maxRecDepth 20000 in
theorem ggX1_take_X1_isHook : GoodIn wsX1_take wsX1_isHook := goodIn_r _ [6] (by decide +kernel) (by decide +kernel)
set_option maxRecDepth 20000 in
theorem gX1_take_X1_isHook : GoodIn wsX1_take (va_wsS RX1 19 yX1_isHook wsX1_isHook) := goodIn_app (goodIn_of _ (by decide +kernel)) ggX1_take_X1_isHook
set_option maxRecDepth 20000 in
theorem ggX1_take_X1_holdAt : GoodIn wsX1_take wsX1_holdAt := goodIn_r _ [10, 11, 12, 3, 4, 5, 6, 33, 34, 25, 26, 27, 28, 29, 30, 31, 32] (by decide +kernel) (by decide +kernel)
set_option maxRecDepth 20000 in
theorem gX1_take_X1_holdAt : GoodIn wsX1_take (wsV RX1 29 RX1 yX1_holdAt wsX1_holdAt) := goodIn_app (goodIn_of _ (by decide +kernel)) ggX1_take_X1_holdAt
set_option maxRecDepth 20000 in
theorem ggX1_take_X0_letGo : GoodIn wsX1_take wsX0_letGo := goodIn_r _ [17, 18, 25, 26, 27, 28, 29, 30, 31, 32] (by decide +kernel) (by decide +kernel)
set_option maxRecDepth 20000 in
theorem gX1_take_X0_letGo : GoodIn wsX1_take (wsV RX1 36 RX0 yX0_letGo wsX0_letGo) := goodIn_app (goodIn_of _ (by decide +kernel)) ggX1_take_X0_letGo
set_option maxRecDepth 20000 in
theorem ggX1_take_X0_removeLast : GoodIn wsX1_take wsX0_removeLast := goodIn_r _ [22, 23, 24, 25, 26, 27, 28, 29, 30, 31, 32] (by decide +kernel) (by decide +kernel)
set_option maxRecDepth 20000 in
theorem gX1_take_X0_removeLast : GoodIn wsX1_take (wsV RX1 56 RX0 yX0_removeLast wsX0_removeLast) := goodIn_app (goodIn_of _ (by decide +kernel)) ggX1_take_X0_removeLast
theorem dX1_take_0 : decode cX1_take 0 = .ok (.iload_n 1, 1) := by decide +kernel
theorem dX1_take_1 : decode cX1_take 1 = .ok (.invokestatic 19, 3) := by decide +kernel
theorem dX1_take_4 : decode cX1_take 4 = .ok (.ifCond .ne 5, 3) := by decide +kernel
theorem dX1_take_7 : decode cX1_take 7 = .ok (.iconst (-1), 1) := by decide +kernel
theorem dX1_take_8 : decode cX1_take 8 = .ok (.ireturn, 1) := by decide +kernel
theorem dX1_take_9 : decode cX1_take 9 = .ok (.aload_n 0, 1) := by decide +kernel
theorem dX1_take_10 : decode cX1_take 10 = .ok (.iload_n 1, 1) := by decide +kernel
theorem dX1_take_11 : decode cX1_take 11 = .ok (.invokevirtual 29, 3) := by decide +kernel
theorem dX1_take_14 : decode cX1_take 14 = .ok (.astore_n 2, 1) := by decide +kernel
theorem dX1_take_15 : decode cX1_take 15 = .ok (.aload_n 2, 1) := by decide +kernel
theorem dX1_take_16 : decode cX1_take 16 = .ok (.ifnonnull 6, 3) := by decide +kernel
theorem dX1_take_19 : decode cX1_take 19 = .ok (.bipush (-2), 2) := by decide +kernel
theorem dX1_take_21 : decode cX1_take 21 = .ok (.ireturn, 1) := by decide +kernel
theorem dX1_take_22 : decode cX1_take 22 = .ok (.aload_n 2, 1) := by decide +kernel
theorem dX1_take_23 : decode cX1_take 23 = .ok (.getfield 49, 3) := by decide +kernel
theorem dX1_take_26 : decode cX1_take 26 = .ok (.ifCond .ne 11, 3) := by decide +kernel
theorem dX1_take_29 : decode cX1_take 29 = .ok (.aload_n 2, 1) := by decide +kernel
theorem dX1_take_30 : decode cX1_take 30 = .ok (.iconst 2, 1) := by decide +kernel
theorem dX1_take_31 : decode cX1_take 31 = .ok (.bipush (-3), 2) := by decide +kernel
theorem dX1_take_33 : decode cX1_take 33 = .ok (.invokevirtual 36, 3) := by decide +kernel
theorem dX1_take_36 : decode cX1_take 36 = .ok (.ireturn, 1) := by decide +kernel
theorem dX1_take_37 : decode cX1_take 37 = .ok (.aload_n 2, 1) := by decide +kernel
theorem dX1_take_38 : decode cX1_take 38 = .ok (.getfield 33, 3) := by decide +kernel
theorem dX1_take_41 : decode cX1_take 41 = .ok (.ifCond .ne 11, 3) := by decide +kernel
theorem dX1_take_44 : decode cX1_take 44 = .ok (.aload_n 2, 1) := by decide +kernel
theorem dX1_take_45 : decode cX1_take 45 = .ok (.iconst 4, 1) := by decide +kernel
theorem dX1_take_46 : decode cX1_take 46 = .ok (.bipush (-6), 2) := by decide +kernel
theorem dX1_take_48 : decode cX1_take 48 = .ok (.invokevirtual 36, 3) := by decide +kernel
theorem dX1_take_51 : decode cX1_take 51 = .ok (.ireturn, 1) := by decide +kernel
theorem dX1_take_52 : decode cX1_take 52 = .ok (.aload_n 2, 1) := by decide +kernel
theorem dX1_take_53 : decode cX1_take 53 = .ok (.iconst 1, 1) := by decide +kernel
theorem dX1_take_54 : decode cX1_take 54 = .ok (.aload_n 2, 1) := by decide +kernel
theorem dX1_take_55 : decode cX1_take 55 = .ok (.invokevirtual 56, 3) := by decide +kernel
theorem dX1_take_58 : decode cX1_take 58 = .ok (.invokevirtual 36, 3) := by decide +kernel
theorem dX1_take_61 : decode cX1_take 61 = .ok (.ireturn, 1) := by decide +kernel
set_option maxRecDepth 20000 in
theorem ggX1_move_X1_actOnTwo : GoodIn wsX1_move wsX1_actOnTwo := goodIn_r _ [5, 6, 7, 8, 4, 9, 10, 11, 12, 13, 14, 15, 16, 17, 18, 19, 20, 21, 22, 23, 24, 25, 26, 27, 28, 29, 30, 31, 32, 33, 34, 35, 36, 37, 38, 39, 40, 41, 42, 43, 44, 45, 46, 47, 48, 49, 50, 51, 52, 53, 54, 55, 56, 57, 58, 59, 60, 61, 62] (by decide +kernel) (by decide +kernel)
set_option maxRecDepth 20000 in
theorem gX1_move_X1_actOnTwo : GoodIn wsX1_move (wsV RX1 60 RX1 yX1_actOnTwo wsX1_actOnTwo) := goodIn_app (goodIn_of _ (by decide +kernel)) ggX1_move_X1_actOnTwo
theorem dX1_move_0 : decode cX1_move 0 = .ok (.aload_n 0, 1) := by decide +kernel
theorem dX1_move_1 : decode cX1_move 1 = .ok (.iload_n 1, 1) := by decide +kernel
theorem dX1_move_2 : decode cX1_move 2 = .ok (.iload_n 2, 1) := by decide +kernel
theorem dX1_move_3 : decode cX1_move 3 = .ok (.iconst 0, 1) := by decide +kernel
theorem dX1_move_4 : decode cX1_move 4 = .ok (.invokevirtual 60, 3) := by decide +kernel
theorem dX1_move_7 : decode cX1_move 7 = .ok (.ireturn, 1) := by decide +kernel
set_option maxRecDepth 20000 in
theorem ggX1_swap_X1_actOnTwo : GoodIn wsX1_swap wsX1_actOnTwo := goodIn_r _ [5, 6, 7, 8, 4, 9, 10, 11, 12, 13, 14, 15, 16, 17, 18, 19, 20, 21, 22, 23, 24, 25, 26, 27, 28, 29, 30, 31, 32, 33, 34, 35, 36, 37, 38, 39, 40, 41, 42, 43, 44, 45, 46, 47, 48, 49, 50, 51, 52, 53, 54, 55, 56, 57, 58, 59, 60, 61, 62] (by decide +kernel) (by decide +kernel)
set_option maxRecDepth 20000 in
theorem gX1_swap_X1_actOnTwo : GoodIn wsX1_swap (wsV RX1 60 RX1 yX1_actOnTwo wsX1_actOnTwo) := goodIn_app (goodIn_of _ (by decide +kernel)) ggX1_swap_X1_actOnTwo
theorem dX1_swap_0 : decode cX1_swap 0 = .ok (.aload_n 0, 1) := by decide +kernel
theorem dX1_swap_1 : decode cX1_swap 1 = .ok (.iload_n 1, 1) := by decide +kernel
theorem dX1_swap_2 : decode cX1_swap 2 = .ok (.iload_n 2, 1) := by decide +kernel
theorem dX1_swap_3 : decode cX1_swap 3 = .ok (.iconst 1, 1) := by decide +kernel
theorem dX1_swap_4 : decode cX1_swap 4 = .ok (.invokevirtual 60, 3) := by decide +kernel
theorem dX1_swap_7 : decode cX1_swap 7 = .ok (.ireturn, 1) := by decide +kernel
set_option maxRecDepth 20000 in
theorem ggX1_find_X1_isWeight : GoodIn wsX1_find wsX1_isWeight := goodIn_r _ [5] (by decide +kernel) (by decide +kernel)
set_option maxRecDepth 20000 in
theorem gX1_find_X1_isWeight : GoodIn wsX1_find (va_wsS RX1 23 yX1_isWeight wsX1_isWeight) := goodIn_app (goodIn_of _ (by decide +kernel)) ggX1_find_X1_isWeight
set_option maxRecDepth 20000 in
theorem ggX1_find_X1_holdAt : GoodIn wsX1_find wsX1_holdAt := goodIn_r _ [9, 10, 11, 12, 13, 4, 14, 35, 36, 27, 28, 29, 30, 31, 32, 33, 34] (by decide +kernel) (by decide +kernel)
set_option maxRecDepth 20000 in
theorem gX1_find_X1_holdAt : GoodIn wsX1_find (wsV RX1 29 RX1 yX1_holdAt wsX1_holdAt) := goodIn_app (goodIn_of _ (by decide +kernel)) ggX1_find_X1_holdAt
set_option maxRecDepth 20000 in
theorem ggX1_find_X0_letGo : GoodIn wsX1_find wsX0_letGo := goodIn_r _ [19, 20, 27, 28, 29, 30, 31, 32, 33, 34] (by decide +kernel) (by decide +kernel)
set_option maxRecDepth 20000 in
theorem gX1_find_X0_letGo : GoodIn wsX1_find (wsV RX1 36 RX0 yX0_letGo wsX0_letGo) := goodIn_app (goodIn_of _ (by decide +kernel)) ggX1_find_X0_letGo
set_option maxRecDepth 20000 in
theorem ggX1_find_X0_contains : GoodIn wsX1_find wsX0_contains := goodIn_r _ [24, 25, 26, 27, 28, 29, 30, 31, 32, 33, 34] (by decide +kernel) (by decide +kernel)
set_option maxRecDepth 20000 in
theorem gX1_find_X0_contains : GoodIn wsX1_find (wsV RX1 64 RX0 yX0_contains wsX0_contains) := goodIn_app (goodIn_of _ (by decide +kernel)) ggX1_find_X0_contains
theorem dX1_find_0 : decode cX1_find 0 = .ok (.iload_n 1, 1) := by decide +kernel
theorem dX1_find_1 : decode cX1_find 1 = .ok (.invokestatic 23, 3) := by decide +kernel
theorem dX1_find_4 : decode cX1_find 4 = .ok (.ifCond .ne 5, 3) := by decide +kernel
theorem dX1_find_7 : decode cX1_find 7 = .ok (.iconst (-1), 1) := by decide +kernel
theorem dX1_find_8 : decode cX1_find 8 = .ok (.ireturn, 1) := by decide +kernel
theorem dX1_find_9 : decode cX1_find 9 = .ok (.iconst 0, 1) := by decide +kernel
theorem dX1_find_10 : decode cX1_find 10 = .ok (.istore_n 2, 1) := by decide +kernel
theorem dX1_find_11 : decode cX1_find 11 = .ok (.iload_n 2, 1) := by decide +kernel
theorem dX1_find_12 : decode cX1_find 12 = .ok (.bipush 24, 2) := by decide +kernel
theorem dX1_find_14 : decode cX1_find 14 = .ok (.if_icmp .ge 63, 3) := by decide +kernel
theorem dX1_find_17 : decode cX1_find 17 = .ok (.aload_n 0, 1) := by decide +kernel
theorem dX1_find_18 : decode cX1_find 18 = .ok (.iload_n 2, 1) := by decide +kernel
theorem dX1_find_19 : decode cX1_find 19 = .ok (.invokevirtual 29, 3) := by decide +kernel
theorem dX1_find_22 : decode cX1_find 22 = .ok (.astore_n 3, 1) := by decide +kernel
theorem dX1_find_23 : decode cX1_find 23 = .ok (.aload_n 3, 1) := by decide +kernel
theorem dX1_find_24 : decode cX1_find 24 = .ok (.ifnonnull 6, 3) := by decide +kernel
theorem dX1_find_27 : decode cX1_find 27 = .ok (.goto 44, 3) := by decide +kernel
theorem dX1_find_30 : decode cX1_find 30 = .ok (.aload_n 3, 1) := by decide +kernel
theorem dX1_find_31 : decode cX1_find 31 = .ok (.getfield 49, 3) := by decide +kernel
theorem dX1_find_34 : decode cX1_find 34 = .ok (.ifCond .ne 14, 3) := by decide +kernel
theorem dX1_find_37 : decode cX1_find 37 = .ok (.aload_n 3, 1) := by decide +kernel
theorem dX1_find_38 : decode cX1_find 38 = .ok (.iconst 3, 1) := by decide +kernel
theorem dX1_find_39 : decode cX1_find 39 = .ok (.bipush (-8), 2) := by decide +kernel
theorem dX1_find_41 : decode cX1_find 41 = .ok (.invokevirtual 36, 3) := by decide +kernel
theorem dX1_find_44 : decode cX1_find 44 = .ok (.pop, 1) := by decide +kernel
theorem dX1_find_45 : decode cX1_find 45 = .ok (.goto 26, 3) := by decide +kernel
theorem dX1_find_48 : decode cX1_find 48 = .ok (.aload_n 3, 1) := by decide +kernel
theorem dX1_find_49 : decode cX1_find 49 = .ok (.iload_n 1, 1) := by decide +kernel
theorem dX1_find_50 : decode cX1_find 50 = .ok (.invokevirtual 64, 3) := by decide +kernel
theorem dX1_find_53 : decode cX1_find 53 = .ok (.ifCond .eq 10, 3) := by decide +kernel
theorem dX1_find_56 : decode cX1_find 56 = .ok (.aload_n 3, 1) := by decide +kernel
theorem dX1_find_57 : decode cX1_find 57 = .ok (.iconst 3, 1) := by decide +kernel
theorem dX1_find_58 : decode cX1_find 58 = .ok (.iload_n 2, 1) := by decide +kernel
theorem dX1_find_59 : decode cX1_find 59 = .ok (.invokevirtual 36, 3) := by decide +kernel
theorem dX1_find_62 : decode cX1_find 62 = .ok (.ireturn, 1) := by decide +kernel
theorem dX1_find_63 : decode cX1_find 63 = .ok (.aload_n 3, 1) := by decide +kernel
theorem dX1_find_64 : decode cX1_find 64 = .ok (.iconst 1, 1) := by decide +kernel
theorem dX1_find_65 : decode cX1_find 65 = .ok (.bipush (-8), 2) := by decide +kernel
theorem dX1_find_67 : decode cX1_find 67 = .ok (.invokevirtual 36, 3) := by decide +kernel
theorem dX1_find_70 : decode cX1_find 70 = .ok (.pop, 1) := by decide +kernel
theorem dX1_find_71 : decode cX1_find 71 = .ok (.iinc 2 1, 3) := by decide +kernel
theorem dX1_find_74 : decode cX1_find 74 = .ok (.goto (-63), 3) := by decide +kernel
theorem dX1_find_77 : decode cX1_find 77 = .ok (.bipush (-8), 2) := by decide +kernel
theorem dX1_find_79 : decode cX1_find 79 = .ok (.ireturn, 1) := by decide +kernel
set_option maxRecDepth 20000 in
theorem ggX1_weigh_X1_isHook : GoodIn wsX1_weigh wsX1_isHook := goodIn_r _ [5] (by decide +kernel) (by decide +kernel)
set_option maxRecDepth 20000 in
theorem gX1_weigh_X1_isHook : GoodIn wsX1_weigh (va_wsS RX1 19 yX1_isHook wsX1_isHook) := goodIn_app (goodIn_of _ (by decide +kernel)) ggX1_weigh_X1_isHook
set_option maxRecDepth 20000 in
theorem ggX1_weigh_X1_holdRow : GoodIn wsX1_weigh wsX1_holdRow := goodIn_r _ [9, 10, 11, 12, 4, 13, 14, 15, 2, 3, 5, 32, 33, 34, 35, 36, 37, 38, 39, 40, 41] (by decide +kernel) (by decide +kernel)
set_option maxRecDepth 20000 in
theorem gX1_weigh_X1_holdRow : GoodIn wsX1_weigh (wsV RX1 67 RX1 yX1_holdRow wsX1_holdRow) := goodIn_app (goodIn_of _ (by decide +kernel)) ggX1_weigh_X1_holdRow
set_option maxRecDepth 20000 in
theorem ggX1_weigh_X1_letGoRow : GoodIn wsX1_weigh wsX1_letGoRow := goodIn_r _ [19, 14, 2, 3, 4, 5, 20, 21, 22, 23, 24, 25, 26, 27, 28, 29, 30, 31, 32, 33, 34, 35, 36, 37, 38, 39, 40, 41] (by decide +kernel) (by decide +kernel)
set_option maxRecDepth 20000 in
theorem gX1_weigh_X1_letGoRow : GoodIn wsX1_weigh (wsV RX1 70 RX1 yX1_letGoRow wsX1_letGoRow) := goodIn_app (goodIn_of _ (by decide +kernel)) ggX1_weigh_X1_letGoRow
theorem dX1_weigh_0 : decode cX1_weigh 0 = .ok (.iload_n 1, 1) := by decide +kernel
theorem dX1_weigh_1 : decode cX1_weigh 1 = .ok (.invokestatic 19, 3) := by decide +kernel
theorem dX1_weigh_4 : decode cX1_weigh 4 = .ok (.ifCond .eq 13, 3) := by decide +kernel
theorem dX1_weigh_7 : decode cX1_weigh 7 = .ok (.iload_n 2, 1) := by decide +kernel
theorem dX1_weigh_8 : decode cX1_weigh 8 = .ok (.ifCond .lt 9, 3) := by decide +kernel
theorem dX1_weigh_11 : decode cX1_weigh 11 = .ok (.iload_n 2, 1) := by decide +kernel
theorem dX1_weigh_12 : decode cX1_weigh 12 = .ok (.bipush 12, 2) := by decide +kernel
theorem dX1_weigh_14 : decode cX1_weigh 14 = .ok (.if_icmp .le 5, 3) := by decide +kernel
theorem dX1_weigh_17 : decode cX1_weigh 17 = .ok (.iconst (-1), 1) := by decide +kernel
theorem dX1_weigh_18 : decode cX1_weigh 18 = .ok (.ireturn, 1) := by decide +kernel
theorem dX1_weigh_19 : decode cX1_weigh 19 = .ok (.aload_n 0, 1) := by decide +kernel
theorem dX1_weigh_20 : decode cX1_weigh 20 = .ok (.dup, 1) := by decide +kernel
theorem dX1_weigh_21 : decode cX1_weigh 21 = .ok (.getfield 15, 3) := by decide +kernel
theorem dX1_weigh_24 : decode cX1_weigh 24 = .ok (.iconst 1, 1) := by decide +kernel
theorem dX1_weigh_25 : decode cX1_weigh 25 = .ok (.iadd, 1) := by decide +kernel
theorem dX1_weigh_26 : decode cX1_weigh 26 = .ok (.putfield 15, 3) := by decide +kernel
theorem dX1_weigh_29 : decode cX1_weigh 29 = .ok (.aload_n 0, 1) := by decide +kernel
theorem dX1_weigh_30 : decode cX1_weigh 30 = .ok (.iload_n 1, 1) := by decide +kernel
theorem dX1_weigh_31 : decode cX1_weigh 31 = .ok (.iload_n 2, 1) := by decide +kernel
theorem dX1_weigh_32 : decode cX1_weigh 32 = .ok (.invokevirtual 67, 3) := by decide +kernel
theorem dX1_weigh_35 : decode cX1_weigh 35 = .ok (.istore_n 3, 1) := by decide +kernel
theorem dX1_weigh_36 : decode cX1_weigh 36 = .ok (.iload_n 3, 1) := by decide +kernel
theorem dX1_weigh_37 : decode cX1_weigh 37 = .ok (.iload_n 2, 1) := by decide +kernel
theorem dX1_weigh_38 : decode cX1_weigh 38 = .ok (.if_icmp .ge 14, 3) := by decide +kernel
theorem dX1_weigh_41 : decode cX1_weigh 41 = .ok (.aload_n 0, 1) := by decide +kernel
theorem dX1_weigh_42 : decode cX1_weigh 42 = .ok (.iload_n 1, 1) := by decide +kernel
theorem dX1_weigh_43 : decode cX1_weigh 43 = .ok (.iload_n 3, 1) := by decide +kernel
theorem dX1_weigh_44 : decode cX1_weigh 44 = .ok (.iconst 4, 1) := by decide +kernel
theorem dX1_weigh_45 : decode cX1_weigh 45 = .ok (.invokevirtual 70, 3) := by decide +kernel
theorem dX1_weigh_48 : decode cX1_weigh 48 = .ok (.pop, 1) := by decide +kernel
theorem dX1_weigh_49 : decode cX1_weigh 49 = .ok (.bipush (-2), 2) := by decide +kernel
theorem dX1_weigh_51 : decode cX1_weigh 51 = .ok (.ireturn, 1) := by decide +kernel
theorem dX1_weigh_52 : decode cX1_weigh 52 = .ok (.aload_n 0, 1) := by decide +kernel
theorem dX1_weigh_53 : decode cX1_weigh 53 = .ok (.iload_n 1, 1) := by decide +kernel
theorem dX1_weigh_54 : decode cX1_weigh 54 = .ok (.iload_n 2, 1) := by decide +kernel
theorem dX1_weigh_55 : decode cX1_weigh 55 = .ok (.iconst 2, 1) := by decide +kernel
theorem dX1_weigh_56 : decode cX1_weigh 56 = .ok (.invokevirtual 70, 3) := by decide +kernel
theorem dX1_weigh_59 : decode cX1_weigh 59 = .ok (.ireturn, 1) := by decide +kernel
set_option maxRecDepth 20000 in
theorem ggX1_drop_X1_isHook : GoodIn wsX1_drop wsX1_isHook := goodIn_r _ [6] (by decide +kernel) (by decide +kernel)
set_option maxRecDepth 20000 in
theorem gX1_drop_X1_isHook : GoodIn wsX1_drop (va_wsS RX1 19 yX1_isHook wsX1_isHook) := goodIn_app (goodIn_of _ (by decide +kernel)) ggX1_drop_X1_isHook
set_option maxRecDepth 20000 in
theorem ggX1_drop_X1_holdAt : GoodIn wsX1_drop wsX1_holdAt := goodIn_r _ [10, 11, 12, 3, 4, 5, 6, 33, 34, 25, 26, 27, 28, 29, 30, 31, 32] (by decide +kernel) (by decide +kernel)
set_option maxRecDepth 20000 in
theorem gX1_drop_X1_holdAt : GoodIn wsX1_drop (wsV RX1 29 RX1 yX1_holdAt wsX1_holdAt) := goodIn_app (goodIn_of _ (by decide +kernel)) ggX1_drop_X1_holdAt
set_option maxRecDepth 20000 in
theorem ggX1_drop_X0_letGo : GoodIn wsX1_drop wsX0_letGo := goodIn_r _ [17, 18, 25, 26, 27, 28, 29, 30, 31, 32] (by decide +kernel) (by decide +kernel)
set_option maxRecDepth 20000 in
theorem gX1_drop_X0_letGo : GoodIn wsX1_drop (wsV RX1 36 RX0 yX0_letGo wsX0_letGo) := goodIn_app (goodIn_of _ (by decide +kernel)) ggX1_drop_X0_letGo
set_option maxRecDepth 20000 in
theorem ggX1_drop_X0_removeLast : GoodIn wsX1_drop wsX0_removeLast := goodIn_r _ [22, 23, 24, 25, 26, 27, 28, 29, 30, 31, 32] (by decide +kernel) (by decide +kernel)
set_option maxRecDepth 20000 in
theorem gX1_drop_X0_removeLast : GoodIn wsX1_drop (wsV RX1 56 RX0 yX0_removeLast wsX0_removeLast) := goodIn_app (goodIn_of _ (by decide +kernel)) ggX1_drop_X0_removeLast
theorem dX1_drop_0 : decode cX1_drop 0 = .ok (.iload_n 1, 1) := by decide +kernel
theorem dX1_drop_1 : decode cX1_drop 1 = .ok (.invokestatic 19, 3) := by decide +kernel
theorem dX1_drop_4 : decode cX1_drop 4 = .ok (.ifCond .eq 14, 3) := by decide +kernel
theorem dX1_drop_7 : decode cX1_drop 7 = .ok (.iload_n 2, 1) := by decide +kernel
theorem dX1_drop_8 : decode cX1_drop 8 = .ok (.iconst 1, 1) := by decide +kernel
theorem dX1_drop_9 : decode cX1_drop 9 = .ok (.if_icmp .lt 9, 3) := by decide +kernel
theorem dX1_drop_12 : decode cX1_drop 12 = .ok (.iload_n 2, 1) := by decide +kernel
theorem dX1_drop_13 : decode cX1_drop 13 = .ok (.bipush 10, 2) := by decide +kernel
theorem dX1_drop_15 : decode cX1_drop 15 = .ok (.if_icmp .le 5, 3) := by decide +kernel
theorem dX1_drop_18 : decode cX1_drop 18 = .ok (.iconst (-1), 1) := by decide +kernel
theorem dX1_drop_19 : decode cX1_drop 19 = .ok (.ireturn, 1) := by decide +kernel
theorem dX1_drop_20 : decode cX1_drop 20 = .ok (.aload_n 0, 1) := by decide +kernel
theorem dX1_drop_21 : decode cX1_drop 21 = .ok (.iload_n 1, 1) := by decide +kernel
theorem dX1_drop_22 : decode cX1_drop 22 = .ok (.invokevirtual 29, 3) := by decide +kernel
theorem dX1_drop_25 : decode cX1_drop 25 = .ok (.astore 4, 2) := by decide +kernel
theorem dX1_drop_27 : decode cX1_drop 27 = .ok (.aload 4, 2) := by decide +kernel
theorem dX1_drop_29 : decode cX1_drop 29 = .ok (.ifnonnull 6, 3) := by decide +kernel
theorem dX1_drop_32 : decode cX1_drop 32 = .ok (.bipush (-2), 2) := by decide +kernel
theorem dX1_drop_34 : decode cX1_drop 34 = .ok (.ireturn, 1) := by decide +kernel
theorem dX1_drop_35 : decode cX1_drop 35 = .ok (.aload 4, 2) := by decide +kernel
theorem dX1_drop_37 : decode cX1_drop 37 = .ok (.getfield 49, 3) := by decide +kernel
theorem dX1_drop_40 : decode cX1_drop 40 = .ok (.ifCond .ne 12, 3) := by decide +kernel
theorem dX1_drop_43 : decode cX1_drop 43 = .ok (.aload 4, 2) := by decide +kernel
theorem dX1_drop_45 : decode cX1_drop 45 = .ok (.iconst 2, 1) := by decide +kernel
theorem dX1_drop_46 : decode cX1_drop 46 = .ok (.bipush (-3), 2) := by decide +kernel
theorem dX1_drop_48 : decode cX1_drop 48 = .ok (.invokevirtual 36, 3) := by decide +kernel
theorem dX1_drop_51 : decode cX1_drop 51 = .ok (.ireturn, 1) := by decide +kernel
theorem dX1_drop_52 : decode cX1_drop 52 = .ok (.iconst 0, 1) := by decide +kernel
theorem dX1_drop_53 : decode cX1_drop 53 = .ok (.istore 5, 2) := by decide +kernel
theorem dX1_drop_55 : decode cX1_drop 55 = .ok (.iconst 0, 1) := by decide +kernel
theorem dX1_drop_56 : decode cX1_drop 56 = .ok (.istore 6, 2) := by decide +kernel
theorem dX1_drop_58 : decode cX1_drop 58 = .ok (.iload 6, 2) := by decide +kernel
theorem dX1_drop_60 : decode cX1_drop 60 = .ok (.iload_n 2, 1) := by decide +kernel
theorem dX1_drop_61 : decode cX1_drop 61 = .ok (.if_icmp .ge 36, 3) := by decide +kernel
theorem dX1_drop_64 : decode cX1_drop 64 = .ok (.aload 4, 2) := by decide +kernel
theorem dX1_drop_66 : decode cX1_drop 66 = .ok (.getfield 33, 3) := by decide +kernel
theorem dX1_drop_69 : decode cX1_drop 69 = .ok (.ifCond .le 28, 3) := by decide +kernel
theorem dX1_drop_72 : decode cX1_drop 72 = .ok (.iload 5, 2) := by decide +kernel
theorem dX1_drop_74 : decode cX1_drop 74 = .ok (.aload 4, 2) := by decide +kernel
theorem dX1_drop_76 : decode cX1_drop 76 = .ok (.invokevirtual 56, 3) := by decide +kernel
theorem dX1_drop_79 : decode cX1_drop 79 = .ok (.iadd, 1) := by decide +kernel
theorem dX1_drop_80 : decode cX1_drop 80 = .ok (.istore 5, 2) := by decide +kernel
theorem dX1_drop_82 : decode cX1_drop 82 = .ok (.iload 5, 2) := by decide +kernel
theorem dX1_drop_84 : decode cX1_drop 84 = .ok (.iload_n 3, 1) := by decide +kernel
theorem dX1_drop_85 : decode cX1_drop 85 = .ok (.if_icmp .lt 6, 3) := by decide +kernel
theorem dX1_drop_88 : decode cX1_drop 88 = .ok (.goto 9, 3) := by decide +kernel
theorem dX1_drop_91 : decode cX1_drop 91 = .ok (.iinc 6 1, 3) := by decide +kernel
theorem dX1_drop_94 : decode cX1_drop 94 = .ok (.goto (-36), 3) := by decide +kernel
theorem dX1_drop_97 : decode cX1_drop 97 = .ok (.aload 4, 2) := by decide +kernel
theorem dX1_drop_99 : decode cX1_drop 99 = .ok (.iconst 1, 1) := by decide +kernel
theorem dX1_drop_100 : decode cX1_drop 100 = .ok (.iload 5, 2) := by decide +kernel
theorem dX1_drop_102 : decode cX1_drop 102 = .ok (.invokevirtual 36, 3) := by decide +kernel
theorem dX1_drop_105 : decode cX1_drop 105 = .ok (.ireturn, 1) := by decide +kernel
set_option maxRecDepth 20000 in
theorem ggX1_tally_X1_holdAt : GoodIn wsX1_tally wsX1_holdAt := goodIn_r _ [6, 7, 8, 9, 10, 5, 11, 24, 25, 26, 27, 28, 29, 30, 31, 32, 33] (by decide +kernel) (by decide +kernel)
set_option maxRecDepth 20000 in
theorem gX1_tally_X1_holdAt : GoodIn wsX1_tally (wsV RX1 29 RX1 yX1_holdAt wsX1_holdAt) := goodIn_app (goodIn_of _ (by decide +kernel)) ggX1_tally_X1_holdAt
set_option maxRecDepth 20000 in
theorem ggX1_tally_X0_weight : GoodIn wsX1_tally wsX0_weight := goodIn_r _ [16, 17, 18, 26, 27, 28, 29, 30, 31, 32, 33] (by decide +kernel) (by decide +kernel)
set_option maxRecDepth 20000 in
theorem gX1_tally_X0_weight : GoodIn wsX1_tally (wsV RX1 74 RX0 yX0_weight wsX0_weight) := goodIn_app (goodIn_of _ (by decide +kernel)) ggX1_tally_X0_weight
set_option maxRecDepth 20000 in
theorem ggX1_tally_X0_letGo : GoodIn wsX1_tally wsX0_letGo := goodIn_r _ [22, 23, 26, 27, 28, 29, 30, 31, 32, 33] (by decide +kernel) (by decide +kernel)
set_option maxRecDepth 20000 in
theorem gX1_tally_X0_letGo : GoodIn wsX1_tally (wsV RX1 36 RX0 yX0_letGo wsX0_letGo) := goodIn_app (goodIn_of _ (by decide +kernel)) ggX1_tally_X0_letGo
theorem dX1_tally_0 : decode cX1_tally 0 = .ok (.aload_n 0, 1) := by decide +kernel
theorem dX1_tally_1 : decode cX1_tally 1 = .ok (.dup, 1) := by decide +kernel
theorem dX1_tally_2 : decode cX1_tally 2 = .ok (.getfield 15, 3) := by decide +kernel
theorem dX1_tally_5 : decode cX1_tally 5 = .ok (.iconst 1, 1) := by decide +kernel
theorem dX1_tally_6 : decode cX1_tally 6 = .ok (.iadd, 1) := by decide +kernel
theorem dX1_tally_7 : decode cX1_tally 7 = .ok (.putfield 15, 3) := by decide +kernel
theorem dX1_tally_10 : decode cX1_tally 10 = .ok (.lconst 0, 1) := by decide +kernel
theorem dX1_tally_11 : decode cX1_tally 11 = .ok (.lstore_n 1, 1) := by decide +kernel
theorem dX1_tally_12 : decode cX1_tally 12 = .ok (.iconst 0, 1) := by decide +kernel
theorem dX1_tally_13 : decode cX1_tally 13 = .ok (.istore_n 3, 1) := by decide +kernel
theorem dX1_tally_14 : decode cX1_tally 14 = .ok (.iload_n 3, 1) := by decide +kernel
theorem dX1_tally_15 : decode cX1_tally 15 = .ok (.bipush 24, 2) := by decide +kernel
theorem dX1_tally_17 : decode cX1_tally 17 = .ok (.if_icmp .ge 41, 3) := by decide +kernel
theorem dX1_tally_20 : decode cX1_tally 20 = .ok (.aload_n 0, 1) := by decide +kernel
theorem dX1_tally_21 : decode cX1_tally 21 = .ok (.iload_n 3, 1) := by decide +kernel
theorem dX1_tally_22 : decode cX1_tally 22 = .ok (.invokevirtual 29, 3) := by decide +kernel
theorem dX1_tally_25 : decode cX1_tally 25 = .ok (.astore 4, 2) := by decide +kernel
theorem dX1_tally_27 : decode cX1_tally 27 = .ok (.aload 4, 2) := by decide +kernel
theorem dX1_tally_29 : decode cX1_tally 29 = .ok (.ifnull 23, 3) := by decide +kernel
theorem dX1_tally_32 : decode cX1_tally 32 = .ok (.lload_n 1, 1) := by decide +kernel
theorem dX1_tally_33 : decode cX1_tally 33 = .ok (.iload_n 3, 1) := by decide +kernel
theorem dX1_tally_34 : decode cX1_tally 34 = .ok (.i2l, 1) := by decide +kernel
theorem dX1_tally_35 : decode cX1_tally 35 = .ok (.lconst 1, 1) := by decide +kernel
theorem dX1_tally_36 : decode cX1_tally 36 = .ok (.ladd, 1) := by decide +kernel
theorem dX1_tally_37 : decode cX1_tally 37 = .ok (.aload 4, 2) := by decide +kernel
theorem dX1_tally_39 : decode cX1_tally 39 = .ok (.iconst 1, 1) := by decide +kernel
theorem dX1_tally_40 : decode cX1_tally 40 = .ok (.aload 4, 2) := by decide +kernel
theorem dX1_tally_42 : decode cX1_tally 42 = .ok (.invokevirtual 74, 3) := by decide +kernel
theorem dX1_tally_45 : decode cX1_tally 45 = .ok (.invokevirtual 36, 3) := by decide +kernel
theorem dX1_tally_48 : decode cX1_tally 48 = .ok (.i2l, 1) := by decide +kernel
theorem dX1_tally_49 : decode cX1_tally 49 = .ok (.lmul, 1) := by decide +kernel
theorem dX1_tally_50 : decode cX1_tally 50 = .ok (.ladd, 1) := by decide +kernel
theorem dX1_tally_51 : decode cX1_tally 51 = .ok (.lstore_n 1, 1) := by decide +kernel
theorem dX1_tally_52 : decode cX1_tally 52 = .ok (.iinc 3 1, 3) := by decide +kernel
theorem dX1_tally_55 : decode cX1_tally 55 = .ok (.goto (-41), 3) := by decide +kernel
theorem dX1_tally_58 : decode cX1_tally 58 = .ok (.lload_n 1, 1) := by decide +kernel
theorem dX1_tally_59 : decode cX1_tally 59 = .ok (.lreturn, 1) := by decide +kernel
set_option maxRecDepth 20000 in
theorem ggX1_first_X1_holdAt : GoodIn wsX1_first wsX1_holdAt := goodIn_r _ [5, 6, 7, 8, 9, 4, 10, 23, 24, 25, 26, 27, 28, 29, 30, 31, 32] (by decide +kernel) (by decide +kernel)
set_option maxRecDepth 20000 in
theorem gX1_first_X1_holdAt : GoodIn wsX1_first (wsV RX1 29 RX1 yX1_holdAt wsX1_holdAt) := goodIn_app (goodIn_of _ (by decide +kernel)) ggX1_first_X1_holdAt
set_option maxRecDepth 20000 in
theorem ggX1_first_X0_weight : GoodIn wsX1_first wsX0_weight := goodIn_r _ [15, 16, 17, 25, 26, 27, 28, 29, 30, 31, 32] (by decide +kernel) (by decide +kernel)
set_option maxRecDepth 20000 in
theorem gX1_first_X0_weight : GoodIn wsX1_first (wsV RX1 74 RX0 yX0_weight wsX0_weight) := goodIn_app (goodIn_of _ (by decide +kernel)) ggX1_first_X0_weight
set_option maxRecDepth 20000 in
theorem ggX1_first_X0_letGo : GoodIn wsX1_first wsX0_letGo := goodIn_r _ [21, 22, 25, 26, 27, 28, 29, 30, 31, 32] (by decide +kernel) (by decide +kernel)
set_option maxRecDepth 20000 in
theorem gX1_first_X0_letGo : GoodIn wsX1_first (wsV RX1 36 RX0 yX0_letGo wsX0_letGo) := goodIn_app (goodIn_of _ (by decide +kernel)) ggX1_first_X0_letGo
theorem dX1_first_0 : decode cX1_first 0 = .ok (.iload_n 1, 1) := by decide +kernel
theorem dX1_first_1 : decode cX1_first 1 = .ok (.ifCond .ge 5, 3) := by decide +kernel
theorem dX1_first_4 : decode cX1_first 4 = .ok (.iconst (-1), 1) := by decide +kernel
theorem dX1_first_5 : decode cX1_first 5 = .ok (.ireturn, 1) := by decide +kernel
theorem dX1_first_6 : decode cX1_first 6 = .ok (.iconst 0, 1) := by decide +kernel
theorem dX1_first_7 : decode cX1_first 7 = .ok (.istore_n 2, 1) := by decide +kernel
theorem dX1_first_8 : decode cX1_first 8 = .ok (.iload_n 2, 1) := by decide +kernel
theorem dX1_first_9 : decode cX1_first 9 = .ok (.bipush 24, 2) := by decide +kernel
theorem dX1_first_11 : decode cX1_first 11 = .ok (.if_icmp .ge 45, 3) := by decide +kernel
theorem dX1_first_14 : decode cX1_first 14 = .ok (.aload_n 0, 1) := by decide +kernel
theorem dX1_first_15 : decode cX1_first 15 = .ok (.iload_n 2, 1) := by decide +kernel
theorem dX1_first_16 : decode cX1_first 16 = .ok (.invokevirtual 29, 3) := by decide +kernel
theorem dX1_first_19 : decode cX1_first 19 = .ok (.astore_n 3, 1) := by decide +kernel
theorem dX1_first_20 : decode cX1_first 20 = .ok (.aload_n 3, 1) := by decide +kernel
theorem dX1_first_21 : decode cX1_first 21 = .ok (.ifnonnull 6, 3) := by decide +kernel
theorem dX1_first_24 : decode cX1_first 24 = .ok (.goto 26, 3) := by decide +kernel
theorem dX1_first_27 : decode cX1_first 27 = .ok (.aload_n 3, 1) := by decide +kernel
theorem dX1_first_28 : decode cX1_first 28 = .ok (.invokevirtual 74, 3) := by decide +kernel
theorem dX1_first_31 : decode cX1_first 31 = .ok (.iload_n 1, 1) := by decide +kernel
theorem dX1_first_32 : decode cX1_first 32 = .ok (.if_icmp .lt 10, 3) := by decide +kernel
theorem dX1_first_35 : decode cX1_first 35 = .ok (.aload_n 3, 1) := by decide +kernel
theorem dX1_first_36 : decode cX1_first 36 = .ok (.iconst 2, 1) := by decide +kernel
theorem dX1_first_37 : decode cX1_first 37 = .ok (.iload_n 2, 1) := by decide +kernel
theorem dX1_first_38 : decode cX1_first 38 = .ok (.invokevirtual 36, 3) := by decide +kernel
theorem dX1_first_41 : decode cX1_first 41 = .ok (.ireturn, 1) := by decide +kernel
theorem dX1_first_42 : decode cX1_first 42 = .ok (.aload_n 3, 1) := by decide +kernel
theorem dX1_first_43 : decode cX1_first 43 = .ok (.iconst 1, 1) := by decide +kernel
theorem dX1_first_44 : decode cX1_first 44 = .ok (.bipush (-8), 2) := by decide +kernel
theorem dX1_first_46 : decode cX1_first 46 = .ok (.invokevirtual 36, 3) := by decide +kernel
theorem dX1_first_49 : decode cX1_first 49 = .ok (.pop, 1) := by decide +kernel
theorem dX1_first_50 : decode cX1_first 50 = .ok (.iinc 2 1, 3) := by decide +kernel
theorem dX1_first_53 : decode cX1_first 53 = .ok (.goto (-45), 3) := by decide +kernel
theorem dX1_first_56 : decode cX1_first 56 = .ok (.bipush (-8), 2) := by decide +kernel
theorem dX1_first_58 : decode cX1_first 58 = .ok (.ireturn, 1) := by decide +kernel
set_option maxRecDepth 20000 in
theorem ggX1_recode_X1_isHook : GoodIn wsX1_recode wsX1_isHook := goodIn_r _ [6] (by decide +kernel) (by decide +kernel)
set_option maxRecDepth 20000 in
theorem gX1_recode_X1_isHook : GoodIn wsX1_recode (va_wsS RX1 19 yX1_isHook wsX1_isHook) := goodIn_app (goodIn_of _ (by decide +kernel)) ggX1_recode_X1_isHook
set_option maxRecDepth 20000 in
theorem ggX1_recode_X1_holdAt : GoodIn wsX1_recode wsX1_holdAt := goodIn_r _ [10, 11, 12, 3, 4, 5, 6, 27, 28, 19, 20, 21, 22, 23, 24, 25, 26] (by decide +kernel) (by decide +kernel)
set_option maxRecDepth 20000 in
theorem gX1_recode_X1_holdAt : GoodIn wsX1_recode (wsV RX1 29 RX1 yX1_holdAt wsX1_holdAt) := goodIn_app (goodIn_of _ (by decide +kernel)) ggX1_recode_X1_holdAt
set_option maxRecDepth 20000 in
theorem ggX1_recode_X0_letGo : GoodIn wsX1_recode wsX0_letGo := goodIn_r _ [17, 18, 19, 20, 21, 22, 23, 24, 25, 26] (by decide +kernel) (by decide +kernel)
set_option maxRecDepth 20000 in
theorem gX1_recode_X0_letGo : GoodIn wsX1_recode (wsV RX1 36 RX0 yX0_letGo wsX0_letGo) := goodIn_app (goodIn_of _ (by decide +kernel)) ggX1_recode_X0_letGo
theorem dX1_recode_0 : decode cX1_recode 0 = .ok (.iload_n 1, 1) := by decide +kernel
theorem dX1_recode_1 : decode cX1_recode 1 = .ok (.invokestatic 19, 3) := by decide +kernel
theorem dX1_recode_4 : decode cX1_recode 4 = .ok (.ifCond .ne 5, 3) := by decide +kernel
theorem dX1_recode_7 : decode cX1_recode 7 = .ok (.iconst (-1), 1) := by decide +kernel
theorem dX1_recode_8 : decode cX1_recode 8 = .ok (.ireturn, 1) := by decide +kernel
theorem dX1_recode_9 : decode cX1_recode 9 = .ok (.aload_n 0, 1) := by decide +kernel
theorem dX1_recode_10 : decode cX1_recode 10 = .ok (.iload_n 1, 1) := by decide +kernel
theorem dX1_recode_11 : decode cX1_recode 11 = .ok (.invokevirtual 29, 3) := by decide +kernel
theorem dX1_recode_14 : decode cX1_recode 14 = .ok (.astore_n 3, 1) := by decide +kernel
theorem dX1_recode_15 : decode cX1_recode 15 = .ok (.aload_n 0, 1) := by decide +kernel
theorem dX1_recode_16 : decode cX1_recode 16 = .ok (.iload_n 1, 1) := by decide +kernel
theorem dX1_recode_17 : decode cX1_recode 17 = .ok (.invokevirtual 29, 3) := by decide +kernel
theorem dX1_recode_20 : decode cX1_recode 20 = .ok (.astore 4, 2) := by decide +kernel
theorem dX1_recode_22 : decode cX1_recode 22 = .ok (.aload_n 0, 1) := by decide +kernel
theorem dX1_recode_23 : decode cX1_recode 23 = .ok (.iload_n 1, 1) := by decide +kernel
theorem dX1_recode_24 : decode cX1_recode 24 = .ok (.invokevirtual 29, 3) := by decide +kernel
theorem dX1_recode_27 : decode cX1_recode 27 = .ok (.astore 5, 2) := by decide +kernel
theorem dX1_recode_29 : decode cX1_recode 29 = .ok (.aload_n 3, 1) := by decide +kernel
theorem dX1_recode_30 : decode cX1_recode 30 = .ok (.ifnull 13, 3) := by decide +kernel
theorem dX1_recode_33 : decode cX1_recode 33 = .ok (.aload 4, 2) := by decide +kernel
theorem dX1_recode_35 : decode cX1_recode 35 = .ok (.ifnull 8, 3) := by decide +kernel
theorem dX1_recode_38 : decode cX1_recode 38 = .ok (.aload 5, 2) := by decide +kernel
theorem dX1_recode_40 : decode cX1_recode 40 = .ok (.ifnonnull 6, 3) := by decide +kernel
theorem dX1_recode_43 : decode cX1_recode 43 = .ok (.bipush (-2), 2) := by decide +kernel
theorem dX1_recode_45 : decode cX1_recode 45 = .ok (.ireturn, 1) := by decide +kernel
theorem dX1_recode_46 : decode cX1_recode 46 = .ok (.iconst 4, 1) := by decide +kernel
theorem dX1_recode_47 : decode cX1_recode 47 = .ok (.istore 6, 2) := by decide +kernel
theorem dX1_recode_49 : decode cX1_recode 49 = .ok (.bipush (-7), 2) := by decide +kernel
theorem dX1_recode_51 : decode cX1_recode 51 = .ok (.istore 7, 2) := by decide +kernel
theorem dX1_recode_53 : decode cX1_recode 53 = .ok (.aload 5, 2) := by decide +kernel
theorem dX1_recode_55 : decode cX1_recode 55 = .ok (.getfield 49, 3) := by decide +kernel
theorem dX1_recode_58 : decode cX1_recode 58 = .ok (.ifCond .eq 15, 3) := by decide +kernel
theorem dX1_recode_61 : decode cX1_recode 61 = .ok (.aload 5, 2) := by decide +kernel
theorem dX1_recode_63 : decode cX1_recode 63 = .ok (.iload_n 2, 1) := by decide +kernel
theorem dX1_recode_64 : decode cX1_recode 64 = .ok (.putfield 46, 3) := by decide +kernel
theorem dX1_recode_67 : decode cX1_recode 67 = .ok (.iconst 2, 1) := by decide +kernel
theorem dX1_recode_68 : decode cX1_recode 68 = .ok (.istore 6, 2) := by decide +kernel
theorem dX1_recode_70 : decode cX1_recode 70 = .ok (.iconst 1, 1) := by decide +kernel
theorem dX1_recode_71 : decode cX1_recode 71 = .ok (.istore 7, 2) := by decide +kernel
theorem dX1_recode_73 : decode cX1_recode 73 = .ok (.aload 5, 2) := by decide +kernel
theorem dX1_recode_75 : decode cX1_recode 75 = .ok (.iload 6, 2) := by decide +kernel
theorem dX1_recode_77 : decode cX1_recode 77 = .ok (.iload 7, 2) := by decide +kernel
theorem dX1_recode_79 : decode cX1_recode 79 = .ok (.invokevirtual 36, 3) := by decide +kernel
theorem dX1_recode_82 : decode cX1_recode 82 = .ok (.pop, 1) := by decide +kernel
theorem dX1_recode_83 : decode cX1_recode 83 = .ok (.aload 4, 2) := by decide +kernel
theorem dX1_recode_85 : decode cX1_recode 85 = .ok (.iload 6, 2) := by decide +kernel
theorem dX1_recode_87 : decode cX1_recode 87 = .ok (.iload 7, 2) := by decide +kernel
theorem dX1_recode_89 : decode cX1_recode 89 = .ok (.invokevirtual 36, 3) := by decide +kernel
theorem dX1_recode_92 : decode cX1_recode 92 = .ok (.pop, 1) := by decide +kernel
theorem dX1_recode_93 : decode cX1_recode 93 = .ok (.aload_n 3, 1) := by decide +kernel
theorem dX1_recode_94 : decode cX1_recode 94 = .ok (.iload 6, 2) := by decide +kernel
theorem dX1_recode_96 : decode cX1_recode 96 = .ok (.iload 7, 2) := by decide +kernel
theorem dX1_recode_98 : decode cX1_recode 98 = .ok (.invokevirtual 36, 3) := by decide +kernel
theorem dX1_recode_101 : decode cX1_recode 101 = .ok (.ireturn, 1) := by decide +kernel
set_option maxRecDepth 20000 in
theorem ggX1_told_X1_isHook : GoodIn wsX1_told wsX1_isHook := goodIn_r _ [5] (by decide +kernel) (by decide +kernel)
set_option maxRecDepth 20000 in
theorem gX1_told_X1_isHook : GoodIn wsX1_told (va_wsS RX1 19 yX1_isHook wsX1_isHook) := goodIn_app (goodIn_of _ (by decide +kernel)) ggX1_told_X1_isHook
set_option maxRecDepth 20000 in
theorem ggX1_told_X0_fact : GoodIn wsX1_told wsX0_fact := goodIn_r _ [10, 11, 12, 13, 14, 15, 16, 17, 18, 19, 20, 9, 21, 22, 25, 26, 27, 28, 29, 30, 31, 32] (by decide +kernel) (by decide +kernel)
set_option maxRecDepth 20000 in
theorem gX1_told_X0_fact : GoodIn wsX1_told (wsV RX1 77 RX0 yX0_fact wsX0_fact) := goodIn_app (goodIn_of _ (by decide +kernel)) ggX1_told_X0_fact
theorem dX1_told_0 : decode cX1_told 0 = .ok (.iload_n 1, 1) := by decide +kernel
theorem dX1_told_1 : decode cX1_told 1 = .ok (.invokestatic 19, 3) := by decide +kernel
theorem dX1_told_4 : decode cX1_told 4 = .ok (.ifCond .eq 13, 3) := by decide +kernel
theorem dX1_told_7 : decode cX1_told 7 = .ok (.iload_n 2, 1) := by decide +kernel
theorem dX1_told_8 : decode cX1_told 8 = .ok (.ifCond .lt 9, 3) := by decide +kernel
theorem dX1_told_11 : decode cX1_told 11 = .ok (.iload_n 2, 1) := by decide +kernel
theorem dX1_told_12 : decode cX1_told 12 = .ok (.bipush 8, 2) := by decide +kernel
theorem dX1_told_14 : decode cX1_told 14 = .ok (.if_icmp .le 5, 3) := by decide +kernel
theorem dX1_told_17 : decode cX1_told 17 = .ok (.iconst (-1), 1) := by decide +kernel
theorem dX1_told_18 : decode cX1_told 18 = .ok (.ireturn, 1) := by decide +kernel
theorem dX1_told_19 : decode cX1_told 19 = .ok (.aload_n 0, 1) := by decide +kernel
theorem dX1_told_20 : decode cX1_told 20 = .ok (.getfield 11, 3) := by decide +kernel
theorem dX1_told_23 : decode cX1_told 23 = .ok (.iload_n 1, 1) := by decide +kernel
theorem dX1_told_24 : decode cX1_told 24 = .ok (.aaload, 1) := by decide +kernel
theorem dX1_told_25 : decode cX1_told 25 = .ok (.astore_n 3, 1) := by decide +kernel
theorem dX1_told_26 : decode cX1_told 26 = .ok (.aload_n 3, 1) := by decide +kernel
theorem dX1_told_27 : decode cX1_told 27 = .ok (.ifnonnull 14, 3) := by decide +kernel
theorem dX1_told_30 : decode cX1_told 30 = .ok (.iload_n 2, 1) := by decide +kernel
theorem dX1_told_31 : decode cX1_told 31 = .ok (.ifCond .ne 7, 3) := by decide +kernel
theorem dX1_told_34 : decode cX1_told 34 = .ok (.iconst 0, 1) := by decide +kernel
theorem dX1_told_35 : decode cX1_told 35 = .ok (.goto 5, 3) := by decide +kernel
theorem dX1_told_38 : decode cX1_told 38 = .ok (.bipush (-2), 2) := by decide +kernel
theorem dX1_told_40 : decode cX1_told 40 = .ok (.ireturn, 1) := by decide +kernel
theorem dX1_told_41 : decode cX1_told 41 = .ok (.aload_n 3, 1) := by decide +kernel
theorem dX1_told_42 : decode cX1_told 42 = .ok (.iload_n 2, 1) := by decide +kernel
theorem dX1_told_43 : decode cX1_told 43 = .ok (.invokevirtual 77, 3) := by decide +kernel
theorem dX1_told_46 : decode cX1_told 46 = .ok (.ireturn, 1) := by decide +kernel
set_option maxRecDepth 20000 in
theorem ggX1_item_X1_isHook : GoodIn wsX1_item wsX1_isHook := goodIn_r _ [5] (by decide +kernel) (by decide +kernel)
set_option maxRecDepth 20000 in
theorem gX1_item_X1_isHook : GoodIn wsX1_item (va_wsS RX1 19 yX1_isHook wsX1_isHook) := goodIn_app (goodIn_of _ (by decide +kernel)) ggX1_item_X1_isHook
set_option maxRecDepth 20000 in
theorem ggX1_item_X0_weightOf : GoodIn wsX1_item wsX0_weightOf := goodIn_r _ [10, 11, 12, 15, 16, 17, 18, 19, 20, 21, 22] (by decide +kernel) (by decide +kernel)
set_option maxRecDepth 20000 in
theorem gX1_item_X0_weightOf : GoodIn wsX1_item (wsV RX1 81 RX0 yX0_weightOf wsX0_weightOf) := goodIn_app (goodIn_of _ (by decide +kernel)) ggX1_item_X0_weightOf
theorem dX1_item_0 : decode cX1_item 0 = .ok (.iload_n 1, 1) := by decide +kernel
theorem dX1_item_1 : decode cX1_item 1 = .ok (.invokestatic 19, 3) := by decide +kernel
theorem dX1_item_4 : decode cX1_item 4 = .ok (.ifCond .ne 5, 3) := by decide +kernel
theorem dX1_item_7 : decode cX1_item 7 = .ok (.iconst (-1), 1) := by decide +kernel
theorem dX1_item_8 : decode cX1_item 8 = .ok (.ireturn, 1) := by decide +kernel
theorem dX1_item_9 : decode cX1_item 9 = .ok (.aload_n 0, 1) := by decide +kernel
theorem dX1_item_10 : decode cX1_item 10 = .ok (.getfield 11, 3) := by decide +kernel
theorem dX1_item_13 : decode cX1_item 13 = .ok (.iload_n 1, 1) := by decide +kernel
theorem dX1_item_14 : decode cX1_item 14 = .ok (.aaload, 1) := by decide +kernel
theorem dX1_item_15 : decode cX1_item 15 = .ok (.astore_n 3, 1) := by decide +kernel
theorem dX1_item_16 : decode cX1_item 16 = .ok (.aload_n 3, 1) := by decide +kernel
theorem dX1_item_17 : decode cX1_item 17 = .ok (.ifnonnull 6, 3) := by decide +kernel
theorem dX1_item_20 : decode cX1_item 20 = .ok (.bipush (-2), 2) := by decide +kernel
theorem dX1_item_22 : decode cX1_item 22 = .ok (.ireturn, 1) := by decide +kernel
theorem dX1_item_23 : decode cX1_item 23 = .ok (.aload_n 3, 1) := by decide +kernel
theorem dX1_item_24 : decode cX1_item 24 = .ok (.iload_n 2, 1) := by decide +kernel
theorem dX1_item_25 : decode cX1_item 25 = .ok (.invokevirtual 81, 3) := by decide +kernel
theorem dX1_item_28 : decode cX1_item 28 = .ok (.ireturn, 1) := by decide +kernel
theorem dX1_latch_0 : decode cX1_latch 0 = .ok (.aload_n 0, 1) := by decide +kernel
theorem dX1_latch_1 : decode cX1_latch 1 = .ok (.getfield 15, 3) := by decide +kernel
theorem dX1_latch_4 : decode cX1_latch 4 = .ok (.ireturn, 1) := by decide +kernel
theorem dX1_isHook_0 : decode cX1_isHook 0 = .ok (.iload_n 0, 1) := by decide +kernel
theorem dX1_isHook_1 : decode cX1_isHook 1 = .ok (.ifCond .lt 13, 3) := by decide +kernel
theorem dX1_isHook_4 : decode cX1_isHook 4 = .ok (.iload_n 0, 1) := by decide +kernel
theorem dX1_isHook_5 : decode cX1_isHook 5 = .ok (.bipush 24, 2) := by decide +kernel
theorem dX1_isHook_7 : decode cX1_isHook 7 = .ok (.if_icmp .ge 7, 3) := by decide +kernel
theorem dX1_isHook_10 : decode cX1_isHook 10 = .ok (.iconst 1, 1) := by decide +kernel
theorem dX1_isHook_11 : decode cX1_isHook 11 = .ok (.goto 4, 3) := by decide +kernel
theorem dX1_isHook_14 : decode cX1_isHook 14 = .ok (.iconst 0, 1) := by decide +kernel
theorem dX1_isHook_15 : decode cX1_isHook 15 = .ok (.ireturn, 1) := by decide +kernel
theorem dX1_isWeight_0 : decode cX1_isWeight 0 = .ok (.iload_n 0, 1) := by decide +kernel
theorem dX1_isWeight_1 : decode cX1_isWeight 1 = .ok (.iconst 1, 1) := by decide +kernel
theorem dX1_isWeight_2 : decode cX1_isWeight 2 = .ok (.if_icmp .lt 14, 3) := by decide +kernel
theorem dX1_isWeight_5 : decode cX1_isWeight 5 = .ok (.iload_n 0, 1) := by decide +kernel
theorem dX1_isWeight_6 : decode cX1_isWeight 6 = .ok (.sipush 1000, 3) := by decide +kernel
theorem dX1_isWeight_9 : decode cX1_isWeight 9 = .ok (.if_icmp .gt 7, 3) := by decide +kernel
theorem dX1_isWeight_12 : decode cX1_isWeight 12 = .ok (.iconst 1, 1) := by decide +kernel
theorem dX1_isWeight_13 : decode cX1_isWeight 13 = .ok (.goto 4, 3) := by decide +kernel
theorem dX1_isWeight_16 : decode cX1_isWeight 16 = .ok (.iconst 0, 1) := by decide +kernel
theorem dX1_isWeight_17 : decode cX1_isWeight 17 = .ok (.ireturn, 1) := by decide +kernel
set_option maxRecDepth 20000 in
theorem ggX1_holdAt_X1_isHook : GoodIn wsX1_holdAt wsX1_isHook := goodIn_r _ [6] (by decide +kernel) (by decide +kernel)
set_option maxRecDepth 20000 in
theorem gX1_holdAt_X1_isHook : GoodIn wsX1_holdAt (va_wsS RX1 19 yX1_isHook wsX1_isHook) := goodIn_app (goodIn_of _ (by decide +kernel)) ggX1_holdAt_X1_isHook
theorem dX1_holdAt_0 : decode cX1_holdAt 0 = .ok (.iload_n 1, 1) := by decide +kernel
theorem dX1_holdAt_1 : decode cX1_holdAt 1 = .ok (.invokestatic 19, 3) := by decide +kernel
theorem dX1_holdAt_4 : decode cX1_holdAt 4 = .ok (.ifCond .ne 5, 3) := by decide +kernel
theorem dX1_holdAt_7 : decode cX1_holdAt 7 = .ok (.aconst_null, 1) := by decide +kernel
theorem dX1_holdAt_8 : decode cX1_holdAt 8 = .ok (.areturn, 1) := by decide +kernel
theorem dX1_holdAt_9 : decode cX1_holdAt 9 = .ok (.aload_n 0, 1) := by decide +kernel
theorem dX1_holdAt_10 : decode cX1_holdAt 10 = .ok (.getfield 11, 3) := by decide +kernel
theorem dX1_holdAt_13 : decode cX1_holdAt 13 = .ok (.iload_n 1, 1) := by decide +kernel
theorem dX1_holdAt_14 : decode cX1_holdAt 14 = .ok (.aaload, 1) := by decide +kernel
theorem dX1_holdAt_15 : decode cX1_holdAt 15 = .ok (.astore_n 2, 1) := by decide +kernel
theorem dX1_holdAt_16 : decode cX1_holdAt 16 = .ok (.aload_n 2, 1) := by decide +kernel
theorem dX1_holdAt_17 : decode cX1_holdAt 17 = .ok (.ifnull 13, 3) := by decide +kernel
theorem dX1_holdAt_20 : decode cX1_holdAt 20 = .ok (.aload_n 2, 1) := by decide +kernel
theorem dX1_holdAt_21 : decode cX1_holdAt 21 = .ok (.dup, 1) := by decide +kernel
theorem dX1_holdAt_22 : decode cX1_holdAt 22 = .ok (.getfield 40, 3) := by decide +kernel
theorem dX1_holdAt_25 : decode cX1_holdAt 25 = .ok (.iconst 1, 1) := by decide +kernel
theorem dX1_holdAt_26 : decode cX1_holdAt 26 = .ok (.iadd, 1) := by decide +kernel
theorem dX1_holdAt_27 : decode cX1_holdAt 27 = .ok (.putfield 40, 3) := by decide +kernel
theorem dX1_holdAt_30 : decode cX1_holdAt 30 = .ok (.aload_n 2, 1) := by decide +kernel
theorem dX1_holdAt_31 : decode cX1_holdAt 31 = .ok (.areturn, 1) := by decide +kernel
set_option maxRecDepth 20000 in
theorem ggX1_actOnTwo_X1_isHook : GoodIn wsX1_actOnTwo wsX1_isHook := goodIn_r _ [5] (by decide +kernel) (by decide +kernel)
set_option maxRecDepth 20000 in
theorem gX1_actOnTwo_X1_isHook : GoodIn wsX1_actOnTwo (va_wsS RX1 19 yX1_isHook wsX1_isHook) := goodIn_app (goodIn_of _ (by decide +kernel)) ggX1_actOnTwo_X1_isHook
set_option maxRecDepth 20000 in
theorem ggX1_actOnTwo_X1_holdAt : GoodIn wsX1_actOnTwo wsX1_holdAt := goodIn_r _ [9, 10, 11, 2, 3, 4, 5, 57, 58, 49, 50, 51, 52, 53, 54, 55, 56] (by decide +kernel) (by decide +kernel)
set_option maxRecDepth 20000 in
theorem gX1_actOnTwo_X1_holdAt : GoodIn wsX1_actOnTwo (wsV RX1 29 RX1 yX1_holdAt wsX1_holdAt) := goodIn_app (goodIn_of _ (by decide +kernel)) ggX1_actOnTwo_X1_holdAt
set_option maxRecDepth 20000 in
theorem ggX1_actOnTwo_X0_letGo : GoodIn wsX1_actOnTwo wsX0_letGo := goodIn_r _ [16, 17, 49, 50, 51, 52, 53, 54, 55, 56] (by decide +kernel) (by decide +kernel)
set_option maxRecDepth 20000 in
theorem gX1_actOnTwo_X0_letGo : GoodIn wsX1_actOnTwo (wsV RX1 36 RX0 yX0_letGo wsX0_letGo) := goodIn_app (goodIn_of _ (by decide +kernel)) ggX1_actOnTwo_X0_letGo
set_option maxRecDepth 20000 in
theorem ggX1_actOnTwo_X1_letGoTwo : GoodIn wsX1_actOnTwo wsX1_letGoTwo := goodIn_r _ [20, 12, 13, 14, 15, 16, 17, 49, 50, 51, 52, 53, 54, 55, 56] (by decide +kernel) (by decide +kernel)
set_option maxRecDepth 20000 in
theorem gX1_actOnTwo_X1_letGoTwo : GoodIn wsX1_actOnTwo (va_wsS RX1 84 yX1_letGoTwo wsX1_letGoTwo) := goodIn_app (goodIn_of _ (by decide +kernel)) ggX1_actOnTwo_X1_letGoTwo
set_option maxRecDepth 20000 in
theorem ggX1_actOnTwo_X1_exchangeHeld : GoodIn wsX1_actOnTwo wsX1_exchangeHeld := goodIn_r _ [23, 24, 25, 26, 27, 28, 15, 29, 30, 31, 18, 19, 4, 20, 12, 13, 14, 16, 17, 32, 33, 34, 35, 49, 50, 51, 52, 53, 54, 55, 56] (by decide +kernel) (by decide +kernel)
set_option maxRecDepth 20000 in
theorem gX1_actOnTwo_X1_exchangeHeld : GoodIn wsX1_actOnTwo (va_wsS RX1 88 yX1_exchangeHeld wsX1_exchangeHeld) := goodIn_app (goodIn_of _ (by decide +kernel)) ggX1_actOnTwo_X1_exchangeHeld
set_option maxRecDepth 20000 in
theorem ggX1_actOnTwo_X1_moveHeld : GoodIn wsX1_actOnTwo wsX1_moveHeld := goodIn_r _ [38, 25, 18, 19, 4, 20, 12, 13, 14, 15, 16, 17, 39, 40, 41, 42, 30, 31, 43, 44, 45, 46, 47, 48, 27, 28, 29, 49, 50, 51, 52, 53, 54, 55, 56] (by decide +kernel) (by decide +kernel)
set_option maxRecDepth 20000 in
theorem gX1_actOnTwo_X1_moveHeld : GoodIn wsX1_actOnTwo (va_wsS RX1 92 yX1_moveHeld wsX1_moveHeld) := goodIn_app (goodIn_of _ (by decide +kernel)) ggX1_actOnTwo_X1_moveHeld
theorem dX1_actOnTwo_0 : decode cX1_actOnTwo 0 = .ok (.iload_n 1, 1) := by decide +kernel
theorem dX1_actOnTwo_1 : decode cX1_actOnTwo 1 = .ok (.invokestatic 19, 3) := by decide +kernel
theorem dX1_actOnTwo_4 : decode cX1_actOnTwo 4 = .ok (.ifCond .eq 10, 3) := by decide +kernel
theorem dX1_actOnTwo_7 : decode cX1_actOnTwo 7 = .ok (.iload_n 2, 1) := by decide +kernel
theorem dX1_actOnTwo_8 : decode cX1_actOnTwo 8 = .ok (.invokestatic 19, 3) := by decide +kernel
theorem dX1_actOnTwo_11 : decode cX1_actOnTwo 11 = .ok (.ifCond .ne 5, 3) := by decide +kernel
theorem dX1_actOnTwo_14 : decode cX1_actOnTwo 14 = .ok (.iconst (-1), 1) := by decide +kernel
theorem dX1_actOnTwo_15 : decode cX1_actOnTwo 15 = .ok (.ireturn, 1) := by decide +kernel
theorem dX1_actOnTwo_16 : decode cX1_actOnTwo 16 = .ok (.aload_n 0, 1) := by decide +kernel
theorem dX1_actOnTwo_17 : decode cX1_actOnTwo 17 = .ok (.iload_n 1, 1) := by decide +kernel
theorem dX1_actOnTwo_18 : decode cX1_actOnTwo 18 = .ok (.invokevirtual 29, 3) := by decide +kernel
theorem dX1_actOnTwo_21 : decode cX1_actOnTwo 21 = .ok (.astore 4, 2) := by decide +kernel
theorem dX1_actOnTwo_23 : decode cX1_actOnTwo 23 = .ok (.aload 4, 2) := by decide +kernel
theorem dX1_actOnTwo_25 : decode cX1_actOnTwo 25 = .ok (.ifnonnull 6, 3) := by decide +kernel
theorem dX1_actOnTwo_28 : decode cX1_actOnTwo 28 = .ok (.bipush (-2), 2) := by decide +kernel
theorem dX1_actOnTwo_30 : decode cX1_actOnTwo 30 = .ok (.ireturn, 1) := by decide +kernel
theorem dX1_actOnTwo_31 : decode cX1_actOnTwo 31 = .ok (.aload_n 0, 1) := by decide +kernel
theorem dX1_actOnTwo_32 : decode cX1_actOnTwo 32 = .ok (.iload_n 2, 1) := by decide +kernel
theorem dX1_actOnTwo_33 : decode cX1_actOnTwo 33 = .ok (.invokevirtual 29, 3) := by decide +kernel
theorem dX1_actOnTwo_36 : decode cX1_actOnTwo 36 = .ok (.astore 5, 2) := by decide +kernel
theorem dX1_actOnTwo_38 : decode cX1_actOnTwo 38 = .ok (.aload 5, 2) := by decide +kernel
theorem dX1_actOnTwo_40 : decode cX1_actOnTwo 40 = .ok (.ifnonnull 12, 3) := by decide +kernel
theorem dX1_actOnTwo_43 : decode cX1_actOnTwo 43 = .ok (.aload 4, 2) := by decide +kernel
theorem dX1_actOnTwo_45 : decode cX1_actOnTwo 45 = .ok (.iconst 4, 1) := by decide +kernel
theorem dX1_actOnTwo_46 : decode cX1_actOnTwo 46 = .ok (.bipush (-2), 2) := by decide +kernel
theorem dX1_actOnTwo_48 : decode cX1_actOnTwo 48 = .ok (.invokevirtual 36, 3) := by decide +kernel
theorem dX1_actOnTwo_51 : decode cX1_actOnTwo 51 = .ok (.ireturn, 1) := by decide +kernel
theorem dX1_actOnTwo_52 : decode cX1_actOnTwo 52 = .ok (.aload 4, 2) := by decide +kernel
theorem dX1_actOnTwo_54 : decode cX1_actOnTwo 54 = .ok (.getfield 49, 3) := by decide +kernel
theorem dX1_actOnTwo_57 : decode cX1_actOnTwo 57 = .ok (.ifCond .eq 11, 3) := by decide +kernel
theorem dX1_actOnTwo_60 : decode cX1_actOnTwo 60 = .ok (.aload 5, 2) := by decide +kernel
theorem dX1_actOnTwo_62 : decode cX1_actOnTwo 62 = .ok (.getfield 49, 3) := by decide +kernel
theorem dX1_actOnTwo_65 : decode cX1_actOnTwo 65 = .ok (.ifCond .ne 14, 3) := by decide +kernel
theorem dX1_actOnTwo_68 : decode cX1_actOnTwo 68 = .ok (.aload 4, 2) := by decide +kernel
theorem dX1_actOnTwo_70 : decode cX1_actOnTwo 70 = .ok (.aload 5, 2) := by decide +kernel
theorem dX1_actOnTwo_72 : decode cX1_actOnTwo 72 = .ok (.iconst 2, 1) := by decide +kernel
theorem dX1_actOnTwo_73 : decode cX1_actOnTwo 73 = .ok (.bipush (-3), 2) := by decide +kernel
theorem dX1_actOnTwo_75 : decode cX1_actOnTwo 75 = .ok (.invokestatic 84, 3) := by decide +kernel
theorem dX1_actOnTwo_78 : decode cX1_actOnTwo 78 = .ok (.ireturn, 1) := by decide +kernel
theorem dX1_actOnTwo_79 : decode cX1_actOnTwo 79 = .ok (.iload_n 3, 1) := by decide +kernel
theorem dX1_actOnTwo_80 : decode cX1_actOnTwo 80 = .ok (.ifCond .eq 13, 3) := by decide +kernel
theorem dX1_actOnTwo_83 : decode cX1_actOnTwo 83 = .ok (.aload 4, 2) := by decide +kernel
theorem dX1_actOnTwo_85 : decode cX1_actOnTwo 85 = .ok (.aload 5, 2) := by decide +kernel
theorem dX1_actOnTwo_87 : decode cX1_actOnTwo 87 = .ok (.invokestatic 88, 3) := by decide +kernel
theorem dX1_actOnTwo_90 : decode cX1_actOnTwo 90 = .ok (.goto 10, 3) := by decide +kernel
theorem dX1_actOnTwo_93 : decode cX1_actOnTwo 93 = .ok (.aload 4, 2) := by decide +kernel
theorem dX1_actOnTwo_95 : decode cX1_actOnTwo 95 = .ok (.aload 5, 2) := by decide +kernel
theorem dX1_actOnTwo_97 : decode cX1_actOnTwo 97 = .ok (.invokestatic 92, 3) := by decide +kernel
theorem dX1_actOnTwo_100 : decode cX1_actOnTwo 100 = .ok (.ireturn, 1) := by decide +kernel
set_option maxRecDepth 20000 in
theorem ggX1_moveHeld_X1_letGoTwo : GoodIn wsX1_moveHeld wsX1_letGoTwo := goodIn_r _ [5, 6, 7, 8, 9, 10, 11, 27, 28, 29, 30, 31, 32, 33, 34] (by decide +kernel) (by decide +kernel)
set_option maxRecDepth 20000 in
theorem gX1_moveHeld_X1_letGoTwo : GoodIn wsX1_moveHeld (va_wsS RX1 84 yX1_letGoTwo wsX1_letGoTwo) := goodIn_app (goodIn_of _ (by decide +kernel)) ggX1_moveHeld_X1_letGoTwo
set_option maxRecDepth 20000 in
theorem ggX1_moveHeld_X0_removeLast : GoodIn wsX1_moveHeld wsX0_removeLast := goodIn_r _ [15, 16, 17, 27, 28, 29, 30, 31, 32, 33, 34] (by decide +kernel) (by decide +kernel)
set_option maxRecDepth 20000 in
theorem gX1_moveHeld_X0_removeLast : GoodIn wsX1_moveHeld (wsV RX1 56 RX0 yX0_removeLast wsX0_removeLast) := goodIn_app (goodIn_of _ (by decide +kernel)) ggX1_moveHeld_X0_removeLast
set_option maxRecDepth 20000 in
theorem ggX1_moveHeld_X0_accept : GoodIn wsX1_moveHeld wsX0_accept := goodIn_r _ [21, 16, 22, 17, 23, 24, 25, 9, 26, 27, 28, 29, 30, 31, 32, 33, 34] (by decide +kernel) (by decide +kernel)
set_option maxRecDepth 20000 in
theorem gX1_moveHeld_X0_accept : GoodIn wsX1_moveHeld (wsV RX1 53 RX0 yX0_accept wsX0_accept) := goodIn_app (goodIn_of _ (by decide +kernel)) ggX1_moveHeld_X0_accept
theorem dX1_moveHeld_0 : decode cX1_moveHeld 0 = .ok (.aload_n 0, 1) := by decide +kernel
theorem dX1_moveHeld_1 : decode cX1_moveHeld 1 = .ok (.getfield 33, 3) := by decide +kernel
theorem dX1_moveHeld_4 : decode cX1_moveHeld 4 = .ok (.ifCond .ne 12, 3) := by decide +kernel
theorem dX1_moveHeld_7 : decode cX1_moveHeld 7 = .ok (.aload_n 0, 1) := by decide +kernel
theorem dX1_moveHeld_8 : decode cX1_moveHeld 8 = .ok (.aload_n 1, 1) := by decide +kernel
theorem dX1_moveHeld_9 : decode cX1_moveHeld 9 = .ok (.iconst 4, 1) := by decide +kernel
theorem dX1_moveHeld_10 : decode cX1_moveHeld 10 = .ok (.bipush (-6), 2) := by decide +kernel
theorem dX1_moveHeld_12 : decode cX1_moveHeld 12 = .ok (.invokestatic 84, 3) := by decide +kernel
theorem dX1_moveHeld_15 : decode cX1_moveHeld 15 = .ok (.ireturn, 1) := by decide +kernel
theorem dX1_moveHeld_16 : decode cX1_moveHeld 16 = .ok (.aload_n 0, 1) := by decide +kernel
theorem dX1_moveHeld_17 : decode cX1_moveHeld 17 = .ok (.invokevirtual 56, 3) := by decide +kernel
theorem dX1_moveHeld_20 : decode cX1_moveHeld 20 = .ok (.istore_n 2, 1) := by decide +kernel
theorem dX1_moveHeld_21 : decode cX1_moveHeld 21 = .ok (.aload_n 1, 1) := by decide +kernel
theorem dX1_moveHeld_22 : decode cX1_moveHeld 22 = .ok (.iload_n 2, 1) := by decide +kernel
theorem dX1_moveHeld_23 : decode cX1_moveHeld 23 = .ok (.invokevirtual 53, 3) := by decide +kernel
theorem dX1_moveHeld_26 : decode cX1_moveHeld 26 = .ok (.ifCond .ne 18, 3) := by decide +kernel
theorem dX1_moveHeld_29 : decode cX1_moveHeld 29 = .ok (.aload_n 0, 1) := by decide +kernel
theorem dX1_moveHeld_30 : decode cX1_moveHeld 30 = .ok (.iload_n 2, 1) := by decide +kernel
theorem dX1_moveHeld_31 : decode cX1_moveHeld 31 = .ok (.invokevirtual 53, 3) := by decide +kernel
theorem dX1_moveHeld_34 : decode cX1_moveHeld 34 = .ok (.pop, 1) := by decide +kernel
theorem dX1_moveHeld_35 : decode cX1_moveHeld 35 = .ok (.aload_n 0, 1) := by decide +kernel
theorem dX1_moveHeld_36 : decode cX1_moveHeld 36 = .ok (.aload_n 1, 1) := by decide +kernel
theorem dX1_moveHeld_37 : decode cX1_moveHeld 37 = .ok (.iconst 4, 1) := by decide +kernel
theorem dX1_moveHeld_38 : decode cX1_moveHeld 38 = .ok (.bipush (-5), 2) := by decide +kernel
theorem dX1_moveHeld_40 : decode cX1_moveHeld 40 = .ok (.invokestatic 84, 3) := by decide +kernel
theorem dX1_moveHeld_43 : decode cX1_moveHeld 43 = .ok (.ireturn, 1) := by decide +kernel
theorem dX1_moveHeld_44 : decode cX1_moveHeld 44 = .ok (.aload_n 0, 1) := by decide +kernel
theorem dX1_moveHeld_45 : decode cX1_moveHeld 45 = .ok (.aload_n 1, 1) := by decide +kernel
theorem dX1_moveHeld_46 : decode cX1_moveHeld 46 = .ok (.iconst 1, 1) := by decide +kernel
theorem dX1_moveHeld_47 : decode cX1_moveHeld 47 = .ok (.iload_n 2, 1) := by decide +kernel
theorem dX1_moveHeld_48 : decode cX1_moveHeld 48 = .ok (.invokestatic 84, 3) := by decide +kernel
theorem dX1_moveHeld_51 : decode cX1_moveHeld 51 = .ok (.ireturn, 1) := by decide +kernel
set_option maxRecDepth 20000 in
theorem ggX1_exchangeHeld_X0_weight : GoodIn wsX1_exchangeHeld wsX0_weight := goodIn_r _ [7, 8, 9, 23, 24, 25, 26, 27, 28, 29, 30] (by decide +kernel) (by decide +kernel)
set_option maxRecDepth 20000 in
theorem gX1_exchangeHeld_X0_weight : GoodIn wsX1_exchangeHeld (wsV RX1 74 RX0 yX0_weight wsX0_weight) := goodIn_app (goodIn_of _ (by decide +kernel)) ggX1_exchangeHeld_X0_weight
set_option maxRecDepth 20000 in
theorem ggX1_exchangeHeld_X1_letGoTwo : GoodIn wsX1_exchangeHeld wsX1_letGoTwo := goodIn_r _ [13, 14, 15, 16, 6, 17, 18, 23, 24, 25, 26, 27, 28, 29, 30] (by decide +kernel) (by decide +kernel)
set_option maxRecDepth 20000 in
theorem gX1_exchangeHeld_X1_letGoTwo : GoodIn wsX1_exchangeHeld (va_wsS RX1 84 yX1_letGoTwo wsX1_letGoTwo) := goodIn_app (goodIn_of _ (by decide +kernel)) ggX1_exchangeHeld_X1_letGoTwo
set_option maxRecDepth 20000 in
theorem ggX1_exchangeHeld_X0_exchangeItems : GoodIn wsX1_exchangeHeld wsX0_exchangeItems := goodIn_r _ [22, 9, 8, 23, 24, 25, 26, 27, 28, 29, 30] (by decide +kernel) (by decide +kernel)
set_option maxRecDepth 20000 in
theorem gX1_exchangeHeld_X0_exchangeItems : GoodIn wsX1_exchangeHeld (wsV RX1 98 RX0 yX0_exchangeItems wsX0_exchangeItems) := goodIn_app (goodIn_of _ (by decide +kernel)) ggX1_exchangeHeld_X0_exchangeItems
theorem dX1_exchangeHeld_0 : decode cX1_exchangeHeld 0 = .ok (.aload_n 0, 1) := by decide +kernel
theorem dX1_exchangeHeld_1 : decode cX1_exchangeHeld 1 = .ok (.invokevirtual 74, 3) := by decide +kernel
theorem dX1_exchangeHeld_4 : decode cX1_exchangeHeld 4 = .ok (.aload_n 1, 1) := by decide +kernel
theorem dX1_exchangeHeld_5 : decode cX1_exchangeHeld 5 = .ok (.getfield 95, 3) := by decide +kernel
theorem dX1_exchangeHeld_8 : decode cX1_exchangeHeld 8 = .ok (.if_icmp .gt 14, 3) := by decide +kernel
theorem dX1_exchangeHeld_11 : decode cX1_exchangeHeld 11 = .ok (.aload_n 1, 1) := by decide +kernel
theorem dX1_exchangeHeld_12 : decode cX1_exchangeHeld 12 = .ok (.invokevirtual 74, 3) := by decide +kernel
theorem dX1_exchangeHeld_15 : decode cX1_exchangeHeld 15 = .ok (.aload_n 0, 1) := by decide +kernel
theorem dX1_exchangeHeld_16 : decode cX1_exchangeHeld 16 = .ok (.getfield 95, 3) := by decide +kernel
theorem dX1_exchangeHeld_19 : decode cX1_exchangeHeld 19 = .ok (.if_icmp .le 12, 3) := by decide +kernel
theorem dX1_exchangeHeld_22 : decode cX1_exchangeHeld 22 = .ok (.aload_n 0, 1) := by decide +kernel
theorem dX1_exchangeHeld_23 : decode cX1_exchangeHeld 23 = .ok (.aload_n 1, 1) := by decide +kernel
theorem dX1_exchangeHeld_24 : decode cX1_exchangeHeld 24 = .ok (.iconst 4, 1) := by decide +kernel
theorem dX1_exchangeHeld_25 : decode cX1_exchangeHeld 25 = .ok (.bipush (-5), 2) := by decide +kernel
theorem dX1_exchangeHeld_27 : decode cX1_exchangeHeld 27 = .ok (.invokestatic 84, 3) := by decide +kernel
theorem dX1_exchangeHeld_30 : decode cX1_exchangeHeld 30 = .ok (.ireturn, 1) := by decide +kernel
theorem dX1_exchangeHeld_31 : decode cX1_exchangeHeld 31 = .ok (.aload_n 0, 1) := by decide +kernel
theorem dX1_exchangeHeld_32 : decode cX1_exchangeHeld 32 = .ok (.aload_n 1, 1) := by decide +kernel
theorem dX1_exchangeHeld_33 : decode cX1_exchangeHeld 33 = .ok (.invokevirtual 98, 3) := by decide +kernel
theorem dX1_exchangeHeld_36 : decode cX1_exchangeHeld 36 = .ok (.aload_n 0, 1) := by decide +kernel
theorem dX1_exchangeHeld_37 : decode cX1_exchangeHeld 37 = .ok (.aload_n 1, 1) := by decide +kernel
theorem dX1_exchangeHeld_38 : decode cX1_exchangeHeld 38 = .ok (.iconst 1, 1) := by decide +kernel
theorem dX1_exchangeHeld_39 : decode cX1_exchangeHeld 39 = .ok (.aload_n 0, 1) := by decide +kernel
theorem dX1_exchangeHeld_40 : decode cX1_exchangeHeld 40 = .ok (.getfield 33, 3) := by decide +kernel
theorem dX1_exchangeHeld_43 : decode cX1_exchangeHeld 43 = .ok (.aload_n 1, 1) := by decide +kernel
theorem dX1_exchangeHeld_44 : decode cX1_exchangeHeld 44 = .ok (.getfield 33, 3) := by decide +kernel
theorem dX1_exchangeHeld_47 : decode cX1_exchangeHeld 47 = .ok (.iadd, 1) := by decide +kernel
theorem dX1_exchangeHeld_48 : decode cX1_exchangeHeld 48 = .ok (.invokestatic 84, 3) := by decide +kernel
theorem dX1_exchangeHeld_51 : decode cX1_exchangeHeld 51 = .ok (.ireturn, 1) := by decide +kernel
set_option maxRecDepth 20000 in
theorem ggX1_letGoTwo_X0_letGo : GoodIn wsX1_letGoTwo wsX0_letGo := goodIn_r _ [5, 6, 7, 8, 9, 10, 11, 12, 13, 14] (by decide +kernel) (by decide +kernel)
set_option maxRecDepth 20000 in
theorem gX1_letGoTwo_X0_letGo : GoodIn wsX1_letGoTwo (wsV RX1 36 RX0 yX0_letGo wsX0_letGo) := goodIn_app (goodIn_of _ (by decide +kernel)) ggX1_letGoTwo_X0_letGo
theorem dX1_letGoTwo_0 : decode cX1_letGoTwo 0 = .ok (.aload_n 1, 1) := by decide +kernel
theorem dX1_letGoTwo_1 : decode cX1_letGoTwo 1 = .ok (.iload_n 2, 1) := by decide +kernel
theorem dX1_letGoTwo_2 : decode cX1_letGoTwo 2 = .ok (.iload_n 3, 1) := by decide +kernel
theorem dX1_letGoTwo_3 : decode cX1_letGoTwo 3 = .ok (.invokevirtual 36, 3) := by decide +kernel
theorem dX1_letGoTwo_6 : decode cX1_letGoTwo 6 = .ok (.pop, 1) := by decide +kernel
theorem dX1_letGoTwo_7 : decode cX1_letGoTwo 7 = .ok (.aload_n 0, 1) := by decide +kernel
theorem dX1_letGoTwo_8 : decode cX1_letGoTwo 8 = .ok (.iload_n 2, 1) := by decide +kernel
theorem dX1_letGoTwo_9 : decode cX1_letGoTwo 9 = .ok (.iload_n 3, 1) := by decide +kernel
theorem dX1_letGoTwo_10 : decode cX1_letGoTwo 10 = .ok (.invokevirtual 36, 3) := by decide +kernel
theorem dX1_letGoTwo_13 : decode cX1_letGoTwo 13 = .ok (.ireturn, 1) := by decide +kernel
set_option maxRecDepth 20000 in
theorem ggX1_holdRow_X1_holdAt : GoodIn wsX1_holdRow wsX1_holdAt := goodIn_r _ [5, 6, 7, 8, 9, 4, 10, 11, 12, 13, 14, 15, 16, 17, 18, 19, 20] (by decide +kernel) (by decide +kernel)
set_option maxRecDepth 20000 in
theorem gX1_holdRow_X1_holdAt : GoodIn wsX1_holdRow (wsV RX1 29 RX1 yX1_holdAt wsX1_holdAt) := goodIn_app (goodIn_of _ (by decide +kernel)) ggX1_holdRow_X1_holdAt
theorem dX1_holdRow_0 : decode cX1_holdRow 0 = .ok (.iconst 0, 1) := by decide +kernel
theorem dX1_holdRow_1 : decode cX1_holdRow 1 = .ok (.istore_n 3, 1) := by decide +kernel
theorem dX1_holdRow_2 : decode cX1_holdRow 2 = .ok (.iload_n 3, 1) := by decide +kernel
theorem dX1_holdRow_3 : decode cX1_holdRow 3 = .ok (.iload_n 2, 1) := by decide +kernel
theorem dX1_holdRow_4 : decode cX1_holdRow 4 = .ok (.if_icmp .ge 24, 3) := by decide +kernel
theorem dX1_holdRow_7 : decode cX1_holdRow 7 = .ok (.aload_n 0, 1) := by decide +kernel
theorem dX1_holdRow_8 : decode cX1_holdRow 8 = .ok (.iload_n 1, 1) := by decide +kernel
theorem dX1_holdRow_9 : decode cX1_holdRow 9 = .ok (.iload_n 3, 1) := by decide +kernel
theorem dX1_holdRow_10 : decode cX1_holdRow 10 = .ok (.iadd, 1) := by decide +kernel
theorem dX1_holdRow_11 : decode cX1_holdRow 11 = .ok (.bipush 24, 2) := by decide +kernel
theorem dX1_holdRow_13 : decode cX1_holdRow 13 = .ok (.irem, 1) := by decide +kernel
theorem dX1_holdRow_14 : decode cX1_holdRow 14 = .ok (.invokevirtual 29, 3) := by decide +kernel
theorem dX1_holdRow_17 : decode cX1_holdRow 17 = .ok (.ifnonnull 5, 3) := by decide +kernel
theorem dX1_holdRow_20 : decode cX1_holdRow 20 = .ok (.iload_n 3, 1) := by decide +kernel
theorem dX1_holdRow_21 : decode cX1_holdRow 21 = .ok (.ireturn, 1) := by decide +kernel
theorem dX1_holdRow_22 : decode cX1_holdRow 22 = .ok (.iinc 3 1, 3) := by decide +kernel
theorem dX1_holdRow_25 : decode cX1_holdRow 25 = .ok (.goto (-23), 3) := by decide +kernel
theorem dX1_holdRow_28 : decode cX1_holdRow 28 = .ok (.iload_n 2, 1) := by decide +kernel
theorem dX1_holdRow_29 : decode cX1_holdRow 29 = .ok (.ireturn, 1) := by decide +kernel
set_option maxRecDepth 20000 in
theorem ggX1_letGoRow_X1_isHook : GoodIn wsX1_letGoRow wsX1_isHook := goodIn_r _ [5] (by decide +kernel) (by decide +kernel)
set_option maxRecDepth 20000 in
theorem gX1_letGoRow_X1_isHook : GoodIn wsX1_letGoRow (va_wsS RX1 19 yX1_isHook wsX1_isHook) := goodIn_app (goodIn_of _ (by decide +kernel)) ggX1_letGoRow_X1_isHook
set_option maxRecDepth 20000 in
theorem ggX1_letGoRow_X0_weight : GoodIn wsX1_letGoRow wsX0_weight := goodIn_r _ [10, 11, 12, 20, 21, 22, 23, 24, 25, 26, 27] (by decide +kernel) (by decide +kernel)
set_option maxRecDepth 20000 in
theorem gX1_letGoRow_X0_weight : GoodIn wsX1_letGoRow (wsV RX1 74 RX0 yX0_weight wsX0_weight) := goodIn_app (goodIn_of _ (by decide +kernel)) ggX1_letGoRow_X0_weight
set_option maxRecDepth 20000 in
theorem ggX1_letGoRow_X0_letGo : GoodIn wsX1_letGoRow wsX0_letGo := goodIn_r _ [16, 17, 20, 21, 22, 23, 24, 25, 26, 27] (by decide +kernel) (by decide +kernel)
set_option maxRecDepth 20000 in
theorem gX1_letGoRow_X0_letGo : GoodIn wsX1_letGoRow (wsV RX1 36 RX0 yX0_letGo wsX0_letGo) := goodIn_app (goodIn_of _ (by decide +kernel)) ggX1_letGoRow_X0_letGo
theorem dX1_letGoRow_0 : decode cX1_letGoRow 0 = .ok (.iconst 0, 1) := by decide +kernel
theorem dX1_letGoRow_1 : decode cX1_letGoRow 1 = .ok (.istore 4, 2) := by decide +kernel
theorem dX1_letGoRow_3 : decode cX1_letGoRow 3 = .ok (.iload_n 2, 1) := by decide +kernel
theorem dX1_letGoRow_4 : decode cX1_letGoRow 4 = .ok (.iconst 1, 1) := by decide +kernel
theorem dX1_letGoRow_5 : decode cX1_letGoRow 5 = .ok (.isub, 1) := by decide +kernel
theorem dX1_letGoRow_6 : decode cX1_letGoRow 6 = .ok (.istore 5, 2) := by decide +kernel
theorem dX1_letGoRow_8 : decode cX1_letGoRow 8 = .ok (.iload 5, 2) := by decide +kernel
theorem dX1_letGoRow_10 : decode cX1_letGoRow 10 = .ok (.ifCond .lt 60, 3) := by decide +kernel
theorem dX1_letGoRow_13 : decode cX1_letGoRow 13 = .ok (.iload_n 1, 1) := by decide +kernel
theorem dX1_letGoRow_14 : decode cX1_letGoRow 14 = .ok (.iload 5, 2) := by decide +kernel
theorem dX1_letGoRow_16 : decode cX1_letGoRow 16 = .ok (.iadd, 1) := by decide +kernel
theorem dX1_letGoRow_17 : decode cX1_letGoRow 17 = .ok (.bipush 24, 2) := by decide +kernel
theorem dX1_letGoRow_19 : decode cX1_letGoRow 19 = .ok (.irem, 1) := by decide +kernel
theorem dX1_letGoRow_20 : decode cX1_letGoRow 20 = .ok (.istore 6, 2) := by decide +kernel
theorem dX1_letGoRow_22 : decode cX1_letGoRow 22 = .ok (.iload 6, 2) := by decide +kernel
theorem dX1_letGoRow_24 : decode cX1_letGoRow 24 = .ok (.invokestatic 19, 3) := by decide +kernel
theorem dX1_letGoRow_27 : decode cX1_letGoRow 27 = .ok (.ifCond .eq 13, 3) := by decide +kernel
theorem dX1_letGoRow_30 : decode cX1_letGoRow 30 = .ok (.aload_n 0, 1) := by decide +kernel
theorem dX1_letGoRow_31 : decode cX1_letGoRow 31 = .ok (.getfield 11, 3) := by decide +kernel
theorem dX1_letGoRow_34 : decode cX1_letGoRow 34 = .ok (.iload 6, 2) := by decide +kernel
theorem dX1_letGoRow_36 : decode cX1_letGoRow 36 = .ok (.aaload, 1) := by decide +kernel
theorem dX1_letGoRow_37 : decode cX1_letGoRow 37 = .ok (.goto 4, 3) := by decide +kernel
theorem dX1_letGoRow_40 : decode cX1_letGoRow 40 = .ok (.aconst_null, 1) := by decide +kernel
theorem dX1_letGoRow_41 : decode cX1_letGoRow 41 = .ok (.astore 7, 2) := by decide +kernel
theorem dX1_letGoRow_43 : decode cX1_letGoRow 43 = .ok (.aload 7, 2) := by decide +kernel
theorem dX1_letGoRow_45 : decode cX1_letGoRow 45 = .ok (.ifnull 19, 3) := by decide +kernel
theorem dX1_letGoRow_48 : decode cX1_letGoRow 48 = .ok (.iload 4, 2) := by decide +kernel
theorem dX1_letGoRow_50 : decode cX1_letGoRow 50 = .ok (.aload 7, 2) := by decide +kernel
theorem dX1_letGoRow_52 : decode cX1_letGoRow 52 = .ok (.iload_n 3, 1) := by decide +kernel
theorem dX1_letGoRow_53 : decode cX1_letGoRow 53 = .ok (.aload 7, 2) := by decide +kernel
theorem dX1_letGoRow_55 : decode cX1_letGoRow 55 = .ok (.invokevirtual 74, 3) := by decide +kernel
theorem dX1_letGoRow_58 : decode cX1_letGoRow 58 = .ok (.invokevirtual 36, 3) := by decide +kernel
theorem dX1_letGoRow_61 : decode cX1_letGoRow 61 = .ok (.iadd, 1) := by decide +kernel
theorem dX1_letGoRow_62 : decode cX1_letGoRow 62 = .ok (.istore 4, 2) := by decide +kernel
theorem dX1_letGoRow_64 : decode cX1_letGoRow 64 = .ok (.iinc 5 (-1), 3) := by decide +kernel
theorem dX1_letGoRow_67 : decode cX1_letGoRow 67 = .ok (.goto (-59), 3) := by decide +kernel
theorem dX1_letGoRow_70 : decode cX1_letGoRow 70 = .ok (.iload 4, 2) := by decide +kernel
theorem dX1_letGoRow_72 : decode cX1_letGoRow 72 = .ok (.ireturn, 1) := by decide +kernel
theorem dX2_init_0 : decode cX2_init 0 = .ok (.aload_n 0, 1) := by decide +kernel
theorem dX2_init_1 : decode cX2_init 1 = .ok (.invokespecial 1, 3) := by decide +kernel
theorem dX2_init_4 : decode cX2_init 4 = .ok (.aload_n 0, 1) := by decide +kernel
theorem dX2_init_5 : decode cX2_init 5 = .ok (.bipush 24, 2) := by decide +kernel
theorem dX2_init_7 : decode cX2_init 7 = .ok (.newarray .boolean, 2) := by decide +kernel
theorem dX2_init_9 : decode cX2_init 9 = .ok (.putfield 7, 3) := by decide +kernel
theorem dX2_init_12 : decode cX2_init 12 = .ok (.aload_n 0, 1) := by decide +kernel
theorem dX2_init_13 : decode cX2_init 13 = .ok (.bipush 24, 2) := by decide +kernel
theorem dX2_init_15 : decode cX2_init 15 = .ok (.newarray .int, 2) := by decide +kernel
theorem dX2_init_17 : decode cX2_init 17 = .ok (.putfield 13, 3) := by decide +kernel
theorem dX2_init_20 : decode cX2_init 20 = .ok (.aload_n 0, 1) := by decide +kernel
theorem dX2_init_21 : decode cX2_init 21 = .ok (.bipush 24, 2) := by decide +kernel
theorem dX2_init_23 : decode cX2_init 23 = .ok (.newarray .int, 2) := by decide +kernel
theorem dX2_init_25 : decode cX2_init 25 = .ok (.putfield 17, 3) := by decide +kernel
theorem dX2_init_28 : decode cX2_init 28 = .ok (.aload_n 0, 1) := by decide +kernel
theorem dX2_init_29 : decode cX2_init 29 = .ok (.bipush 24, 2) := by decide +kernel
theorem dX2_init_31 : decode cX2_init 31 = .ok (.newarray .boolean, 2) := by decide +kernel
theorem dX2_init_33 : decode cX2_init 33 = .ok (.putfield 20, 3) := by decide +kernel
theorem dX2_init_36 : decode cX2_init 36 = .ok (.aload_n 0, 1) := by decide +kernel
theorem dX2_init_37 : decode cX2_init 37 = .ok (.bipush 24, 2) := by decide +kernel
theorem dX2_init_39 : decode cX2_init 39 = .ok (.newarray .int, 2) := by decide +kernel
theorem dX2_init_41 : decode cX2_init 41 = .ok (.putfield 23, 3) := by decide +kernel
theorem dX2_init_44 : decode cX2_init 44 = .ok (.aload_n 0, 1) := by decide +kernel
theorem dX2_init_45 : decode cX2_init 45 = .ok (.bipush 24, 2) := by decide +kernel
theorem dX2_init_47 : decode cX2_init 47 = .ok (.newarray .int, 2) := by decide +kernel
theorem dX2_init_49 : decode cX2_init 49 = .ok (.putfield 26, 3) := by decide +kernel
theorem dX2_init_52 : decode cX2_init 52 = .ok (.aload_n 0, 1) := by decide +kernel
theorem dX2_init_53 : decode cX2_init 53 = .ok (.bipush 24, 2) := by decide +kernel
theorem dX2_init_55 : decode cX2_init 55 = .ok (.newarray .int, 2) := by decide +kernel
theorem dX2_init_57 : decode cX2_init 57 = .ok (.putfield 29, 3) := by decide +kernel
theorem dX2_init_60 : decode cX2_init 60 = .ok (.aload_n 0, 1) := by decide +kernel
theorem dX2_init_61 : decode cX2_init 61 = .ok (.bipush 24, 2) := by decide +kernel
theorem dX2_init_63 : decode cX2_init 63 = .ok (.newarray .int, 2) := by decide +kernel
theorem dX2_init_65 : decode cX2_init 65 = .ok (.putfield 32, 3) := by decide +kernel
theorem dX2_init_68 : decode cX2_init 68 = .ok (.aload_n 0, 1) := by decide +kernel
theorem dX2_init_69 : decode cX2_init 69 = .ok (.sipush 240, 3) := by decide +kernel
theorem dX2_init_72 : decode cX2_init 72 = .ok (.newarray .int, 2) := by decide +kernel
theorem dX2_init_74 : decode cX2_init 74 = .ok (.putfield 35, 3) := by decide +kernel
theorem dX2_init_77 : decode cX2_init 77 = .ok (.return_, 1) := by decide +kernel
theorem dX2_isHook_0 : decode cX2_isHook 0 = .ok (.iload_n 0, 1) := by decide +kernel
theorem dX2_isHook_1 : decode cX2_isHook 1 = .ok (.ifCond .lt 13, 3) := by decide +kernel
theorem dX2_isHook_4 : decode cX2_isHook 4 = .ok (.iload_n 0, 1) := by decide +kernel
theorem dX2_isHook_5 : decode cX2_isHook 5 = .ok (.bipush 24, 2) := by decide +kernel
theorem dX2_isHook_7 : decode cX2_isHook 7 = .ok (.if_icmp .ge 7, 3) := by decide +kernel
theorem dX2_isHook_10 : decode cX2_isHook 10 = .ok (.iconst 1, 1) := by decide +kernel
theorem dX2_isHook_11 : decode cX2_isHook 11 = .ok (.goto 4, 3) := by decide +kernel
theorem dX2_isHook_14 : decode cX2_isHook 14 = .ok (.iconst 0, 1) := by decide +kernel
theorem dX2_isHook_15 : decode cX2_isHook 15 = .ok (.ireturn, 1) := by decide +kernel
theorem dX2_isWeight_0 : decode cX2_isWeight 0 = .ok (.iload_n 0, 1) := by decide +kernel
theorem dX2_isWeight_1 : decode cX2_isWeight 1 = .ok (.iconst 1, 1) := by decide +kernel
theorem dX2_isWeight_2 : decode cX2_isWeight 2 = .ok (.if_icmp .lt 14, 3) := by decide +kernel
theorem dX2_isWeight_5 : decode cX2_isWeight 5 = .ok (.iload_n 0, 1) := by decide +kernel
theorem dX2_isWeight_6 : decode cX2_isWeight 6 = .ok (.sipush 1000, 3) := by decide +kernel
theorem dX2_isWeight_9 : decode cX2_isWeight 9 = .ok (.if_icmp .gt 7, 3) := by decide +kernel
theorem dX2_isWeight_12 : decode cX2_isWeight 12 = .ok (.iconst 1, 1) := by decide +kernel
theorem dX2_isWeight_13 : decode cX2_isWeight 13 = .ok (.goto 4, 3) := by decide +kernel
theorem dX2_isWeight_16 : decode cX2_isWeight 16 = .ok (.iconst 0, 1) := by decide +kernel
theorem dX2_isWeight_17 : decode cX2_isWeight 17 = .ok (.ireturn, 1) := by decide +kernel
theorem dX2_weight_0 : decode cX2_weight 0 = .ok (.iconst 0, 1) := by decide +kernel
theorem dX2_weight_1 : decode cX2_weight 1 = .ok (.istore_n 2, 1) := by decide +kernel
theorem dX2_weight_2 : decode cX2_weight 2 = .ok (.iconst 0, 1) := by decide +kernel
theorem dX2_weight_3 : decode cX2_weight 3 = .ok (.istore_n 3, 1) := by decide +kernel
theorem dX2_weight_4 : decode cX2_weight 4 = .ok (.iload_n 3, 1) := by decide +kernel
theorem dX2_weight_5 : decode cX2_weight 5 = .ok (.aload_n 0, 1) := by decide +kernel
theorem dX2_weight_6 : decode cX2_weight 6 = .ok (.getfield 26, 3) := by decide +kernel
theorem dX2_weight_9 : decode cX2_weight 9 = .ok (.iload_n 1, 1) := by decide +kernel
theorem dX2_weight_10 : decode cX2_weight 10 = .ok (.iaload, 1) := by decide +kernel
theorem dX2_weight_11 : decode cX2_weight 11 = .ok (.if_icmp .ge 23, 3) := by decide +kernel
theorem dX2_weight_14 : decode cX2_weight 14 = .ok (.iload_n 2, 1) := by decide +kernel
theorem dX2_weight_15 : decode cX2_weight 15 = .ok (.aload_n 0, 1) := by decide +kernel
theorem dX2_weight_16 : decode cX2_weight 16 = .ok (.getfield 35, 3) := by decide +kernel
theorem dX2_weight_19 : decode cX2_weight 19 = .ok (.bipush 10, 2) := by decide +kernel
theorem dX2_weight_21 : decode cX2_weight 21 = .ok (.iload_n 1, 1) := by decide +kernel
theorem dX2_weight_22 : decode cX2_weight 22 = .ok (.imul, 1) := by decide +kernel
theorem dX2_weight_23 : decode cX2_weight 23 = .ok (.iload_n 3, 1) := by decide +kernel
theorem dX2_weight_24 : decode cX2_weight 24 = .ok (.iadd, 1) := by decide +kernel
theorem dX2_weight_25 : decode cX2_weight 25 = .ok (.iaload, 1) := by decide +kernel
theorem dX2_weight_26 : decode cX2_weight 26 = .ok (.iadd, 1) := by decide +kernel
theorem dX2_weight_27 : decode cX2_weight 27 = .ok (.istore_n 2, 1) := by decide +kernel
theorem dX2_weight_28 : decode cX2_weight 28 = .ok (.iinc 3 1, 3) := by decide +kernel
theorem dX2_weight_31 : decode cX2_weight 31 = .ok (.goto (-27), 3) := by decide +kernel
theorem dX2_weight_34 : decode cX2_weight 34 = .ok (.iload_n 2, 1) := by decide +kernel
theorem dX2_weight_35 : decode cX2_weight 35 = .ok (.ireturn, 1) := by decide +kernel
theorem dX2_let_0 : decode cX2_let 0 = .ok (.aload_n 0, 1) := by decide +kernel
theorem dX2_let_1 : decode cX2_let 1 = .ok (.getfield 29, 3) := by decide +kernel
theorem dX2_let_4 : decode cX2_let 4 = .ok (.iload_n 1, 1) := by decide +kernel
theorem dX2_let_5 : decode cX2_let 5 = .ok (.dup2, 1) := by decide +kernel
theorem dX2_let_6 : decode cX2_let 6 = .ok (.iaload, 1) := by decide +kernel
theorem dX2_let_7 : decode cX2_let 7 = .ok (.iconst 1, 1) := by decide +kernel
theorem dX2_let_8 : decode cX2_let 8 = .ok (.iadd, 1) := by decide +kernel
theorem dX2_let_9 : decode cX2_let 9 = .ok (.iastore, 1) := by decide +kernel
theorem dX2_let_10 : decode cX2_let 10 = .ok (.aload_n 0, 1) := by decide +kernel
theorem dX2_let_11 : decode cX2_let 11 = .ok (.getfield 32, 3) := by decide +kernel
theorem dX2_let_14 : decode cX2_let 14 = .ok (.iload_n 1, 1) := by decide +kernel
theorem dX2_let_15 : decode cX2_let 15 = .ok (.iload_n 2, 1) := by decide +kernel
theorem dX2_let_16 : decode cX2_let 16 = .ok (.iastore, 1) := by decide +kernel
theorem dX2_let_17 : decode cX2_let 17 = .ok (.iload_n 3, 1) := by decide +kernel
theorem dX2_let_18 : decode cX2_let 18 = .ok (.ireturn, 1) := by decide +kernel
theorem dX2_letBoth_0 : decode cX2_letBoth 0 = .ok (.aload_n 0, 1) := by decide +kernel
theorem dX2_letBoth_1 : decode cX2_letBoth 1 = .ok (.getfield 29, 3) := by decide +kernel
theorem dX2_letBoth_4 : decode cX2_letBoth 4 = .ok (.iload_n 1, 1) := by decide +kernel
theorem dX2_letBoth_5 : decode cX2_letBoth 5 = .ok (.dup2, 1) := by decide +kernel
theorem dX2_letBoth_6 : decode cX2_letBoth 6 = .ok (.iaload, 1) := by decide +kernel
theorem dX2_letBoth_7 : decode cX2_letBoth 7 = .ok (.iconst 1, 1) := by decide +kernel
theorem dX2_letBoth_8 : decode cX2_letBoth 8 = .ok (.iadd, 1) := by decide +kernel
theorem dX2_letBoth_9 : decode cX2_letBoth 9 = .ok (.iastore, 1) := by decide +kernel
theorem dX2_letBoth_10 : decode cX2_letBoth 10 = .ok (.aload_n 0, 1) := by decide +kernel
theorem dX2_letBoth_11 : decode cX2_letBoth 11 = .ok (.getfield 29, 3) := by decide +kernel
theorem dX2_letBoth_14 : decode cX2_letBoth 14 = .ok (.iload_n 2, 1) := by decide +kernel
theorem dX2_letBoth_15 : decode cX2_letBoth 15 = .ok (.dup2, 1) := by decide +kernel
theorem dX2_letBoth_16 : decode cX2_letBoth 16 = .ok (.iaload, 1) := by decide +kernel
theorem dX2_letBoth_17 : decode cX2_letBoth 17 = .ok (.iconst 1, 1) := by decide +kernel
theorem dX2_letBoth_18 : decode cX2_letBoth 18 = .ok (.iadd, 1) := by decide +kernel
theorem dX2_letBoth_19 : decode cX2_letBoth 19 = .ok (.iastore, 1) := by decide +kernel
theorem dX2_letBoth_20 : decode cX2_letBoth 20 = .ok (.aload_n 0, 1) := by decide +kernel
theorem dX2_letBoth_21 : decode cX2_letBoth 21 = .ok (.getfield 32, 3) := by decide +kernel
theorem dX2_letBoth_24 : decode cX2_letBoth 24 = .ok (.iload_n 2, 1) := by decide +kernel
theorem dX2_letBoth_25 : decode cX2_letBoth 25 = .ok (.iload_n 3, 1) := by decide +kernel
theorem dX2_letBoth_26 : decode cX2_letBoth 26 = .ok (.iastore, 1) := by decide +kernel
theorem dX2_letBoth_27 : decode cX2_letBoth 27 = .ok (.aload_n 0, 1) := by decide +kernel
theorem dX2_letBoth_28 : decode cX2_letBoth 28 = .ok (.getfield 32, 3) := by decide +kernel
theorem dX2_letBoth_31 : decode cX2_letBoth 31 = .ok (.iload_n 1, 1) := by decide +kernel
theorem dX2_letBoth_32 : decode cX2_letBoth 32 = .ok (.iload_n 3, 1) := by decide +kernel
theorem dX2_letBoth_33 : decode cX2_letBoth 33 = .ok (.iastore, 1) := by decide +kernel
theorem dX2_letBoth_34 : decode cX2_letBoth 34 = .ok (.iload 4, 2) := by decide +kernel
theorem dX2_letBoth_36 : decode cX2_letBoth 36 = .ok (.ireturn, 1) := by decide +kernel
set_option maxRecDepth 20000 in
theorem ggX2_hasRoom_X2_weight : GoodIn wsX2_hasRoom wsX2_weight := goodIn_r _ [7, 1, 8, 9, 10, 11, 12, 13, 14, 15, 16, 17, 18] (by decide +kernel) (by decide +kernel)
set_option maxRecDepth 20000 in
theorem gX2_hasRoom_X2_weight : GoodIn wsX2_hasRoom (wsV RX2 38 RX2 yX2_weight wsX2_weight) := goodIn_app (goodIn_of _ (by decide +kernel)) ggX2_hasRoom_X2_weight
theorem dX2_hasRoom_0 : decode cX2_hasRoom 0 = .ok (.aload_n 0, 1) := by decide +kernel
theorem dX2_hasRoom_1 : decode cX2_hasRoom 1 = .ok (.getfield 26, 3) := by decide +kernel
theorem dX2_hasRoom_4 : decode cX2_hasRoom 4 = .ok (.iload_n 1, 1) := by decide +kernel
theorem dX2_hasRoom_5 : decode cX2_hasRoom 5 = .ok (.iaload, 1) := by decide +kernel
theorem dX2_hasRoom_6 : decode cX2_hasRoom 6 = .ok (.bipush 10, 2) := by decide +kernel
theorem dX2_hasRoom_8 : decode cX2_hasRoom 8 = .ok (.if_icmp .ge 23, 3) := by decide +kernel
theorem dX2_hasRoom_11 : decode cX2_hasRoom 11 = .ok (.aload_n 0, 1) := by decide +kernel
theorem dX2_hasRoom_12 : decode cX2_hasRoom 12 = .ok (.iload_n 1, 1) := by decide +kernel
theorem dX2_hasRoom_13 : decode cX2_hasRoom 13 = .ok (.invokevirtual 38, 3) := by decide +kernel
theorem dX2_hasRoom_16 : decode cX2_hasRoom 16 = .ok (.iload_n 2, 1) := by decide +kernel
theorem dX2_hasRoom_17 : decode cX2_hasRoom 17 = .ok (.iadd, 1) := by decide +kernel
theorem dX2_hasRoom_18 : decode cX2_hasRoom 18 = .ok (.aload_n 0, 1) := by decide +kernel
theorem dX2_hasRoom_19 : decode cX2_hasRoom 19 = .ok (.getfield 13, 3) := by decide +kernel
theorem dX2_hasRoom_22 : decode cX2_hasRoom 22 = .ok (.iload_n 1, 1) := by decide +kernel
theorem dX2_hasRoom_23 : decode cX2_hasRoom 23 = .ok (.iaload, 1) := by decide +kernel
theorem dX2_hasRoom_24 : decode cX2_hasRoom 24 = .ok (.if_icmp .gt 7, 3) := by decide +kernel
theorem dX2_hasRoom_27 : decode cX2_hasRoom 27 = .ok (.iconst 1, 1) := by decide +kernel
theorem dX2_hasRoom_28 : decode cX2_hasRoom 28 = .ok (.goto 4, 3) := by decide +kernel
theorem dX2_hasRoom_31 : decode cX2_hasRoom 31 = .ok (.iconst 0, 1) := by decide +kernel
theorem dX2_hasRoom_32 : decode cX2_hasRoom 32 = .ok (.ireturn, 1) := by decide +kernel
theorem dX2_add_0 : decode cX2_add 0 = .ok (.aload_n 0, 1) := by decide +kernel
theorem dX2_add_1 : decode cX2_add 1 = .ok (.getfield 35, 3) := by decide +kernel
theorem dX2_add_4 : decode cX2_add 4 = .ok (.bipush 10, 2) := by decide +kernel
theorem dX2_add_6 : decode cX2_add 6 = .ok (.iload_n 1, 1) := by decide +kernel
theorem dX2_add_7 : decode cX2_add 7 = .ok (.imul, 1) := by decide +kernel
theorem dX2_add_8 : decode cX2_add 8 = .ok (.aload_n 0, 1) := by decide +kernel
theorem dX2_add_9 : decode cX2_add 9 = .ok (.getfield 26, 3) := by decide +kernel
theorem dX2_add_12 : decode cX2_add 12 = .ok (.iload_n 1, 1) := by decide +kernel
theorem dX2_add_13 : decode cX2_add 13 = .ok (.iaload, 1) := by decide +kernel
theorem dX2_add_14 : decode cX2_add 14 = .ok (.iadd, 1) := by decide +kernel
theorem dX2_add_15 : decode cX2_add 15 = .ok (.iload_n 2, 1) := by decide +kernel
theorem dX2_add_16 : decode cX2_add 16 = .ok (.iastore, 1) := by decide +kernel
theorem dX2_add_17 : decode cX2_add 17 = .ok (.aload_n 0, 1) := by decide +kernel
theorem dX2_add_18 : decode cX2_add 18 = .ok (.getfield 26, 3) := by decide +kernel
theorem dX2_add_21 : decode cX2_add 21 = .ok (.iload_n 1, 1) := by decide +kernel
theorem dX2_add_22 : decode cX2_add 22 = .ok (.dup2, 1) := by decide +kernel
theorem dX2_add_23 : decode cX2_add 23 = .ok (.iaload, 1) := by decide +kernel
theorem dX2_add_24 : decode cX2_add 24 = .ok (.iconst 1, 1) := by decide +kernel
theorem dX2_add_25 : decode cX2_add 25 = .ok (.iadd, 1) := by decide +kernel
theorem dX2_add_26 : decode cX2_add 26 = .ok (.iastore, 1) := by decide +kernel
theorem dX2_add_27 : decode cX2_add 27 = .ok (.return_, 1) := by decide +kernel
theorem dX2_takeLast_0 : decode cX2_takeLast 0 = .ok (.aload_n 0, 1) := by decide +kernel
theorem dX2_takeLast_1 : decode cX2_takeLast 1 = .ok (.getfield 26, 3) := by decide +kernel
theorem dX2_takeLast_4 : decode cX2_takeLast 4 = .ok (.iload_n 1, 1) := by decide +kernel
theorem dX2_takeLast_5 : decode cX2_takeLast 5 = .ok (.dup2, 1) := by decide +kernel
theorem dX2_takeLast_6 : decode cX2_takeLast 6 = .ok (.iaload, 1) := by decide +kernel
theorem dX2_takeLast_7 : decode cX2_takeLast 7 = .ok (.iconst 1, 1) := by decide +kernel
theorem dX2_takeLast_8 : decode cX2_takeLast 8 = .ok (.isub, 1) := by decide +kernel
theorem dX2_takeLast_9 : decode cX2_takeLast 9 = .ok (.iastore, 1) := by decide +kernel
theorem dX2_takeLast_10 : decode cX2_takeLast 10 = .ok (.aload_n 0, 1) := by decide +kernel
theorem dX2_takeLast_11 : decode cX2_takeLast 11 = .ok (.getfield 35, 3) := by decide +kernel
theorem dX2_takeLast_14 : decode cX2_takeLast 14 = .ok (.bipush 10, 2) := by decide +kernel
theorem dX2_takeLast_16 : decode cX2_takeLast 16 = .ok (.iload_n 1, 1) := by decide +kernel
theorem dX2_takeLast_17 : decode cX2_takeLast 17 = .ok (.imul, 1) := by decide +kernel
theorem dX2_takeLast_18 : decode cX2_takeLast 18 = .ok (.aload_n 0, 1) := by decide +kernel
theorem dX2_takeLast_19 : decode cX2_takeLast 19 = .ok (.getfield 26, 3) := by decide +kernel
theorem dX2_takeLast_22 : decode cX2_takeLast 22 = .ok (.iload_n 1, 1) := by decide +kernel
theorem dX2_takeLast_23 : decode cX2_takeLast 23 = .ok (.iaload, 1) := by decide +kernel
theorem dX2_takeLast_24 : decode cX2_takeLast 24 = .ok (.iadd, 1) := by decide +kernel
theorem dX2_takeLast_25 : decode cX2_takeLast 25 = .ok (.iaload, 1) := by decide +kernel
theorem dX2_takeLast_26 : decode cX2_takeLast 26 = .ok (.ireturn, 1) := by decide +kernel
set_option maxRecDepth 20000 in
theorem ggX2_mount_X2_isHook : GoodIn wsX2_mount wsX2_isHook := goodIn_r _ [12] (by decide +kernel) (by decide +kernel)
set_option maxRecDepth 20000 in
theorem gX2_mount_X2_isHook : GoodIn wsX2_mount (va_wsS RX2 42 yX2_isHook wsX2_isHook) := goodIn_app (goodIn_of _ (by decide +kernel)) ggX2_mount_X2_isHook
set_option maxRecDepth 20000 in
theorem ggX2_mount_X2_isWeight : GoodIn wsX2_mount wsX2_isWeight := goodIn_r _ [15] (by decide +kernel) (by decide +kernel)
set_option maxRecDepth 20000 in
theorem gX2_mount_X2_isWeight : GoodIn wsX2_mount (va_wsS RX2 46 yX2_isWeight wsX2_isWeight) := goodIn_app (goodIn_of _ (by decide +kernel)) ggX2_mount_X2_isWeight
theorem dX2_mount_0 : decode cX2_mount 0 = .ok (.iload_n 1, 1) := by decide +kernel
theorem dX2_mount_1 : decode cX2_mount 1 = .ok (.invokestatic 42, 3) := by decide +kernel
theorem dX2_mount_4 : decode cX2_mount 4 = .ok (.ifCond .eq 10, 3) := by decide +kernel
theorem dX2_mount_7 : decode cX2_mount 7 = .ok (.iload_n 2, 1) := by decide +kernel
theorem dX2_mount_8 : decode cX2_mount 8 = .ok (.invokestatic 46, 3) := by decide +kernel
theorem dX2_mount_11 : decode cX2_mount 11 = .ok (.ifCond .ne 5, 3) := by decide +kernel
theorem dX2_mount_14 : decode cX2_mount 14 = .ok (.iconst (-1), 1) := by decide +kernel
theorem dX2_mount_15 : decode cX2_mount 15 = .ok (.ireturn, 1) := by decide +kernel
theorem dX2_mount_16 : decode cX2_mount 16 = .ok (.aload_n 0, 1) := by decide +kernel
theorem dX2_mount_17 : decode cX2_mount 17 = .ok (.getfield 7, 3) := by decide +kernel
theorem dX2_mount_20 : decode cX2_mount 20 = .ok (.iload_n 1, 1) := by decide +kernel
theorem dX2_mount_21 : decode cX2_mount 21 = .ok (.baload, 1) := by decide +kernel
theorem dX2_mount_22 : decode cX2_mount 22 = .ok (.ifCond .eq 6, 3) := by decide +kernel
theorem dX2_mount_25 : decode cX2_mount 25 = .ok (.bipush (-5), 2) := by decide +kernel
theorem dX2_mount_27 : decode cX2_mount 27 = .ok (.ireturn, 1) := by decide +kernel
theorem dX2_mount_28 : decode cX2_mount 28 = .ok (.aload_n 0, 1) := by decide +kernel
theorem dX2_mount_29 : decode cX2_mount 29 = .ok (.getfield 7, 3) := by decide +kernel
theorem dX2_mount_32 : decode cX2_mount 32 = .ok (.iload_n 1, 1) := by decide +kernel
theorem dX2_mount_33 : decode cX2_mount 33 = .ok (.iconst 1, 1) := by decide +kernel
theorem dX2_mount_34 : decode cX2_mount 34 = .ok (.bastore, 1) := by decide +kernel
theorem dX2_mount_35 : decode cX2_mount 35 = .ok (.aload_n 0, 1) := by decide +kernel
theorem dX2_mount_36 : decode cX2_mount 36 = .ok (.getfield 13, 3) := by decide +kernel
theorem dX2_mount_39 : decode cX2_mount 39 = .ok (.iload_n 1, 1) := by decide +kernel
theorem dX2_mount_40 : decode cX2_mount 40 = .ok (.iload_n 2, 1) := by decide +kernel
theorem dX2_mount_41 : decode cX2_mount 41 = .ok (.iastore, 1) := by decide +kernel
theorem dX2_mount_42 : decode cX2_mount 42 = .ok (.aload_n 0, 1) := by decide +kernel
theorem dX2_mount_43 : decode cX2_mount 43 = .ok (.getfield 17, 3) := by decide +kernel
theorem dX2_mount_46 : decode cX2_mount 46 = .ok (.iload_n 1, 1) := by decide +kernel
theorem dX2_mount_47 : decode cX2_mount 47 = .ok (.iload_n 3, 1) := by decide +kernel
theorem dX2_mount_48 : decode cX2_mount 48 = .ok (.iastore, 1) := by decide +kernel
theorem dX2_mount_49 : decode cX2_mount 49 = .ok (.aload_n 0, 1) := by decide +kernel
theorem dX2_mount_50 : decode cX2_mount 50 = .ok (.getfield 20, 3) := by decide +kernel
theorem dX2_mount_53 : decode cX2_mount 53 = .ok (.iload_n 1, 1) := by decide +kernel
theorem dX2_mount_54 : decode cX2_mount 54 = .ok (.iconst 0, 1) := by decide +kernel
theorem dX2_mount_55 : decode cX2_mount 55 = .ok (.bastore, 1) := by decide +kernel
theorem dX2_mount_56 : decode cX2_mount 56 = .ok (.aload_n 0, 1) := by decide +kernel
theorem dX2_mount_57 : decode cX2_mount 57 = .ok (.getfield 23, 3) := by decide +kernel
theorem dX2_mount_60 : decode cX2_mount 60 = .ok (.iload_n 1, 1) := by decide +kernel
theorem dX2_mount_61 : decode cX2_mount 61 = .ok (.iconst 0, 1) := by decide +kernel
theorem dX2_mount_62 : decode cX2_mount 62 = .ok (.iastore, 1) := by decide +kernel
theorem dX2_mount_63 : decode cX2_mount 63 = .ok (.aload_n 0, 1) := by decide +kernel
theorem dX2_mount_64 : decode cX2_mount 64 = .ok (.getfield 26, 3) := by decide +kernel
theorem dX2_mount_67 : decode cX2_mount 67 = .ok (.iload_n 1, 1) := by decide +kernel
theorem dX2_mount_68 : decode cX2_mount 68 = .ok (.iconst 0, 1) := by decide +kernel
theorem dX2_mount_69 : decode cX2_mount 69 = .ok (.iastore, 1) := by decide +kernel
theorem dX2_mount_70 : decode cX2_mount 70 = .ok (.aload_n 0, 1) := by decide +kernel
theorem dX2_mount_71 : decode cX2_mount 71 = .ok (.getfield 29, 3) := by decide +kernel
theorem dX2_mount_74 : decode cX2_mount 74 = .ok (.iload_n 1, 1) := by decide +kernel
theorem dX2_mount_75 : decode cX2_mount 75 = .ok (.iconst 0, 1) := by decide +kernel
theorem dX2_mount_76 : decode cX2_mount 76 = .ok (.iastore, 1) := by decide +kernel
theorem dX2_mount_77 : decode cX2_mount 77 = .ok (.aload_n 0, 1) := by decide +kernel
theorem dX2_mount_78 : decode cX2_mount 78 = .ok (.getfield 32, 3) := by decide +kernel
theorem dX2_mount_81 : decode cX2_mount 81 = .ok (.iload_n 1, 1) := by decide +kernel
theorem dX2_mount_82 : decode cX2_mount 82 = .ok (.iconst 0, 1) := by decide +kernel
theorem dX2_mount_83 : decode cX2_mount 83 = .ok (.iastore, 1) := by decide +kernel
theorem dX2_mount_84 : decode cX2_mount 84 = .ok (.iconst 1, 1) := by decide +kernel
theorem dX2_mount_85 : decode cX2_mount 85 = .ok (.ireturn, 1) := by decide +kernel
set_option maxRecDepth 20000 in
theorem ggX2_unmount_X2_isHook : GoodIn wsX2_unmount wsX2_isHook := goodIn_r _ [8] (by decide +kernel) (by decide +kernel)
set_option maxRecDepth 20000 in
theorem gX2_unmount_X2_isHook : GoodIn wsX2_unmount (va_wsS RX2 42 yX2_isHook wsX2_isHook) := goodIn_app (goodIn_of _ (by decide +kernel)) ggX2_unmount_X2_isHook
set_option maxRecDepth 20000 in
theorem ggX2_unmount_X2_let : GoodIn wsX2_unmount wsX2_let := goodIn_r _ [12, 4, 13, 14, 15, 16, 17, 18, 19, 20, 21, 22, 23] (by decide +kernel) (by decide +kernel)
set_option maxRecDepth 20000 in
theorem gX2_unmount_X2_let : GoodIn wsX2_unmount (wsV RX2 53 RX2 yX2_let wsX2_let) := goodIn_app (goodIn_of _ (by decide +kernel)) ggX2_unmount_X2_let
theorem dX2_unmount_0 : decode cX2_unmount 0 = .ok (.iload_n 1, 1) := by decide +kernel
theorem dX2_unmount_1 : decode cX2_unmount 1 = .ok (.invokestatic 42, 3) := by decide +kernel
theorem dX2_unmount_4 : decode cX2_unmount 4 = .ok (.ifCond .ne 5, 3) := by decide +kernel
theorem dX2_unmount_7 : decode cX2_unmount 7 = .ok (.iconst (-1), 1) := by decide +kernel
theorem dX2_unmount_8 : decode cX2_unmount 8 = .ok (.ireturn, 1) := by decide +kernel
theorem dX2_unmount_9 : decode cX2_unmount 9 = .ok (.aload_n 0, 1) := by decide +kernel
theorem dX2_unmount_10 : decode cX2_unmount 10 = .ok (.dup, 1) := by decide +kernel
theorem dX2_unmount_11 : decode cX2_unmount 11 = .ok (.getfield 49, 3) := by decide +kernel
theorem dX2_unmount_14 : decode cX2_unmount 14 = .ok (.iconst 1, 1) := by decide +kernel
theorem dX2_unmount_15 : decode cX2_unmount 15 = .ok (.iadd, 1) := by decide +kernel
theorem dX2_unmount_16 : decode cX2_unmount 16 = .ok (.putfield 49, 3) := by decide +kernel
theorem dX2_unmount_19 : decode cX2_unmount 19 = .ok (.aload_n 0, 1) := by decide +kernel
theorem dX2_unmount_20 : decode cX2_unmount 20 = .ok (.getfield 7, 3) := by decide +kernel
theorem dX2_unmount_23 : decode cX2_unmount 23 = .ok (.iload_n 1, 1) := by decide +kernel
theorem dX2_unmount_24 : decode cX2_unmount 24 = .ok (.baload, 1) := by decide +kernel
theorem dX2_unmount_25 : decode cX2_unmount 25 = .ok (.ifCond .ne 6, 3) := by decide +kernel
theorem dX2_unmount_28 : decode cX2_unmount 28 = .ok (.bipush (-2), 2) := by decide +kernel
theorem dX2_unmount_30 : decode cX2_unmount 30 = .ok (.ireturn, 1) := by decide +kernel
theorem dX2_unmount_31 : decode cX2_unmount 31 = .ok (.aload_n 0, 1) := by decide +kernel
theorem dX2_unmount_32 : decode cX2_unmount 32 = .ok (.getfield 26, 3) := by decide +kernel
theorem dX2_unmount_35 : decode cX2_unmount 35 = .ok (.iload_n 1, 1) := by decide +kernel
theorem dX2_unmount_36 : decode cX2_unmount 36 = .ok (.iaload, 1) := by decide +kernel
theorem dX2_unmount_37 : decode cX2_unmount 37 = .ok (.ifCond .le 12, 3) := by decide +kernel
theorem dX2_unmount_40 : decode cX2_unmount 40 = .ok (.aload_n 0, 1) := by decide +kernel
theorem dX2_unmount_41 : decode cX2_unmount 41 = .ok (.iload_n 1, 1) := by decide +kernel
theorem dX2_unmount_42 : decode cX2_unmount 42 = .ok (.iconst 2, 1) := by decide +kernel
theorem dX2_unmount_43 : decode cX2_unmount 43 = .ok (.bipush (-6), 2) := by decide +kernel
theorem dX2_unmount_45 : decode cX2_unmount 45 = .ok (.invokevirtual 53, 3) := by decide +kernel
theorem dX2_unmount_48 : decode cX2_unmount 48 = .ok (.ireturn, 1) := by decide +kernel
theorem dX2_unmount_49 : decode cX2_unmount 49 = .ok (.aload_n 0, 1) := by decide +kernel
theorem dX2_unmount_50 : decode cX2_unmount 50 = .ok (.getfield 7, 3) := by decide +kernel
theorem dX2_unmount_53 : decode cX2_unmount 53 = .ok (.iload_n 1, 1) := by decide +kernel
theorem dX2_unmount_54 : decode cX2_unmount 54 = .ok (.iconst 0, 1) := by decide +kernel
theorem dX2_unmount_55 : decode cX2_unmount 55 = .ok (.bastore, 1) := by decide +kernel
theorem dX2_unmount_56 : decode cX2_unmount 56 = .ok (.aload_n 0, 1) := by decide +kernel
theorem dX2_unmount_57 : decode cX2_unmount 57 = .ok (.iload_n 1, 1) := by decide +kernel
theorem dX2_unmount_58 : decode cX2_unmount 58 = .ok (.iconst 1, 1) := by decide +kernel
theorem dX2_unmount_59 : decode cX2_unmount 59 = .ok (.aload_n 0, 1) := by decide +kernel
theorem dX2_unmount_60 : decode cX2_unmount 60 = .ok (.getfield 29, 3) := by decide +kernel
theorem dX2_unmount_63 : decode cX2_unmount 63 = .ok (.iload_n 1, 1) := by decide +kernel
theorem dX2_unmount_64 : decode cX2_unmount 64 = .ok (.iaload, 1) := by decide +kernel
theorem dX2_unmount_65 : decode cX2_unmount 65 = .ok (.iconst 1, 1) := by decide +kernel
theorem dX2_unmount_66 : decode cX2_unmount 66 = .ok (.iadd, 1) := by decide +kernel
theorem dX2_unmount_67 : decode cX2_unmount 67 = .ok (.invokevirtual 53, 3) := by decide +kernel
theorem dX2_unmount_70 : decode cX2_unmount 70 = .ok (.ireturn, 1) := by decide +kernel
set_option maxRecDepth 20000 in
theorem ggX2_open_X2_isHook : GoodIn wsX2_open wsX2_isHook := goodIn_r _ [8] (by decide +kernel) (by decide +kernel)
set_option maxRecDepth 20000 in
theorem gX2_open_X2_isHook : GoodIn wsX2_open (va_wsS RX2 42 yX2_isHook wsX2_isHook) := goodIn_app (goodIn_of _ (by decide +kernel)) ggX2_open_X2_isHook
set_option maxRecDepth 20000 in
theorem ggX2_open_X2_let : GoodIn wsX2_open wsX2_let := goodIn_r _ [12, 13, 14, 15, 16, 17, 18, 19, 20, 21, 22, 23, 24] (by decide +kernel) (by decide +kernel)
set_option maxRecDepth 20000 in
theorem gX2_open_X2_let : GoodIn wsX2_open (wsV RX2 53 RX2 yX2_let wsX2_let) := goodIn_app (goodIn_of _ (by decide +kernel)) ggX2_open_X2_let
theorem dX2_open_0 : decode cX2_open 0 = .ok (.iload_n 1, 1) := by decide +kernel
theorem dX2_open_1 : decode cX2_open 1 = .ok (.invokestatic 42, 3) := by decide +kernel
theorem dX2_open_4 : decode cX2_open 4 = .ok (.ifCond .ne 5, 3) := by decide +kernel
theorem dX2_open_7 : decode cX2_open 7 = .ok (.iconst (-1), 1) := by decide +kernel
theorem dX2_open_8 : decode cX2_open 8 = .ok (.ireturn, 1) := by decide +kernel
theorem dX2_open_9 : decode cX2_open 9 = .ok (.aload_n 0, 1) := by decide +kernel
theorem dX2_open_10 : decode cX2_open 10 = .ok (.getfield 7, 3) := by decide +kernel
theorem dX2_open_13 : decode cX2_open 13 = .ok (.iload_n 1, 1) := by decide +kernel
theorem dX2_open_14 : decode cX2_open 14 = .ok (.baload, 1) := by decide +kernel
theorem dX2_open_15 : decode cX2_open 15 = .ok (.ifCond .ne 6, 3) := by decide +kernel
theorem dX2_open_18 : decode cX2_open 18 = .ok (.bipush (-2), 2) := by decide +kernel
theorem dX2_open_20 : decode cX2_open 20 = .ok (.ireturn, 1) := by decide +kernel
theorem dX2_open_21 : decode cX2_open 21 = .ok (.aload_n 0, 1) := by decide +kernel
theorem dX2_open_22 : decode cX2_open 22 = .ok (.getfield 23, 3) := by decide +kernel
theorem dX2_open_25 : decode cX2_open 25 = .ok (.iload_n 1, 1) := by decide +kernel
theorem dX2_open_26 : decode cX2_open 26 = .ok (.iaload, 1) := by decide +kernel
theorem dX2_open_27 : decode cX2_open 27 = .ok (.iconst 3, 1) := by decide +kernel
theorem dX2_open_28 : decode cX2_open 28 = .ok (.if_icmp .ne 12, 3) := by decide +kernel
theorem dX2_open_31 : decode cX2_open 31 = .ok (.aload_n 0, 1) := by decide +kernel
theorem dX2_open_32 : decode cX2_open 32 = .ok (.iload_n 1, 1) := by decide +kernel
theorem dX2_open_33 : decode cX2_open 33 = .ok (.iconst 2, 1) := by decide +kernel
theorem dX2_open_34 : decode cX2_open 34 = .ok (.bipush (-4), 2) := by decide +kernel
theorem dX2_open_36 : decode cX2_open 36 = .ok (.invokevirtual 53, 3) := by decide +kernel
theorem dX2_open_39 : decode cX2_open 39 = .ok (.ireturn, 1) := by decide +kernel
theorem dX2_open_40 : decode cX2_open 40 = .ok (.iload_n 2, 1) := by decide +kernel
theorem dX2_open_41 : decode cX2_open 41 = .ok (.aload_n 0, 1) := by decide +kernel
theorem dX2_open_42 : decode cX2_open 42 = .ok (.getfield 17, 3) := by decide +kernel
theorem dX2_open_45 : decode cX2_open 45 = .ok (.iload_n 1, 1) := by decide +kernel
theorem dX2_open_46 : decode cX2_open 46 = .ok (.iaload, 1) := by decide +kernel
theorem dX2_open_47 : decode cX2_open 47 = .ok (.if_icmp .eq 22, 3) := by decide +kernel
theorem dX2_open_50 : decode cX2_open 50 = .ok (.aload_n 0, 1) := by decide +kernel
theorem dX2_open_51 : decode cX2_open 51 = .ok (.getfield 23, 3) := by decide +kernel
theorem dX2_open_54 : decode cX2_open 54 = .ok (.iload_n 1, 1) := by decide +kernel
theorem dX2_open_55 : decode cX2_open 55 = .ok (.dup2, 1) := by decide +kernel
theorem dX2_open_56 : decode cX2_open 56 = .ok (.iaload, 1) := by decide +kernel
theorem dX2_open_57 : decode cX2_open 57 = .ok (.iconst 1, 1) := by decide +kernel
theorem dX2_open_58 : decode cX2_open 58 = .ok (.iadd, 1) := by decide +kernel
theorem dX2_open_59 : decode cX2_open 59 = .ok (.iastore, 1) := by decide +kernel
theorem dX2_open_60 : decode cX2_open 60 = .ok (.aload_n 0, 1) := by decide +kernel
theorem dX2_open_61 : decode cX2_open 61 = .ok (.iload_n 1, 1) := by decide +kernel
theorem dX2_open_62 : decode cX2_open 62 = .ok (.iconst 4, 1) := by decide +kernel
theorem dX2_open_63 : decode cX2_open 63 = .ok (.bipush (-7), 2) := by decide +kernel
theorem dX2_open_65 : decode cX2_open 65 = .ok (.invokevirtual 53, 3) := by decide +kernel
theorem dX2_open_68 : decode cX2_open 68 = .ok (.ireturn, 1) := by decide +kernel
theorem dX2_open_69 : decode cX2_open 69 = .ok (.aload_n 0, 1) := by decide +kernel
theorem dX2_open_70 : decode cX2_open 70 = .ok (.getfield 20, 3) := by decide +kernel
theorem dX2_open_73 : decode cX2_open 73 = .ok (.iload_n 1, 1) := by decide +kernel
theorem dX2_open_74 : decode cX2_open 74 = .ok (.iconst 1, 1) := by decide +kernel
theorem dX2_open_75 : decode cX2_open 75 = .ok (.bastore, 1) := by decide +kernel
theorem dX2_open_76 : decode cX2_open 76 = .ok (.aload_n 0, 1) := by decide +kernel
theorem dX2_open_77 : decode cX2_open 77 = .ok (.getfield 23, 3) := by decide +kernel
theorem dX2_open_80 : decode cX2_open 80 = .ok (.iload_n 1, 1) := by decide +kernel
theorem dX2_open_81 : decode cX2_open 81 = .ok (.iconst 0, 1) := by decide +kernel
theorem dX2_open_82 : decode cX2_open 82 = .ok (.iastore, 1) := by decide +kernel
theorem dX2_open_83 : decode cX2_open 83 = .ok (.aload_n 0, 1) := by decide +kernel
theorem dX2_open_84 : decode cX2_open 84 = .ok (.iload_n 1, 1) := by decide +kernel
theorem dX2_open_85 : decode cX2_open 85 = .ok (.iconst 1, 1) := by decide +kernel
theorem dX2_open_86 : decode cX2_open 86 = .ok (.iconst 1, 1) := by decide +kernel
theorem dX2_open_87 : decode cX2_open 87 = .ok (.invokevirtual 53, 3) := by decide +kernel
theorem dX2_open_90 : decode cX2_open 90 = .ok (.ireturn, 1) := by decide +kernel
set_option maxRecDepth 20000 in
theorem ggX2_shut_X2_isHook : GoodIn wsX2_shut wsX2_isHook := goodIn_r _ [6] (by decide +kernel) (by decide +kernel)
set_option maxRecDepth 20000 in
theorem gX2_shut_X2_isHook : GoodIn wsX2_shut (va_wsS RX2 42 yX2_isHook wsX2_isHook) := goodIn_app (goodIn_of _ (by decide +kernel)) ggX2_shut_X2_isHook
set_option maxRecDepth 20000 in
theorem ggX2_shut_X2_let : GoodIn wsX2_shut wsX2_let := goodIn_r _ [10, 11, 12, 13, 14, 15, 16, 17, 18, 19, 20, 21, 22] (by decide +kernel) (by decide +kernel)
set_option maxRecDepth 20000 in
theorem gX2_shut_X2_let : GoodIn wsX2_shut (wsV RX2 53 RX2 yX2_let wsX2_let) := goodIn_app (goodIn_of _ (by decide +kernel)) ggX2_shut_X2_let
theorem dX2_shut_0 : decode cX2_shut 0 = .ok (.iload_n 1, 1) := by decide +kernel
theorem dX2_shut_1 : decode cX2_shut 1 = .ok (.invokestatic 42, 3) := by decide +kernel
theorem dX2_shut_4 : decode cX2_shut 4 = .ok (.ifCond .ne 5, 3) := by decide +kernel
theorem dX2_shut_7 : decode cX2_shut 7 = .ok (.iconst (-1), 1) := by decide +kernel
theorem dX2_shut_8 : decode cX2_shut 8 = .ok (.ireturn, 1) := by decide +kernel
theorem dX2_shut_9 : decode cX2_shut 9 = .ok (.aload_n 0, 1) := by decide +kernel
theorem dX2_shut_10 : decode cX2_shut 10 = .ok (.getfield 7, 3) := by decide +kernel
theorem dX2_shut_13 : decode cX2_shut 13 = .ok (.iload_n 1, 1) := by decide +kernel
theorem dX2_shut_14 : decode cX2_shut 14 = .ok (.baload, 1) := by decide +kernel
theorem dX2_shut_15 : decode cX2_shut 15 = .ok (.ifCond .ne 6, 3) := by decide +kernel
theorem dX2_shut_18 : decode cX2_shut 18 = .ok (.bipush (-2), 2) := by decide +kernel
theorem dX2_shut_20 : decode cX2_shut 20 = .ok (.ireturn, 1) := by decide +kernel
theorem dX2_shut_21 : decode cX2_shut 21 = .ok (.aload_n 0, 1) := by decide +kernel
theorem dX2_shut_22 : decode cX2_shut 22 = .ok (.getfield 20, 3) := by decide +kernel
theorem dX2_shut_25 : decode cX2_shut 25 = .ok (.iload_n 1, 1) := by decide +kernel
theorem dX2_shut_26 : decode cX2_shut 26 = .ok (.baload, 1) := by decide +kernel
theorem dX2_shut_27 : decode cX2_shut 27 = .ok (.ifCond .ne 12, 3) := by decide +kernel
theorem dX2_shut_30 : decode cX2_shut 30 = .ok (.aload_n 0, 1) := by decide +kernel
theorem dX2_shut_31 : decode cX2_shut 31 = .ok (.iload_n 1, 1) := by decide +kernel
theorem dX2_shut_32 : decode cX2_shut 32 = .ok (.iconst 2, 1) := by decide +kernel
theorem dX2_shut_33 : decode cX2_shut 33 = .ok (.bipush (-3), 2) := by decide +kernel
theorem dX2_shut_35 : decode cX2_shut 35 = .ok (.invokevirtual 53, 3) := by decide +kernel
theorem dX2_shut_38 : decode cX2_shut 38 = .ok (.ireturn, 1) := by decide +kernel
theorem dX2_shut_39 : decode cX2_shut 39 = .ok (.aload_n 0, 1) := by decide +kernel
theorem dX2_shut_40 : decode cX2_shut 40 = .ok (.getfield 20, 3) := by decide +kernel
theorem dX2_shut_43 : decode cX2_shut 43 = .ok (.iload_n 1, 1) := by decide +kernel
theorem dX2_shut_44 : decode cX2_shut 44 = .ok (.iconst 0, 1) := by decide +kernel
theorem dX2_shut_45 : decode cX2_shut 45 = .ok (.bastore, 1) := by decide +kernel
theorem dX2_shut_46 : decode cX2_shut 46 = .ok (.aload_n 0, 1) := by decide +kernel
theorem dX2_shut_47 : decode cX2_shut 47 = .ok (.iload_n 1, 1) := by decide +kernel
theorem dX2_shut_48 : decode cX2_shut 48 = .ok (.iconst 1, 1) := by decide +kernel
theorem dX2_shut_49 : decode cX2_shut 49 = .ok (.iconst 1, 1) := by decide +kernel
theorem dX2_shut_50 : decode cX2_shut 50 = .ok (.invokevirtual 53, 3) := by decide +kernel
theorem dX2_shut_53 : decode cX2_shut 53 = .ok (.ireturn, 1) := by decide +kernel
set_option maxRecDepth 20000 in
theorem ggX2_put_X2_isHook : GoodIn wsX2_put wsX2_isHook := goodIn_r _ [7] (by decide +kernel) (by decide +kernel)
set_option maxRecDepth 20000 in
theorem gX2_put_X2_isHook : GoodIn wsX2_put (va_wsS RX2 42 yX2_isHook wsX2_isHook) := goodIn_app (goodIn_of _ (by decide +kernel)) ggX2_put_X2_isHook
set_option maxRecDepth 20000 in
theorem ggX2_put_X2_isWeight : GoodIn wsX2_put wsX2_isWeight := goodIn_r _ [10] (by decide +kernel) (by decide +kernel)
set_option maxRecDepth 20000 in
theorem gX2_put_X2_isWeight : GoodIn wsX2_put (va_wsS RX2 46 yX2_isWeight wsX2_isWeight) := goodIn_app (goodIn_of _ (by decide +kernel)) ggX2_put_X2_isWeight
set_option maxRecDepth 20000 in
theorem ggX2_put_X2_let : GoodIn wsX2_put wsX2_let := goodIn_r _ [14, 15, 16, 31, 32, 33, 34, 35, 36, 37, 38, 39, 40] (by decide +kernel) (by decide +kernel)
set_option maxRecDepth 20000 in
theorem gX2_put_X2_let : GoodIn wsX2_put (wsV RX2 53 RX2 yX2_let wsX2_let) := goodIn_app (goodIn_of _ (by decide +kernel)) ggX2_put_X2_let
set_option maxRecDepth 20000 in
theorem ggX2_put_X2_hasRoom : GoodIn wsX2_put wsX2_hasRoom := goodIn_r _ [20, 3, 21, 22, 23, 24, 6, 25, 26, 31, 32, 33, 34, 35, 36, 37, 38, 39, 40] (by decide +kernel) (by decide +kernel)
set_option maxRecDepth 20000 in
theorem gX2_put_X2_hasRoom : GoodIn wsX2_put (wsV RX2 57 RX2 yX2_hasRoom wsX2_hasRoom) := goodIn_app (goodIn_of _ (by decide +kernel)) ggX2_put_X2_hasRoom
set_option maxRecDepth 20000 in
theorem ggX2_put_X2_add : GoodIn wsX2_put wsX2_add := goodIn_r _ [30, 26, 3, 31, 32, 33, 34, 35, 36, 37, 38, 39, 40] (by decide +kernel) (by decide +kernel)
set_option maxRecDepth 20000 in
theorem gX2_put_X2_add : GoodIn wsX2_put (wsV RX2 61 RX2 yX2_add wsX2_add) := goodIn_app (goodIn_of _ (by decide +kernel)) ggX2_put_X2_add
theorem dX2_put_0 : decode cX2_put 0 = .ok (.iload_n 1, 1) := by decide +kernel
theorem dX2_put_1 : decode cX2_put 1 = .ok (.invokestatic 42, 3) := by decide +kernel
theorem dX2_put_4 : decode cX2_put 4 = .ok (.ifCond .eq 10, 3) := by decide +kernel
theorem dX2_put_7 : decode cX2_put 7 = .ok (.iload_n 2, 1) := by decide +kernel
theorem dX2_put_8 : decode cX2_put 8 = .ok (.invokestatic 46, 3) := by decide +kernel
theorem dX2_put_11 : decode cX2_put 11 = .ok (.ifCond .ne 5, 3) := by decide +kernel
theorem dX2_put_14 : decode cX2_put 14 = .ok (.iconst (-1), 1) := by decide +kernel
theorem dX2_put_15 : decode cX2_put 15 = .ok (.ireturn, 1) := by decide +kernel
theorem dX2_put_16 : decode cX2_put 16 = .ok (.aload_n 0, 1) := by decide +kernel
theorem dX2_put_17 : decode cX2_put 17 = .ok (.getfield 7, 3) := by decide +kernel
theorem dX2_put_20 : decode cX2_put 20 = .ok (.iload_n 1, 1) := by decide +kernel
theorem dX2_put_21 : decode cX2_put 21 = .ok (.baload, 1) := by decide +kernel
theorem dX2_put_22 : decode cX2_put 22 = .ok (.ifCond .ne 6, 3) := by decide +kernel
theorem dX2_put_25 : decode cX2_put 25 = .ok (.bipush (-2), 2) := by decide +kernel
theorem dX2_put_27 : decode cX2_put 27 = .ok (.ireturn, 1) := by decide +kernel
theorem dX2_put_28 : decode cX2_put 28 = .ok (.aload_n 0, 1) := by decide +kernel
theorem dX2_put_29 : decode cX2_put 29 = .ok (.getfield 20, 3) := by decide +kernel
theorem dX2_put_32 : decode cX2_put 32 = .ok (.iload_n 1, 1) := by decide +kernel
theorem dX2_put_33 : decode cX2_put 33 = .ok (.baload, 1) := by decide +kernel
theorem dX2_put_34 : decode cX2_put 34 = .ok (.ifCond .ne 12, 3) := by decide +kernel
theorem dX2_put_37 : decode cX2_put 37 = .ok (.aload_n 0, 1) := by decide +kernel
theorem dX2_put_38 : decode cX2_put 38 = .ok (.iload_n 1, 1) := by decide +kernel
theorem dX2_put_39 : decode cX2_put 39 = .ok (.iconst 2, 1) := by decide +kernel
theorem dX2_put_40 : decode cX2_put 40 = .ok (.bipush (-3), 2) := by decide +kernel
theorem dX2_put_42 : decode cX2_put 42 = .ok (.invokevirtual 53, 3) := by decide +kernel
theorem dX2_put_45 : decode cX2_put 45 = .ok (.ireturn, 1) := by decide +kernel
theorem dX2_put_46 : decode cX2_put 46 = .ok (.aload_n 0, 1) := by decide +kernel
theorem dX2_put_47 : decode cX2_put 47 = .ok (.iload_n 1, 1) := by decide +kernel
theorem dX2_put_48 : decode cX2_put 48 = .ok (.iload_n 2, 1) := by decide +kernel
theorem dX2_put_49 : decode cX2_put 49 = .ok (.invokevirtual 57, 3) := by decide +kernel
theorem dX2_put_52 : decode cX2_put 52 = .ok (.ifCond .ne 12, 3) := by decide +kernel
theorem dX2_put_55 : decode cX2_put 55 = .ok (.aload_n 0, 1) := by decide +kernel
theorem dX2_put_56 : decode cX2_put 56 = .ok (.iload_n 1, 1) := by decide +kernel
theorem dX2_put_57 : decode cX2_put 57 = .ok (.iconst 4, 1) := by decide +kernel
theorem dX2_put_58 : decode cX2_put 58 = .ok (.bipush (-5), 2) := by decide +kernel
theorem dX2_put_60 : decode cX2_put 60 = .ok (.invokevirtual 53, 3) := by decide +kernel
theorem dX2_put_63 : decode cX2_put 63 = .ok (.ireturn, 1) := by decide +kernel
theorem dX2_put_64 : decode cX2_put 64 = .ok (.aload_n 0, 1) := by decide +kernel
theorem dX2_put_65 : decode cX2_put 65 = .ok (.iload_n 1, 1) := by decide +kernel
theorem dX2_put_66 : decode cX2_put 66 = .ok (.iload_n 2, 1) := by decide +kernel
theorem dX2_put_67 : decode cX2_put 67 = .ok (.invokevirtual 61, 3) := by decide +kernel
theorem dX2_put_70 : decode cX2_put 70 = .ok (.aload_n 0, 1) := by decide +kernel
theorem dX2_put_71 : decode cX2_put 71 = .ok (.iload_n 1, 1) := by decide +kernel
theorem dX2_put_72 : decode cX2_put 72 = .ok (.iconst 1, 1) := by decide +kernel
theorem dX2_put_73 : decode cX2_put 73 = .ok (.aload_n 0, 1) := by decide +kernel
theorem dX2_put_74 : decode cX2_put 74 = .ok (.getfield 26, 3) := by decide +kernel
theorem dX2_put_77 : decode cX2_put 77 = .ok (.iload_n 1, 1) := by decide +kernel
theorem dX2_put_78 : decode cX2_put 78 = .ok (.iaload, 1) := by decide +kernel
theorem dX2_put_79 : decode cX2_put 79 = .ok (.invokevirtual 53, 3) := by decide +kernel
theorem dX2_put_82 : decode cX2_put 82 = .ok (.ireturn, 1) := by decide +kernel
set_option maxRecDepth 20000 in
theorem ggX2_take_X2_isHook : GoodIn wsX2_take wsX2_isHook := goodIn_r _ [7] (by decide +kernel) (by decide +kernel)
set_option maxRecDepth 20000 in
theorem gX2_take_X2_isHook : GoodIn wsX2_take (va_wsS RX2 42 yX2_isHook wsX2_isHook) := goodIn_app (goodIn_of _ (by decide +kernel)) ggX2_take_X2_isHook
set_option maxRecDepth 20000 in
theorem ggX2_take_X2_let : GoodIn wsX2_take wsX2_let := goodIn_r _ [11, 12, 13, 19, 20, 21, 22, 23, 24, 25, 26, 27, 28] (by decide +kernel) (by decide +kernel)
set_option maxRecDepth 20000 in
theorem gX2_take_X2_let : GoodIn wsX2_take (wsV RX2 53 RX2 yX2_let wsX2_let) := goodIn_app (goodIn_of _ (by decide +kernel)) ggX2_take_X2_let
set_option maxRecDepth 20000 in
theorem ggX2_take_X2_takeLast : GoodIn wsX2_take wsX2_takeLast := goodIn_r _ [17, 3, 18, 19, 20, 21, 22, 23, 24, 25, 26, 27, 28] (by decide +kernel) (by decide +kernel)
set_option maxRecDepth 20000 in
theorem gX2_take_X2_takeLast : GoodIn wsX2_take (wsV RX2 65 RX2 yX2_takeLast wsX2_takeLast) := goodIn_app (goodIn_of _ (by decide +kernel)) ggX2_take_X2_takeLast
theorem dX2_take_0 : decode cX2_take 0 = .ok (.iload_n 1, 1) := by decide +kernel
theorem dX2_take_1 : decode cX2_take 1 = .ok (.invokestatic 42, 3) := by decide +kernel
theorem dX2_take_4 : decode cX2_take 4 = .ok (.ifCond .ne 5, 3) := by decide +kernel
theorem dX2_take_7 : decode cX2_take 7 = .ok (.iconst (-1), 1) := by decide +kernel
theorem dX2_take_8 : decode cX2_take 8 = .ok (.ireturn, 1) := by decide +kernel
theorem dX2_take_9 : decode cX2_take 9 = .ok (.aload_n 0, 1) := by decide +kernel
theorem dX2_take_10 : decode cX2_take 10 = .ok (.getfield 7, 3) := by decide +kernel
theorem dX2_take_13 : decode cX2_take 13 = .ok (.iload_n 1, 1) := by decide +kernel
theorem dX2_take_14 : decode cX2_take 14 = .ok (.baload, 1) := by decide +kernel
theorem dX2_take_15 : decode cX2_take 15 = .ok (.ifCond .ne 6, 3) := by decide +kernel
theorem dX2_take_18 : decode cX2_take 18 = .ok (.bipush (-2), 2) := by decide +kernel
theorem dX2_take_20 : decode cX2_take 20 = .ok (.ireturn, 1) := by decide +kernel
theorem dX2_take_21 : decode cX2_take 21 = .ok (.aload_n 0, 1) := by decide +kernel
theorem dX2_take_22 : decode cX2_take 22 = .ok (.getfield 20, 3) := by decide +kernel
theorem dX2_take_25 : decode cX2_take 25 = .ok (.iload_n 1, 1) := by decide +kernel
theorem dX2_take_26 : decode cX2_take 26 = .ok (.baload, 1) := by decide +kernel
theorem dX2_take_27 : decode cX2_take 27 = .ok (.ifCond .ne 12, 3) := by decide +kernel
theorem dX2_take_30 : decode cX2_take 30 = .ok (.aload_n 0, 1) := by decide +kernel
theorem dX2_take_31 : decode cX2_take 31 = .ok (.iload_n 1, 1) := by decide +kernel
theorem dX2_take_32 : decode cX2_take 32 = .ok (.iconst 2, 1) := by decide +kernel
theorem dX2_take_33 : decode cX2_take 33 = .ok (.bipush (-3), 2) := by decide +kernel
theorem dX2_take_35 : decode cX2_take 35 = .ok (.invokevirtual 53, 3) := by decide +kernel
theorem dX2_take_38 : decode cX2_take 38 = .ok (.ireturn, 1) := by decide +kernel
theorem dX2_take_39 : decode cX2_take 39 = .ok (.aload_n 0, 1) := by decide +kernel
theorem dX2_take_40 : decode cX2_take 40 = .ok (.getfield 26, 3) := by decide +kernel
theorem dX2_take_43 : decode cX2_take 43 = .ok (.iload_n 1, 1) := by decide +kernel
theorem dX2_take_44 : decode cX2_take 44 = .ok (.iaload, 1) := by decide +kernel
theorem dX2_take_45 : decode cX2_take 45 = .ok (.ifCond .ne 12, 3) := by decide +kernel
theorem dX2_take_48 : decode cX2_take 48 = .ok (.aload_n 0, 1) := by decide +kernel
theorem dX2_take_49 : decode cX2_take 49 = .ok (.iload_n 1, 1) := by decide +kernel
theorem dX2_take_50 : decode cX2_take 50 = .ok (.iconst 4, 1) := by decide +kernel
theorem dX2_take_51 : decode cX2_take 51 = .ok (.bipush (-6), 2) := by decide +kernel
theorem dX2_take_53 : decode cX2_take 53 = .ok (.invokevirtual 53, 3) := by decide +kernel
theorem dX2_take_56 : decode cX2_take 56 = .ok (.ireturn, 1) := by decide +kernel
theorem dX2_take_57 : decode cX2_take 57 = .ok (.aload_n 0, 1) := by decide +kernel
theorem dX2_take_58 : decode cX2_take 58 = .ok (.iload_n 1, 1) := by decide +kernel
theorem dX2_take_59 : decode cX2_take 59 = .ok (.iconst 1, 1) := by decide +kernel
theorem dX2_take_60 : decode cX2_take 60 = .ok (.aload_n 0, 1) := by decide +kernel
theorem dX2_take_61 : decode cX2_take 61 = .ok (.iload_n 1, 1) := by decide +kernel
theorem dX2_take_62 : decode cX2_take 62 = .ok (.invokevirtual 65, 3) := by decide +kernel
theorem dX2_take_65 : decode cX2_take 65 = .ok (.invokevirtual 53, 3) := by decide +kernel
theorem dX2_take_68 : decode cX2_take 68 = .ok (.ireturn, 1) := by decide +kernel
set_option maxRecDepth 20000 in
theorem ggX2_move_X2_isHook : GoodIn wsX2_move wsX2_isHook := goodIn_r _ [7] (by decide +kernel) (by decide +kernel)
set_option maxRecDepth 20000 in
theorem gX2_move_X2_isHook : GoodIn wsX2_move (va_wsS RX2 42 yX2_isHook wsX2_isHook) := goodIn_app (goodIn_of _ (by decide +kernel)) ggX2_move_X2_isHook
set_option maxRecDepth 20000 in
theorem ggX2_move_X2_let : GoodIn wsX2_move wsX2_let := goodIn_r _ [11, 12, 13, 36, 37, 38, 39, 40, 41, 42, 43, 44, 45] (by decide +kernel) (by decide +kernel)
set_option maxRecDepth 20000 in
theorem gX2_move_X2_let : GoodIn wsX2_move (wsV RX2 53 RX2 yX2_let wsX2_let) := goodIn_app (goodIn_of _ (by decide +kernel)) ggX2_move_X2_let
set_option maxRecDepth 20000 in
theorem ggX2_move_X2_letBoth : GoodIn wsX2_move wsX2_letBoth := goodIn_r _ [17, 12, 13, 36, 37, 38, 39, 40, 41, 42, 43, 44, 45] (by decide +kernel) (by decide +kernel)
set_option maxRecDepth 20000 in
theorem gX2_move_X2_letBoth : GoodIn wsX2_move (wsV RX2 68 RX2 yX2_letBoth wsX2_letBoth) := goodIn_app (goodIn_of _ (by decide +kernel)) ggX2_move_X2_letBoth
set_option maxRecDepth 20000 in
theorem ggX2_move_X2_takeLast : GoodIn wsX2_move wsX2_takeLast := goodIn_r _ [21, 3, 22, 36, 37, 38, 39, 40, 41, 42, 43, 44, 45] (by decide +kernel) (by decide +kernel)
set_option maxRecDepth 20000 in
theorem gX2_move_X2_takeLast : GoodIn wsX2_move (wsV RX2 65 RX2 yX2_takeLast wsX2_takeLast) := goodIn_app (goodIn_of _ (by decide +kernel)) ggX2_move_X2_takeLast
set_option maxRecDepth 20000 in
theorem ggX2_move_X2_hasRoom : GoodIn wsX2_move wsX2_hasRoom := goodIn_r _ [26, 3, 27, 28, 29, 30, 6, 31, 22, 36, 37, 38, 39, 40, 41, 42, 43, 44, 45] (by decide +kernel) (by decide +kernel)
set_option maxRecDepth 20000 in
theorem gX2_move_X2_hasRoom : GoodIn wsX2_move (wsV RX2 57 RX2 yX2_hasRoom wsX2_hasRoom) := goodIn_app (goodIn_of _ (by decide +kernel)) ggX2_move_X2_hasRoom
set_option maxRecDepth 20000 in
theorem ggX2_move_X2_add : GoodIn wsX2_move wsX2_add := goodIn_r _ [35, 22, 3, 36, 37, 38, 39, 40, 41, 42, 43, 44, 45] (by decide +kernel) (by decide +kernel)
set_option maxRecDepth 20000 in
theorem gX2_move_X2_add : GoodIn wsX2_move (wsV RX2 61 RX2 yX2_add wsX2_add) := goodIn_app (goodIn_of _ (by decide +kernel)) ggX2_move_X2_add
theorem dX2_move_0 : decode cX2_move 0 = .ok (.iload_n 1, 1) := by decide +kernel
theorem dX2_move_1 : decode cX2_move 1 = .ok (.invokestatic 42, 3) := by decide +kernel
theorem dX2_move_4 : decode cX2_move 4 = .ok (.ifCond .eq 10, 3) := by decide +kernel
theorem dX2_move_7 : decode cX2_move 7 = .ok (.iload_n 2, 1) := by decide +kernel
theorem dX2_move_8 : decode cX2_move 8 = .ok (.invokestatic 42, 3) := by decide +kernel
theorem dX2_move_11 : decode cX2_move 11 = .ok (.ifCond .ne 5, 3) := by decide +kernel
theorem dX2_move_14 : decode cX2_move 14 = .ok (.iconst (-1), 1) := by decide +kernel
theorem dX2_move_15 : decode cX2_move 15 = .ok (.ireturn, 1) := by decide +kernel
theorem dX2_move_16 : decode cX2_move 16 = .ok (.aload_n 0, 1) := by decide +kernel
theorem dX2_move_17 : decode cX2_move 17 = .ok (.getfield 7, 3) := by decide +kernel
theorem dX2_move_20 : decode cX2_move 20 = .ok (.iload_n 1, 1) := by decide +kernel
theorem dX2_move_21 : decode cX2_move 21 = .ok (.baload, 1) := by decide +kernel
theorem dX2_move_22 : decode cX2_move 22 = .ok (.ifCond .ne 6, 3) := by decide +kernel
theorem dX2_move_25 : decode cX2_move 25 = .ok (.bipush (-2), 2) := by decide +kernel
theorem dX2_move_27 : decode cX2_move 27 = .ok (.ireturn, 1) := by decide +kernel
theorem dX2_move_28 : decode cX2_move 28 = .ok (.aload_n 0, 1) := by decide +kernel
theorem dX2_move_29 : decode cX2_move 29 = .ok (.getfield 7, 3) := by decide +kernel
theorem dX2_move_32 : decode cX2_move 32 = .ok (.iload_n 2, 1) := by decide +kernel
theorem dX2_move_33 : decode cX2_move 33 = .ok (.baload, 1) := by decide +kernel
theorem dX2_move_34 : decode cX2_move 34 = .ok (.ifCond .ne 12, 3) := by decide +kernel
theorem dX2_move_37 : decode cX2_move 37 = .ok (.aload_n 0, 1) := by decide +kernel
theorem dX2_move_38 : decode cX2_move 38 = .ok (.iload_n 1, 1) := by decide +kernel
theorem dX2_move_39 : decode cX2_move 39 = .ok (.iconst 4, 1) := by decide +kernel
theorem dX2_move_40 : decode cX2_move 40 = .ok (.bipush (-2), 2) := by decide +kernel
theorem dX2_move_42 : decode cX2_move 42 = .ok (.invokevirtual 53, 3) := by decide +kernel
theorem dX2_move_45 : decode cX2_move 45 = .ok (.ireturn, 1) := by decide +kernel
theorem dX2_move_46 : decode cX2_move 46 = .ok (.aload_n 0, 1) := by decide +kernel
theorem dX2_move_47 : decode cX2_move 47 = .ok (.getfield 20, 3) := by decide +kernel
theorem dX2_move_50 : decode cX2_move 50 = .ok (.iload_n 1, 1) := by decide +kernel
theorem dX2_move_51 : decode cX2_move 51 = .ok (.baload, 1) := by decide +kernel
theorem dX2_move_52 : decode cX2_move 52 = .ok (.ifCond .eq 12, 3) := by decide +kernel
theorem dX2_move_55 : decode cX2_move 55 = .ok (.aload_n 0, 1) := by decide +kernel
theorem dX2_move_56 : decode cX2_move 56 = .ok (.getfield 20, 3) := by decide +kernel
theorem dX2_move_59 : decode cX2_move 59 = .ok (.iload_n 2, 1) := by decide +kernel
theorem dX2_move_60 : decode cX2_move 60 = .ok (.baload, 1) := by decide +kernel
theorem dX2_move_61 : decode cX2_move 61 = .ok (.ifCond .ne 13, 3) := by decide +kernel
theorem dX2_move_64 : decode cX2_move 64 = .ok (.aload_n 0, 1) := by decide +kernel
theorem dX2_move_65 : decode cX2_move 65 = .ok (.iload_n 1, 1) := by decide +kernel
theorem dX2_move_66 : decode cX2_move 66 = .ok (.iload_n 2, 1) := by decide +kernel
theorem dX2_move_67 : decode cX2_move 67 = .ok (.iconst 2, 1) := by decide +kernel
theorem dX2_move_68 : decode cX2_move 68 = .ok (.bipush (-3), 2) := by decide +kernel
theorem dX2_move_70 : decode cX2_move 70 = .ok (.invokevirtual 68, 3) := by decide +kernel
theorem dX2_move_73 : decode cX2_move 73 = .ok (.ireturn, 1) := by decide +kernel
theorem dX2_move_74 : decode cX2_move 74 = .ok (.aload_n 0, 1) := by decide +kernel
theorem dX2_move_75 : decode cX2_move 75 = .ok (.getfield 26, 3) := by decide +kernel
theorem dX2_move_78 : decode cX2_move 78 = .ok (.iload_n 1, 1) := by decide +kernel
theorem dX2_move_79 : decode cX2_move 79 = .ok (.iaload, 1) := by decide +kernel
theorem dX2_move_80 : decode cX2_move 80 = .ok (.ifCond .ne 13, 3) := by decide +kernel
theorem dX2_move_83 : decode cX2_move 83 = .ok (.aload_n 0, 1) := by decide +kernel
theorem dX2_move_84 : decode cX2_move 84 = .ok (.iload_n 1, 1) := by decide +kernel
theorem dX2_move_85 : decode cX2_move 85 = .ok (.iload_n 2, 1) := by decide +kernel
theorem dX2_move_86 : decode cX2_move 86 = .ok (.iconst 4, 1) := by decide +kernel
theorem dX2_move_87 : decode cX2_move 87 = .ok (.bipush (-6), 2) := by decide +kernel
theorem dX2_move_89 : decode cX2_move 89 = .ok (.invokevirtual 68, 3) := by decide +kernel
theorem dX2_move_92 : decode cX2_move 92 = .ok (.ireturn, 1) := by decide +kernel
theorem dX2_move_93 : decode cX2_move 93 = .ok (.aload_n 0, 1) := by decide +kernel
theorem dX2_move_94 : decode cX2_move 94 = .ok (.iload_n 1, 1) := by decide +kernel
theorem dX2_move_95 : decode cX2_move 95 = .ok (.invokevirtual 65, 3) := by decide +kernel
theorem dX2_move_98 : decode cX2_move 98 = .ok (.istore_n 3, 1) := by decide +kernel
theorem dX2_move_99 : decode cX2_move 99 = .ok (.aload_n 0, 1) := by decide +kernel
theorem dX2_move_100 : decode cX2_move 100 = .ok (.iload_n 2, 1) := by decide +kernel
theorem dX2_move_101 : decode cX2_move 101 = .ok (.iload_n 3, 1) := by decide +kernel
theorem dX2_move_102 : decode cX2_move 102 = .ok (.invokevirtual 57, 3) := by decide +kernel
theorem dX2_move_105 : decode cX2_move 105 = .ok (.ifCond .ne 19, 3) := by decide +kernel
theorem dX2_move_108 : decode cX2_move 108 = .ok (.aload_n 0, 1) := by decide +kernel
theorem dX2_move_109 : decode cX2_move 109 = .ok (.iload_n 1, 1) := by decide +kernel
theorem dX2_move_110 : decode cX2_move 110 = .ok (.iload_n 3, 1) := by decide +kernel
theorem dX2_move_111 : decode cX2_move 111 = .ok (.invokevirtual 61, 3) := by decide +kernel
theorem dX2_move_114 : decode cX2_move 114 = .ok (.aload_n 0, 1) := by decide +kernel
theorem dX2_move_115 : decode cX2_move 115 = .ok (.iload_n 1, 1) := by decide +kernel
theorem dX2_move_116 : decode cX2_move 116 = .ok (.iload_n 2, 1) := by decide +kernel
theorem dX2_move_117 : decode cX2_move 117 = .ok (.iconst 4, 1) := by decide +kernel
theorem dX2_move_118 : decode cX2_move 118 = .ok (.bipush (-5), 2) := by decide +kernel
theorem dX2_move_120 : decode cX2_move 120 = .ok (.invokevirtual 68, 3) := by decide +kernel
theorem dX2_move_123 : decode cX2_move 123 = .ok (.ireturn, 1) := by decide +kernel
theorem dX2_move_124 : decode cX2_move 124 = .ok (.aload_n 0, 1) := by decide +kernel
theorem dX2_move_125 : decode cX2_move 125 = .ok (.iload_n 2, 1) := by decide +kernel
theorem dX2_move_126 : decode cX2_move 126 = .ok (.iload_n 3, 1) := by decide +kernel
theorem dX2_move_127 : decode cX2_move 127 = .ok (.invokevirtual 61, 3) := by decide +kernel
theorem dX2_move_130 : decode cX2_move 130 = .ok (.aload_n 0, 1) := by decide +kernel
theorem dX2_move_131 : decode cX2_move 131 = .ok (.iload_n 1, 1) := by decide +kernel
theorem dX2_move_132 : decode cX2_move 132 = .ok (.iload_n 2, 1) := by decide +kernel
theorem dX2_move_133 : decode cX2_move 133 = .ok (.iconst 1, 1) := by decide +kernel
theorem dX2_move_134 : decode cX2_move 134 = .ok (.iload_n 3, 1) := by decide +kernel
theorem dX2_move_135 : decode cX2_move 135 = .ok (.invokevirtual 68, 3) := by decide +kernel
theorem dX2_move_138 : decode cX2_move 138 = .ok (.ireturn, 1) := by decide +kernel
set_option maxRecDepth 20000 in
theorem ggX2_swap_X2_isHook : GoodIn wsX2_swap wsX2_isHook := goodIn_r _ [9] (by decide +kernel) (by decide +kernel)
set_option maxRecDepth 20000 in
theorem gX2_swap_X2_isHook : GoodIn wsX2_swap (va_wsS RX2 42 yX2_isHook wsX2_isHook) := goodIn_app (goodIn_of _ (by decide +kernel)) ggX2_swap_X2_isHook
set_option maxRecDepth 20000 in
theorem ggX2_swap_X2_let : GoodIn wsX2_swap wsX2_let := goodIn_r _ [13, 14, 15, 24, 25, 26, 27, 28, 29, 30, 31, 32, 33] (by decide +kernel) (by decide +kernel)
set_option maxRecDepth 20000 in
theorem gX2_swap_X2_let : GoodIn wsX2_swap (wsV RX2 53 RX2 yX2_let wsX2_let) := goodIn_app (goodIn_of _ (by decide +kernel)) ggX2_swap_X2_let
set_option maxRecDepth 20000 in
theorem ggX2_swap_X2_letBoth : GoodIn wsX2_swap wsX2_letBoth := goodIn_r _ [19, 14, 15, 24, 25, 26, 27, 28, 29, 30, 31, 32, 33] (by decide +kernel) (by decide +kernel)
set_option maxRecDepth 20000 in
theorem gX2_swap_X2_letBoth : GoodIn wsX2_swap (wsV RX2 68 RX2 yX2_letBoth wsX2_letBoth) := goodIn_app (goodIn_of _ (by decide +kernel)) ggX2_swap_X2_letBoth
set_option maxRecDepth 20000 in
theorem ggX2_swap_X2_weight : GoodIn wsX2_swap wsX2_weight := goodIn_r _ [23, 5, 4, 24, 25, 26, 27, 28, 29, 30, 31, 32, 33] (by decide +kernel) (by decide +kernel)
set_option maxRecDepth 20000 in
theorem gX2_swap_X2_weight : GoodIn wsX2_swap (wsV RX2 38 RX2 yX2_weight wsX2_weight) := goodIn_app (goodIn_of _ (by decide +kernel)) ggX2_swap_X2_weight
theorem dX2_swap_0 : decode cX2_swap 0 = .ok (.iload_n 1, 1) := by decide +kernel
theorem dX2_swap_1 : decode cX2_swap 1 = .ok (.invokestatic 42, 3) := by decide +kernel
theorem dX2_swap_4 : decode cX2_swap 4 = .ok (.ifCond .eq 10, 3) := by decide +kernel
theorem dX2_swap_7 : decode cX2_swap 7 = .ok (.iload_n 2, 1) := by decide +kernel
theorem dX2_swap_8 : decode cX2_swap 8 = .ok (.invokestatic 42, 3) := by decide +kernel
theorem dX2_swap_11 : decode cX2_swap 11 = .ok (.ifCond .ne 5, 3) := by decide +kernel
theorem dX2_swap_14 : decode cX2_swap 14 = .ok (.iconst (-1), 1) := by decide +kernel
theorem dX2_swap_15 : decode cX2_swap 15 = .ok (.ireturn, 1) := by decide +kernel
theorem dX2_swap_16 : decode cX2_swap 16 = .ok (.aload_n 0, 1) := by decide +kernel
theorem dX2_swap_17 : decode cX2_swap 17 = .ok (.getfield 7, 3) := by decide +kernel
theorem dX2_swap_20 : decode cX2_swap 20 = .ok (.iload_n 1, 1) := by decide +kernel
theorem dX2_swap_21 : decode cX2_swap 21 = .ok (.baload, 1) := by decide +kernel
theorem dX2_swap_22 : decode cX2_swap 22 = .ok (.ifCond .ne 6, 3) := by decide +kernel
theorem dX2_swap_25 : decode cX2_swap 25 = .ok (.bipush (-2), 2) := by decide +kernel
theorem dX2_swap_27 : decode cX2_swap 27 = .ok (.ireturn, 1) := by decide +kernel
theorem dX2_swap_28 : decode cX2_swap 28 = .ok (.aload_n 0, 1) := by decide +kernel
theorem dX2_swap_29 : decode cX2_swap 29 = .ok (.getfield 7, 3) := by decide +kernel
theorem dX2_swap_32 : decode cX2_swap 32 = .ok (.iload_n 2, 1) := by decide +kernel
theorem dX2_swap_33 : decode cX2_swap 33 = .ok (.baload, 1) := by decide +kernel
theorem dX2_swap_34 : decode cX2_swap 34 = .ok (.ifCond .ne 12, 3) := by decide +kernel
theorem dX2_swap_37 : decode cX2_swap 37 = .ok (.aload_n 0, 1) := by decide +kernel
theorem dX2_swap_38 : decode cX2_swap 38 = .ok (.iload_n 1, 1) := by decide +kernel
theorem dX2_swap_39 : decode cX2_swap 39 = .ok (.iconst 4, 1) := by decide +kernel
theorem dX2_swap_40 : decode cX2_swap 40 = .ok (.bipush (-2), 2) := by decide +kernel
theorem dX2_swap_42 : decode cX2_swap 42 = .ok (.invokevirtual 53, 3) := by decide +kernel
theorem dX2_swap_45 : decode cX2_swap 45 = .ok (.ireturn, 1) := by decide +kernel
theorem dX2_swap_46 : decode cX2_swap 46 = .ok (.aload_n 0, 1) := by decide +kernel
theorem dX2_swap_47 : decode cX2_swap 47 = .ok (.getfield 20, 3) := by decide +kernel
theorem dX2_swap_50 : decode cX2_swap 50 = .ok (.iload_n 1, 1) := by decide +kernel
theorem dX2_swap_51 : decode cX2_swap 51 = .ok (.baload, 1) := by decide +kernel
theorem dX2_swap_52 : decode cX2_swap 52 = .ok (.ifCond .eq 12, 3) := by decide +kernel
theorem dX2_swap_55 : decode cX2_swap 55 = .ok (.aload_n 0, 1) := by decide +kernel
theorem dX2_swap_56 : decode cX2_swap 56 = .ok (.getfield 20, 3) := by decide +kernel
theorem dX2_swap_59 : decode cX2_swap 59 = .ok (.iload_n 2, 1) := by decide +kernel
theorem dX2_swap_60 : decode cX2_swap 60 = .ok (.baload, 1) := by decide +kernel
theorem dX2_swap_61 : decode cX2_swap 61 = .ok (.ifCond .ne 13, 3) := by decide +kernel
theorem dX2_swap_64 : decode cX2_swap 64 = .ok (.aload_n 0, 1) := by decide +kernel
theorem dX2_swap_65 : decode cX2_swap 65 = .ok (.iload_n 1, 1) := by decide +kernel
theorem dX2_swap_66 : decode cX2_swap 66 = .ok (.iload_n 2, 1) := by decide +kernel
theorem dX2_swap_67 : decode cX2_swap 67 = .ok (.iconst 2, 1) := by decide +kernel
theorem dX2_swap_68 : decode cX2_swap 68 = .ok (.bipush (-3), 2) := by decide +kernel
theorem dX2_swap_70 : decode cX2_swap 70 = .ok (.invokevirtual 68, 3) := by decide +kernel
theorem dX2_swap_73 : decode cX2_swap 73 = .ok (.ireturn, 1) := by decide +kernel
theorem dX2_swap_74 : decode cX2_swap 74 = .ok (.aload_n 0, 1) := by decide +kernel
theorem dX2_swap_75 : decode cX2_swap 75 = .ok (.iload_n 1, 1) := by decide +kernel
theorem dX2_swap_76 : decode cX2_swap 76 = .ok (.invokevirtual 38, 3) := by decide +kernel
theorem dX2_swap_79 : decode cX2_swap 79 = .ok (.aload_n 0, 1) := by decide +kernel
theorem dX2_swap_80 : decode cX2_swap 80 = .ok (.getfield 13, 3) := by decide +kernel
theorem dX2_swap_83 : decode cX2_swap 83 = .ok (.iload_n 2, 1) := by decide +kernel
theorem dX2_swap_84 : decode cX2_swap 84 = .ok (.iaload, 1) := by decide +kernel
theorem dX2_swap_85 : decode cX2_swap 85 = .ok (.if_icmp .gt 17, 3) := by decide +kernel
theorem dX2_swap_88 : decode cX2_swap 88 = .ok (.aload_n 0, 1) := by decide +kernel
theorem dX2_swap_89 : decode cX2_swap 89 = .ok (.iload_n 2, 1) := by decide +kernel
theorem dX2_swap_90 : decode cX2_swap 90 = .ok (.invokevirtual 38, 3) := by decide +kernel
theorem dX2_swap_93 : decode cX2_swap 93 = .ok (.aload_n 0, 1) := by decide +kernel
theorem dX2_swap_94 : decode cX2_swap 94 = .ok (.getfield 13, 3) := by decide +kernel
theorem dX2_swap_97 : decode cX2_swap 97 = .ok (.iload_n 1, 1) := by decide +kernel
theorem dX2_swap_98 : decode cX2_swap 98 = .ok (.iaload, 1) := by decide +kernel
theorem dX2_swap_99 : decode cX2_swap 99 = .ok (.if_icmp .le 13, 3) := by decide +kernel
theorem dX2_swap_102 : decode cX2_swap 102 = .ok (.aload_n 0, 1) := by decide +kernel
theorem dX2_swap_103 : decode cX2_swap 103 = .ok (.iload_n 1, 1) := by decide +kernel
theorem dX2_swap_104 : decode cX2_swap 104 = .ok (.iload_n 2, 1) := by decide +kernel
theorem dX2_swap_105 : decode cX2_swap 105 = .ok (.iconst 4, 1) := by decide +kernel
theorem dX2_swap_106 : decode cX2_swap 106 = .ok (.bipush (-5), 2) := by decide +kernel
theorem dX2_swap_108 : decode cX2_swap 108 = .ok (.invokevirtual 68, 3) := by decide +kernel
theorem dX2_swap_111 : decode cX2_swap 111 = .ok (.ireturn, 1) := by decide +kernel
theorem dX2_swap_112 : decode cX2_swap 112 = .ok (.iconst 0, 1) := by decide +kernel
theorem dX2_swap_113 : decode cX2_swap 113 = .ok (.istore_n 3, 1) := by decide +kernel
theorem dX2_swap_114 : decode cX2_swap 114 = .ok (.iload_n 3, 1) := by decide +kernel
theorem dX2_swap_115 : decode cX2_swap 115 = .ok (.bipush 10, 2) := by decide +kernel
theorem dX2_swap_117 : decode cX2_swap 117 = .ok (.if_icmp .ge 57, 3) := by decide +kernel
theorem dX2_swap_120 : decode cX2_swap 120 = .ok (.aload_n 0, 1) := by decide +kernel
theorem dX2_swap_121 : decode cX2_swap 121 = .ok (.getfield 35, 3) := by decide +kernel
theorem dX2_swap_124 : decode cX2_swap 124 = .ok (.bipush 10, 2) := by decide +kernel
theorem dX2_swap_126 : decode cX2_swap 126 = .ok (.iload_n 1, 1) := by decide +kernel
theorem dX2_swap_127 : decode cX2_swap 127 = .ok (.imul, 1) := by decide +kernel
theorem dX2_swap_128 : decode cX2_swap 128 = .ok (.iload_n 3, 1) := by decide +kernel
theorem dX2_swap_129 : decode cX2_swap 129 = .ok (.iadd, 1) := by decide +kernel
theorem dX2_swap_130 : decode cX2_swap 130 = .ok (.iaload, 1) := by decide +kernel
theorem dX2_swap_131 : decode cX2_swap 131 = .ok (.istore 4, 2) := by decide +kernel
theorem dX2_swap_133 : decode cX2_swap 133 = .ok (.aload_n 0, 1) := by decide +kernel
theorem dX2_swap_134 : decode cX2_swap 134 = .ok (.getfield 35, 3) := by decide +kernel
theorem dX2_swap_137 : decode cX2_swap 137 = .ok (.bipush 10, 2) := by decide +kernel
theorem dX2_swap_139 : decode cX2_swap 139 = .ok (.iload_n 1, 1) := by decide +kernel
theorem dX2_swap_140 : decode cX2_swap 140 = .ok (.imul, 1) := by decide +kernel
theorem dX2_swap_141 : decode cX2_swap 141 = .ok (.iload_n 3, 1) := by decide +kernel
theorem dX2_swap_142 : decode cX2_swap 142 = .ok (.iadd, 1) := by decide +kernel
theorem dX2_swap_143 : decode cX2_swap 143 = .ok (.aload_n 0, 1) := by decide +kernel
theorem dX2_swap_144 : decode cX2_swap 144 = .ok (.getfield 35, 3) := by decide +kernel
theorem dX2_swap_147 : decode cX2_swap 147 = .ok (.bipush 10, 2) := by decide +kernel
theorem dX2_swap_149 : decode cX2_swap 149 = .ok (.iload_n 2, 1) := by decide +kernel
theorem dX2_swap_150 : decode cX2_swap 150 = .ok (.imul, 1) := by decide +kernel
theorem dX2_swap_151 : decode cX2_swap 151 = .ok (.iload_n 3, 1) := by decide +kernel
theorem dX2_swap_152 : decode cX2_swap 152 = .ok (.iadd, 1) := by decide +kernel
theorem dX2_swap_153 : decode cX2_swap 153 = .ok (.iaload, 1) := by decide +kernel
theorem dX2_swap_154 : decode cX2_swap 154 = .ok (.iastore, 1) := by decide +kernel
theorem dX2_swap_155 : decode cX2_swap 155 = .ok (.aload_n 0, 1) := by decide +kernel
theorem dX2_swap_156 : decode cX2_swap 156 = .ok (.getfield 35, 3) := by decide +kernel
theorem dX2_swap_159 : decode cX2_swap 159 = .ok (.bipush 10, 2) := by decide +kernel
theorem dX2_swap_161 : decode cX2_swap 161 = .ok (.iload_n 2, 1) := by decide +kernel
theorem dX2_swap_162 : decode cX2_swap 162 = .ok (.imul, 1) := by decide +kernel
theorem dX2_swap_163 : decode cX2_swap 163 = .ok (.iload_n 3, 1) := by decide +kernel
theorem dX2_swap_164 : decode cX2_swap 164 = .ok (.iadd, 1) := by decide +kernel
theorem dX2_swap_165 : decode cX2_swap 165 = .ok (.iload 4, 2) := by decide +kernel
theorem dX2_swap_167 : decode cX2_swap 167 = .ok (.iastore, 1) := by decide +kernel
theorem dX2_swap_168 : decode cX2_swap 168 = .ok (.iinc 3 1, 3) := by decide +kernel
theorem dX2_swap_171 : decode cX2_swap 171 = .ok (.goto (-57), 3) := by decide +kernel
theorem dX2_swap_174 : decode cX2_swap 174 = .ok (.aload_n 0, 1) := by decide +kernel
theorem dX2_swap_175 : decode cX2_swap 175 = .ok (.getfield 26, 3) := by decide +kernel
theorem dX2_swap_178 : decode cX2_swap 178 = .ok (.iload_n 1, 1) := by decide +kernel
theorem dX2_swap_179 : decode cX2_swap 179 = .ok (.iaload, 1) := by decide +kernel
theorem dX2_swap_180 : decode cX2_swap 180 = .ok (.istore_n 3, 1) := by decide +kernel
theorem dX2_swap_181 : decode cX2_swap 181 = .ok (.aload_n 0, 1) := by decide +kernel
theorem dX2_swap_182 : decode cX2_swap 182 = .ok (.getfield 26, 3) := by decide +kernel
theorem dX2_swap_185 : decode cX2_swap 185 = .ok (.iload_n 1, 1) := by decide +kernel
theorem dX2_swap_186 : decode cX2_swap 186 = .ok (.aload_n 0, 1) := by decide +kernel
theorem dX2_swap_187 : decode cX2_swap 187 = .ok (.getfield 26, 3) := by decide +kernel
theorem dX2_swap_190 : decode cX2_swap 190 = .ok (.iload_n 2, 1) := by decide +kernel
theorem dX2_swap_191 : decode cX2_swap 191 = .ok (.iaload, 1) := by decide +kernel
theorem dX2_swap_192 : decode cX2_swap 192 = .ok (.iastore, 1) := by decide +kernel
theorem dX2_swap_193 : decode cX2_swap 193 = .ok (.aload_n 0, 1) := by decide +kernel
theorem dX2_swap_194 : decode cX2_swap 194 = .ok (.getfield 26, 3) := by decide +kernel
theorem dX2_swap_197 : decode cX2_swap 197 = .ok (.iload_n 2, 1) := by decide +kernel
theorem dX2_swap_198 : decode cX2_swap 198 = .ok (.iload_n 3, 1) := by decide +kernel
theorem dX2_swap_199 : decode cX2_swap 199 = .ok (.iastore, 1) := by decide +kernel
theorem dX2_swap_200 : decode cX2_swap 200 = .ok (.aload_n 0, 1) := by decide +kernel
theorem dX2_swap_201 : decode cX2_swap 201 = .ok (.iload_n 1, 1) := by decide +kernel
theorem dX2_swap_202 : decode cX2_swap 202 = .ok (.iload_n 2, 1) := by decide +kernel
theorem dX2_swap_203 : decode cX2_swap 203 = .ok (.iconst 1, 1) := by decide +kernel
theorem dX2_swap_204 : decode cX2_swap 204 = .ok (.aload_n 0, 1) := by decide +kernel
theorem dX2_swap_205 : decode cX2_swap 205 = .ok (.getfield 26, 3) := by decide +kernel
theorem dX2_swap_208 : decode cX2_swap 208 = .ok (.iload_n 1, 1) := by decide +kernel
theorem dX2_swap_209 : decode cX2_swap 209 = .ok (.iaload, 1) := by decide +kernel
theorem dX2_swap_210 : decode cX2_swap 210 = .ok (.aload_n 0, 1) := by decide +kernel
theorem dX2_swap_211 : decode cX2_swap 211 = .ok (.getfield 26, 3) := by decide +kernel
theorem dX2_swap_214 : decode cX2_swap 214 = .ok (.iload_n 2, 1) := by decide +kernel
theorem dX2_swap_215 : decode cX2_swap 215 = .ok (.iaload, 1) := by decide +kernel
theorem dX2_swap_216 : decode cX2_swap 216 = .ok (.iadd, 1) := by decide +kernel
theorem dX2_swap_217 : decode cX2_swap 217 = .ok (.invokevirtual 68, 3) := by decide +kernel
theorem dX2_swap_220 : decode cX2_swap 220 = .ok (.ireturn, 1) := by decide +kernel
theorem dX2_hasItem_0 : decode cX2_hasItem 0 = .ok (.iconst 0, 1) := by decide +kernel
theorem dX2_hasItem_1 : decode cX2_hasItem 1 = .ok (.istore_n 3, 1) := by decide +kernel
theorem dX2_hasItem_2 : decode cX2_hasItem 2 = .ok (.iconst 0, 1) := by decide +kernel
theorem dX2_hasItem_3 : decode cX2_hasItem 3 = .ok (.istore 4, 2) := by decide +kernel
theorem dX2_hasItem_5 : decode cX2_hasItem 5 = .ok (.iload 4, 2) := by decide +kernel
theorem dX2_hasItem_7 : decode cX2_hasItem 7 = .ok (.aload_n 0, 1) := by decide +kernel
theorem dX2_hasItem_8 : decode cX2_hasItem 8 = .ok (.getfield 26, 3) := by decide +kernel
theorem dX2_hasItem_11 : decode cX2_hasItem 11 = .ok (.iload_n 1, 1) := by decide +kernel
theorem dX2_hasItem_12 : decode cX2_hasItem 12 = .ok (.iaload, 1) := by decide +kernel
theorem dX2_hasItem_13 : decode cX2_hasItem 13 = .ok (.if_icmp .ge 35, 3) := by decide +kernel
theorem dX2_hasItem_16 : decode cX2_hasItem 16 = .ok (.iload_n 3, 1) := by decide +kernel
theorem dX2_hasItem_17 : decode cX2_hasItem 17 = .ok (.ifCond .ne 19, 3) := by decide +kernel
theorem dX2_hasItem_20 : decode cX2_hasItem 20 = .ok (.aload_n 0, 1) := by decide +kernel
theorem dX2_hasItem_21 : decode cX2_hasItem 21 = .ok (.getfield 35, 3) := by decide +kernel
theorem dX2_hasItem_24 : decode cX2_hasItem 24 = .ok (.bipush 10, 2) := by decide +kernel
theorem dX2_hasItem_26 : decode cX2_hasItem 26 = .ok (.iload_n 1, 1) := by decide +kernel
theorem dX2_hasItem_27 : decode cX2_hasItem 27 = .ok (.imul, 1) := by decide +kernel
theorem dX2_hasItem_28 : decode cX2_hasItem 28 = .ok (.iload 4, 2) := by decide +kernel
theorem dX2_hasItem_30 : decode cX2_hasItem 30 = .ok (.iadd, 1) := by decide +kernel
theorem dX2_hasItem_31 : decode cX2_hasItem 31 = .ok (.iaload, 1) := by decide +kernel
theorem dX2_hasItem_32 : decode cX2_hasItem 32 = .ok (.iload_n 2, 1) := by decide +kernel
theorem dX2_hasItem_33 : decode cX2_hasItem 33 = .ok (.if_icmp .ne 7, 3) := by decide +kernel
theorem dX2_hasItem_36 : decode cX2_hasItem 36 = .ok (.iconst 1, 1) := by decide +kernel
theorem dX2_hasItem_37 : decode cX2_hasItem 37 = .ok (.goto 4, 3) := by decide +kernel
theorem dX2_hasItem_40 : decode cX2_hasItem 40 = .ok (.iconst 0, 1) := by decide +kernel
theorem dX2_hasItem_41 : decode cX2_hasItem 41 = .ok (.istore_n 3, 1) := by decide +kernel
theorem dX2_hasItem_42 : decode cX2_hasItem 42 = .ok (.iinc 4 1, 3) := by decide +kernel
theorem dX2_hasItem_45 : decode cX2_hasItem 45 = .ok (.goto (-40), 3) := by decide +kernel
theorem dX2_hasItem_48 : decode cX2_hasItem 48 = .ok (.iload_n 3, 1) := by decide +kernel
theorem dX2_hasItem_49 : decode cX2_hasItem 49 = .ok (.ireturn, 1) := by decide +kernel
set_option maxRecDepth 20000 in
theorem ggX2_find_X2_isWeight : GoodIn wsX2_find wsX2_isWeight := goodIn_r _ [6] (by decide +kernel) (by decide +kernel)
set_option maxRecDepth 20000 in
theorem gX2_find_X2_isWeight : GoodIn wsX2_find (va_wsS RX2 46 yX2_isWeight wsX2_isWeight) := goodIn_app (goodIn_of _ (by decide +kernel)) ggX2_find_X2_isWeight
set_option maxRecDepth 20000 in
theorem ggX2_find_X2_hasItem : GoodIn wsX2_find wsX2_hasItem := goodIn_r _ [10, 11, 12, 19, 20, 21, 22, 23, 24, 25, 26, 27, 28] (by decide +kernel) (by decide +kernel)
set_option maxRecDepth 20000 in
theorem gX2_find_X2_hasItem : GoodIn wsX2_find (wsV RX2 72 RX2 yX2_hasItem wsX2_hasItem) := goodIn_app (goodIn_of _ (by decide +kernel)) ggX2_find_X2_hasItem
set_option maxRecDepth 20000 in
theorem ggX2_find_X2_let : GoodIn wsX2_find wsX2_let := goodIn_r _ [16, 17, 18, 19, 20, 21, 22, 23, 24, 25, 26, 27, 28] (by decide +kernel) (by decide +kernel)
set_option maxRecDepth 20000 in
theorem gX2_find_X2_let : GoodIn wsX2_find (wsV RX2 53 RX2 yX2_let wsX2_let) := goodIn_app (goodIn_of _ (by decide +kernel)) ggX2_find_X2_let
theorem dX2_find_0 : decode cX2_find 0 = .ok (.iload_n 1, 1) := by decide +kernel
theorem dX2_find_1 : decode cX2_find 1 = .ok (.invokestatic 46, 3) := by decide +kernel
theorem dX2_find_4 : decode cX2_find 4 = .ok (.ifCond .ne 5, 3) := by decide +kernel
theorem dX2_find_7 : decode cX2_find 7 = .ok (.iconst (-1), 1) := by decide +kernel
theorem dX2_find_8 : decode cX2_find 8 = .ok (.ireturn, 1) := by decide +kernel
theorem dX2_find_9 : decode cX2_find 9 = .ok (.iconst 0, 1) := by decide +kernel
theorem dX2_find_10 : decode cX2_find 10 = .ok (.istore_n 2, 1) := by decide +kernel
theorem dX2_find_11 : decode cX2_find 11 = .ok (.iload_n 2, 1) := by decide +kernel
theorem dX2_find_12 : decode cX2_find 12 = .ok (.bipush 24, 2) := by decide +kernel
theorem dX2_find_14 : decode cX2_find 14 = .ok (.if_icmp .ge 76, 3) := by decide +kernel
theorem dX2_find_17 : decode cX2_find 17 = .ok (.aload_n 0, 1) := by decide +kernel
theorem dX2_find_18 : decode cX2_find 18 = .ok (.getfield 7, 3) := by decide +kernel
theorem dX2_find_21 : decode cX2_find 21 = .ok (.iload_n 2, 1) := by decide +kernel
theorem dX2_find_22 : decode cX2_find 22 = .ok (.baload, 1) := by decide +kernel
theorem dX2_find_23 : decode cX2_find 23 = .ok (.ifCond .ne 6, 3) := by decide +kernel
theorem dX2_find_26 : decode cX2_find 26 = .ok (.goto 58, 3) := by decide +kernel
theorem dX2_find_29 : decode cX2_find 29 = .ok (.aload_n 0, 1) := by decide +kernel
theorem dX2_find_30 : decode cX2_find 30 = .ok (.getfield 20, 3) := by decide +kernel
theorem dX2_find_33 : decode cX2_find 33 = .ok (.iload_n 2, 1) := by decide +kernel
theorem dX2_find_34 : decode cX2_find 34 = .ok (.baload, 1) := by decide +kernel
theorem dX2_find_35 : decode cX2_find 35 = .ok (.ifCond .eq 16, 3) := by decide +kernel
theorem dX2_find_38 : decode cX2_find 38 = .ok (.aload_n 0, 1) := by decide +kernel
theorem dX2_find_39 : decode cX2_find 39 = .ok (.iload_n 2, 1) := by decide +kernel
theorem dX2_find_40 : decode cX2_find 40 = .ok (.iload_n 1, 1) := by decide +kernel
theorem dX2_find_41 : decode cX2_find 41 = .ok (.invokevirtual 72, 3) := by decide +kernel
theorem dX2_find_44 : decode cX2_find 44 = .ok (.ifCond .eq 7, 3) := by decide +kernel
theorem dX2_find_47 : decode cX2_find 47 = .ok (.iconst 1, 1) := by decide +kernel
theorem dX2_find_48 : decode cX2_find 48 = .ok (.goto 4, 3) := by decide +kernel
theorem dX2_find_51 : decode cX2_find 51 = .ok (.iconst 0, 1) := by decide +kernel
theorem dX2_find_52 : decode cX2_find 52 = .ok (.istore_n 3, 1) := by decide +kernel
theorem dX2_find_53 : decode cX2_find 53 = .ok (.aload_n 0, 1) := by decide +kernel
theorem dX2_find_54 : decode cX2_find 54 = .ok (.iload_n 2, 1) := by decide +kernel
theorem dX2_find_55 : decode cX2_find 55 = .ok (.iload_n 3, 1) := by decide +kernel
theorem dX2_find_56 : decode cX2_find 56 = .ok (.ifCond .ne 12, 3) := by decide +kernel
theorem dX2_find_59 : decode cX2_find 59 = .ok (.aload_n 0, 1) := by decide +kernel
theorem dX2_find_60 : decode cX2_find 60 = .ok (.getfield 20, 3) := by decide +kernel
theorem dX2_find_63 : decode cX2_find 63 = .ok (.iload_n 2, 1) := by decide +kernel
theorem dX2_find_64 : decode cX2_find 64 = .ok (.baload, 1) := by decide +kernel
theorem dX2_find_65 : decode cX2_find 65 = .ok (.ifCond .ne 7, 3) := by decide +kernel
theorem dX2_find_68 : decode cX2_find 68 = .ok (.iconst 3, 1) := by decide +kernel
theorem dX2_find_69 : decode cX2_find 69 = .ok (.goto 4, 3) := by decide +kernel
theorem dX2_find_72 : decode cX2_find 72 = .ok (.iconst 1, 1) := by decide +kernel
theorem dX2_find_73 : decode cX2_find 73 = .ok (.iconst 0, 1) := by decide +kernel
theorem dX2_find_74 : decode cX2_find 74 = .ok (.invokevirtual 53, 3) := by decide +kernel
theorem dX2_find_77 : decode cX2_find 77 = .ok (.pop, 1) := by decide +kernel
theorem dX2_find_78 : decode cX2_find 78 = .ok (.iload_n 3, 1) := by decide +kernel
theorem dX2_find_79 : decode cX2_find 79 = .ok (.ifCond .eq 5, 3) := by decide +kernel
theorem dX2_find_82 : decode cX2_find 82 = .ok (.iload_n 2, 1) := by decide +kernel
theorem dX2_find_83 : decode cX2_find 83 = .ok (.ireturn, 1) := by decide +kernel
theorem dX2_find_84 : decode cX2_find 84 = .ok (.iinc 2 1, 3) := by decide +kernel
theorem dX2_find_87 : decode cX2_find 87 = .ok (.goto (-76), 3) := by decide +kernel
theorem dX2_find_90 : decode cX2_find 90 = .ok (.bipush (-8), 2) := by decide +kernel
theorem dX2_find_92 : decode cX2_find 92 = .ok (.ireturn, 1) := by decide +kernel
set_option maxRecDepth 20000 in
theorem ggX2_weigh_X2_isHook : GoodIn wsX2_weigh wsX2_isHook := goodIn_r _ [6] (by decide +kernel) (by decide +kernel)
set_option maxRecDepth 20000 in
theorem gX2_weigh_X2_isHook : GoodIn wsX2_weigh (va_wsS RX2 42 yX2_isHook wsX2_isHook) := goodIn_app (goodIn_of _ (by decide +kernel)) ggX2_weigh_X2_isHook
set_option maxRecDepth 20000 in
theorem ggX2_weigh_X2_weight : GoodIn wsX2_weigh wsX2_weight := goodIn_r _ [10, 11, 12, 19, 20, 21, 22, 23, 24, 25, 26, 27, 28] (by decide +kernel) (by decide +kernel)
set_option maxRecDepth 20000 in
theorem gX2_weigh_X2_weight : GoodIn wsX2_weigh (wsV RX2 38 RX2 yX2_weight wsX2_weight) := goodIn_app (goodIn_of _ (by decide +kernel)) ggX2_weigh_X2_weight
set_option maxRecDepth 20000 in
theorem ggX2_weigh_X2_let : GoodIn wsX2_weigh wsX2_let := goodIn_r _ [16, 17, 18, 19, 20, 21, 22, 23, 24, 25, 26, 27, 28] (by decide +kernel) (by decide +kernel)
set_option maxRecDepth 20000 in
theorem gX2_weigh_X2_let : GoodIn wsX2_weigh (wsV RX2 53 RX2 yX2_let wsX2_let) := goodIn_app (goodIn_of _ (by decide +kernel)) ggX2_weigh_X2_let
theorem dX2_weigh_0 : decode cX2_weigh 0 = .ok (.iload_n 1, 1) := by decide +kernel
theorem dX2_weigh_1 : decode cX2_weigh 1 = .ok (.invokestatic 42, 3) := by decide +kernel
theorem dX2_weigh_4 : decode cX2_weigh 4 = .ok (.ifCond .eq 13, 3) := by decide +kernel
theorem dX2_weigh_7 : decode cX2_weigh 7 = .ok (.iload_n 2, 1) := by decide +kernel
theorem dX2_weigh_8 : decode cX2_weigh 8 = .ok (.ifCond .lt 9, 3) := by decide +kernel
theorem dX2_weigh_11 : decode cX2_weigh 11 = .ok (.iload_n 2, 1) := by decide +kernel
theorem dX2_weigh_12 : decode cX2_weigh 12 = .ok (.bipush 12, 2) := by decide +kernel
theorem dX2_weigh_14 : decode cX2_weigh 14 = .ok (.if_icmp .le 5, 3) := by decide +kernel
theorem dX2_weigh_17 : decode cX2_weigh 17 = .ok (.iconst (-1), 1) := by decide +kernel
theorem dX2_weigh_18 : decode cX2_weigh 18 = .ok (.ireturn, 1) := by decide +kernel
theorem dX2_weigh_19 : decode cX2_weigh 19 = .ok (.aload_n 0, 1) := by decide +kernel
theorem dX2_weigh_20 : decode cX2_weigh 20 = .ok (.dup, 1) := by decide +kernel
theorem dX2_weigh_21 : decode cX2_weigh 21 = .ok (.getfield 49, 3) := by decide +kernel
theorem dX2_weigh_24 : decode cX2_weigh 24 = .ok (.iconst 1, 1) := by decide +kernel
theorem dX2_weigh_25 : decode cX2_weigh 25 = .ok (.iadd, 1) := by decide +kernel
theorem dX2_weigh_26 : decode cX2_weigh 26 = .ok (.putfield 49, 3) := by decide +kernel
theorem dX2_weigh_29 : decode cX2_weigh 29 = .ok (.iconst 0, 1) := by decide +kernel
theorem dX2_weigh_30 : decode cX2_weigh 30 = .ok (.istore_n 3, 1) := by decide +kernel
theorem dX2_weigh_31 : decode cX2_weigh 31 = .ok (.iconst 0, 1) := by decide +kernel
theorem dX2_weigh_32 : decode cX2_weigh 32 = .ok (.istore 4, 2) := by decide +kernel
theorem dX2_weigh_34 : decode cX2_weigh 34 = .ok (.iload 4, 2) := by decide +kernel
theorem dX2_weigh_36 : decode cX2_weigh 36 = .ok (.iload_n 2, 1) := by decide +kernel
theorem dX2_weigh_37 : decode cX2_weigh 37 = .ok (.if_icmp .ge 38, 3) := by decide +kernel
theorem dX2_weigh_40 : decode cX2_weigh 40 = .ok (.aload_n 0, 1) := by decide +kernel
theorem dX2_weigh_41 : decode cX2_weigh 41 = .ok (.getfield 7, 3) := by decide +kernel
theorem dX2_weigh_44 : decode cX2_weigh 44 = .ok (.iload_n 1, 1) := by decide +kernel
theorem dX2_weigh_45 : decode cX2_weigh 45 = .ok (.iload 4, 2) := by decide +kernel
theorem dX2_weigh_47 : decode cX2_weigh 47 = .ok (.iadd, 1) := by decide +kernel
theorem dX2_weigh_48 : decode cX2_weigh 48 = .ok (.bipush 24, 2) := by decide +kernel
theorem dX2_weigh_50 : decode cX2_weigh 50 = .ok (.irem, 1) := by decide +kernel
theorem dX2_weigh_51 : decode cX2_weigh 51 = .ok (.baload, 1) := by decide +kernel
theorem dX2_weigh_52 : decode cX2_weigh 52 = .ok (.ifCond .eq 23, 3) := by decide +kernel
theorem dX2_weigh_55 : decode cX2_weigh 55 = .ok (.iload_n 3, 1) := by decide +kernel
theorem dX2_weigh_56 : decode cX2_weigh 56 = .ok (.aload_n 0, 1) := by decide +kernel
theorem dX2_weigh_57 : decode cX2_weigh 57 = .ok (.iload_n 1, 1) := by decide +kernel
theorem dX2_weigh_58 : decode cX2_weigh 58 = .ok (.iload 4, 2) := by decide +kernel
theorem dX2_weigh_60 : decode cX2_weigh 60 = .ok (.iadd, 1) := by decide +kernel
theorem dX2_weigh_61 : decode cX2_weigh 61 = .ok (.bipush 24, 2) := by decide +kernel
theorem dX2_weigh_63 : decode cX2_weigh 63 = .ok (.irem, 1) := by decide +kernel
theorem dX2_weigh_64 : decode cX2_weigh 64 = .ok (.invokevirtual 38, 3) := by decide +kernel
theorem dX2_weigh_67 : decode cX2_weigh 67 = .ok (.iadd, 1) := by decide +kernel
theorem dX2_weigh_68 : decode cX2_weigh 68 = .ok (.istore_n 3, 1) := by decide +kernel
theorem dX2_weigh_69 : decode cX2_weigh 69 = .ok (.iinc 4 1, 3) := by decide +kernel
theorem dX2_weigh_72 : decode cX2_weigh 72 = .ok (.goto (-38), 3) := by decide +kernel
theorem dX2_weigh_75 : decode cX2_weigh 75 = .ok (.iload 4, 2) := by decide +kernel
theorem dX2_weigh_77 : decode cX2_weigh 77 = .ok (.iconst 1, 1) := by decide +kernel
theorem dX2_weigh_78 : decode cX2_weigh 78 = .ok (.isub, 1) := by decide +kernel
theorem dX2_weigh_79 : decode cX2_weigh 79 = .ok (.istore 5, 2) := by decide +kernel
theorem dX2_weigh_81 : decode cX2_weigh 81 = .ok (.iload 5, 2) := by decide +kernel
theorem dX2_weigh_83 : decode cX2_weigh 83 = .ok (.ifCond .lt 33, 3) := by decide +kernel
theorem dX2_weigh_86 : decode cX2_weigh 86 = .ok (.aload_n 0, 1) := by decide +kernel
theorem dX2_weigh_87 : decode cX2_weigh 87 = .ok (.iload_n 1, 1) := by decide +kernel
theorem dX2_weigh_88 : decode cX2_weigh 88 = .ok (.iload 5, 2) := by decide +kernel
theorem dX2_weigh_90 : decode cX2_weigh 90 = .ok (.iadd, 1) := by decide +kernel
theorem dX2_weigh_91 : decode cX2_weigh 91 = .ok (.bipush 24, 2) := by decide +kernel
theorem dX2_weigh_93 : decode cX2_weigh 93 = .ok (.irem, 1) := by decide +kernel
theorem dX2_weigh_94 : decode cX2_weigh 94 = .ok (.iload 4, 2) := by decide +kernel
theorem dX2_weigh_96 : decode cX2_weigh 96 = .ok (.iload_n 2, 1) := by decide +kernel
theorem dX2_weigh_97 : decode cX2_weigh 97 = .ok (.if_icmp .ge 7, 3) := by decide +kernel
theorem dX2_weigh_100 : decode cX2_weigh 100 = .ok (.iconst 4, 1) := by decide +kernel
theorem dX2_weigh_101 : decode cX2_weigh 101 = .ok (.goto 4, 3) := by decide +kernel
theorem dX2_weigh_104 : decode cX2_weigh 104 = .ok (.iconst 2, 1) := by decide +kernel
theorem dX2_weigh_105 : decode cX2_weigh 105 = .ok (.iconst 0, 1) := by decide +kernel
theorem dX2_weigh_106 : decode cX2_weigh 106 = .ok (.invokevirtual 53, 3) := by decide +kernel
theorem dX2_weigh_109 : decode cX2_weigh 109 = .ok (.pop, 1) := by decide +kernel
theorem dX2_weigh_110 : decode cX2_weigh 110 = .ok (.iinc 5 (-1), 3) := by decide +kernel
theorem dX2_weigh_113 : decode cX2_weigh 113 = .ok (.goto (-32), 3) := by decide +kernel
theorem dX2_weigh_116 : decode cX2_weigh 116 = .ok (.iload 4, 2) := by decide +kernel
theorem dX2_weigh_118 : decode cX2_weigh 118 = .ok (.iload_n 2, 1) := by decide +kernel
theorem dX2_weigh_119 : decode cX2_weigh 119 = .ok (.if_icmp .ge 8, 3) := by decide +kernel
theorem dX2_weigh_122 : decode cX2_weigh 122 = .ok (.bipush (-2), 2) := by decide +kernel
theorem dX2_weigh_124 : decode cX2_weigh 124 = .ok (.goto 4, 3) := by decide +kernel
theorem dX2_weigh_127 : decode cX2_weigh 127 = .ok (.iload_n 3, 1) := by decide +kernel
theorem dX2_weigh_128 : decode cX2_weigh 128 = .ok (.ireturn, 1) := by decide +kernel
set_option maxRecDepth 20000 in
theorem ggX2_drop_X2_isHook : GoodIn wsX2_drop wsX2_isHook := goodIn_r _ [7] (by decide +kernel) (by decide +kernel)
set_option maxRecDepth 20000 in
theorem gX2_drop_X2_isHook : GoodIn wsX2_drop (va_wsS RX2 42 yX2_isHook wsX2_isHook) := goodIn_app (goodIn_of _ (by decide +kernel)) ggX2_drop_X2_isHook
set_option maxRecDepth 20000 in
theorem ggX2_drop_X2_let : GoodIn wsX2_drop wsX2_let := goodIn_r _ [11, 12, 13, 19, 20, 21, 22, 23, 24, 25, 26, 27, 28] (by decide +kernel) (by decide +kernel)
set_option maxRecDepth 20000 in
theorem gX2_drop_X2_let : GoodIn wsX2_drop (wsV RX2 53 RX2 yX2_let wsX2_let) := goodIn_app (goodIn_of _ (by decide +kernel)) ggX2_drop_X2_let
set_option maxRecDepth 20000 in
theorem ggX2_drop_X2_takeLast : GoodIn wsX2_drop wsX2_takeLast := goodIn_r _ [17, 3, 18, 19, 20, 21, 22, 23, 24, 25, 26, 27, 28] (by decide +kernel) (by decide +kernel)
set_option maxRecDepth 20000 in
theorem gX2_drop_X2_takeLast : GoodIn wsX2_drop (wsV RX2 65 RX2 yX2_takeLast wsX2_takeLast) := goodIn_app (goodIn_of _ (by decide +kernel)) ggX2_drop_X2_takeLast
theorem dX2_drop_0 : decode cX2_drop 0 = .ok (.iload_n 1, 1) := by decide +kernel
theorem dX2_drop_1 : decode cX2_drop 1 = .ok (.invokestatic 42, 3) := by decide +kernel
theorem dX2_drop_4 : decode cX2_drop 4 = .ok (.ifCond .eq 14, 3) := by decide +kernel
theorem dX2_drop_7 : decode cX2_drop 7 = .ok (.iload_n 2, 1) := by decide +kernel
theorem dX2_drop_8 : decode cX2_drop 8 = .ok (.iconst 1, 1) := by decide +kernel
theorem dX2_drop_9 : decode cX2_drop 9 = .ok (.if_icmp .lt 9, 3) := by decide +kernel
theorem dX2_drop_12 : decode cX2_drop 12 = .ok (.iload_n 2, 1) := by decide +kernel
theorem dX2_drop_13 : decode cX2_drop 13 = .ok (.bipush 10, 2) := by decide +kernel
theorem dX2_drop_15 : decode cX2_drop 15 = .ok (.if_icmp .le 5, 3) := by decide +kernel
theorem dX2_drop_18 : decode cX2_drop 18 = .ok (.iconst (-1), 1) := by decide +kernel
theorem dX2_drop_19 : decode cX2_drop 19 = .ok (.ireturn, 1) := by decide +kernel
theorem dX2_drop_20 : decode cX2_drop 20 = .ok (.aload_n 0, 1) := by decide +kernel
theorem dX2_drop_21 : decode cX2_drop 21 = .ok (.getfield 7, 3) := by decide +kernel
theorem dX2_drop_24 : decode cX2_drop 24 = .ok (.iload_n 1, 1) := by decide +kernel
theorem dX2_drop_25 : decode cX2_drop 25 = .ok (.baload, 1) := by decide +kernel
theorem dX2_drop_26 : decode cX2_drop 26 = .ok (.ifCond .ne 6, 3) := by decide +kernel
theorem dX2_drop_29 : decode cX2_drop 29 = .ok (.bipush (-2), 2) := by decide +kernel
theorem dX2_drop_31 : decode cX2_drop 31 = .ok (.ireturn, 1) := by decide +kernel
theorem dX2_drop_32 : decode cX2_drop 32 = .ok (.aload_n 0, 1) := by decide +kernel
theorem dX2_drop_33 : decode cX2_drop 33 = .ok (.getfield 20, 3) := by decide +kernel
theorem dX2_drop_36 : decode cX2_drop 36 = .ok (.iload_n 1, 1) := by decide +kernel
theorem dX2_drop_37 : decode cX2_drop 37 = .ok (.baload, 1) := by decide +kernel
theorem dX2_drop_38 : decode cX2_drop 38 = .ok (.ifCond .ne 12, 3) := by decide +kernel
theorem dX2_drop_41 : decode cX2_drop 41 = .ok (.aload_n 0, 1) := by decide +kernel
theorem dX2_drop_42 : decode cX2_drop 42 = .ok (.iload_n 1, 1) := by decide +kernel
theorem dX2_drop_43 : decode cX2_drop 43 = .ok (.iconst 2, 1) := by decide +kernel
theorem dX2_drop_44 : decode cX2_drop 44 = .ok (.bipush (-3), 2) := by decide +kernel
theorem dX2_drop_46 : decode cX2_drop 46 = .ok (.invokevirtual 53, 3) := by decide +kernel
theorem dX2_drop_49 : decode cX2_drop 49 = .ok (.ireturn, 1) := by decide +kernel
theorem dX2_drop_50 : decode cX2_drop 50 = .ok (.iconst 0, 1) := by decide +kernel
theorem dX2_drop_51 : decode cX2_drop 51 = .ok (.istore 4, 2) := by decide +kernel
theorem dX2_drop_53 : decode cX2_drop 53 = .ok (.iconst 0, 1) := by decide +kernel
theorem dX2_drop_54 : decode cX2_drop 54 = .ok (.istore 5, 2) := by decide +kernel
theorem dX2_drop_56 : decode cX2_drop 56 = .ok (.iconst 0, 1) := by decide +kernel
theorem dX2_drop_57 : decode cX2_drop 57 = .ok (.istore 6, 2) := by decide +kernel
theorem dX2_drop_59 : decode cX2_drop 59 = .ok (.iload 4, 2) := by decide +kernel
theorem dX2_drop_61 : decode cX2_drop 61 = .ok (.iload_n 2, 1) := by decide +kernel
theorem dX2_drop_62 : decode cX2_drop 62 = .ok (.if_icmp .ge 46, 3) := by decide +kernel
theorem dX2_drop_65 : decode cX2_drop 65 = .ok (.aload_n 0, 1) := by decide +kernel
theorem dX2_drop_66 : decode cX2_drop 66 = .ok (.getfield 26, 3) := by decide +kernel
theorem dX2_drop_69 : decode cX2_drop 69 = .ok (.iload_n 1, 1) := by decide +kernel
theorem dX2_drop_70 : decode cX2_drop 70 = .ok (.iaload, 1) := by decide +kernel
theorem dX2_drop_71 : decode cX2_drop 71 = .ok (.ifCond .le 37, 3) := by decide +kernel
theorem dX2_drop_74 : decode cX2_drop 74 = .ok (.iload 6, 2) := by decide +kernel
theorem dX2_drop_76 : decode cX2_drop 76 = .ok (.ifCond .ne 32, 3) := by decide +kernel
theorem dX2_drop_79 : decode cX2_drop 79 = .ok (.iload 5, 2) := by decide +kernel
theorem dX2_drop_81 : decode cX2_drop 81 = .ok (.aload_n 0, 1) := by decide +kernel
theorem dX2_drop_82 : decode cX2_drop 82 = .ok (.iload_n 1, 1) := by decide +kernel
theorem dX2_drop_83 : decode cX2_drop 83 = .ok (.invokevirtual 65, 3) := by decide +kernel
theorem dX2_drop_86 : decode cX2_drop 86 = .ok (.iadd, 1) := by decide +kernel
theorem dX2_drop_87 : decode cX2_drop 87 = .ok (.istore 5, 2) := by decide +kernel
theorem dX2_drop_89 : decode cX2_drop 89 = .ok (.iinc 4 1, 3) := by decide +kernel
theorem dX2_drop_92 : decode cX2_drop 92 = .ok (.iload 5, 2) := by decide +kernel
theorem dX2_drop_94 : decode cX2_drop 94 = .ok (.iload_n 3, 1) := by decide +kernel
theorem dX2_drop_95 : decode cX2_drop 95 = .ok (.if_icmp .lt 7, 3) := by decide +kernel
theorem dX2_drop_98 : decode cX2_drop 98 = .ok (.iconst 1, 1) := by decide +kernel
theorem dX2_drop_99 : decode cX2_drop 99 = .ok (.goto 4, 3) := by decide +kernel
theorem dX2_drop_102 : decode cX2_drop 102 = .ok (.iconst 0, 1) := by decide +kernel
theorem dX2_drop_103 : decode cX2_drop 103 = .ok (.istore 6, 2) := by decide +kernel
theorem dX2_drop_105 : decode cX2_drop 105 = .ok (.goto (-46), 3) := by decide +kernel
theorem dX2_drop_108 : decode cX2_drop 108 = .ok (.aload_n 0, 1) := by decide +kernel
theorem dX2_drop_109 : decode cX2_drop 109 = .ok (.iload_n 1, 1) := by decide +kernel
theorem dX2_drop_110 : decode cX2_drop 110 = .ok (.iconst 1, 1) := by decide +kernel
theorem dX2_drop_111 : decode cX2_drop 111 = .ok (.iload 5, 2) := by decide +kernel
theorem dX2_drop_113 : decode cX2_drop 113 = .ok (.invokevirtual 53, 3) := by decide +kernel
theorem dX2_drop_116 : decode cX2_drop 116 = .ok (.ireturn, 1) := by decide +kernel
set_option maxRecDepth 20000 in
theorem ggX2_tally_X2_weight : GoodIn wsX2_tally wsX2_weight := goodIn_r _ [7, 8, 9, 16, 17, 18, 19, 20, 21, 22, 23, 24, 25] (by decide +kernel) (by decide +kernel)
set_option maxRecDepth 20000 in
theorem gX2_tally_X2_weight : GoodIn wsX2_tally (wsV RX2 38 RX2 yX2_weight wsX2_weight) := goodIn_app (goodIn_of _ (by decide +kernel)) ggX2_tally_X2_weight
set_option maxRecDepth 20000 in
theorem ggX2_tally_X2_let : GoodIn wsX2_tally wsX2_let := goodIn_r _ [13, 14, 15, 16, 17, 18, 19, 20, 21, 22, 23, 24, 25] (by decide +kernel) (by decide +kernel)
set_option maxRecDepth 20000 in
theorem gX2_tally_X2_let : GoodIn wsX2_tally (wsV RX2 53 RX2 yX2_let wsX2_let) := goodIn_app (goodIn_of _ (by decide +kernel)) ggX2_tally_X2_let
theorem dX2_tally_0 : decode cX2_tally 0 = .ok (.aload_n 0, 1) := by decide +kernel
theorem dX2_tally_1 : decode cX2_tally 1 = .ok (.dup, 1) := by decide +kernel
theorem dX2_tally_2 : decode cX2_tally 2 = .ok (.getfield 49, 3) := by decide +kernel
theorem dX2_tally_5 : decode cX2_tally 5 = .ok (.iconst 1, 1) := by decide +kernel
theorem dX2_tally_6 : decode cX2_tally 6 = .ok (.iadd, 1) := by decide +kernel
theorem dX2_tally_7 : decode cX2_tally 7 = .ok (.putfield 49, 3) := by decide +kernel
theorem dX2_tally_10 : decode cX2_tally 10 = .ok (.lconst 0, 1) := by decide +kernel
theorem dX2_tally_11 : decode cX2_tally 11 = .ok (.lstore_n 1, 1) := by decide +kernel
theorem dX2_tally_12 : decode cX2_tally 12 = .ok (.iconst 0, 1) := by decide +kernel
theorem dX2_tally_13 : decode cX2_tally 13 = .ok (.istore_n 3, 1) := by decide +kernel
theorem dX2_tally_14 : decode cX2_tally 14 = .ok (.iload_n 3, 1) := by decide +kernel
theorem dX2_tally_15 : decode cX2_tally 15 = .ok (.bipush 24, 2) := by decide +kernel
theorem dX2_tally_17 : decode cX2_tally 17 = .ok (.if_icmp .ge 43, 3) := by decide +kernel
theorem dX2_tally_20 : decode cX2_tally 20 = .ok (.aload_n 0, 1) := by decide +kernel
theorem dX2_tally_21 : decode cX2_tally 21 = .ok (.getfield 7, 3) := by decide +kernel
theorem dX2_tally_24 : decode cX2_tally 24 = .ok (.iload_n 3, 1) := by decide +kernel
theorem dX2_tally_25 : decode cX2_tally 25 = .ok (.baload, 1) := by decide +kernel
theorem dX2_tally_26 : decode cX2_tally 26 = .ok (.ifCond .ne 6, 3) := by decide +kernel
theorem dX2_tally_29 : decode cX2_tally 29 = .ok (.goto 25, 3) := by decide +kernel
theorem dX2_tally_32 : decode cX2_tally 32 = .ok (.lload_n 1, 1) := by decide +kernel
theorem dX2_tally_33 : decode cX2_tally 33 = .ok (.aload_n 0, 1) := by decide +kernel
theorem dX2_tally_34 : decode cX2_tally 34 = .ok (.iload_n 3, 1) := by decide +kernel
theorem dX2_tally_35 : decode cX2_tally 35 = .ok (.invokevirtual 38, 3) := by decide +kernel
theorem dX2_tally_38 : decode cX2_tally 38 = .ok (.i2l, 1) := by decide +kernel
theorem dX2_tally_39 : decode cX2_tally 39 = .ok (.iload_n 3, 1) := by decide +kernel
theorem dX2_tally_40 : decode cX2_tally 40 = .ok (.iconst 1, 1) := by decide +kernel
theorem dX2_tally_41 : decode cX2_tally 41 = .ok (.iadd, 1) := by decide +kernel
theorem dX2_tally_42 : decode cX2_tally 42 = .ok (.i2l, 1) := by decide +kernel
theorem dX2_tally_43 : decode cX2_tally 43 = .ok (.lmul, 1) := by decide +kernel
theorem dX2_tally_44 : decode cX2_tally 44 = .ok (.ladd, 1) := by decide +kernel
theorem dX2_tally_45 : decode cX2_tally 45 = .ok (.lstore_n 1, 1) := by decide +kernel
theorem dX2_tally_46 : decode cX2_tally 46 = .ok (.aload_n 0, 1) := by decide +kernel
theorem dX2_tally_47 : decode cX2_tally 47 = .ok (.iload_n 3, 1) := by decide +kernel
theorem dX2_tally_48 : decode cX2_tally 48 = .ok (.iconst 1, 1) := by decide +kernel
theorem dX2_tally_49 : decode cX2_tally 49 = .ok (.iconst 0, 1) := by decide +kernel
theorem dX2_tally_50 : decode cX2_tally 50 = .ok (.invokevirtual 53, 3) := by decide +kernel
theorem dX2_tally_53 : decode cX2_tally 53 = .ok (.pop, 1) := by decide +kernel
theorem dX2_tally_54 : decode cX2_tally 54 = .ok (.iinc 3 1, 3) := by decide +kernel
theorem dX2_tally_57 : decode cX2_tally 57 = .ok (.goto (-43), 3) := by decide +kernel
theorem dX2_tally_60 : decode cX2_tally 60 = .ok (.lload_n 1, 1) := by decide +kernel
theorem dX2_tally_61 : decode cX2_tally 61 = .ok (.lreturn, 1) := by decide +kernel
set_option maxRecDepth 20000 in
theorem ggX2_first_X2_weight : GoodIn wsX2_first wsX2_weight := goodIn_r _ [6, 7, 8, 15, 16, 17, 18, 19, 20, 21, 22, 23, 24] (by decide +kernel) (by decide +kernel)
set_option maxRecDepth 20000 in
theorem gX2_first_X2_weight : GoodIn wsX2_first (wsV RX2 38 RX2 yX2_weight wsX2_weight) := goodIn_app (goodIn_of _ (by decide +kernel)) ggX2_first_X2_weight
set_option maxRecDepth 20000 in
theorem ggX2_first_X2_let : GoodIn wsX2_first wsX2_let := goodIn_r _ [12, 13, 14, 15, 16, 17, 18, 19, 20, 21, 22, 23, 24] (by decide +kernel) (by decide +kernel)
set_option maxRecDepth 20000 in
theorem gX2_first_X2_let : GoodIn wsX2_first (wsV RX2 53 RX2 yX2_let wsX2_let) := goodIn_app (goodIn_of _ (by decide +kernel)) ggX2_first_X2_let
theorem dX2_first_0 : decode cX2_first 0 = .ok (.iload_n 1, 1) := by decide +kernel
theorem dX2_first_1 : decode cX2_first 1 = .ok (.ifCond .ge 5, 3) := by decide +kernel
theorem dX2_first_4 : decode cX2_first 4 = .ok (.iconst (-1), 1) := by decide +kernel
theorem dX2_first_5 : decode cX2_first 5 = .ok (.ireturn, 1) := by decide +kernel
theorem dX2_first_6 : decode cX2_first 6 = .ok (.iconst 0, 1) := by decide +kernel
theorem dX2_first_7 : decode cX2_first 7 = .ok (.istore_n 2, 1) := by decide +kernel
theorem dX2_first_8 : decode cX2_first 8 = .ok (.iload_n 2, 1) := by decide +kernel
theorem dX2_first_9 : decode cX2_first 9 = .ok (.bipush 24, 2) := by decide +kernel
theorem dX2_first_11 : decode cX2_first 11 = .ok (.if_icmp .ge 58, 3) := by decide +kernel
theorem dX2_first_14 : decode cX2_first 14 = .ok (.aload_n 0, 1) := by decide +kernel
theorem dX2_first_15 : decode cX2_first 15 = .ok (.getfield 7, 3) := by decide +kernel
theorem dX2_first_18 : decode cX2_first 18 = .ok (.iload_n 2, 1) := by decide +kernel
theorem dX2_first_19 : decode cX2_first 19 = .ok (.baload, 1) := by decide +kernel
theorem dX2_first_20 : decode cX2_first 20 = .ok (.ifCond .ne 6, 3) := by decide +kernel
theorem dX2_first_23 : decode cX2_first 23 = .ok (.goto 40, 3) := by decide +kernel
theorem dX2_first_26 : decode cX2_first 26 = .ok (.aload_n 0, 1) := by decide +kernel
theorem dX2_first_27 : decode cX2_first 27 = .ok (.iload_n 2, 1) := by decide +kernel
theorem dX2_first_28 : decode cX2_first 28 = .ok (.invokevirtual 38, 3) := by decide +kernel
theorem dX2_first_31 : decode cX2_first 31 = .ok (.iload_n 1, 1) := by decide +kernel
theorem dX2_first_32 : decode cX2_first 32 = .ok (.if_icmp .lt 7, 3) := by decide +kernel
theorem dX2_first_35 : decode cX2_first 35 = .ok (.iconst 1, 1) := by decide +kernel
theorem dX2_first_36 : decode cX2_first 36 = .ok (.goto 4, 3) := by decide +kernel
theorem dX2_first_39 : decode cX2_first 39 = .ok (.iconst 0, 1) := by decide +kernel
theorem dX2_first_40 : decode cX2_first 40 = .ok (.istore_n 3, 1) := by decide +kernel
theorem dX2_first_41 : decode cX2_first 41 = .ok (.aload_n 0, 1) := by decide +kernel
theorem dX2_first_42 : decode cX2_first 42 = .ok (.iload_n 2, 1) := by decide +kernel
theorem dX2_first_43 : decode cX2_first 43 = .ok (.iload_n 3, 1) := by decide +kernel
theorem dX2_first_44 : decode cX2_first 44 = .ok (.ifCond .eq 7, 3) := by decide +kernel
theorem dX2_first_47 : decode cX2_first 47 = .ok (.iconst 2, 1) := by decide +kernel
theorem dX2_first_48 : decode cX2_first 48 = .ok (.goto 4, 3) := by decide +kernel
theorem dX2_first_51 : decode cX2_first 51 = .ok (.iconst 1, 1) := by decide +kernel
theorem dX2_first_52 : decode cX2_first 52 = .ok (.iconst 0, 1) := by decide +kernel
theorem dX2_first_53 : decode cX2_first 53 = .ok (.invokevirtual 53, 3) := by decide +kernel
theorem dX2_first_56 : decode cX2_first 56 = .ok (.pop, 1) := by decide +kernel
theorem dX2_first_57 : decode cX2_first 57 = .ok (.iload_n 3, 1) := by decide +kernel
theorem dX2_first_58 : decode cX2_first 58 = .ok (.ifCond .eq 5, 3) := by decide +kernel
theorem dX2_first_61 : decode cX2_first 61 = .ok (.iload_n 2, 1) := by decide +kernel
theorem dX2_first_62 : decode cX2_first 62 = .ok (.ireturn, 1) := by decide +kernel
theorem dX2_first_63 : decode cX2_first 63 = .ok (.iinc 2 1, 3) := by decide +kernel
theorem dX2_first_66 : decode cX2_first 66 = .ok (.goto (-58), 3) := by decide +kernel
theorem dX2_first_69 : decode cX2_first 69 = .ok (.bipush (-8), 2) := by decide +kernel
theorem dX2_first_71 : decode cX2_first 71 = .ok (.ireturn, 1) := by decide +kernel
set_option maxRecDepth 20000 in
theorem ggX2_recode_X2_isHook : GoodIn wsX2_recode wsX2_isHook := goodIn_r _ [9] (by decide +kernel) (by decide +kernel)
set_option maxRecDepth 20000 in
theorem gX2_recode_X2_isHook : GoodIn wsX2_recode (va_wsS RX2 42 yX2_isHook wsX2_isHook) := goodIn_app (goodIn_of _ (by decide +kernel)) ggX2_recode_X2_isHook
theorem dX2_recode_0 : decode cX2_recode 0 = .ok (.iload_n 1, 1) := by decide +kernel
theorem dX2_recode_1 : decode cX2_recode 1 = .ok (.invokestatic 42, 3) := by decide +kernel
theorem dX2_recode_4 : decode cX2_recode 4 = .ok (.ifCond .ne 5, 3) := by decide +kernel
theorem dX2_recode_7 : decode cX2_recode 7 = .ok (.iconst (-1), 1) := by decide +kernel
theorem dX2_recode_8 : decode cX2_recode 8 = .ok (.ireturn, 1) := by decide +kernel
theorem dX2_recode_9 : decode cX2_recode 9 = .ok (.aload_n 0, 1) := by decide +kernel
theorem dX2_recode_10 : decode cX2_recode 10 = .ok (.getfield 7, 3) := by decide +kernel
theorem dX2_recode_13 : decode cX2_recode 13 = .ok (.iload_n 1, 1) := by decide +kernel
theorem dX2_recode_14 : decode cX2_recode 14 = .ok (.baload, 1) := by decide +kernel
theorem dX2_recode_15 : decode cX2_recode 15 = .ok (.ifCond .ne 6, 3) := by decide +kernel
theorem dX2_recode_18 : decode cX2_recode 18 = .ok (.bipush (-2), 2) := by decide +kernel
theorem dX2_recode_20 : decode cX2_recode 20 = .ok (.ireturn, 1) := by decide +kernel
theorem dX2_recode_21 : decode cX2_recode 21 = .ok (.aload_n 0, 1) := by decide +kernel
theorem dX2_recode_22 : decode cX2_recode 22 = .ok (.getfield 29, 3) := by decide +kernel
theorem dX2_recode_25 : decode cX2_recode 25 = .ok (.iload_n 1, 1) := by decide +kernel
theorem dX2_recode_26 : decode cX2_recode 26 = .ok (.dup2, 1) := by decide +kernel
theorem dX2_recode_27 : decode cX2_recode 27 = .ok (.iaload, 1) := by decide +kernel
theorem dX2_recode_28 : decode cX2_recode 28 = .ok (.iconst 3, 1) := by decide +kernel
theorem dX2_recode_29 : decode cX2_recode 29 = .ok (.iadd, 1) := by decide +kernel
theorem dX2_recode_30 : decode cX2_recode 30 = .ok (.iastore, 1) := by decide +kernel
theorem dX2_recode_31 : decode cX2_recode 31 = .ok (.aload_n 0, 1) := by decide +kernel
theorem dX2_recode_32 : decode cX2_recode 32 = .ok (.getfield 32, 3) := by decide +kernel
theorem dX2_recode_35 : decode cX2_recode 35 = .ok (.iload_n 1, 1) := by decide +kernel
theorem dX2_recode_36 : decode cX2_recode 36 = .ok (.aload_n 0, 1) := by decide +kernel
theorem dX2_recode_37 : decode cX2_recode 37 = .ok (.getfield 20, 3) := by decide +kernel
theorem dX2_recode_40 : decode cX2_recode 40 = .ok (.iload_n 1, 1) := by decide +kernel
theorem dX2_recode_41 : decode cX2_recode 41 = .ok (.baload, 1) := by decide +kernel
theorem dX2_recode_42 : decode cX2_recode 42 = .ok (.ifCond .eq 7, 3) := by decide +kernel
theorem dX2_recode_45 : decode cX2_recode 45 = .ok (.iconst 2, 1) := by decide +kernel
theorem dX2_recode_46 : decode cX2_recode 46 = .ok (.goto 4, 3) := by decide +kernel
theorem dX2_recode_49 : decode cX2_recode 49 = .ok (.iconst 4, 1) := by decide +kernel
theorem dX2_recode_50 : decode cX2_recode 50 = .ok (.iastore, 1) := by decide +kernel
theorem dX2_recode_51 : decode cX2_recode 51 = .ok (.aload_n 0, 1) := by decide +kernel
theorem dX2_recode_52 : decode cX2_recode 52 = .ok (.getfield 20, 3) := by decide +kernel
theorem dX2_recode_55 : decode cX2_recode 55 = .ok (.iload_n 1, 1) := by decide +kernel
theorem dX2_recode_56 : decode cX2_recode 56 = .ok (.baload, 1) := by decide +kernel
theorem dX2_recode_57 : decode cX2_recode 57 = .ok (.ifCond .ne 6, 3) := by decide +kernel
theorem dX2_recode_60 : decode cX2_recode 60 = .ok (.bipush (-7), 2) := by decide +kernel
theorem dX2_recode_62 : decode cX2_recode 62 = .ok (.ireturn, 1) := by decide +kernel
theorem dX2_recode_63 : decode cX2_recode 63 = .ok (.aload_n 0, 1) := by decide +kernel
theorem dX2_recode_64 : decode cX2_recode 64 = .ok (.getfield 17, 3) := by decide +kernel
theorem dX2_recode_67 : decode cX2_recode 67 = .ok (.iload_n 1, 1) := by decide +kernel
theorem dX2_recode_68 : decode cX2_recode 68 = .ok (.iload_n 2, 1) := by decide +kernel
theorem dX2_recode_69 : decode cX2_recode 69 = .ok (.iastore, 1) := by decide +kernel
theorem dX2_recode_70 : decode cX2_recode 70 = .ok (.iconst 1, 1) := by decide +kernel
theorem dX2_recode_71 : decode cX2_recode 71 = .ok (.ireturn, 1) := by decide +kernel
set_option maxRecDepth 20000 in
theorem ggX2_told_X2_isHook : GoodIn wsX2_told wsX2_isHook := goodIn_r _ [12] (by decide +kernel) (by decide +kernel)
set_option maxRecDepth 20000 in
theorem gX2_told_X2_isHook : GoodIn wsX2_told (va_wsS RX2 42 yX2_isHook wsX2_isHook) := goodIn_app (goodIn_of _ (by decide +kernel)) ggX2_told_X2_isHook
set_option maxRecDepth 20000 in
theorem ggX2_told_X2_weight : GoodIn wsX2_told wsX2_weight := goodIn_r _ [16, 6, 17, 18, 19, 20, 21, 22, 23, 24, 25, 26, 27] (by decide +kernel) (by decide +kernel)
set_option maxRecDepth 20000 in
theorem gX2_told_X2_weight : GoodIn wsX2_told (wsV RX2 38 RX2 yX2_weight wsX2_weight) := goodIn_app (goodIn_of _ (by decide +kernel)) ggX2_told_X2_weight
theorem dX2_told_0 : decode cX2_told 0 = .ok (.iload_n 1, 1) := by decide +kernel
theorem dX2_told_1 : decode cX2_told 1 = .ok (.invokestatic 42, 3) := by decide +kernel
theorem dX2_told_4 : decode cX2_told 4 = .ok (.ifCond .eq 13, 3) := by decide +kernel
theorem dX2_told_7 : decode cX2_told 7 = .ok (.iload_n 2, 1) := by decide +kernel
theorem dX2_told_8 : decode cX2_told 8 = .ok (.ifCond .lt 9, 3) := by decide +kernel
theorem dX2_told_11 : decode cX2_told 11 = .ok (.iload_n 2, 1) := by decide +kernel
theorem dX2_told_12 : decode cX2_told 12 = .ok (.bipush 8, 2) := by decide +kernel
theorem dX2_told_14 : decode cX2_told 14 = .ok (.if_icmp .le 5, 3) := by decide +kernel
theorem dX2_told_17 : decode cX2_told 17 = .ok (.iconst (-1), 1) := by decide +kernel
theorem dX2_told_18 : decode cX2_told 18 = .ok (.ireturn, 1) := by decide +kernel
theorem dX2_told_19 : decode cX2_told 19 = .ok (.iload_n 2, 1) := by decide +kernel
theorem dX2_told_20 : decode cX2_told 20 = .ok (.ifCond .ne 18, 3) := by decide +kernel
theorem dX2_told_23 : decode cX2_told 23 = .ok (.aload_n 0, 1) := by decide +kernel
theorem dX2_told_24 : decode cX2_told 24 = .ok (.getfield 7, 3) := by decide +kernel
theorem dX2_told_27 : decode cX2_told 27 = .ok (.iload_n 1, 1) := by decide +kernel
theorem dX2_told_28 : decode cX2_told 28 = .ok (.baload, 1) := by decide +kernel
theorem dX2_told_29 : decode cX2_told 29 = .ok (.ifCond .eq 7, 3) := by decide +kernel
theorem dX2_told_32 : decode cX2_told 32 = .ok (.iconst 1, 1) := by decide +kernel
theorem dX2_told_33 : decode cX2_told 33 = .ok (.goto 4, 3) := by decide +kernel
theorem dX2_told_36 : decode cX2_told 36 = .ok (.iconst 0, 1) := by decide +kernel
theorem dX2_told_37 : decode cX2_told 37 = .ok (.ireturn, 1) := by decide +kernel
theorem dX2_told_38 : decode cX2_told 38 = .ok (.aload_n 0, 1) := by decide +kernel
theorem dX2_told_39 : decode cX2_told 39 = .ok (.getfield 7, 3) := by decide +kernel
theorem dX2_told_42 : decode cX2_told 42 = .ok (.iload_n 1, 1) := by decide +kernel
theorem dX2_told_43 : decode cX2_told 43 = .ok (.baload, 1) := by decide +kernel
theorem dX2_told_44 : decode cX2_told 44 = .ok (.ifCond .ne 6, 3) := by decide +kernel
theorem dX2_told_47 : decode cX2_told 47 = .ok (.bipush (-2), 2) := by decide +kernel
theorem dX2_told_49 : decode cX2_told 49 = .ok (.ireturn, 1) := by decide +kernel
theorem dX2_told_50 : decode cX2_told 50 = .ok (.iload_n 2, 1) := by decide +kernel
theorem dX2_told_51 : decode cX2_told 51 = .ok (.tableswitch 97 1 7 #[41, 48, 55, 70, 77, 84, 90], 41) := by decide +kernel
theorem dX2_told_92 : decode cX2_told 92 = .ok (.aload_n 0, 1) := by decide +kernel
theorem dX2_told_93 : decode cX2_told 93 = .ok (.getfield 13, 3) := by decide +kernel
theorem dX2_told_96 : decode cX2_told 96 = .ok (.iload_n 1, 1) := by decide +kernel
theorem dX2_told_97 : decode cX2_told 97 = .ok (.iaload, 1) := by decide +kernel
theorem dX2_told_98 : decode cX2_told 98 = .ok (.ireturn, 1) := by decide +kernel
theorem dX2_told_99 : decode cX2_told 99 = .ok (.aload_n 0, 1) := by decide +kernel
theorem dX2_told_100 : decode cX2_told 100 = .ok (.getfield 17, 3) := by decide +kernel
theorem dX2_told_103 : decode cX2_told 103 = .ok (.iload_n 1, 1) := by decide +kernel
theorem dX2_told_104 : decode cX2_told 104 = .ok (.iaload, 1) := by decide +kernel
theorem dX2_told_105 : decode cX2_told 105 = .ok (.ireturn, 1) := by decide +kernel
theorem dX2_told_106 : decode cX2_told 106 = .ok (.aload_n 0, 1) := by decide +kernel
theorem dX2_told_107 : decode cX2_told 107 = .ok (.getfield 20, 3) := by decide +kernel
theorem dX2_told_110 : decode cX2_told 110 = .ok (.iload_n 1, 1) := by decide +kernel
theorem dX2_told_111 : decode cX2_told 111 = .ok (.baload, 1) := by decide +kernel
theorem dX2_told_112 : decode cX2_told 112 = .ok (.ifCond .eq 7, 3) := by decide +kernel
theorem dX2_told_115 : decode cX2_told 115 = .ok (.iconst 1, 1) := by decide +kernel
theorem dX2_told_116 : decode cX2_told 116 = .ok (.goto 4, 3) := by decide +kernel
theorem dX2_told_119 : decode cX2_told 119 = .ok (.iconst 0, 1) := by decide +kernel
theorem dX2_told_120 : decode cX2_told 120 = .ok (.ireturn, 1) := by decide +kernel
theorem dX2_told_121 : decode cX2_told 121 = .ok (.aload_n 0, 1) := by decide +kernel
theorem dX2_told_122 : decode cX2_told 122 = .ok (.getfield 23, 3) := by decide +kernel
theorem dX2_told_125 : decode cX2_told 125 = .ok (.iload_n 1, 1) := by decide +kernel
theorem dX2_told_126 : decode cX2_told 126 = .ok (.iaload, 1) := by decide +kernel
theorem dX2_told_127 : decode cX2_told 127 = .ok (.ireturn, 1) := by decide +kernel
theorem dX2_told_128 : decode cX2_told 128 = .ok (.aload_n 0, 1) := by decide +kernel
theorem dX2_told_129 : decode cX2_told 129 = .ok (.getfield 26, 3) := by decide +kernel
theorem dX2_told_132 : decode cX2_told 132 = .ok (.iload_n 1, 1) := by decide +kernel
theorem dX2_told_133 : decode cX2_told 133 = .ok (.iaload, 1) := by decide +kernel
theorem dX2_told_134 : decode cX2_told 134 = .ok (.ireturn, 1) := by decide +kernel
theorem dX2_told_135 : decode cX2_told 135 = .ok (.aload_n 0, 1) := by decide +kernel
theorem dX2_told_136 : decode cX2_told 136 = .ok (.iload_n 1, 1) := by decide +kernel
theorem dX2_told_137 : decode cX2_told 137 = .ok (.invokevirtual 38, 3) := by decide +kernel
theorem dX2_told_140 : decode cX2_told 140 = .ok (.ireturn, 1) := by decide +kernel
theorem dX2_told_141 : decode cX2_told 141 = .ok (.aload_n 0, 1) := by decide +kernel
theorem dX2_told_142 : decode cX2_told 142 = .ok (.getfield 29, 3) := by decide +kernel
theorem dX2_told_145 : decode cX2_told 145 = .ok (.iload_n 1, 1) := by decide +kernel
theorem dX2_told_146 : decode cX2_told 146 = .ok (.iaload, 1) := by decide +kernel
theorem dX2_told_147 : decode cX2_told 147 = .ok (.ireturn, 1) := by decide +kernel
theorem dX2_told_148 : decode cX2_told 148 = .ok (.aload_n 0, 1) := by decide +kernel
theorem dX2_told_149 : decode cX2_told 149 = .ok (.getfield 32, 3) := by decide +kernel
theorem dX2_told_152 : decode cX2_told 152 = .ok (.iload_n 1, 1) := by decide +kernel
theorem dX2_told_153 : decode cX2_told 153 = .ok (.iaload, 1) := by decide +kernel
theorem dX2_told_154 : decode cX2_told 154 = .ok (.ireturn, 1) := by decide +kernel
set_option maxRecDepth 20000 in
theorem ggX2_item_X2_isHook : GoodIn wsX2_item wsX2_isHook := goodIn_r _ [7] (by decide +kernel) (by decide +kernel)
set_option maxRecDepth 20000 in
theorem gX2_item_X2_isHook : GoodIn wsX2_item (va_wsS RX2 42 yX2_isHook wsX2_isHook) := goodIn_app (goodIn_of _ (by decide +kernel)) ggX2_item_X2_isHook
theorem dX2_item_0 : decode cX2_item 0 = .ok (.iload_n 1, 1) := by decide +kernel
theorem dX2_item_1 : decode cX2_item 1 = .ok (.invokestatic 42, 3) := by decide +kernel
theorem dX2_item_4 : decode cX2_item 4 = .ok (.ifCond .ne 5, 3) := by decide +kernel
theorem dX2_item_7 : decode cX2_item 7 = .ok (.iconst (-1), 1) := by decide +kernel
theorem dX2_item_8 : decode cX2_item 8 = .ok (.ireturn, 1) := by decide +kernel
theorem dX2_item_9 : decode cX2_item 9 = .ok (.aload_n 0, 1) := by decide +kernel
theorem dX2_item_10 : decode cX2_item 10 = .ok (.getfield 7, 3) := by decide +kernel
theorem dX2_item_13 : decode cX2_item 13 = .ok (.iload_n 1, 1) := by decide +kernel
theorem dX2_item_14 : decode cX2_item 14 = .ok (.baload, 1) := by decide +kernel
theorem dX2_item_15 : decode cX2_item 15 = .ok (.ifCond .ne 6, 3) := by decide +kernel
theorem dX2_item_18 : decode cX2_item 18 = .ok (.bipush (-2), 2) := by decide +kernel
theorem dX2_item_20 : decode cX2_item 20 = .ok (.ireturn, 1) := by decide +kernel
theorem dX2_item_21 : decode cX2_item 21 = .ok (.iload_n 2, 1) := by decide +kernel
theorem dX2_item_22 : decode cX2_item 22 = .ok (.ifCond .lt 27, 3) := by decide +kernel
theorem dX2_item_25 : decode cX2_item 25 = .ok (.iload_n 2, 1) := by decide +kernel
theorem dX2_item_26 : decode cX2_item 26 = .ok (.aload_n 0, 1) := by decide +kernel
theorem dX2_item_27 : decode cX2_item 27 = .ok (.getfield 26, 3) := by decide +kernel
theorem dX2_item_30 : decode cX2_item 30 = .ok (.iload_n 1, 1) := by decide +kernel
theorem dX2_item_31 : decode cX2_item 31 = .ok (.iaload, 1) := by decide +kernel
theorem dX2_item_32 : decode cX2_item 32 = .ok (.if_icmp .ge 17, 3) := by decide +kernel
theorem dX2_item_35 : decode cX2_item 35 = .ok (.aload_n 0, 1) := by decide +kernel
theorem dX2_item_36 : decode cX2_item 36 = .ok (.getfield 35, 3) := by decide +kernel
theorem dX2_item_39 : decode cX2_item 39 = .ok (.bipush 10, 2) := by decide +kernel
theorem dX2_item_41 : decode cX2_item 41 = .ok (.iload_n 1, 1) := by decide +kernel
theorem dX2_item_42 : decode cX2_item 42 = .ok (.imul, 1) := by decide +kernel
theorem dX2_item_43 : decode cX2_item 43 = .ok (.iload_n 2, 1) := by decide +kernel
theorem dX2_item_44 : decode cX2_item 44 = .ok (.iadd, 1) := by decide +kernel
theorem dX2_item_45 : decode cX2_item 45 = .ok (.iaload, 1) := by decide +kernel
theorem dX2_item_46 : decode cX2_item 46 = .ok (.goto 5, 3) := by decide +kernel
theorem dX2_item_49 : decode cX2_item 49 = .ok (.bipush (-8), 2) := by decide +kernel
theorem dX2_item_51 : decode cX2_item 51 = .ok (.ireturn, 1) := by decide +kernel
theorem dX2_latch_0 : decode cX2_latch 0 = .ok (.aload_n 0, 1) := by decide +kernel
theorem dX2_latch_1 : decode cX2_latch 1 = .ok (.getfield 49, 3) := by decide +kernel
theorem dX2_latch_4 : decode cX2_latch 4 = .ok (.ireturn, 1) := by decide +kernel
set_option maxRecDepth 20000 in
theorem ggL_law_X1_init : GoodIn wsL_law wsX1_init := goodIn_r _ [8, 9, 10, 11, 12, 13, 14, 285, 286] (by decide +kernel) (by decide +kernel)
set_option maxRecDepth 20000 in
theorem gL_law_X1_init : GoodIn wsL_law (wsX1_init) := ggL_law_X1_init
set_option maxRecDepth 20000 in
theorem ggL_law_X2_init : GoodIn wsL_law wsX2_init := goodIn_r _ [17, 18, 10, 11, 19, 20, 21, 22, 23, 24, 25, 26, 27, 28, 29, 287, 288, 289, 290, 291, 292, 293, 294, 295, 296] (by decide +kernel) (by decide +kernel)
set_option maxRecDepth 20000 in
theorem gL_law_X2_init : GoodIn wsL_law (wsX2_init) := ggL_law_X2_init
set_option maxRecDepth 20000 in
theorem ggL_law_X1_mount : GoodIn wsL_law wsX1_mount := goodIn_r _ [33, 13, 12, 34, 35, 36, 37, 2, 38, 39, 40, 41, 42, 43, 44, 45, 10, 11, 46, 47, 21, 48, 285, 286, 297, 298, 299, 300, 301, 302, 303, 304] (by decide +kernel) (by decide +kernel)
set_option maxRecDepth 20000 in
theorem gL_law_X1_mount : GoodIn wsL_law (wsV RL 13 RX1 yX1_mount wsX1_mount) := goodIn_app (goodIn_of _ (by decide +kernel)) ggL_law_X1_mount
set_option maxRecDepth 20000 in
theorem ggL_law_X2_mount : GoodIn wsL_law wsX2_mount := goodIn_r _ [52, 20, 22, 23, 24, 25, 26, 27, 28, 53, 54, 5, 55, 56, 57, 58, 287, 288, 289, 290, 291, 292, 293, 294, 295, 296] (by decide +kernel) (by decide +kernel)
set_option maxRecDepth 20000 in
theorem gL_law_X2_mount : GoodIn wsL_law (wsV RL 17 RX2 yX2_mount wsX2_mount) := goodIn_app (goodIn_of _ (by decide +kernel)) ggL_law_X2_mount
set_option maxRecDepth 20000 in
theorem ggL_law_X1_unmount : GoodIn wsL_law wsX1_unmount := goodIn_r _ [62, 14, 63, 13, 64, 36, 37, 2, 38, 65, 66, 67, 68, 69, 70, 71, 35, 72, 73, 285, 286, 297, 298, 299, 300, 301, 302, 303, 304] (by decide +kernel) (by decide +kernel)
set_option maxRecDepth 20000 in
theorem gL_law_X1_unmount : GoodIn wsL_law (wsV RL 18 RX1 yX1_unmount wsX1_unmount) := goodIn_app (goodIn_of _ (by decide +kernel)) ggL_law_X1_unmount
set_option maxRecDepth 20000 in
theorem ggL_law_X2_unmount : GoodIn wsL_law wsX2_unmount := goodIn_r _ [77, 78, 20, 26, 27, 53, 54, 5, 55, 79, 80, 81, 82, 28, 287, 288, 289, 290, 291, 292, 293, 294, 295, 296] (by decide +kernel) (by decide +kernel)
set_option maxRecDepth 20000 in
theorem gL_law_X2_unmount : GoodIn wsL_law (wsV RL 22 RX2 yX2_unmount wsX2_unmount) := goodIn_app (goodIn_of _ (by decide +kernel)) ggL_law_X2_unmount
set_option maxRecDepth 20000 in
theorem ggL_law_X1_open : GoodIn wsL_law wsX1_open := goodIn_r _ [86, 87, 88, 89, 36, 37, 2, 38, 65, 66, 67, 68, 13, 64, 69, 70, 71, 35, 72, 73, 297, 298, 299, 300, 301, 302, 303, 304, 285, 286] (by decide +kernel) (by decide +kernel)
set_option maxRecDepth 20000 in
theorem gL_law_X1_open : GoodIn wsL_law (wsV RL 23 RX1 yX1_open wsX1_open) := goodIn_app (goodIn_of _ (by decide +kernel)) ggL_law_X1_open
set_option maxRecDepth 20000 in
theorem ggL_law_X2_open : GoodIn wsL_law wsX2_open := goodIn_r _ [93, 20, 25, 23, 24, 53, 54, 5, 55, 79, 80, 81, 82, 27, 28, 287, 288, 289, 290, 291, 292, 293, 294, 295, 296] (by decide +kernel) (by decide +kernel)
set_option maxRecDepth 20000 in
theorem gL_law_X2_open : GoodIn wsL_law (wsV RL 27 RX2 yX2_open wsX2_open) := goodIn_app (goodIn_of _ (by decide +kernel)) ggL_law_X2_open
set_option maxRecDepth 20000 in
theorem ggL_law_X1_shut : GoodIn wsL_law wsX1_shut := goodIn_r _ [97, 89, 36, 37, 2, 38, 65, 66, 67, 68, 13, 64, 69, 70, 71, 35, 72, 73, 297, 298, 299, 300, 301, 302, 303, 304, 285, 286] (by decide +kernel) (by decide +kernel)
set_option maxRecDepth 20000 in
theorem gL_law_X1_shut : GoodIn wsL_law (wsV RL 28 RX1 yX1_shut wsX1_shut) := goodIn_app (goodIn_of _ (by decide +kernel)) ggL_law_X1_shut
set_option maxRecDepth 20000 in
theorem ggL_law_X2_shut : GoodIn wsL_law wsX2_shut := goodIn_r _ [101, 20, 24, 53, 54, 5, 55, 79, 80, 81, 82, 27, 28, 287, 288, 289, 290, 291, 292, 293, 294, 295, 296] (by decide +kernel) (by decide +kernel)
set_option maxRecDepth 20000 in
theorem gL_law_X2_shut : GoodIn wsL_law (wsV RL 31 RX2 yX2_shut wsX2_shut) := goodIn_app (goodIn_of _ (by decide +kernel)) ggL_law_X2_shut
set_option maxRecDepth 20000 in
theorem ggL_law_X1_put : GoodIn wsL_law wsX1_put := goodIn_r _ [105, 89, 63, 36, 37, 2, 38, 39, 40, 41, 65, 66, 67, 68, 13, 64, 69, 70, 71, 35, 72, 73, 106, 107, 108, 109, 110, 46, 48, 111, 112, 113, 114, 297, 298, 299, 300, 301, 302, 303, 304, 285, 286] (by decide +kernel) (by decide +kernel)
set_option maxRecDepth 20000 in
theorem gL_law_X1_put : GoodIn wsL_law (wsV RL 32 RX1 yX1_put wsX1_put) := goodIn_app (goodIn_of _ (by decide +kernel)) ggL_law_X1_put
set_option maxRecDepth 20000 in
theorem ggL_law_X2_put : GoodIn wsL_law wsX2_put := goodIn_r _ [118, 20, 24, 26, 53, 54, 5, 55, 56, 57, 58, 79, 80, 81, 82, 27, 28, 119, 120, 121, 122, 22, 123, 124, 125, 126, 29, 127, 128, 129, 130, 287, 288, 289, 290, 291, 292, 293, 294, 295, 296] (by decide +kernel) (by decide +kernel)
set_option maxRecDepth 20000 in
theorem gL_law_X2_put : GoodIn wsL_law (wsV RL 35 RX2 yX2_put wsX2_put) := goodIn_app (goodIn_of _ (by decide +kernel)) ggL_law_X2_put
set_option maxRecDepth 20000 in
theorem ggL_law_X1_take : GoodIn wsL_law wsX1_take := goodIn_r _ [134, 89, 63, 36, 37, 2, 38, 65, 66, 67, 68, 13, 64, 69, 70, 71, 35, 72, 73, 135, 136, 137, 138, 110, 48, 297, 298, 299, 300, 301, 302, 303, 304, 285, 286] (by decide +kernel) (by decide +kernel)
set_option maxRecDepth 20000 in
theorem gL_law_X1_take : GoodIn wsL_law (wsV RL 36 RX1 yX1_take wsX1_take) := goodIn_app (goodIn_of _ (by decide +kernel)) ggL_law_X1_take
set_option maxRecDepth 20000 in
theorem ggL_law_X2_take : GoodIn wsL_law wsX2_take := goodIn_r _ [142, 20, 24, 26, 53, 54, 5, 55, 79, 80, 81, 82, 27, 28, 143, 144, 145, 146, 29, 287, 288, 289, 290, 291, 292, 293, 294, 295, 296] (by decide +kernel) (by decide +kernel)
set_option maxRecDepth 20000 in
theorem gL_law_X2_take : GoodIn wsL_law (wsV RL 39 RX2 yX2_take wsX2_take) := goodIn_app (goodIn_of _ (by decide +kernel)) ggL_law_X2_take
set_option maxRecDepth 20000 in
theorem ggL_law_X1_move : GoodIn wsL_law wsX1_move := goodIn_r _ [150, 151, 152, 153, 2, 154, 89, 36, 37, 38, 65, 66, 67, 68, 13, 64, 69, 70, 71, 35, 72, 73, 155, 156, 157, 158, 159, 160, 161, 63, 162, 112, 113, 114, 110, 48, 163, 164, 165, 166, 167, 168, 169, 135, 136, 137, 138, 106, 107, 108, 109, 46, 111, 297, 298, 299, 300, 301, 302, 303, 304, 285, 286] (by decide +kernel) (by decide +kernel)
set_option maxRecDepth 20000 in
theorem gL_law_X1_move : GoodIn wsL_law (wsV RL 40 RX1 yX1_move wsX1_move) := goodIn_app (goodIn_of _ (by decide +kernel)) ggL_law_X1_move
set_option maxRecDepth 20000 in
theorem ggL_law_X2_move : GoodIn wsL_law wsX2_move := goodIn_r _ [173, 20, 24, 26, 53, 54, 5, 55, 79, 80, 81, 82, 27, 28, 174, 175, 176, 177, 143, 144, 145, 146, 29, 119, 120, 121, 122, 22, 123, 124, 125, 126, 127, 128, 129, 130, 287, 288, 289, 290, 291, 292, 293, 294, 295, 296] (by decide +kernel) (by decide +kernel)
set_option maxRecDepth 20000 in
theorem gL_law_X2_move : GoodIn wsL_law (wsV RL 43 RX2 yX2_move wsX2_move) := goodIn_app (goodIn_of _ (by decide +kernel)) ggL_law_X2_move
set_option maxRecDepth 20000 in
theorem ggL_law_X1_swap : GoodIn wsL_law wsX1_swap := goodIn_r _ [181, 151, 152, 153, 2, 154, 89, 36, 37, 38, 65, 66, 67, 68, 13, 64, 69, 70, 71, 35, 72, 73, 155, 156, 157, 158, 159, 160, 161, 63, 162, 112, 113, 114, 110, 48, 163, 164, 165, 166, 167, 168, 169, 135, 136, 137, 138, 106, 107, 108, 109, 46, 111, 297, 298, 299, 300, 301, 302, 303, 304, 285, 286] (by decide +kernel) (by decide +kernel)
set_option maxRecDepth 20000 in
theorem gL_law_X1_swap : GoodIn wsL_law (wsV RL 44 RX1 yX1_swap wsX1_swap) := goodIn_app (goodIn_of _ (by decide +kernel)) ggL_law_X1_swap
set_option maxRecDepth 20000 in
theorem ggL_law_X2_swap : GoodIn wsL_law wsX2_swap := goodIn_r _ [185, 20, 24, 22, 29, 26, 53, 54, 5, 55, 79, 80, 81, 82, 27, 28, 174, 175, 176, 177, 123, 124, 125, 126, 287, 288, 289, 290, 291, 292, 293, 294, 295, 296] (by decide +kernel) (by decide +kernel)
set_option maxRecDepth 20000 in
theorem gL_law_X2_swap : GoodIn wsL_law (wsV RL 47 RX2 yX2_swap wsX2_swap) := goodIn_app (goodIn_of _ (by decide +kernel)) ggL_law_X2_swap
set_option maxRecDepth 20000 in
theorem ggL_law_X1_find : GoodIn wsL_law wsX1_find := goodIn_r _ [189, 89, 39, 40, 2, 41, 65, 66, 67, 68, 13, 64, 36, 37, 38, 69, 70, 71, 35, 72, 73, 190, 191, 192, 193, 110, 48, 297, 298, 299, 300, 301, 302, 303, 304, 285, 286] (by decide +kernel) (by decide +kernel)
set_option maxRecDepth 20000 in
theorem gL_law_X1_find : GoodIn wsL_law (wsV RL 48 RX1 yX1_find wsX1_find) := goodIn_app (goodIn_of _ (by decide +kernel)) ggL_law_X1_find
set_option maxRecDepth 20000 in
theorem ggL_law_X2_find : GoodIn wsL_law wsX2_find := goodIn_r _ [197, 20, 24, 56, 57, 5, 58, 198, 199, 200, 201, 26, 29, 79, 80, 81, 82, 27, 28, 287, 288, 289, 290, 291, 292, 293, 294, 295, 296] (by decide +kernel) (by decide +kernel)
set_option maxRecDepth 20000 in
theorem gL_law_X2_find : GoodIn wsL_law (wsV RL 51 RX2 yX2_find wsX2_find) := goodIn_app (goodIn_of _ (by decide +kernel)) ggL_law_X2_find
set_option maxRecDepth 20000 in
theorem ggL_law_X1_weigh : GoodIn wsL_law wsX1_weigh := goodIn_r _ [205, 14, 36, 37, 2, 38, 206, 207, 208, 209, 65, 66, 67, 68, 13, 64, 210, 211, 212, 213, 162, 112, 113, 35, 114, 110, 48, 69, 70, 71, 72, 73, 285, 286, 297, 298, 299, 300, 301, 302, 303, 304] (by decide +kernel) (by decide +kernel)
set_option maxRecDepth 20000 in
theorem gL_law_X1_weigh : GoodIn wsL_law (wsV RL 52 RX1 yX1_weigh wsX1_weigh) := goodIn_app (goodIn_of _ (by decide +kernel)) ggL_law_X1_weigh
set_option maxRecDepth 20000 in
theorem ggL_law_X2_weigh : GoodIn wsL_law wsX2_weigh := goodIn_r _ [217, 78, 20, 53, 54, 5, 55, 123, 124, 125, 126, 26, 29, 79, 80, 81, 82, 27, 28, 287, 288, 289, 290, 291, 292, 293, 294, 295, 296] (by decide +kernel) (by decide +kernel)
set_option maxRecDepth 20000 in
theorem gL_law_X2_weigh : GoodIn wsL_law (wsV RL 55 RX2 yX2_weigh wsX2_weigh) := goodIn_app (goodIn_of _ (by decide +kernel)) ggL_law_X2_weigh
set_option maxRecDepth 20000 in
theorem ggL_law_X1_drop : GoodIn wsL_law wsX1_drop := goodIn_r _ [221, 89, 63, 36, 37, 2, 38, 65, 66, 67, 68, 13, 64, 69, 70, 71, 35, 72, 73, 135, 136, 137, 138, 110, 48, 297, 298, 299, 300, 301, 302, 303, 304, 285, 286] (by decide +kernel) (by decide +kernel)
set_option maxRecDepth 20000 in
theorem gL_law_X1_drop : GoodIn wsL_law (wsV RL 56 RX1 yX1_drop wsX1_drop) := goodIn_app (goodIn_of _ (by decide +kernel)) ggL_law_X1_drop
set_option maxRecDepth 20000 in
theorem ggL_law_X2_drop : GoodIn wsL_law wsX2_drop := goodIn_r _ [225, 20, 24, 26, 53, 54, 5, 55, 79, 80, 81, 82, 27, 28, 143, 144, 145, 146, 29, 287, 288, 289, 290, 291, 292, 293, 294, 295, 296] (by decide +kernel) (by decide +kernel)
set_option maxRecDepth 20000 in
theorem gL_law_X2_drop : GoodIn wsL_law (wsV RL 59 RX2 yX2_drop wsX2_drop) := goodIn_app (goodIn_of _ (by decide +kernel)) ggL_law_X2_drop
set_option maxRecDepth 20000 in
theorem ggL_law_X1_tally : GoodIn wsL_law wsX1_tally := goodIn_r _ [229, 14, 65, 66, 67, 2, 68, 13, 64, 36, 37, 38, 162, 112, 113, 35, 114, 110, 48, 69, 70, 71, 72, 73, 285, 286, 297, 298, 299, 300, 301, 302, 303, 304] (by decide +kernel) (by decide +kernel)
set_option maxRecDepth 20000 in
theorem gL_law_X1_tally : GoodIn wsL_law (wsV RL 60 RX1 yX1_tally wsX1_tally) := goodIn_app (goodIn_of _ (by decide +kernel)) ggL_law_X1_tally
set_option maxRecDepth 20000 in
theorem ggL_law_X2_tally : GoodIn wsL_law wsX2_tally := goodIn_r _ [233, 78, 20, 123, 124, 125, 5, 126, 26, 29, 79, 80, 81, 82, 27, 28, 287, 288, 289, 290, 291, 292, 293, 294, 295, 296] (by decide +kernel) (by decide +kernel)
set_option maxRecDepth 20000 in
theorem gL_law_X2_tally : GoodIn wsL_law (wsV RL 64 RX2 yX2_tally wsX2_tally) := goodIn_app (goodIn_of _ (by decide +kernel)) ggL_law_X2_tally
set_option maxRecDepth 20000 in
theorem ggL_law_X1_first : GoodIn wsL_law wsX1_first := goodIn_r _ [237, 65, 66, 67, 2, 68, 13, 64, 36, 37, 38, 162, 112, 113, 35, 114, 110, 48, 69, 70, 71, 72, 73, 285, 286, 297, 298, 299, 300, 301, 302, 303, 304] (by decide +kernel) (by decide +kernel)
set_option maxRecDepth 20000 in
theorem gL_law_X1_first : GoodIn wsL_law (wsV RL 65 RX1 yX1_first wsX1_first) := goodIn_app (goodIn_of _ (by decide +kernel)) ggL_law_X1_first
set_option maxRecDepth 20000 in
theorem ggL_law_X2_first : GoodIn wsL_law wsX2_first := goodIn_r _ [241, 20, 123, 124, 125, 5, 126, 26, 29, 79, 80, 81, 82, 27, 28, 287, 288, 289, 290, 291, 292, 293, 294, 295, 296] (by decide +kernel) (by decide +kernel)
set_option maxRecDepth 20000 in
theorem gL_law_X2_first : GoodIn wsL_law (wsV RL 68 RX2 yX2_first wsX2_first) := goodIn_app (goodIn_of _ (by decide +kernel)) ggL_law_X2_first
set_option maxRecDepth 20000 in
theorem ggL_law_X1_recode : GoodIn wsL_law wsX1_recode := goodIn_r _ [245, 89, 88, 36, 37, 2, 38, 65, 66, 67, 68, 13, 64, 69, 70, 71, 35, 72, 73, 297, 298, 299, 300, 301, 302, 303, 304, 285, 286] (by decide +kernel) (by decide +kernel)
set_option maxRecDepth 20000 in
theorem gL_law_X1_recode : GoodIn wsL_law (wsV RL 69 RX1 yX1_recode wsX1_recode) := goodIn_app (goodIn_of _ (by decide +kernel)) ggL_law_X1_recode
set_option maxRecDepth 20000 in
theorem ggL_law_X2_recode : GoodIn wsL_law wsX2_recode := goodIn_r _ [249, 20, 27, 28, 24, 23, 53, 54, 5, 55, 287, 288, 289, 290, 291, 292, 293, 294, 295, 296] (by decide +kernel) (by decide +kernel)
set_option maxRecDepth 20000 in
theorem gL_law_X2_recode : GoodIn wsL_law (wsV RL 72 RX2 yX2_recode wsX2_recode) := goodIn_app (goodIn_of _ (by decide +kernel)) ggL_law_X2_recode
set_option maxRecDepth 20000 in
theorem ggL_law_X1_told : GoodIn wsL_law wsX1_told := goodIn_r _ [253, 13, 36, 37, 2, 38, 254, 255, 256, 35, 257, 46, 47, 258, 259, 110, 260, 73, 111, 112, 113, 114, 48, 285, 286, 297, 298, 299, 300, 301, 302, 303, 304] (by decide +kernel) (by decide +kernel)
set_option maxRecDepth 20000 in
theorem gL_law_X1_told : GoodIn wsL_law (wsV RL 73 RX1 yX1_told wsX1_told) := goodIn_app (goodIn_of _ (by decide +kernel)) ggL_law_X1_told
set_option maxRecDepth 20000 in
theorem ggL_law_X2_told : GoodIn wsL_law wsX2_told := goodIn_r _ [264, 20, 22, 23, 24, 25, 26, 27, 28, 53, 54, 5, 55, 123, 124, 125, 126, 29, 287, 288, 289, 290, 291, 292, 293, 294, 295, 296] (by decide +kernel) (by decide +kernel)
set_option maxRecDepth 20000 in
theorem gL_law_X2_told : GoodIn wsL_law (wsV RL 76 RX2 yX2_told wsX2_told) := goodIn_app (goodIn_of _ (by decide +kernel)) ggL_law_X2_told
set_option maxRecDepth 20000 in
theorem ggL_law_X1_item : GoodIn wsL_law wsX1_item := goodIn_r _ [268, 13, 36, 37, 2, 38, 269, 270, 271, 35, 272, 110, 48, 285, 286, 297, 298, 299, 300, 301, 302, 303, 304] (by decide +kernel) (by decide +kernel)
set_option maxRecDepth 20000 in
theorem gL_law_X1_item : GoodIn wsL_law (wsV RL 77 RX1 yX1_item wsX1_item) := goodIn_app (goodIn_of _ (by decide +kernel)) ggL_law_X1_item
set_option maxRecDepth 20000 in
theorem ggL_law_X2_item : GoodIn wsL_law wsX2_item := goodIn_r _ [276, 20, 26, 29, 53, 54, 5, 55, 287, 288, 289, 290, 291, 292, 293, 294, 295, 296] (by decide +kernel) (by decide +kernel)
set_option maxRecDepth 20000 in
theorem gL_law_X2_item : GoodIn wsL_law (wsV RL 80 RX2 yX2_item wsX2_item) := goodIn_app (goodIn_of _ (by decide +kernel)) ggL_law_X2_item
set_option maxRecDepth 20000 in
theorem ggL_law_X1_latch : GoodIn wsL_law wsX1_latch := goodIn_r _ [280, 14, 285, 286] (by decide +kernel) (by decide +kernel)
set_option maxRecDepth 20000 in
theorem gL_law_X1_latch : GoodIn wsL_law (wsV RL 81 RX1 yX1_latch wsX1_latch) := goodIn_app (goodIn_of _ (by decide +kernel)) ggL_law_X1_latch
set_option maxRecDepth 20000 in
theorem ggL_law_X2_latch : GoodIn wsL_law wsX2_latch := goodIn_r _ [284, 78, 287, 288, 289, 290, 291, 292, 293, 294, 295, 296] (by decide +kernel) (by decide +kernel)
set_option maxRecDepth 20000 in
theorem gL_law_X2_latch : GoodIn wsL_law (wsV RL 85 RX2 yX2_latch wsX2_latch) := goodIn_app (goodIn_of _ (by decide +kernel)) ggL_law_X2_latch
theorem dL_law_0 : decode cL_law 0 = .ok (.new 7, 3) := by decide +kernel
theorem dL_law_3 : decode cL_law 3 = .ok (.dup, 1) := by decide +kernel
theorem dL_law_4 : decode cL_law 4 = .ok (.invokespecial 9, 3) := by decide +kernel
theorem dL_law_7 : decode cL_law 7 = .ok (.astore_n 1, 1) := by decide +kernel
theorem dL_law_8 : decode cL_law 8 = .ok (.new 10, 3) := by decide +kernel
theorem dL_law_11 : decode cL_law 11 = .ok (.dup, 1) := by decide +kernel
theorem dL_law_12 : decode cL_law 12 = .ok (.invokespecial 12, 3) := by decide +kernel
theorem dL_law_15 : decode cL_law 15 = .ok (.astore_n 2, 1) := by decide +kernel
theorem dL_law_16 : decode cL_law 16 = .ok (.iconst 0, 1) := by decide +kernel
theorem dL_law_17 : decode cL_law 17 = .ok (.istore_n 3, 1) := by decide +kernel
theorem dL_law_18 : decode cL_law 18 = .ok (.iload_n 3, 1) := by decide +kernel
theorem dL_law_19 : decode cL_law 19 = .ok (.aload_n 0, 1) := by decide +kernel
theorem dL_law_20 : decode cL_law 20 = .ok (.arraylength, 1) := by decide +kernel
theorem dL_law_21 : decode cL_law 21 = .ok (.iconst 4, 1) := by decide +kernel
theorem dL_law_22 : decode cL_law 22 = .ok (.isub, 1) := by decide +kernel
theorem dL_law_23 : decode cL_law 23 = .ok (.if_icmp .gt 591, 3) := by decide +kernel
theorem dL_law_26 : decode cL_law 26 = .ok (.aload_n 0, 1) := by decide +kernel
theorem dL_law_27 : decode cL_law 27 = .ok (.iload_n 3, 1) := by decide +kernel
theorem dL_law_28 : decode cL_law 28 = .ok (.iaload, 1) := by decide +kernel
theorem dL_law_29 : decode cL_law 29 = .ok (.bipush 31, 2) := by decide +kernel
theorem dL_law_31 : decode cL_law 31 = .ok (.iand, 1) := by decide +kernel
theorem dL_law_32 : decode cL_law 32 = .ok (.tableswitch 576 0 16 #[84, 127, 150, 183, 206, 239, 262, 295, 328, 351, 384, 427, 441, 464, 497, 530, 563], 84) := by decide +kernel
theorem dL_law_116 : decode cL_law 116 = .ok (.aload_n 1, 1) := by decide +kernel
theorem dL_law_117 : decode cL_law 117 = .ok (.aload_n 0, 1) := by decide +kernel
theorem dL_law_118 : decode cL_law 118 = .ok (.iload_n 3, 1) := by decide +kernel
theorem dL_law_119 : decode cL_law 119 = .ok (.iconst 1, 1) := by decide +kernel
theorem dL_law_120 : decode cL_law 120 = .ok (.iadd, 1) := by decide +kernel
theorem dL_law_121 : decode cL_law 121 = .ok (.iaload, 1) := by decide +kernel
theorem dL_law_122 : decode cL_law 122 = .ok (.aload_n 0, 1) := by decide +kernel
theorem dL_law_123 : decode cL_law 123 = .ok (.iload_n 3, 1) := by decide +kernel
theorem dL_law_124 : decode cL_law 124 = .ok (.iconst 2, 1) := by decide +kernel
theorem dL_law_125 : decode cL_law 125 = .ok (.iadd, 1) := by decide +kernel
theorem dL_law_126 : decode cL_law 126 = .ok (.iaload, 1) := by decide +kernel
theorem dL_law_127 : decode cL_law 127 = .ok (.aload_n 0, 1) := by decide +kernel
theorem dL_law_128 : decode cL_law 128 = .ok (.iload_n 3, 1) := by decide +kernel
theorem dL_law_129 : decode cL_law 129 = .ok (.iconst 3, 1) := by decide +kernel
theorem dL_law_130 : decode cL_law 130 = .ok (.iadd, 1) := by decide +kernel
theorem dL_law_131 : decode cL_law 131 = .ok (.iaload, 1) := by decide +kernel
theorem dL_law_132 : decode cL_law 132 = .ok (.invokevirtual 13, 3) := by decide +kernel
theorem dL_law_135 : decode cL_law 135 = .ok (.aload_n 2, 1) := by decide +kernel
theorem dL_law_136 : decode cL_law 136 = .ok (.aload_n 0, 1) := by decide +kernel
theorem dL_law_137 : decode cL_law 137 = .ok (.iload_n 3, 1) := by decide +kernel
theorem dL_law_138 : decode cL_law 138 = .ok (.iconst 1, 1) := by decide +kernel
theorem dL_law_139 : decode cL_law 139 = .ok (.iadd, 1) := by decide +kernel
theorem dL_law_140 : decode cL_law 140 = .ok (.iaload, 1) := by decide +kernel
theorem dL_law_141 : decode cL_law 141 = .ok (.aload_n 0, 1) := by decide +kernel
theorem dL_law_142 : decode cL_law 142 = .ok (.iload_n 3, 1) := by decide +kernel
theorem dL_law_143 : decode cL_law 143 = .ok (.iconst 2, 1) := by decide +kernel
theorem dL_law_144 : decode cL_law 144 = .ok (.iadd, 1) := by decide +kernel
theorem dL_law_145 : decode cL_law 145 = .ok (.iaload, 1) := by decide +kernel
theorem dL_law_146 : decode cL_law 146 = .ok (.aload_n 0, 1) := by decide +kernel
theorem dL_law_147 : decode cL_law 147 = .ok (.iload_n 3, 1) := by decide +kernel
theorem dL_law_148 : decode cL_law 148 = .ok (.iconst 3, 1) := by decide +kernel
theorem dL_law_149 : decode cL_law 149 = .ok (.iadd, 1) := by decide +kernel
theorem dL_law_150 : decode cL_law 150 = .ok (.iaload, 1) := by decide +kernel
theorem dL_law_151 : decode cL_law 151 = .ok (.invokevirtual 17, 3) := by decide +kernel
theorem dL_law_154 : decode cL_law 154 = .ok (.if_icmp .eq 454, 3) := by decide +kernel
theorem dL_law_157 : decode cL_law 157 = .ok (.iconst 0, 1) := by decide +kernel
theorem dL_law_158 : decode cL_law 158 = .ok (.ireturn, 1) := by decide +kernel
theorem dL_law_159 : decode cL_law 159 = .ok (.aload_n 1, 1) := by decide +kernel
theorem dL_law_160 : decode cL_law 160 = .ok (.aload_n 0, 1) := by decide +kernel
theorem dL_law_161 : decode cL_law 161 = .ok (.iload_n 3, 1) := by decide +kernel
theorem dL_law_162 : decode cL_law 162 = .ok (.iconst 1, 1) := by decide +kernel
theorem dL_law_163 : decode cL_law 163 = .ok (.iadd, 1) := by decide +kernel
theorem dL_law_164 : decode cL_law 164 = .ok (.iaload, 1) := by decide +kernel
theorem dL_law_165 : decode cL_law 165 = .ok (.invokevirtual 18, 3) := by decide +kernel
theorem dL_law_168 : decode cL_law 168 = .ok (.aload_n 2, 1) := by decide +kernel
theorem dL_law_169 : decode cL_law 169 = .ok (.aload_n 0, 1) := by decide +kernel
theorem dL_law_170 : decode cL_law 170 = .ok (.iload_n 3, 1) := by decide +kernel
theorem dL_law_171 : decode cL_law 171 = .ok (.iconst 1, 1) := by decide +kernel
theorem dL_law_172 : decode cL_law 172 = .ok (.iadd, 1) := by decide +kernel
theorem dL_law_173 : decode cL_law 173 = .ok (.iaload, 1) := by decide +kernel
theorem dL_law_174 : decode cL_law 174 = .ok (.invokevirtual 22, 3) := by decide +kernel
theorem dL_law_177 : decode cL_law 177 = .ok (.if_icmp .eq 431, 3) := by decide +kernel
theorem dL_law_180 : decode cL_law 180 = .ok (.iconst 0, 1) := by decide +kernel
theorem dL_law_181 : decode cL_law 181 = .ok (.ireturn, 1) := by decide +kernel
theorem dL_law_182 : decode cL_law 182 = .ok (.aload_n 1, 1) := by decide +kernel
theorem dL_law_183 : decode cL_law 183 = .ok (.aload_n 0, 1) := by decide +kernel
theorem dL_law_184 : decode cL_law 184 = .ok (.iload_n 3, 1) := by decide +kernel
theorem dL_law_185 : decode cL_law 185 = .ok (.iconst 1, 1) := by decide +kernel
theorem dL_law_186 : decode cL_law 186 = .ok (.iadd, 1) := by decide +kernel
theorem dL_law_187 : decode cL_law 187 = .ok (.iaload, 1) := by decide +kernel
theorem dL_law_188 : decode cL_law 188 = .ok (.aload_n 0, 1) := by decide +kernel
theorem dL_law_189 : decode cL_law 189 = .ok (.iload_n 3, 1) := by decide +kernel
theorem dL_law_190 : decode cL_law 190 = .ok (.iconst 2, 1) := by decide +kernel
theorem dL_law_191 : decode cL_law 191 = .ok (.iadd, 1) := by decide +kernel
theorem dL_law_192 : decode cL_law 192 = .ok (.iaload, 1) := by decide +kernel
theorem dL_law_193 : decode cL_law 193 = .ok (.invokevirtual 23, 3) := by decide +kernel
theorem dL_law_196 : decode cL_law 196 = .ok (.aload_n 2, 1) := by decide +kernel
theorem dL_law_197 : decode cL_law 197 = .ok (.aload_n 0, 1) := by decide +kernel
theorem dL_law_198 : decode cL_law 198 = .ok (.iload_n 3, 1) := by decide +kernel
theorem dL_law_199 : decode cL_law 199 = .ok (.iconst 1, 1) := by decide +kernel
theorem dL_law_200 : decode cL_law 200 = .ok (.iadd, 1) := by decide +kernel
theorem dL_law_201 : decode cL_law 201 = .ok (.iaload, 1) := by decide +kernel
theorem dL_law_202 : decode cL_law 202 = .ok (.aload_n 0, 1) := by decide +kernel
theorem dL_law_203 : decode cL_law 203 = .ok (.iload_n 3, 1) := by decide +kernel
theorem dL_law_204 : decode cL_law 204 = .ok (.iconst 2, 1) := by decide +kernel
theorem dL_law_205 : decode cL_law 205 = .ok (.iadd, 1) := by decide +kernel
theorem dL_law_206 : decode cL_law 206 = .ok (.iaload, 1) := by decide +kernel
theorem dL_law_207 : decode cL_law 207 = .ok (.invokevirtual 27, 3) := by decide +kernel
theorem dL_law_210 : decode cL_law 210 = .ok (.if_icmp .eq 398, 3) := by decide +kernel
theorem dL_law_213 : decode cL_law 213 = .ok (.iconst 0, 1) := by decide +kernel
theorem dL_law_214 : decode cL_law 214 = .ok (.ireturn, 1) := by decide +kernel
theorem dL_law_215 : decode cL_law 215 = .ok (.aload_n 1, 1) := by decide +kernel
theorem dL_law_216 : decode cL_law 216 = .ok (.aload_n 0, 1) := by decide +kernel
theorem dL_law_217 : decode cL_law 217 = .ok (.iload_n 3, 1) := by decide +kernel
theorem dL_law_218 : decode cL_law 218 = .ok (.iconst 1, 1) := by decide +kernel
theorem dL_law_219 : decode cL_law 219 = .ok (.iadd, 1) := by decide +kernel
theorem dL_law_220 : decode cL_law 220 = .ok (.iaload, 1) := by decide +kernel
theorem dL_law_221 : decode cL_law 221 = .ok (.invokevirtual 28, 3) := by decide +kernel
theorem dL_law_224 : decode cL_law 224 = .ok (.aload_n 2, 1) := by decide +kernel
theorem dL_law_225 : decode cL_law 225 = .ok (.aload_n 0, 1) := by decide +kernel
theorem dL_law_226 : decode cL_law 226 = .ok (.iload_n 3, 1) := by decide +kernel
theorem dL_law_227 : decode cL_law 227 = .ok (.iconst 1, 1) := by decide +kernel
theorem dL_law_228 : decode cL_law 228 = .ok (.iadd, 1) := by decide +kernel
theorem dL_law_229 : decode cL_law 229 = .ok (.iaload, 1) := by decide +kernel
theorem dL_law_230 : decode cL_law 230 = .ok (.invokevirtual 31, 3) := by decide +kernel
theorem dL_law_233 : decode cL_law 233 = .ok (.if_icmp .eq 375, 3) := by decide +kernel
theorem dL_law_236 : decode cL_law 236 = .ok (.iconst 0, 1) := by decide +kernel
theorem dL_law_237 : decode cL_law 237 = .ok (.ireturn, 1) := by decide +kernel
theorem dL_law_238 : decode cL_law 238 = .ok (.aload_n 1, 1) := by decide +kernel
theorem dL_law_239 : decode cL_law 239 = .ok (.aload_n 0, 1) := by decide +kernel
theorem dL_law_240 : decode cL_law 240 = .ok (.iload_n 3, 1) := by decide +kernel
theorem dL_law_241 : decode cL_law 241 = .ok (.iconst 1, 1) := by decide +kernel
theorem dL_law_242 : decode cL_law 242 = .ok (.iadd, 1) := by decide +kernel
theorem dL_law_243 : decode cL_law 243 = .ok (.iaload, 1) := by decide +kernel
theorem dL_law_244 : decode cL_law 244 = .ok (.aload_n 0, 1) := by decide +kernel
theorem dL_law_245 : decode cL_law 245 = .ok (.iload_n 3, 1) := by decide +kernel
theorem dL_law_246 : decode cL_law 246 = .ok (.iconst 2, 1) := by decide +kernel
theorem dL_law_247 : decode cL_law 247 = .ok (.iadd, 1) := by decide +kernel
theorem dL_law_248 : decode cL_law 248 = .ok (.iaload, 1) := by decide +kernel
theorem dL_law_249 : decode cL_law 249 = .ok (.invokevirtual 32, 3) := by decide +kernel
theorem dL_law_252 : decode cL_law 252 = .ok (.aload_n 2, 1) := by decide +kernel
theorem dL_law_253 : decode cL_law 253 = .ok (.aload_n 0, 1) := by decide +kernel
theorem dL_law_254 : decode cL_law 254 = .ok (.iload_n 3, 1) := by decide +kernel
theorem dL_law_255 : decode cL_law 255 = .ok (.iconst 1, 1) := by decide +kernel
theorem dL_law_256 : decode cL_law 256 = .ok (.iadd, 1) := by decide +kernel
theorem dL_law_257 : decode cL_law 257 = .ok (.iaload, 1) := by decide +kernel
theorem dL_law_258 : decode cL_law 258 = .ok (.aload_n 0, 1) := by decide +kernel
theorem dL_law_259 : decode cL_law 259 = .ok (.iload_n 3, 1) := by decide +kernel
theorem dL_law_260 : decode cL_law 260 = .ok (.iconst 2, 1) := by decide +kernel
theorem dL_law_261 : decode cL_law 261 = .ok (.iadd, 1) := by decide +kernel
theorem dL_law_262 : decode cL_law 262 = .ok (.iaload, 1) := by decide +kernel
theorem dL_law_263 : decode cL_law 263 = .ok (.invokevirtual 35, 3) := by decide +kernel
theorem dL_law_266 : decode cL_law 266 = .ok (.if_icmp .eq 342, 3) := by decide +kernel
theorem dL_law_269 : decode cL_law 269 = .ok (.iconst 0, 1) := by decide +kernel
theorem dL_law_270 : decode cL_law 270 = .ok (.ireturn, 1) := by decide +kernel
theorem dL_law_271 : decode cL_law 271 = .ok (.aload_n 1, 1) := by decide +kernel
theorem dL_law_272 : decode cL_law 272 = .ok (.aload_n 0, 1) := by decide +kernel
theorem dL_law_273 : decode cL_law 273 = .ok (.iload_n 3, 1) := by decide +kernel
theorem dL_law_274 : decode cL_law 274 = .ok (.iconst 1, 1) := by decide +kernel
theorem dL_law_275 : decode cL_law 275 = .ok (.iadd, 1) := by decide +kernel
theorem dL_law_276 : decode cL_law 276 = .ok (.iaload, 1) := by decide +kernel
theorem dL_law_277 : decode cL_law 277 = .ok (.invokevirtual 36, 3) := by decide +kernel
theorem dL_law_280 : decode cL_law 280 = .ok (.aload_n 2, 1) := by decide +kernel
theorem dL_law_281 : decode cL_law 281 = .ok (.aload_n 0, 1) := by decide +kernel
theorem dL_law_282 : decode cL_law 282 = .ok (.iload_n 3, 1) := by decide +kernel
theorem dL_law_283 : decode cL_law 283 = .ok (.iconst 1, 1) := by decide +kernel
theorem dL_law_284 : decode cL_law 284 = .ok (.iadd, 1) := by decide +kernel
theorem dL_law_285 : decode cL_law 285 = .ok (.iaload, 1) := by decide +kernel
theorem dL_law_286 : decode cL_law 286 = .ok (.invokevirtual 39, 3) := by decide +kernel
theorem dL_law_289 : decode cL_law 289 = .ok (.if_icmp .eq 319, 3) := by decide +kernel
theorem dL_law_292 : decode cL_law 292 = .ok (.iconst 0, 1) := by decide +kernel
theorem dL_law_293 : decode cL_law 293 = .ok (.ireturn, 1) := by decide +kernel
theorem dL_law_294 : decode cL_law 294 = .ok (.aload_n 1, 1) := by decide +kernel
theorem dL_law_295 : decode cL_law 295 = .ok (.aload_n 0, 1) := by decide +kernel
theorem dL_law_296 : decode cL_law 296 = .ok (.iload_n 3, 1) := by decide +kernel
theorem dL_law_297 : decode cL_law 297 = .ok (.iconst 1, 1) := by decide +kernel
theorem dL_law_298 : decode cL_law 298 = .ok (.iadd, 1) := by decide +kernel
theorem dL_law_299 : decode cL_law 299 = .ok (.iaload, 1) := by decide +kernel
theorem dL_law_300 : decode cL_law 300 = .ok (.aload_n 0, 1) := by decide +kernel
theorem dL_law_301 : decode cL_law 301 = .ok (.iload_n 3, 1) := by decide +kernel
theorem dL_law_302 : decode cL_law 302 = .ok (.iconst 2, 1) := by decide +kernel
theorem dL_law_303 : decode cL_law 303 = .ok (.iadd, 1) := by decide +kernel
theorem dL_law_304 : decode cL_law 304 = .ok (.iaload, 1) := by decide +kernel
theorem dL_law_305 : decode cL_law 305 = .ok (.invokevirtual 40, 3) := by decide +kernel
theorem dL_law_308 : decode cL_law 308 = .ok (.aload_n 2, 1) := by decide +kernel
theorem dL_law_309 : decode cL_law 309 = .ok (.aload_n 0, 1) := by decide +kernel
theorem dL_law_310 : decode cL_law 310 = .ok (.iload_n 3, 1) := by decide +kernel
theorem dL_law_311 : decode cL_law 311 = .ok (.iconst 1, 1) := by decide +kernel
theorem dL_law_312 : decode cL_law 312 = .ok (.iadd, 1) := by decide +kernel
theorem dL_law_313 : decode cL_law 313 = .ok (.iaload, 1) := by decide +kernel
theorem dL_law_314 : decode cL_law 314 = .ok (.aload_n 0, 1) := by decide +kernel
theorem dL_law_315 : decode cL_law 315 = .ok (.iload_n 3, 1) := by decide +kernel
theorem dL_law_316 : decode cL_law 316 = .ok (.iconst 2, 1) := by decide +kernel
theorem dL_law_317 : decode cL_law 317 = .ok (.iadd, 1) := by decide +kernel
theorem dL_law_318 : decode cL_law 318 = .ok (.iaload, 1) := by decide +kernel
theorem dL_law_319 : decode cL_law 319 = .ok (.invokevirtual 43, 3) := by decide +kernel
theorem dL_law_322 : decode cL_law 322 = .ok (.if_icmp .eq 286, 3) := by decide +kernel
theorem dL_law_325 : decode cL_law 325 = .ok (.iconst 0, 1) := by decide +kernel
theorem dL_law_326 : decode cL_law 326 = .ok (.ireturn, 1) := by decide +kernel
theorem dL_law_327 : decode cL_law 327 = .ok (.aload_n 1, 1) := by decide +kernel
theorem dL_law_328 : decode cL_law 328 = .ok (.aload_n 0, 1) := by decide +kernel
theorem dL_law_329 : decode cL_law 329 = .ok (.iload_n 3, 1) := by decide +kernel
theorem dL_law_330 : decode cL_law 330 = .ok (.iconst 1, 1) := by decide +kernel
theorem dL_law_331 : decode cL_law 331 = .ok (.iadd, 1) := by decide +kernel
theorem dL_law_332 : decode cL_law 332 = .ok (.iaload, 1) := by decide +kernel
theorem dL_law_333 : decode cL_law 333 = .ok (.aload_n 0, 1) := by decide +kernel
theorem dL_law_334 : decode cL_law 334 = .ok (.iload_n 3, 1) := by decide +kernel
theorem dL_law_335 : decode cL_law 335 = .ok (.iconst 2, 1) := by decide +kernel
theorem dL_law_336 : decode cL_law 336 = .ok (.iadd, 1) := by decide +kernel
theorem dL_law_337 : decode cL_law 337 = .ok (.iaload, 1) := by decide +kernel
theorem dL_law_338 : decode cL_law 338 = .ok (.invokevirtual 44, 3) := by decide +kernel
theorem dL_law_341 : decode cL_law 341 = .ok (.aload_n 2, 1) := by decide +kernel
theorem dL_law_342 : decode cL_law 342 = .ok (.aload_n 0, 1) := by decide +kernel
theorem dL_law_343 : decode cL_law 343 = .ok (.iload_n 3, 1) := by decide +kernel
theorem dL_law_344 : decode cL_law 344 = .ok (.iconst 1, 1) := by decide +kernel
theorem dL_law_345 : decode cL_law 345 = .ok (.iadd, 1) := by decide +kernel
theorem dL_law_346 : decode cL_law 346 = .ok (.iaload, 1) := by decide +kernel
theorem dL_law_347 : decode cL_law 347 = .ok (.aload_n 0, 1) := by decide +kernel
theorem dL_law_348 : decode cL_law 348 = .ok (.iload_n 3, 1) := by decide +kernel
theorem dL_law_349 : decode cL_law 349 = .ok (.iconst 2, 1) := by decide +kernel
theorem dL_law_350 : decode cL_law 350 = .ok (.iadd, 1) := by decide +kernel
theorem dL_law_351 : decode cL_law 351 = .ok (.iaload, 1) := by decide +kernel
theorem dL_law_352 : decode cL_law 352 = .ok (.invokevirtual 47, 3) := by decide +kernel
theorem dL_law_355 : decode cL_law 355 = .ok (.if_icmp .eq 253, 3) := by decide +kernel
theorem dL_law_358 : decode cL_law 358 = .ok (.iconst 0, 1) := by decide +kernel
theorem dL_law_359 : decode cL_law 359 = .ok (.ireturn, 1) := by decide +kernel
theorem dL_law_360 : decode cL_law 360 = .ok (.aload_n 1, 1) := by decide +kernel
theorem dL_law_361 : decode cL_law 361 = .ok (.aload_n 0, 1) := by decide +kernel
theorem dL_law_362 : decode cL_law 362 = .ok (.iload_n 3, 1) := by decide +kernel
theorem dL_law_363 : decode cL_law 363 = .ok (.iconst 1, 1) := by decide +kernel
theorem dL_law_364 : decode cL_law 364 = .ok (.iadd, 1) := by decide +kernel
theorem dL_law_365 : decode cL_law 365 = .ok (.iaload, 1) := by decide +kernel
theorem dL_law_366 : decode cL_law 366 = .ok (.invokevirtual 48, 3) := by decide +kernel
theorem dL_law_369 : decode cL_law 369 = .ok (.aload_n 2, 1) := by decide +kernel
theorem dL_law_370 : decode cL_law 370 = .ok (.aload_n 0, 1) := by decide +kernel
theorem dL_law_371 : decode cL_law 371 = .ok (.iload_n 3, 1) := by decide +kernel
theorem dL_law_372 : decode cL_law 372 = .ok (.iconst 1, 1) := by decide +kernel
theorem dL_law_373 : decode cL_law 373 = .ok (.iadd, 1) := by decide +kernel
theorem dL_law_374 : decode cL_law 374 = .ok (.iaload, 1) := by decide +kernel
theorem dL_law_375 : decode cL_law 375 = .ok (.invokevirtual 51, 3) := by decide +kernel
theorem dL_law_378 : decode cL_law 378 = .ok (.if_icmp .eq 230, 3) := by decide +kernel
theorem dL_law_381 : decode cL_law 381 = .ok (.iconst 0, 1) := by decide +kernel
theorem dL_law_382 : decode cL_law 382 = .ok (.ireturn, 1) := by decide +kernel
theorem dL_law_383 : decode cL_law 383 = .ok (.aload_n 1, 1) := by decide +kernel
theorem dL_law_384 : decode cL_law 384 = .ok (.aload_n 0, 1) := by decide +kernel
theorem dL_law_385 : decode cL_law 385 = .ok (.iload_n 3, 1) := by decide +kernel
theorem dL_law_386 : decode cL_law 386 = .ok (.iconst 1, 1) := by decide +kernel
theorem dL_law_387 : decode cL_law 387 = .ok (.iadd, 1) := by decide +kernel
theorem dL_law_388 : decode cL_law 388 = .ok (.iaload, 1) := by decide +kernel
theorem dL_law_389 : decode cL_law 389 = .ok (.aload_n 0, 1) := by decide +kernel
theorem dL_law_390 : decode cL_law 390 = .ok (.iload_n 3, 1) := by decide +kernel
theorem dL_law_391 : decode cL_law 391 = .ok (.iconst 2, 1) := by decide +kernel
theorem dL_law_392 : decode cL_law 392 = .ok (.iadd, 1) := by decide +kernel
theorem dL_law_393 : decode cL_law 393 = .ok (.iaload, 1) := by decide +kernel
theorem dL_law_394 : decode cL_law 394 = .ok (.invokevirtual 52, 3) := by decide +kernel
theorem dL_law_397 : decode cL_law 397 = .ok (.aload_n 2, 1) := by decide +kernel
theorem dL_law_398 : decode cL_law 398 = .ok (.aload_n 0, 1) := by decide +kernel
theorem dL_law_399 : decode cL_law 399 = .ok (.iload_n 3, 1) := by decide +kernel
theorem dL_law_400 : decode cL_law 400 = .ok (.iconst 1, 1) := by decide +kernel
theorem dL_law_401 : decode cL_law 401 = .ok (.iadd, 1) := by decide +kernel
theorem dL_law_402 : decode cL_law 402 = .ok (.iaload, 1) := by decide +kernel
theorem dL_law_403 : decode cL_law 403 = .ok (.aload_n 0, 1) := by decide +kernel
theorem dL_law_404 : decode cL_law 404 = .ok (.iload_n 3, 1) := by decide +kernel
theorem dL_law_405 : decode cL_law 405 = .ok (.iconst 2, 1) := by decide +kernel
theorem dL_law_406 : decode cL_law 406 = .ok (.iadd, 1) := by decide +kernel
theorem dL_law_407 : decode cL_law 407 = .ok (.iaload, 1) := by decide +kernel
theorem dL_law_408 : decode cL_law 408 = .ok (.invokevirtual 55, 3) := by decide +kernel
theorem dL_law_411 : decode cL_law 411 = .ok (.if_icmp .eq 197, 3) := by decide +kernel
theorem dL_law_414 : decode cL_law 414 = .ok (.iconst 0, 1) := by decide +kernel
theorem dL_law_415 : decode cL_law 415 = .ok (.ireturn, 1) := by decide +kernel
theorem dL_law_416 : decode cL_law 416 = .ok (.aload_n 1, 1) := by decide +kernel
theorem dL_law_417 : decode cL_law 417 = .ok (.aload_n 0, 1) := by decide +kernel
theorem dL_law_418 : decode cL_law 418 = .ok (.iload_n 3, 1) := by decide +kernel
theorem dL_law_419 : decode cL_law 419 = .ok (.iconst 1, 1) := by decide +kernel
theorem dL_law_420 : decode cL_law 420 = .ok (.iadd, 1) := by decide +kernel
theorem dL_law_421 : decode cL_law 421 = .ok (.iaload, 1) := by decide +kernel
theorem dL_law_422 : decode cL_law 422 = .ok (.aload_n 0, 1) := by decide +kernel
theorem dL_law_423 : decode cL_law 423 = .ok (.iload_n 3, 1) := by decide +kernel
theorem dL_law_424 : decode cL_law 424 = .ok (.iconst 2, 1) := by decide +kernel
theorem dL_law_425 : decode cL_law 425 = .ok (.iadd, 1) := by decide +kernel
theorem dL_law_426 : decode cL_law 426 = .ok (.iaload, 1) := by decide +kernel
theorem dL_law_427 : decode cL_law 427 = .ok (.aload_n 0, 1) := by decide +kernel
theorem dL_law_428 : decode cL_law 428 = .ok (.iload_n 3, 1) := by decide +kernel
theorem dL_law_429 : decode cL_law 429 = .ok (.iconst 3, 1) := by decide +kernel
theorem dL_law_430 : decode cL_law 430 = .ok (.iadd, 1) := by decide +kernel
theorem dL_law_431 : decode cL_law 431 = .ok (.iaload, 1) := by decide +kernel
theorem dL_law_432 : decode cL_law 432 = .ok (.invokevirtual 56, 3) := by decide +kernel
theorem dL_law_435 : decode cL_law 435 = .ok (.aload_n 2, 1) := by decide +kernel
theorem dL_law_436 : decode cL_law 436 = .ok (.aload_n 0, 1) := by decide +kernel
theorem dL_law_437 : decode cL_law 437 = .ok (.iload_n 3, 1) := by decide +kernel
theorem dL_law_438 : decode cL_law 438 = .ok (.iconst 1, 1) := by decide +kernel
theorem dL_law_439 : decode cL_law 439 = .ok (.iadd, 1) := by decide +kernel
theorem dL_law_440 : decode cL_law 440 = .ok (.iaload, 1) := by decide +kernel
theorem dL_law_441 : decode cL_law 441 = .ok (.aload_n 0, 1) := by decide +kernel
theorem dL_law_442 : decode cL_law 442 = .ok (.iload_n 3, 1) := by decide +kernel
theorem dL_law_443 : decode cL_law 443 = .ok (.iconst 2, 1) := by decide +kernel
theorem dL_law_444 : decode cL_law 444 = .ok (.iadd, 1) := by decide +kernel
theorem dL_law_445 : decode cL_law 445 = .ok (.iaload, 1) := by decide +kernel
theorem dL_law_446 : decode cL_law 446 = .ok (.aload_n 0, 1) := by decide +kernel
theorem dL_law_447 : decode cL_law 447 = .ok (.iload_n 3, 1) := by decide +kernel
theorem dL_law_448 : decode cL_law 448 = .ok (.iconst 3, 1) := by decide +kernel
theorem dL_law_449 : decode cL_law 449 = .ok (.iadd, 1) := by decide +kernel
theorem dL_law_450 : decode cL_law 450 = .ok (.iaload, 1) := by decide +kernel
theorem dL_law_451 : decode cL_law 451 = .ok (.invokevirtual 59, 3) := by decide +kernel
theorem dL_law_454 : decode cL_law 454 = .ok (.if_icmp .eq 154, 3) := by decide +kernel
theorem dL_law_457 : decode cL_law 457 = .ok (.iconst 0, 1) := by decide +kernel
theorem dL_law_458 : decode cL_law 458 = .ok (.ireturn, 1) := by decide +kernel
theorem dL_law_459 : decode cL_law 459 = .ok (.aload_n 1, 1) := by decide +kernel
theorem dL_law_460 : decode cL_law 460 = .ok (.invokevirtual 60, 3) := by decide +kernel
theorem dL_law_463 : decode cL_law 463 = .ok (.aload_n 2, 1) := by decide +kernel
theorem dL_law_464 : decode cL_law 464 = .ok (.invokevirtual 64, 3) := by decide +kernel
theorem dL_law_467 : decode cL_law 467 = .ok (.lcmp, 1) := by decide +kernel
theorem dL_law_468 : decode cL_law 468 = .ok (.ifCond .eq 140, 3) := by decide +kernel
theorem dL_law_471 : decode cL_law 471 = .ok (.iconst 0, 1) := by decide +kernel
theorem dL_law_472 : decode cL_law 472 = .ok (.ireturn, 1) := by decide +kernel
theorem dL_law_473 : decode cL_law 473 = .ok (.aload_n 1, 1) := by decide +kernel
theorem dL_law_474 : decode cL_law 474 = .ok (.aload_n 0, 1) := by decide +kernel
theorem dL_law_475 : decode cL_law 475 = .ok (.iload_n 3, 1) := by decide +kernel
theorem dL_law_476 : decode cL_law 476 = .ok (.iconst 1, 1) := by decide +kernel
theorem dL_law_477 : decode cL_law 477 = .ok (.iadd, 1) := by decide +kernel
theorem dL_law_478 : decode cL_law 478 = .ok (.iaload, 1) := by decide +kernel
theorem dL_law_479 : decode cL_law 479 = .ok (.invokevirtual 65, 3) := by decide +kernel
theorem dL_law_482 : decode cL_law 482 = .ok (.aload_n 2, 1) := by decide +kernel
theorem dL_law_483 : decode cL_law 483 = .ok (.aload_n 0, 1) := by decide +kernel
theorem dL_law_484 : decode cL_law 484 = .ok (.iload_n 3, 1) := by decide +kernel
theorem dL_law_485 : decode cL_law 485 = .ok (.iconst 1, 1) := by decide +kernel
theorem dL_law_486 : decode cL_law 486 = .ok (.iadd, 1) := by decide +kernel
theorem dL_law_487 : decode cL_law 487 = .ok (.iaload, 1) := by decide +kernel
theorem dL_law_488 : decode cL_law 488 = .ok (.invokevirtual 68, 3) := by decide +kernel
theorem dL_law_491 : decode cL_law 491 = .ok (.if_icmp .eq 117, 3) := by decide +kernel
theorem dL_law_494 : decode cL_law 494 = .ok (.iconst 0, 1) := by decide +kernel
theorem dL_law_495 : decode cL_law 495 = .ok (.ireturn, 1) := by decide +kernel
theorem dL_law_496 : decode cL_law 496 = .ok (.aload_n 1, 1) := by decide +kernel
theorem dL_law_497 : decode cL_law 497 = .ok (.aload_n 0, 1) := by decide +kernel
theorem dL_law_498 : decode cL_law 498 = .ok (.iload_n 3, 1) := by decide +kernel
theorem dL_law_499 : decode cL_law 499 = .ok (.iconst 1, 1) := by decide +kernel
theorem dL_law_500 : decode cL_law 500 = .ok (.iadd, 1) := by decide +kernel
theorem dL_law_501 : decode cL_law 501 = .ok (.iaload, 1) := by decide +kernel
theorem dL_law_502 : decode cL_law 502 = .ok (.aload_n 0, 1) := by decide +kernel
theorem dL_law_503 : decode cL_law 503 = .ok (.iload_n 3, 1) := by decide +kernel
theorem dL_law_504 : decode cL_law 504 = .ok (.iconst 2, 1) := by decide +kernel
theorem dL_law_505 : decode cL_law 505 = .ok (.iadd, 1) := by decide +kernel
theorem dL_law_506 : decode cL_law 506 = .ok (.iaload, 1) := by decide +kernel
theorem dL_law_507 : decode cL_law 507 = .ok (.invokevirtual 69, 3) := by decide +kernel
theorem dL_law_510 : decode cL_law 510 = .ok (.aload_n 2, 1) := by decide +kernel
theorem dL_law_511 : decode cL_law 511 = .ok (.aload_n 0, 1) := by decide +kernel
theorem dL_law_512 : decode cL_law 512 = .ok (.iload_n 3, 1) := by decide +kernel
theorem dL_law_513 : decode cL_law 513 = .ok (.iconst 1, 1) := by decide +kernel
theorem dL_law_514 : decode cL_law 514 = .ok (.iadd, 1) := by decide +kernel
theorem dL_law_515 : decode cL_law 515 = .ok (.iaload, 1) := by decide +kernel
theorem dL_law_516 : decode cL_law 516 = .ok (.aload_n 0, 1) := by decide +kernel
theorem dL_law_517 : decode cL_law 517 = .ok (.iload_n 3, 1) := by decide +kernel
theorem dL_law_518 : decode cL_law 518 = .ok (.iconst 2, 1) := by decide +kernel
theorem dL_law_519 : decode cL_law 519 = .ok (.iadd, 1) := by decide +kernel
theorem dL_law_520 : decode cL_law 520 = .ok (.iaload, 1) := by decide +kernel
theorem dL_law_521 : decode cL_law 521 = .ok (.invokevirtual 72, 3) := by decide +kernel
theorem dL_law_524 : decode cL_law 524 = .ok (.if_icmp .eq 84, 3) := by decide +kernel
theorem dL_law_527 : decode cL_law 527 = .ok (.iconst 0, 1) := by decide +kernel
theorem dL_law_528 : decode cL_law 528 = .ok (.ireturn, 1) := by decide +kernel
theorem dL_law_529 : decode cL_law 529 = .ok (.aload_n 1, 1) := by decide +kernel
theorem dL_law_530 : decode cL_law 530 = .ok (.aload_n 0, 1) := by decide +kernel
theorem dL_law_531 : decode cL_law 531 = .ok (.iload_n 3, 1) := by decide +kernel
theorem dL_law_532 : decode cL_law 532 = .ok (.iconst 1, 1) := by decide +kernel
theorem dL_law_533 : decode cL_law 533 = .ok (.iadd, 1) := by decide +kernel
theorem dL_law_534 : decode cL_law 534 = .ok (.iaload, 1) := by decide +kernel
theorem dL_law_535 : decode cL_law 535 = .ok (.aload_n 0, 1) := by decide +kernel
theorem dL_law_536 : decode cL_law 536 = .ok (.iload_n 3, 1) := by decide +kernel
theorem dL_law_537 : decode cL_law 537 = .ok (.iconst 2, 1) := by decide +kernel
theorem dL_law_538 : decode cL_law 538 = .ok (.iadd, 1) := by decide +kernel
theorem dL_law_539 : decode cL_law 539 = .ok (.iaload, 1) := by decide +kernel
theorem dL_law_540 : decode cL_law 540 = .ok (.invokevirtual 73, 3) := by decide +kernel
theorem dL_law_543 : decode cL_law 543 = .ok (.aload_n 2, 1) := by decide +kernel
theorem dL_law_544 : decode cL_law 544 = .ok (.aload_n 0, 1) := by decide +kernel
theorem dL_law_545 : decode cL_law 545 = .ok (.iload_n 3, 1) := by decide +kernel
theorem dL_law_546 : decode cL_law 546 = .ok (.iconst 1, 1) := by decide +kernel
theorem dL_law_547 : decode cL_law 547 = .ok (.iadd, 1) := by decide +kernel
theorem dL_law_548 : decode cL_law 548 = .ok (.iaload, 1) := by decide +kernel
theorem dL_law_549 : decode cL_law 549 = .ok (.aload_n 0, 1) := by decide +kernel
theorem dL_law_550 : decode cL_law 550 = .ok (.iload_n 3, 1) := by decide +kernel
theorem dL_law_551 : decode cL_law 551 = .ok (.iconst 2, 1) := by decide +kernel
theorem dL_law_552 : decode cL_law 552 = .ok (.iadd, 1) := by decide +kernel
theorem dL_law_553 : decode cL_law 553 = .ok (.iaload, 1) := by decide +kernel
theorem dL_law_554 : decode cL_law 554 = .ok (.invokevirtual 76, 3) := by decide +kernel
theorem dL_law_557 : decode cL_law 557 = .ok (.if_icmp .eq 51, 3) := by decide +kernel
theorem dL_law_560 : decode cL_law 560 = .ok (.iconst 0, 1) := by decide +kernel
theorem dL_law_561 : decode cL_law 561 = .ok (.ireturn, 1) := by decide +kernel
theorem dL_law_562 : decode cL_law 562 = .ok (.aload_n 1, 1) := by decide +kernel
theorem dL_law_563 : decode cL_law 563 = .ok (.aload_n 0, 1) := by decide +kernel
theorem dL_law_564 : decode cL_law 564 = .ok (.iload_n 3, 1) := by decide +kernel
theorem dL_law_565 : decode cL_law 565 = .ok (.iconst 1, 1) := by decide +kernel
theorem dL_law_566 : decode cL_law 566 = .ok (.iadd, 1) := by decide +kernel
theorem dL_law_567 : decode cL_law 567 = .ok (.iaload, 1) := by decide +kernel
theorem dL_law_568 : decode cL_law 568 = .ok (.aload_n 0, 1) := by decide +kernel
theorem dL_law_569 : decode cL_law 569 = .ok (.iload_n 3, 1) := by decide +kernel
theorem dL_law_570 : decode cL_law 570 = .ok (.iconst 2, 1) := by decide +kernel
theorem dL_law_571 : decode cL_law 571 = .ok (.iadd, 1) := by decide +kernel
theorem dL_law_572 : decode cL_law 572 = .ok (.iaload, 1) := by decide +kernel
theorem dL_law_573 : decode cL_law 573 = .ok (.invokevirtual 77, 3) := by decide +kernel
theorem dL_law_576 : decode cL_law 576 = .ok (.aload_n 2, 1) := by decide +kernel
theorem dL_law_577 : decode cL_law 577 = .ok (.aload_n 0, 1) := by decide +kernel
theorem dL_law_578 : decode cL_law 578 = .ok (.iload_n 3, 1) := by decide +kernel
theorem dL_law_579 : decode cL_law 579 = .ok (.iconst 1, 1) := by decide +kernel
theorem dL_law_580 : decode cL_law 580 = .ok (.iadd, 1) := by decide +kernel
theorem dL_law_581 : decode cL_law 581 = .ok (.iaload, 1) := by decide +kernel
theorem dL_law_582 : decode cL_law 582 = .ok (.aload_n 0, 1) := by decide +kernel
theorem dL_law_583 : decode cL_law 583 = .ok (.iload_n 3, 1) := by decide +kernel
theorem dL_law_584 : decode cL_law 584 = .ok (.iconst 2, 1) := by decide +kernel
theorem dL_law_585 : decode cL_law 585 = .ok (.iadd, 1) := by decide +kernel
theorem dL_law_586 : decode cL_law 586 = .ok (.iaload, 1) := by decide +kernel
theorem dL_law_587 : decode cL_law 587 = .ok (.invokevirtual 80, 3) := by decide +kernel
theorem dL_law_590 : decode cL_law 590 = .ok (.if_icmp .eq 18, 3) := by decide +kernel
theorem dL_law_593 : decode cL_law 593 = .ok (.iconst 0, 1) := by decide +kernel
theorem dL_law_594 : decode cL_law 594 = .ok (.ireturn, 1) := by decide +kernel
theorem dL_law_595 : decode cL_law 595 = .ok (.aload_n 1, 1) := by decide +kernel
theorem dL_law_596 : decode cL_law 596 = .ok (.invokevirtual 81, 3) := by decide +kernel
theorem dL_law_599 : decode cL_law 599 = .ok (.aload_n 2, 1) := by decide +kernel
theorem dL_law_600 : decode cL_law 600 = .ok (.invokevirtual 85, 3) := by decide +kernel
theorem dL_law_603 : decode cL_law 603 = .ok (.if_icmp .eq 5, 3) := by decide +kernel
theorem dL_law_606 : decode cL_law 606 = .ok (.iconst 0, 1) := by decide +kernel
theorem dL_law_607 : decode cL_law 607 = .ok (.ireturn, 1) := by decide +kernel
theorem dL_law_608 : decode cL_law 608 = .ok (.iinc 3 4, 3) := by decide +kernel
theorem dL_law_611 : decode cL_law 611 = .ok (.goto (-593), 3) := by decide +kernel
theorem dL_law_614 : decode cL_law 614 = .ok (.iconst 1, 1) := by decide +kernel
theorem dL_law_615 : decode cL_law 615 = .ok (.ireturn, 1) := by decide +kernel
abbrev vwCl : List vw_C := [(RX0, TX0, 8), (RX1, TX1, 2), (RX2, TX2, 10)]
end
section
/-! THE WORLD: a table of columns for each side (0 there, 1 room, 2 code, 3 open, 4 wrong tries, 5 how many, 6 holds, 7 left, 8 items by 10*i+k, 9 the latch at 0), held by one pool of cells -/
abbrev Tb : Type := Nat → Nat → Int32
def sU (S : Tb) (c j : Nat) (v : Int32) : Tb := fun c' j' => if c' = c then (if j' = j then v else S c' j') else S c' j'
theorem sU_col (S : Tb) (c j : Nat) (v : Int32) : sU S c j v c = upd (S c) j v := by
  funext j'
  simp [sU, upd]
theorem sU_oc (S : Tb) {c c' : Nat} (j : Nat) (v : Int32) (h : c' ≠ c) : sU S c j v c' = S c' := by
  funext j'
  simp [sU, h]
theorem sU_oj (S : Tb) (c c' : Nat) {j j' : Nat} (v : Int32) (h : j' ≠ j) : sU S c j v c' j' = S c' j' := by
  by_cases hc : c' = c <;> simp [sU, h, hc]
theorem sU_self (S : Tb) (c j : Nat) (v : Int32) : sU S c j v c j = v := by simp [sU]
/-- statics: tables of classes, classes of arrays, what may be written, the wall and its row of hooks, the model and its rows -/
abbrev GT : Type := va_G × (ClassId × ClassId × ClassId) × (Nat → Prop) × Nat × Nat × Nat × (Nat → Nat)
abbrev gD (G : GT) : va_G := G.1
abbrev gI (G : GT) : ClassId := G.2.1.1
abbrev gZ (G : GT) : ClassId := G.2.1.2.1
abbrev gQ (G : GT) : ClassId := G.2.1.2.2
abbrev gA (G : GT) : Nat → Prop := G.2.2.1
abbrev gx (G : GT) : Nat := G.2.2.2.1
abbrev gh (G : GT) : Nat := G.2.2.2.2.1
abbrev gm (G : GT) : Nat := G.2.2.2.2.2.1
abbrev gc (G : GT) : Nat → Nat := G.2.2.2.2.2.2
/-- hooks by locker, weights' rows by hook, the wall's table, the model's table -/
abbrev WT : Type := (Nat → Option Nat) × (Nat → Nat) × Tb × Tb
abbrev tysW (G : GT) : List (ClassId × FieldType) := [(gI G, .int), (gZ G, .boolean), (gQ G, .object RX0)]
abbrev lkL (S : Tb) (i w : Nat) : List Value := [.int (S 1 i), .int (S 2 i), .int (S 3 i), .int (S 4 i), .ref w, .int (S 5 i), .int (S 6 i), .int (S 7 i)]
abbrev lkE (S : Tb) (i w : Nat) : va_E := .inr (0, lkL S i w)
abbrev arE (G : GT) (g : Nat → Int32) : va_E := .inl (gI G, 10, .inl g)
abbrev wlE (G : GT) (S : Tb) : va_E := .inr (1, [.ref (gh G), .int (S 9 0)])
abbrev hkE (G : GT) (f : Nat → Option Nat) : va_E := .inl (gQ G, 24, .inr (.inr (.inr (.inr f))))
abbrev mdL (G : GT) (M : Tb) : List Value := [.ref (gc G 0), .ref (gc G 1), .ref (gc G 2), .ref (gc G 3), .ref (gc G 4), .ref (gc G 5), .ref (gc G 6), .ref (gc G 7), .ref (gc G 8), .int (M 9 0)]
abbrev mdE (G : GT) (M : Tb) : va_E := .inr (2, mdL G M)
def mcl (G : GT) (c : Nat) : ClassId := if c = 0 ∨ c = 3 then gZ G else gI G
def mln (c : Nat) : Nat := if c = 8 then 240 else 24
abbrev maE (G : GT) (M : Tb) (c : Nat) : va_E := .inl (mcl G c, mln c, .inl (M c))
def oN (r : Option Nat) : Int32 := match r with
  | none => 0
  | some _ => 1
/-- kinds of cells -/
def kd (v : va_E) : Nat := match v with
  | .inr o => o.1
  | .inl (_, n, .inl _) => if n = 10 then 3 else 5
  | .inl (_, _, .inr _) => 4
theorem kd_ma (G : GT) (M : Tb) (c : Nat) : kd (maE G M c) = 5 := by
  by_cases h : c = 8 <;> simp [kd, mln, h]
def rpC (G : GT) (f : Nat → Option Nat) (wa : Nat → Nat) (S : Tb) (L : List Nat) (e : Nat → va_E) : Prop :=
  (gx G ∈ L ∧ e (gx G) = wlE G S) ∧ (gh G ∈ L ∧ ∃ f0 : Nat → Option Nat, (∀ j, j < 24 → f0 j = f j) ∧ e (gh G) = hkE G f0) ∧
  (∀ i, i < 25 → ∀ a, f i = some a → (a ∈ L ∧ e a = lkE S i (wa i)) ∧ (wa i ∈ L ∧ ∃ g : Nat → Int32, e (wa i) = arE G g ∧ ∀ k, k < 10 → g k = S 8 (10 * i + k))) ∧
  (∀ i j a, i < 25 → j < 25 → f i = some a → f j = some a → i = j) ∧
  (∀ i j a b, i < 25 → j < 25 → f i = some a → f j = some b → wa i = wa j → i = j) ∧
  ∀ i, i < 25 → S 0 i = oN (f i)
def rpM (G : GT) (M : Tb) (L : List Nat) (e : Nat → va_E) : Prop :=
  (gm G ∈ L ∧ e (gm G) = mdE G M) ∧ (∀ c, c < 9 → gc G c ∈ L ∧ e (gc G c) = maE G M c) ∧ ∀ c d, c < 9 → d < 9 → gc G c = gc G d → c = d
theorem rpM_up {G : GT} {M : Tb} {L : List Nat} {e : Nat → va_E} {a : Nat} {v : va_E} (h : rpM G M L e) (h2 : kd (e a) ≠ 2) (h5 : kd (e a) ≠ 5) : rpM G M L (va_up e a v) := by
  obtain ⟨⟨m1, m2⟩, m3, m4⟩ := h
  refine ⟨⟨m1, ?_⟩, fun c hc => ⟨(m3 c hc).1, ?_⟩, m4⟩
  · rw [va_up_ne _ _ (fun q => h2 (by rw [← q, m2]; rfl))]; exact m2
  · rw [va_up_ne _ _ (fun q => h5 (by rw [← q, (m3 c hc).2]; exact kd_ma G M c))]; exact (m3 c hc).2
theorem rpC_up {G : GT} {f : Nat → Option Nat} {wa : Nat → Nat} {S : Tb} {L : List Nat} {e : Nat → va_E} {a : Nat} {v : va_E} (h : rpC G f wa S L e) (hk : kd (e a) = 2 ∨ kd (e a) = 5) : rpC G f wa S L (va_up e a v) := by
  obtain ⟨⟨x1, x2⟩, ⟨k1, f0, k2, k3⟩, c3, c4, c5, c6⟩ := h
  have ne : ∀ b, kd (e b) ≠ 2 → kd (e b) ≠ 5 → b ≠ a := fun b h2 h5 q => by subst q; omega
  refine ⟨⟨x1, ?_⟩, ⟨k1, f0, k2, ?_⟩, fun i hi b hb => ⟨⟨(c3 i hi b hb).1.1, ?_⟩, (c3 i hi b hb).2.1, ?_⟩, c4, c5, c6⟩
  · rw [va_up_ne _ _ (ne _ (by rw [x2]; simp [kd]) (by rw [x2]; simp [kd]))]; exact x2
  · rw [va_up_ne _ _ (ne _ (by rw [k3]; simp [kd]) (by rw [k3]; simp [kd]))]; exact k3
  · rw [va_up_ne _ _ (ne _ (by rw [(c3 i hi b hb).1.2]; simp [kd]) (by rw [(c3 i hi b hb).1.2]; simp [kd]))]; exact (c3 i hi b hb).1.2
  · obtain ⟨g, g1, g2⟩ := (c3 i hi b hb).2.2
    exact ⟨g, by rw [va_up_ne _ _ (ne _ (by rw [g1]; simp [kd]) (by rw [g1]; simp [kd]))]; exact g1, g2⟩
/-- a locker's cell changes with one column of its row -/
theorem rpC_lk {G : GT} {f : Nat → Option Nat} {wa : Nat → Nat} {S : Tb} {L : List Nat} {e : Nat → va_E} {i a c : Nat} {y : Int32} (h : rpC G f wa S L e) (hi : i < 25) (hf : f i = some a) (h0 : c ≠ 0) (h8 : c ≠ 8) (h9 : c ≠ 9) :
    rpC G f wa (sU S c i y) L (va_up e a (lkE (sU S c i y) i (wa i))) := by
  obtain ⟨⟨x1, x2⟩, ⟨k1, f0, k2, k3⟩, c3, c4, c5, c6⟩ := h
  have ea := (c3 i hi a hf).1.2
  have ne : ∀ b, kd (e b) ≠ 0 → b ≠ a := fun b h2 q => by subst q; rw [ea] at h2; exact h2 rfl
  refine ⟨⟨x1, ?_⟩, ⟨k1, f0, k2, ?_⟩, fun j hj b hb => ⟨⟨(c3 j hj b hb).1.1, ?_⟩, (c3 j hj b hb).2.1, ?_⟩, c4, c5, fun j hj => ?_⟩
  · rw [va_up_ne _ _ (ne _ (by rw [x2]; simp [kd])), x2, wlE, wlE, sU_oc S i y (Ne.symm h9)]
  · rw [va_up_ne _ _ (ne _ (by rw [k3]; simp [kd]))]; exact k3
  · by_cases hji : j = i
    · subst hji
      rw [hf] at hb
      cases hb
      rw [va_up_self]
    · have hba : b ≠ a := fun q => hji (c4 j i b hj hi hb (by rw [q]; exact hf))
      rw [va_up_ne _ _ hba, (c3 j hj b hb).1.2]
      simp only [lkE, lkL, sU_oj S c _ y hji]
  · obtain ⟨g, g1, g2⟩ := (c3 j hj b hb).2.2
    exact ⟨g, by rw [va_up_ne _ _ (ne _ (by rw [g1]; simp [kd]))]; exact g1, by rw [sU_oc S i y (Ne.symm h8)]; exact g2⟩
  · rw [sU_oc S i y (Ne.symm h0)]; exact c6 j hj
/-- one item of a locker's row -/
theorem rpC_ar {G : GT} {f : Nat → Option Nat} {wa : Nat → Nat} {S : Tb} {L : List Nat} {e : Nat → va_E} {i a k : Nat} {y : Int32} {g : Nat → Int32} (h : rpC G f wa S L e) (hi : i < 25) (hf : f i = some a) (hk : k < 10) (hg : e (wa i) = arE G g) :
    rpC G f wa (sU S 8 (10 * i + k) y) L (va_up e (wa i) (arE G (upd g k y))) := by
  obtain ⟨⟨x1, x2⟩, ⟨k1, f0, k2, k3⟩, c3, c4, c5, c6⟩ := h
  have ne : ∀ b, kd (e b) ≠ 3 → b ≠ wa i := fun b h2 q => by subst q; rw [hg] at h2; exact h2 rfl
  refine ⟨⟨x1, ?_⟩, ⟨k1, f0, k2, ?_⟩, fun j hj b hb => ⟨⟨(c3 j hj b hb).1.1, ?_⟩, (c3 j hj b hb).2.1, ?_⟩, c4, c5, fun j hj => ?_⟩
  · rw [va_up_ne _ _ (ne _ (by rw [x2]; simp [kd])), x2, wlE, wlE, sU_oc S _ y (by decide)]
  · rw [va_up_ne _ _ (ne _ (by rw [k3]; simp [kd]))]; exact k3
  · rw [va_up_ne _ _ (ne _ (by rw [(c3 j hj b hb).1.2]; simp [kd])), (c3 j hj b hb).1.2]
    rfl
  · obtain ⟨gj, g1, g2⟩ := (c3 j hj b hb).2.2
    by_cases hji : j = i
    · subst hji
      rw [hg] at g1
      cases g1
      refine ⟨upd g k y, va_up_self _ _ _, fun k' hk' => ?_⟩
      by_cases hkk : k' = k
      · subst hkk; rw [sU_self]; simp [upd]
      · rw [sU_oj S 8 8 y (show 10 * j + k' ≠ 10 * j + k by omega), ← g2 k' hk']
        simp [upd, hkk]
    · have hba : wa j ≠ wa i := fun q => hji (c5 j i b a hj hi hb hf q)
      refine ⟨gj, by rw [va_up_ne _ _ hba]; exact g1, fun k' hk' => ?_⟩
      rw [sU_oj S 8 8 y (show 10 * j + k' ≠ 10 * i + k by omega)]
      exact g2 k' hk'
  · exact c6 j hj
/-- the wall's own cell -/
theorem rpC_wl {G : GT} {f : Nat → Option Nat} {wa : Nat → Nat} {S : Tb} {L : List Nat} {e : Nat → va_E} {y : Int32} (h : rpC G f wa S L e) :
    rpC G f wa (sU S 9 0 y) L (va_up e (gx G) (wlE G (sU S 9 0 y))) := by
  obtain ⟨⟨x1, x2⟩, ⟨k1, f0, k2, k3⟩, c3, c4, c5, c6⟩ := h
  have ne : ∀ b, kd (e b) ≠ 1 → b ≠ gx G := fun b h2 q => by subst q; rw [x2] at h2; exact h2 rfl
  refine ⟨⟨x1, va_up_self _ _ _⟩, ⟨k1, f0, k2, ?_⟩, fun j hj b hb => ⟨⟨(c3 j hj b hb).1.1, ?_⟩, (c3 j hj b hb).2.1, ?_⟩, c4, c5, fun j hj => ?_⟩
  · rw [va_up_ne _ _ (ne _ (by rw [k3]; simp [kd]))]; exact k3
  · rw [va_up_ne _ _ (ne _ (by rw [(c3 j hj b hb).1.2]; simp [kd])), (c3 j hj b hb).1.2]
    rfl
  · obtain ⟨g, g1, g2⟩ := (c3 j hj b hb).2.2
    exact ⟨g, by rw [va_up_ne _ _ (ne _ (by rw [g1]; simp [kd]))]; exact g1, g2⟩
  · exact c6 j hj
/-- the model's own cell, and its rows -/
theorem rpM_md {G : GT} {M : Tb} {L : List Nat} {e : Nat → va_E} {y : Int32} (h : rpM G M L e) : rpM G (sU M 9 0 y) L (va_up e (gm G) (mdE G (sU M 9 0 y))) := by
  obtain ⟨⟨m1, m2⟩, m3, m4⟩ := h
  refine ⟨⟨m1, va_up_self _ _ _⟩, fun c hc => ⟨(m3 c hc).1, ?_⟩, m4⟩
  have hne : gc G c ≠ gm G := fun q => by
    have h1 := congrArg kd (m3 c hc).2
    rw [q, m2, kd_ma] at h1
    cases h1
  rw [va_up_ne _ _ hne, (m3 c hc).2, maE, maE, sU_oc M 0 y (show c ≠ 9 by omega)]
theorem rpM_ma {G : GT} {M : Tb} {L : List Nat} {e : Nat → va_E} {c j : Nat} {y : Int32} (h : rpM G M L e) (hc : c < 9) : rpM G (sU M c j y) L (va_up e (gc G c) (.inl (mcl G c, mln c, .inl (upd (M c) j y)))) := by
  obtain ⟨⟨m1, m2⟩, m3, m4⟩ := h
  have hne : gm G ≠ gc G c := fun q => by
    have h1 := congrArg kd (m3 c hc).2
    rw [← q, m2, kd_ma] at h1
    cases h1
  refine ⟨⟨m1, ?_⟩, fun d hd => ⟨(m3 d hd).1, ?_⟩, m4⟩
  · rw [va_up_ne _ _ hne, m2, mdE, mdE, mdL, mdL, sU_oc M j y (show 9 ≠ c by omega)]
  · by_cases hdc : d = c
    · subst hdc
      rw [va_up_self, maE, sU_col]
    · rw [va_up_ne _ _ (fun q => hdc (m4 d c hd hc q)), (m3 d hd).2, maE, maE, sU_oc M j y hdc]
def Wh (G : GT) (u : WT) (H : Heap) : Prop := ∃ (L : List Nat) (e : Nat → va_E), va_P (gD G) vwCl (va_pl L e) H ∧ va_D (gA G) (va_pl L e) ∧ rpC G u.1 u.2.1 u.2.2.1 L e ∧ rpM G u.2.2.2 L e
def Wo (G : GT) (u : WT) (U : State) : Prop := Wh G u U.heap ∧ va_K (gD G) vwCl (tysW G) U ∧ ∀ q, U.heap.size ≤ q → gA G q
def Wi (G : GT) (u : WT) (s : State) (H : Heap) (locs : List Loc) : Prop := Wh G u H ∧ va_K (gD G) vwCl (tysW G) s ∧ (∀ q, s.heap.size ≤ q → gA G q) ∧ va_S (gA G) s.heap H locs
theorem Wo.i {G : GT} {u : WT} {s : State} (h : Wo G u s) : Wi G u s s.heap [] := ⟨h.1, h.2.1, h.2.2, va_S.rf⟩
theorem Wi.o {G : GT} {u : WT} {s t : State} {H : Heap} {locs : List Loc} (h : Wi G u s H locs) (ht : t.heap = H) (hvm : s.vm.Alike t.vm) : Wo G u t := by
  obtain ⟨h1, h2, h3, h4⟩ := h
  refine ⟨by rw [ht]; exact h1, va_K.moved hvm h2, fun q hq => h3 q ?_⟩
  rw [ht] at hq
  exact Nat.le_trans h4.1 hq
theorem Wo.blind {G : GT} {u : WT} {av : List Value} : FrameBlind (va_Pc av (Wo G u)) := fun a U g mk q => ⟨q.1, q.2.1, va_K.moved (u := U) (U := U.calling g mk a) (Vm.Alike.refl U.vm) q.2.2.1, q.2.2.2⟩
theorem Wi.preS {G : GT} {u : WT} {s : State} {H : Heap} {locs : List Loc} (h : Wi G u s H locs) (av : List Value) : PreS s H (va_Pc av (Wo G u)) av :=
  ⟨Wo.blind, fun U hU hW => ⟨rfl, h.o hU hW.alike⟩⟩
theorem p_recv {s : State} {H : Heap} {D : va_G} {cl : List vw_C} {a ci : Nat} {q : vw_C} {fs : List Value} {L : List Nat} {e : Nat → va_E} {tys : List (ClassId × FieldType)} (hK : va_K D cl tys s) (hP : va_P D cl (va_pl L e) H) (hc : cl[ci]? = some q) (ha : a ∈ L) (he : e a = .inr (ci, fs)) : ∃ cell : Cell, H[a]? = some cell ∧ cell.vm.isStatics = false ∧ s.vm.findClass q.1 = some cell.cls := by
  obtain ⟨k, hk⟩ := va_pl_get (X := []) (f := e) ha
  rw [he] at hk
  exact va_recv (q0 := k) hK hP hc hk
theorem Wi.preX {G : GT} {u : WT} {s : State} {H : Heap} {locs : List Loc} (h : Wi G u s H locs) (av : List Value) : PreV s H RX1 (gx G) (va_Pc (.ref (gx G) :: av) (Wo G u)) av :=
  ⟨Wo.blind, by
    obtain ⟨⟨L, e, hP, hD, ⟨⟨x1, x2⟩, -⟩, -⟩, hK, -⟩ := h
    exact p_recv (ci := 1) (q := (RX1, TX1, 2)) hK hP rfl x1 x2, fun U hU hW => ⟨rfl, h.o hU hW.alike⟩⟩
theorem Wi.preM {G : GT} {u : WT} {s : State} {H : Heap} {locs : List Loc} (h : Wi G u s H locs) (av : List Value) : PreV s H RX2 (gm G) (va_Pc (.ref (gm G) :: av) (Wo G u)) av :=
  ⟨Wo.blind, by
    obtain ⟨⟨L, e, hP, hD, -, ⟨m1, m2⟩, -⟩, hK, -⟩ := h
    exact p_recv (ci := 2) (q := (RX2, TX2, 10)) hK hP rfl m1 m2, fun U hU hW => ⟨rfl, h.o hU hW.alike⟩⟩
theorem Wi.preL {G : GT} {u : WT} {s : State} {H : Heap} {locs : List Loc} (h : Wi G u s H locs) {i a : Nat} (hi : i < 25) (hf : u.1 i = some a) (av : List Value) : PreV s H RX0 a (va_Pc (.ref a :: av) (Wo G u)) av :=
  ⟨Wo.blind, by
    obtain ⟨⟨L, e, hP, hD, ⟨-, -, c3, -⟩, -⟩, hK, -⟩ := h
    exact p_recv (ci := 0) (q := (RX0, TX0, 8)) hK hP rfl (c3 i hi a hf).1.1 (c3 i hi a hf).1.2, fun U hU hW => ⟨rfl, h.o hU hW.alike⟩⟩
end
section
/-! ROWS over the world: fields and rows of cells -/
theorem TX0_1 : ∀ k, k < 8 → (TX0 k).1 = "LockerWall$Locker" := by decide +kernel
theorem TX1_1 : ∀ k, k < 2 → (TX1 k).1 = "LockerWall" := by decide +kernel
theorem TX2_1 : ∀ k, k < 10 → (TX2 k).1 = "LockerWallModel" := by decide +kernel
section RW
variable {p : Program} {l : Launch} {e : Env} {R : Room} {s : State} {m : MethodId} {args : Array Value} {below : List Frame} {meth : Method} {c : Code} {H : Heap} {locs : List Loc} {cells slots : Nat} {Q : State → Prop}
variable {cc : ByteArray} {pc : Nat} {ls : Array Slot} {rest : List Value} {G : GT} {f : Nat → Option Nat} {wa : Nat → Nat} {S M : Tb} {Ts : List Cond} {own : String} {index : Nat}
/-- a field of a pooled object -/
theorem p_put {D : va_G} {cl : List vw_C} {tys : List (ClassId × FieldType)} {A : Nat → Prop} {H0 : Heap} {L : List Nat} {ev : Nat → va_E} {a ci N : Nat} {C ref : String} {T : u_T} {fs : List Value} (hexec : p.tables.exec = Jvm.exec) (hb : c.code = cc) (hts : ∀ w ∈ Ts, w.before args s = true) (hin : ∀ w ∈ u_ws C T N, w ∈ Ts) (ty0 : Nat → FieldType) (hty : ∀ k, k < N → parseFieldDescriptor (T k).2.2.1 = some (ty0 k)) (hnm : ∀ a, a < N → ∀ b, b < N → a ≠ b → (T a).2.1 ≠ (T b).2.1) (hown : s.vm.findClass own = some m.cls) (hK : va_K D cl tys s) (hP : va_P D cl (va_pl L ev) H) (hD : va_D A (va_pl L ev)) (hS0 : va_S A H0 H locs) (ha : a ∈ L) (he : ev a = .inr (ci, fs)) (hc : cl[ci]? = some (C, T, N)) (k : Nat) (hk : k < N) (hlink : (Cond.fieldLink own index ref (T k).2.1 (T k).2.2.1).before args s = true) (hsame : (T k).1 = ref) (hfin : (T k).2.2.2 = false) {v : Value} (hn : narrow (ty0 k) v = v) (hfit : fits (ty0 k) v = true) (hl : k < fs.length)
    (hdg : decode cc pc = .ok (.putfield index, 3)) (kk : ∀ (H1 : Heap) (locs1 : List Loc), va_P D cl (va_pl L (va_up ev a (.inr (ci, fs.set k v)))) H1 → va_D A (va_pl L (va_up ev a (.inr (ci, fs.set k v)))) → va_S A H0 H1 locs1 → W p l e R s m args below meth c H1 locs1 cells slots Q (F0 m (pc + 3) ls rest)) : W p l e R s m args below meth c H locs cells slots Q (F0 m pc ls (v :: .ref a :: rest)) := by
  obtain ⟨k0, hk0⟩ := va_pl_get (X := []) (f := ev) ha
  have hk1 := hk0
  rw [he] at hk1
  refine va_put hexec hb hts hin ty0 hty hnm hown hK hP hD hS0 k0 hk1 hc k hk hlink (fun x9 h9 => by rw [hsame] at h9; exact h9) hfin (hty k hk) hn hfit hl hdg (fun H1 locs1 h1 h2 h3 => kk H1 locs1 ?_ ?_ h3)
  · have q := va_pl_set (X := []) (e := .inr (ci, fs.set k v)) hD ha hk0
    exact (show _ = va_pl L _ from q) ▸ h1
  · have q := va_pl_set (X := []) (e := .inr (ci, fs.set k v)) hD ha hk0
    exact (show _ = va_pl L _ from q) ▸ h2
theorem p_get {D : va_G} {cl : List vw_C} {tys : List (ClassId × FieldType)} {L : List Nat} {ev : Nat → va_E} {a ci N : Nat} {C ref : String} {T : u_T} {fs : List Value} (hexec : p.tables.exec = Jvm.exec) (hb : c.code = cc) (hts : ∀ w ∈ Ts, w.before args s = true) (hin : ∀ w ∈ u_ws C T N, w ∈ Ts) (hown : s.vm.findClass own = some m.cls) (hK : va_K D cl tys s) (hP : va_P D cl (va_pl L ev) H) (ha : a ∈ L) (he : ev a = .inr (ci, fs)) (hc : cl[ci]? = some (C, T, N)) (k : Nat) (hk : k < N) (hlink : (Cond.fieldLink own index ref (T k).2.1 (T k).2.2.1).before args s = true) (hsame : (T k).1 = ref) {v : Value} (hv : fs[k]? = some v)
    (hdg : decode cc pc = .ok (.getfield index, 3)) (kk : W p l e R s m args below meth c H locs cells slots Q (F0 m (pc + 3) ls (v :: rest))) : W p l e R s m args below meth c H locs cells slots Q (F0 m pc ls (.ref a :: rest)) := by
  obtain ⟨k0, hk0⟩ := va_pl_get (X := []) (f := ev) ha
  rw [he] at hk0
  exact va_get hexec hb hts hin hown hK hP k0 hk0 hc k hk hlink (fun x9 h9 => by rw [hsame] at h9; exact h9) hv hdg kk
/-- lockers -/
theorem r_get0 (hx : p.tables.exec = Jvm.exec) (hb : c.code = cc) (hts : ∀ w ∈ Ts, w.before args s = true) (hin : ∀ w ∈ wsX00, w ∈ Ts) (hown : s.vm.findClass own = some m.cls) (hw : Wi G (f, wa, S, M) s H locs) {i a : Nat} (hi : i < 25) (hf : f i = some a) (k : Nat) (hk : k < 8) (hlink : (Cond.fieldLink own index "LockerWall$Locker" (TX0 k).2.1 (TX0 k).2.2.1).before args s = true) {v : Value} (hv : (lkL S i (wa i))[k]? = some v) (hdg : decode cc pc = .ok (.getfield index, 3))
    (kk : W p l e R s m args below meth c H locs cells slots Q (F0 m (pc + 3) ls (v :: rest))) : W p l e R s m args below meth c H locs cells slots Q (F0 m pc ls (.ref a :: rest)) := by
  obtain ⟨⟨L, ev, hP, hD, ⟨-, -, c3, -⟩, -⟩, hK, -⟩ := hw
  exact p_get hx hb hts hin hown hK hP (c3 i hi a hf).1.1 (c3 i hi a hf).1.2 rfl k hk hlink (TX0_1 k hk) hv hdg kk
theorem r_put0 (hx : p.tables.exec = Jvm.exec) (hb : c.code = cc) (hts : ∀ w ∈ Ts, w.before args s = true) (hin : ∀ w ∈ wsX00, w ∈ Ts) (hown : s.vm.findClass own = some m.cls) (hw : Wi G (f, wa, S, M) s H locs) {i a : Nat} (hi : i < 25) (hf : f i = some a) (k col : Nat) (hkc : (k, col) ∈ [(1, 2), (2, 3), (3, 4), (5, 5), (6, 6), (7, 7)]) (hlink : (Cond.fieldLink own index "LockerWall$Locker" (TX0 k).2.1 (TX0 k).2.2.1).before args s = true) {y : Int32} (hn : narrow (tyX0 k) (.int y) = .int y) (hfit : fits (tyX0 k) (.int y) = true) (hdg : decode cc pc = .ok (.putfield index, 3))
    (kk : ∀ (H1 : Heap) (locs1 : List Loc), Wi G (f, wa, sU S col i y, M) s H1 locs1 → W p l e R s m args below meth c H1 locs1 cells slots Q (F0 m (pc + 3) ls rest)) : W p l e R s m args below meth c H locs cells slots Q (F0 m pc ls (.int y :: .ref a :: rest)) := by
  obtain ⟨⟨L, ev, hP, hD, hC, hM⟩, hK, hA, hS⟩ := hw
  have h1 := (hC.2.2.1 i hi a hf).1
  have hk : k < 8 ∧ (TX0 k).2.2.2 = false ∧ (lkL S i (wa i)).set k (.int y) = lkL (sU S col i y) i (wa i) ∧ col ≠ 0 ∧ col ≠ 8 ∧ col ≠ 9 := by
    simp only [List.mem_cons, Prod.mk.injEq, List.not_mem_nil, or_false] at hkc
    rcases hkc with ⟨rfl, rfl⟩ | ⟨rfl, rfl⟩ | ⟨rfl, rfl⟩ | ⟨rfl, rfl⟩ | ⟨rfl, rfl⟩ | ⟨rfl, rfl⟩ <;>
      exact ⟨by decide, rfl, by simp [sU], by decide, by decide, by decide⟩
  obtain ⟨hk8, hfin, hset, h0, h8, h9⟩ := hk
  refine p_put hx hb hts hin tyX0 tyX0_ok nmX0 hown hK hP hD hS h1.1 h1.2 rfl k hk8 hlink (TX0_1 k hk8) hfin hn hfit hk8 hdg (fun H1 locs1 e1 e2 e3 => kk H1 locs1 ⟨⟨L, _, e1, e2, ?_, rpM_up hM (by rw [h1.2]; simp [kd]) (by rw [h1.2]; simp [kd])⟩, hK, hA, e3⟩)
  rw [hset]
  exact rpC_lk hC hi hf h0 h8 h9
/-- the wall -/
theorem r_getH (hx : p.tables.exec = Jvm.exec) (hb : c.code = cc) (hts : ∀ w ∈ Ts, w.before args s = true) (hin : ∀ w ∈ wsX10, w ∈ Ts) (hown : s.vm.findClass own = some m.cls) (hw : Wi G (f, wa, S, M) s H locs) (hlink : (Cond.fieldLink own index "LockerWall" "hooks" "[LLockerWall$Locker;").before args s = true) (hdg : decode cc pc = .ok (.getfield index, 3))
    (kk : W p l e R s m args below meth c H locs cells slots Q (F0 m (pc + 3) ls (.ref (gh G) :: rest))) : W p l e R s m args below meth c H locs cells slots Q (F0 m pc ls (.ref (gx G) :: rest)) := by
  obtain ⟨⟨L, ev, hP, hD, ⟨⟨x1, x2⟩, -⟩, -⟩, hK, -⟩ := hw
  exact p_get hx hb hts hin hown hK hP x1 x2 rfl 0 (by decide) hlink rfl rfl hdg kk
theorem r_getT (hx : p.tables.exec = Jvm.exec) (hb : c.code = cc) (hts : ∀ w ∈ Ts, w.before args s = true) (hin : ∀ w ∈ wsX10, w ∈ Ts) (hown : s.vm.findClass own = some m.cls) (hw : Wi G (f, wa, S, M) s H locs) (hlink : (Cond.fieldLink own index "LockerWall" "latchHolds" "I").before args s = true) (hdg : decode cc pc = .ok (.getfield index, 3))
    (kk : W p l e R s m args below meth c H locs cells slots Q (F0 m (pc + 3) ls (.int (S 9 0) :: rest))) : W p l e R s m args below meth c H locs cells slots Q (F0 m pc ls (.ref (gx G) :: rest)) := by
  obtain ⟨⟨L, ev, hP, hD, ⟨⟨x1, x2⟩, -⟩, -⟩, hK, -⟩ := hw
  exact p_get hx hb hts hin hown hK hP x1 x2 rfl 1 (by decide) hlink rfl rfl hdg kk
theorem r_putT (hx : p.tables.exec = Jvm.exec) (hb : c.code = cc) (hts : ∀ w ∈ Ts, w.before args s = true) (hin : ∀ w ∈ wsX10, w ∈ Ts) (hown : s.vm.findClass own = some m.cls) (hw : Wi G (f, wa, S, M) s H locs) (hlink : (Cond.fieldLink own index "LockerWall" "latchHolds" "I").before args s = true) {y : Int32} (hdg : decode cc pc = .ok (.putfield index, 3))
    (kk : ∀ (H1 : Heap) (locs1 : List Loc), Wi G (f, wa, sU S 9 0 y, M) s H1 locs1 → W p l e R s m args below meth c H1 locs1 cells slots Q (F0 m (pc + 3) ls rest)) : W p l e R s m args below meth c H locs cells slots Q (F0 m pc ls (.int y :: .ref (gx G) :: rest)) := by
  obtain ⟨⟨L, ev, hP, hD, hC, hM⟩, hK, hA, hS⟩ := hw
  refine p_put hx hb hts hin tyX1 tyX1_ok nmX1 hown hK hP hD hS hC.1.1 hC.1.2 rfl 1 (by decide) hlink rfl rfl rfl rfl (by simp) hdg (fun H1 locs1 e1 e2 e3 => kk H1 locs1 ⟨⟨L, _, e1, e2, rpC_wl hC, rpM_up hM (by rw [hC.1.2]; simp [kd]) (by rw [hC.1.2]; simp [kd])⟩, hK, hA, e3⟩)
/-- the model -/
theorem r_getM (hx : p.tables.exec = Jvm.exec) (hb : c.code = cc) (hts : ∀ w ∈ Ts, w.before args s = true) (hin : ∀ w ∈ wsX20, w ∈ Ts) (hown : s.vm.findClass own = some m.cls) (hw : Wi G (f, wa, S, M) s H locs) (k : Nat) (hk : k < 10) (hlink : (Cond.fieldLink own index "LockerWallModel" (TX2 k).2.1 (TX2 k).2.2.1).before args s = true) {v : Value} (hv : (mdL G M)[k]? = some v) (hdg : decode cc pc = .ok (.getfield index, 3))
    (kk : W p l e R s m args below meth c H locs cells slots Q (F0 m (pc + 3) ls (v :: rest))) : W p l e R s m args below meth c H locs cells slots Q (F0 m pc ls (.ref (gm G) :: rest)) := by
  obtain ⟨⟨L, ev, hP, hD, -, ⟨m1, m2⟩, -⟩, hK, -⟩ := hw
  exact p_get hx hb hts hin hown hK hP m1 m2 rfl k hk hlink (TX2_1 k hk) hv hdg kk
theorem r_putMT (hx : p.tables.exec = Jvm.exec) (hb : c.code = cc) (hts : ∀ w ∈ Ts, w.before args s = true) (hin : ∀ w ∈ wsX20, w ∈ Ts) (hown : s.vm.findClass own = some m.cls) (hw : Wi G (f, wa, S, M) s H locs) (hlink : (Cond.fieldLink own index "LockerWallModel" "latched" "I").before args s = true) {y : Int32} (hdg : decode cc pc = .ok (.putfield index, 3))
    (kk : ∀ (H1 : Heap) (locs1 : List Loc), Wi G (f, wa, S, sU M 9 0 y) s H1 locs1 → W p l e R s m args below meth c H1 locs1 cells slots Q (F0 m (pc + 3) ls rest)) : W p l e R s m args below meth c H locs cells slots Q (F0 m pc ls (.int y :: .ref (gm G) :: rest)) := by
  obtain ⟨⟨L, ev, hP, hD, hC, hM⟩, hK, hA, hS⟩ := hw
  refine p_put hx hb hts hin tyX2 tyX2_ok nmX2 hown hK hP hD hS hM.1.1 hM.1.2 rfl 9 (by decide) hlink rfl rfl rfl rfl (by simp) hdg (fun H1 locs1 e1 e2 e3 => kk H1 locs1 ⟨⟨L, _, e1, e2, rpC_up hC (Or.inl (by rw [hM.1.2]; rfl)), rpM_md hM⟩, hK, hA, e3⟩)
theorem r_mld (hx : p.tables.exec = Jvm.exec) (hb : c.code = cc) (hw : Wi G (f, wa, S, M) s H locs) (k : Nat) (hk : k < 9) (hki : ¬ (k = 0 ∨ k = 3)) {ix : Int32} (j : Nat) (hix : ix = nI j) (hj : j < mln k) (hdg : decode cc pc = .ok (.iaload, 1))
    (kk : W p l e R s m args below meth c H locs cells slots Q (F0 m (pc + 1) ls (.int (M k j) :: rest))) : W p l e R s m args below meth c H locs cells slots Q (F0 m pc ls (.int ix :: .ref (gc G k) :: rest)) := by
  obtain ⟨⟨L, ev, hP, hD, -, -, m3, -⟩, hK, -⟩ := hw
  have hl : mln k < 2 ^ 31 := by unfold mln; split <;> decide
  obtain ⟨k0, hk0⟩ := va_pl_get (X := []) (f := ev) (m3 k hk).1
  rw [(m3 k hk).2, maE, mcl, if_neg hki] at hk0
  subst hix
  refine va_iald hx hb hK hP k0 0 hk0 rfl (vp_in_nI hj hl) hdg ?_
  rw [nI_clamp (by omega)]
  exact kk
theorem r_mldZ (hx : p.tables.exec = Jvm.exec) (hb : c.code = cc) (hw : Wi G (f, wa, S, M) s H locs) (k : Nat) (hk : k < 9) (hki : k = 0 ∨ k = 3) {ix : Int32} (j : Nat) (hix : ix = nI j) (hj : j < mln k) (hdg : decode cc pc = .ok (.baload, 1))
    (kk : W p l e R s m args below meth c H locs cells slots Q (F0 m (pc + 1) ls (.int (M k j) :: rest))) : W p l e R s m args below meth c H locs cells slots Q (F0 m pc ls (.int ix :: .ref (gc G k) :: rest)) := by
  obtain ⟨⟨L, ev, hP, hD, -, -, m3, -⟩, hK, -⟩ := hw
  have hl : mln k < 2 ^ 31 := by unfold mln; split <;> decide
  obtain ⟨k0, hk0⟩ := va_pl_get (X := []) (f := ev) (m3 k hk).1
  rw [(m3 k hk).2, maE, mcl, if_pos hki] at hk0
  subst hix
  refine va_zald hx hb hK hP k0 1 hk0 rfl (vp_in_nI hj hl) hdg ?_
  rw [nI_clamp (by omega)]
  exact kk
theorem r_mst (hx : p.tables.exec = Jvm.exec) (hb : c.code = cc) (hw : Wi G (f, wa, S, M) s H locs) (k : Nat) (hk : k < 9) (hki : ¬ (k = 0 ∨ k = 3)) {ix y : Int32} (j : Nat) (hix : ix = nI j) (hj : j < mln k) (hdg : decode cc pc = .ok (.iastore, 1))
    (kk : ∀ (H1 : Heap) (locs1 : List Loc), Wi G (f, wa, S, sU M k j y) s H1 locs1 → W p l e R s m args below meth c H1 locs1 cells slots Q (F0 m (pc + 1) ls rest)) : W p l e R s m args below meth c H locs cells slots Q (F0 m pc ls (.int y :: .int ix :: .ref (gc G k) :: rest)) := by
  obtain ⟨⟨L, ev, hP, hD, hC, hM⟩, hK, hA, hS⟩ := hw
  have hl : mln k < 2 ^ 31 := by unfold mln; split <;> decide
  obtain ⟨m1, m2⟩ := hM.2.1 k hk
  obtain ⟨k0, hk0⟩ := va_pl_get (X := []) (f := ev) m1
  have hk1 := hk0
  have hcl : mcl G k = gI G := by rw [mcl, if_neg hki]
  rw [m2] at hk1
  subst hix
  refine va_iast hx hb hK hP hD hS k0 0 hk1 (by rw [hcl]; rfl) (vp_in_nI hj hl) hdg (fun H1 locs1 h1 h2 h3 => ?_)
  rw [nI_clamp (by omega)] at h1 h2
  have q := va_pl_set (X := []) (e := .inl (mcl G k, mln k, .inl (upd (M k) j y))) hD m1 hk0
  have q : (va_pl L ev).set k0 _ = va_pl L _ := q
  refine kk H1 locs1 ⟨⟨L, _, q ▸ h1, q ▸ h2, rpC_up hC (Or.inr (by rw [m2]; exact kd_ma G M k)), rpM_ma hM hk⟩, hK, hA, h3⟩
theorem r_mstZ (hx : p.tables.exec = Jvm.exec) (hb : c.code = cc) (hw : Wi G (f, wa, S, M) s H locs) (k : Nat) (hk : k < 9) (hki : k = 0 ∨ k = 3) {ix y : Int32} (hy : vp_nar .boolean y = y) (j : Nat) (hix : ix = nI j) (hj : j < mln k) (hdg : decode cc pc = .ok (.bastore, 1))
    (kk : ∀ (H1 : Heap) (locs1 : List Loc), Wi G (f, wa, S, sU M k j y) s H1 locs1 → W p l e R s m args below meth c H1 locs1 cells slots Q (F0 m (pc + 1) ls rest)) : W p l e R s m args below meth c H locs cells slots Q (F0 m pc ls (.int y :: .int ix :: .ref (gc G k) :: rest)) := by
  obtain ⟨⟨L, ev, hP, hD, hC, hM⟩, hK, hA, hS⟩ := hw
  have hl : mln k < 2 ^ 31 := by unfold mln; split <;> decide
  obtain ⟨m1, m2⟩ := hM.2.1 k hk
  obtain ⟨k0, hk0⟩ := va_pl_get (X := []) (f := ev) m1
  have hk1 := hk0
  have hcl : mcl G k = gZ G := by rw [mcl, if_pos hki]
  rw [m2] at hk1
  subst hix
  refine va_zast hx hb hK hP hD hS k0 1 hk1 (by rw [hcl]; rfl) (vp_in_nI hj hl) hdg (fun H1 locs1 h1 h2 h3 => ?_)
  rw [nI_clamp (by omega), hy] at h1 h2
  have q := va_pl_set (X := []) (e := .inl (mcl G k, mln k, .inl (upd (M k) j y))) hD m1 hk0
  have q : (va_pl L ev).set k0 _ = va_pl L _ := q
  refine kk H1 locs1 ⟨⟨L, _, q ▸ h1, q ▸ h2, rpC_up hC (Or.inr (by rw [m2]; exact kd_ma G M k)), rpM_ma hM hk⟩, hK, hA, h3⟩
/-- a locker's items -/
theorem r_wld (hx : p.tables.exec = Jvm.exec) (hb : c.code = cc) (hw : Wi G (f, wa, S, M) s H locs) {i a : Nat} (hi : i < 25) (hf : f i = some a) {ix : Int32} (j : Nat) (hix : ix = nI j) (hj : j < 10) (hdg : decode cc pc = .ok (.iaload, 1))
    (kk : W p l e R s m args below meth c H locs cells slots Q (F0 m (pc + 1) ls (.int (S 8 (10 * i + j)) :: rest))) : W p l e R s m args below meth c H locs cells slots Q (F0 m pc ls (.int ix :: .ref (wa i) :: rest)) := by
  obtain ⟨⟨L, ev, hP, hD, ⟨-, -, c3, -⟩, -⟩, hK, -⟩ := hw
  obtain ⟨w1, g, w2, w3⟩ := (c3 i hi a hf).2
  obtain ⟨k0, hk0⟩ := va_pl_get (X := []) (f := ev) w1
  rw [w2] at hk0
  subst hix
  refine va_iald hx hb hK hP k0 0 hk0 rfl (vp_in_nI hj (by decide)) hdg ?_
  rw [nI_clamp (by omega), w3 j hj]
  exact kk
theorem r_wst (hx : p.tables.exec = Jvm.exec) (hb : c.code = cc) (hw : Wi G (f, wa, S, M) s H locs) {i a : Nat} (hi : i < 25) (hf : f i = some a) {ix y : Int32} (j : Nat) (hix : ix = nI j) (hj : j < 10) (hdg : decode cc pc = .ok (.iastore, 1))
    (kk : ∀ (H1 : Heap) (locs1 : List Loc), Wi G (f, wa, sU S 8 (10 * i + j) y, M) s H1 locs1 → W p l e R s m args below meth c H1 locs1 cells slots Q (F0 m (pc + 1) ls rest)) : W p l e R s m args below meth c H locs cells slots Q (F0 m pc ls (.int y :: .int ix :: .ref (wa i) :: rest)) := by
  obtain ⟨⟨L, ev, hP, hD, hC, hM⟩, hK, hA, hS⟩ := hw
  obtain ⟨w1, g, w2, w3⟩ := (hC.2.2.1 i hi a hf).2
  obtain ⟨k0, hk0⟩ := va_pl_get (X := []) (f := ev) w1
  have hk1 := hk0
  rw [w2] at hk1
  subst hix
  refine va_iast hx hb hK hP hD hS k0 0 hk1 rfl (vp_in_nI hj (by decide)) hdg (fun H1 locs1 h1 h2 h3 => ?_)
  rw [nI_clamp (by omega)] at h1 h2
  have q := va_pl_set (X := []) (e := .inl (gI G, 10, .inl (upd g j y))) hD w1 hk0
  have q : (va_pl L ev).set k0 _ = va_pl L _ := q
  refine kk H1 locs1 ⟨⟨L, _, q ▸ h1, q ▸ h2, rpC_ar hC hi hf hj w2, rpM_up hM (by rw [w2]; simp [kd]) (by rw [w2]; simp [kd])⟩, hK, hA, h3⟩
/-- the hooks -/
theorem r_hld (hx : p.tables.exec = Jvm.exec) (hb : c.code = cc) (hw : Wi G (f, wa, S, M) s H locs) {ix : Int32} (j : Nat) (hix : ix = nI j) (hj : j < 24) {v : Value} (hv : va_rf (f j) = v) (hdg : decode cc pc = .ok (.aaload, 1))
    (kk : W p l e R s m args below meth c H locs cells slots Q (F0 m (pc + 1) ls (v :: rest))) : W p l e R s m args below meth c H locs cells slots Q (F0 m pc ls (.int ix :: .ref (gh G) :: rest)) := by
  obtain ⟨⟨L, ev, hP, hD, ⟨-, ⟨h1, f0, h2, h3⟩, -⟩, -⟩, hK, -⟩ := hw
  obtain ⟨k0, hk0⟩ := va_pl_get (X := []) (f := ev) h1
  rw [h3] at hk0
  subst hix
  refine va_aldq (C := RX0) hx hb hK hP k0 2 hk0 rfl (vp_in_nI hj (by decide)) hdg ?_
  rw [nI_clamp (by omega), h2 j hj]
  exact hv ▸ kk
/-- method's head -/
theorem m_head {y : MethodName} {ws ws' : List Cond} {rm : Room} {Qc : Array Value → State → Outcome → State → Prop} {mc ms : Nat} {free : Addr → Prop} {maxL : Nat} {ret : Option FieldType} {av : List Value} {u : WT}
    (hy : plainName y.cls = true) (hw : ws = Cond.code y cc maxL ret :: ws') (hlen : (lg_sl av).length ≤ maxL)
    (body : ∀ (p : Program) (e : Env) (s : State) (m : MethodId) (below : List Frame) (meth : Method) (c : Code), p.tables.exec = Jvm.exec → c.code = cc → c.maxLocals = maxL → meth.sig.returnType = ret → meth.locks = false → s.vm.findClass y.cls = some m.cls → (∀ w ∈ ws, w.before av.toArray s = true) → Wi G u s s.heap [] → ∀ ls : Array Slot, lv_has ls maxL (lv_args 0 av) →
      W p l e (headSpec ws rm).room s m av.toArray below meth c s.heap [] 0 0 (MQ below Qc av.toArray s mc ms free) (F0 m 0 ls [])) : Met l y ws rm (va_Pc av (Wo G u)) Qc mc ms free := by
  refine Met.ofW (cc := cc) (maxL := maxL) (ret := ret) hy hw ?_
  intro p e s m args below meth c s₁ B hml hv
  obtain ⟨rfl, hW⟩ := hv
  rw [lg_entry_eq]
  exact body p e s m below meth c B.exec B.bytes hml B.returns B.notSynchronized (findClass_of_methodNamed B.named) (atoms_spec (ws := ws) B.pre) hW.i _ (lv_entry av hlen)
/-- ends -/
abbrev Qi (G : GT) (P : Int32 → WT → Prop) : Array Value → State → Outcome → State → Prop := va_Qi P (fun u t => Wo G u t) (gA G)
abbrev Ql (G : GT) (P : Int64 → WT → Prop) : Array Value → State → Outcome → State → Prop := va_Ql P (fun u t => Wo G u t) (gA G)
abbrev Qv (G : GT) (P : WT → Prop) : Array Value → State → Outcome → State → Prop := va_Qv P (fun u t => Wo G u t) (gA G)
abbrev Qo (G : GT) (P : Option Nat → WT → Prop) : Array Value → State → Outcome → State → Prop := va_Qq P (fun u t => Wo G u t) (gA G)
theorem e_i {u : WT} {P : Int32 → WT → Prop} {v : Int32} (hx : p.tables.exec = Jvm.exec) (hb : c.code = cc) (hr : meth.sig.returnType = some .int) (hlocks : meth.locks = false) (hw : Wi G u s H locs) (hdg : decode cc pc = .ok (.ireturn, 1)) (hP : P v u) :
    W p l e R s m args below meth c H locs cells slots (MQ below (Qi G P) args s cells slots (gA G)) (F0 m pc ls [.int v]) :=
  W.iret hx hb hr (fun t ht hW => ⟨⟨v, u, rfl, hP, hw.o ht hW.alike⟩, hw.2.2.2.F ht⟩) hw.2.2.2.2.2 hdg
theorem e_z {u : WT} {P : Int32 → WT → Prop} {v : Int32} (hx : p.tables.exec = Jvm.exec) (hb : c.code = cc) (hr : meth.sig.returnType = some .boolean) (hlocks : meth.locks = false) (hw : Wi G u s H locs) (hn : narrow .boolean (.int v) = .int v) (hdg : decode cc pc = .ok (.ireturn, 1)) (hP : P v u) :
    W p l e R s m args below meth c H locs cells slots (MQ below (Qi G P) args s cells slots (gA G)) (F0 m pc ls [.int v]) :=
  W.zret hx hb hr hn (fun t ht hW => ⟨⟨v, u, rfl, hP, hw.o ht hW.alike⟩, hw.2.2.2.F ht⟩) hw.2.2.2.2.2 hdg
theorem e_l {u : WT} {P : Int64 → WT → Prop} {v : Int64} (hx : p.tables.exec = Jvm.exec) (hb : c.code = cc) (hr : meth.sig.returnType = some .long) (hlocks : meth.locks = false) (hw : Wi G u s H locs) (hdg : decode cc pc = .ok (.lreturn, 1)) (hP : P v u) :
    W p l e R s m args below meth c H locs cells slots (MQ below (Ql G P) args s cells slots (gA G)) (F0 m pc ls [.long v]) :=
  W.lret hx hb hr (fun t ht hW => ⟨⟨v, u, rfl, hP, hw.o ht hW.alike⟩, hw.2.2.2.F ht⟩) hw.2.2.2.2.2 hdg
theorem e_v {u : WT} {P : WT → Prop} (hx : p.tables.exec = Jvm.exec) (hb : c.code = cc) (hr : meth.sig.returnType = none) (hlocks : meth.locks = false) (hw : Wi G u s H locs) (hdg : decode cc pc = .ok (.return_, 1)) (hP : P u) :
    W p l e R s m args below meth c H locs cells slots (MQ below (Qv G P) args s cells slots (gA G)) (F0 m pc ls []) :=
  W.vret hx hb hr (fun t ht hW => ⟨⟨u, rfl, hP, hw.o ht hW.alike⟩, hw.2.2.2.F ht⟩) hw.2.2.2.2.2 hdg
theorem e_o {u : WT} {P : Option Nat → WT → Prop} (r : Option Nat) {v : Value} (hv : v = va_rf r) {C : String} (hx : p.tables.exec = Jvm.exec) (hb : c.code = cc) (hr : meth.sig.returnType = some (.object C)) (hlocks : meth.locks = false) (hw : Wi G u s H locs) (hdg : decode cc pc = .ok (.areturn, 1)) (hP : P r u) :
    W p l e R s m args below meth c H locs cells slots (MQ below (Qo G P) args s cells slots (gA G)) (F0 m pc ls [v]) := by
  subst hv
  exact W.aret hx hb hr (Or.inl ⟨C, rfl⟩) (va_rf_or r) (fun t ht hW => ⟨⟨r, u, rfl, hP, hw.o ht hW.alike⟩, hw.2.2.2.F ht⟩) hw.2.2.2.2.2 hdg
/-- behind a call -/
theorem Wi.back {u u' : WT} {t : State} {H1 : Heap} {locs1 : List Loc} (hw : Wi G u s H locs) (ht : t.heap = H1) (hvm : s.vm.Alike t.vm) (ho : Wo G u' t) (hS : va_S (gA G) s.heap H1 locs1) : Wi G u' s H1 locs1 :=
  ⟨ht ▸ ho.1, hw.2.1, hw.2.2.1, hS⟩
theorem k_i {u : WT} {P : Int32 → WT → Prop} {mc ms : Nat} {st0 : List Value} {a : Array Value} (hw : Wi G u s H locs) (hr : va_Run p l e R s m args below meth c H locs cells slots mc ms (F0 m pc ls st0) rest (Qi G P a) (gA G))
    (kk : ∀ (r : Int32) (u' : WT) (H1 : Heap) (locs1 : List Loc), P r u' → Wi G u' s H1 locs1 → W p l e R s m args below meth c H1 locs1 (cells + mc) (slots + ms) Q (F0 m (pc + 3) ls (.int r :: rest))) : W p l e R s m args below meth c H locs cells slots Q (F0 m pc ls st0) :=
  va_calli hr hw.2.2.2 (fun _ _ h => h) (fun _ h => h) (fun r u' t H1 locs1 ht hvm hp hB _ _ hS => kk r u' H1 locs1 hp (hw.back ht hvm hB hS))
theorem k_l {u : WT} {P : Int64 → WT → Prop} {mc ms : Nat} {st0 : List Value} {a : Array Value} (hw : Wi G u s H locs) (hr : va_Run p l e R s m args below meth c H locs cells slots mc ms (F0 m pc ls st0) rest (Ql G P a) (gA G))
    (kk : ∀ (r : Int64) (u' : WT) (H1 : Heap) (locs1 : List Loc), P r u' → Wi G u' s H1 locs1 → W p l e R s m args below meth c H1 locs1 (cells + mc) (slots + ms) Q (F0 m (pc + 3) ls (.long r :: rest))) : W p l e R s m args below meth c H locs cells slots Q (F0 m pc ls st0) :=
  va_calll hr hw.2.2.2 (fun _ _ h => h) (fun _ h => h) (fun r u' t H1 locs1 ht hvm hp hB _ _ hS => kk r u' H1 locs1 hp (hw.back ht hvm hB hS))
theorem k_v {u : WT} {P : WT → Prop} {mc ms : Nat} {st0 : List Value} {a : Array Value} (hw : Wi G u s H locs) (hr : va_Run p l e R s m args below meth c H locs cells slots mc ms (F0 m pc ls st0) rest (Qv G P a) (gA G))
    (kk : ∀ (u' : WT) (H1 : Heap) (locs1 : List Loc), P u' → Wi G u' s H1 locs1 → W p l e R s m args below meth c H1 locs1 (cells + mc) (slots + ms) Q (F0 m (pc + 3) ls rest)) : W p l e R s m args below meth c H locs cells slots Q (F0 m pc ls st0) :=
  va_callv hr hw.2.2.2 (fun _ _ h => h) (fun _ h => h) (fun u' t H1 locs1 ht hvm hp hB _ _ hS => kk u' H1 locs1 hp (hw.back ht hvm hB hS))
theorem k_o {u : WT} {P : Option Nat → WT → Prop} {mc ms : Nat} {st0 : List Value} {a : Array Value} (hw : Wi G u s H locs) (hr : va_Run p l e R s m args below meth c H locs cells slots mc ms (F0 m pc ls st0) rest (Qo G P a) (gA G))
    (kk : ∀ (r : Option Nat) (u' : WT) (H1 : Heap) (locs1 : List Loc), P r u' → Wi G u' s H1 locs1 → W p l e R s m args below meth c H1 locs1 (cells + mc) (slots + ms) Q (F0 m (pc + 3) ls (va_rf r :: rest))) : W p l e R s m args below meth c H locs cells slots Q (F0 m pc ls st0) :=
  va_callq hr hw.2.2.2 (fun _ _ h => h) (fun _ h => h) (fun r u' t H1 locs1 ht hvm hp hB _ _ hS => kk r u' H1 locs1 hp (hw.back ht hvm hB hS))
end RW
end
section
/-! numbers and small words -/
abbrev rk (k : Nat) : Room := { frames := k, cells := 0, slots := 0, locals := 30 * k }
theorem ix10 (i k : Nat) : (10 : Int32) * nI i + nI k = nI (10 * i + k) := by
  rw [show (10 : Int32) = nI 10 from rfl, pk_mul, nI_add]
theorem ix24 {a : Nat} (h : a < 2 ^ 31) : nI a - nI a / 24 * 24 = nI (a % 24) := by
  have := pk_rem (a := a) (d := 24) h (by decide) (by decide)
  exact this
def b2i (b : Bool) : Int32 := if b then 1 else 0
def isH (i : Int32) : Bool := !decide (i < 0) && !decide (24 ≤ i)
def isWt (w : Int32) : Bool := !decide (w < 1) && !decide (1000 < w)
theorem isH_nI {j : Nat} (h : j < 24) : isH (nI j) = true := by
  have h1 : ¬ nI j < 0 := nI_pos (by omega)
  have h2 : ¬ (24 : Int32) ≤ nI j := nI_ge (b := 24) h (by decide)
  simp [isH, h1, h2]
theorem isH_of {i : Int32} (h : isH i = true) : ∃ j : Nat, j < 24 ∧ i = nI j := by
  have hh : ¬ i < 0 ∧ ¬ (24 : Int32) ≤ i := by simpa [isH] using h
  rcases pk_ix i (n := 24) (by decide) with h1 | h1 | h1
  · exact absurd h1 hh.1
  · exact absurd h1 hh.2
  · exact h1
theorem cl24 {j : Nat} (h : j < 24) : (nI j).toNatClampNeg = j := nI_clamp (by omega)
/-- what the items of row i weigh -/
def wt (S : Tb) (i : Nat) : Int32 := l_sum (fun k => S 8 (10 * i + k)) (S 5 i).toNatClampNeg
theorem wt_n {S : Tb} {i n : Nat} (hn : S 5 i = nI n) (h10 : n ≤ 10) : wt S i = l_sum (fun k => S 8 (10 * i + k)) n := by
  rw [wt, hn, nI_clamp (by omega)]
/-- row i has an item of just w -/
def hasI (S : Tb) (i : Nat) (w : Int32) : Nat → Bool
  | 0 => false
  | k + 1 => hasI S i w k || decide (S 8 (10 * i + k) = w)
def has (S : Tb) (i : Nat) (w : Int32) : Bool := hasI S i w (S 5 i).toNatClampNeg
theorem has_n {S : Tb} {i n : Nat} {w : Int32} (hn : S 5 i = nI n) (h10 : n ≤ 10) : has S i w = hasI S i w n := by
  rw [has, hn, nI_clamp (by omega)]
theorem hasI_up {S : Tb} {i : Nat} {w : Int32} {k : Nat} (h : hasI S i w k = true) : ∀ d, hasI S i w (k + d) = true
  | 0 => h
  | d + 1 => by show (hasI S i w (k + d) || _) = true; rw [hasI_up h d]; rfl
def okA (S : Tb) (i : Nat) (w : Int32) : Bool := !decide (10 ≤ S 5 i) && decide (wt S i + w ≤ S 1 i)
def acS (S : Tb) (i : Nat) (w : Int32) : Tb := sU (sU S 8 (10 * i + (S 5 i).toNatClampNeg) w) 5 i (S 5 i + 1)
def rmS (S : Tb) (i : Nat) : Tb := sU S 5 i (S 5 i - 1)
def rmV (S : Tb) (i : Nat) : Int32 := S 8 (10 * i + (S 5 i - 1).toNatClampNeg)
theorem Wi.col0 {G : GT} {f : Nat → Option Nat} {wa : Nat → Nat} {S M : Tb} {s : State} {H : Heap} {locs : List Loc} (h : Wi G (f, wa, S, M) s H locs) {i : Nat} (hi : i < 25) : S 0 i = oN (f i) := by
  obtain ⟨⟨L, ev, hP, hD, ⟨-, -, -, -, -, c6⟩, -⟩, -⟩ := h
  exact c6 i hi
def wOf (S : Tb) (i : Nat) (k : Int32) : Int32 := if k < 0 then (-8) else if S 5 i ≤ k then (-8) else S 8 (10 * i + k.toNatClampNeg)
end
section
set_option maxHeartbeats 4000000 in
set_option maxRecDepth 100000 in
theorem c_X1_isHook (l : Launch) (G : GT) (f : Nat → Option Nat) (wa : Nat → Nat) (S M : Tb) (p1 : Int32) : Met l yX1_isHook wsX1_isHook (rk 0) (va_Pc [.int p1] (Wo G (f, wa, S, M))) (Qi G (fun r u => r = b2i (isH p1) ∧ u = (f, wa, S, M))) 0 0 (gA G) := by
  refine m_head (cc := cX1_isHook) (maxL := 1) (ret := (some .boolean)) (by decide) rfl (Nat.le_of_ble_eq_true rfl) ?_
  intro p e s m below meth c hx hb hml hr hlocks hown hts hw ls hl
  have hown : s.vm.findClass RX1 = some m.cls := hown
  have hl : lv_has ls 1 [(0, .int p1)] := hl
  refine lv_iload_n hx hb dX1_isHook_0 rfl (lv_at hl 0 rfl) ?_
  refine lv_if_lt (tgt := 14) hx hb dX1_isHook_1 (by decide) (fun c_1 => ?_) (fun c_1 => ?_)
  · skip
    refine lv_iconst (v := 0) hx hb dX1_isHook_14 (by decide) ?_
    exact e_z hx hb hr hlocks hw rfl dX1_isHook_15 ⟨by simp [isH, b2i, *], rfl⟩
  · skip
    refine lv_iload_n hx hb dX1_isHook_4 rfl (lv_at hl 0 rfl) ?_
    refine lv_bipush (v := 24) hx hb dX1_isHook_5 (by decide) ?_
    refine lv_icmp_ge (tgt := 14) hx hb dX1_isHook_7 (by decide) (fun c_7 => ?_) (fun c_7 => ?_)
    · skip
      refine lv_iconst (v := 0) hx hb dX1_isHook_14 (by decide) ?_
      exact e_z hx hb hr hlocks hw rfl dX1_isHook_15 ⟨by simp [isH, b2i, *], rfl⟩
    · skip
      refine lv_iconst (v := 1) hx hb dX1_isHook_10 (by decide) ?_
      refine lv_goto (tgt := 15) hx hb dX1_isHook_11 (by decide) ?_
      exact e_z hx hb hr hlocks hw rfl dX1_isHook_15 ⟨by simp [isH, b2i, *], rfl⟩

set_option maxHeartbeats 4000000 in
set_option maxRecDepth 100000 in
theorem c_X1_isWeight (l : Launch) (G : GT) (f : Nat → Option Nat) (wa : Nat → Nat) (S M : Tb) (p1 : Int32) : Met l yX1_isWeight wsX1_isWeight (rk 0) (va_Pc [.int p1] (Wo G (f, wa, S, M))) (Qi G (fun r u => r = b2i (isWt p1) ∧ u = (f, wa, S, M))) 0 0 (gA G) := by
  refine m_head (cc := cX1_isWeight) (maxL := 1) (ret := (some .boolean)) (by decide) rfl (Nat.le_of_ble_eq_true rfl) ?_
  intro p e s m below meth c hx hb hml hr hlocks hown hts hw ls hl
  have hown : s.vm.findClass RX1 = some m.cls := hown
  have hl : lv_has ls 1 [(0, .int p1)] := hl
  refine lv_iload_n hx hb dX1_isWeight_0 rfl (lv_at hl 0 rfl) ?_
  refine lv_iconst (v := 1) hx hb dX1_isWeight_1 (by decide) ?_
  refine lv_icmp_lt (tgt := 16) hx hb dX1_isWeight_2 (by decide) (fun c_2 => ?_) (fun c_2 => ?_)
  · skip
    refine lv_iconst (v := 0) hx hb dX1_isWeight_16 (by decide) ?_
    exact e_z hx hb hr hlocks hw rfl dX1_isWeight_17 ⟨by simp [isWt, b2i, *], rfl⟩
  · skip
    refine lv_iload_n hx hb dX1_isWeight_5 rfl (lv_at hl 0 rfl) ?_
    refine lv_sipush (v := 1000) hx hb dX1_isWeight_6 (by decide) ?_
    refine lv_icmp_gt (tgt := 16) hx hb dX1_isWeight_9 (by decide) (fun c_9 => ?_) (fun c_9 => ?_)
    · skip
      refine lv_iconst (v := 0) hx hb dX1_isWeight_16 (by decide) ?_
      exact e_z hx hb hr hlocks hw rfl dX1_isWeight_17 ⟨by simp [isWt, b2i, *], rfl⟩
    · skip
      refine lv_iconst (v := 1) hx hb dX1_isWeight_12 (by decide) ?_
      refine lv_goto (tgt := 17) hx hb dX1_isWeight_13 (by decide) ?_
      exact e_z hx hb hr hlocks hw rfl dX1_isWeight_17 ⟨by simp [isWt, b2i, *], rfl⟩

set_option maxHeartbeats 4000000 in
set_option maxRecDepth 100000 in
theorem c_X2_isHook (l : Launch) (G : GT) (f : Nat → Option Nat) (wa : Nat → Nat) (S M : Tb) (p1 : Int32) : Met l yX2_isHook wsX2_isHook (rk 0) (va_Pc [.int p1] (Wo G (f, wa, S, M))) (Qi G (fun r u => r = b2i (isH p1) ∧ u = (f, wa, S, M))) 0 0 (gA G) := by
  refine m_head (cc := cX2_isHook) (maxL := 1) (ret := (some .boolean)) (by decide) rfl (Nat.le_of_ble_eq_true rfl) ?_
  intro p e s m below meth c hx hb hml hr hlocks hown hts hw ls hl
  have hown : s.vm.findClass RX2 = some m.cls := hown
  have hl : lv_has ls 1 [(0, .int p1)] := hl
  refine lv_iload_n hx hb dX2_isHook_0 rfl (lv_at hl 0 rfl) ?_
  refine lv_if_lt (tgt := 14) hx hb dX2_isHook_1 (by decide) (fun c_1 => ?_) (fun c_1 => ?_)
  · skip
    refine lv_iconst (v := 0) hx hb dX2_isHook_14 (by decide) ?_
    exact e_z hx hb hr hlocks hw rfl dX2_isHook_15 ⟨by simp [isH, b2i, *], rfl⟩
  · skip
    refine lv_iload_n hx hb dX2_isHook_4 rfl (lv_at hl 0 rfl) ?_
    refine lv_bipush (v := 24) hx hb dX2_isHook_5 (by decide) ?_
    refine lv_icmp_ge (tgt := 14) hx hb dX2_isHook_7 (by decide) (fun c_7 => ?_) (fun c_7 => ?_)
    · skip
      refine lv_iconst (v := 0) hx hb dX2_isHook_14 (by decide) ?_
      exact e_z hx hb hr hlocks hw rfl dX2_isHook_15 ⟨by simp [isH, b2i, *], rfl⟩
    · skip
      refine lv_iconst (v := 1) hx hb dX2_isHook_10 (by decide) ?_
      refine lv_goto (tgt := 15) hx hb dX2_isHook_11 (by decide) ?_
      exact e_z hx hb hr hlocks hw rfl dX2_isHook_15 ⟨by simp [isH, b2i, *], rfl⟩

set_option maxHeartbeats 4000000 in
set_option maxRecDepth 100000 in
theorem c_X2_isWeight (l : Launch) (G : GT) (f : Nat → Option Nat) (wa : Nat → Nat) (S M : Tb) (p1 : Int32) : Met l yX2_isWeight wsX2_isWeight (rk 0) (va_Pc [.int p1] (Wo G (f, wa, S, M))) (Qi G (fun r u => r = b2i (isWt p1) ∧ u = (f, wa, S, M))) 0 0 (gA G) := by
  refine m_head (cc := cX2_isWeight) (maxL := 1) (ret := (some .boolean)) (by decide) rfl (Nat.le_of_ble_eq_true rfl) ?_
  intro p e s m below meth c hx hb hml hr hlocks hown hts hw ls hl
  have hown : s.vm.findClass RX2 = some m.cls := hown
  have hl : lv_has ls 1 [(0, .int p1)] := hl
  refine lv_iload_n hx hb dX2_isWeight_0 rfl (lv_at hl 0 rfl) ?_
  refine lv_iconst (v := 1) hx hb dX2_isWeight_1 (by decide) ?_
  refine lv_icmp_lt (tgt := 16) hx hb dX2_isWeight_2 (by decide) (fun c_2 => ?_) (fun c_2 => ?_)
  · skip
    refine lv_iconst (v := 0) hx hb dX2_isWeight_16 (by decide) ?_
    exact e_z hx hb hr hlocks hw rfl dX2_isWeight_17 ⟨by simp [isWt, b2i, *], rfl⟩
  · skip
    refine lv_iload_n hx hb dX2_isWeight_5 rfl (lv_at hl 0 rfl) ?_
    refine lv_sipush (v := 1000) hx hb dX2_isWeight_6 (by decide) ?_
    refine lv_icmp_gt (tgt := 16) hx hb dX2_isWeight_9 (by decide) (fun c_9 => ?_) (fun c_9 => ?_)
    · skip
      refine lv_iconst (v := 0) hx hb dX2_isWeight_16 (by decide) ?_
      exact e_z hx hb hr hlocks hw rfl dX2_isWeight_17 ⟨by simp [isWt, b2i, *], rfl⟩
    · skip
      refine lv_iconst (v := 1) hx hb dX2_isWeight_12 (by decide) ?_
      refine lv_goto (tgt := 17) hx hb dX2_isWeight_13 (by decide) ?_
      exact e_z hx hb hr hlocks hw rfl dX2_isWeight_17 ⟨by simp [isWt, b2i, *], rfl⟩

set_option maxHeartbeats 4000000 in
set_option maxRecDepth 100000 in
theorem c_X0_letGo (l : Launch) (G : GT) (f : Nat → Option Nat) (wa : Nat → Nat) (S M : Tb) {i a : Nat} (hi : i < 25) (hf : f i = some a) (p1 p2 : Int32) : Met l yX0_letGo wsX0_letGo (rk 0) (va_Pc [.ref a, .int p1, .int p2] (Wo G (f, wa, S, M))) (Qi G (fun r u => r = p2 ∧ u = (f, wa, sU S 7 i p1, M))) 0 0 (gA G) := by
  refine m_head (cc := cX0_letGo) (maxL := 3) (ret := (some .int)) (by decide) rfl (Nat.le_of_ble_eq_true rfl) ?_
  intro p e s m below meth c hx hb hml hr hlocks hown hts hw ls hl
  have hown : s.vm.findClass RX0 = some m.cls := hown
  have hl : lv_has ls 3 [(0, .ref a), (1, .int p1), (2, .int p2)] := hl
  have hin0 : ∀ w ∈ wsX00, w ∈ wsX0_letGo := by decide +kernel
  have lk22 := hts (.fieldLink RX0 22 "LockerWall$Locker" "left" "I") (by decide +kernel)
  refine lv_aload_n hx hb dX0_letGo_0 rfl (lv_at hl 0 rfl) ?_
  refine lv_iload_n hx hb dX0_letGo_1 rfl (lv_at hl 1 rfl) ?_
  refine r_put0 hx hb hts hin0 hown hw hi hf 7 7 (by decide) lk22 rfl rfl dX0_letGo_2 (fun H locs hw => ?_)
  have hw : Wi G (f, wa, sU S 7 i p1, M) s H locs := hw
  refine lv_iload_n hx hb dX0_letGo_5 rfl (lv_at hl 2 rfl) ?_
  exact e_i hx hb hr hlocks hw dX0_letGo_6 ⟨rfl, rfl⟩

set_option maxHeartbeats 4000000 in
set_option maxRecDepth 100000 in
theorem c_X0_weight (l : Launch) (G : GT) (f : Nat → Option Nat) (wa : Nat → Nat) (S M : Tb) {i a : Nat} (hi : i < 25) (hf : f i = some a) {n : Nat} (hn : S 5 i = nI n) (h10 : n ≤ 10) : Met l yX0_weight wsX0_weight (rk 0) (va_Pc [.ref a] (Wo G (f, wa, S, M))) (Qi G (fun r u => r = wt S i ∧ u = (f, wa, S, M))) 0 0 (gA G) := by
  refine m_head (cc := cX0_weight) (maxL := 3) (ret := (some .int)) (by decide) rfl (Nat.le_of_ble_eq_true rfl) ?_
  intro p e s m below meth c hx hb hml hr hlocks hown hts hw ls hl
  have hown : s.vm.findClass RX0 = some m.cls := hown
  have hl : lv_has ls 3 [(0, .ref a)] := hl
  have hin0 : ∀ w ∈ wsX00, w ∈ wsX0_weight := by decide +kernel
  have lk25 := hts (.fieldLink RX0 25 "LockerWall$Locker" "count" "I") (by decide +kernel)
  have lk18 := hts (.fieldLink RX0 18 "LockerWall$Locker" "weights" "[I") (by decide +kernel)
  have loop : ∀ (d k : Nat) (H : Heap) (locs : List Loc) (ls : Array Slot), k + d = n → Wi G (f, wa, S, M) s H locs → lv_has ls 3 [(2, .int (nI k)), (1, .int (l_sum (fun k => S 8 (10 * i + k)) k)), (0, .ref a)] → W p l e (headSpec wsX0_weight (rk 0)).room s m [.ref a].toArray below meth c H locs 0 0 (MQ below (Qi G (fun r u => r = wt S i ∧ u = (f, wa, S, M))) [.ref a].toArray s 0 0 (gA G)) (F0 m 4 ls []) := by
    intro d
    induction d with
    | zero =>
      intro k H locs ls hk hw hl
      refine lv_iload_n hx hb dX0_weight_4 rfl (lv_at hl 0 rfl) ?_
      refine lv_aload_n hx hb dX0_weight_5 rfl (lv_at hl 2 rfl) ?_
      refine r_get0 (v := .int (S 5 i)) hx hb hts hin0 hown hw hi hf 5 (by decide) lk25 rfl dX0_weight_6 ?_
      refine lv_icmp_ge (tgt := 27) hx hb dX0_weight_9 (by decide) (fun c_9 => ?_) (fun c_9 => ?_)
      · skip
        refine lv_iload_n hx hb dX0_weight_27 rfl (lv_at hl 1 rfl) ?_
        exact e_i hx hb hr hlocks hw dX0_weight_28 ⟨by rw [wt_n hn h10, show n = k by omega], rfl⟩
      · skip
        exact absurd (by rw [hn]; exact nI_le (by omega) (by omega)) c_9
    | succ d ih =>
      intro k H locs ls hk hw hl
      refine lv_iload_n hx hb dX0_weight_4 rfl (lv_at hl 0 rfl) ?_
      refine lv_aload_n hx hb dX0_weight_5 rfl (lv_at hl 2 rfl) ?_
      refine r_get0 (v := .int (S 5 i)) hx hb hts hin0 hown hw hi hf 5 (by decide) lk25 rfl dX0_weight_6 ?_
      refine lv_icmp_ge (tgt := 27) hx hb dX0_weight_9 (by decide) (fun c_9 => ?_) (fun c_9 => ?_)
      · skip
        exact absurd c_9 (by rw [hn]; exact nI_ge (show k < n by omega) (by omega))
      · skip
        refine lv_iload_n hx hb dX0_weight_12 rfl (lv_at hl 1 rfl) ?_
        refine lv_aload_n hx hb dX0_weight_13 rfl (lv_at hl 2 rfl) ?_
        refine r_get0 (v := .ref (wa i)) hx hb hts hin0 hown hw hi hf 4 (by decide) lk18 rfl dX0_weight_14 ?_
        refine lv_iload_n hx hb dX0_weight_17 rfl (lv_at hl 0 rfl) ?_
        refine r_wld hx hb hw hi hf (k) (rfl) (show k < 10 by omega) dX0_weight_18 ?_
        refine lv_iadd hx hb dX0_weight_19 ?_
        refine lv_istore_n (lv' := [(1, .int ((l_sum (fun k => S 8 (10 * i + k)) k) + (S 8 (10 * i + k)))), (2, .int (nI k)), (0, .ref a)]) hx hb dX0_weight_20 rfl hl (by decide) rfl (fun ls hl => ?_)
        refine lv_iinc (v := nI (k + 1)) (lv' := [(2, .int (nI (k + 1))), (1, .int ((l_sum (fun k => S 8 (10 * i + k)) k) + (S 8 (10 * i + k)))), (0, .ref a)]) hx hb dX0_weight_21 hl (k := 1) rfl (nI_1 _) (by decide) rfl (fun ls hl => ?_)
        refine lv_goto (tgt := 4) hx hb dX0_weight_24 (by decide) ?_
        exact ih (k + 1) H locs ls (by omega) hw (lv_sub hl [0, 1, 2] rfl)
  refine lv_iconst (v := 0) hx hb dX0_weight_0 (by decide) ?_
  refine lv_istore_n (lv' := [(1, .int 0), (0, .ref a)]) hx hb dX0_weight_1 rfl hl (by decide) rfl (fun ls hl => ?_)
  refine lv_iconst (v := 0) hx hb dX0_weight_2 (by decide) ?_
  refine lv_istore_n (lv' := [(2, .int 0), (1, .int 0), (0, .ref a)]) hx hb dX0_weight_3 rfl hl (by decide) rfl (fun ls hl => ?_)
  exact loop n 0 _ _ _ (by omega) hw (lv_sub hl [0, 1, 2] rfl)

set_option maxHeartbeats 4000000 in
set_option maxRecDepth 100000 in
theorem c_X0_accept (l : Launch) (G : GT) (f : Nat → Option Nat) (wa : Nat → Nat) (S M : Tb) {i a : Nat} (hi : i < 25) (hf : f i = some a) {n : Nat} (hn : S 5 i = nI n) (h10 : n ≤ 10) (p1 : Int32) : Met l yX0_accept wsX0_accept (rk 1) (va_Pc [.ref a, .int p1] (Wo G (f, wa, S, M))) (Qi G (fun r u => r = b2i (okA S i p1) ∧ u = (f, wa, if okA S i p1 = true then acS S i p1 else S, M))) 0 0 (gA G) := by
  refine m_head (cc := cX0_accept) (maxL := 2) (ret := (some .boolean)) (by decide) rfl (Nat.le_of_ble_eq_true rfl) ?_
  intro p e s m below meth c hx hb hml hr hlocks hown hts hw ls hl
  have hown : s.vm.findClass RX0 = some m.cls := hown
  have hl : lv_has ls 2 [(0, .ref a), (1, .int p1)] := hl
  have hin0 : ∀ w ∈ wsX00, w ∈ wsX0_accept := by decide +kernel
  have lk25 := hts (.fieldLink RX0 25 "LockerWall$Locker" "count" "I") (by decide +kernel)
  have lk9 := hts (.fieldLink RX0 9 "LockerWall$Locker" "room" "I") (by decide +kernel)
  have lk18 := hts (.fieldLink RX0 18 "LockerWall$Locker" "weights" "[I") (by decide +kernel)
  refine lv_aload_n hx hb dX0_accept_0 rfl (lv_at hl 0 rfl) ?_
  refine r_get0 (v := .int (S 5 i)) hx hb hts hin0 hown hw hi hf 5 (by decide) lk25 rfl dX0_accept_1 ?_
  refine lv_bipush (v := 10) hx hb dX0_accept_4 (by decide) ?_
  refine lv_icmp_ge (tgt := 22) hx hb dX0_accept_6 (by decide) (fun c_6 => ?_) (fun c_6 => ?_)
  · skip
    refine lv_iconst (v := 0) hx hb dX0_accept_22 (by decide) ?_
    exact e_z hx hb hr hlocks hw rfl dX0_accept_23 ⟨by simp [b2i, okA, c_6], by simp [okA, c_6]⟩
  · skip
    refine lv_aload_n hx hb dX0_accept_9 rfl (lv_at hl 0 rfl) ?_
    refine k_i hw (va_runV (As := []) (rest := []) ⟨hx, hb, hml, hown, hts⟩ (c_X0_weight l G f wa S M hi hf hn h10) (cwV 0 hts gX0_accept_X0_weight rfl rfl rfl (by decide +kernel) ⟨Nat.le_of_ble_eq_true rfl, Nat.le_of_ble_eq_true rfl⟩) (hw.preL hi hf _) rfl rfl hl.1 rfl (lv_room (Nat.le_of_ble_eq_true rfl)) dX0_accept_10 ⟨Nat.le_of_ble_eq_true rfl, Nat.le_of_ble_eq_true rfl⟩) (fun r u H locs hR hw => ?_)
    obtain ⟨hq, rfl⟩ := hR
    obtain rfl := hq.symm
    refine lv_iload_n hx hb dX0_accept_13 rfl (lv_at hl 1 rfl) ?_
    refine lv_iadd hx hb dX0_accept_14 ?_
    refine lv_aload_n hx hb dX0_accept_15 rfl (lv_at hl 0 rfl) ?_
    refine r_get0 (v := .int (S 1 i)) hx hb hts hin0 hown hw hi hf 0 (by decide) lk9 rfl dX0_accept_16 ?_
    refine lv_icmp_le (tgt := 24) hx hb dX0_accept_19 (by decide) (fun c_19 => ?_) (fun c_19 => ?_)
    · skip
      have hlt : n < 10 := by
        rcases Nat.lt_or_ge n 10 with q | q
        · exact q
        · exact absurd (by rw [hn]; exact nI_le (a := 10) q (by omega)) c_6
      refine lv_aload_n hx hb dX0_accept_24 rfl (lv_at hl 0 rfl) ?_
      refine r_get0 (v := .ref (wa i)) hx hb hts hin0 hown hw hi hf 4 (by decide) lk18 rfl dX0_accept_25 ?_
      refine lv_aload_n hx hb dX0_accept_28 rfl (lv_at hl 0 rfl) ?_
      refine r_get0 (v := .int (S 5 i)) hx hb hts hin0 hown hw hi hf 5 (by decide) lk25 rfl dX0_accept_29 ?_
      refine lv_iload_n hx hb dX0_accept_32 rfl (lv_at hl 1 rfl) ?_
      refine r_wst hx hb hw hi hf (n) (hn) (show n < 10 by omega) dX0_accept_33 (fun H locs hw => ?_)
      have hw : Wi G (f, wa, sU S 8 (10 * i + n) p1, M) s H locs := hw
      refine lv_aload_n hx hb dX0_accept_34 rfl (lv_at hl 0 rfl) ?_
      refine lv_dup hx hb dX0_accept_35 rfl ?_
      refine r_get0 (v := .int (S 5 i)) hx hb hts hin0 hown hw hi hf 5 (by decide) lk25 rfl dX0_accept_36 ?_
      refine lv_iconst (v := 1) hx hb dX0_accept_39 (by decide) ?_
      refine lv_iadd hx hb dX0_accept_40 ?_
      refine r_put0 hx hb hts hin0 hown hw hi hf 5 5 (by decide) lk25 rfl rfl dX0_accept_41 (fun H locs hw => ?_)
      have hw : Wi G (f, wa, sU (sU S 8 (10 * i + n) p1) 5 i ((S 5 i) + 1), M) s H locs := hw
      refine lv_iconst (v := 1) hx hb dX0_accept_44 (by decide) ?_
      have hk : okA S i p1 = true := by simp [okA, c_6, c_19]
      exact e_z hx hb hr hlocks hw rfl dX0_accept_45 ⟨by rw [hk]; rfl, by rw [if_pos hk, acS, hn, nI_clamp (by omega), ← hn]⟩
    · skip
      refine lv_iconst (v := 0) hx hb dX0_accept_22 (by decide) ?_
      exact e_z hx hb hr hlocks hw rfl dX0_accept_23 ⟨by simp [b2i, okA, c_6, c_19], by simp [okA, c_6, c_19]⟩

set_option maxHeartbeats 4000000 in
set_option maxRecDepth 100000 in
theorem c_X0_removeLast (l : Launch) (G : GT) (f : Nat → Option Nat) (wa : Nat → Nat) (S M : Tb) {i a : Nat} (hi : i < 25) (hf : f i = some a) {n : Nat} (hn : S 5 i = nI (n + 1)) (h10 : n < 10) : Met l yX0_removeLast wsX0_removeLast (rk 0) (va_Pc [.ref a] (Wo G (f, wa, S, M))) (Qi G (fun r u => r = rmV S i ∧ u = (f, wa, rmS S i, M))) 0 0 (gA G) := by
  refine m_head (cc := cX0_removeLast) (maxL := 1) (ret := (some .int)) (by decide) rfl (Nat.le_of_ble_eq_true rfl) ?_
  intro p e s m below meth c hx hb hml hr hlocks hown hts hw ls hl
  have hown : s.vm.findClass RX0 = some m.cls := hown
  have hl : lv_has ls 1 [(0, .ref a)] := hl
  have hin0 : ∀ w ∈ wsX00, w ∈ wsX0_removeLast := by decide +kernel
  have lk25 := hts (.fieldLink RX0 25 "LockerWall$Locker" "count" "I") (by decide +kernel)
  have lk18 := hts (.fieldLink RX0 18 "LockerWall$Locker" "weights" "[I") (by decide +kernel)
  refine lv_aload_n hx hb dX0_removeLast_0 rfl (lv_at hl 0 rfl) ?_
  refine r_get0 (v := .int (S 5 i)) hx hb hts hin0 hown hw hi hf 5 (by decide) lk25 rfl dX0_removeLast_1 ?_
  refine lv_if_gt (tgt := 9) hx hb dX0_removeLast_4 (by decide) (fun c_4 => ?_) (fun c_4 => ?_)
  · skip
    refine lv_aload_n hx hb dX0_removeLast_9 rfl (lv_at hl 0 rfl) ?_
    refine lv_dup hx hb dX0_removeLast_10 rfl ?_
    refine r_get0 (v := .int (S 5 i)) hx hb hts hin0 hown hw hi hf 5 (by decide) lk25 rfl dX0_removeLast_11 ?_
    refine lv_iconst (v := 1) hx hb dX0_removeLast_14 (by decide) ?_
    refine lv_isub hx hb dX0_removeLast_15 ?_
    refine r_put0 hx hb hts hin0 hown hw hi hf 5 5 (by decide) lk25 rfl rfl dX0_removeLast_16 (fun H locs hw => ?_)
    have hw : Wi G (f, wa, sU S 5 i ((S 5 i) - 1), M) s H locs := hw
    refine lv_aload_n hx hb dX0_removeLast_19 rfl (lv_at hl 0 rfl) ?_
    refine r_get0 (v := .ref (wa i)) hx hb hts hin0 hown hw hi hf 4 (by decide) lk18 rfl dX0_removeLast_20 ?_
    refine lv_aload_n hx hb dX0_removeLast_23 rfl (lv_at hl 0 rfl) ?_
    refine r_get0 (v := .int ((S 5 i) - 1)) hx hb hts hin0 hown hw hi hf 5 (by decide) lk25 (by simp [sU]) dX0_removeLast_24 ?_
    refine r_wld hx hb hw hi hf (n) ((by rw [hn]; exact nI_pred n)) (show n < 10 by omega) dX0_removeLast_27 ?_
    refine W.eq (g2 := F0 m 28 ls [.int (S 8 (10 * i + n))]) rfl ?_
    exact e_i hx hb hr hlocks hw dX0_removeLast_28 ⟨by simp [rmV, hn, nI_pred, nI_clamp (show n < 2 ^ 31 by omega)], rfl⟩
  · skip
    exact absurd (by rw [hn, ← nI_0]; exact nI_lt (by omega) (by omega)) c_4

set_option maxHeartbeats 4000000 in
set_option maxRecDepth 100000 in
theorem c_X0_contains (l : Launch) (G : GT) (f : Nat → Option Nat) (wa : Nat → Nat) (S M : Tb) {i a : Nat} (hi : i < 25) (hf : f i = some a) {n : Nat} (hn : S 5 i = nI n) (h10 : n ≤ 10) (p1 : Int32) : Met l yX0_contains wsX0_contains (rk 0) (va_Pc [.ref a, .int p1] (Wo G (f, wa, S, M))) (Qi G (fun r u => r = b2i (has S i p1) ∧ u = (f, wa, S, M))) 0 0 (gA G) := by
  refine m_head (cc := cX0_contains) (maxL := 3) (ret := (some .boolean)) (by decide) rfl (Nat.le_of_ble_eq_true rfl) ?_
  intro p e s m below meth c hx hb hml hr hlocks hown hts hw ls hl
  have hown : s.vm.findClass RX0 = some m.cls := hown
  have hl : lv_has ls 3 [(0, .ref a), (1, .int p1)] := hl
  have hin0 : ∀ w ∈ wsX00, w ∈ wsX0_contains := by decide +kernel
  have lk25 := hts (.fieldLink RX0 25 "LockerWall$Locker" "count" "I") (by decide +kernel)
  have lk18 := hts (.fieldLink RX0 18 "LockerWall$Locker" "weights" "[I") (by decide +kernel)
  have loop : ∀ (d k : Nat) (H : Heap) (locs : List Loc) (ls : Array Slot), (k + d = n ∧ hasI S i p1 k = false) → Wi G (f, wa, S, M) s H locs → lv_has ls 3 [(2, .int (nI k)), (0, .ref a), (1, .int p1)] → W p l e (headSpec wsX0_contains (rk 0)).room s m [.ref a, .int p1].toArray below meth c H locs 0 0 (MQ below (Qi G (fun r u => r = b2i (has S i p1) ∧ u = (f, wa, S, M))) [.ref a, .int p1].toArray s 0 0 (gA G)) (F0 m 2 ls []) := by
    intro d
    induction d with
    | zero =>
      intro k H locs ls hk hw hl
      obtain ⟨hk, hno⟩ := hk
      refine lv_iload_n hx hb dX0_contains_2 rfl (lv_at hl 0 rfl) ?_
      refine lv_aload_n hx hb dX0_contains_3 rfl (lv_at hl 1 rfl) ?_
      refine r_get0 (v := .int (S 5 i)) hx hb hts hin0 hown hw hi hf 5 (by decide) lk25 rfl dX0_contains_4 ?_
      refine lv_icmp_ge (tgt := 28) hx hb dX0_contains_7 (by decide) (fun c_7 => ?_) (fun c_7 => ?_)
      · skip
        refine lv_iconst (v := 0) hx hb dX0_contains_28 (by decide) ?_
        exact e_z hx hb hr hlocks hw rfl dX0_contains_29 ⟨by rw [has_n hn h10, show n = k by omega, hno]; rfl, rfl⟩
      · skip
        exact absurd (by rw [hn]; exact nI_le (by omega) (by omega)) c_7
    | succ d ih =>
      intro k H locs ls hk hw hl
      obtain ⟨hk, hno⟩ := hk
      refine lv_iload_n hx hb dX0_contains_2 rfl (lv_at hl 0 rfl) ?_
      refine lv_aload_n hx hb dX0_contains_3 rfl (lv_at hl 1 rfl) ?_
      refine r_get0 (v := .int (S 5 i)) hx hb hts hin0 hown hw hi hf 5 (by decide) lk25 rfl dX0_contains_4 ?_
      refine lv_icmp_ge (tgt := 28) hx hb dX0_contains_7 (by decide) (fun c_7 => ?_) (fun c_7 => ?_)
      · skip
        exact absurd c_7 (by rw [hn]; exact nI_ge (show k < n by omega) (by omega))
      · skip
        refine lv_aload_n hx hb dX0_contains_10 rfl (lv_at hl 1 rfl) ?_
        refine r_get0 (v := .ref (wa i)) hx hb hts hin0 hown hw hi hf 4 (by decide) lk18 rfl dX0_contains_11 ?_
        refine lv_iload_n hx hb dX0_contains_14 rfl (lv_at hl 0 rfl) ?_
        refine r_wld hx hb hw hi hf (k) (rfl) (show k < 10 by omega) dX0_contains_15 ?_
        refine lv_iload_n hx hb dX0_contains_16 rfl (lv_at hl 2 rfl) ?_
        refine lv_icmp_ne (tgt := 22) hx hb dX0_contains_17 (by decide) (fun c_17 => ?_) (fun c_17 => ?_)
        · skip
          refine lv_iinc (v := nI (k + 1)) (lv' := [(2, .int (nI (k + 1))), (0, .ref a), (1, .int p1)]) hx hb dX0_contains_22 hl (k := 0) rfl (nI_1 _) (by decide) rfl (fun ls hl => ?_)
          refine lv_goto (tgt := 2) hx hb dX0_contains_25 (by decide) ?_
          exact ih (k + 1) H locs ls ⟨by omega, by simp [hasI, hno, c_17]⟩ hw (lv_sub hl [0, 1, 2] rfl)
        · skip
          refine lv_iconst (v := 1) hx hb dX0_contains_20 (by decide) ?_
          have h1 : hasI S i p1 (k + 1) = true := by simp [hasI, c_17]
          have h2 := hasI_up h1 d
          exact e_z hx hb hr hlocks hw rfl dX0_contains_21 ⟨by rw [has_n hn h10, show n = k + 1 + d by omega, h2]; rfl, rfl⟩
  refine lv_iconst (v := 0) hx hb dX0_contains_0 (by decide) ?_
  refine lv_istore_n (lv' := [(2, .int 0), (0, .ref a), (1, .int p1)]) hx hb dX0_contains_1 rfl hl (by decide) rfl (fun ls hl => ?_)
  exact loop n 0 _ _ _ ⟨by omega, rfl⟩ hw (lv_sub hl [0, 1, 2] rfl)

set_option maxHeartbeats 4000000 in
set_option maxRecDepth 100000 in
theorem c_X0_weightOf (l : Launch) (G : GT) (f : Nat → Option Nat) (wa : Nat → Nat) (S M : Tb) {i a : Nat} (hi : i < 25) (hf : f i = some a) {n : Nat} (hn : S 5 i = nI n) (h10 : n ≤ 10) (p1 : Int32) : Met l yX0_weightOf wsX0_weightOf (rk 0) (va_Pc [.ref a, .int p1] (Wo G (f, wa, S, M))) (Qi G (fun r u => r = wOf S i p1 ∧ u = (f, wa, S, M))) 0 0 (gA G) := by
  refine m_head (cc := cX0_weightOf) (maxL := 2) (ret := (some .int)) (by decide) rfl (Nat.le_of_ble_eq_true rfl) ?_
  intro p e s m below meth c hx hb hml hr hlocks hown hts hw ls hl
  have hown : s.vm.findClass RX0 = some m.cls := hown
  have hl : lv_has ls 2 [(0, .ref a), (1, .int p1)] := hl
  have hin0 : ∀ w ∈ wsX00, w ∈ wsX0_weightOf := by decide +kernel
  have lk25 := hts (.fieldLink RX0 25 "LockerWall$Locker" "count" "I") (by decide +kernel)
  have lk18 := hts (.fieldLink RX0 18 "LockerWall$Locker" "weights" "[I") (by decide +kernel)
  refine lv_iload_n hx hb dX0_weightOf_0 rfl (lv_at hl 1 rfl) ?_
  refine lv_if_lt (tgt := 21) hx hb dX0_weightOf_1 (by decide) (fun c_1 => ?_) (fun c_1 => ?_)
  · skip
    refine lv_bipush (v := (-8)) hx hb dX0_weightOf_21 (by decide) ?_
    exact e_i hx hb hr hlocks hw dX0_weightOf_23 ⟨by simp [wOf, c_1], rfl⟩
  · skip
    refine lv_iload_n hx hb dX0_weightOf_4 rfl (lv_at hl 1 rfl) ?_
    refine lv_aload_n hx hb dX0_weightOf_5 rfl (lv_at hl 0 rfl) ?_
    refine r_get0 (v := .int (S 5 i)) hx hb hts hin0 hown hw hi hf 5 (by decide) lk25 rfl dX0_weightOf_6 ?_
    refine lv_icmp_ge (tgt := 21) hx hb dX0_weightOf_9 (by decide) (fun c_9 => ?_) (fun c_9 => ?_)
    · skip
      refine lv_bipush (v := (-8)) hx hb dX0_weightOf_21 (by decide) ?_
      exact e_i hx hb hr hlocks hw dX0_weightOf_23 ⟨by simp [wOf, c_1, c_9], rfl⟩
    · skip
      obtain ⟨q, hq, rfl⟩ : ∃ q : Nat, q < n ∧ p1 = nI q := by
        rcases pk_ix p1 (n := n) (by omega) with h | h | h
        · exact absurd h c_1
        · exact absurd (by rw [hn]; exact h) c_9
        · exact h
      refine lv_aload_n hx hb dX0_weightOf_12 rfl (lv_at hl 0 rfl) ?_
      refine r_get0 (v := .ref (wa i)) hx hb hts hin0 hown hw hi hf 4 (by decide) lk18 rfl dX0_weightOf_13 ?_
      refine lv_iload_n hx hb dX0_weightOf_16 rfl (lv_at hl 1 rfl) ?_
      refine r_wld hx hb hw hi hf (q) (rfl) (show q < 10 by omega) dX0_weightOf_17 ?_
      refine lv_goto (tgt := 23) hx hb dX0_weightOf_18 (by decide) ?_
      exact e_i hx hb hr hlocks hw dX0_weightOf_23 ⟨by simp [wOf, c_1, c_9, nI_clamp (show q < 2 ^ 31 by omega)], rfl⟩

set_option maxHeartbeats 4000000 in
set_option maxRecDepth 100000 in
theorem c_X1_holdAt_n (l : Launch) (G : GT) (f : Nat → Option Nat) (wa : Nat → Nat) (S M : Tb) {i : Nat} (hi : i < 24) (hf : f i = none) : Met l yX1_holdAt wsX1_holdAt (rk 1) (va_Pc [.ref (gx G), .int (nI i)] (Wo G (f, wa, S, M))) (Qo G (fun r u => r = none ∧ u = (f, wa, S, M))) 0 0 (gA G) := by
  refine m_head (cc := cX1_holdAt) (maxL := 3) (ret := (some (.object "LockerWall$Locker"))) (by decide) rfl (Nat.le_of_ble_eq_true rfl) ?_
  intro p e s m below meth c hx hb hml hr hlocks hown hts hw ls hl
  have hown : s.vm.findClass RX1 = some m.cls := hown
  have hl : lv_has ls 3 [(0, .ref (gx G)), (1, .int (nI i))] := hl
  have hin1 : ∀ w ∈ wsX10, w ∈ wsX1_holdAt := by decide +kernel
  have lk11 := hts (.fieldLink RX1 11 "LockerWall" "hooks" "[LLockerWall$Locker;") (by decide +kernel)
  refine lv_iload_n hx hb dX1_holdAt_0 rfl (lv_at hl 1 rfl) ?_
  refine k_i hw (va_runS (As := [.int (nI i)]) (rest := []) ⟨hx, hb, hml, hown, hts⟩ (c_X1_isHook l G f wa S M (nI i)) (va_cwS 1 hts gX1_holdAt_X1_isHook rfl rfl rfl (by decide +kernel) ⟨Nat.le_of_ble_eq_true rfl, Nat.le_of_ble_eq_true rfl⟩) (hw.preS _) rfl rfl hl.1 rfl (lv_room (Nat.le_of_ble_eq_true rfl)) dX1_holdAt_1 ⟨Nat.le_of_ble_eq_true rfl, Nat.le_of_ble_eq_true rfl⟩) (fun r u H locs hR hw => ?_)
  obtain ⟨hq, rfl⟩ := hR
  obtain rfl := hq.symm
  refine W.eq (g2 := F0 m 4 ls [.int 1]) (by rw [isH_nI (show i < 24 by omega)]; rfl) ?_
  refine lv_if_ne (tgt := 9) hx hb dX1_holdAt_4 (by decide) (fun c_4 => ?_) (fun c_4 => ?_)
  · skip
    refine lv_aload_n hx hb dX1_holdAt_9 rfl (lv_at hl 0 rfl) ?_
    refine r_getH hx hb hts hin1 hown hw lk11 dX1_holdAt_10 ?_
    refine lv_iload_n hx hb dX1_holdAt_13 rfl (lv_at hl 1 rfl) ?_
    refine r_hld (v := .null) hx hb hw (i) (rfl) (show i < 24 by omega) (by rw [hf]; rfl) dX1_holdAt_14 ?_
    refine lv_astore_nN (lv' := [(2, .null), (0, .ref (gx G)), (1, .int (nI i))]) hx hb dX1_holdAt_15 rfl hl (by decide) rfl (fun ls hl => ?_)
    refine lv_aload_nN hx hb dX1_holdAt_16 rfl (lv_at hl 0 rfl) ?_
    refine lv_ifnullN (tgt := 30) hx hb dX1_holdAt_17 (by decide) ?_
    refine lv_aload_nN hx hb dX1_holdAt_30 rfl (lv_at hl 0 rfl) ?_
    exact e_o (none) rfl hx hb hr hlocks hw dX1_holdAt_31 ⟨rfl, rfl⟩
  · skip
    exact absurd c_4 (by decide)

set_option maxHeartbeats 4000000 in
set_option maxRecDepth 100000 in
theorem c_X1_holdAt_s (l : Launch) (G : GT) (f : Nat → Option Nat) (wa : Nat → Nat) (S M : Tb) {i a : Nat} (hi : i < 24) (hf : f i = some a) : Met l yX1_holdAt wsX1_holdAt (rk 1) (va_Pc [.ref (gx G), .int (nI i)] (Wo G (f, wa, S, M))) (Qo G (fun r u => r = some a ∧ u = (f, wa, sU S 6 i (S 6 i + 1), M))) 0 0 (gA G) := by
  refine m_head (cc := cX1_holdAt) (maxL := 3) (ret := (some (.object "LockerWall$Locker"))) (by decide) rfl (Nat.le_of_ble_eq_true rfl) ?_
  intro p e s m below meth c hx hb hml hr hlocks hown hts hw ls hl
  have hown : s.vm.findClass RX1 = some m.cls := hown
  have hl : lv_has ls 3 [(0, .ref (gx G)), (1, .int (nI i))] := hl
  have hin0 : ∀ w ∈ wsX00, w ∈ wsX1_holdAt := by decide +kernel
  have hin1 : ∀ w ∈ wsX10, w ∈ wsX1_holdAt := by decide +kernel
  have lk11 := hts (.fieldLink RX1 11 "LockerWall" "hooks" "[LLockerWall$Locker;") (by decide +kernel)
  have lk40 := hts (.fieldLink RX1 40 "LockerWall$Locker" "holds" "I") (by decide +kernel)
  refine lv_iload_n hx hb dX1_holdAt_0 rfl (lv_at hl 1 rfl) ?_
  refine k_i hw (va_runS (As := [.int (nI i)]) (rest := []) ⟨hx, hb, hml, hown, hts⟩ (c_X1_isHook l G f wa S M (nI i)) (va_cwS 1 hts gX1_holdAt_X1_isHook rfl rfl rfl (by decide +kernel) ⟨Nat.le_of_ble_eq_true rfl, Nat.le_of_ble_eq_true rfl⟩) (hw.preS _) rfl rfl hl.1 rfl (lv_room (Nat.le_of_ble_eq_true rfl)) dX1_holdAt_1 ⟨Nat.le_of_ble_eq_true rfl, Nat.le_of_ble_eq_true rfl⟩) (fun r u H locs hR hw => ?_)
  obtain ⟨hq, rfl⟩ := hR
  obtain rfl := hq.symm
  refine W.eq (g2 := F0 m 4 ls [.int 1]) (by rw [isH_nI (show i < 24 by omega)]; rfl) ?_
  refine lv_if_ne (tgt := 9) hx hb dX1_holdAt_4 (by decide) (fun c_4 => ?_) (fun c_4 => ?_)
  · skip
    refine lv_aload_n hx hb dX1_holdAt_9 rfl (lv_at hl 0 rfl) ?_
    refine r_getH hx hb hts hin1 hown hw lk11 dX1_holdAt_10 ?_
    refine lv_iload_n hx hb dX1_holdAt_13 rfl (lv_at hl 1 rfl) ?_
    refine r_hld (v := .ref a) hx hb hw (i) (rfl) (show i < 24 by omega) (by rw [hf]; rfl) dX1_holdAt_14 ?_
    refine lv_astore_n (lv' := [(2, .ref a), (0, .ref (gx G)), (1, .int (nI i))]) hx hb dX1_holdAt_15 rfl hl (by decide) rfl (fun ls hl => ?_)
    refine lv_aload_n hx hb dX1_holdAt_16 rfl (lv_at hl 0 rfl) ?_
    refine lv_ifnull hx hb dX1_holdAt_17 ?_
    refine lv_aload_n hx hb dX1_holdAt_20 rfl (lv_at hl 0 rfl) ?_
    refine lv_dup hx hb dX1_holdAt_21 rfl ?_
    refine r_get0 (v := .int (S 6 i)) hx hb hts hin0 hown hw (show i < 25 by omega) hf 6 (by decide) lk40 rfl dX1_holdAt_22 ?_
    refine lv_iconst (v := 1) hx hb dX1_holdAt_25 (by decide) ?_
    refine lv_iadd hx hb dX1_holdAt_26 ?_
    refine r_put0 hx hb hts hin0 hown hw (show i < 25 by omega) hf 6 6 (by decide) lk40 rfl rfl dX1_holdAt_27 (fun H locs hw => ?_)
    have hw : Wi G (f, wa, sU S 6 i ((S 6 i) + 1), M) s H locs := hw
    refine lv_aload_n hx hb dX1_holdAt_30 rfl (lv_at hl 0 rfl) ?_
    exact e_o (some a) rfl hx hb hr hlocks hw dX1_holdAt_31 ⟨rfl, rfl⟩
  · skip
    exact absurd c_4 (by decide)
end
section
/-! what the wall's methods do, as they are written -/
def hd (S : Tb) (j : Nat) : Tb := sU S 6 j (S 6 j + 1)
def lg (S : Tb) (j : Nat) (how : Int32) : Tb := sU S 7 j how
def lg2 (S : Tb) (i j : Nat) (how : Int32) : Tb := sU (sU S 7 j how) 7 i how
def Inv (S : Tb) : Prop := ∀ i, i < 24 → ∃ n : Nat, n ≤ 10 ∧ S 5 i = nI n
def factS (S : Tb) (i : Nat) : Nat → Int32
  | 0 => 1
  | 1 => S 1 i
  | 2 => S 2 i
  | 3 => if S 3 i = 0 then 0 else 1
  | 4 => S 4 i
  | 5 => S 5 i
  | 6 => wt S i
  | 7 => S 6 i
  | _ => S 7 i
def oj_open (S : Tb) (j : Nat) (c : Int32) : Int32 × Tb := if S 0 j = 0 then (-2, S) else if S 4 j < 3 then (if S 2 j = c then (1, lg (sU (sU (hd S j) 3 j 1) 4 j 0) j 1) else (-7, lg (sU (hd S j) 4 j (S 4 j + 1)) j 4)) else (-4, lg (hd S j) j 2)
def oc_open (S : Tb) (p1 p2 : Int32) : Int32 × Tb := if isH p1 = true then oj_open S p1.toNatClampNeg p2 else (-1, S)
def oj_shut (S : Tb) (j : Nat) : Int32 × Tb := if S 0 j = 0 then (-2, S) else if S 3 j = 0 then (-3, lg (hd S j) j 2) else (1, lg (sU (hd S j) 3 j 0) j 1)
def oc_shut (S : Tb) (p1 : Int32) : Int32 × Tb := if isH p1 = true then oj_shut S p1.toNatClampNeg else (-1, S)
def oj_put (S : Tb) (j : Nat) (w : Int32) : Int32 × Tb := if S 0 j = 0 then (-2, S) else if S 3 j = 0 then (-3, lg (hd S j) j 2) else if okA (hd S j) j w = true then (acS (hd S j) j w 5 j, lg (acS (hd S j) j w) j 1) else (-5, lg (hd S j) j 4)
def oc_put (S : Tb) (p1 p2 : Int32) : Int32 × Tb := if isH p1 = true then (if isWt p2 = true then oj_put S p1.toNatClampNeg p2 else (-1, S)) else (-1, S)
def oj_take (S : Tb) (j : Nat) : Int32 × Tb := if S 0 j = 0 then (-2, S) else if S 3 j = 0 then (-3, lg (hd S j) j 2) else if S 5 j = 0 then (-6, lg (hd S j) j 4) else (rmV (hd S j) j, lg (rmS (hd S j) j) j 1)
def oc_take (S : Tb) (p1 : Int32) : Int32 × Tb := if isH p1 = true then oj_take S p1.toNatClampNeg else (-1, S)
def omv (S : Tb) (i j : Nat) : Int32 × Tb := if S 5 i = 0 then (-6, lg2 S i j 4) else if okA (rmS S i) j (rmV S i) = true then (rmV S i, lg2 (acS (rmS S i) j (rmV S i)) i j 1) else (-5, lg2 (if okA (rmS S i) i (rmV S i) = true then acS (rmS S i) i (rmV S i) else rmS S i) i j 4)
/-- the items of two rows change places -/
def exS (S : Tb) (i j : Nat) : Tb := fun c r => if c = 5 then (if r = i then S 5 j else if r = j then S 5 i else S c r) else if c = 8 then (if r / 10 = i then S 8 (10 * j + r % 10) else if r / 10 = j then S 8 (10 * i + r % 10) else S c r) else S c r
def oex (S : Tb) (i j : Nat) : Int32 × Tb := if S 1 j < wt S i then (-5, lg2 S i j 4) else if wt S j ≤ S 1 i then (exS S i j 5 i + exS S i j 5 j, lg2 (exS S i j) i j 1) else (-5, lg2 S i j 4)
def oj_act (S : Tb) (i j : Nat) (x : Int32) : Int32 × Tb := if S 0 i = 0 then (-2, S) else if S 0 j = 0 then (-2, lg (hd S i) i 4) else if S 3 i = 0 then (-3, lg2 (hd (hd S i) j) i j 2) else if S 3 j = 0 then (-3, lg2 (hd (hd S i) j) i j 2) else if x = 0 then omv (hd (hd S i) j) i j else oex (hd (hd S i) j) i j
def oc_act (S : Tb) (p1 p2 x : Int32) : Int32 × Tb := if isH p1 = true then (if isH p2 = true then oj_act S p1.toNatClampNeg p2.toNatClampNeg x else (-1, S)) else (-1, S)
def oj_recode (S : Tb) (j : Nat) (c : Int32) : Int32 × Tb := if S 0 j = 0 then (-2, S) else if S 3 j = 0 then (-7, lg (lg (lg (hd (hd (hd S j) j) j) j 4) j 4) j 4) else (1, lg (lg (lg (sU (hd (hd (hd S j) j) j) 2 j c) j 2) j 2) j 2)
def oc_recode (S : Tb) (p1 p2 : Int32) : Int32 × Tb := if isH p1 = true then oj_recode S p1.toNatClampNeg p2 else (-1, S)
def oc_told (S : Tb) (p1 p2 : Int32) : Int32 × Tb := if isH p1 = true then (if p2 < 0 then (-1, S) else if p2 ≤ 8 then (if S 0 p1.toNatClampNeg = 0 then (if p2 = 0 then (0, S) else (-2, S)) else (factS S p1.toNatClampNeg p2.toNatClampNeg, S)) else (-1, S)) else (-1, S)
def oc_item (S : Tb) (p1 p2 : Int32) : Int32 × Tb := if isH p1 = true then (if S 0 p1.toNatClampNeg = 0 then (-2, S) else (wOf S p1.toNatClampNeg p2, S)) else (-1, S)
/-- find: from hook h on, d hooks left -/
def of_find (w : Int32) : Nat → Nat → Tb → Int32 × Tb
  | 0, _, S => (-8, S)
  | d + 1, h, S => if S 0 h = 0 then of_find w d (h + 1) S else if S 3 h = 0 then of_find w d (h + 1) (lg (hd S h) h 3) else if has (hd S h) h w = true then (nI h, lg (hd S h) h 3) else of_find w d (h + 1) (lg (hd S h) h 1)
def oc_find (S : Tb) (p1 : Int32) : Int32 × Tb := if isWt p1 = true then of_find p1 24 0 S else (-1, S)
def of_first (w : Int32) : Nat → Nat → Tb → Int32 × Tb
  | 0, _, S => (-8, S)
  | d + 1, h, S => if S 0 h = 0 then of_first w d (h + 1) S else if wt (hd S h) h < w then of_first w d (h + 1) (lg (hd S h) h 1) else (nI h, lg (hd S h) h 2)
def oc_first (S : Tb) (p1 : Int32) : Int32 × Tb := if 0 ≤ p1 then of_first p1 24 0 S else (-1, S)
def of_tally : Nat → Nat → Int64 → Tb → Int64 × Tb
  | 0, _, z, S => (z, S)
  | d + 1, h, z, S => if S 0 h = 0 then of_tally d (h + 1) z S else of_tally d (h + 1) (z + ((nI h).toInt64 + 1) * (wt (hd S h) h).toInt64) (lg (hd S h) h 1)
def oc_tally (S : Tb) : Int64 × Tb := of_tally 24 0 0 (sU S 9 0 (S 9 0 + 1))
/-- rows of hooks from i on -/
def of_hold (i : Nat) : Nat → Nat → Tb → Nat × Tb
  | 0, k, S => (k, S)
  | d + 1, k, S => if S 0 ((i + k) % 24) = 0 then (k, S) else of_hold i d (k + 1) (hd S ((i + k) % 24))
def of_let (i : Nat) (how : Int32) : Nat → Int32 → Tb → Int32 × Tb
  | 0, z, S => (z, S)
  | k + 1, z, S => if S 0 ((i + k) % 24) = 0 then of_let i how k z S else of_let i how k (z + wt S ((i + k) % 24)) (lg S ((i + k) % 24) how)
def oj_weigh (S : Tb) (i n : Nat) : Int32 × Tb := if nI n ≤ nI (of_hold i n 0 S).1 then of_let i 2 n 0 (of_hold i n 0 S).2 else (-2, (of_let i 4 (of_hold i n 0 S).1 0 (of_hold i n 0 S).2).2)
def oc_weigh (S : Tb) (p1 p2 : Int32) : Int32 × Tb := if isH p1 = true then (if p2 < 0 then (-1, S) else if p2 ≤ 12 then oj_weigh (sU S 9 0 (S 9 0 + 1)) p1.toNatClampNeg p2.toNatClampNeg else (-1, S)) else (-1, S)
def of_drop (j : Nat) (m : Int32) : Nat → Int32 → Tb → Int32 × Tb
  | 0, g, S => (g, S)
  | d + 1, g, S => if S 5 j ≤ 0 then (g, S) else if g + rmV S j < m then of_drop j m d (g + rmV S j) (rmS S j) else (g + rmV S j, rmS S j)
def oj_drop (S : Tb) (j n : Nat) (m : Int32) : Int32 × Tb := if S 0 j = 0 then (-2, S) else if S 3 j = 0 then (-3, lg (hd S j) j 2) else ((of_drop j m n 0 (hd S j)).1, lg (of_drop j m n 0 (hd S j)).2 j 1)
def oc_drop (S : Tb) (p1 p2 p3 : Int32) : Int32 × Tb := if isH p1 = true then (if p2 < 1 then (-1, S) else if p2 ≤ 10 then oj_drop S p1.toNatClampNeg p2.toNatClampNeg p3 else (-1, S)) else (-1, S)
theorem leafC {f : Nat → Option Nat} {wa : Nat → Nat} {M S' : Tb} {r : Int32} {o : Int32 × Tb} (h : o = (r, S')) : r = o.1 ∧ ∃ (f' : Nat → Option Nat) (wa' : Nat → Nat), ((f, wa, S', M) : WT) = (f', wa', o.2, M) := by
  subst h
  exact ⟨rfl, _, _, rfl⟩
theorem leafE {f : Nat → Option Nat} {wa : Nat → Nat} {M S' : Tb} {r : Int32} {o : Int32 × Tb} (h : o = (r, S')) : r = o.1 ∧ ((f, wa, S', M) : WT) = (f, wa, o.2, M) := by
  subst h
  exact ⟨rfl, rfl⟩
theorem Inv.rm {S : Tb} {i n : Nat} (h : Inv S) (hn : S 5 i = nI (n + 1)) (h10 : n < 10) : Inv (rmS S i) := by
  intro j hj
  by_cases hji : j = i
  · subst hji
    refine ⟨n, by omega, ?_⟩
    rw [rmS, sU_self, hn, nI_pred]
  · obtain ⟨q, h1, h2⟩ := h j hj
    exact ⟨q, h1, by rw [rmS, sU_oj S 5 5 _ hji]; exact h2⟩
theorem n_succ {x : Int32} {n : Nat} (hn : x = nI n) (h10 : n ≤ 10) (h0 : ¬ x = 0) : ∃ q : Nat, q < 10 ∧ x = nI (q + 1) := by
  rcases n with _ | q
  · exact absurd (by rw [hn]; exact nI_0) h0
  · exact ⟨q, by omega, hn⟩
theorem oN_s (a : Nat) : ¬ oN (some a) = 0 := by show ¬ (1 : Int32) = 0; decide
end
section
set_option maxHeartbeats 4000000 in
set_option maxRecDepth 100000 in
theorem c_X1_open (l : Launch) (G : GT) (f : Nat → Option Nat) (wa : Nat → Nat) (S M : Tb) (p1 p2 : Int32) : Met l yX1_open wsX1_open (rk 2) (va_Pc [.ref (gx G), .int p1, .int p2] (Wo G (f, wa, S, M))) (Qi G (fun r u => r = (oc_open S p1 p2).1 ∧ ∃ (f' : Nat → Option Nat) (wa' : Nat → Nat), u = (f', wa', (oc_open S p1 p2).2, M))) 0 0 (gA G) := by
  refine m_head (cc := cX1_open) (maxL := 4) (ret := (some .int)) (by decide) rfl (Nat.le_of_ble_eq_true rfl) ?_
  intro p e s m below meth c hx hb hml hr hlocks hown hts hw ls hl
  have hown : s.vm.findClass RX1 = some m.cls := hown
  have hl : lv_has ls 4 [(0, .ref (gx G)), (1, .int p1), (2, .int p2)] := hl
  have hin0 : ∀ w ∈ wsX00, w ∈ wsX1_open := by decide +kernel
  have lk43 := hts (.fieldLink RX1 43 "LockerWall$Locker" "wrongTries" "I") (by decide +kernel)
  have lk46 := hts (.fieldLink RX1 46 "LockerWall$Locker" "code" "I") (by decide +kernel)
  have lk49 := hts (.fieldLink RX1 49 "LockerWall$Locker" "isOpen" "Z") (by decide +kernel)
  refine lv_iload_n hx hb dX1_open_0 rfl (lv_at hl 1 rfl) ?_
  refine k_i hw (va_runS (As := [.int p1]) (rest := []) ⟨hx, hb, hml, hown, hts⟩ (c_X1_isHook l G f wa S M p1) (va_cwS 1 hts gX1_open_X1_isHook rfl rfl rfl (by decide +kernel) ⟨Nat.le_of_ble_eq_true rfl, Nat.le_of_ble_eq_true rfl⟩) (hw.preS _) rfl rfl hl.1 rfl (lv_room (Nat.le_of_ble_eq_true rfl)) dX1_open_1 ⟨Nat.le_of_ble_eq_true rfl, Nat.le_of_ble_eq_true rfl⟩) (fun r u H locs hR hw => ?_)
  obtain ⟨hq, rfl⟩ := hR
  obtain rfl := hq.symm
  cases hh_1 : isH p1
  · skip
    refine W.eq (g2 := F0 m 4 ls [.int 0]) rfl ?_
    refine lv_if_ne (tgt := 9) hx hb dX1_open_4 (by decide) (fun c_4 => ?_) (fun c_4 => ?_)
    · skip
      exact absurd c_4 (by decide)
    · skip
      refine lv_iconst (v := (-1)) hx hb dX1_open_7 (by decide) ?_
      exact e_i hx hb hr hlocks hw dX1_open_8 (leafC (by simp only [oc_open, oj_open, hd, lg, lg2, ↓reduceIte, hh_1, Bool.false_eq_true, c_4]))
  · skip
    refine W.eq (g2 := F0 m 4 ls [.int 1]) rfl ?_
    obtain ⟨i, hi, rfl⟩ := isH_of hh_1
    refine lv_if_ne (tgt := 9) hx hb dX1_open_4 (by decide) (fun c_4 => ?_) (fun c_4 => ?_)
    · skip
      refine lv_aload_n hx hb dX1_open_9 rfl (lv_at hl 0 rfl) ?_
      refine lv_iload_n hx hb dX1_open_10 rfl (lv_at hl 1 rfl) ?_
      rcases hf_i : f i with _ | a_i
      · skip
        have h0_i : S 0 i = 0 := (show S 0 i = oN (f i) from hw.col0 (show i < 25 by omega)).trans (by rw [hf_i]; rfl)
        refine k_o hw (va_runV (As := [.int (nI i)]) (rest := []) ⟨hx, hb, hml, hown, hts⟩ (c_X1_holdAt_n l G f wa S M (show i < 24 by omega) hf_i) (cwV 1 hts gX1_open_X1_holdAt rfl rfl rfl (by decide +kernel) ⟨Nat.le_of_ble_eq_true rfl, Nat.le_of_ble_eq_true rfl⟩) (hw.preX _) rfl rfl hl.1 rfl (lv_room (Nat.le_of_ble_eq_true rfl)) dX1_open_11 ⟨Nat.le_of_ble_eq_true rfl, Nat.le_of_ble_eq_true rfl⟩) (fun r u H locs hR hw => ?_)
        obtain ⟨hq, rfl⟩ := hR
        obtain rfl := hq.symm
        refine W.eq (g2 := F0 m 14 ls [.null]) rfl ?_
        refine lv_astore_nN (lv' := [(3, .null), (0, .ref (gx G)), (1, .int (nI i)), (2, .int p2)]) hx hb dX1_open_14 rfl hl (by decide) rfl (fun ls hl => ?_)
        refine lv_aload_nN hx hb dX1_open_15 rfl (lv_at hl 0 rfl) ?_
        refine lv_ifnonnullN hx hb dX1_open_16 ?_
        refine lv_bipush (v := (-2)) hx hb dX1_open_19 (by decide) ?_
        exact e_i hx hb hr hlocks hw dX1_open_21 (leafC (by simp only [oc_open, oj_open, hd, lg, lg2, ↓reduceIte, isH_nI hi, cl24 hi, c_4, h0_i]))
      · skip
        have h0_i : ¬ S 0 i = 0 := by rw [(show S 0 i = oN (f i) from hw.col0 (show i < 25 by omega)), hf_i]; exact oN_s _
        refine k_o hw (va_runV (As := [.int (nI i)]) (rest := []) ⟨hx, hb, hml, hown, hts⟩ (c_X1_holdAt_s l G f wa S M (show i < 24 by omega) hf_i) (cwV 1 hts gX1_open_X1_holdAt rfl rfl rfl (by decide +kernel) ⟨Nat.le_of_ble_eq_true rfl, Nat.le_of_ble_eq_true rfl⟩) (hw.preX _) rfl rfl hl.1 rfl (lv_room (Nat.le_of_ble_eq_true rfl)) dX1_open_11 ⟨Nat.le_of_ble_eq_true rfl, Nat.le_of_ble_eq_true rfl⟩) (fun r u H locs hR hw => ?_)
        obtain ⟨hq, rfl⟩ := hR
        obtain rfl := hq.symm
        refine W.eq (g2 := F0 m 14 ls [.ref a_i]) rfl ?_
        refine lv_astore_n (lv' := [(3, .ref a_i), (0, .ref (gx G)), (1, .int (nI i)), (2, .int p2)]) hx hb dX1_open_14 rfl hl (by decide) rfl (fun ls hl => ?_)
        refine lv_aload_n hx hb dX1_open_15 rfl (lv_at hl 0 rfl) ?_
        refine lv_ifnonnull (tgt := 22) hx hb dX1_open_16 (by decide) ?_
        refine lv_aload_n hx hb dX1_open_22 rfl (lv_at hl 0 rfl) ?_
        refine r_get0 (v := .int (S 4 i)) hx hb hts hin0 hown hw (show i < 25 by omega) hf_i 3 (by decide) lk43 rfl dX1_open_23 ?_
        refine lv_iconst (v := 3) hx hb dX1_open_26 (by decide) ?_
        refine lv_icmp_lt (tgt := 38) hx hb dX1_open_27 (by decide) (fun c_27 => ?_) (fun c_27 => ?_)
        · skip
          refine lv_aload_n hx hb dX1_open_38 rfl (lv_at hl 0 rfl) ?_
          refine r_get0 (v := .int (S 2 i)) hx hb hts hin0 hown hw (show i < 25 by omega) hf_i 1 (by decide) lk46 rfl dX1_open_39 ?_
          refine lv_iload_n hx hb dX1_open_42 rfl (lv_at hl 3 rfl) ?_
          refine lv_icmp_eq (tgt := 64) hx hb dX1_open_43 (by decide) (fun c_43 => ?_) (fun c_43 => ?_)
          · skip
            refine lv_aload_n hx hb dX1_open_64 rfl (lv_at hl 0 rfl) ?_
            refine lv_iconst (v := 1) hx hb dX1_open_65 (by decide) ?_
            refine r_put0 hx hb hts hin0 hown hw (show i < 25 by omega) hf_i 2 3 (by decide) lk49 rfl rfl dX1_open_66 (fun H locs hw => ?_)
            have hw : Wi G (f, wa, sU (sU S 6 i ((S 6 i) + 1)) 3 i 1, M) s H locs := hw
            refine lv_aload_n hx hb dX1_open_69 rfl (lv_at hl 0 rfl) ?_
            refine lv_iconst (v := 0) hx hb dX1_open_70 (by decide) ?_
            refine r_put0 hx hb hts hin0 hown hw (show i < 25 by omega) hf_i 3 4 (by decide) lk43 rfl rfl dX1_open_71 (fun H locs hw => ?_)
            have hw : Wi G (f, wa, sU (sU (sU S 6 i ((S 6 i) + 1)) 3 i 1) 4 i 0, M) s H locs := hw
            refine lv_aload_n hx hb dX1_open_74 rfl (lv_at hl 0 rfl) ?_
            refine lv_iconst (v := 1) hx hb dX1_open_75 (by decide) ?_
            refine lv_iconst (v := 1) hx hb dX1_open_76 (by decide) ?_
            refine k_i hw (va_runV (As := [.int 1, .int 1]) (rest := []) ⟨hx, hb, hml, hown, hts⟩ (c_X0_letGo l G f wa (sU (sU (sU S 6 i ((S 6 i) + 1)) 3 i 1) 4 i 0) M (show i < 25 by omega) hf_i 1 1) (cwV 2 hts gX1_open_X0_letGo rfl rfl rfl (by decide +kernel) ⟨Nat.le_of_ble_eq_true rfl, Nat.le_of_ble_eq_true rfl⟩) (hw.preL (show i < 25 by omega) hf_i _) rfl rfl hl.1 rfl (lv_room (Nat.le_of_ble_eq_true rfl)) dX1_open_77 ⟨Nat.le_of_ble_eq_true rfl, Nat.le_of_ble_eq_true rfl⟩) (fun r u H locs hR hw => ?_)
            obtain ⟨hq, rfl⟩ := hR
            obtain rfl := hq.symm
            exact e_i hx hb hr hlocks hw dX1_open_80 (leafC (by simp only [oc_open, oj_open, hd, lg, lg2, ↓reduceIte, isH_nI hi, cl24 hi, c_4, h0_i, c_27, c_43]))
          · skip
            refine lv_aload_n hx hb dX1_open_46 rfl (lv_at hl 0 rfl) ?_
            refine lv_dup hx hb dX1_open_47 rfl ?_
            refine r_get0 (v := .int (S 4 i)) hx hb hts hin0 hown hw (show i < 25 by omega) hf_i 3 (by decide) lk43 rfl dX1_open_48 ?_
            refine lv_iconst (v := 1) hx hb dX1_open_51 (by decide) ?_
            refine lv_iadd hx hb dX1_open_52 ?_
            refine r_put0 hx hb hts hin0 hown hw (show i < 25 by omega) hf_i 3 4 (by decide) lk43 rfl rfl dX1_open_53 (fun H locs hw => ?_)
            have hw : Wi G (f, wa, sU (sU S 6 i ((S 6 i) + 1)) 4 i ((S 4 i) + 1), M) s H locs := hw
            refine lv_aload_n hx hb dX1_open_56 rfl (lv_at hl 0 rfl) ?_
            refine lv_iconst (v := 4) hx hb dX1_open_57 (by decide) ?_
            refine lv_bipush (v := (-7)) hx hb dX1_open_58 (by decide) ?_
            refine k_i hw (va_runV (As := [.int 4, .int (-7)]) (rest := []) ⟨hx, hb, hml, hown, hts⟩ (c_X0_letGo l G f wa (sU (sU S 6 i ((S 6 i) + 1)) 4 i ((S 4 i) + 1)) M (show i < 25 by omega) hf_i 4 (-7)) (cwV 2 hts gX1_open_X0_letGo rfl rfl rfl (by decide +kernel) ⟨Nat.le_of_ble_eq_true rfl, Nat.le_of_ble_eq_true rfl⟩) (hw.preL (show i < 25 by omega) hf_i _) rfl rfl hl.1 rfl (lv_room (Nat.le_of_ble_eq_true rfl)) dX1_open_60 ⟨Nat.le_of_ble_eq_true rfl, Nat.le_of_ble_eq_true rfl⟩) (fun r u H locs hR hw => ?_)
            obtain ⟨hq, rfl⟩ := hR
            obtain rfl := hq.symm
            exact e_i hx hb hr hlocks hw dX1_open_63 (leafC (by simp only [oc_open, oj_open, hd, lg, lg2, ↓reduceIte, isH_nI hi, cl24 hi, c_4, h0_i, c_27, c_43]))
        · skip
          refine lv_aload_n hx hb dX1_open_30 rfl (lv_at hl 0 rfl) ?_
          refine lv_iconst (v := 2) hx hb dX1_open_31 (by decide) ?_
          refine lv_bipush (v := (-4)) hx hb dX1_open_32 (by decide) ?_
          refine k_i hw (va_runV (As := [.int 2, .int (-4)]) (rest := []) ⟨hx, hb, hml, hown, hts⟩ (c_X0_letGo l G f wa (sU S 6 i ((S 6 i) + 1)) M (show i < 25 by omega) hf_i 2 (-4)) (cwV 2 hts gX1_open_X0_letGo rfl rfl rfl (by decide +kernel) ⟨Nat.le_of_ble_eq_true rfl, Nat.le_of_ble_eq_true rfl⟩) (hw.preL (show i < 25 by omega) hf_i _) rfl rfl hl.1 rfl (lv_room (Nat.le_of_ble_eq_true rfl)) dX1_open_34 ⟨Nat.le_of_ble_eq_true rfl, Nat.le_of_ble_eq_true rfl⟩) (fun r u H locs hR hw => ?_)
          obtain ⟨hq, rfl⟩ := hR
          obtain rfl := hq.symm
          exact e_i hx hb hr hlocks hw dX1_open_37 (leafC (by simp only [oc_open, oj_open, hd, lg, lg2, ↓reduceIte, isH_nI hi, cl24 hi, c_4, h0_i, c_27]))
    · skip
      exact absurd c_4 (by decide)

set_option maxHeartbeats 4000000 in
set_option maxRecDepth 100000 in
theorem c_X1_shut (l : Launch) (G : GT) (f : Nat → Option Nat) (wa : Nat → Nat) (S M : Tb) (p1 : Int32) : Met l yX1_shut wsX1_shut (rk 2) (va_Pc [.ref (gx G), .int p1] (Wo G (f, wa, S, M))) (Qi G (fun r u => r = (oc_shut S p1).1 ∧ ∃ (f' : Nat → Option Nat) (wa' : Nat → Nat), u = (f', wa', (oc_shut S p1).2, M))) 0 0 (gA G) := by
  refine m_head (cc := cX1_shut) (maxL := 3) (ret := (some .int)) (by decide) rfl (Nat.le_of_ble_eq_true rfl) ?_
  intro p e s m below meth c hx hb hml hr hlocks hown hts hw ls hl
  have hown : s.vm.findClass RX1 = some m.cls := hown
  have hl : lv_has ls 3 [(0, .ref (gx G)), (1, .int p1)] := hl
  have hin0 : ∀ w ∈ wsX00, w ∈ wsX1_shut := by decide +kernel
  have lk49 := hts (.fieldLink RX1 49 "LockerWall$Locker" "isOpen" "Z") (by decide +kernel)
  refine lv_iload_n hx hb dX1_shut_0 rfl (lv_at hl 1 rfl) ?_
  refine k_i hw (va_runS (As := [.int p1]) (rest := []) ⟨hx, hb, hml, hown, hts⟩ (c_X1_isHook l G f wa S M p1) (va_cwS 1 hts gX1_shut_X1_isHook rfl rfl rfl (by decide +kernel) ⟨Nat.le_of_ble_eq_true rfl, Nat.le_of_ble_eq_true rfl⟩) (hw.preS _) rfl rfl hl.1 rfl (lv_room (Nat.le_of_ble_eq_true rfl)) dX1_shut_1 ⟨Nat.le_of_ble_eq_true rfl, Nat.le_of_ble_eq_true rfl⟩) (fun r u H locs hR hw => ?_)
  obtain ⟨hq, rfl⟩ := hR
  obtain rfl := hq.symm
  cases hh_1 : isH p1
  · skip
    refine W.eq (g2 := F0 m 4 ls [.int 0]) rfl ?_
    refine lv_if_ne (tgt := 9) hx hb dX1_shut_4 (by decide) (fun c_4 => ?_) (fun c_4 => ?_)
    · skip
      exact absurd c_4 (by decide)
    · skip
      refine lv_iconst (v := (-1)) hx hb dX1_shut_7 (by decide) ?_
      exact e_i hx hb hr hlocks hw dX1_shut_8 (leafC (by simp only [oc_shut, oj_shut, hd, lg, lg2, ↓reduceIte, hh_1, Bool.false_eq_true, c_4]))
  · skip
    refine W.eq (g2 := F0 m 4 ls [.int 1]) rfl ?_
    obtain ⟨i, hi, rfl⟩ := isH_of hh_1
    refine lv_if_ne (tgt := 9) hx hb dX1_shut_4 (by decide) (fun c_4 => ?_) (fun c_4 => ?_)
    · skip
      refine lv_aload_n hx hb dX1_shut_9 rfl (lv_at hl 0 rfl) ?_
      refine lv_iload_n hx hb dX1_shut_10 rfl (lv_at hl 1 rfl) ?_
      rcases hf_i : f i with _ | a_i
      · skip
        have h0_i : S 0 i = 0 := (show S 0 i = oN (f i) from hw.col0 (show i < 25 by omega)).trans (by rw [hf_i]; rfl)
        refine k_o hw (va_runV (As := [.int (nI i)]) (rest := []) ⟨hx, hb, hml, hown, hts⟩ (c_X1_holdAt_n l G f wa S M (show i < 24 by omega) hf_i) (cwV 1 hts gX1_shut_X1_holdAt rfl rfl rfl (by decide +kernel) ⟨Nat.le_of_ble_eq_true rfl, Nat.le_of_ble_eq_true rfl⟩) (hw.preX _) rfl rfl hl.1 rfl (lv_room (Nat.le_of_ble_eq_true rfl)) dX1_shut_11 ⟨Nat.le_of_ble_eq_true rfl, Nat.le_of_ble_eq_true rfl⟩) (fun r u H locs hR hw => ?_)
        obtain ⟨hq, rfl⟩ := hR
        obtain rfl := hq.symm
        refine W.eq (g2 := F0 m 14 ls [.null]) rfl ?_
        refine lv_astore_nN (lv' := [(2, .null), (0, .ref (gx G)), (1, .int (nI i))]) hx hb dX1_shut_14 rfl hl (by decide) rfl (fun ls hl => ?_)
        refine lv_aload_nN hx hb dX1_shut_15 rfl (lv_at hl 0 rfl) ?_
        refine lv_ifnonnullN hx hb dX1_shut_16 ?_
        refine lv_bipush (v := (-2)) hx hb dX1_shut_19 (by decide) ?_
        exact e_i hx hb hr hlocks hw dX1_shut_21 (leafC (by simp only [oc_shut, oj_shut, hd, lg, lg2, ↓reduceIte, isH_nI hi, cl24 hi, c_4, h0_i]))
      · skip
        have h0_i : ¬ S 0 i = 0 := by rw [(show S 0 i = oN (f i) from hw.col0 (show i < 25 by omega)), hf_i]; exact oN_s _
        refine k_o hw (va_runV (As := [.int (nI i)]) (rest := []) ⟨hx, hb, hml, hown, hts⟩ (c_X1_holdAt_s l G f wa S M (show i < 24 by omega) hf_i) (cwV 1 hts gX1_shut_X1_holdAt rfl rfl rfl (by decide +kernel) ⟨Nat.le_of_ble_eq_true rfl, Nat.le_of_ble_eq_true rfl⟩) (hw.preX _) rfl rfl hl.1 rfl (lv_room (Nat.le_of_ble_eq_true rfl)) dX1_shut_11 ⟨Nat.le_of_ble_eq_true rfl, Nat.le_of_ble_eq_true rfl⟩) (fun r u H locs hR hw => ?_)
        obtain ⟨hq, rfl⟩ := hR
        obtain rfl := hq.symm
        refine W.eq (g2 := F0 m 14 ls [.ref a_i]) rfl ?_
        refine lv_astore_n (lv' := [(2, .ref a_i), (0, .ref (gx G)), (1, .int (nI i))]) hx hb dX1_shut_14 rfl hl (by decide) rfl (fun ls hl => ?_)
        refine lv_aload_n hx hb dX1_shut_15 rfl (lv_at hl 0 rfl) ?_
        refine lv_ifnonnull (tgt := 22) hx hb dX1_shut_16 (by decide) ?_
        refine lv_aload_n hx hb dX1_shut_22 rfl (lv_at hl 0 rfl) ?_
        refine r_get0 (v := .int (S 3 i)) hx hb hts hin0 hown hw (show i < 25 by omega) hf_i 2 (by decide) lk49 rfl dX1_shut_23 ?_
        refine lv_if_ne (tgt := 37) hx hb dX1_shut_26 (by decide) (fun c_26 => ?_) (fun c_26 => ?_)
        · skip
          refine lv_aload_n hx hb dX1_shut_37 rfl (lv_at hl 0 rfl) ?_
          refine lv_iconst (v := 0) hx hb dX1_shut_38 (by decide) ?_
          refine r_put0 hx hb hts hin0 hown hw (show i < 25 by omega) hf_i 2 3 (by decide) lk49 rfl rfl dX1_shut_39 (fun H locs hw => ?_)
          have hw : Wi G (f, wa, sU (sU S 6 i ((S 6 i) + 1)) 3 i 0, M) s H locs := hw
          refine lv_aload_n hx hb dX1_shut_42 rfl (lv_at hl 0 rfl) ?_
          refine lv_iconst (v := 1) hx hb dX1_shut_43 (by decide) ?_
          refine lv_iconst (v := 1) hx hb dX1_shut_44 (by decide) ?_
          refine k_i hw (va_runV (As := [.int 1, .int 1]) (rest := []) ⟨hx, hb, hml, hown, hts⟩ (c_X0_letGo l G f wa (sU (sU S 6 i ((S 6 i) + 1)) 3 i 0) M (show i < 25 by omega) hf_i 1 1) (cwV 2 hts gX1_shut_X0_letGo rfl rfl rfl (by decide +kernel) ⟨Nat.le_of_ble_eq_true rfl, Nat.le_of_ble_eq_true rfl⟩) (hw.preL (show i < 25 by omega) hf_i _) rfl rfl hl.1 rfl (lv_room (Nat.le_of_ble_eq_true rfl)) dX1_shut_45 ⟨Nat.le_of_ble_eq_true rfl, Nat.le_of_ble_eq_true rfl⟩) (fun r u H locs hR hw => ?_)
          obtain ⟨hq, rfl⟩ := hR
          obtain rfl := hq.symm
          exact e_i hx hb hr hlocks hw dX1_shut_48 (leafC (by simp only [oc_shut, oj_shut, hd, lg, lg2, ↓reduceIte, isH_nI hi, cl24 hi, c_4, h0_i, c_26]))
        · skip
          refine lv_aload_n hx hb dX1_shut_29 rfl (lv_at hl 0 rfl) ?_
          refine lv_iconst (v := 2) hx hb dX1_shut_30 (by decide) ?_
          refine lv_bipush (v := (-3)) hx hb dX1_shut_31 (by decide) ?_
          refine k_i hw (va_runV (As := [.int 2, .int (-3)]) (rest := []) ⟨hx, hb, hml, hown, hts⟩ (c_X0_letGo l G f wa (sU S 6 i ((S 6 i) + 1)) M (show i < 25 by omega) hf_i 2 (-3)) (cwV 2 hts gX1_shut_X0_letGo rfl rfl rfl (by decide +kernel) ⟨Nat.le_of_ble_eq_true rfl, Nat.le_of_ble_eq_true rfl⟩) (hw.preL (show i < 25 by omega) hf_i _) rfl rfl hl.1 rfl (lv_room (Nat.le_of_ble_eq_true rfl)) dX1_shut_33 ⟨Nat.le_of_ble_eq_true rfl, Nat.le_of_ble_eq_true rfl⟩) (fun r u H locs hR hw => ?_)
          obtain ⟨hq, rfl⟩ := hR
          obtain rfl := hq.symm
          exact e_i hx hb hr hlocks hw dX1_shut_36 (leafC (by simp only [oc_shut, oj_shut, hd, lg, lg2, ↓reduceIte, isH_nI hi, cl24 hi, c_4, h0_i, c_26]))
    · skip
      exact absurd c_4 (by decide)

set_option maxHeartbeats 4000000 in
set_option maxRecDepth 100000 in
theorem c_X1_put (l : Launch) (G : GT) (f : Nat → Option Nat) (wa : Nat → Nat) (S M : Tb) (hI : Inv S) (p1 p2 : Int32) : Met l yX1_put wsX1_put (rk 2) (va_Pc [.ref (gx G), .int p1, .int p2] (Wo G (f, wa, S, M))) (Qi G (fun r u => r = (oc_put S p1 p2).1 ∧ ∃ (f' : Nat → Option Nat) (wa' : Nat → Nat), u = (f', wa', (oc_put S p1 p2).2, M))) 0 0 (gA G) := by
  refine m_head (cc := cX1_put) (maxL := 4) (ret := (some .int)) (by decide) rfl (Nat.le_of_ble_eq_true rfl) ?_
  intro p e s m below meth c hx hb hml hr hlocks hown hts hw ls hl
  have hown : s.vm.findClass RX1 = some m.cls := hown
  have hl : lv_has ls 4 [(0, .ref (gx G)), (1, .int p1), (2, .int p2)] := hl
  have hin0 : ∀ w ∈ wsX00, w ∈ wsX1_put := by decide +kernel
  have lk49 := hts (.fieldLink RX1 49 "LockerWall$Locker" "isOpen" "Z") (by decide +kernel)
  have lk33 := hts (.fieldLink RX1 33 "LockerWall$Locker" "count" "I") (by decide +kernel)
  refine lv_iload_n hx hb dX1_put_0 rfl (lv_at hl 1 rfl) ?_
  refine k_i hw (va_runS (As := [.int p1]) (rest := []) ⟨hx, hb, hml, hown, hts⟩ (c_X1_isHook l G f wa S M p1) (va_cwS 1 hts gX1_put_X1_isHook rfl rfl rfl (by decide +kernel) ⟨Nat.le_of_ble_eq_true rfl, Nat.le_of_ble_eq_true rfl⟩) (hw.preS _) rfl rfl hl.1 rfl (lv_room (Nat.le_of_ble_eq_true rfl)) dX1_put_1 ⟨Nat.le_of_ble_eq_true rfl, Nat.le_of_ble_eq_true rfl⟩) (fun r u H locs hR hw => ?_)
  obtain ⟨hq, rfl⟩ := hR
  obtain rfl := hq.symm
  cases hh_1 : isH p1
  · skip
    refine W.eq (g2 := F0 m 4 ls [.int 0]) rfl ?_
    refine lv_if_eq (tgt := 14) hx hb dX1_put_4 (by decide) (fun c_4 => ?_) (fun c_4 => ?_)
    · skip
      refine lv_iconst (v := (-1)) hx hb dX1_put_14 (by decide) ?_
      exact e_i hx hb hr hlocks hw dX1_put_15 (leafC (by simp only [oc_put, oj_put, hd, lg, lg2, ↓reduceIte, hh_1, Bool.false_eq_true, c_4]))
    · skip
      exact absurd c_4 (by decide)
  · skip
    refine W.eq (g2 := F0 m 4 ls [.int 1]) rfl ?_
    obtain ⟨i, hi, rfl⟩ := isH_of hh_1
    obtain ⟨n_i, h10_i, hn_i⟩ := hI i hi
    refine lv_if_eq (tgt := 14) hx hb dX1_put_4 (by decide) (fun c_4 => ?_) (fun c_4 => ?_)
    · skip
      exact absurd c_4 (by decide)
    · skip
      refine lv_iload_n hx hb dX1_put_7 rfl (lv_at hl 2 rfl) ?_
      refine k_i hw (va_runS (As := [.int p2]) (rest := []) ⟨hx, hb, hml, hown, hts⟩ (c_X1_isWeight l G f wa S M p2) (va_cwS 1 hts gX1_put_X1_isWeight rfl rfl rfl (by decide +kernel) ⟨Nat.le_of_ble_eq_true rfl, Nat.le_of_ble_eq_true rfl⟩) (hw.preS _) rfl rfl hl.1 rfl (lv_room (Nat.le_of_ble_eq_true rfl)) dX1_put_8 ⟨Nat.le_of_ble_eq_true rfl, Nat.le_of_ble_eq_true rfl⟩) (fun r u H locs hR hw => ?_)
      obtain ⟨hq, rfl⟩ := hR
      obtain rfl := hq.symm
      cases hh_8 : isWt p2
      · skip
        refine W.eq (g2 := F0 m 11 ls [.int 0]) rfl ?_
        refine lv_if_ne (tgt := 16) hx hb dX1_put_11 (by decide) (fun c_11 => ?_) (fun c_11 => ?_)
        · skip
          exact absurd c_11 (by decide)
        · skip
          refine lv_iconst (v := (-1)) hx hb dX1_put_14 (by decide) ?_
          exact e_i hx hb hr hlocks hw dX1_put_15 (leafC (by simp only [oc_put, oj_put, hd, lg, lg2, ↓reduceIte, isH_nI hi, cl24 hi, c_4, hh_8, Bool.false_eq_true, c_11]))
      · skip
        refine W.eq (g2 := F0 m 11 ls [.int 1]) rfl ?_
        refine lv_if_ne (tgt := 16) hx hb dX1_put_11 (by decide) (fun c_11 => ?_) (fun c_11 => ?_)
        · skip
          refine lv_aload_n hx hb dX1_put_16 rfl (lv_at hl 0 rfl) ?_
          refine lv_iload_n hx hb dX1_put_17 rfl (lv_at hl 1 rfl) ?_
          rcases hf_i : f i with _ | a_i
          · skip
            have h0_i : S 0 i = 0 := (show S 0 i = oN (f i) from hw.col0 (show i < 25 by omega)).trans (by rw [hf_i]; rfl)
            refine k_o hw (va_runV (As := [.int (nI i)]) (rest := []) ⟨hx, hb, hml, hown, hts⟩ (c_X1_holdAt_n l G f wa S M (show i < 24 by omega) hf_i) (cwV 1 hts gX1_put_X1_holdAt rfl rfl rfl (by decide +kernel) ⟨Nat.le_of_ble_eq_true rfl, Nat.le_of_ble_eq_true rfl⟩) (hw.preX _) rfl rfl hl.1 rfl (lv_room (Nat.le_of_ble_eq_true rfl)) dX1_put_18 ⟨Nat.le_of_ble_eq_true rfl, Nat.le_of_ble_eq_true rfl⟩) (fun r u H locs hR hw => ?_)
            obtain ⟨hq, rfl⟩ := hR
            obtain rfl := hq.symm
            refine W.eq (g2 := F0 m 21 ls [.null]) rfl ?_
            refine lv_astore_nN (lv' := [(3, .null), (0, .ref (gx G)), (1, .int (nI i)), (2, .int p2)]) hx hb dX1_put_21 rfl hl (by decide) rfl (fun ls hl => ?_)
            refine lv_aload_nN hx hb dX1_put_22 rfl (lv_at hl 0 rfl) ?_
            refine lv_ifnonnullN hx hb dX1_put_23 ?_
            refine lv_bipush (v := (-2)) hx hb dX1_put_26 (by decide) ?_
            exact e_i hx hb hr hlocks hw dX1_put_28 (leafC (by simp only [oc_put, oj_put, hd, lg, lg2, ↓reduceIte, isH_nI hi, cl24 hi, c_4, hh_8, c_11, h0_i]))
          · skip
            have h0_i : ¬ S 0 i = 0 := by rw [(show S 0 i = oN (f i) from hw.col0 (show i < 25 by omega)), hf_i]; exact oN_s _
            refine k_o hw (va_runV (As := [.int (nI i)]) (rest := []) ⟨hx, hb, hml, hown, hts⟩ (c_X1_holdAt_s l G f wa S M (show i < 24 by omega) hf_i) (cwV 1 hts gX1_put_X1_holdAt rfl rfl rfl (by decide +kernel) ⟨Nat.le_of_ble_eq_true rfl, Nat.le_of_ble_eq_true rfl⟩) (hw.preX _) rfl rfl hl.1 rfl (lv_room (Nat.le_of_ble_eq_true rfl)) dX1_put_18 ⟨Nat.le_of_ble_eq_true rfl, Nat.le_of_ble_eq_true rfl⟩) (fun r u H locs hR hw => ?_)
            obtain ⟨hq, rfl⟩ := hR
            obtain rfl := hq.symm
            refine W.eq (g2 := F0 m 21 ls [.ref a_i]) rfl ?_
            refine lv_astore_n (lv' := [(3, .ref a_i), (0, .ref (gx G)), (1, .int (nI i)), (2, .int p2)]) hx hb dX1_put_21 rfl hl (by decide) rfl (fun ls hl => ?_)
            refine lv_aload_n hx hb dX1_put_22 rfl (lv_at hl 0 rfl) ?_
            refine lv_ifnonnull (tgt := 29) hx hb dX1_put_23 (by decide) ?_
            refine lv_aload_n hx hb dX1_put_29 rfl (lv_at hl 0 rfl) ?_
            refine r_get0 (v := .int (S 3 i)) hx hb hts hin0 hown hw (show i < 25 by omega) hf_i 2 (by decide) lk49 rfl dX1_put_30 ?_
            refine lv_if_ne (tgt := 44) hx hb dX1_put_33 (by decide) (fun c_33 => ?_) (fun c_33 => ?_)
            · skip
              refine lv_aload_n hx hb dX1_put_44 rfl (lv_at hl 0 rfl) ?_
              refine lv_iload_n hx hb dX1_put_45 rfl (lv_at hl 3 rfl) ?_
              refine k_i hw (va_runV (As := [.int p2]) (rest := []) ⟨hx, hb, hml, hown, hts⟩ (c_X0_accept l G f wa (sU S 6 i ((S 6 i) + 1)) M (show i < 25 by omega) hf_i hn_i h10_i p2) (cwV 1 hts gX1_put_X0_accept rfl rfl rfl (by decide +kernel) ⟨Nat.le_of_ble_eq_true rfl, Nat.le_of_ble_eq_true rfl⟩) (hw.preL (show i < 25 by omega) hf_i _) rfl rfl hl.1 rfl (lv_room (Nat.le_of_ble_eq_true rfl)) dX1_put_46 ⟨Nat.le_of_ble_eq_true rfl, Nat.le_of_ble_eq_true rfl⟩) (fun r u H locs hR hw => ?_)
              obtain ⟨hq, rfl⟩ := hR
              obtain rfl := hq.symm
              cases hh_46 : okA (sU S 6 i ((S 6 i) + 1)) i p2
              · skip
                refine W.eq (g2 := F0 m 49 ls [.int 0]) rfl ?_
                rw [hh_46] at hw
                have hw : Wi G (f, wa, sU S 6 i ((S 6 i) + 1), M) s H locs := hw
                refine lv_if_ne (tgt := 60) hx hb dX1_put_49 (by decide) (fun c_49 => ?_) (fun c_49 => ?_)
                · skip
                  exact absurd c_49 (by decide)
                · skip
                  refine lv_aload_n hx hb dX1_put_52 rfl (lv_at hl 0 rfl) ?_
                  refine lv_iconst (v := 4) hx hb dX1_put_53 (by decide) ?_
                  refine lv_bipush (v := (-5)) hx hb dX1_put_54 (by decide) ?_
                  refine k_i hw (va_runV (As := [.int 4, .int (-5)]) (rest := []) ⟨hx, hb, hml, hown, hts⟩ (c_X0_letGo l G f wa (sU S 6 i ((S 6 i) + 1)) M (show i < 25 by omega) hf_i 4 (-5)) (cwV 2 hts gX1_put_X0_letGo rfl rfl rfl (by decide +kernel) ⟨Nat.le_of_ble_eq_true rfl, Nat.le_of_ble_eq_true rfl⟩) (hw.preL (show i < 25 by omega) hf_i _) rfl rfl hl.1 rfl (lv_room (Nat.le_of_ble_eq_true rfl)) dX1_put_56 ⟨Nat.le_of_ble_eq_true rfl, Nat.le_of_ble_eq_true rfl⟩) (fun r u H locs hR hw => ?_)
                  obtain ⟨hq, rfl⟩ := hR
                  obtain rfl := hq.symm
                  exact e_i hx hb hr hlocks hw dX1_put_59 (leafC (by simp only [oc_put, oj_put, hd, lg, lg2, ↓reduceIte, isH_nI hi, cl24 hi, c_4, hh_8, c_11, h0_i, c_33, hh_46, Bool.false_eq_true, c_49]))
              · skip
                refine W.eq (g2 := F0 m 49 ls [.int 1]) rfl ?_
                rw [hh_46] at hw
                have hw : Wi G (f, wa, acS (sU S 6 i ((S 6 i) + 1)) i p2, M) s H locs := hw
                refine lv_if_ne (tgt := 60) hx hb dX1_put_49 (by decide) (fun c_49 => ?_) (fun c_49 => ?_)
                · skip
                  refine lv_aload_n hx hb dX1_put_60 rfl (lv_at hl 0 rfl) ?_
                  refine lv_iconst (v := 1) hx hb dX1_put_61 (by decide) ?_
                  refine lv_aload_n hx hb dX1_put_62 rfl (lv_at hl 0 rfl) ?_
                  refine r_get0 (v := .int (acS (sU S 6 i ((S 6 i) + 1)) i p2 5 i)) hx hb hts hin0 hown hw (show i < 25 by omega) hf_i 5 (by decide) lk33 rfl dX1_put_63 ?_
                  refine k_i hw (va_runV (As := [.int 1, .int (acS (sU S 6 i ((S 6 i) + 1)) i p2 5 i)]) (rest := []) ⟨hx, hb, hml, hown, hts⟩ (c_X0_letGo l G f wa (acS (sU S 6 i ((S 6 i) + 1)) i p2) M (show i < 25 by omega) hf_i 1 (acS (sU S 6 i ((S 6 i) + 1)) i p2 5 i)) (cwV 2 hts gX1_put_X0_letGo rfl rfl rfl (by decide +kernel) ⟨Nat.le_of_ble_eq_true rfl, Nat.le_of_ble_eq_true rfl⟩) (hw.preL (show i < 25 by omega) hf_i _) rfl rfl hl.1 rfl (lv_room (Nat.le_of_ble_eq_true rfl)) dX1_put_66 ⟨Nat.le_of_ble_eq_true rfl, Nat.le_of_ble_eq_true rfl⟩) (fun r u H locs hR hw => ?_)
                  obtain ⟨hq, rfl⟩ := hR
                  obtain rfl := hq.symm
                  exact e_i hx hb hr hlocks hw dX1_put_69 (leafC (by simp only [oc_put, oj_put, hd, lg, lg2, ↓reduceIte, isH_nI hi, cl24 hi, c_4, hh_8, c_11, h0_i, c_33, hh_46, c_49]))
                · skip
                  exact absurd c_49 (by decide)
            · skip
              refine lv_aload_n hx hb dX1_put_36 rfl (lv_at hl 0 rfl) ?_
              refine lv_iconst (v := 2) hx hb dX1_put_37 (by decide) ?_
              refine lv_bipush (v := (-3)) hx hb dX1_put_38 (by decide) ?_
              refine k_i hw (va_runV (As := [.int 2, .int (-3)]) (rest := []) ⟨hx, hb, hml, hown, hts⟩ (c_X0_letGo l G f wa (sU S 6 i ((S 6 i) + 1)) M (show i < 25 by omega) hf_i 2 (-3)) (cwV 2 hts gX1_put_X0_letGo rfl rfl rfl (by decide +kernel) ⟨Nat.le_of_ble_eq_true rfl, Nat.le_of_ble_eq_true rfl⟩) (hw.preL (show i < 25 by omega) hf_i _) rfl rfl hl.1 rfl (lv_room (Nat.le_of_ble_eq_true rfl)) dX1_put_40 ⟨Nat.le_of_ble_eq_true rfl, Nat.le_of_ble_eq_true rfl⟩) (fun r u H locs hR hw => ?_)
              obtain ⟨hq, rfl⟩ := hR
              obtain rfl := hq.symm
              exact e_i hx hb hr hlocks hw dX1_put_43 (leafC (by simp only [oc_put, oj_put, hd, lg, lg2, ↓reduceIte, isH_nI hi, cl24 hi, c_4, hh_8, c_11, h0_i, c_33]))
        · skip
          exact absurd c_11 (by decide)

set_option maxHeartbeats 4000000 in
set_option maxRecDepth 100000 in
theorem c_X1_take (l : Launch) (G : GT) (f : Nat → Option Nat) (wa : Nat → Nat) (S M : Tb) (hI : Inv S) (p1 : Int32) : Met l yX1_take wsX1_take (rk 2) (va_Pc [.ref (gx G), .int p1] (Wo G (f, wa, S, M))) (Qi G (fun r u => r = (oc_take S p1).1 ∧ ∃ (f' : Nat → Option Nat) (wa' : Nat → Nat), u = (f', wa', (oc_take S p1).2, M))) 0 0 (gA G) := by
  refine m_head (cc := cX1_take) (maxL := 3) (ret := (some .int)) (by decide) rfl (Nat.le_of_ble_eq_true rfl) ?_
  intro p e s m below meth c hx hb hml hr hlocks hown hts hw ls hl
  have hown : s.vm.findClass RX1 = some m.cls := hown
  have hl : lv_has ls 3 [(0, .ref (gx G)), (1, .int p1)] := hl
  have hin0 : ∀ w ∈ wsX00, w ∈ wsX1_take := by decide +kernel
  have lk49 := hts (.fieldLink RX1 49 "LockerWall$Locker" "isOpen" "Z") (by decide +kernel)
  have lk33 := hts (.fieldLink RX1 33 "LockerWall$Locker" "count" "I") (by decide +kernel)
  refine lv_iload_n hx hb dX1_take_0 rfl (lv_at hl 1 rfl) ?_
  refine k_i hw (va_runS (As := [.int p1]) (rest := []) ⟨hx, hb, hml, hown, hts⟩ (c_X1_isHook l G f wa S M p1) (va_cwS 1 hts gX1_take_X1_isHook rfl rfl rfl (by decide +kernel) ⟨Nat.le_of_ble_eq_true rfl, Nat.le_of_ble_eq_true rfl⟩) (hw.preS _) rfl rfl hl.1 rfl (lv_room (Nat.le_of_ble_eq_true rfl)) dX1_take_1 ⟨Nat.le_of_ble_eq_true rfl, Nat.le_of_ble_eq_true rfl⟩) (fun r u H locs hR hw => ?_)
  obtain ⟨hq, rfl⟩ := hR
  obtain rfl := hq.symm
  cases hh_1 : isH p1
  · skip
    refine W.eq (g2 := F0 m 4 ls [.int 0]) rfl ?_
    refine lv_if_ne (tgt := 9) hx hb dX1_take_4 (by decide) (fun c_4 => ?_) (fun c_4 => ?_)
    · skip
      exact absurd c_4 (by decide)
    · skip
      refine lv_iconst (v := (-1)) hx hb dX1_take_7 (by decide) ?_
      exact e_i hx hb hr hlocks hw dX1_take_8 (leafC (by simp only [oc_take, oj_take, hd, lg, lg2, ↓reduceIte, hh_1, Bool.false_eq_true, c_4]))
  · skip
    refine W.eq (g2 := F0 m 4 ls [.int 1]) rfl ?_
    obtain ⟨i, hi, rfl⟩ := isH_of hh_1
    obtain ⟨n_i, h10_i, hn_i⟩ := hI i hi
    refine lv_if_ne (tgt := 9) hx hb dX1_take_4 (by decide) (fun c_4 => ?_) (fun c_4 => ?_)
    · skip
      refine lv_aload_n hx hb dX1_take_9 rfl (lv_at hl 0 rfl) ?_
      refine lv_iload_n hx hb dX1_take_10 rfl (lv_at hl 1 rfl) ?_
      rcases hf_i : f i with _ | a_i
      · skip
        have h0_i : S 0 i = 0 := (show S 0 i = oN (f i) from hw.col0 (show i < 25 by omega)).trans (by rw [hf_i]; rfl)
        refine k_o hw (va_runV (As := [.int (nI i)]) (rest := []) ⟨hx, hb, hml, hown, hts⟩ (c_X1_holdAt_n l G f wa S M (show i < 24 by omega) hf_i) (cwV 1 hts gX1_take_X1_holdAt rfl rfl rfl (by decide +kernel) ⟨Nat.le_of_ble_eq_true rfl, Nat.le_of_ble_eq_true rfl⟩) (hw.preX _) rfl rfl hl.1 rfl (lv_room (Nat.le_of_ble_eq_true rfl)) dX1_take_11 ⟨Nat.le_of_ble_eq_true rfl, Nat.le_of_ble_eq_true rfl⟩) (fun r u H locs hR hw => ?_)
        obtain ⟨hq, rfl⟩ := hR
        obtain rfl := hq.symm
        refine W.eq (g2 := F0 m 14 ls [.null]) rfl ?_
        refine lv_astore_nN (lv' := [(2, .null), (0, .ref (gx G)), (1, .int (nI i))]) hx hb dX1_take_14 rfl hl (by decide) rfl (fun ls hl => ?_)
        refine lv_aload_nN hx hb dX1_take_15 rfl (lv_at hl 0 rfl) ?_
        refine lv_ifnonnullN hx hb dX1_take_16 ?_
        refine lv_bipush (v := (-2)) hx hb dX1_take_19 (by decide) ?_
        exact e_i hx hb hr hlocks hw dX1_take_21 (leafC (by simp only [oc_take, oj_take, hd, lg, lg2, ↓reduceIte, isH_nI hi, cl24 hi, c_4, h0_i]))
      · skip
        have h0_i : ¬ S 0 i = 0 := by rw [(show S 0 i = oN (f i) from hw.col0 (show i < 25 by omega)), hf_i]; exact oN_s _
        refine k_o hw (va_runV (As := [.int (nI i)]) (rest := []) ⟨hx, hb, hml, hown, hts⟩ (c_X1_holdAt_s l G f wa S M (show i < 24 by omega) hf_i) (cwV 1 hts gX1_take_X1_holdAt rfl rfl rfl (by decide +kernel) ⟨Nat.le_of_ble_eq_true rfl, Nat.le_of_ble_eq_true rfl⟩) (hw.preX _) rfl rfl hl.1 rfl (lv_room (Nat.le_of_ble_eq_true rfl)) dX1_take_11 ⟨Nat.le_of_ble_eq_true rfl, Nat.le_of_ble_eq_true rfl⟩) (fun r u H locs hR hw => ?_)
        obtain ⟨hq, rfl⟩ := hR
        obtain rfl := hq.symm
        refine W.eq (g2 := F0 m 14 ls [.ref a_i]) rfl ?_
        refine lv_astore_n (lv' := [(2, .ref a_i), (0, .ref (gx G)), (1, .int (nI i))]) hx hb dX1_take_14 rfl hl (by decide) rfl (fun ls hl => ?_)
        refine lv_aload_n hx hb dX1_take_15 rfl (lv_at hl 0 rfl) ?_
        refine lv_ifnonnull (tgt := 22) hx hb dX1_take_16 (by decide) ?_
        refine lv_aload_n hx hb dX1_take_22 rfl (lv_at hl 0 rfl) ?_
        refine r_get0 (v := .int (S 3 i)) hx hb hts hin0 hown hw (show i < 25 by omega) hf_i 2 (by decide) lk49 rfl dX1_take_23 ?_
        refine lv_if_ne (tgt := 37) hx hb dX1_take_26 (by decide) (fun c_26 => ?_) (fun c_26 => ?_)
        · skip
          refine lv_aload_n hx hb dX1_take_37 rfl (lv_at hl 0 rfl) ?_
          refine r_get0 (v := .int (S 5 i)) hx hb hts hin0 hown hw (show i < 25 by omega) hf_i 5 (by decide) lk33 rfl dX1_take_38 ?_
          refine lv_if_ne (tgt := 52) hx hb dX1_take_41 (by decide) (fun c_41 => ?_) (fun c_41 => ?_)
          · skip
            obtain ⟨q_i, hq_i, hs_i⟩ := n_succ hn_i h10_i c_41
            refine lv_aload_n hx hb dX1_take_52 rfl (lv_at hl 0 rfl) ?_
            refine lv_iconst (v := 1) hx hb dX1_take_53 (by decide) ?_
            refine lv_aload_n hx hb dX1_take_54 rfl (lv_at hl 0 rfl) ?_
            refine k_i hw (va_runV (As := []) (rest := [.int 1, .ref a_i]) ⟨hx, hb, hml, hown, hts⟩ (c_X0_removeLast l G f wa (sU S 6 i ((S 6 i) + 1)) M (show i < 25 by omega) hf_i hs_i hq_i) (cwV 0 hts gX1_take_X0_removeLast rfl rfl rfl (by decide +kernel) ⟨Nat.le_of_ble_eq_true rfl, Nat.le_of_ble_eq_true rfl⟩) (hw.preL (show i < 25 by omega) hf_i _) rfl rfl hl.1 rfl (lv_room (Nat.le_of_ble_eq_true rfl)) dX1_take_55 ⟨Nat.le_of_ble_eq_true rfl, Nat.le_of_ble_eq_true rfl⟩) (fun r u H locs hR hw => ?_)
            obtain ⟨hq, rfl⟩ := hR
            obtain rfl := hq.symm
            refine k_i hw (va_runV (As := [.int 1, .int (rmV (sU S 6 i ((S 6 i) + 1)) i)]) (rest := []) ⟨hx, hb, hml, hown, hts⟩ (c_X0_letGo l G f wa (rmS (sU S 6 i ((S 6 i) + 1)) i) M (show i < 25 by omega) hf_i 1 (rmV (sU S 6 i ((S 6 i) + 1)) i)) (cwV 2 hts gX1_take_X0_letGo rfl rfl rfl (by decide +kernel) ⟨Nat.le_of_ble_eq_true rfl, Nat.le_of_ble_eq_true rfl⟩) (hw.preL (show i < 25 by omega) hf_i _) rfl rfl hl.1 rfl (lv_room (Nat.le_of_ble_eq_true rfl)) dX1_take_58 ⟨Nat.le_of_ble_eq_true rfl, Nat.le_of_ble_eq_true rfl⟩) (fun r u H locs hR hw => ?_)
            obtain ⟨hq, rfl⟩ := hR
            obtain rfl := hq.symm
            exact e_i hx hb hr hlocks hw dX1_take_61 (leafC (by simp only [oc_take, oj_take, hd, lg, lg2, ↓reduceIte, isH_nI hi, cl24 hi, c_4, h0_i, c_26, c_41]))
          · skip
            refine lv_aload_n hx hb dX1_take_44 rfl (lv_at hl 0 rfl) ?_
            refine lv_iconst (v := 4) hx hb dX1_take_45 (by decide) ?_
            refine lv_bipush (v := (-6)) hx hb dX1_take_46 (by decide) ?_
            refine k_i hw (va_runV (As := [.int 4, .int (-6)]) (rest := []) ⟨hx, hb, hml, hown, hts⟩ (c_X0_letGo l G f wa (sU S 6 i ((S 6 i) + 1)) M (show i < 25 by omega) hf_i 4 (-6)) (cwV 2 hts gX1_take_X0_letGo rfl rfl rfl (by decide +kernel) ⟨Nat.le_of_ble_eq_true rfl, Nat.le_of_ble_eq_true rfl⟩) (hw.preL (show i < 25 by omega) hf_i _) rfl rfl hl.1 rfl (lv_room (Nat.le_of_ble_eq_true rfl)) dX1_take_48 ⟨Nat.le_of_ble_eq_true rfl, Nat.le_of_ble_eq_true rfl⟩) (fun r u H locs hR hw => ?_)
            obtain ⟨hq, rfl⟩ := hR
            obtain rfl := hq.symm
            exact e_i hx hb hr hlocks hw dX1_take_51 (leafC (by simp only [oc_take, oj_take, hd, lg, lg2, ↓reduceIte, isH_nI hi, cl24 hi, c_4, h0_i, c_26, c_41]))
        · skip
          refine lv_aload_n hx hb dX1_take_29 rfl (lv_at hl 0 rfl) ?_
          refine lv_iconst (v := 2) hx hb dX1_take_30 (by decide) ?_
          refine lv_bipush (v := (-3)) hx hb dX1_take_31 (by decide) ?_
          refine k_i hw (va_runV (As := [.int 2, .int (-3)]) (rest := []) ⟨hx, hb, hml, hown, hts⟩ (c_X0_letGo l G f wa (sU S 6 i ((S 6 i) + 1)) M (show i < 25 by omega) hf_i 2 (-3)) (cwV 2 hts gX1_take_X0_letGo rfl rfl rfl (by decide +kernel) ⟨Nat.le_of_ble_eq_true rfl, Nat.le_of_ble_eq_true rfl⟩) (hw.preL (show i < 25 by omega) hf_i _) rfl rfl hl.1 rfl (lv_room (Nat.le_of_ble_eq_true rfl)) dX1_take_33 ⟨Nat.le_of_ble_eq_true rfl, Nat.le_of_ble_eq_true rfl⟩) (fun r u H locs hR hw => ?_)
          obtain ⟨hq, rfl⟩ := hR
          obtain rfl := hq.symm
          exact e_i hx hb hr hlocks hw dX1_take_36 (leafC (by simp only [oc_take, oj_take, hd, lg, lg2, ↓reduceIte, isH_nI hi, cl24 hi, c_4, h0_i, c_26]))
    · skip
      exact absurd c_4 (by decide)

set_option maxHeartbeats 4000000 in
set_option maxRecDepth 100000 in
theorem c_X1_letGoTwo (l : Launch) (G : GT) (f : Nat → Option Nat) (wa : Nat → Nat) (S M : Tb) {i a j b : Nat} (hi : i < 25) (hf : f i = some a) (hj : j < 25) (hg : f j = some b) (p1 p2 : Int32) : Met l yX1_letGoTwo wsX1_letGoTwo (rk 1) (va_Pc [.ref a, .ref b, .int p1, .int p2] (Wo G (f, wa, S, M))) (Qi G (fun r u => r = p2 ∧ u = (f, wa, lg2 S i j p1, M))) 0 0 (gA G) := by
  refine m_head (cc := cX1_letGoTwo) (maxL := 4) (ret := (some .int)) (by decide) rfl (Nat.le_of_ble_eq_true rfl) ?_
  intro p e s m below meth c hx hb hml hr hlocks hown hts hw ls hl
  have hown : s.vm.findClass RX1 = some m.cls := hown
  have hl : lv_has ls 4 [(0, .ref a), (1, .ref b), (2, .int p1), (3, .int p2)] := hl
  refine lv_aload_n hx hb dX1_letGoTwo_0 rfl (lv_at hl 1 rfl) ?_
  refine lv_iload_n hx hb dX1_letGoTwo_1 rfl (lv_at hl 2 rfl) ?_
  refine lv_iload_n hx hb dX1_letGoTwo_2 rfl (lv_at hl 3 rfl) ?_
  refine k_i hw (va_runV (As := [.int p1, .int p2]) (rest := []) ⟨hx, hb, hml, hown, hts⟩ (c_X0_letGo l G f wa S M hj hg p1 p2) (cwV 2 hts gX1_letGoTwo_X0_letGo rfl rfl rfl (by decide +kernel) ⟨Nat.le_of_ble_eq_true rfl, Nat.le_of_ble_eq_true rfl⟩) (hw.preL hj hg _) rfl rfl hl.1 rfl (lv_room (Nat.le_of_ble_eq_true rfl)) dX1_letGoTwo_3 ⟨Nat.le_of_ble_eq_true rfl, Nat.le_of_ble_eq_true rfl⟩) (fun r u H locs hR hw => ?_)
  obtain ⟨hq, rfl⟩ := hR
  obtain rfl := hq.symm
  refine lv_pop hx hb dX1_letGoTwo_6 rfl ?_
  refine lv_aload_n hx hb dX1_letGoTwo_7 rfl (lv_at hl 0 rfl) ?_
  refine lv_iload_n hx hb dX1_letGoTwo_8 rfl (lv_at hl 2 rfl) ?_
  refine lv_iload_n hx hb dX1_letGoTwo_9 rfl (lv_at hl 3 rfl) ?_
  refine k_i hw (va_runV (As := [.int p1, .int p2]) (rest := []) ⟨hx, hb, hml, hown, hts⟩ (c_X0_letGo l G f wa (sU S 7 j p1) M hi hf p1 p2) (cwV 2 hts gX1_letGoTwo_X0_letGo rfl rfl rfl (by decide +kernel) ⟨Nat.le_of_ble_eq_true rfl, Nat.le_of_ble_eq_true rfl⟩) (hw.preL hi hf _) rfl rfl hl.1 rfl (lv_room (Nat.le_of_ble_eq_true rfl)) dX1_letGoTwo_10 ⟨Nat.le_of_ble_eq_true rfl, Nat.le_of_ble_eq_true rfl⟩) (fun r u H locs hR hw => ?_)
  obtain ⟨hq, rfl⟩ := hR
  obtain rfl := hq.symm
  exact e_i hx hb hr hlocks hw dX1_letGoTwo_13 ⟨rfl, rfl⟩
end
section
/-! Locker.exchangeItems: two rows of weights change places -/
def exW (wa : Nat → Nat) (i j : Nat) : Nat → Nat := fun k => if k = i then wa j else if k = j then wa i else wa k
theorem exS_c (S : Tb) (i j : Nat) {c : Nat} (h5 : c ≠ 5) (h8 : c ≠ 8) (r : Nat) : exS S i j c r = S c r := by simp [exS, h5, h8]
theorem exS_8i (S : Tb) (i j : Nat) {k : Nat} (hk : k < 10) : exS S i j 8 (10 * i + k) = S 8 (10 * j + k) := by
  simp [exS, show (10 * i + k) / 10 = i by omega, show k % 10 = k by omega]
theorem exS_8j (S : Tb) (i j : Nat) {k : Nat} (hk : k < 10) : exS S i j 8 (10 * j + k) = S 8 (10 * i + k) := by
  by_cases h : j = i
  · subst h; exact exS_8i S j j hk
  · simp [exS, show (10 * j + k) / 10 = j by omega, show k % 10 = k by omega, h]
theorem exS_8o (S : Tb) (i j : Nat) {r k : Nat} (hk : k < 10) (hi : r ≠ i) (hj : r ≠ j) : exS S i j 8 (10 * r + k) = S 8 (10 * r + k) := by
  simp [exS, show (10 * r + k) / 10 = r by omega, hi, hj]
theorem exW_self (wa : Nat → Nat) (i : Nat) : exW wa i i = wa := by
  funext k
  by_cases h : k = i <;> simp [exW, h]
theorem exS_self5 (S : Tb) (i c r : Nat) (hc : c ≠ 8) : exS S i i c r = S c r := by
  by_cases h5 : c = 5
  · subst h5
    by_cases h : r = i <;> simp [exS, h]
  · exact exS_c S i i h5 hc r
theorem rpC_ex1 {G : GT} {f : Nat → Option Nat} {wa : Nat → Nat} {S : Tb} {L : List Nat} {e : Nat → va_E} {i : Nat} (h : rpC G f wa S L e) : rpC G f (exW wa i i) (exS S i i) L e := by
  obtain ⟨⟨x1, x2⟩, ⟨k1, f0, k2, k3⟩, c3, c4, c5, c6⟩ := h
  rw [exW_self]
  refine ⟨⟨x1, by rw [x2]; simp [exS]⟩, ⟨k1, f0, k2, k3⟩, fun r hr b hb => ⟨⟨(c3 r hr b hb).1.1, ?_⟩, (c3 r hr b hb).2.1, ?_⟩, c4, c5, fun r hr => by rw [exS_self5 _ _ _ _ (by decide)]; exact c6 r hr⟩
  · rw [(c3 r hr b hb).1.2]
    simp only [lkE, lkL, exS_self5 S i 1 r (by decide), exS_self5 S i 2 r (by decide), exS_self5 S i 3 r (by decide), exS_self5 S i 4 r (by decide), exS_self5 S i 5 r (by decide), exS_self5 S i 6 r (by decide), exS_self5 S i 7 r (by decide)]
  · obtain ⟨g, g1, g2⟩ := (c3 r hr b hb).2.2
    refine ⟨g, g1, fun k hk => ?_⟩
    by_cases hri : r = i
    · subst hri; rw [exS_8i S r r hk]; exact g2 k hk
    · rw [exS_8o S i i hk hri hri]; exact g2 k hk
theorem rpC_ex2 {G : GT} {f : Nat → Option Nat} {wa : Nat → Nat} {S : Tb} {L : List Nat} {e : Nat → va_E} {i j a b : Nat} (h : rpC G f wa S L e) (hi : i < 25) (hf : f i = some a) (hj : j < 25) (hg : f j = some b) (hij : i ≠ j) :
    rpC G f (exW wa i j) (exS S i j) L (va_up (va_up e b (.inr (0, [.int (S 1 j), .int (S 2 j), .int (S 3 j), .int (S 4 j), .ref (wa i), .int (S 5 i), .int (S 6 j), .int (S 7 j)]))) a (.inr (0, [.int (S 1 i), .int (S 2 i), .int (S 3 i), .int (S 4 i), .ref (wa j), .int (S 5 j), .int (S 6 i), .int (S 7 i)]))) := by
  obtain ⟨⟨x1, x2⟩, ⟨k1, f0, k2, k3⟩, c3, c4, c5, c6⟩ := h
  have hab : b ≠ a := fun q => hij (c4 i j a hi hj hf (by rw [← q]; exact hg))
  have ea := (c3 i hi a hf).1.2
  have eb := (c3 j hj b hg).1.2
  have ne : ∀ q, kd (e q) ≠ 0 → q ≠ a ∧ q ≠ b := fun q h2 => ⟨fun z => by subst z; rw [ea] at h2; exact h2 rfl, fun z => by subst z; rw [eb] at h2; exact h2 rfl⟩
  have up : ∀ {q : Nat} {v w : va_E}, q ≠ a ∧ q ≠ b → va_up (va_up e b v) a w q = e q := fun h => by rw [va_up_ne _ _ h.1, va_up_ne _ _ h.2]
  refine ⟨⟨x1, ?_⟩, ⟨k1, f0, k2, ?_⟩, fun r hr d hd => ?_, c4, ?_, fun r hr => by rw [exS_c S i j (by decide) (by decide)]; exact c6 r hr⟩
  · rw [up (ne _ (by rw [x2]; simp [kd])), x2]; simp [exS]
  · rw [up (ne _ (by rw [k3]; simp [kd]))]; exact k3
  · by_cases hri : r = i
    · subst hri
      rw [hf] at hd; cases hd
      refine ⟨⟨(c3 r hr a hf).1.1, ?_⟩, ?_⟩
      · rw [va_up_self]
        simp [exW, exS]
      · obtain ⟨w1, g, g1, g2⟩ := (c3 j hj b hg).2
        simp only [exW, if_true]
        exact ⟨w1, g, by rw [up (ne _ (by rw [g1]; simp [kd]))]; exact g1, fun k hk => by rw [exS_8i S r j hk]; exact g2 k hk⟩
    · by_cases hrj : r = j
      · subst hrj
        rw [hg] at hd; cases hd
        refine ⟨⟨(c3 r hr b hg).1.1, ?_⟩, ?_⟩
        · rw [va_up_ne _ _ hab, va_up_self]
          simp [exW, exS, hri]
        · obtain ⟨w1, g, g1, g2⟩ := (c3 i hi a hf).2
          simp only [exW, if_neg hri, if_true]
          exact ⟨w1, g, by rw [up (ne _ (by rw [g1]; simp [kd]))]; exact g1, fun k hk => by rw [exS_8j S i r hk]; exact g2 k hk⟩
      · have hne : d ≠ a ∧ d ≠ b := ⟨fun z => hri (c4 r i d hr hi hd (by rw [z]; exact hf)), fun z => hrj (c4 r j d hr hj hd (by rw [z]; exact hg))⟩
        refine ⟨⟨(c3 r hr d hd).1.1, ?_⟩, ?_⟩
        · rw [up hne, (c3 r hr d hd).1.2]
          simp [exW, exS, hri, hrj]
        · obtain ⟨w1, g, g1, g2⟩ := (c3 r hr d hd).2
          simp only [exW, if_neg hri, if_neg hrj]
          exact ⟨w1, g, by rw [up (ne _ (by rw [g1]; simp [kd]))]; exact g1, fun k hk => by rw [exS_8o S i j hk hri hrj]; exact g2 k hk⟩
  · intro r q u v hr hq hu hv hrq
    have key : ∀ z, z < 25 → ∀ y, f z = some y → ∃ z', z' < 25 ∧ (∃ y', f z' = some y') ∧ exW wa i j z = wa z' ∧ ((z = i ∧ z' = j) ∨ (z = j ∧ z' = i) ∨ (z ≠ i ∧ z ≠ j ∧ z' = z)) := by
      intro z hz y hy
      by_cases h1 : z = i
      · exact ⟨j, hj, ⟨b, hg⟩, by simp [exW, h1], Or.inl ⟨h1, rfl⟩⟩
      · by_cases h2 : z = j
        · exact ⟨i, hi, ⟨a, hf⟩, by simp [exW, h2, Ne.symm hij], Or.inr (Or.inl ⟨h2, rfl⟩)⟩
        · exact ⟨z, hz, ⟨y, hy⟩, by simp [exW, h1, h2], Or.inr (Or.inr ⟨h1, h2, rfl⟩)⟩
    obtain ⟨r', h1, ⟨y1, h2⟩, h3, h4⟩ := key r hr u hu
    obtain ⟨q', h5, ⟨y2, h6⟩, h7, h8⟩ := key q hq v hv
    have := c5 r' q' y1 y2 h1 h5 h2 h6 (by rw [← h3, ← h7]; exact hrq)
    omega
set_option maxHeartbeats 4000000 in
set_option maxRecDepth 100000 in
theorem c_X0_exchangeItems (l : Launch) (G : GT) (f : Nat → Option Nat) (wa : Nat → Nat) (S M : Tb) {i a j b : Nat} (hi : i < 25) (hf : f i = some a) (hj : j < 25) (hg : f j = some b) : Met l yX0_exchangeItems wsX0_exchangeItems (rk 0) (va_Pc [.ref a, .ref b] (Wo G (f, wa, S, M))) (Qv G (fun u => u = (f, exW wa i j, exS S i j, M))) 0 0 (gA G) := by
  refine m_head (cc := cX0_exchangeItems) (maxL := 4) (ret := none) (by decide) rfl (Nat.le_of_ble_eq_true rfl) ?_
  intro p e s m below meth c hx hb hml hr hlocks hown hts hw ls hl
  have hown : s.vm.findClass RX0 = some m.cls := hown
  have hl : lv_has ls 4 [(0, .ref a), (1, .ref b)] := hl
  have hin0 : ∀ w ∈ wsX00, w ∈ wsX0_exchangeItems := by decide +kernel
  have lk18 := hts (.fieldLink RX0 18 "LockerWall$Locker" "weights" "[I") (by decide +kernel)
  have lk25 := hts (.fieldLink RX0 25 "LockerWall$Locker" "count" "I") (by decide +kernel)
  refine lv_aload_n hx hb dX0_exchangeItems_0 rfl (lv_at hl 1 rfl) ?_
  refine r_get0 (v := .ref (wa j)) hx hb hts hin0 hown hw hj hg 4 (by decide) lk18 rfl dX0_exchangeItems_1 ?_
  refine lv_astore_n (lv' := [(2, .ref (wa j)), (0, .ref a), (1, .ref b)]) hx hb dX0_exchangeItems_4 rfl hl (by decide) rfl (fun ls hl => ?_)
  refine lv_aload_n hx hb dX0_exchangeItems_5 rfl (lv_at hl 2 rfl) ?_
  refine r_get0 (v := .int (S 5 j)) hx hb hts hin0 hown hw hj hg 5 (by decide) lk25 rfl dX0_exchangeItems_6 ?_
  refine lv_istore_n (lv' := [(3, .int (S 5 j)), (2, .ref (wa j)), (0, .ref a), (1, .ref b)]) hx hb dX0_exchangeItems_9 rfl hl (by decide) rfl (fun ls hl => ?_)
  obtain ⟨⟨L, ev, hP, hD, hC, hM⟩, hK, hA, hS⟩ := hw
  have ea : a ∈ L ∧ ev a = lkE S i (wa i) := (hC.2.2.1 i hi a hf).1
  have eb : b ∈ L ∧ ev b = lkE S j (wa j) := (hC.2.2.1 j hj b hg).1
  refine lv_aload_n hx hb dX0_exchangeItems_10 rfl (lv_at hl 3 rfl) ?_
  refine lv_aload_n hx hb dX0_exchangeItems_11 rfl (lv_at hl 2 rfl) ?_
  refine p_get (v := .ref (wa i)) hx hb hts hin0 hown hK hP ea.1 ea.2 rfl 4 (by decide) lk18 rfl rfl dX0_exchangeItems_12 ?_
  refine p_put hx hb hts hin0 tyX0 tyX0_ok nmX0 hown hK hP hD hS eb.1 eb.2 rfl 4 (by decide) lk18 rfl rfl rfl rfl (by simp) dX0_exchangeItems_15 (fun H locs hP hD hS => ?_)
  by_cases hij : i = j
  · subst hij
    rw [hf] at hg
    cases hg
    have e1 : va_up ev a (.inr (0, (lkL S i (wa i)).set 4 (.ref (wa i)))) = ev := by
      funext q
      by_cases hq : q = a
      · subst hq; rw [va_up_self]; exact ea.2.symm
      · rw [va_up_ne _ _ hq]
    have e2 : ∀ v : va_E, v = lkE S i (wa i) → va_up ev a v = ev := by
      intro v hv
      funext q
      by_cases hq : q = a
      · subst hq; rw [va_up_self, hv]; exact ea.2.symm
      · rw [va_up_ne _ _ hq]
    rw [e1] at hP hD
    refine lv_aload_n hx hb dX0_exchangeItems_18 rfl (lv_at hl 3 rfl) ?_
    refine lv_aload_n hx hb dX0_exchangeItems_19 rfl (lv_at hl 2 rfl) ?_
    refine p_get (v := .int (S 5 i)) hx hb hts hin0 hown hK hP ea.1 ea.2 rfl 5 (by decide) lk25 rfl rfl dX0_exchangeItems_20 ?_
    refine p_put hx hb hts hin0 tyX0 tyX0_ok nmX0 hown hK hP hD hS ea.1 ea.2 rfl 5 (by decide) lk25 rfl rfl rfl rfl (by simp) dX0_exchangeItems_23 (fun H locs hP hD hS => ?_)
    rw [e2 (.inr (0, (lkL S i (wa i)).set 5 (.int (S 5 i)))) rfl] at hP hD
    refine lv_aload_n hx hb dX0_exchangeItems_26 rfl (lv_at hl 2 rfl) ?_
    refine lv_aload_n hx hb dX0_exchangeItems_27 rfl (lv_at hl 1 rfl) ?_
    refine p_put hx hb hts hin0 tyX0 tyX0_ok nmX0 hown hK hP hD hS ea.1 ea.2 rfl 4 (by decide) lk18 rfl rfl rfl rfl (by simp) dX0_exchangeItems_28 (fun H locs hP hD hS => ?_)
    rw [e2 (.inr (0, (lkL S i (wa i)).set 4 (.ref (wa i)))) rfl] at hP hD
    refine lv_aload_n hx hb dX0_exchangeItems_31 rfl (lv_at hl 2 rfl) ?_
    refine lv_iload_n hx hb dX0_exchangeItems_32 rfl (lv_at hl 0 rfl) ?_
    refine p_put hx hb hts hin0 tyX0 tyX0_ok nmX0 hown hK hP hD hS ea.1 ea.2 rfl 5 (by decide) lk25 rfl rfl rfl rfl (by simp) dX0_exchangeItems_33 (fun H locs hP hD hS => ?_)
    rw [e2 (.inr (0, (lkL S i (wa i)).set 5 (.int (S 5 i)))) rfl] at hP hD
    have hw : Wi G (f, exW wa i i, exS S i i, M) s H locs := ⟨⟨L, ev, hP, hD, rpC_ex1 hC, hM⟩, hK, hA, hS⟩
    exact e_v hx hb hr hlocks hw dX0_exchangeItems_36 rfl
  · have hab : a ≠ b := fun q => hij (hC.2.2.2.1 i j a hi hj hf (by rw [q]; exact hg))
    have ea1 : va_up ev b (.inr (0, (lkL S j (wa j)).set 4 (.ref (wa i)))) a = lkE S i (wa i) := by rw [va_up_ne _ _ hab]; exact ea.2
    refine lv_aload_n hx hb dX0_exchangeItems_18 rfl (lv_at hl 3 rfl) ?_
    refine lv_aload_n hx hb dX0_exchangeItems_19 rfl (lv_at hl 2 rfl) ?_
    refine p_get (v := .int (S 5 i)) hx hb hts hin0 hown hK hP ea.1 ea1 rfl 5 (by decide) lk25 rfl rfl dX0_exchangeItems_20 ?_
    refine p_put hx hb hts hin0 tyX0 tyX0_ok nmX0 hown hK hP hD hS eb.1 (va_up_self _ _ _) rfl 5 (by decide) lk25 rfl rfl rfl rfl (by simp) dX0_exchangeItems_23 (fun H locs hP hD hS => ?_)
    rw [bx_uu] at hP hD
    refine lv_aload_n hx hb dX0_exchangeItems_26 rfl (lv_at hl 2 rfl) ?_
    refine lv_aload_n hx hb dX0_exchangeItems_27 rfl (lv_at hl 1 rfl) ?_
    refine p_put hx hb hts hin0 tyX0 tyX0_ok nmX0 hown hK hP hD hS ea.1 ((va_up_ne _ _ hab).trans ea.2) rfl 4 (by decide) lk18 rfl rfl rfl rfl (by simp) dX0_exchangeItems_28 (fun H locs hP hD hS => ?_)
    refine lv_aload_n hx hb dX0_exchangeItems_31 rfl (lv_at hl 2 rfl) ?_
    refine lv_iload_n hx hb dX0_exchangeItems_32 rfl (lv_at hl 0 rfl) ?_
    refine p_put hx hb hts hin0 tyX0 tyX0_ok nmX0 hown hK hP hD hS ea.1 (va_up_self _ _ _) rfl 5 (by decide) lk25 rfl rfl rfl rfl (by simp) dX0_exchangeItems_33 (fun H locs hP hD hS => ?_)
    rw [bx_uu] at hP hD
    have hM2 := rpM_up (v := .inr (0, [.int (S 1 j), .int (S 2 j), .int (S 3 j), .int (S 4 j), .ref (wa i), .int (S 5 i), .int (S 6 j), .int (S 7 j)])) hM (a := b) (by rw [eb.2]; simp [kd]) (by rw [eb.2]; simp [kd])
    have hM3 := rpM_up (v := .inr (0, [.int (S 1 i), .int (S 2 i), .int (S 3 i), .int (S 4 i), .ref (wa j), .int (S 5 j), .int (S 6 i), .int (S 7 i)])) hM2 (a := a) (by rw [va_up_ne _ _ hab, ea.2]; simp [kd]) (by rw [va_up_ne _ _ hab, ea.2]; simp [kd])
    have hw : Wi G (f, exW wa i j, exS S i j, M) s H locs := ⟨⟨L, _, hP, hD, rpC_ex2 hC hi hf hj hg hij, hM3⟩, hK, hA, hS⟩
    exact e_v hx hb hr hlocks hw dX0_exchangeItems_36 rfl
end
section
set_option maxHeartbeats 4000000 in
set_option maxRecDepth 100000 in
theorem c_X1_moveHeld (l : Launch) (G : GT) (f : Nat → Option Nat) (wa : Nat → Nat) (S M : Tb) (hI : Inv S) {i a j b : Nat} (hi : i < 24) (hf : f i = some a) (hj : j < 24) (hg : f j = some b) : Met l yX1_moveHeld wsX1_moveHeld (rk 2) (va_Pc [.ref a, .ref b] (Wo G (f, wa, S, M))) (Qi G (fun r u => r = (omv S i j).1 ∧ ∃ (f' : Nat → Option Nat) (wa' : Nat → Nat), u = (f', wa', (omv S i j).2, M))) 0 0 (gA G) := by
  refine m_head (cc := cX1_moveHeld) (maxL := 3) (ret := (some .int)) (by decide) rfl (Nat.le_of_ble_eq_true rfl) ?_
  intro p e s m below meth c hx hb hml hr hlocks hown hts hw ls hl
  have hown : s.vm.findClass RX1 = some m.cls := hown
  have hl : lv_has ls 3 [(0, .ref a), (1, .ref b)] := hl
  have hin0 : ∀ w ∈ wsX00, w ∈ wsX1_moveHeld := by decide +kernel
  have lk33 := hts (.fieldLink RX1 33 "LockerWall$Locker" "count" "I") (by decide +kernel)
  refine lv_aload_n hx hb dX1_moveHeld_0 rfl (lv_at hl 0 rfl) ?_
  refine r_get0 (v := .int (S 5 i)) hx hb hts hin0 hown hw (show i < 25 by omega) hf 5 (by decide) lk33 rfl dX1_moveHeld_1 ?_
  refine lv_if_ne (tgt := 16) hx hb dX1_moveHeld_4 (by decide) (fun c_4 => ?_) (fun c_4 => ?_)
  · skip
    obtain ⟨n_i, h10_i, hn_i⟩ := hI i hi
    obtain ⟨q_i, hq_i, hs_i⟩ := n_succ hn_i h10_i c_4
    have hI1 := hI.rm hs_i hq_i
    obtain ⟨n_j, h10_j, hn_j⟩ := hI1 j hj
    obtain ⟨n_k, h10_k, hn_k⟩ := hI1 i hi
    refine lv_aload_n hx hb dX1_moveHeld_16 rfl (lv_at hl 0 rfl) ?_
    refine k_i hw (va_runV (As := []) (rest := []) ⟨hx, hb, hml, hown, hts⟩ (c_X0_removeLast l G f wa S M (show i < 25 by omega) hf hs_i hq_i) (cwV 0 hts gX1_moveHeld_X0_removeLast rfl rfl rfl (by decide +kernel) ⟨Nat.le_of_ble_eq_true rfl, Nat.le_of_ble_eq_true rfl⟩) (hw.preL (show i < 25 by omega) hf _) rfl rfl hl.1 rfl (lv_room (Nat.le_of_ble_eq_true rfl)) dX1_moveHeld_17 ⟨Nat.le_of_ble_eq_true rfl, Nat.le_of_ble_eq_true rfl⟩) (fun r u H locs hR hw => ?_)
    obtain ⟨hq, rfl⟩ := hR
    obtain rfl := hq.symm
    refine lv_istore_n (lv' := [(2, .int (rmV S i)), (0, .ref a), (1, .ref b)]) hx hb dX1_moveHeld_20 rfl hl (by decide) rfl (fun ls hl => ?_)
    refine lv_aload_n hx hb dX1_moveHeld_21 rfl (lv_at hl 2 rfl) ?_
    refine lv_iload_n hx hb dX1_moveHeld_22 rfl (lv_at hl 0 rfl) ?_
    refine k_i hw (va_runV (As := [.int (rmV S i)]) (rest := []) ⟨hx, hb, hml, hown, hts⟩ (c_X0_accept l G f wa (rmS S i) M (show j < 25 by omega) hg hn_j h10_j (rmV S i)) (cwV 1 hts gX1_moveHeld_X0_accept rfl rfl rfl (by decide +kernel) ⟨Nat.le_of_ble_eq_true rfl, Nat.le_of_ble_eq_true rfl⟩) (hw.preL (show j < 25 by omega) hg _) rfl rfl hl.1 rfl (lv_room (Nat.le_of_ble_eq_true rfl)) dX1_moveHeld_23 ⟨Nat.le_of_ble_eq_true rfl, Nat.le_of_ble_eq_true rfl⟩) (fun r u H locs hR hw => ?_)
    obtain ⟨hq, rfl⟩ := hR
    obtain rfl := hq.symm
    cases hh_23 : okA (rmS S i) j (rmV S i)
    · skip
      refine W.eq (g2 := F0 m 26 ls [.int 0]) rfl ?_
      rw [hh_23] at hw
      have hw : Wi G (f, wa, rmS S i, M) s H locs := hw
      refine lv_if_ne (tgt := 44) hx hb dX1_moveHeld_26 (by decide) (fun c_26 => ?_) (fun c_26 => ?_)
      · skip
        exact absurd c_26 (by decide)
      · skip
        refine lv_aload_n hx hb dX1_moveHeld_29 rfl (lv_at hl 1 rfl) ?_
        refine lv_iload_n hx hb dX1_moveHeld_30 rfl (lv_at hl 0 rfl) ?_
        refine k_i hw (va_runV (As := [.int (rmV S i)]) (rest := []) ⟨hx, hb, hml, hown, hts⟩ (c_X0_accept l G f wa (rmS S i) M (show i < 25 by omega) hf hn_k h10_k (rmV S i)) (cwV 1 hts gX1_moveHeld_X0_accept rfl rfl rfl (by decide +kernel) ⟨Nat.le_of_ble_eq_true rfl, Nat.le_of_ble_eq_true rfl⟩) (hw.preL (show i < 25 by omega) hf _) rfl rfl hl.1 rfl (lv_room (Nat.le_of_ble_eq_true rfl)) dX1_moveHeld_31 ⟨Nat.le_of_ble_eq_true rfl, Nat.le_of_ble_eq_true rfl⟩) (fun r u H locs hR hw => ?_)
        obtain ⟨hq, rfl⟩ := hR
        obtain rfl := hq.symm
        refine lv_pop hx hb dX1_moveHeld_34 rfl ?_
        refine lv_aload_n hx hb dX1_moveHeld_35 rfl (lv_at hl 1 rfl) ?_
        refine lv_aload_n hx hb dX1_moveHeld_36 rfl (lv_at hl 2 rfl) ?_
        refine lv_iconst (v := 4) hx hb dX1_moveHeld_37 (by decide) ?_
        refine lv_bipush (v := (-5)) hx hb dX1_moveHeld_38 (by decide) ?_
        refine k_i hw (va_runS (As := [.ref a, .ref b, .int 4, .int (-5)]) (rest := []) ⟨hx, hb, hml, hown, hts⟩ (c_X1_letGoTwo l G f wa (if okA (rmS S i) i (rmV S i) = true then acS (rmS S i) i (rmV S i) else rmS S i) M (show i < 25 by omega) hf (show j < 25 by omega) hg 4 (-5)) (va_cwS 4 hts gX1_moveHeld_X1_letGoTwo rfl rfl rfl (by decide +kernel) ⟨Nat.le_of_ble_eq_true rfl, Nat.le_of_ble_eq_true rfl⟩) (hw.preS _) rfl rfl hl.1 rfl (lv_room (Nat.le_of_ble_eq_true rfl)) dX1_moveHeld_40 ⟨Nat.le_of_ble_eq_true rfl, Nat.le_of_ble_eq_true rfl⟩) (fun r u H locs hR hw => ?_)
        obtain ⟨hq, rfl⟩ := hR
        obtain rfl := hq.symm
        exact e_i hx hb hr hlocks hw dX1_moveHeld_43 (leafC (by simp only [omv, hd, lg, lg2, ↓reduceIte, c_4, hh_23, Bool.false_eq_true, c_26]))
    · skip
      refine W.eq (g2 := F0 m 26 ls [.int 1]) rfl ?_
      rw [hh_23] at hw
      have hw : Wi G (f, wa, acS (rmS S i) j (rmV S i), M) s H locs := hw
      refine lv_if_ne (tgt := 44) hx hb dX1_moveHeld_26 (by decide) (fun c_26 => ?_) (fun c_26 => ?_)
      · skip
        refine lv_aload_n hx hb dX1_moveHeld_44 rfl (lv_at hl 1 rfl) ?_
        refine lv_aload_n hx hb dX1_moveHeld_45 rfl (lv_at hl 2 rfl) ?_
        refine lv_iconst (v := 1) hx hb dX1_moveHeld_46 (by decide) ?_
        refine lv_iload_n hx hb dX1_moveHeld_47 rfl (lv_at hl 0 rfl) ?_
        refine k_i hw (va_runS (As := [.ref a, .ref b, .int 1, .int (rmV S i)]) (rest := []) ⟨hx, hb, hml, hown, hts⟩ (c_X1_letGoTwo l G f wa (acS (rmS S i) j (rmV S i)) M (show i < 25 by omega) hf (show j < 25 by omega) hg 1 (rmV S i)) (va_cwS 4 hts gX1_moveHeld_X1_letGoTwo rfl rfl rfl (by decide +kernel) ⟨Nat.le_of_ble_eq_true rfl, Nat.le_of_ble_eq_true rfl⟩) (hw.preS _) rfl rfl hl.1 rfl (lv_room (Nat.le_of_ble_eq_true rfl)) dX1_moveHeld_48 ⟨Nat.le_of_ble_eq_true rfl, Nat.le_of_ble_eq_true rfl⟩) (fun r u H locs hR hw => ?_)
        obtain ⟨hq, rfl⟩ := hR
        obtain rfl := hq.symm
        exact e_i hx hb hr hlocks hw dX1_moveHeld_51 (leafC (by simp only [omv, hd, lg, lg2, ↓reduceIte, c_4, hh_23, c_26]))
      · skip
        exact absurd c_26 (by decide)
  · skip
    refine lv_aload_n hx hb dX1_moveHeld_7 rfl (lv_at hl 0 rfl) ?_
    refine lv_aload_n hx hb dX1_moveHeld_8 rfl (lv_at hl 1 rfl) ?_
    refine lv_iconst (v := 4) hx hb dX1_moveHeld_9 (by decide) ?_
    refine lv_bipush (v := (-6)) hx hb dX1_moveHeld_10 (by decide) ?_
    refine k_i hw (va_runS (As := [.ref a, .ref b, .int 4, .int (-6)]) (rest := []) ⟨hx, hb, hml, hown, hts⟩ (c_X1_letGoTwo l G f wa S M (show i < 25 by omega) hf (show j < 25 by omega) hg 4 (-6)) (va_cwS 4 hts gX1_moveHeld_X1_letGoTwo rfl rfl rfl (by decide +kernel) ⟨Nat.le_of_ble_eq_true rfl, Nat.le_of_ble_eq_true rfl⟩) (hw.preS _) rfl rfl hl.1 rfl (lv_room (Nat.le_of_ble_eq_true rfl)) dX1_moveHeld_12 ⟨Nat.le_of_ble_eq_true rfl, Nat.le_of_ble_eq_true rfl⟩) (fun r u H locs hR hw => ?_)
    obtain ⟨hq, rfl⟩ := hR
    obtain rfl := hq.symm
    exact e_i hx hb hr hlocks hw dX1_moveHeld_15 (leafC (by simp only [omv, hd, lg, lg2, ↓reduceIte, c_4]))

set_option maxHeartbeats 4000000 in
set_option maxRecDepth 100000 in
theorem c_X1_exchangeHeld (l : Launch) (G : GT) (f : Nat → Option Nat) (wa : Nat → Nat) (S M : Tb) (hI : Inv S) {i a j b : Nat} (hi : i < 24) (hf : f i = some a) (hj : j < 24) (hg : f j = some b) : Met l yX1_exchangeHeld wsX1_exchangeHeld (rk 2) (va_Pc [.ref a, .ref b] (Wo G (f, wa, S, M))) (Qi G (fun r u => r = (oex S i j).1 ∧ ∃ (f' : Nat → Option Nat) (wa' : Nat → Nat), u = (f', wa', (oex S i j).2, M))) 0 0 (gA G) := by
  refine m_head (cc := cX1_exchangeHeld) (maxL := 2) (ret := (some .int)) (by decide) rfl (Nat.le_of_ble_eq_true rfl) ?_
  intro p e s m below meth c hx hb hml hr hlocks hown hts hw ls hl
  have hown : s.vm.findClass RX1 = some m.cls := hown
  have hl : lv_has ls 2 [(0, .ref a), (1, .ref b)] := hl
  have hin0 : ∀ w ∈ wsX00, w ∈ wsX1_exchangeHeld := by decide +kernel
  have lk95 := hts (.fieldLink RX1 95 "LockerWall$Locker" "room" "I") (by decide +kernel)
  have lk33 := hts (.fieldLink RX1 33 "LockerWall$Locker" "count" "I") (by decide +kernel)
  obtain ⟨n_i, h10_i, hn_i⟩ := hI i hi
  obtain ⟨n_j, h10_j, hn_j⟩ := hI j hj
  refine lv_aload_n hx hb dX1_exchangeHeld_0 rfl (lv_at hl 0 rfl) ?_
  refine k_i hw (va_runV (As := []) (rest := []) ⟨hx, hb, hml, hown, hts⟩ (c_X0_weight l G f wa S M (show i < 25 by omega) hf hn_i h10_i) (cwV 0 hts gX1_exchangeHeld_X0_weight rfl rfl rfl (by decide +kernel) ⟨Nat.le_of_ble_eq_true rfl, Nat.le_of_ble_eq_true rfl⟩) (hw.preL (show i < 25 by omega) hf _) rfl rfl hl.1 rfl (lv_room (Nat.le_of_ble_eq_true rfl)) dX1_exchangeHeld_1 ⟨Nat.le_of_ble_eq_true rfl, Nat.le_of_ble_eq_true rfl⟩) (fun r u H locs hR hw => ?_)
  obtain ⟨hq, rfl⟩ := hR
  obtain rfl := hq.symm
  refine lv_aload_n hx hb dX1_exchangeHeld_4 rfl (lv_at hl 1 rfl) ?_
  refine r_get0 (v := .int (S 1 j)) hx hb hts hin0 hown hw (show j < 25 by omega) hg 0 (by decide) lk95 rfl dX1_exchangeHeld_5 ?_
  refine lv_icmp_gt (tgt := 22) hx hb dX1_exchangeHeld_8 (by decide) (fun c_8 => ?_) (fun c_8 => ?_)
  · skip
    refine lv_aload_n hx hb dX1_exchangeHeld_22 rfl (lv_at hl 0 rfl) ?_
    refine lv_aload_n hx hb dX1_exchangeHeld_23 rfl (lv_at hl 1 rfl) ?_
    refine lv_iconst (v := 4) hx hb dX1_exchangeHeld_24 (by decide) ?_
    refine lv_bipush (v := (-5)) hx hb dX1_exchangeHeld_25 (by decide) ?_
    refine k_i hw (va_runS (As := [.ref a, .ref b, .int 4, .int (-5)]) (rest := []) ⟨hx, hb, hml, hown, hts⟩ (c_X1_letGoTwo l G f wa S M (show i < 25 by omega) hf (show j < 25 by omega) hg 4 (-5)) (va_cwS 4 hts gX1_exchangeHeld_X1_letGoTwo rfl rfl rfl (by decide +kernel) ⟨Nat.le_of_ble_eq_true rfl, Nat.le_of_ble_eq_true rfl⟩) (hw.preS _) rfl rfl hl.1 rfl (lv_room (Nat.le_of_ble_eq_true rfl)) dX1_exchangeHeld_27 ⟨Nat.le_of_ble_eq_true rfl, Nat.le_of_ble_eq_true rfl⟩) (fun r u H locs hR hw => ?_)
    obtain ⟨hq, rfl⟩ := hR
    obtain rfl := hq.symm
    exact e_i hx hb hr hlocks hw dX1_exchangeHeld_30 (leafC (by simp only [oex, hd, lg, lg2, ↓reduceIte, c_8]))
  · skip
    refine lv_aload_n hx hb dX1_exchangeHeld_11 rfl (lv_at hl 1 rfl) ?_
    refine k_i hw (va_runV (As := []) (rest := []) ⟨hx, hb, hml, hown, hts⟩ (c_X0_weight l G f wa S M (show j < 25 by omega) hg hn_j h10_j) (cwV 0 hts gX1_exchangeHeld_X0_weight rfl rfl rfl (by decide +kernel) ⟨Nat.le_of_ble_eq_true rfl, Nat.le_of_ble_eq_true rfl⟩) (hw.preL (show j < 25 by omega) hg _) rfl rfl hl.1 rfl (lv_room (Nat.le_of_ble_eq_true rfl)) dX1_exchangeHeld_12 ⟨Nat.le_of_ble_eq_true rfl, Nat.le_of_ble_eq_true rfl⟩) (fun r u H locs hR hw => ?_)
    obtain ⟨hq, rfl⟩ := hR
    obtain rfl := hq.symm
    refine lv_aload_n hx hb dX1_exchangeHeld_15 rfl (lv_at hl 0 rfl) ?_
    refine r_get0 (v := .int (S 1 i)) hx hb hts hin0 hown hw (show i < 25 by omega) hf 0 (by decide) lk95 rfl dX1_exchangeHeld_16 ?_
    refine lv_icmp_le (tgt := 31) hx hb dX1_exchangeHeld_19 (by decide) (fun c_19 => ?_) (fun c_19 => ?_)
    · skip
      refine lv_aload_n hx hb dX1_exchangeHeld_31 rfl (lv_at hl 0 rfl) ?_
      refine lv_aload_n hx hb dX1_exchangeHeld_32 rfl (lv_at hl 1 rfl) ?_
      refine k_v hw (va_runV (As := [.ref b]) (rest := []) ⟨hx, hb, hml, hown, hts⟩ (c_X0_exchangeItems l G f wa S M (show i < 25 by omega) hf (show j < 25 by omega) hg) (cwV 1 hts gX1_exchangeHeld_X0_exchangeItems rfl rfl rfl (by decide +kernel) ⟨Nat.le_of_ble_eq_true rfl, Nat.le_of_ble_eq_true rfl⟩) (hw.preL (show i < 25 by omega) hf _) rfl rfl hl.1 rfl (lv_room (Nat.le_of_ble_eq_true rfl)) dX1_exchangeHeld_33 ⟨Nat.le_of_ble_eq_true rfl, Nat.le_of_ble_eq_true rfl⟩) (fun u H locs hR hw => ?_)
      obtain rfl := hR
      refine lv_aload_n hx hb dX1_exchangeHeld_36 rfl (lv_at hl 0 rfl) ?_
      refine lv_aload_n hx hb dX1_exchangeHeld_37 rfl (lv_at hl 1 rfl) ?_
      refine lv_iconst (v := 1) hx hb dX1_exchangeHeld_38 (by decide) ?_
      refine lv_aload_n hx hb dX1_exchangeHeld_39 rfl (lv_at hl 0 rfl) ?_
      refine r_get0 (v := .int (exS S i j 5 i)) hx hb hts hin0 hown hw (show i < 25 by omega) hf 5 (by decide) lk33 rfl dX1_exchangeHeld_40 ?_
      refine lv_aload_n hx hb dX1_exchangeHeld_43 rfl (lv_at hl 1 rfl) ?_
      refine r_get0 (v := .int (exS S i j 5 j)) hx hb hts hin0 hown hw (show j < 25 by omega) hg 5 (by decide) lk33 rfl dX1_exchangeHeld_44 ?_
      refine lv_iadd hx hb dX1_exchangeHeld_47 ?_
      refine k_i hw (va_runS (As := [.ref a, .ref b, .int 1, .int ((exS S i j 5 i) + (exS S i j 5 j))]) (rest := []) ⟨hx, hb, hml, hown, hts⟩ (c_X1_letGoTwo l G f (exW wa i j) (exS S i j) M (show i < 25 by omega) hf (show j < 25 by omega) hg 1 ((exS S i j 5 i) + (exS S i j 5 j))) (va_cwS 4 hts gX1_exchangeHeld_X1_letGoTwo rfl rfl rfl (by decide +kernel) ⟨Nat.le_of_ble_eq_true rfl, Nat.le_of_ble_eq_true rfl⟩) (hw.preS _) rfl rfl hl.1 rfl (lv_room (Nat.le_of_ble_eq_true rfl)) dX1_exchangeHeld_48 ⟨Nat.le_of_ble_eq_true rfl, Nat.le_of_ble_eq_true rfl⟩) (fun r u H locs hR hw => ?_)
      obtain ⟨hq, rfl⟩ := hR
      obtain rfl := hq.symm
      exact e_i hx hb hr hlocks hw dX1_exchangeHeld_51 (leafC (by simp only [oex, hd, lg, lg2, ↓reduceIte, c_8, c_19]))
    · skip
      refine lv_aload_n hx hb dX1_exchangeHeld_22 rfl (lv_at hl 0 rfl) ?_
      refine lv_aload_n hx hb dX1_exchangeHeld_23 rfl (lv_at hl 1 rfl) ?_
      refine lv_iconst (v := 4) hx hb dX1_exchangeHeld_24 (by decide) ?_
      refine lv_bipush (v := (-5)) hx hb dX1_exchangeHeld_25 (by decide) ?_
      refine k_i hw (va_runS (As := [.ref a, .ref b, .int 4, .int (-5)]) (rest := []) ⟨hx, hb, hml, hown, hts⟩ (c_X1_letGoTwo l G f wa S M (show i < 25 by omega) hf (show j < 25 by omega) hg 4 (-5)) (va_cwS 4 hts gX1_exchangeHeld_X1_letGoTwo rfl rfl rfl (by decide +kernel) ⟨Nat.le_of_ble_eq_true rfl, Nat.le_of_ble_eq_true rfl⟩) (hw.preS _) rfl rfl hl.1 rfl (lv_room (Nat.le_of_ble_eq_true rfl)) dX1_exchangeHeld_27 ⟨Nat.le_of_ble_eq_true rfl, Nat.le_of_ble_eq_true rfl⟩) (fun r u H locs hR hw => ?_)
      obtain ⟨hq, rfl⟩ := hR
      obtain rfl := hq.symm
      exact e_i hx hb hr hlocks hw dX1_exchangeHeld_30 (leafC (by simp only [oex, hd, lg, lg2, ↓reduceIte, c_8, c_19]))

set_option maxHeartbeats 4000000 in
set_option maxRecDepth 100000 in
theorem c_X1_actOnTwo (l : Launch) (G : GT) (f : Nat → Option Nat) (wa : Nat → Nat) (S M : Tb) (hI : Inv S) (p1 p2 p3 : Int32) : Met l yX1_actOnTwo wsX1_actOnTwo (rk 3) (va_Pc [.ref (gx G), .int p1, .int p2, .int p3] (Wo G (f, wa, S, M))) (Qi G (fun r u => r = (oc_act S p1 p2 p3).1 ∧ ∃ (f' : Nat → Option Nat) (wa' : Nat → Nat), u = (f', wa', (oc_act S p1 p2 p3).2, M))) 0 0 (gA G) := by
  refine m_head (cc := cX1_actOnTwo) (maxL := 6) (ret := (some .int)) (by decide) rfl (Nat.le_of_ble_eq_true rfl) ?_
  intro p e s m below meth c hx hb hml hr hlocks hown hts hw ls hl
  have hown : s.vm.findClass RX1 = some m.cls := hown
  have hl : lv_has ls 6 [(0, .ref (gx G)), (1, .int p1), (2, .int p2), (3, .int p3)] := hl
  have hin0 : ∀ w ∈ wsX00, w ∈ wsX1_actOnTwo := by decide +kernel
  have lk49 := hts (.fieldLink RX1 49 "LockerWall$Locker" "isOpen" "Z") (by decide +kernel)
  refine lv_iload_n hx hb dX1_actOnTwo_0 rfl (lv_at hl 1 rfl) ?_
  refine k_i hw (va_runS (As := [.int p1]) (rest := []) ⟨hx, hb, hml, hown, hts⟩ (c_X1_isHook l G f wa S M p1) (va_cwS 1 hts gX1_actOnTwo_X1_isHook rfl rfl rfl (by decide +kernel) ⟨Nat.le_of_ble_eq_true rfl, Nat.le_of_ble_eq_true rfl⟩) (hw.preS _) rfl rfl hl.1 rfl (lv_room (Nat.le_of_ble_eq_true rfl)) dX1_actOnTwo_1 ⟨Nat.le_of_ble_eq_true rfl, Nat.le_of_ble_eq_true rfl⟩) (fun r u H locs hR hw => ?_)
  obtain ⟨hq, rfl⟩ := hR
  obtain rfl := hq.symm
  cases hh_1 : isH p1
  · skip
    refine W.eq (g2 := F0 m 4 ls [.int 0]) rfl ?_
    refine lv_if_eq (tgt := 14) hx hb dX1_actOnTwo_4 (by decide) (fun c_4 => ?_) (fun c_4 => ?_)
    · skip
      refine lv_iconst (v := (-1)) hx hb dX1_actOnTwo_14 (by decide) ?_
      exact e_i hx hb hr hlocks hw dX1_actOnTwo_15 (leafC (by simp only [oc_act, oj_act, hd, lg, lg2, ↓reduceIte, hh_1, Bool.false_eq_true, c_4]))
    · skip
      exact absurd c_4 (by decide)
  · skip
    refine W.eq (g2 := F0 m 4 ls [.int 1]) rfl ?_
    obtain ⟨i, hi, rfl⟩ := isH_of hh_1
    refine lv_if_eq (tgt := 14) hx hb dX1_actOnTwo_4 (by decide) (fun c_4 => ?_) (fun c_4 => ?_)
    · skip
      exact absurd c_4 (by decide)
    · skip
      refine lv_iload_n hx hb dX1_actOnTwo_7 rfl (lv_at hl 2 rfl) ?_
      refine k_i hw (va_runS (As := [.int p2]) (rest := []) ⟨hx, hb, hml, hown, hts⟩ (c_X1_isHook l G f wa S M p2) (va_cwS 1 hts gX1_actOnTwo_X1_isHook rfl rfl rfl (by decide +kernel) ⟨Nat.le_of_ble_eq_true rfl, Nat.le_of_ble_eq_true rfl⟩) (hw.preS _) rfl rfl hl.1 rfl (lv_room (Nat.le_of_ble_eq_true rfl)) dX1_actOnTwo_8 ⟨Nat.le_of_ble_eq_true rfl, Nat.le_of_ble_eq_true rfl⟩) (fun r u H locs hR hw => ?_)
      obtain ⟨hq, rfl⟩ := hR
      obtain rfl := hq.symm
      cases hh_8 : isH p2
      · skip
        refine W.eq (g2 := F0 m 11 ls [.int 0]) rfl ?_
        refine lv_if_ne (tgt := 16) hx hb dX1_actOnTwo_11 (by decide) (fun c_11 => ?_) (fun c_11 => ?_)
        · skip
          exact absurd c_11 (by decide)
        · skip
          refine lv_iconst (v := (-1)) hx hb dX1_actOnTwo_14 (by decide) ?_
          exact e_i hx hb hr hlocks hw dX1_actOnTwo_15 (leafC (by simp only [oc_act, oj_act, hd, lg, lg2, ↓reduceIte, isH_nI hi, cl24 hi, c_4, hh_8, Bool.false_eq_true, c_11]))
      · skip
        refine W.eq (g2 := F0 m 11 ls [.int 1]) rfl ?_
        obtain ⟨j, hj, rfl⟩ := isH_of hh_8
        refine lv_if_ne (tgt := 16) hx hb dX1_actOnTwo_11 (by decide) (fun c_11 => ?_) (fun c_11 => ?_)
        · skip
          refine lv_aload_n hx hb dX1_actOnTwo_16 rfl (lv_at hl 0 rfl) ?_
          refine lv_iload_n hx hb dX1_actOnTwo_17 rfl (lv_at hl 1 rfl) ?_
          rcases hf_i : f i with _ | a_i
          · skip
            have h0_i : S 0 i = 0 := (show S 0 i = oN (f i) from hw.col0 (show i < 25 by omega)).trans (by rw [hf_i]; rfl)
            refine k_o hw (va_runV (As := [.int (nI i)]) (rest := []) ⟨hx, hb, hml, hown, hts⟩ (c_X1_holdAt_n l G f wa S M (show i < 24 by omega) hf_i) (cwV 1 hts gX1_actOnTwo_X1_holdAt rfl rfl rfl (by decide +kernel) ⟨Nat.le_of_ble_eq_true rfl, Nat.le_of_ble_eq_true rfl⟩) (hw.preX _) rfl rfl hl.1 rfl (lv_room (Nat.le_of_ble_eq_true rfl)) dX1_actOnTwo_18 ⟨Nat.le_of_ble_eq_true rfl, Nat.le_of_ble_eq_true rfl⟩) (fun r u H locs hR hw => ?_)
            obtain ⟨hq, rfl⟩ := hR
            obtain rfl := hq.symm
            refine W.eq (g2 := F0 m 21 ls [.null]) rfl ?_
            refine lv_astoreN (lv' := [(4, .null), (0, .ref (gx G)), (1, .int (nI i)), (2, .int (nI j)), (3, .int p3)]) hx hb dX1_actOnTwo_21 hl (by decide) rfl (fun ls hl => ?_)
            refine lv_aloadN hx hb dX1_actOnTwo_23 (lv_at hl 0 rfl) ?_
            refine lv_ifnonnullN hx hb dX1_actOnTwo_25 ?_
            refine lv_bipush (v := (-2)) hx hb dX1_actOnTwo_28 (by decide) ?_
            exact e_i hx hb hr hlocks hw dX1_actOnTwo_30 (leafC (by simp only [oc_act, oj_act, hd, lg, lg2, ↓reduceIte, isH_nI hi, cl24 hi, c_4, isH_nI hj, cl24 hj, c_11, h0_i]))
          · skip
            have h0_i : ¬ S 0 i = 0 := by rw [(show S 0 i = oN (f i) from hw.col0 (show i < 25 by omega)), hf_i]; exact oN_s _
            refine k_o hw (va_runV (As := [.int (nI i)]) (rest := []) ⟨hx, hb, hml, hown, hts⟩ (c_X1_holdAt_s l G f wa S M (show i < 24 by omega) hf_i) (cwV 1 hts gX1_actOnTwo_X1_holdAt rfl rfl rfl (by decide +kernel) ⟨Nat.le_of_ble_eq_true rfl, Nat.le_of_ble_eq_true rfl⟩) (hw.preX _) rfl rfl hl.1 rfl (lv_room (Nat.le_of_ble_eq_true rfl)) dX1_actOnTwo_18 ⟨Nat.le_of_ble_eq_true rfl, Nat.le_of_ble_eq_true rfl⟩) (fun r u H locs hR hw => ?_)
            obtain ⟨hq, rfl⟩ := hR
            obtain rfl := hq.symm
            refine W.eq (g2 := F0 m 21 ls [.ref a_i]) rfl ?_
            refine lv_astore (lv' := [(4, .ref a_i), (0, .ref (gx G)), (1, .int (nI i)), (2, .int (nI j)), (3, .int p3)]) hx hb dX1_actOnTwo_21 hl (by decide) rfl (fun ls hl => ?_)
            refine lv_aload hx hb dX1_actOnTwo_23 (lv_at hl 0 rfl) ?_
            refine lv_ifnonnull (tgt := 31) hx hb dX1_actOnTwo_25 (by decide) ?_
            refine lv_aload_n hx hb dX1_actOnTwo_31 rfl (lv_at hl 1 rfl) ?_
            refine lv_iload_n hx hb dX1_actOnTwo_32 rfl (lv_at hl 3 rfl) ?_
            rcases hf_j : f j with _ | a_j
            · skip
              have h0_j : S 0 j = 0 := (show S 0 j = oN (f j) from hw.col0 (show j < 25 by omega)).trans (by rw [hf_j]; rfl)
              refine k_o hw (va_runV (As := [.int (nI j)]) (rest := []) ⟨hx, hb, hml, hown, hts⟩ (c_X1_holdAt_n l G f wa (sU S 6 i ((S 6 i) + 1)) M (show j < 24 by omega) hf_j) (cwV 1 hts gX1_actOnTwo_X1_holdAt rfl rfl rfl (by decide +kernel) ⟨Nat.le_of_ble_eq_true rfl, Nat.le_of_ble_eq_true rfl⟩) (hw.preX _) rfl rfl hl.1 rfl (lv_room (Nat.le_of_ble_eq_true rfl)) dX1_actOnTwo_33 ⟨Nat.le_of_ble_eq_true rfl, Nat.le_of_ble_eq_true rfl⟩) (fun r u H locs hR hw => ?_)
              obtain ⟨hq, rfl⟩ := hR
              obtain rfl := hq.symm
              refine W.eq (g2 := F0 m 36 ls [.null]) rfl ?_
              refine lv_astoreN (lv' := [(5, .null), (4, .ref a_i), (0, .ref (gx G)), (1, .int (nI i)), (2, .int (nI j)), (3, .int p3)]) hx hb dX1_actOnTwo_36 hl (by decide) rfl (fun ls hl => ?_)
              refine lv_aloadN hx hb dX1_actOnTwo_38 (lv_at hl 0 rfl) ?_
              refine lv_ifnonnullN hx hb dX1_actOnTwo_40 ?_
              refine lv_aload hx hb dX1_actOnTwo_43 (lv_at hl 1 rfl) ?_
              refine lv_iconst (v := 4) hx hb dX1_actOnTwo_45 (by decide) ?_
              refine lv_bipush (v := (-2)) hx hb dX1_actOnTwo_46 (by decide) ?_
              refine k_i hw (va_runV (As := [.int 4, .int (-2)]) (rest := []) ⟨hx, hb, hml, hown, hts⟩ (c_X0_letGo l G f wa (sU S 6 i ((S 6 i) + 1)) M (show i < 25 by omega) hf_i 4 (-2)) (cwV 2 hts gX1_actOnTwo_X0_letGo rfl rfl rfl (by decide +kernel) ⟨Nat.le_of_ble_eq_true rfl, Nat.le_of_ble_eq_true rfl⟩) (hw.preL (show i < 25 by omega) hf_i _) rfl rfl hl.1 rfl (lv_room (Nat.le_of_ble_eq_true rfl)) dX1_actOnTwo_48 ⟨Nat.le_of_ble_eq_true rfl, Nat.le_of_ble_eq_true rfl⟩) (fun r u H locs hR hw => ?_)
              obtain ⟨hq, rfl⟩ := hR
              obtain rfl := hq.symm
              exact e_i hx hb hr hlocks hw dX1_actOnTwo_51 (leafC (by simp only [oc_act, oj_act, hd, lg, lg2, ↓reduceIte, isH_nI hi, cl24 hi, c_4, isH_nI hj, cl24 hj, c_11, h0_i, h0_j]))
            · skip
              have h0_j : ¬ S 0 j = 0 := by rw [(show S 0 j = oN (f j) from hw.col0 (show j < 25 by omega)), hf_j]; exact oN_s _
              refine k_o hw (va_runV (As := [.int (nI j)]) (rest := []) ⟨hx, hb, hml, hown, hts⟩ (c_X1_holdAt_s l G f wa (sU S 6 i ((S 6 i) + 1)) M (show j < 24 by omega) hf_j) (cwV 1 hts gX1_actOnTwo_X1_holdAt rfl rfl rfl (by decide +kernel) ⟨Nat.le_of_ble_eq_true rfl, Nat.le_of_ble_eq_true rfl⟩) (hw.preX _) rfl rfl hl.1 rfl (lv_room (Nat.le_of_ble_eq_true rfl)) dX1_actOnTwo_33 ⟨Nat.le_of_ble_eq_true rfl, Nat.le_of_ble_eq_true rfl⟩) (fun r u H locs hR hw => ?_)
              obtain ⟨hq, rfl⟩ := hR
              obtain rfl := hq.symm
              refine W.eq (g2 := F0 m 36 ls [.ref a_j]) rfl ?_
              refine lv_astore (lv' := [(5, .ref a_j), (4, .ref a_i), (0, .ref (gx G)), (1, .int (nI i)), (2, .int (nI j)), (3, .int p3)]) hx hb dX1_actOnTwo_36 hl (by decide) rfl (fun ls hl => ?_)
              refine lv_aload hx hb dX1_actOnTwo_38 (lv_at hl 0 rfl) ?_
              refine lv_ifnonnull (tgt := 52) hx hb dX1_actOnTwo_40 (by decide) ?_
              refine lv_aload hx hb dX1_actOnTwo_52 (lv_at hl 1 rfl) ?_
              refine r_get0 (v := .int (S 3 i)) hx hb hts hin0 hown hw (show i < 25 by omega) hf_i 2 (by decide) lk49 rfl dX1_actOnTwo_54 ?_
              refine lv_if_eq (tgt := 68) hx hb dX1_actOnTwo_57 (by decide) (fun c_57 => ?_) (fun c_57 => ?_)
              · skip
                refine lv_aload hx hb dX1_actOnTwo_68 (lv_at hl 1 rfl) ?_
                refine lv_aload hx hb dX1_actOnTwo_70 (lv_at hl 0 rfl) ?_
                refine lv_iconst (v := 2) hx hb dX1_actOnTwo_72 (by decide) ?_
                refine lv_bipush (v := (-3)) hx hb dX1_actOnTwo_73 (by decide) ?_
                refine k_i hw (va_runS (As := [.ref a_i, .ref a_j, .int 2, .int (-3)]) (rest := []) ⟨hx, hb, hml, hown, hts⟩ (c_X1_letGoTwo l G f wa (sU (sU S 6 i ((S 6 i) + 1)) 6 j (((sU S 6 i ((S 6 i) + 1)) 6 j) + 1)) M (show i < 25 by omega) hf_i (show j < 25 by omega) hf_j 2 (-3)) (va_cwS 4 hts gX1_actOnTwo_X1_letGoTwo rfl rfl rfl (by decide +kernel) ⟨Nat.le_of_ble_eq_true rfl, Nat.le_of_ble_eq_true rfl⟩) (hw.preS _) rfl rfl hl.1 rfl (lv_room (Nat.le_of_ble_eq_true rfl)) dX1_actOnTwo_75 ⟨Nat.le_of_ble_eq_true rfl, Nat.le_of_ble_eq_true rfl⟩) (fun r u H locs hR hw => ?_)
                obtain ⟨hq, rfl⟩ := hR
                obtain rfl := hq.symm
                exact e_i hx hb hr hlocks hw dX1_actOnTwo_78 (leafC (by simp only [oc_act, oj_act, hd, lg, lg2, ↓reduceIte, isH_nI hi, cl24 hi, c_4, isH_nI hj, cl24 hj, c_11, h0_i, h0_j, c_57]))
              · skip
                refine lv_aload hx hb dX1_actOnTwo_60 (lv_at hl 0 rfl) ?_
                refine r_get0 (v := .int (S 3 j)) hx hb hts hin0 hown hw (show j < 25 by omega) hf_j 2 (by decide) lk49 rfl dX1_actOnTwo_62 ?_
                refine lv_if_ne (tgt := 79) hx hb dX1_actOnTwo_65 (by decide) (fun c_65 => ?_) (fun c_65 => ?_)
                · skip
                  refine lv_iload_n hx hb dX1_actOnTwo_79 rfl (lv_at hl 5 rfl) ?_
                  refine lv_if_eq (tgt := 93) hx hb dX1_actOnTwo_80 (by decide) (fun c_80 => ?_) (fun c_80 => ?_)
                  · skip
                    refine lv_aload hx hb dX1_actOnTwo_93 (lv_at hl 1 rfl) ?_
                    refine lv_aload hx hb dX1_actOnTwo_95 (lv_at hl 0 rfl) ?_
                    refine k_i hw (va_runS (As := [.ref a_i, .ref a_j]) (rest := []) ⟨hx, hb, hml, hown, hts⟩ (c_X1_moveHeld l G f wa (sU (sU S 6 i ((S 6 i) + 1)) 6 j (((sU S 6 i ((S 6 i) + 1)) 6 j) + 1)) M (show Inv _ from hI) hi hf_i hj hf_j) (va_cwS 2 hts gX1_actOnTwo_X1_moveHeld rfl rfl rfl (by decide +kernel) ⟨Nat.le_of_ble_eq_true rfl, Nat.le_of_ble_eq_true rfl⟩) (hw.preS _) rfl rfl hl.1 rfl (lv_room (Nat.le_of_ble_eq_true rfl)) dX1_actOnTwo_97 ⟨Nat.le_of_ble_eq_true rfl, Nat.le_of_ble_eq_true rfl⟩) (fun r u H locs hR hw => ?_)
                    obtain ⟨hq, f', wa', rfl⟩ := hR
                    obtain rfl := hq.symm
                    exact e_i hx hb hr hlocks hw dX1_actOnTwo_100 (leafC (by simp only [oc_act, oj_act, hd, lg, lg2, ↓reduceIte, isH_nI hi, cl24 hi, c_4, isH_nI hj, cl24 hj, c_11, h0_i, h0_j, c_57, c_65, c_80]))
                  · skip
                    refine lv_aload hx hb dX1_actOnTwo_83 (lv_at hl 1 rfl) ?_
                    refine lv_aload hx hb dX1_actOnTwo_85 (lv_at hl 0 rfl) ?_
                    refine k_i hw (va_runS (As := [.ref a_i, .ref a_j]) (rest := []) ⟨hx, hb, hml, hown, hts⟩ (c_X1_exchangeHeld l G f wa (sU (sU S 6 i ((S 6 i) + 1)) 6 j (((sU S 6 i ((S 6 i) + 1)) 6 j) + 1)) M (show Inv _ from hI) hi hf_i hj hf_j) (va_cwS 2 hts gX1_actOnTwo_X1_exchangeHeld rfl rfl rfl (by decide +kernel) ⟨Nat.le_of_ble_eq_true rfl, Nat.le_of_ble_eq_true rfl⟩) (hw.preS _) rfl rfl hl.1 rfl (lv_room (Nat.le_of_ble_eq_true rfl)) dX1_actOnTwo_87 ⟨Nat.le_of_ble_eq_true rfl, Nat.le_of_ble_eq_true rfl⟩) (fun r u H locs hR hw => ?_)
                    obtain ⟨hq, f', wa', rfl⟩ := hR
                    obtain rfl := hq.symm
                    refine lv_goto (tgt := 100) hx hb dX1_actOnTwo_90 (by decide) ?_
                    exact e_i hx hb hr hlocks hw dX1_actOnTwo_100 (leafC (by simp only [oc_act, oj_act, hd, lg, lg2, ↓reduceIte, isH_nI hi, cl24 hi, c_4, isH_nI hj, cl24 hj, c_11, h0_i, h0_j, c_57, c_65, c_80]))
                · skip
                  refine lv_aload hx hb dX1_actOnTwo_68 (lv_at hl 1 rfl) ?_
                  refine lv_aload hx hb dX1_actOnTwo_70 (lv_at hl 0 rfl) ?_
                  refine lv_iconst (v := 2) hx hb dX1_actOnTwo_72 (by decide) ?_
                  refine lv_bipush (v := (-3)) hx hb dX1_actOnTwo_73 (by decide) ?_
                  refine k_i hw (va_runS (As := [.ref a_i, .ref a_j, .int 2, .int (-3)]) (rest := []) ⟨hx, hb, hml, hown, hts⟩ (c_X1_letGoTwo l G f wa (sU (sU S 6 i ((S 6 i) + 1)) 6 j (((sU S 6 i ((S 6 i) + 1)) 6 j) + 1)) M (show i < 25 by omega) hf_i (show j < 25 by omega) hf_j 2 (-3)) (va_cwS 4 hts gX1_actOnTwo_X1_letGoTwo rfl rfl rfl (by decide +kernel) ⟨Nat.le_of_ble_eq_true rfl, Nat.le_of_ble_eq_true rfl⟩) (hw.preS _) rfl rfl hl.1 rfl (lv_room (Nat.le_of_ble_eq_true rfl)) dX1_actOnTwo_75 ⟨Nat.le_of_ble_eq_true rfl, Nat.le_of_ble_eq_true rfl⟩) (fun r u H locs hR hw => ?_)
                  obtain ⟨hq, rfl⟩ := hR
                  obtain rfl := hq.symm
                  exact e_i hx hb hr hlocks hw dX1_actOnTwo_78 (leafC (by simp only [oc_act, oj_act, hd, lg, lg2, ↓reduceIte, isH_nI hi, cl24 hi, c_4, isH_nI hj, cl24 hj, c_11, h0_i, h0_j, c_57, c_65]))
        · skip
          exact absurd c_11 (by decide)

set_option maxHeartbeats 4000000 in
set_option maxRecDepth 100000 in
theorem c_X1_move (l : Launch) (G : GT) (f : Nat → Option Nat) (wa : Nat → Nat) (S M : Tb) (hI : Inv S) (p1 p2 : Int32) : Met l yX1_move wsX1_move (rk 4) (va_Pc [.ref (gx G), .int p1, .int p2] (Wo G (f, wa, S, M))) (Qi G (fun r u => r = (oc_act S p1 p2 0).1 ∧ ∃ (f' : Nat → Option Nat) (wa' : Nat → Nat), u = (f', wa', (oc_act S p1 p2 0).2, M))) 0 0 (gA G) := by
  refine m_head (cc := cX1_move) (maxL := 3) (ret := (some .int)) (by decide) rfl (Nat.le_of_ble_eq_true rfl) ?_
  intro p e s m below meth c hx hb hml hr hlocks hown hts hw ls hl
  have hown : s.vm.findClass RX1 = some m.cls := hown
  have hl : lv_has ls 3 [(0, .ref (gx G)), (1, .int p1), (2, .int p2)] := hl
  refine lv_aload_n hx hb dX1_move_0 rfl (lv_at hl 0 rfl) ?_
  refine lv_iload_n hx hb dX1_move_1 rfl (lv_at hl 1 rfl) ?_
  refine lv_iload_n hx hb dX1_move_2 rfl (lv_at hl 2 rfl) ?_
  refine lv_iconst (v := 0) hx hb dX1_move_3 (by decide) ?_
  refine k_i hw (va_runV (As := [.int p1, .int p2, .int 0]) (rest := []) ⟨hx, hb, hml, hown, hts⟩ (c_X1_actOnTwo l G f wa S M hI p1 p2 0) (cwV 3 hts gX1_move_X1_actOnTwo rfl rfl rfl (by decide +kernel) ⟨Nat.le_of_ble_eq_true rfl, Nat.le_of_ble_eq_true rfl⟩) (hw.preX _) rfl rfl hl.1 rfl (lv_room (Nat.le_of_ble_eq_true rfl)) dX1_move_4 ⟨Nat.le_of_ble_eq_true rfl, Nat.le_of_ble_eq_true rfl⟩) (fun r u H locs hR hw => ?_)
  obtain ⟨hq, f', wa', rfl⟩ := hR
  obtain rfl := hq.symm
  exact e_i hx hb hr hlocks hw dX1_move_7 ⟨rfl, f', wa', rfl⟩

set_option maxHeartbeats 4000000 in
set_option maxRecDepth 100000 in
theorem c_X1_swap (l : Launch) (G : GT) (f : Nat → Option Nat) (wa : Nat → Nat) (S M : Tb) (hI : Inv S) (p1 p2 : Int32) : Met l yX1_swap wsX1_swap (rk 4) (va_Pc [.ref (gx G), .int p1, .int p2] (Wo G (f, wa, S, M))) (Qi G (fun r u => r = (oc_act S p1 p2 1).1 ∧ ∃ (f' : Nat → Option Nat) (wa' : Nat → Nat), u = (f', wa', (oc_act S p1 p2 1).2, M))) 0 0 (gA G) := by
  refine m_head (cc := cX1_swap) (maxL := 3) (ret := (some .int)) (by decide) rfl (Nat.le_of_ble_eq_true rfl) ?_
  intro p e s m below meth c hx hb hml hr hlocks hown hts hw ls hl
  have hown : s.vm.findClass RX1 = some m.cls := hown
  have hl : lv_has ls 3 [(0, .ref (gx G)), (1, .int p1), (2, .int p2)] := hl
  refine lv_aload_n hx hb dX1_swap_0 rfl (lv_at hl 0 rfl) ?_
  refine lv_iload_n hx hb dX1_swap_1 rfl (lv_at hl 1 rfl) ?_
  refine lv_iload_n hx hb dX1_swap_2 rfl (lv_at hl 2 rfl) ?_
  refine lv_iconst (v := 1) hx hb dX1_swap_3 (by decide) ?_
  refine k_i hw (va_runV (As := [.int p1, .int p2, .int 1]) (rest := []) ⟨hx, hb, hml, hown, hts⟩ (c_X1_actOnTwo l G f wa S M hI p1 p2 1) (cwV 3 hts gX1_swap_X1_actOnTwo rfl rfl rfl (by decide +kernel) ⟨Nat.le_of_ble_eq_true rfl, Nat.le_of_ble_eq_true rfl⟩) (hw.preX _) rfl rfl hl.1 rfl (lv_room (Nat.le_of_ble_eq_true rfl)) dX1_swap_4 ⟨Nat.le_of_ble_eq_true rfl, Nat.le_of_ble_eq_true rfl⟩) (fun r u H locs hR hw => ?_)
  obtain ⟨hq, f', wa', rfl⟩ := hR
  obtain rfl := hq.symm
  exact e_i hx hb hr hlocks hw dX1_swap_7 ⟨rfl, f', wa', rfl⟩

set_option maxHeartbeats 4000000 in
set_option maxRecDepth 100000 in
theorem c_X1_recode (l : Launch) (G : GT) (f : Nat → Option Nat) (wa : Nat → Nat) (S M : Tb) (p1 p2 : Int32) : Met l yX1_recode wsX1_recode (rk 2) (va_Pc [.ref (gx G), .int p1, .int p2] (Wo G (f, wa, S, M))) (Qi G (fun r u => r = (oc_recode S p1 p2).1 ∧ ∃ (f' : Nat → Option Nat) (wa' : Nat → Nat), u = (f', wa', (oc_recode S p1 p2).2, M))) 0 0 (gA G) := by
  refine m_head (cc := cX1_recode) (maxL := 8) (ret := (some .int)) (by decide) rfl (Nat.le_of_ble_eq_true rfl) ?_
  intro p e s m below meth c hx hb hml hr hlocks hown hts hw ls hl
  have hown : s.vm.findClass RX1 = some m.cls := hown
  have hl : lv_has ls 8 [(0, .ref (gx G)), (1, .int p1), (2, .int p2)] := hl
  have hin0 : ∀ w ∈ wsX00, w ∈ wsX1_recode := by decide +kernel
  have lk49 := hts (.fieldLink RX1 49 "LockerWall$Locker" "isOpen" "Z") (by decide +kernel)
  have lk46 := hts (.fieldLink RX1 46 "LockerWall$Locker" "code" "I") (by decide +kernel)
  refine lv_iload_n hx hb dX1_recode_0 rfl (lv_at hl 1 rfl) ?_
  refine k_i hw (va_runS (As := [.int p1]) (rest := []) ⟨hx, hb, hml, hown, hts⟩ (c_X1_isHook l G f wa S M p1) (va_cwS 1 hts gX1_recode_X1_isHook rfl rfl rfl (by decide +kernel) ⟨Nat.le_of_ble_eq_true rfl, Nat.le_of_ble_eq_true rfl⟩) (hw.preS _) rfl rfl hl.1 rfl (lv_room (Nat.le_of_ble_eq_true rfl)) dX1_recode_1 ⟨Nat.le_of_ble_eq_true rfl, Nat.le_of_ble_eq_true rfl⟩) (fun r u H locs hR hw => ?_)
  obtain ⟨hq, rfl⟩ := hR
  obtain rfl := hq.symm
  cases hh_1 : isH p1
  · skip
    refine W.eq (g2 := F0 m 4 ls [.int 0]) rfl ?_
    refine lv_if_ne (tgt := 9) hx hb dX1_recode_4 (by decide) (fun c_4 => ?_) (fun c_4 => ?_)
    · skip
      exact absurd c_4 (by decide)
    · skip
      refine lv_iconst (v := (-1)) hx hb dX1_recode_7 (by decide) ?_
      exact e_i hx hb hr hlocks hw dX1_recode_8 (leafC (by simp only [oc_recode, oj_recode, hd, lg, lg2, ↓reduceIte, hh_1, Bool.false_eq_true, c_4]))
  · skip
    refine W.eq (g2 := F0 m 4 ls [.int 1]) rfl ?_
    obtain ⟨i, hi, rfl⟩ := isH_of hh_1
    refine lv_if_ne (tgt := 9) hx hb dX1_recode_4 (by decide) (fun c_4 => ?_) (fun c_4 => ?_)
    · skip
      refine lv_aload_n hx hb dX1_recode_9 rfl (lv_at hl 0 rfl) ?_
      refine lv_iload_n hx hb dX1_recode_10 rfl (lv_at hl 1 rfl) ?_
      rcases hf_i : f i with _ | a_i
      · skip
        have h0_i : S 0 i = 0 := (show S 0 i = oN (f i) from hw.col0 (show i < 25 by omega)).trans (by rw [hf_i]; rfl)
        refine k_o hw (va_runV (As := [.int (nI i)]) (rest := []) ⟨hx, hb, hml, hown, hts⟩ (c_X1_holdAt_n l G f wa S M (show i < 24 by omega) hf_i) (cwV 1 hts gX1_recode_X1_holdAt rfl rfl rfl (by decide +kernel) ⟨Nat.le_of_ble_eq_true rfl, Nat.le_of_ble_eq_true rfl⟩) (hw.preX _) rfl rfl hl.1 rfl (lv_room (Nat.le_of_ble_eq_true rfl)) dX1_recode_11 ⟨Nat.le_of_ble_eq_true rfl, Nat.le_of_ble_eq_true rfl⟩) (fun r u H locs hR hw => ?_)
        obtain ⟨hq, rfl⟩ := hR
        obtain rfl := hq.symm
        refine W.eq (g2 := F0 m 14 ls [.null]) rfl ?_
        refine lv_astore_nN (lv' := [(3, .null), (0, .ref (gx G)), (1, .int (nI i)), (2, .int p2)]) hx hb dX1_recode_14 rfl hl (by decide) rfl (fun ls hl => ?_)
        refine lv_aload_n hx hb dX1_recode_15 rfl (lv_at hl 1 rfl) ?_
        refine lv_iload_n hx hb dX1_recode_16 rfl (lv_at hl 2 rfl) ?_
        refine k_o hw (va_runV (As := [.int (nI i)]) (rest := []) ⟨hx, hb, hml, hown, hts⟩ (c_X1_holdAt_n l G f wa S M (show i < 24 by omega) hf_i) (cwV 1 hts gX1_recode_X1_holdAt rfl rfl rfl (by decide +kernel) ⟨Nat.le_of_ble_eq_true rfl, Nat.le_of_ble_eq_true rfl⟩) (hw.preX _) rfl rfl hl.1 rfl (lv_room (Nat.le_of_ble_eq_true rfl)) dX1_recode_17 ⟨Nat.le_of_ble_eq_true rfl, Nat.le_of_ble_eq_true rfl⟩) (fun r u H locs hR hw => ?_)
        obtain ⟨hq, rfl⟩ := hR
        obtain rfl := hq.symm
        refine W.eq (g2 := F0 m 20 ls [.null]) rfl ?_
        refine lv_astoreN (lv' := [(4, .null), (3, .null), (0, .ref (gx G)), (1, .int (nI i)), (2, .int p2)]) hx hb dX1_recode_20 hl (by decide) rfl (fun ls hl => ?_)
        refine lv_aload_n hx hb dX1_recode_22 rfl (lv_at hl 2 rfl) ?_
        refine lv_iload_n hx hb dX1_recode_23 rfl (lv_at hl 3 rfl) ?_
        refine k_o hw (va_runV (As := [.int (nI i)]) (rest := []) ⟨hx, hb, hml, hown, hts⟩ (c_X1_holdAt_n l G f wa S M (show i < 24 by omega) hf_i) (cwV 1 hts gX1_recode_X1_holdAt rfl rfl rfl (by decide +kernel) ⟨Nat.le_of_ble_eq_true rfl, Nat.le_of_ble_eq_true rfl⟩) (hw.preX _) rfl rfl hl.1 rfl (lv_room (Nat.le_of_ble_eq_true rfl)) dX1_recode_24 ⟨Nat.le_of_ble_eq_true rfl, Nat.le_of_ble_eq_true rfl⟩) (fun r u H locs hR hw => ?_)
        obtain ⟨hq, rfl⟩ := hR
        obtain rfl := hq.symm
        refine W.eq (g2 := F0 m 27 ls [.null]) rfl ?_
        refine lv_astoreN (lv' := [(5, .null), (4, .null), (3, .null), (0, .ref (gx G)), (1, .int (nI i)), (2, .int p2)]) hx hb dX1_recode_27 hl (by decide) rfl (fun ls hl => ?_)
        refine lv_aload_nN hx hb dX1_recode_29 rfl (lv_at hl 2 rfl) ?_
        refine lv_ifnullN (tgt := 43) hx hb dX1_recode_30 (by decide) ?_
        refine lv_bipush (v := (-2)) hx hb dX1_recode_43 (by decide) ?_
        exact e_i hx hb hr hlocks hw dX1_recode_45 (leafC (by simp only [oc_recode, oj_recode, hd, lg, lg2, ↓reduceIte, isH_nI hi, cl24 hi, c_4, h0_i]))
      · skip
        have h0_i : ¬ S 0 i = 0 := by rw [(show S 0 i = oN (f i) from hw.col0 (show i < 25 by omega)), hf_i]; exact oN_s _
        refine k_o hw (va_runV (As := [.int (nI i)]) (rest := []) ⟨hx, hb, hml, hown, hts⟩ (c_X1_holdAt_s l G f wa S M (show i < 24 by omega) hf_i) (cwV 1 hts gX1_recode_X1_holdAt rfl rfl rfl (by decide +kernel) ⟨Nat.le_of_ble_eq_true rfl, Nat.le_of_ble_eq_true rfl⟩) (hw.preX _) rfl rfl hl.1 rfl (lv_room (Nat.le_of_ble_eq_true rfl)) dX1_recode_11 ⟨Nat.le_of_ble_eq_true rfl, Nat.le_of_ble_eq_true rfl⟩) (fun r u H locs hR hw => ?_)
        obtain ⟨hq, rfl⟩ := hR
        obtain rfl := hq.symm
        refine W.eq (g2 := F0 m 14 ls [.ref a_i]) rfl ?_
        refine lv_astore_n (lv' := [(3, .ref a_i), (0, .ref (gx G)), (1, .int (nI i)), (2, .int p2)]) hx hb dX1_recode_14 rfl hl (by decide) rfl (fun ls hl => ?_)
        refine lv_aload_n hx hb dX1_recode_15 rfl (lv_at hl 1 rfl) ?_
        refine lv_iload_n hx hb dX1_recode_16 rfl (lv_at hl 2 rfl) ?_
        refine k_o hw (va_runV (As := [.int (nI i)]) (rest := []) ⟨hx, hb, hml, hown, hts⟩ (c_X1_holdAt_s l G f wa (sU S 6 i ((S 6 i) + 1)) M (show i < 24 by omega) hf_i) (cwV 1 hts gX1_recode_X1_holdAt rfl rfl rfl (by decide +kernel) ⟨Nat.le_of_ble_eq_true rfl, Nat.le_of_ble_eq_true rfl⟩) (hw.preX _) rfl rfl hl.1 rfl (lv_room (Nat.le_of_ble_eq_true rfl)) dX1_recode_17 ⟨Nat.le_of_ble_eq_true rfl, Nat.le_of_ble_eq_true rfl⟩) (fun r u H locs hR hw => ?_)
        obtain ⟨hq, rfl⟩ := hR
        obtain rfl := hq.symm
        refine W.eq (g2 := F0 m 20 ls [.ref a_i]) rfl ?_
        refine lv_astore (lv' := [(4, .ref a_i), (3, .ref a_i), (0, .ref (gx G)), (1, .int (nI i)), (2, .int p2)]) hx hb dX1_recode_20 hl (by decide) rfl (fun ls hl => ?_)
        refine lv_aload_n hx hb dX1_recode_22 rfl (lv_at hl 2 rfl) ?_
        refine lv_iload_n hx hb dX1_recode_23 rfl (lv_at hl 3 rfl) ?_
        refine k_o hw (va_runV (As := [.int (nI i)]) (rest := []) ⟨hx, hb, hml, hown, hts⟩ (c_X1_holdAt_s l G f wa (sU (sU S 6 i ((S 6 i) + 1)) 6 i (((sU S 6 i ((S 6 i) + 1)) 6 i) + 1)) M (show i < 24 by omega) hf_i) (cwV 1 hts gX1_recode_X1_holdAt rfl rfl rfl (by decide +kernel) ⟨Nat.le_of_ble_eq_true rfl, Nat.le_of_ble_eq_true rfl⟩) (hw.preX _) rfl rfl hl.1 rfl (lv_room (Nat.le_of_ble_eq_true rfl)) dX1_recode_24 ⟨Nat.le_of_ble_eq_true rfl, Nat.le_of_ble_eq_true rfl⟩) (fun r u H locs hR hw => ?_)
        obtain ⟨hq, rfl⟩ := hR
        obtain rfl := hq.symm
        refine W.eq (g2 := F0 m 27 ls [.ref a_i]) rfl ?_
        refine lv_astore (lv' := [(5, .ref a_i), (4, .ref a_i), (3, .ref a_i), (0, .ref (gx G)), (1, .int (nI i)), (2, .int p2)]) hx hb dX1_recode_27 hl (by decide) rfl (fun ls hl => ?_)
        refine lv_aload_n hx hb dX1_recode_29 rfl (lv_at hl 2 rfl) ?_
        refine lv_ifnull hx hb dX1_recode_30 ?_
        refine lv_aload hx hb dX1_recode_33 (lv_at hl 1 rfl) ?_
        refine lv_ifnull hx hb dX1_recode_35 ?_
        refine lv_aload hx hb dX1_recode_38 (lv_at hl 0 rfl) ?_
        refine lv_ifnonnull (tgt := 46) hx hb dX1_recode_40 (by decide) ?_
        refine lv_iconst (v := 4) hx hb dX1_recode_46 (by decide) ?_
        refine lv_istore (lv' := [(6, .int 4), (5, .ref a_i), (4, .ref a_i), (3, .ref a_i), (0, .ref (gx G)), (1, .int (nI i)), (2, .int p2)]) hx hb dX1_recode_47 hl (by decide) rfl (fun ls hl => ?_)
        refine lv_bipush (v := (-7)) hx hb dX1_recode_49 (by decide) ?_
        refine lv_istore (lv' := [(7, .int (-7)), (6, .int 4), (5, .ref a_i), (4, .ref a_i), (3, .ref a_i), (0, .ref (gx G)), (1, .int (nI i)), (2, .int p2)]) hx hb dX1_recode_51 hl (by decide) rfl (fun ls hl => ?_)
        refine lv_aload hx hb dX1_recode_53 (lv_at hl 2 rfl) ?_
        refine r_get0 (v := .int (S 3 i)) hx hb hts hin0 hown hw (show i < 25 by omega) hf_i 2 (by decide) lk49 rfl dX1_recode_55 ?_
        refine lv_if_eq (tgt := 73) hx hb dX1_recode_58 (by decide) (fun c_58 => ?_) (fun c_58 => ?_)
        · skip
          refine lv_aload hx hb dX1_recode_73 (lv_at hl 2 rfl) ?_
          refine lv_iload hx hb dX1_recode_75 (lv_at hl 1 rfl) ?_
          refine lv_iload hx hb dX1_recode_77 (lv_at hl 0 rfl) ?_
          refine k_i hw (va_runV (As := [.int 4, .int (-7)]) (rest := []) ⟨hx, hb, hml, hown, hts⟩ (c_X0_letGo l G f wa (sU (sU (sU S 6 i ((S 6 i) + 1)) 6 i (((sU S 6 i ((S 6 i) + 1)) 6 i) + 1)) 6 i (((sU (sU S 6 i ((S 6 i) + 1)) 6 i (((sU S 6 i ((S 6 i) + 1)) 6 i) + 1)) 6 i) + 1)) M (show i < 25 by omega) hf_i 4 (-7)) (cwV 2 hts gX1_recode_X0_letGo rfl rfl rfl (by decide +kernel) ⟨Nat.le_of_ble_eq_true rfl, Nat.le_of_ble_eq_true rfl⟩) (hw.preL (show i < 25 by omega) hf_i _) rfl rfl hl.1 rfl (lv_room (Nat.le_of_ble_eq_true rfl)) dX1_recode_79 ⟨Nat.le_of_ble_eq_true rfl, Nat.le_of_ble_eq_true rfl⟩) (fun r u H locs hR hw => ?_)
          obtain ⟨hq, rfl⟩ := hR
          obtain rfl := hq.symm
          refine lv_pop hx hb dX1_recode_82 rfl ?_
          refine lv_aload hx hb dX1_recode_83 (lv_at hl 3 rfl) ?_
          refine lv_iload hx hb dX1_recode_85 (lv_at hl 1 rfl) ?_
          refine lv_iload hx hb dX1_recode_87 (lv_at hl 0 rfl) ?_
          refine k_i hw (va_runV (As := [.int 4, .int (-7)]) (rest := []) ⟨hx, hb, hml, hown, hts⟩ (c_X0_letGo l G f wa (sU (sU (sU (sU S 6 i ((S 6 i) + 1)) 6 i (((sU S 6 i ((S 6 i) + 1)) 6 i) + 1)) 6 i (((sU (sU S 6 i ((S 6 i) + 1)) 6 i (((sU S 6 i ((S 6 i) + 1)) 6 i) + 1)) 6 i) + 1)) 7 i 4) M (show i < 25 by omega) hf_i 4 (-7)) (cwV 2 hts gX1_recode_X0_letGo rfl rfl rfl (by decide +kernel) ⟨Nat.le_of_ble_eq_true rfl, Nat.le_of_ble_eq_true rfl⟩) (hw.preL (show i < 25 by omega) hf_i _) rfl rfl hl.1 rfl (lv_room (Nat.le_of_ble_eq_true rfl)) dX1_recode_89 ⟨Nat.le_of_ble_eq_true rfl, Nat.le_of_ble_eq_true rfl⟩) (fun r u H locs hR hw => ?_)
          obtain ⟨hq, rfl⟩ := hR
          obtain rfl := hq.symm
          refine lv_pop hx hb dX1_recode_92 rfl ?_
          refine lv_aload_n hx hb dX1_recode_93 rfl (lv_at hl 4 rfl) ?_
          refine lv_iload hx hb dX1_recode_94 (lv_at hl 1 rfl) ?_
          refine lv_iload hx hb dX1_recode_96 (lv_at hl 0 rfl) ?_
          refine k_i hw (va_runV (As := [.int 4, .int (-7)]) (rest := []) ⟨hx, hb, hml, hown, hts⟩ (c_X0_letGo l G f wa (sU (sU (sU (sU (sU S 6 i ((S 6 i) + 1)) 6 i (((sU S 6 i ((S 6 i) + 1)) 6 i) + 1)) 6 i (((sU (sU S 6 i ((S 6 i) + 1)) 6 i (((sU S 6 i ((S 6 i) + 1)) 6 i) + 1)) 6 i) + 1)) 7 i 4) 7 i 4) M (show i < 25 by omega) hf_i 4 (-7)) (cwV 2 hts gX1_recode_X0_letGo rfl rfl rfl (by decide +kernel) ⟨Nat.le_of_ble_eq_true rfl, Nat.le_of_ble_eq_true rfl⟩) (hw.preL (show i < 25 by omega) hf_i _) rfl rfl hl.1 rfl (lv_room (Nat.le_of_ble_eq_true rfl)) dX1_recode_98 ⟨Nat.le_of_ble_eq_true rfl, Nat.le_of_ble_eq_true rfl⟩) (fun r u H locs hR hw => ?_)
          obtain ⟨hq, rfl⟩ := hR
          obtain rfl := hq.symm
          exact e_i hx hb hr hlocks hw dX1_recode_101 (leafC (by simp only [oc_recode, oj_recode, hd, lg, lg2, ↓reduceIte, isH_nI hi, cl24 hi, c_4, h0_i, c_58]))
        · skip
          refine lv_aload hx hb dX1_recode_61 (lv_at hl 2 rfl) ?_
          refine lv_iload_n hx hb dX1_recode_63 rfl (lv_at hl 7 rfl) ?_
          refine r_put0 hx hb hts hin0 hown hw (show i < 25 by omega) hf_i 1 2 (by decide) lk46 rfl rfl dX1_recode_64 (fun H locs hw => ?_)
          have hw : Wi G (f, wa, sU (sU (sU (sU S 6 i ((S 6 i) + 1)) 6 i (((sU S 6 i ((S 6 i) + 1)) 6 i) + 1)) 6 i (((sU (sU S 6 i ((S 6 i) + 1)) 6 i (((sU S 6 i ((S 6 i) + 1)) 6 i) + 1)) 6 i) + 1)) 2 i p2, M) s H locs := hw
          refine lv_iconst (v := 2) hx hb dX1_recode_67 (by decide) ?_
          refine lv_istore (lv' := [(6, .int 2), (7, .int (-7)), (5, .ref a_i), (4, .ref a_i), (3, .ref a_i), (0, .ref (gx G)), (1, .int (nI i)), (2, .int p2)]) hx hb dX1_recode_68 hl (by decide) rfl (fun ls hl => ?_)
          refine lv_iconst (v := 1) hx hb dX1_recode_70 (by decide) ?_
          refine lv_istore (lv' := [(7, .int 1), (6, .int 2), (5, .ref a_i), (4, .ref a_i), (3, .ref a_i), (0, .ref (gx G)), (1, .int (nI i)), (2, .int p2)]) hx hb dX1_recode_71 hl (by decide) rfl (fun ls hl => ?_)
          refine lv_aload hx hb dX1_recode_73 (lv_at hl 2 rfl) ?_
          refine lv_iload hx hb dX1_recode_75 (lv_at hl 1 rfl) ?_
          refine lv_iload hx hb dX1_recode_77 (lv_at hl 0 rfl) ?_
          refine k_i hw (va_runV (As := [.int 2, .int 1]) (rest := []) ⟨hx, hb, hml, hown, hts⟩ (c_X0_letGo l G f wa (sU (sU (sU (sU S 6 i ((S 6 i) + 1)) 6 i (((sU S 6 i ((S 6 i) + 1)) 6 i) + 1)) 6 i (((sU (sU S 6 i ((S 6 i) + 1)) 6 i (((sU S 6 i ((S 6 i) + 1)) 6 i) + 1)) 6 i) + 1)) 2 i p2) M (show i < 25 by omega) hf_i 2 1) (cwV 2 hts gX1_recode_X0_letGo rfl rfl rfl (by decide +kernel) ⟨Nat.le_of_ble_eq_true rfl, Nat.le_of_ble_eq_true rfl⟩) (hw.preL (show i < 25 by omega) hf_i _) rfl rfl hl.1 rfl (lv_room (Nat.le_of_ble_eq_true rfl)) dX1_recode_79 ⟨Nat.le_of_ble_eq_true rfl, Nat.le_of_ble_eq_true rfl⟩) (fun r u H locs hR hw => ?_)
          obtain ⟨hq, rfl⟩ := hR
          obtain rfl := hq.symm
          refine lv_pop hx hb dX1_recode_82 rfl ?_
          refine lv_aload hx hb dX1_recode_83 (lv_at hl 3 rfl) ?_
          refine lv_iload hx hb dX1_recode_85 (lv_at hl 1 rfl) ?_
          refine lv_iload hx hb dX1_recode_87 (lv_at hl 0 rfl) ?_
          refine k_i hw (va_runV (As := [.int 2, .int 1]) (rest := []) ⟨hx, hb, hml, hown, hts⟩ (c_X0_letGo l G f wa (sU (sU (sU (sU (sU S 6 i ((S 6 i) + 1)) 6 i (((sU S 6 i ((S 6 i) + 1)) 6 i) + 1)) 6 i (((sU (sU S 6 i ((S 6 i) + 1)) 6 i (((sU S 6 i ((S 6 i) + 1)) 6 i) + 1)) 6 i) + 1)) 2 i p2) 7 i 2) M (show i < 25 by omega) hf_i 2 1) (cwV 2 hts gX1_recode_X0_letGo rfl rfl rfl (by decide +kernel) ⟨Nat.le_of_ble_eq_true rfl, Nat.le_of_ble_eq_true rfl⟩) (hw.preL (show i < 25 by omega) hf_i _) rfl rfl hl.1 rfl (lv_room (Nat.le_of_ble_eq_true rfl)) dX1_recode_89 ⟨Nat.le_of_ble_eq_true rfl, Nat.le_of_ble_eq_true rfl⟩) (fun r u H locs hR hw => ?_)
          obtain ⟨hq, rfl⟩ := hR
          obtain rfl := hq.symm
          refine lv_pop hx hb dX1_recode_92 rfl ?_
          refine lv_aload_n hx hb dX1_recode_93 rfl (lv_at hl 4 rfl) ?_
          refine lv_iload hx hb dX1_recode_94 (lv_at hl 1 rfl) ?_
          refine lv_iload hx hb dX1_recode_96 (lv_at hl 0 rfl) ?_
          refine k_i hw (va_runV (As := [.int 2, .int 1]) (rest := []) ⟨hx, hb, hml, hown, hts⟩ (c_X0_letGo l G f wa (sU (sU (sU (sU (sU (sU S 6 i ((S 6 i) + 1)) 6 i (((sU S 6 i ((S 6 i) + 1)) 6 i) + 1)) 6 i (((sU (sU S 6 i ((S 6 i) + 1)) 6 i (((sU S 6 i ((S 6 i) + 1)) 6 i) + 1)) 6 i) + 1)) 2 i p2) 7 i 2) 7 i 2) M (show i < 25 by omega) hf_i 2 1) (cwV 2 hts gX1_recode_X0_letGo rfl rfl rfl (by decide +kernel) ⟨Nat.le_of_ble_eq_true rfl, Nat.le_of_ble_eq_true rfl⟩) (hw.preL (show i < 25 by omega) hf_i _) rfl rfl hl.1 rfl (lv_room (Nat.le_of_ble_eq_true rfl)) dX1_recode_98 ⟨Nat.le_of_ble_eq_true rfl, Nat.le_of_ble_eq_true rfl⟩) (fun r u H locs hR hw => ?_)
          obtain ⟨hq, rfl⟩ := hR
          obtain rfl := hq.symm
          exact e_i hx hb hr hlocks hw dX1_recode_101 (leafC (by simp only [oc_recode, oj_recode, hd, lg, lg2, ↓reduceIte, isH_nI hi, cl24 hi, c_4, h0_i, c_58]))
    · skip
      exact absurd c_4 (by decide)

set_option maxHeartbeats 4000000 in
set_option maxRecDepth 100000 in
theorem c_X1_latch (l : Launch) (G : GT) (f : Nat → Option Nat) (wa : Nat → Nat) (S M : Tb)  : Met l yX1_latch wsX1_latch (rk 0) (va_Pc [.ref (gx G)] (Wo G (f, wa, S, M))) (Qi G (fun r u => r = ((S 9 0, S)).1 ∧ ∃ (f' : Nat → Option Nat) (wa' : Nat → Nat), u = (f', wa', ((S 9 0, S)).2, M))) 0 0 (gA G) := by
  refine m_head (cc := cX1_latch) (maxL := 1) (ret := (some .int)) (by decide) rfl (Nat.le_of_ble_eq_true rfl) ?_
  intro p e s m below meth c hx hb hml hr hlocks hown hts hw ls hl
  have hown : s.vm.findClass RX1 = some m.cls := hown
  have hl : lv_has ls 1 [(0, .ref (gx G))] := hl
  have hin1 : ∀ w ∈ wsX10, w ∈ wsX1_latch := by decide +kernel
  have lk15 := hts (.fieldLink RX1 15 "LockerWall" "latchHolds" "I") (by decide +kernel)
  refine lv_aload_n hx hb dX1_latch_0 rfl (lv_at hl 0 rfl) ?_
  refine r_getT hx hb hts hin1 hown hw lk15 dX1_latch_1 ?_
  exact e_i hx hb hr hlocks hw dX1_latch_4 ⟨rfl, f, wa, rfl⟩

set_option maxHeartbeats 4000000 in
set_option maxRecDepth 100000 in
theorem c_X0_fact (l : Launch) (G : GT) (f : Nat → Option Nat) (wa : Nat → Nat) (S M : Tb) {i a : Nat} (hi : i < 25) (hf : f i = some a) {n : Nat} (hn : S 5 i = nI n) (h10 : n ≤ 10) {q : Nat} (hq9 : q < 9) : Met l yX0_fact wsX0_fact (rk 1) (va_Pc [.ref a, .int (nI q)] (Wo G (f, wa, S, M))) (Qi G (fun r u => r = factS S i q ∧ u = (f, wa, S, M))) 0 0 (gA G) := by
  refine m_head (cc := cX0_fact) (maxL := 2) (ret := (some .int)) (by decide) rfl (Nat.le_of_ble_eq_true rfl) ?_
  intro p e s m below meth c hx hb hml hr hlocks hown hts hw ls hl
  have hown : s.vm.findClass RX0 = some m.cls := hown
  have hl : lv_has ls 2 [(0, .ref a), (1, .int (nI q))] := hl
  have hin0 : ∀ w ∈ wsX00, w ∈ wsX0_fact := by decide +kernel
  have lk9 := hts (.fieldLink RX0 9 "LockerWall$Locker" "room" "I") (by decide +kernel)
  have lk15 := hts (.fieldLink RX0 15 "LockerWall$Locker" "code" "I") (by decide +kernel)
  have lk32 := hts (.fieldLink RX0 32 "LockerWall$Locker" "isOpen" "Z") (by decide +kernel)
  have lk36 := hts (.fieldLink RX0 36 "LockerWall$Locker" "wrongTries" "I") (by decide +kernel)
  have lk25 := hts (.fieldLink RX0 25 "LockerWall$Locker" "count" "I") (by decide +kernel)
  have lk39 := hts (.fieldLink RX0 39 "LockerWall$Locker" "holds" "I") (by decide +kernel)
  have lk22 := hts (.fieldLink RX0 22 "LockerWall$Locker" "left" "I") (by decide +kernel)
  refine lv_iload_n hx hb dX0_fact_0 rfl (lv_at hl 1 rfl) ?_
  rcases (show q = 0 ∨ q = 1 ∨ q = 2 ∨ q = 3 ∨ q = 4 ∨ q = 5 ∨ q = 6 ∨ q = 7 ∨ q = 8 by omega) with rfl | rfl | rfl | rfl | rfl | rfl | rfl | rfl | rfl
  · skip
    refine lv_tableIn (tgt := 52) (off := 51) hx hb dX0_fact_1 (by decide) (by decide) rfl (by decide) ?_
    refine lv_iconst (v := 1) hx hb dX0_fact_52 (by decide) ?_
    exact e_i hx hb hr hlocks hw dX0_fact_53 ⟨by simp [factS], rfl⟩
  · skip
    refine lv_tableIn (tgt := 54) (off := 53) hx hb dX0_fact_1 (by decide) (by decide) rfl (by decide) ?_
    refine lv_aload_n hx hb dX0_fact_54 rfl (lv_at hl 0 rfl) ?_
    refine r_get0 (v := .int (S 1 i)) hx hb hts hin0 hown hw hi hf 0 (by decide) lk9 rfl dX0_fact_55 ?_
    exact e_i hx hb hr hlocks hw dX0_fact_58 ⟨by simp [factS], rfl⟩
  · skip
    refine lv_tableIn (tgt := 59) (off := 58) hx hb dX0_fact_1 (by decide) (by decide) rfl (by decide) ?_
    refine lv_aload_n hx hb dX0_fact_59 rfl (lv_at hl 0 rfl) ?_
    refine r_get0 (v := .int (S 2 i)) hx hb hts hin0 hown hw hi hf 1 (by decide) lk15 rfl dX0_fact_60 ?_
    exact e_i hx hb hr hlocks hw dX0_fact_63 ⟨by simp [factS], rfl⟩
  · skip
    refine lv_tableIn (tgt := 64) (off := 63) hx hb dX0_fact_1 (by decide) (by decide) rfl (by decide) ?_
    refine lv_aload_n hx hb dX0_fact_64 rfl (lv_at hl 0 rfl) ?_
    refine r_get0 (v := .int (S 3 i)) hx hb hts hin0 hown hw hi hf 2 (by decide) lk32 rfl dX0_fact_65 ?_
    refine lv_if_eq (tgt := 75) hx hb dX0_fact_68 (by decide) (fun c_68 => ?_) (fun c_68 => ?_)
    · skip
      refine lv_iconst (v := 0) hx hb dX0_fact_75 (by decide) ?_
      exact e_i hx hb hr hlocks hw dX0_fact_76 ⟨by simp [factS, c_68], rfl⟩
    · skip
      refine lv_iconst (v := 1) hx hb dX0_fact_71 (by decide) ?_
      refine lv_goto (tgt := 76) hx hb dX0_fact_72 (by decide) ?_
      exact e_i hx hb hr hlocks hw dX0_fact_76 ⟨by simp [factS, c_68], rfl⟩
  · skip
    refine lv_tableIn (tgt := 77) (off := 76) hx hb dX0_fact_1 (by decide) (by decide) rfl (by decide) ?_
    refine lv_aload_n hx hb dX0_fact_77 rfl (lv_at hl 0 rfl) ?_
    refine r_get0 (v := .int (S 4 i)) hx hb hts hin0 hown hw hi hf 3 (by decide) lk36 rfl dX0_fact_78 ?_
    exact e_i hx hb hr hlocks hw dX0_fact_81 ⟨by simp [factS], rfl⟩
  · skip
    refine lv_tableIn (tgt := 82) (off := 81) hx hb dX0_fact_1 (by decide) (by decide) rfl (by decide) ?_
    refine lv_aload_n hx hb dX0_fact_82 rfl (lv_at hl 0 rfl) ?_
    refine r_get0 (v := .int (S 5 i)) hx hb hts hin0 hown hw hi hf 5 (by decide) lk25 rfl dX0_fact_83 ?_
    exact e_i hx hb hr hlocks hw dX0_fact_86 ⟨by simp [factS], rfl⟩
  · skip
    refine lv_tableIn (tgt := 87) (off := 86) hx hb dX0_fact_1 (by decide) (by decide) rfl (by decide) ?_
    refine lv_aload_n hx hb dX0_fact_87 rfl (lv_at hl 0 rfl) ?_
    refine k_i hw (va_runV (As := []) (rest := []) ⟨hx, hb, hml, hown, hts⟩ (c_X0_weight l G f wa S M hi hf hn h10) (cwV 0 hts gX0_fact_X0_weight rfl rfl rfl (by decide +kernel) ⟨Nat.le_of_ble_eq_true rfl, Nat.le_of_ble_eq_true rfl⟩) (hw.preL hi hf _) rfl rfl hl.1 rfl (lv_room (Nat.le_of_ble_eq_true rfl)) dX0_fact_88 ⟨Nat.le_of_ble_eq_true rfl, Nat.le_of_ble_eq_true rfl⟩) (fun r u H locs hR hw => ?_)
    obtain ⟨hq, rfl⟩ := hR
    obtain rfl := hq.symm
    exact e_i hx hb hr hlocks hw dX0_fact_91 ⟨by simp [factS], rfl⟩
  · skip
    refine lv_tableIn (tgt := 92) (off := 91) hx hb dX0_fact_1 (by decide) (by decide) rfl (by decide) ?_
    refine lv_aload_n hx hb dX0_fact_92 rfl (lv_at hl 0 rfl) ?_
    refine r_get0 (v := .int (S 6 i)) hx hb hts hin0 hown hw hi hf 6 (by decide) lk39 rfl dX0_fact_93 ?_
    exact e_i hx hb hr hlocks hw dX0_fact_96 ⟨by simp [factS], rfl⟩
  · skip
    refine lv_tableIn (tgt := 97) (off := 96) hx hb dX0_fact_1 (by decide) (by decide) rfl (by decide) ?_
    refine lv_aload_n hx hb dX0_fact_97 rfl (lv_at hl 0 rfl) ?_
    refine r_get0 (v := .int (S 7 i)) hx hb hts hin0 hown hw hi hf 7 (by decide) lk22 rfl dX0_fact_98 ?_
    exact e_i hx hb hr hlocks hw dX0_fact_101 ⟨by simp [factS], rfl⟩

set_option maxHeartbeats 4000000 in
set_option maxRecDepth 100000 in
theorem c_X1_told (l : Launch) (G : GT) (f : Nat → Option Nat) (wa : Nat → Nat) (S M : Tb) (hI : Inv S) (p1 p2 : Int32) : Met l yX1_told wsX1_told (rk 2) (va_Pc [.ref (gx G), .int p1, .int p2] (Wo G (f, wa, S, M))) (Qi G (fun r u => r = (oc_told S p1 p2).1 ∧ ∃ (f' : Nat → Option Nat) (wa' : Nat → Nat), u = (f', wa', (oc_told S p1 p2).2, M))) 0 0 (gA G) := by
  refine m_head (cc := cX1_told) (maxL := 4) (ret := (some .int)) (by decide) rfl (Nat.le_of_ble_eq_true rfl) ?_
  intro p e s m below meth c hx hb hml hr hlocks hown hts hw ls hl
  have hown : s.vm.findClass RX1 = some m.cls := hown
  have hl : lv_has ls 4 [(0, .ref (gx G)), (1, .int p1), (2, .int p2)] := hl
  have hin1 : ∀ w ∈ wsX10, w ∈ wsX1_told := by decide +kernel
  have lk11 := hts (.fieldLink RX1 11 "LockerWall" "hooks" "[LLockerWall$Locker;") (by decide +kernel)
  refine lv_iload_n hx hb dX1_told_0 rfl (lv_at hl 1 rfl) ?_
  refine k_i hw (va_runS (As := [.int p1]) (rest := []) ⟨hx, hb, hml, hown, hts⟩ (c_X1_isHook l G f wa S M p1) (va_cwS 1 hts gX1_told_X1_isHook rfl rfl rfl (by decide +kernel) ⟨Nat.le_of_ble_eq_true rfl, Nat.le_of_ble_eq_true rfl⟩) (hw.preS _) rfl rfl hl.1 rfl (lv_room (Nat.le_of_ble_eq_true rfl)) dX1_told_1 ⟨Nat.le_of_ble_eq_true rfl, Nat.le_of_ble_eq_true rfl⟩) (fun r u H locs hR hw => ?_)
  obtain ⟨hq, rfl⟩ := hR
  obtain rfl := hq.symm
  cases hh_1 : isH p1
  · skip
    refine W.eq (g2 := F0 m 4 ls [.int 0]) rfl ?_
    refine lv_if_eq (tgt := 17) hx hb dX1_told_4 (by decide) (fun c_4 => ?_) (fun c_4 => ?_)
    · skip
      refine lv_iconst (v := (-1)) hx hb dX1_told_17 (by decide) ?_
      exact e_i hx hb hr hlocks hw dX1_told_18 (leafC (by simp only [oc_told, hd, lg, lg2, ↓reduceIte, hh_1, Bool.false_eq_true, c_4]))
    · skip
      exact absurd c_4 (by decide)
  · skip
    refine W.eq (g2 := F0 m 4 ls [.int 1]) rfl ?_
    obtain ⟨i, hi, rfl⟩ := isH_of hh_1
    obtain ⟨n_i, h10_i, hn_i⟩ := hI i hi
    refine lv_if_eq (tgt := 17) hx hb dX1_told_4 (by decide) (fun c_4 => ?_) (fun c_4 => ?_)
    · skip
      exact absurd c_4 (by decide)
    · skip
      refine lv_iload_n hx hb dX1_told_7 rfl (lv_at hl 2 rfl) ?_
      refine lv_if_lt (tgt := 17) hx hb dX1_told_8 (by decide) (fun c_8 => ?_) (fun c_8 => ?_)
      · skip
        refine lv_iconst (v := (-1)) hx hb dX1_told_17 (by decide) ?_
        exact e_i hx hb hr hlocks hw dX1_told_18 (leafC (by simp only [oc_told, hd, lg, lg2, ↓reduceIte, isH_nI hi, cl24 hi, c_4, c_8]))
      · skip
        refine lv_iload_n hx hb dX1_told_11 rfl (lv_at hl 2 rfl) ?_
        refine lv_bipush (v := 8) hx hb dX1_told_12 (by decide) ?_
        refine lv_icmp_le (tgt := 19) hx hb dX1_told_14 (by decide) (fun c_14 => ?_) (fun c_14 => ?_)
        · skip
          refine lv_aload_n hx hb dX1_told_19 rfl (lv_at hl 0 rfl) ?_
          refine r_getH hx hb hts hin1 hown hw lk11 dX1_told_20 ?_
          refine lv_iload_n hx hb dX1_told_23 rfl (lv_at hl 1 rfl) ?_
          rcases hf_i : f i with _ | a_i
          · skip
            have h0_i : S 0 i = 0 := (show S 0 i = oN (f i) from hw.col0 (show i < 25 by omega)).trans (by rw [hf_i]; rfl)
            refine r_hld (v := .null) hx hb hw (i) (rfl) (show i < 24 by omega) (by rw [hf_i]; rfl) dX1_told_24 ?_
            refine lv_astore_nN (lv' := [(3, .null), (0, .ref (gx G)), (1, .int (nI i)), (2, .int p2)]) hx hb dX1_told_25 rfl hl (by decide) rfl (fun ls hl => ?_)
            refine lv_aload_nN hx hb dX1_told_26 rfl (lv_at hl 0 rfl) ?_
            refine lv_ifnonnullN hx hb dX1_told_27 ?_
            refine lv_iload_n hx hb dX1_told_30 rfl (lv_at hl 3 rfl) ?_
            refine lv_if_ne (tgt := 38) hx hb dX1_told_31 (by decide) (fun c_31 => ?_) (fun c_31 => ?_)
            · skip
              refine lv_bipush (v := (-2)) hx hb dX1_told_38 (by decide) ?_
              exact e_i hx hb hr hlocks hw dX1_told_40 (leafC (by simp only [oc_told, ↓reduceIte, isH_nI hi, cl24 hi, c_4, c_8, c_14, h0_i]; first | rw [if_pos c_31] | rw [if_neg c_31]))
            · skip
              refine lv_iconst (v := 0) hx hb dX1_told_34 (by decide) ?_
              refine lv_goto (tgt := 40) hx hb dX1_told_35 (by decide) ?_
              exact e_i hx hb hr hlocks hw dX1_told_40 (leafC (by simp only [oc_told, ↓reduceIte, isH_nI hi, cl24 hi, c_4, c_8, c_14, h0_i]; first | rw [if_pos c_31] | rw [if_neg c_31]))
          · skip
            have h0_i : ¬ S 0 i = 0 := by rw [(show S 0 i = oN (f i) from hw.col0 (show i < 25 by omega)), hf_i]; exact oN_s _
            refine r_hld (v := .ref a_i) hx hb hw (i) (rfl) (show i < 24 by omega) (by rw [hf_i]; rfl) dX1_told_24 ?_
            refine lv_astore_n (lv' := [(3, .ref a_i), (0, .ref (gx G)), (1, .int (nI i)), (2, .int p2)]) hx hb dX1_told_25 rfl hl (by decide) rfl (fun ls hl => ?_)
            refine lv_aload_n hx hb dX1_told_26 rfl (lv_at hl 0 rfl) ?_
            refine lv_ifnonnull (tgt := 41) hx hb dX1_told_27 (by decide) ?_
            obtain ⟨q, hq8, rfl⟩ := nI_of2 (M := 8) (n := 8) rfl c_8 c_14
            have clq : (nI q).toNatClampNeg = q := nI_clamp (by omega)
            refine lv_aload_n hx hb dX1_told_41 rfl (lv_at hl 0 rfl) ?_
            refine lv_iload_n hx hb dX1_told_42 rfl (lv_at hl 3 rfl) ?_
            refine k_i hw (va_runV (As := [.int (nI q)]) (rest := []) ⟨hx, hb, hml, hown, hts⟩ (c_X0_fact l G f wa S M (show i < 25 by omega) hf_i hn_i h10_i (q := q) (by omega)) (cwV 1 hts gX1_told_X0_fact rfl rfl rfl (by decide +kernel) ⟨Nat.le_of_ble_eq_true rfl, Nat.le_of_ble_eq_true rfl⟩) (hw.preL (show i < 25 by omega) hf_i _) rfl rfl hl.1 rfl (lv_room (Nat.le_of_ble_eq_true rfl)) dX1_told_43 ⟨Nat.le_of_ble_eq_true rfl, Nat.le_of_ble_eq_true rfl⟩) (fun r u H locs hR hw => ?_)
            obtain ⟨hq, rfl⟩ := hR
            obtain rfl := hq.symm
            exact e_i hx hb hr hlocks hw dX1_told_46 (leafC (by simp only [oc_told, hd, lg, lg2, ↓reduceIte, isH_nI hi, cl24 hi, c_4, c_8, c_14, h0_i, clq]))
        · skip
          refine lv_iconst (v := (-1)) hx hb dX1_told_17 (by decide) ?_
          exact e_i hx hb hr hlocks hw dX1_told_18 (leafC (by simp only [oc_told, hd, lg, lg2, ↓reduceIte, isH_nI hi, cl24 hi, c_4, c_8, c_14]))

set_option maxHeartbeats 4000000 in
set_option maxRecDepth 100000 in
theorem c_X1_item (l : Launch) (G : GT) (f : Nat → Option Nat) (wa : Nat → Nat) (S M : Tb) (hI : Inv S) (p1 p2 : Int32) : Met l yX1_item wsX1_item (rk 2) (va_Pc [.ref (gx G), .int p1, .int p2] (Wo G (f, wa, S, M))) (Qi G (fun r u => r = (oc_item S p1 p2).1 ∧ ∃ (f' : Nat → Option Nat) (wa' : Nat → Nat), u = (f', wa', (oc_item S p1 p2).2, M))) 0 0 (gA G) := by
  refine m_head (cc := cX1_item) (maxL := 4) (ret := (some .int)) (by decide) rfl (Nat.le_of_ble_eq_true rfl) ?_
  intro p e s m below meth c hx hb hml hr hlocks hown hts hw ls hl
  have hown : s.vm.findClass RX1 = some m.cls := hown
  have hl : lv_has ls 4 [(0, .ref (gx G)), (1, .int p1), (2, .int p2)] := hl
  have hin1 : ∀ w ∈ wsX10, w ∈ wsX1_item := by decide +kernel
  have lk11 := hts (.fieldLink RX1 11 "LockerWall" "hooks" "[LLockerWall$Locker;") (by decide +kernel)
  refine lv_iload_n hx hb dX1_item_0 rfl (lv_at hl 1 rfl) ?_
  refine k_i hw (va_runS (As := [.int p1]) (rest := []) ⟨hx, hb, hml, hown, hts⟩ (c_X1_isHook l G f wa S M p1) (va_cwS 1 hts gX1_item_X1_isHook rfl rfl rfl (by decide +kernel) ⟨Nat.le_of_ble_eq_true rfl, Nat.le_of_ble_eq_true rfl⟩) (hw.preS _) rfl rfl hl.1 rfl (lv_room (Nat.le_of_ble_eq_true rfl)) dX1_item_1 ⟨Nat.le_of_ble_eq_true rfl, Nat.le_of_ble_eq_true rfl⟩) (fun r u H locs hR hw => ?_)
  obtain ⟨hq, rfl⟩ := hR
  obtain rfl := hq.symm
  cases hh_1 : isH p1
  · skip
    refine W.eq (g2 := F0 m 4 ls [.int 0]) rfl ?_
    refine lv_if_ne (tgt := 9) hx hb dX1_item_4 (by decide) (fun c_4 => ?_) (fun c_4 => ?_)
    · skip
      exact absurd c_4 (by decide)
    · skip
      refine lv_iconst (v := (-1)) hx hb dX1_item_7 (by decide) ?_
      exact e_i hx hb hr hlocks hw dX1_item_8 (leafC (by simp only [oc_item, hd, lg, lg2, ↓reduceIte, hh_1, Bool.false_eq_true, c_4]))
  · skip
    refine W.eq (g2 := F0 m 4 ls [.int 1]) rfl ?_
    obtain ⟨i, hi, rfl⟩ := isH_of hh_1
    obtain ⟨n_i, h10_i, hn_i⟩ := hI i hi
    refine lv_if_ne (tgt := 9) hx hb dX1_item_4 (by decide) (fun c_4 => ?_) (fun c_4 => ?_)
    · skip
      refine lv_aload_n hx hb dX1_item_9 rfl (lv_at hl 0 rfl) ?_
      refine r_getH hx hb hts hin1 hown hw lk11 dX1_item_10 ?_
      refine lv_iload_n hx hb dX1_item_13 rfl (lv_at hl 1 rfl) ?_
      rcases hf_i : f i with _ | a_i
      · skip
        have h0_i : S 0 i = 0 := (show S 0 i = oN (f i) from hw.col0 (show i < 25 by omega)).trans (by rw [hf_i]; rfl)
        refine r_hld (v := .null) hx hb hw (i) (rfl) (show i < 24 by omega) (by rw [hf_i]; rfl) dX1_item_14 ?_
        refine lv_astore_nN (lv' := [(3, .null), (0, .ref (gx G)), (1, .int (nI i)), (2, .int p2)]) hx hb dX1_item_15 rfl hl (by decide) rfl (fun ls hl => ?_)
        refine lv_aload_nN hx hb dX1_item_16 rfl (lv_at hl 0 rfl) ?_
        refine lv_ifnonnullN hx hb dX1_item_17 ?_
        refine lv_bipush (v := (-2)) hx hb dX1_item_20 (by decide) ?_
        exact e_i hx hb hr hlocks hw dX1_item_22 (leafC (by simp only [oc_item, hd, lg, lg2, ↓reduceIte, isH_nI hi, cl24 hi, c_4, h0_i]))
      · skip
        have h0_i : ¬ S 0 i = 0 := by rw [(show S 0 i = oN (f i) from hw.col0 (show i < 25 by omega)), hf_i]; exact oN_s _
        refine r_hld (v := .ref a_i) hx hb hw (i) (rfl) (show i < 24 by omega) (by rw [hf_i]; rfl) dX1_item_14 ?_
        refine lv_astore_n (lv' := [(3, .ref a_i), (0, .ref (gx G)), (1, .int (nI i)), (2, .int p2)]) hx hb dX1_item_15 rfl hl (by decide) rfl (fun ls hl => ?_)
        refine lv_aload_n hx hb dX1_item_16 rfl (lv_at hl 0 rfl) ?_
        refine lv_ifnonnull (tgt := 23) hx hb dX1_item_17 (by decide) ?_
        refine lv_aload_n hx hb dX1_item_23 rfl (lv_at hl 0 rfl) ?_
        refine lv_iload_n hx hb dX1_item_24 rfl (lv_at hl 3 rfl) ?_
        refine k_i hw (va_runV (As := [.int p2]) (rest := []) ⟨hx, hb, hml, hown, hts⟩ (c_X0_weightOf l G f wa S M (show i < 25 by omega) hf_i hn_i h10_i p2) (cwV 1 hts gX1_item_X0_weightOf rfl rfl rfl (by decide +kernel) ⟨Nat.le_of_ble_eq_true rfl, Nat.le_of_ble_eq_true rfl⟩) (hw.preL (show i < 25 by omega) hf_i _) rfl rfl hl.1 rfl (lv_room (Nat.le_of_ble_eq_true rfl)) dX1_item_25 ⟨Nat.le_of_ble_eq_true rfl, Nat.le_of_ble_eq_true rfl⟩) (fun r u H locs hR hw => ?_)
        obtain ⟨hq, rfl⟩ := hR
        obtain rfl := hq.symm
        exact e_i hx hb hr hlocks hw dX1_item_28 (leafC (by simp only [oc_item, hd, lg, lg2, ↓reduceIte, isH_nI hi, cl24 hi, c_4, h0_i]))
    · skip
      exact absurd c_4 (by decide)
end
section
theorem m1 (x : Int32) : x + Int32.ofInt (-1) = x - 1 := by rw [Int32.sub_eq_add_neg]; rfl
theorem n1_0 {x : Int32} (h : ¬ x < 1) : ¬ x < 0 := by
  rw [Int32.lt_iff_toInt_lt] at h ⊢
  have h1 : (1 : Int32).toInt = 1 := by decide
  have h0 : (0 : Int32).toInt = 0 := by decide
  omega
theorem leafL {f : Nat → Option Nat} {wa : Nat → Nat} {M S' : Tb} {r : Int64} {o : Int64 × Tb} (h : o = (r, S')) : r = o.1 ∧ ∃ (f' : Nat → Option Nat) (wa' : Nat → Nat), ((f, wa, S', M) : WT) = (f', wa', o.2, M) := by
  subst h
  exact ⟨rfl, _, _, rfl⟩
theorem of_hold_le (i : Nat) : ∀ (d k : Nat) (S : Tb), (of_hold i d k S).1 ≤ k + d
  | 0, k, S => Nat.le_refl _
  | d + 1, k, S => by
    unfold of_hold
    split
    · exact Nat.le_add_right _ _
    · exact Nat.le_trans (of_hold_le i d (k + 1) _) (by omega)
theorem Inv.hold {i : Nat} : ∀ {S : Tb} (_ : Inv S) (d k : Nat), Inv (of_hold i d k S).2
  | _, h, 0, _ => h
  | S, h, d + 1, k => by
    unfold of_hold
    split
    · exact h
    · exact Inv.hold (show Inv (hd S ((i + k) % 24)) from h) d (k + 1)
set_option maxHeartbeats 800000 in
set_option maxRecDepth 100000 in
theorem c_X1_find (l : Launch) (G : GT) (f : Nat → Option Nat) (wa : Nat → Nat) (S M : Tb) (hI : Inv S) (p1 : Int32) : Met l yX1_find wsX1_find (rk 2) (va_Pc [.ref (gx G), .int p1] (Wo G (f, wa, S, M))) (Qi G (fun r u => r = (oc_find S p1).1 ∧ ∃ (f' : Nat → Option Nat) (wa' : Nat → Nat), u = (f', wa', (oc_find S p1).2, M))) 0 0 (gA G) := by
  refine m_head (cc := cX1_find) (maxL := 4) (ret := (some .int)) (by decide) rfl (Nat.le_of_ble_eq_true rfl) ?_
  intro p e s m below meth c hx hb hml hr hlocks hown hts hw ls hl
  have hown : s.vm.findClass RX1 = some m.cls := hown
  have hl : lv_has ls 4 [(0, .ref (gx G)), (1, .int p1)] := hl
  have hin0 : ∀ w ∈ wsX00, w ∈ wsX1_find := by decide +kernel
  have lk49 := hts (.fieldLink RX1 49 "LockerWall$Locker" "isOpen" "Z") (by decide +kernel)
  refine lv_iload_n hx hb dX1_find_0 rfl (lv_at hl 1 rfl) ?_
  refine k_i hw (va_runS (As := [.int p1]) (rest := []) ⟨hx, hb, hml, hown, hts⟩ (c_X1_isWeight l G f wa S M p1) (va_cwS 1 hts gX1_find_X1_isWeight rfl rfl rfl (by decide +kernel) ⟨Nat.le_of_ble_eq_true rfl, Nat.le_of_ble_eq_true rfl⟩) (hw.preS _) rfl rfl hl.1 rfl (lv_room (Nat.le_of_ble_eq_true rfl)) dX1_find_1 ⟨Nat.le_of_ble_eq_true rfl, Nat.le_of_ble_eq_true rfl⟩) (fun r u H locs hR hw => ?_)
  obtain ⟨hq, rfl⟩ := hR
  obtain rfl := hq.symm
  cases hh_1 : isWt p1
  · skip
    refine W.eq (g2 := F0 m 4 ls [.int 0]) rfl ?_
    refine lv_if_ne (tgt := 9) hx hb dX1_find_4 (by decide) (fun c_4 => ?_) (fun c_4 => ?_)
    · skip
      exact absurd c_4 (by decide)
    · skip
      refine lv_iconst (v := (-1)) hx hb dX1_find_7 (by decide) ?_
      exact e_i hx hb hr hlocks hw dX1_find_8 (leafC (by simp only [oc_find, hd, lg, lg2, ↓reduceIte, hh_1, Bool.false_eq_true, c_4]))
  · skip
    refine W.eq (g2 := F0 m 4 ls [.int 1]) rfl ?_
    refine lv_if_ne (tgt := 9) hx hb dX1_find_4 (by decide) (fun c_4 => ?_) (fun c_4 => ?_)
    · skip
      refine lv_iconst (v := 0) hx hb dX1_find_9 (by decide) ?_
      refine lv_istore_n (lv' := [(2, .int 0), (0, .ref (gx G)), (1, .int p1)]) hx hb dX1_find_10 rfl hl (by decide) rfl (fun ls hl => ?_)
      have loop : ∀ (d h : Nat) (T : Tb) (H : Heap) (locs : List Loc) (ls : Array Slot), (h + d = 24 ∧ Inv T ∧ oc_find S p1 = of_find p1 d h T) → Wi G (f, wa, T, M) s H locs → lv_has ls 4 [(2, .int (nI h)), (0, .ref (gx G)), (1, .int p1)] → W p l e (headSpec wsX1_find (rk 2)).room s m [.ref (gx G), .int p1].toArray below meth c H locs 0 0 (MQ below (Qi G (fun r u => r = (oc_find S p1).1 ∧ ∃ (f' : Nat → Option Nat) (wa' : Nat → Nat), u = (f', wa', (oc_find S p1).2, M))) [.ref (gx G), .int p1].toArray s 0 0 (gA G)) (F0 m 11 ls []) := by
        intro d
        induction d with
        | zero =>
          intro h T H locs ls hk hw hl
          obtain ⟨hd24, hIT, hop⟩ := hk
          refine lv_iload_n hx hb dX1_find_11 rfl (lv_at hl 0 rfl) ?_
          refine lv_bipush (v := 24) hx hb dX1_find_12 (by decide) ?_
          refine lv_icmp_ge (tgt := 77) hx hb dX1_find_14 (by decide) (fun c_14 => ?_) (fun c_14 => ?_)
          · skip
            refine lv_bipush (v := (-8)) hx hb dX1_find_77 (by decide) ?_
            exact e_i hx hb hr hlocks hw dX1_find_79 (leafC (hop.trans (by simp only [of_find, hd, lg, lg2, ↓reduceIte, c_14])))
          · skip
            exact absurd (show (24 : Int32) ≤ nI h from nI_le (a := 24) (by omega) (by omega)) c_14
        | succ d ih =>
          intro h T H locs ls hk hw hl
          obtain ⟨hd24, hIT, hop⟩ := hk
          obtain ⟨n_h, h10_h, hn_h⟩ := hIT h (by omega)
          refine lv_iload_n hx hb dX1_find_11 rfl (lv_at hl 0 rfl) ?_
          refine lv_bipush (v := 24) hx hb dX1_find_12 (by decide) ?_
          refine lv_icmp_ge (tgt := 77) hx hb dX1_find_14 (by decide) (fun c_14 => ?_) (fun c_14 => ?_)
          · skip
            exact absurd c_14 (nI_ge (b := 24) (show h < 24 by omega) (by decide))
          · skip
            refine lv_aload_n hx hb dX1_find_17 rfl (lv_at hl 1 rfl) ?_
            refine lv_iload_n hx hb dX1_find_18 rfl (lv_at hl 0 rfl) ?_
            rcases hf_h : f h with _ | a_h
            · skip
              have h0_h : T 0 h = 0 := (show T 0 h = oN (f h) from hw.col0 (show h < 25 by omega)).trans (by rw [hf_h]; rfl)
              refine k_o hw (va_runV (As := [.int (nI h)]) (rest := []) ⟨hx, hb, hml, hown, hts⟩ (c_X1_holdAt_n l G f wa T M (show h < 24 by omega) hf_h) (cwV 1 hts gX1_find_X1_holdAt rfl rfl rfl (by decide +kernel) ⟨Nat.le_of_ble_eq_true rfl, Nat.le_of_ble_eq_true rfl⟩) (hw.preX _) rfl rfl hl.1 rfl (lv_room (Nat.le_of_ble_eq_true rfl)) dX1_find_19 ⟨Nat.le_of_ble_eq_true rfl, Nat.le_of_ble_eq_true rfl⟩) (fun r u H locs hR hw => ?_)
              obtain ⟨hq, rfl⟩ := hR
              obtain rfl := hq.symm
              refine W.eq (g2 := F0 m 22 ls [.null]) rfl ?_
              refine lv_astore_nN (lv' := [(3, .null), (2, .int (nI h)), (0, .ref (gx G)), (1, .int p1)]) hx hb dX1_find_22 rfl hl (by decide) rfl (fun ls hl => ?_)
              refine lv_aload_nN hx hb dX1_find_23 rfl (lv_at hl 0 rfl) ?_
              refine lv_ifnonnullN hx hb dX1_find_24 ?_
              refine lv_goto (tgt := 71) hx hb dX1_find_27 (by decide) ?_
              refine lv_iinc (v := nI (h + 1)) (lv' := [(2, .int (nI (h + 1))), (3, .null), (0, .ref (gx G)), (1, .int p1)]) hx hb dX1_find_71 hl (k := 1) rfl (nI_1 _) (by decide) rfl (fun ls hl => ?_)
              refine lv_goto (tgt := 11) hx hb dX1_find_74 (by decide) ?_
              exact ih (h + 1) T H locs ls ⟨by omega, (show Inv _ from hIT), hop.trans (by simp only [of_find, hd, lg, lg2, ↓reduceIte, c_14, h0_h])⟩ hw (lv_sub hl [0, 2, 3] rfl)
            · skip
              have h0_h : ¬ T 0 h = 0 := by rw [(show T 0 h = oN (f h) from hw.col0 (show h < 25 by omega)), hf_h]; exact oN_s _
              refine k_o hw (va_runV (As := [.int (nI h)]) (rest := []) ⟨hx, hb, hml, hown, hts⟩ (c_X1_holdAt_s l G f wa T M (show h < 24 by omega) hf_h) (cwV 1 hts gX1_find_X1_holdAt rfl rfl rfl (by decide +kernel) ⟨Nat.le_of_ble_eq_true rfl, Nat.le_of_ble_eq_true rfl⟩) (hw.preX _) rfl rfl hl.1 rfl (lv_room (Nat.le_of_ble_eq_true rfl)) dX1_find_19 ⟨Nat.le_of_ble_eq_true rfl, Nat.le_of_ble_eq_true rfl⟩) (fun r u H locs hR hw => ?_)
              obtain ⟨hq, rfl⟩ := hR
              obtain rfl := hq.symm
              refine W.eq (g2 := F0 m 22 ls [.ref a_h]) rfl ?_
              refine lv_astore_n (lv' := [(3, .ref a_h), (2, .int (nI h)), (0, .ref (gx G)), (1, .int p1)]) hx hb dX1_find_22 rfl hl (by decide) rfl (fun ls hl => ?_)
              refine lv_aload_n hx hb dX1_find_23 rfl (lv_at hl 0 rfl) ?_
              refine lv_ifnonnull (tgt := 30) hx hb dX1_find_24 (by decide) ?_
              refine lv_aload_n hx hb dX1_find_30 rfl (lv_at hl 0 rfl) ?_
              refine r_get0 (v := .int (T 3 h)) hx hb hts hin0 hown hw (show h < 25 by omega) hf_h 2 (by decide) lk49 rfl dX1_find_31 ?_
              refine lv_if_ne (tgt := 48) hx hb dX1_find_34 (by decide) (fun c_34 => ?_) (fun c_34 => ?_)
              · skip
                refine lv_aload_n hx hb dX1_find_48 rfl (lv_at hl 0 rfl) ?_
                refine lv_iload_n hx hb dX1_find_49 rfl (lv_at hl 3 rfl) ?_
                refine k_i hw (va_runV (As := [.int p1]) (rest := []) ⟨hx, hb, hml, hown, hts⟩ (c_X0_contains l G f wa (sU T 6 h ((T 6 h) + 1)) M (show h < 25 by omega) hf_h hn_h h10_h p1) (cwV 1 hts gX1_find_X0_contains rfl rfl rfl (by decide +kernel) ⟨Nat.le_of_ble_eq_true rfl, Nat.le_of_ble_eq_true rfl⟩) (hw.preL (show h < 25 by omega) hf_h _) rfl rfl hl.1 rfl (lv_room (Nat.le_of_ble_eq_true rfl)) dX1_find_50 ⟨Nat.le_of_ble_eq_true rfl, Nat.le_of_ble_eq_true rfl⟩) (fun r u H locs hR hw => ?_)
                obtain ⟨hq, rfl⟩ := hR
                obtain rfl := hq.symm
                cases hh_50 : has (sU T 6 h ((T 6 h) + 1)) h p1
                · skip
                  refine W.eq (g2 := F0 m 53 ls [.int 0]) rfl ?_
                  refine lv_if_eq (tgt := 63) hx hb dX1_find_53 (by decide) (fun c_53 => ?_) (fun c_53 => ?_)
                  · skip
                    refine lv_aload_n hx hb dX1_find_63 rfl (lv_at hl 0 rfl) ?_
                    refine lv_iconst (v := 1) hx hb dX1_find_64 (by decide) ?_
                    refine lv_bipush (v := (-8)) hx hb dX1_find_65 (by decide) ?_
                    refine k_i hw (va_runV (As := [.int 1, .int (-8)]) (rest := []) ⟨hx, hb, hml, hown, hts⟩ (c_X0_letGo l G f wa (sU T 6 h ((T 6 h) + 1)) M (show h < 25 by omega) hf_h 1 (-8)) (cwV 2 hts gX1_find_X0_letGo rfl rfl rfl (by decide +kernel) ⟨Nat.le_of_ble_eq_true rfl, Nat.le_of_ble_eq_true rfl⟩) (hw.preL (show h < 25 by omega) hf_h _) rfl rfl hl.1 rfl (lv_room (Nat.le_of_ble_eq_true rfl)) dX1_find_67 ⟨Nat.le_of_ble_eq_true rfl, Nat.le_of_ble_eq_true rfl⟩) (fun r u H locs hR hw => ?_)
                    obtain ⟨hq, rfl⟩ := hR
                    obtain rfl := hq.symm
                    refine lv_pop hx hb dX1_find_70 rfl ?_
                    refine lv_iinc (v := nI (h + 1)) (lv' := [(2, .int (nI (h + 1))), (3, .ref a_h), (0, .ref (gx G)), (1, .int p1)]) hx hb dX1_find_71 hl (k := 1) rfl (nI_1 _) (by decide) rfl (fun ls hl => ?_)
                    refine lv_goto (tgt := 11) hx hb dX1_find_74 (by decide) ?_
                    exact ih (h + 1) (sU (sU T 6 h ((T 6 h) + 1)) 7 h 1) H locs ls ⟨by omega, (show Inv _ from hIT), hop.trans (by simp only [of_find, hd, lg, lg2, ↓reduceIte, c_14, h0_h, c_34, hh_50, Bool.false_eq_true, c_53])⟩ hw (lv_sub hl [0, 2, 3] rfl)
                  · skip
                    exact absurd c_53 (by decide)
                · skip
                  refine W.eq (g2 := F0 m 53 ls [.int 1]) rfl ?_
                  refine lv_if_eq (tgt := 63) hx hb dX1_find_53 (by decide) (fun c_53 => ?_) (fun c_53 => ?_)
                  · skip
                    exact absurd c_53 (by decide)
                  · skip
                    refine lv_aload_n hx hb dX1_find_56 rfl (lv_at hl 0 rfl) ?_
                    refine lv_iconst (v := 3) hx hb dX1_find_57 (by decide) ?_
                    refine lv_iload_n hx hb dX1_find_58 rfl (lv_at hl 1 rfl) ?_
                    refine k_i hw (va_runV (As := [.int 3, .int (nI h)]) (rest := []) ⟨hx, hb, hml, hown, hts⟩ (c_X0_letGo l G f wa (sU T 6 h ((T 6 h) + 1)) M (show h < 25 by omega) hf_h 3 (nI h)) (cwV 2 hts gX1_find_X0_letGo rfl rfl rfl (by decide +kernel) ⟨Nat.le_of_ble_eq_true rfl, Nat.le_of_ble_eq_true rfl⟩) (hw.preL (show h < 25 by omega) hf_h _) rfl rfl hl.1 rfl (lv_room (Nat.le_of_ble_eq_true rfl)) dX1_find_59 ⟨Nat.le_of_ble_eq_true rfl, Nat.le_of_ble_eq_true rfl⟩) (fun r u H locs hR hw => ?_)
                    obtain ⟨hq, rfl⟩ := hR
                    obtain rfl := hq.symm
                    exact e_i hx hb hr hlocks hw dX1_find_62 (leafC (hop.trans (by simp only [of_find, hd, lg, lg2, ↓reduceIte, c_14, h0_h, c_34, hh_50, c_53])))
              · skip
                refine lv_aload_n hx hb dX1_find_37 rfl (lv_at hl 0 rfl) ?_
                refine lv_iconst (v := 3) hx hb dX1_find_38 (by decide) ?_
                refine lv_bipush (v := (-8)) hx hb dX1_find_39 (by decide) ?_
                refine k_i hw (va_runV (As := [.int 3, .int (-8)]) (rest := []) ⟨hx, hb, hml, hown, hts⟩ (c_X0_letGo l G f wa (sU T 6 h ((T 6 h) + 1)) M (show h < 25 by omega) hf_h 3 (-8)) (cwV 2 hts gX1_find_X0_letGo rfl rfl rfl (by decide +kernel) ⟨Nat.le_of_ble_eq_true rfl, Nat.le_of_ble_eq_true rfl⟩) (hw.preL (show h < 25 by omega) hf_h _) rfl rfl hl.1 rfl (lv_room (Nat.le_of_ble_eq_true rfl)) dX1_find_41 ⟨Nat.le_of_ble_eq_true rfl, Nat.le_of_ble_eq_true rfl⟩) (fun r u H locs hR hw => ?_)
                obtain ⟨hq, rfl⟩ := hR
                obtain rfl := hq.symm
                refine lv_pop hx hb dX1_find_44 rfl ?_
                refine lv_goto (tgt := 71) hx hb dX1_find_45 (by decide) ?_
                refine lv_iinc (v := nI (h + 1)) (lv' := [(2, .int (nI (h + 1))), (3, .ref a_h), (0, .ref (gx G)), (1, .int p1)]) hx hb dX1_find_71 hl (k := 1) rfl (nI_1 _) (by decide) rfl (fun ls hl => ?_)
                refine lv_goto (tgt := 11) hx hb dX1_find_74 (by decide) ?_
                exact ih (h + 1) (sU (sU T 6 h ((T 6 h) + 1)) 7 h 3) H locs ls ⟨by omega, (show Inv _ from hIT), hop.trans (by simp only [of_find, hd, lg, lg2, ↓reduceIte, c_14, h0_h, c_34])⟩ hw (lv_sub hl [0, 2, 3] rfl)
      exact loop 24 0 S _ _ _ ⟨by omega, hI, by simp only [oc_find, ↓reduceIte, hh_1, c_4]⟩ hw (lv_sub hl [0, 1, 2] rfl)
    · skip
      exact absurd c_4 (by decide)

set_option maxHeartbeats 800000 in
set_option maxRecDepth 100000 in
theorem c_X1_first (l : Launch) (G : GT) (f : Nat → Option Nat) (wa : Nat → Nat) (S M : Tb) (hI : Inv S) (p1 : Int32) : Met l yX1_first wsX1_first (rk 2) (va_Pc [.ref (gx G), .int p1] (Wo G (f, wa, S, M))) (Qi G (fun r u => r = (oc_first S p1).1 ∧ ∃ (f' : Nat → Option Nat) (wa' : Nat → Nat), u = (f', wa', (oc_first S p1).2, M))) 0 0 (gA G) := by
  refine m_head (cc := cX1_first) (maxL := 4) (ret := (some .int)) (by decide) rfl (Nat.le_of_ble_eq_true rfl) ?_
  intro p e s m below meth c hx hb hml hr hlocks hown hts hw ls hl
  have hown : s.vm.findClass RX1 = some m.cls := hown
  have hl : lv_has ls 4 [(0, .ref (gx G)), (1, .int p1)] := hl
  refine lv_iload_n hx hb dX1_first_0 rfl (lv_at hl 1 rfl) ?_
  refine lv_if_ge (tgt := 6) hx hb dX1_first_1 (by decide) (fun c_1 => ?_) (fun c_1 => ?_)
  · skip
    refine lv_iconst (v := 0) hx hb dX1_first_6 (by decide) ?_
    refine lv_istore_n (lv' := [(2, .int 0), (0, .ref (gx G)), (1, .int p1)]) hx hb dX1_first_7 rfl hl (by decide) rfl (fun ls hl => ?_)
    have loop : ∀ (d h : Nat) (T : Tb) (H : Heap) (locs : List Loc) (ls : Array Slot), (h + d = 24 ∧ Inv T ∧ oc_first S p1 = of_first p1 d h T) → Wi G (f, wa, T, M) s H locs → lv_has ls 4 [(2, .int (nI h)), (0, .ref (gx G)), (1, .int p1)] → W p l e (headSpec wsX1_first (rk 2)).room s m [.ref (gx G), .int p1].toArray below meth c H locs 0 0 (MQ below (Qi G (fun r u => r = (oc_first S p1).1 ∧ ∃ (f' : Nat → Option Nat) (wa' : Nat → Nat), u = (f', wa', (oc_first S p1).2, M))) [.ref (gx G), .int p1].toArray s 0 0 (gA G)) (F0 m 8 ls []) := by
      intro d
      induction d with
      | zero =>
        intro h T H locs ls hk hw hl
        obtain ⟨hd24, hIT, hop⟩ := hk
        refine lv_iload_n hx hb dX1_first_8 rfl (lv_at hl 0 rfl) ?_
        refine lv_bipush (v := 24) hx hb dX1_first_9 (by decide) ?_
        refine lv_icmp_ge (tgt := 56) hx hb dX1_first_11 (by decide) (fun c_11 => ?_) (fun c_11 => ?_)
        · skip
          refine lv_bipush (v := (-8)) hx hb dX1_first_56 (by decide) ?_
          exact e_i hx hb hr hlocks hw dX1_first_58 (leafC (hop.trans (by simp only [of_first, hd, lg, lg2, ↓reduceIte, c_11])))
        · skip
          exact absurd (show (24 : Int32) ≤ nI h from nI_le (a := 24) (by omega) (by omega)) c_11
      | succ d ih =>
        intro h T H locs ls hk hw hl
        obtain ⟨hd24, hIT, hop⟩ := hk
        obtain ⟨n_h, h10_h, hn_h⟩ := hIT h (by omega)
        refine lv_iload_n hx hb dX1_first_8 rfl (lv_at hl 0 rfl) ?_
        refine lv_bipush (v := 24) hx hb dX1_first_9 (by decide) ?_
        refine lv_icmp_ge (tgt := 56) hx hb dX1_first_11 (by decide) (fun c_11 => ?_) (fun c_11 => ?_)
        · skip
          exact absurd c_11 (nI_ge (b := 24) (show h < 24 by omega) (by decide))
        · skip
          refine lv_aload_n hx hb dX1_first_14 rfl (lv_at hl 1 rfl) ?_
          refine lv_iload_n hx hb dX1_first_15 rfl (lv_at hl 0 rfl) ?_
          rcases hf_h : f h with _ | a_h
          · skip
            have h0_h : T 0 h = 0 := (show T 0 h = oN (f h) from hw.col0 (show h < 25 by omega)).trans (by rw [hf_h]; rfl)
            refine k_o hw (va_runV (As := [.int (nI h)]) (rest := []) ⟨hx, hb, hml, hown, hts⟩ (c_X1_holdAt_n l G f wa T M (show h < 24 by omega) hf_h) (cwV 1 hts gX1_first_X1_holdAt rfl rfl rfl (by decide +kernel) ⟨Nat.le_of_ble_eq_true rfl, Nat.le_of_ble_eq_true rfl⟩) (hw.preX _) rfl rfl hl.1 rfl (lv_room (Nat.le_of_ble_eq_true rfl)) dX1_first_16 ⟨Nat.le_of_ble_eq_true rfl, Nat.le_of_ble_eq_true rfl⟩) (fun r u H locs hR hw => ?_)
            obtain ⟨hq, rfl⟩ := hR
            obtain rfl := hq.symm
            refine W.eq (g2 := F0 m 19 ls [.null]) rfl ?_
            refine lv_astore_nN (lv' := [(3, .null), (2, .int (nI h)), (0, .ref (gx G)), (1, .int p1)]) hx hb dX1_first_19 rfl hl (by decide) rfl (fun ls hl => ?_)
            refine lv_aload_nN hx hb dX1_first_20 rfl (lv_at hl 0 rfl) ?_
            refine lv_ifnonnullN hx hb dX1_first_21 ?_
            refine lv_goto (tgt := 50) hx hb dX1_first_24 (by decide) ?_
            refine lv_iinc (v := nI (h + 1)) (lv' := [(2, .int (nI (h + 1))), (3, .null), (0, .ref (gx G)), (1, .int p1)]) hx hb dX1_first_50 hl (k := 1) rfl (nI_1 _) (by decide) rfl (fun ls hl => ?_)
            refine lv_goto (tgt := 8) hx hb dX1_first_53 (by decide) ?_
            exact ih (h + 1) T H locs ls ⟨by omega, (show Inv _ from hIT), hop.trans (by simp only [of_first, hd, lg, lg2, ↓reduceIte, c_11, h0_h])⟩ hw (lv_sub hl [0, 2, 3] rfl)
          · skip
            have h0_h : ¬ T 0 h = 0 := by rw [(show T 0 h = oN (f h) from hw.col0 (show h < 25 by omega)), hf_h]; exact oN_s _
            refine k_o hw (va_runV (As := [.int (nI h)]) (rest := []) ⟨hx, hb, hml, hown, hts⟩ (c_X1_holdAt_s l G f wa T M (show h < 24 by omega) hf_h) (cwV 1 hts gX1_first_X1_holdAt rfl rfl rfl (by decide +kernel) ⟨Nat.le_of_ble_eq_true rfl, Nat.le_of_ble_eq_true rfl⟩) (hw.preX _) rfl rfl hl.1 rfl (lv_room (Nat.le_of_ble_eq_true rfl)) dX1_first_16 ⟨Nat.le_of_ble_eq_true rfl, Nat.le_of_ble_eq_true rfl⟩) (fun r u H locs hR hw => ?_)
            obtain ⟨hq, rfl⟩ := hR
            obtain rfl := hq.symm
            refine W.eq (g2 := F0 m 19 ls [.ref a_h]) rfl ?_
            refine lv_astore_n (lv' := [(3, .ref a_h), (2, .int (nI h)), (0, .ref (gx G)), (1, .int p1)]) hx hb dX1_first_19 rfl hl (by decide) rfl (fun ls hl => ?_)
            refine lv_aload_n hx hb dX1_first_20 rfl (lv_at hl 0 rfl) ?_
            refine lv_ifnonnull (tgt := 27) hx hb dX1_first_21 (by decide) ?_
            refine lv_aload_n hx hb dX1_first_27 rfl (lv_at hl 0 rfl) ?_
            refine k_i hw (va_runV (As := []) (rest := []) ⟨hx, hb, hml, hown, hts⟩ (c_X0_weight l G f wa (sU T 6 h ((T 6 h) + 1)) M (show h < 25 by omega) hf_h hn_h h10_h) (cwV 0 hts gX1_first_X0_weight rfl rfl rfl (by decide +kernel) ⟨Nat.le_of_ble_eq_true rfl, Nat.le_of_ble_eq_true rfl⟩) (hw.preL (show h < 25 by omega) hf_h _) rfl rfl hl.1 rfl (lv_room (Nat.le_of_ble_eq_true rfl)) dX1_first_28 ⟨Nat.le_of_ble_eq_true rfl, Nat.le_of_ble_eq_true rfl⟩) (fun r u H locs hR hw => ?_)
            obtain ⟨hq, rfl⟩ := hR
            obtain rfl := hq.symm
            refine lv_iload_n hx hb dX1_first_31 rfl (lv_at hl 3 rfl) ?_
            refine lv_icmp_lt (tgt := 42) hx hb dX1_first_32 (by decide) (fun c_32 => ?_) (fun c_32 => ?_)
            · skip
              refine lv_aload_n hx hb dX1_first_42 rfl (lv_at hl 0 rfl) ?_
              refine lv_iconst (v := 1) hx hb dX1_first_43 (by decide) ?_
              refine lv_bipush (v := (-8)) hx hb dX1_first_44 (by decide) ?_
              refine k_i hw (va_runV (As := [.int 1, .int (-8)]) (rest := []) ⟨hx, hb, hml, hown, hts⟩ (c_X0_letGo l G f wa (sU T 6 h ((T 6 h) + 1)) M (show h < 25 by omega) hf_h 1 (-8)) (cwV 2 hts gX1_first_X0_letGo rfl rfl rfl (by decide +kernel) ⟨Nat.le_of_ble_eq_true rfl, Nat.le_of_ble_eq_true rfl⟩) (hw.preL (show h < 25 by omega) hf_h _) rfl rfl hl.1 rfl (lv_room (Nat.le_of_ble_eq_true rfl)) dX1_first_46 ⟨Nat.le_of_ble_eq_true rfl, Nat.le_of_ble_eq_true rfl⟩) (fun r u H locs hR hw => ?_)
              obtain ⟨hq, rfl⟩ := hR
              obtain rfl := hq.symm
              refine lv_pop hx hb dX1_first_49 rfl ?_
              refine lv_iinc (v := nI (h + 1)) (lv' := [(2, .int (nI (h + 1))), (3, .ref a_h), (0, .ref (gx G)), (1, .int p1)]) hx hb dX1_first_50 hl (k := 1) rfl (nI_1 _) (by decide) rfl (fun ls hl => ?_)
              refine lv_goto (tgt := 8) hx hb dX1_first_53 (by decide) ?_
              exact ih (h + 1) (sU (sU T 6 h ((T 6 h) + 1)) 7 h 1) H locs ls ⟨by omega, (show Inv _ from hIT), hop.trans (by simp only [of_first, hd, lg, lg2, ↓reduceIte, c_11, h0_h, c_32])⟩ hw (lv_sub hl [0, 2, 3] rfl)
            · skip
              refine lv_aload_n hx hb dX1_first_35 rfl (lv_at hl 0 rfl) ?_
              refine lv_iconst (v := 2) hx hb dX1_first_36 (by decide) ?_
              refine lv_iload_n hx hb dX1_first_37 rfl (lv_at hl 1 rfl) ?_
              refine k_i hw (va_runV (As := [.int 2, .int (nI h)]) (rest := []) ⟨hx, hb, hml, hown, hts⟩ (c_X0_letGo l G f wa (sU T 6 h ((T 6 h) + 1)) M (show h < 25 by omega) hf_h 2 (nI h)) (cwV 2 hts gX1_first_X0_letGo rfl rfl rfl (by decide +kernel) ⟨Nat.le_of_ble_eq_true rfl, Nat.le_of_ble_eq_true rfl⟩) (hw.preL (show h < 25 by omega) hf_h _) rfl rfl hl.1 rfl (lv_room (Nat.le_of_ble_eq_true rfl)) dX1_first_38 ⟨Nat.le_of_ble_eq_true rfl, Nat.le_of_ble_eq_true rfl⟩) (fun r u H locs hR hw => ?_)
              obtain ⟨hq, rfl⟩ := hR
              obtain rfl := hq.symm
              exact e_i hx hb hr hlocks hw dX1_first_41 (leafC (hop.trans (by simp only [of_first, hd, lg, lg2, ↓reduceIte, c_11, h0_h, c_32])))
    exact loop 24 0 S _ _ _ ⟨by omega, hI, by simp only [oc_first, ↓reduceIte, c_1]⟩ hw (lv_sub hl [0, 1, 2] rfl)
  · skip
    refine lv_iconst (v := (-1)) hx hb dX1_first_4 (by decide) ?_
    exact e_i hx hb hr hlocks hw dX1_first_5 (leafC (by simp only [oc_first, hd, lg, lg2, ↓reduceIte, c_1]))

set_option maxHeartbeats 800000 in
set_option maxRecDepth 100000 in
theorem c_X1_tally (l : Launch) (G : GT) (f : Nat → Option Nat) (wa : Nat → Nat) (S M : Tb) (hI : Inv S) : Met l yX1_tally wsX1_tally (rk 2) (va_Pc [.ref (gx G)] (Wo G (f, wa, S, M))) (Ql G (fun r u => r = (oc_tally S).1 ∧ ∃ (f' : Nat → Option Nat) (wa' : Nat → Nat), u = (f', wa', (oc_tally S).2, M))) 0 0 (gA G) := by
  refine m_head (cc := cX1_tally) (maxL := 5) (ret := (some .long)) (by decide) rfl (Nat.le_of_ble_eq_true rfl) ?_
  intro p e s m below meth c hx hb hml hr hlocks hown hts hw ls hl
  have hown : s.vm.findClass RX1 = some m.cls := hown
  have hl : lv_has ls 5 [(0, .ref (gx G))] := hl
  have hin1 : ∀ w ∈ wsX10, w ∈ wsX1_tally := by decide +kernel
  have lk15 := hts (.fieldLink RX1 15 "LockerWall" "latchHolds" "I") (by decide +kernel)
  refine lv_aload_n hx hb dX1_tally_0 rfl (lv_at hl 0 rfl) ?_
  refine lv_dup hx hb dX1_tally_1 rfl ?_
  refine r_getT hx hb hts hin1 hown hw lk15 dX1_tally_2 ?_
  refine lv_iconst (v := 1) hx hb dX1_tally_5 (by decide) ?_
  refine lv_iadd hx hb dX1_tally_6 ?_
  refine r_putT hx hb hts hin1 hown hw lk15 dX1_tally_7 (fun H locs hw => ?_)
  have hw : Wi G (f, wa, sU S 9 0 ((S 9 0) + 1), M) s H locs := hw
  refine lv_lconst (v := 0) hx hb dX1_tally_10 (by decide) ?_
  refine lv_lstore_n (lv' := [(1, .long 0), (0, .ref (gx G))]) hx hb dX1_tally_11 rfl hl (by decide) rfl (fun ls hl => ?_)
  refine lv_iconst (v := 0) hx hb dX1_tally_12 (by decide) ?_
  refine lv_istore_n (lv' := [(3, .int 0), (1, .long 0), (0, .ref (gx G))]) hx hb dX1_tally_13 rfl hl (by decide) rfl (fun ls hl => ?_)
  have loop : ∀ (d h : Nat) (z : Int64) (T : Tb) (H : Heap) (locs : List Loc) (ls : Array Slot), (h + d = 24 ∧ Inv T ∧ oc_tally S = of_tally d h z T) → Wi G (f, wa, T, M) s H locs → lv_has ls 5 [(3, .int (nI h)), (1, .long z), (0, .ref (gx G))] → W p l e (headSpec wsX1_tally (rk 2)).room s m [.ref (gx G)].toArray below meth c H locs 0 0 (MQ below (Ql G (fun r u => r = (oc_tally S).1 ∧ ∃ (f' : Nat → Option Nat) (wa' : Nat → Nat), u = (f', wa', (oc_tally S).2, M))) [.ref (gx G)].toArray s 0 0 (gA G)) (F0 m 14 ls []) := by
    intro d
    induction d with
    | zero =>
      intro h z T H locs ls hk hw hl
      obtain ⟨hd24, hIT, hop⟩ := hk
      refine lv_iload_n hx hb dX1_tally_14 rfl (lv_at hl 0 rfl) ?_
      refine lv_bipush (v := 24) hx hb dX1_tally_15 (by decide) ?_
      refine lv_icmp_ge (tgt := 58) hx hb dX1_tally_17 (by decide) (fun c_17 => ?_) (fun c_17 => ?_)
      · skip
        refine lv_lload_n hx hb dX1_tally_58 rfl (lv_at hl 1 rfl) ?_
        exact e_l hx hb hr hlocks hw dX1_tally_59 (leafL (hop.trans (by simp only [of_tally])))
      · skip
        exact absurd (show (24 : Int32) ≤ nI h from nI_le (a := 24) (by omega) (by omega)) c_17
    | succ d ih =>
      intro h z T H locs ls hk hw hl
      obtain ⟨hd24, hIT, hop⟩ := hk
      obtain ⟨n_h, h10_h, hn_h⟩ := hIT h (by omega)
      refine lv_iload_n hx hb dX1_tally_14 rfl (lv_at hl 0 rfl) ?_
      refine lv_bipush (v := 24) hx hb dX1_tally_15 (by decide) ?_
      refine lv_icmp_ge (tgt := 58) hx hb dX1_tally_17 (by decide) (fun c_17 => ?_) (fun c_17 => ?_)
      · skip
        exact absurd c_17 (nI_ge (b := 24) (show h < 24 by omega) (by decide))
      · skip
        refine lv_aload_n hx hb dX1_tally_20 rfl (lv_at hl 2 rfl) ?_
        refine lv_iload_n hx hb dX1_tally_21 rfl (lv_at hl 0 rfl) ?_
        rcases hf_h : f h with _ | a_h
        · skip
          have h0_h : T 0 h = 0 := (show T 0 h = oN (f h) from hw.col0 (show h < 25 by omega)).trans (by rw [hf_h]; rfl)
          refine k_o hw (va_runV (As := [.int (nI h)]) (rest := []) ⟨hx, hb, hml, hown, hts⟩ (c_X1_holdAt_n l G f wa T M (show h < 24 by omega) hf_h) (cwV 1 hts gX1_tally_X1_holdAt rfl rfl rfl (by decide +kernel) ⟨Nat.le_of_ble_eq_true rfl, Nat.le_of_ble_eq_true rfl⟩) (hw.preX _) rfl rfl hl.1 rfl (lv_room (Nat.le_of_ble_eq_true rfl)) dX1_tally_22 ⟨Nat.le_of_ble_eq_true rfl, Nat.le_of_ble_eq_true rfl⟩) (fun r u H locs hR hw => ?_)
          obtain ⟨hq, rfl⟩ := hR
          obtain rfl := hq.symm
          refine W.eq (g2 := F0 m 25 ls [.null]) rfl ?_
          refine lv_astoreN (lv' := [(4, .null), (3, .int (nI h)), (1, .long z), (0, .ref (gx G))]) hx hb dX1_tally_25 hl (by decide) rfl (fun ls hl => ?_)
          refine lv_aloadN hx hb dX1_tally_27 (lv_at hl 0 rfl) ?_
          refine lv_ifnullN (tgt := 52) hx hb dX1_tally_29 (by decide) ?_
          refine lv_iinc (v := nI (h + 1)) (lv' := [(3, .int (nI (h + 1))), (4, .null), (1, .long z), (0, .ref (gx G))]) hx hb dX1_tally_52 hl (k := 1) rfl (nI_1 _) (by decide) rfl (fun ls hl => ?_)
          refine lv_goto (tgt := 14) hx hb dX1_tally_55 (by decide) ?_
          exact ih (h + 1) z T H locs ls ⟨by omega, (show Inv _ from hIT), hop.trans (by simp only [of_tally, hd, lg, lg2, ↓reduceIte, c_17, h0_h])⟩ hw (lv_sub hl [0, 2, 3] rfl)
        · skip
          have h0_h : ¬ T 0 h = 0 := by rw [(show T 0 h = oN (f h) from hw.col0 (show h < 25 by omega)), hf_h]; exact oN_s _
          refine k_o hw (va_runV (As := [.int (nI h)]) (rest := []) ⟨hx, hb, hml, hown, hts⟩ (c_X1_holdAt_s l G f wa T M (show h < 24 by omega) hf_h) (cwV 1 hts gX1_tally_X1_holdAt rfl rfl rfl (by decide +kernel) ⟨Nat.le_of_ble_eq_true rfl, Nat.le_of_ble_eq_true rfl⟩) (hw.preX _) rfl rfl hl.1 rfl (lv_room (Nat.le_of_ble_eq_true rfl)) dX1_tally_22 ⟨Nat.le_of_ble_eq_true rfl, Nat.le_of_ble_eq_true rfl⟩) (fun r u H locs hR hw => ?_)
          obtain ⟨hq, rfl⟩ := hR
          obtain rfl := hq.symm
          refine W.eq (g2 := F0 m 25 ls [.ref a_h]) rfl ?_
          refine lv_astore (lv' := [(4, .ref a_h), (3, .int (nI h)), (1, .long z), (0, .ref (gx G))]) hx hb dX1_tally_25 hl (by decide) rfl (fun ls hl => ?_)
          refine lv_aload hx hb dX1_tally_27 (lv_at hl 0 rfl) ?_
          refine lv_ifnull hx hb dX1_tally_29 ?_
          refine lv_lload_n hx hb dX1_tally_32 rfl (lv_at hl 2 rfl) ?_
          refine lv_iload_n hx hb dX1_tally_33 rfl (lv_at hl 1 rfl) ?_
          refine lv_i2l hx hb dX1_tally_34 rfl ?_
          refine lv_lconst (v := 1) hx hb dX1_tally_35 (by decide) ?_
          refine lv_ladd hx hb dX1_tally_36 ?_
          refine lv_aload hx hb dX1_tally_37 (lv_at hl 0 rfl) ?_
          refine lv_iconst (v := 1) hx hb dX1_tally_39 (by decide) ?_
          refine lv_aload hx hb dX1_tally_40 (lv_at hl 0 rfl) ?_
          refine k_i hw (va_runV (As := []) (rest := [.int 1, .ref a_h, .long (((nI h).toInt64) + 1), .long z]) ⟨hx, hb, hml, hown, hts⟩ (c_X0_weight l G f wa (sU T 6 h ((T 6 h) + 1)) M (show h < 25 by omega) hf_h hn_h h10_h) (cwV 0 hts gX1_tally_X0_weight rfl rfl rfl (by decide +kernel) ⟨Nat.le_of_ble_eq_true rfl, Nat.le_of_ble_eq_true rfl⟩) (hw.preL (show h < 25 by omega) hf_h _) rfl rfl hl.1 rfl (lv_room (Nat.le_of_ble_eq_true rfl)) dX1_tally_42 ⟨Nat.le_of_ble_eq_true rfl, Nat.le_of_ble_eq_true rfl⟩) (fun r u H locs hR hw => ?_)
          obtain ⟨hq, rfl⟩ := hR
          obtain rfl := hq.symm
          refine k_i hw (va_runV (As := [.int 1, .int (wt (sU T 6 h ((T 6 h) + 1)) h)]) (rest := [.long (((nI h).toInt64) + 1), .long z]) ⟨hx, hb, hml, hown, hts⟩ (c_X0_letGo l G f wa (sU T 6 h ((T 6 h) + 1)) M (show h < 25 by omega) hf_h 1 (wt (sU T 6 h ((T 6 h) + 1)) h)) (cwV 2 hts gX1_tally_X0_letGo rfl rfl rfl (by decide +kernel) ⟨Nat.le_of_ble_eq_true rfl, Nat.le_of_ble_eq_true rfl⟩) (hw.preL (show h < 25 by omega) hf_h _) rfl rfl hl.1 rfl (lv_room (Nat.le_of_ble_eq_true rfl)) dX1_tally_45 ⟨Nat.le_of_ble_eq_true rfl, Nat.le_of_ble_eq_true rfl⟩) (fun r u H locs hR hw => ?_)
          obtain ⟨hq, rfl⟩ := hR
          obtain rfl := hq.symm
          refine lv_i2l hx hb dX1_tally_48 rfl ?_
          refine lv_lmul hx hb dX1_tally_49 ?_
          refine lv_ladd hx hb dX1_tally_50 ?_
          refine lv_lstore_n (lv' := [(1, .long (z + ((((nI h).toInt64) + 1) * ((wt (sU T 6 h ((T 6 h) + 1)) h).toInt64)))), (4, .ref a_h), (3, .int (nI h)), (0, .ref (gx G))]) hx hb dX1_tally_51 rfl hl (by decide) rfl (fun ls hl => ?_)
          refine lv_iinc (v := nI (h + 1)) (lv' := [(3, .int (nI (h + 1))), (1, .long (z + ((((nI h).toInt64) + 1) * ((wt (sU T 6 h ((T 6 h) + 1)) h).toInt64)))), (4, .ref a_h), (0, .ref (gx G))]) hx hb dX1_tally_52 hl (k := 2) rfl (nI_1 _) (by decide) rfl (fun ls hl => ?_)
          refine lv_goto (tgt := 14) hx hb dX1_tally_55 (by decide) ?_
          exact ih (h + 1) (z + ((((nI h).toInt64) + 1) * ((wt (sU T 6 h ((T 6 h) + 1)) h).toInt64))) (sU (sU T 6 h ((T 6 h) + 1)) 7 h 1) H locs ls ⟨by omega, (show Inv _ from hIT), hop.trans (by simp only [of_tally, hd, lg, lg2, ↓reduceIte, c_17, h0_h])⟩ hw (lv_sub hl [0, 1, 3] rfl)
  exact loop 24 0 0 (sU S 9 0 (S 9 0 + 1)) _ _ _ ⟨by omega, (show Inv _ from hI), by rw [oc_tally]⟩ hw (lv_sub hl [0, 1, 2] rfl)

set_option maxHeartbeats 800000 in
set_option maxRecDepth 100000 in
theorem c_X1_holdRow (l : Launch) (G : GT) (f : Nat → Option Nat) (wa : Nat → Nat) (S M : Tb) {i n : Nat} (hi : i < 24) (hn : n ≤ 12) : Met l yX1_holdRow wsX1_holdRow (rk 2) (va_Pc [.ref (gx G), .int (nI i), .int (nI n)] (Wo G (f, wa, S, M))) (Qi G (fun r u => r = nI (of_hold i n 0 S).1 ∧ u = (f, wa, (of_hold i n 0 S).2, M))) 0 0 (gA G) := by
  refine m_head (cc := cX1_holdRow) (maxL := 4) (ret := (some .int)) (by decide) rfl (Nat.le_of_ble_eq_true rfl) ?_
  intro p e s m below meth c hx hb hml hr hlocks hown hts hw ls hl
  have hown : s.vm.findClass RX1 = some m.cls := hown
  have hl : lv_has ls 4 [(0, .ref (gx G)), (1, .int (nI i)), (2, .int (nI n))] := hl
  refine lv_iconst (v := 0) hx hb dX1_holdRow_0 (by decide) ?_
  refine lv_istore_n (lv' := [(3, .int 0), (0, .ref (gx G)), (1, .int (nI i)), (2, .int (nI n))]) hx hb dX1_holdRow_1 rfl hl (by decide) rfl (fun ls hl => ?_)
  have loop : ∀ (d k : Nat) (T : Tb) (H : Heap) (locs : List Loc) (ls : Array Slot), (k + d = n ∧ of_hold i n 0 S = of_hold i d k T) → Wi G (f, wa, T, M) s H locs → lv_has ls 4 [(3, .int (nI k)), (0, .ref (gx G)), (1, .int (nI i)), (2, .int (nI n))] → W p l e (headSpec wsX1_holdRow (rk 2)).room s m [.ref (gx G), .int (nI i), .int (nI n)].toArray below meth c H locs 0 0 (MQ below (Qi G (fun r u => r = nI (of_hold i n 0 S).1 ∧ u = (f, wa, (of_hold i n 0 S).2, M))) [.ref (gx G), .int (nI i), .int (nI n)].toArray s 0 0 (gA G)) (F0 m 2 ls []) := by
    intro d
    induction d with
    | zero =>
      intro k T H locs ls hk hw hl
      obtain ⟨hdn, hop⟩ := hk
      refine lv_iload_n hx hb dX1_holdRow_2 rfl (lv_at hl 0 rfl) ?_
      refine lv_iload_n hx hb dX1_holdRow_3 rfl (lv_at hl 3 rfl) ?_
      refine lv_icmp_ge (tgt := 28) hx hb dX1_holdRow_4 (by decide) (fun c_4 => ?_) (fun c_4 => ?_)
      · skip
        refine lv_iload_n hx hb dX1_holdRow_28 rfl (lv_at hl 3 rfl) ?_
        have hop := hop.trans (show _ = (k, T) by simp only [of_hold])
        exact e_i hx hb hr hlocks hw dX1_holdRow_29 ⟨by rw [hop, show n = k by omega], by rw [hop]⟩
      · skip
        exact absurd (nI_le (show n ≤ k by omega) (by omega)) c_4
    | succ d ih =>
      intro k T H locs ls hk hw hl
      obtain ⟨hdn, hop⟩ := hk
      refine lv_iload_n hx hb dX1_holdRow_2 rfl (lv_at hl 0 rfl) ?_
      refine lv_iload_n hx hb dX1_holdRow_3 rfl (lv_at hl 3 rfl) ?_
      refine lv_icmp_ge (tgt := 28) hx hb dX1_holdRow_4 (by decide) (fun c_4 => ?_) (fun c_4 => ?_)
      · skip
        exact absurd c_4 (nI_ge (show k < n by omega) (by omega))
      · skip
        refine lv_aload_n hx hb dX1_holdRow_7 rfl (lv_at hl 1 rfl) ?_
        refine lv_iload_n hx hb dX1_holdRow_8 rfl (lv_at hl 2 rfl) ?_
        refine lv_iload_n hx hb dX1_holdRow_9 rfl (lv_at hl 0 rfl) ?_
        refine lv_iadd hx hb dX1_holdRow_10 ?_
        refine W.eq (g2 := F0 m 11 ls [.int (nI (i + k)), .ref (gx G)]) (by rw [nI_add]) ?_
        refine lv_bipush (v := 24) hx hb dX1_holdRow_11 (by decide) ?_
        refine lv_irem hx hb dX1_holdRow_13 (by decide) ?_
        refine W.eq (g2 := F0 m 14 ls [.int (nI ((i + k) % 24)), .ref (gx G)]) (by rw [ix24 (show i + k < 2 ^ 31 by omega)]) ?_
        rcases hf_r : f ((i + k) % 24) with _ | a_r
        · skip
          have h0_r : T 0 ((i + k) % 24) = 0 := (show T 0 ((i + k) % 24) = oN (f ((i + k) % 24)) from hw.col0 (show ((i + k) % 24) < 25 by omega)).trans (by rw [hf_r]; rfl)
          refine k_o hw (va_runV (As := [.int (nI ((i + k) % 24))]) (rest := []) ⟨hx, hb, hml, hown, hts⟩ (c_X1_holdAt_n l G f wa T M (show ((i + k) % 24) < 24 by omega) hf_r) (cwV 1 hts gX1_holdRow_X1_holdAt rfl rfl rfl (by decide +kernel) ⟨Nat.le_of_ble_eq_true rfl, Nat.le_of_ble_eq_true rfl⟩) (hw.preX _) rfl rfl hl.1 rfl (lv_room (Nat.le_of_ble_eq_true rfl)) dX1_holdRow_14 ⟨Nat.le_of_ble_eq_true rfl, Nat.le_of_ble_eq_true rfl⟩) (fun r u H locs hR hw => ?_)
          obtain ⟨hq, rfl⟩ := hR
          obtain rfl := hq.symm
          refine W.eq (g2 := F0 m 17 ls [.null]) rfl ?_
          refine lv_ifnonnullN hx hb dX1_holdRow_17 ?_
          refine lv_iload_n hx hb dX1_holdRow_20 rfl (lv_at hl 0 rfl) ?_
          have hop := hop.trans (show _ = (k, T) by simp only [of_hold, ↓reduceIte, c_4, h0_r])
          exact e_i hx hb hr hlocks hw dX1_holdRow_21 ⟨by rw [hop], by rw [hop]⟩
        · skip
          have h0_r : ¬ T 0 ((i + k) % 24) = 0 := by rw [(show T 0 ((i + k) % 24) = oN (f ((i + k) % 24)) from hw.col0 (show ((i + k) % 24) < 25 by omega)), hf_r]; exact oN_s _
          refine k_o hw (va_runV (As := [.int (nI ((i + k) % 24))]) (rest := []) ⟨hx, hb, hml, hown, hts⟩ (c_X1_holdAt_s l G f wa T M (show ((i + k) % 24) < 24 by omega) hf_r) (cwV 1 hts gX1_holdRow_X1_holdAt rfl rfl rfl (by decide +kernel) ⟨Nat.le_of_ble_eq_true rfl, Nat.le_of_ble_eq_true rfl⟩) (hw.preX _) rfl rfl hl.1 rfl (lv_room (Nat.le_of_ble_eq_true rfl)) dX1_holdRow_14 ⟨Nat.le_of_ble_eq_true rfl, Nat.le_of_ble_eq_true rfl⟩) (fun r u H locs hR hw => ?_)
          obtain ⟨hq, rfl⟩ := hR
          obtain rfl := hq.symm
          refine W.eq (g2 := F0 m 17 ls [.ref a_r]) rfl ?_
          refine lv_ifnonnull (tgt := 22) hx hb dX1_holdRow_17 (by decide) ?_
          refine lv_iinc (v := nI (k + 1)) (lv' := [(3, .int (nI (k + 1))), (0, .ref (gx G)), (1, .int (nI i)), (2, .int (nI n))]) hx hb dX1_holdRow_22 hl (k := 0) rfl (nI_1 _) (by decide) rfl (fun ls hl => ?_)
          refine lv_goto (tgt := 2) hx hb dX1_holdRow_25 (by decide) ?_
          exact ih (k + 1) (sU T 6 ((i + k) % 24) ((T 6 ((i + k) % 24)) + 1)) H locs ls ⟨by omega, hop.trans (by simp only [of_hold, hd, lg, lg2, ↓reduceIte, c_4, h0_r])⟩ hw (lv_sub hl [0, 1, 2, 3] rfl)
  exact loop n 0 S _ _ _ ⟨by omega, rfl⟩ hw (lv_sub hl [0, 1, 2, 3] rfl)

set_option maxHeartbeats 800000 in
set_option maxRecDepth 100000 in
theorem c_X1_letGoRow (l : Launch) (G : GT) (f : Nat → Option Nat) (wa : Nat → Nat) (S M : Tb) (hI : Inv S) {i n : Nat} (hi : i < 24) (hn : n ≤ 12) (p3 : Int32) : Met l yX1_letGoRow wsX1_letGoRow (rk 1) (va_Pc [.ref (gx G), .int (nI i), .int (nI n), .int p3] (Wo G (f, wa, S, M))) (Qi G (fun r u => r = (of_let i p3 n 0 S).1 ∧ u = (f, wa, (of_let i p3 n 0 S).2, M))) 0 0 (gA G) := by
  refine m_head (cc := cX1_letGoRow) (maxL := 8) (ret := (some .int)) (by decide) rfl (Nat.le_of_ble_eq_true rfl) ?_
  intro p e s m below meth c hx hb hml hr hlocks hown hts hw ls hl
  have hown : s.vm.findClass RX1 = some m.cls := hown
  have hl : lv_has ls 8 [(0, .ref (gx G)), (1, .int (nI i)), (2, .int (nI n)), (3, .int p3)] := hl
  have hin1 : ∀ w ∈ wsX10, w ∈ wsX1_letGoRow := by decide +kernel
  have lk11 := hts (.fieldLink RX1 11 "LockerWall" "hooks" "[LLockerWall$Locker;") (by decide +kernel)
  refine lv_iconst (v := 0) hx hb dX1_letGoRow_0 (by decide) ?_
  refine lv_istore (lv' := [(4, .int 0), (0, .ref (gx G)), (1, .int (nI i)), (2, .int (nI n)), (3, .int p3)]) hx hb dX1_letGoRow_1 hl (by decide) rfl (fun ls hl => ?_)
  refine lv_iload_n hx hb dX1_letGoRow_3 rfl (lv_at hl 3 rfl) ?_
  refine lv_iconst (v := 1) hx hb dX1_letGoRow_4 (by decide) ?_
  refine lv_isub hx hb dX1_letGoRow_5 ?_
  refine lv_istore (lv' := [(5, .int ((nI n) - 1)), (4, .int 0), (0, .ref (gx G)), (1, .int (nI i)), (2, .int (nI n)), (3, .int p3)]) hx hb dX1_letGoRow_6 hl (by decide) rfl (fun ls hl => ?_)
  have loop : ∀ (k : Nat) (z : Int32) (T : Tb) (H : Heap) (locs : List Loc) (ls : Array Slot), (k ≤ 12 ∧ Inv T ∧ of_let i p3 n 0 S = of_let i p3 k z T) → Wi G (f, wa, T, M) s H locs → lv_has ls 8 [(5, .int (nI k - 1)), (4, .int z), (0, .ref (gx G)), (1, .int (nI i)), (2, .int (nI n)), (3, .int p3)] → W p l e (headSpec wsX1_letGoRow (rk 1)).room s m [.ref (gx G), .int (nI i), .int (nI n), .int p3].toArray below meth c H locs 0 0 (MQ below (Qi G (fun r u => r = (of_let i p3 n 0 S).1 ∧ u = (f, wa, (of_let i p3 n 0 S).2, M))) [.ref (gx G), .int (nI i), .int (nI n), .int p3].toArray s 0 0 (gA G)) (F0 m 8 ls []) := by
    intro k
    induction k with
    | zero =>
      intro z T H locs ls hk hw hl
      obtain ⟨hk12, hIT, hop⟩ := hk
      refine lv_iload hx hb dX1_letGoRow_8 (lv_at hl 0 rfl) ?_
      refine lv_if_lt (tgt := 70) hx hb dX1_letGoRow_10 (by decide) (fun c_10 => ?_) (fun c_10 => ?_)
      · skip
        refine lv_iload hx hb dX1_letGoRow_70 (lv_at hl 1 rfl) ?_
        have hop := hop.trans (show _ = (z, T) by simp only [of_let])
        exact e_i hx hb hr hlocks hw dX1_letGoRow_72 ⟨by rw [hop], by rw [hop]⟩
      · skip
        exact absurd (by decide) c_10
    | succ k ih =>
      intro z T H locs ls hk hw hl
      obtain ⟨hk12, hIT, hop⟩ := hk
      rw [nI_pred] at hl
      obtain ⟨n_h, h10_h, hn_h⟩ := hIT ((i + k) % 24) (by omega)
      refine lv_iload hx hb dX1_letGoRow_8 (lv_at hl 0 rfl) ?_
      refine lv_if_lt (tgt := 70) hx hb dX1_letGoRow_10 (by decide) (fun c_10 => ?_) (fun c_10 => ?_)
      · skip
        exact absurd c_10 (nI_pos (by omega))
      · skip
        refine lv_iload_n hx hb dX1_letGoRow_13 rfl (lv_at hl 3 rfl) ?_
        refine lv_iload hx hb dX1_letGoRow_14 (lv_at hl 0 rfl) ?_
        refine lv_iadd hx hb dX1_letGoRow_16 ?_
        refine W.eq (g2 := F0 m 17 ls [.int (nI (i + k))]) (by rw [nI_add]) ?_
        refine lv_bipush (v := 24) hx hb dX1_letGoRow_17 (by decide) ?_
        refine lv_irem hx hb dX1_letGoRow_19 (by decide) ?_
        refine W.eq (g2 := F0 m 20 ls [.int (nI ((i + k) % 24))]) (by rw [ix24 (show i + k < 2 ^ 31 by omega)]) ?_
        refine lv_istore (lv' := [(6, .int (nI ((i + k) % 24))), (5, .int (nI k)), (4, .int z), (0, .ref (gx G)), (1, .int (nI i)), (2, .int (nI n)), (3, .int p3)]) hx hb dX1_letGoRow_20 hl (by decide) rfl (fun ls hl => ?_)
        refine lv_iload hx hb dX1_letGoRow_22 (lv_at hl 0 rfl) ?_
        refine k_i hw (va_runS (As := [.int (nI ((i + k) % 24))]) (rest := []) ⟨hx, hb, hml, hown, hts⟩ (c_X1_isHook l G f wa T M (nI ((i + k) % 24))) (va_cwS 1 hts gX1_letGoRow_X1_isHook rfl rfl rfl (by decide +kernel) ⟨Nat.le_of_ble_eq_true rfl, Nat.le_of_ble_eq_true rfl⟩) (hw.preS _) rfl rfl hl.1 rfl (lv_room (Nat.le_of_ble_eq_true rfl)) dX1_letGoRow_24 ⟨Nat.le_of_ble_eq_true rfl, Nat.le_of_ble_eq_true rfl⟩) (fun r u H locs hR hw => ?_)
        obtain ⟨hq, rfl⟩ := hR
        obtain rfl := hq.symm
        refine W.eq (g2 := F0 m 27 ls [.int 1]) (by rw [isH_nI (show ((i + k) % 24) < 24 by omega)]; rfl) ?_
        refine lv_if_eq (tgt := 40) hx hb dX1_letGoRow_27 (by decide) (fun c_27 => ?_) (fun c_27 => ?_)
        · skip
          exact absurd c_27 (by decide)
        · skip
          refine lv_aload_n hx hb dX1_letGoRow_30 rfl (lv_at hl 3 rfl) ?_
          refine r_getH hx hb hts hin1 hown hw lk11 dX1_letGoRow_31 ?_
          refine lv_iload hx hb dX1_letGoRow_34 (lv_at hl 0 rfl) ?_
          rcases hf_r : f ((i + k) % 24) with _ | a_r
          · skip
            have h0_r : T 0 ((i + k) % 24) = 0 := (show T 0 ((i + k) % 24) = oN (f ((i + k) % 24)) from hw.col0 (show ((i + k) % 24) < 25 by omega)).trans (by rw [hf_r]; rfl)
            refine r_hld (v := .null) hx hb hw (((i + k) % 24)) (rfl) (show ((i + k) % 24) < 24 by omega) (by rw [hf_r]; rfl) dX1_letGoRow_36 ?_
            refine lv_goto (tgt := 41) hx hb dX1_letGoRow_37 (by decide) ?_
            refine lv_astoreN (lv' := [(7, .null), (6, .int (nI ((i + k) % 24))), (5, .int (nI k)), (4, .int z), (0, .ref (gx G)), (1, .int (nI i)), (2, .int (nI n)), (3, .int p3)]) hx hb dX1_letGoRow_41 hl (by decide) rfl (fun ls hl => ?_)
            refine lv_aloadN hx hb dX1_letGoRow_43 (lv_at hl 0 rfl) ?_
            refine lv_ifnullN (tgt := 64) hx hb dX1_letGoRow_45 (by decide) ?_
            refine lv_iinc (v := nI k - 1) (lv' := [(5, .int (nI k - 1)), (7, .null), (6, .int (nI ((i + k) % 24))), (4, .int z), (0, .ref (gx G)), (1, .int (nI i)), (2, .int (nI n)), (3, .int p3)]) hx hb dX1_letGoRow_64 hl (k := 2) rfl (m1 _) (by decide) rfl (fun ls hl => ?_)
            refine lv_goto (tgt := 8) hx hb dX1_letGoRow_67 (by decide) ?_
            exact ih z T H locs ls ⟨by omega, (show Inv _ from hIT), hop.trans (by simp only [of_let, hd, lg, lg2, ↓reduceIte, c_10, c_27, h0_r])⟩ hw (lv_sub hl [0, 3, 4, 5, 6, 7] rfl)
          · skip
            have h0_r : ¬ T 0 ((i + k) % 24) = 0 := by rw [(show T 0 ((i + k) % 24) = oN (f ((i + k) % 24)) from hw.col0 (show ((i + k) % 24) < 25 by omega)), hf_r]; exact oN_s _
            refine r_hld (v := .ref a_r) hx hb hw (((i + k) % 24)) (rfl) (show ((i + k) % 24) < 24 by omega) (by rw [hf_r]; rfl) dX1_letGoRow_36 ?_
            refine lv_goto (tgt := 41) hx hb dX1_letGoRow_37 (by decide) ?_
            refine lv_astore (lv' := [(7, .ref a_r), (6, .int (nI ((i + k) % 24))), (5, .int (nI k)), (4, .int z), (0, .ref (gx G)), (1, .int (nI i)), (2, .int (nI n)), (3, .int p3)]) hx hb dX1_letGoRow_41 hl (by decide) rfl (fun ls hl => ?_)
            refine lv_aload hx hb dX1_letGoRow_43 (lv_at hl 0 rfl) ?_
            refine lv_ifnull hx hb dX1_letGoRow_45 ?_
            refine lv_iload hx hb dX1_letGoRow_48 (lv_at hl 3 rfl) ?_
            refine lv_aload hx hb dX1_letGoRow_50 (lv_at hl 0 rfl) ?_
            refine lv_iload_n hx hb dX1_letGoRow_52 rfl (lv_at hl 7 rfl) ?_
            refine lv_aload hx hb dX1_letGoRow_53 (lv_at hl 0 rfl) ?_
            refine k_i hw (va_runV (As := []) (rest := [.int p3, .ref a_r, .int z]) ⟨hx, hb, hml, hown, hts⟩ (c_X0_weight l G f wa T M (show ((i + k) % 24) < 25 by omega) hf_r hn_h h10_h) (cwV 0 hts gX1_letGoRow_X0_weight rfl rfl rfl (by decide +kernel) ⟨Nat.le_of_ble_eq_true rfl, Nat.le_of_ble_eq_true rfl⟩) (hw.preL (show ((i + k) % 24) < 25 by omega) hf_r _) rfl rfl hl.1 rfl (lv_room (Nat.le_of_ble_eq_true rfl)) dX1_letGoRow_55 ⟨Nat.le_of_ble_eq_true rfl, Nat.le_of_ble_eq_true rfl⟩) (fun r u H locs hR hw => ?_)
            obtain ⟨hq, rfl⟩ := hR
            obtain rfl := hq.symm
            refine k_i hw (va_runV (As := [.int p3, .int (wt T ((i + k) % 24))]) (rest := [.int z]) ⟨hx, hb, hml, hown, hts⟩ (c_X0_letGo l G f wa T M (show ((i + k) % 24) < 25 by omega) hf_r p3 (wt T ((i + k) % 24))) (cwV 2 hts gX1_letGoRow_X0_letGo rfl rfl rfl (by decide +kernel) ⟨Nat.le_of_ble_eq_true rfl, Nat.le_of_ble_eq_true rfl⟩) (hw.preL (show ((i + k) % 24) < 25 by omega) hf_r _) rfl rfl hl.1 rfl (lv_room (Nat.le_of_ble_eq_true rfl)) dX1_letGoRow_58 ⟨Nat.le_of_ble_eq_true rfl, Nat.le_of_ble_eq_true rfl⟩) (fun r u H locs hR hw => ?_)
            obtain ⟨hq, rfl⟩ := hR
            obtain rfl := hq.symm
            refine lv_iadd hx hb dX1_letGoRow_61 ?_
            refine lv_istore (lv' := [(4, .int (z + (wt T ((i + k) % 24)))), (7, .ref a_r), (6, .int (nI ((i + k) % 24))), (5, .int (nI k)), (0, .ref (gx G)), (1, .int (nI i)), (2, .int (nI n)), (3, .int p3)]) hx hb dX1_letGoRow_62 hl (by decide) rfl (fun ls hl => ?_)
            refine lv_iinc (v := nI k - 1) (lv' := [(5, .int (nI k - 1)), (4, .int (z + (wt T ((i + k) % 24)))), (7, .ref a_r), (6, .int (nI ((i + k) % 24))), (0, .ref (gx G)), (1, .int (nI i)), (2, .int (nI n)), (3, .int p3)]) hx hb dX1_letGoRow_64 hl (k := 3) rfl (m1 _) (by decide) rfl (fun ls hl => ?_)
            refine lv_goto (tgt := 8) hx hb dX1_letGoRow_67 (by decide) ?_
            exact ih (z + (wt T ((i + k) % 24))) (sU T 7 ((i + k) % 24) p3) H locs ls ⟨by omega, (show Inv _ from hIT), hop.trans (by simp only [of_let, hd, lg, lg2, ↓reduceIte, c_10, c_27, h0_r])⟩ hw (lv_sub hl [0, 1, 4, 5, 6, 7] rfl)
  exact loop n 0 S _ _ _ ⟨hn, hI, rfl⟩ hw (lv_sub hl [0, 1, 2, 3, 4, 5] rfl)

set_option maxHeartbeats 800000 in
set_option maxRecDepth 100000 in
theorem c_X1_weigh (l : Launch) (G : GT) (f : Nat → Option Nat) (wa : Nat → Nat) (S M : Tb) (hI : Inv S) (p1 p2 : Int32) : Met l yX1_weigh wsX1_weigh (rk 3) (va_Pc [.ref (gx G), .int p1, .int p2] (Wo G (f, wa, S, M))) (Qi G (fun r u => r = (oc_weigh S p1 p2).1 ∧ ∃ (f' : Nat → Option Nat) (wa' : Nat → Nat), u = (f', wa', (oc_weigh S p1 p2).2, M))) 0 0 (gA G) := by
  refine m_head (cc := cX1_weigh) (maxL := 4) (ret := (some .int)) (by decide) rfl (Nat.le_of_ble_eq_true rfl) ?_
  intro p e s m below meth c hx hb hml hr hlocks hown hts hw ls hl
  have hown : s.vm.findClass RX1 = some m.cls := hown
  have hl : lv_has ls 4 [(0, .ref (gx G)), (1, .int p1), (2, .int p2)] := hl
  have hin1 : ∀ w ∈ wsX10, w ∈ wsX1_weigh := by decide +kernel
  have lk15 := hts (.fieldLink RX1 15 "LockerWall" "latchHolds" "I") (by decide +kernel)
  refine lv_iload_n hx hb dX1_weigh_0 rfl (lv_at hl 1 rfl) ?_
  refine k_i hw (va_runS (As := [.int p1]) (rest := []) ⟨hx, hb, hml, hown, hts⟩ (c_X1_isHook l G f wa S M p1) (va_cwS 1 hts gX1_weigh_X1_isHook rfl rfl rfl (by decide +kernel) ⟨Nat.le_of_ble_eq_true rfl, Nat.le_of_ble_eq_true rfl⟩) (hw.preS _) rfl rfl hl.1 rfl (lv_room (Nat.le_of_ble_eq_true rfl)) dX1_weigh_1 ⟨Nat.le_of_ble_eq_true rfl, Nat.le_of_ble_eq_true rfl⟩) (fun r u H locs hR hw => ?_)
  obtain ⟨hq, rfl⟩ := hR
  obtain rfl := hq.symm
  cases hh_1 : isH p1
  · skip
    refine W.eq (g2 := F0 m 4 ls [.int 0]) rfl ?_
    refine lv_if_eq (tgt := 17) hx hb dX1_weigh_4 (by decide) (fun c_4 => ?_) (fun c_4 => ?_)
    · skip
      refine lv_iconst (v := (-1)) hx hb dX1_weigh_17 (by decide) ?_
      exact e_i hx hb hr hlocks hw dX1_weigh_18 (leafC (by simp only [oc_weigh, oj_weigh, hd, lg, lg2, ↓reduceIte, hh_1, Bool.false_eq_true, c_4]))
    · skip
      exact absurd c_4 (by decide)
  · skip
    refine W.eq (g2 := F0 m 4 ls [.int 1]) rfl ?_
    obtain ⟨i, hi, rfl⟩ := isH_of hh_1
    refine lv_if_eq (tgt := 17) hx hb dX1_weigh_4 (by decide) (fun c_4 => ?_) (fun c_4 => ?_)
    · skip
      exact absurd c_4 (by decide)
    · skip
      refine lv_iload_n hx hb dX1_weigh_7 rfl (lv_at hl 2 rfl) ?_
      refine lv_if_lt (tgt := 17) hx hb dX1_weigh_8 (by decide) (fun c_8 => ?_) (fun c_8 => ?_)
      · skip
        refine lv_iconst (v := (-1)) hx hb dX1_weigh_17 (by decide) ?_
        exact e_i hx hb hr hlocks hw dX1_weigh_18 (leafC (by simp only [oc_weigh, oj_weigh, hd, lg, lg2, ↓reduceIte, isH_nI hi, cl24 hi, c_4, c_8]))
      · skip
        refine lv_iload_n hx hb dX1_weigh_11 rfl (lv_at hl 2 rfl) ?_
        refine lv_bipush (v := 12) hx hb dX1_weigh_12 (by decide) ?_
        refine lv_icmp_le (tgt := 19) hx hb dX1_weigh_14 (by decide) (fun c_14 => ?_) (fun c_14 => ?_)
        · skip
          obtain ⟨q, hq12, rfl⟩ := nI_of2 (M := 12) (n := 12) rfl c_8 c_14
          have clq : (nI q).toNatClampNeg = q := nI_clamp (by omega)
          refine lv_aload_n hx hb dX1_weigh_19 rfl (lv_at hl 0 rfl) ?_
          refine lv_dup hx hb dX1_weigh_20 rfl ?_
          refine r_getT hx hb hts hin1 hown hw lk15 dX1_weigh_21 ?_
          refine lv_iconst (v := 1) hx hb dX1_weigh_24 (by decide) ?_
          refine lv_iadd hx hb dX1_weigh_25 ?_
          refine r_putT hx hb hts hin1 hown hw lk15 dX1_weigh_26 (fun H locs hw => ?_)
          have hw : Wi G (f, wa, sU S 9 0 ((S 9 0) + 1), M) s H locs := hw
          refine lv_aload_n hx hb dX1_weigh_29 rfl (lv_at hl 0 rfl) ?_
          refine lv_iload_n hx hb dX1_weigh_30 rfl (lv_at hl 1 rfl) ?_
          refine lv_iload_n hx hb dX1_weigh_31 rfl (lv_at hl 2 rfl) ?_
          refine k_i hw (va_runV (As := [.int (nI i), .int (nI q)]) (rest := []) ⟨hx, hb, hml, hown, hts⟩ (c_X1_holdRow l G f wa (sU S 9 0 ((S 9 0) + 1)) M hi (n := q) (by omega)) (cwV 2 hts gX1_weigh_X1_holdRow rfl rfl rfl (by decide +kernel) ⟨Nat.le_of_ble_eq_true rfl, Nat.le_of_ble_eq_true rfl⟩) (hw.preX _) rfl rfl hl.1 rfl (lv_room (Nat.le_of_ble_eq_true rfl)) dX1_weigh_32 ⟨Nat.le_of_ble_eq_true rfl, Nat.le_of_ble_eq_true rfl⟩) (fun r u H locs hR hw => ?_)
          obtain ⟨hq, rfl⟩ := hR
          obtain rfl := hq.symm
          have hIh : Inv (of_hold i q 0 (sU S 9 0 ((S 9 0) + 1))).2 := Inv.hold (show Inv (sU S 9 0 ((S 9 0) + 1)) from hI) q 0
          have hle : (of_hold i q 0 (sU S 9 0 ((S 9 0) + 1))).1 ≤ 12 := Nat.le_trans (of_hold_le i q 0 _) (by omega)
          refine lv_istore_n (lv' := [(3, .int (nI (of_hold i q 0 (sU S 9 0 ((S 9 0) + 1))).1)), (0, .ref (gx G)), (1, .int (nI i)), (2, .int (nI q))]) hx hb dX1_weigh_35 rfl hl (by decide) rfl (fun ls hl => ?_)
          refine lv_iload_n hx hb dX1_weigh_36 rfl (lv_at hl 0 rfl) ?_
          refine lv_iload_n hx hb dX1_weigh_37 rfl (lv_at hl 3 rfl) ?_
          refine lv_icmp_ge (tgt := 52) hx hb dX1_weigh_38 (by decide) (fun c_38 => ?_) (fun c_38 => ?_)
          · skip
            refine lv_aload_n hx hb dX1_weigh_52 rfl (lv_at hl 1 rfl) ?_
            refine lv_iload_n hx hb dX1_weigh_53 rfl (lv_at hl 2 rfl) ?_
            refine lv_iload_n hx hb dX1_weigh_54 rfl (lv_at hl 3 rfl) ?_
            refine lv_iconst (v := 2) hx hb dX1_weigh_55 (by decide) ?_
            refine k_i hw (va_runV (As := [.int (nI i), .int (nI q), .int 2]) (rest := []) ⟨hx, hb, hml, hown, hts⟩ (c_X1_letGoRow l G f wa ((of_hold i q 0 (sU S 9 0 ((S 9 0) + 1))).2) M hIh hi (n := q) (by omega) 2) (cwV 3 hts gX1_weigh_X1_letGoRow rfl rfl rfl (by decide +kernel) ⟨Nat.le_of_ble_eq_true rfl, Nat.le_of_ble_eq_true rfl⟩) (hw.preX _) rfl rfl hl.1 rfl (lv_room (Nat.le_of_ble_eq_true rfl)) dX1_weigh_56 ⟨Nat.le_of_ble_eq_true rfl, Nat.le_of_ble_eq_true rfl⟩) (fun r u H locs hR hw => ?_)
            obtain ⟨hq, rfl⟩ := hR
            obtain rfl := hq.symm
            exact e_i hx hb hr hlocks hw dX1_weigh_59 (leafC (by simp only [oc_weigh, oj_weigh, hd, lg, lg2, ↓reduceIte, isH_nI hi, cl24 hi, c_4, c_8, c_14, clq, c_38]))
          · skip
            refine lv_aload_n hx hb dX1_weigh_41 rfl (lv_at hl 1 rfl) ?_
            refine lv_iload_n hx hb dX1_weigh_42 rfl (lv_at hl 2 rfl) ?_
            refine lv_iload_n hx hb dX1_weigh_43 rfl (lv_at hl 0 rfl) ?_
            refine lv_iconst (v := 4) hx hb dX1_weigh_44 (by decide) ?_
            refine k_i hw (va_runV (As := [.int (nI i), .int (nI (of_hold i q 0 (sU S 9 0 ((S 9 0) + 1))).1), .int 4]) (rest := []) ⟨hx, hb, hml, hown, hts⟩ (c_X1_letGoRow l G f wa ((of_hold i q 0 (sU S 9 0 ((S 9 0) + 1))).2) M hIh hi (n := (of_hold i q 0 (sU S 9 0 ((S 9 0) + 1))).1) (by omega) 4) (cwV 3 hts gX1_weigh_X1_letGoRow rfl rfl rfl (by decide +kernel) ⟨Nat.le_of_ble_eq_true rfl, Nat.le_of_ble_eq_true rfl⟩) (hw.preX _) rfl rfl hl.1 rfl (lv_room (Nat.le_of_ble_eq_true rfl)) dX1_weigh_45 ⟨Nat.le_of_ble_eq_true rfl, Nat.le_of_ble_eq_true rfl⟩) (fun r u H locs hR hw => ?_)
            obtain ⟨hq, rfl⟩ := hR
            obtain rfl := hq.symm
            refine lv_pop hx hb dX1_weigh_48 rfl ?_
            refine lv_bipush (v := (-2)) hx hb dX1_weigh_49 (by decide) ?_
            exact e_i hx hb hr hlocks hw dX1_weigh_51 (leafC (by simp only [oc_weigh, oj_weigh, hd, lg, lg2, ↓reduceIte, isH_nI hi, cl24 hi, c_4, c_8, c_14, clq, c_38]))
        · skip
          refine lv_iconst (v := (-1)) hx hb dX1_weigh_17 (by decide) ?_
          exact e_i hx hb hr hlocks hw dX1_weigh_18 (leafC (by simp only [oc_weigh, oj_weigh, hd, lg, lg2, ↓reduceIte, isH_nI hi, cl24 hi, c_4, c_8, c_14, c_14]))

set_option maxHeartbeats 800000 in
set_option maxRecDepth 100000 in
theorem c_X1_drop (l : Launch) (G : GT) (f : Nat → Option Nat) (wa : Nat → Nat) (S M : Tb) (hI : Inv S) (p1 p2 p3 : Int32) : Met l yX1_drop wsX1_drop (rk 2) (va_Pc [.ref (gx G), .int p1, .int p2, .int p3] (Wo G (f, wa, S, M))) (Qi G (fun r u => r = (oc_drop S p1 p2 p3).1 ∧ ∃ (f' : Nat → Option Nat) (wa' : Nat → Nat), u = (f', wa', (oc_drop S p1 p2 p3).2, M))) 0 0 (gA G) := by
  refine m_head (cc := cX1_drop) (maxL := 7) (ret := (some .int)) (by decide) rfl (Nat.le_of_ble_eq_true rfl) ?_
  intro p e s m below meth c hx hb hml hr hlocks hown hts hw ls hl
  have hown : s.vm.findClass RX1 = some m.cls := hown
  have hl : lv_has ls 7 [(0, .ref (gx G)), (1, .int p1), (2, .int p2), (3, .int p3)] := hl
  have hin0 : ∀ w ∈ wsX00, w ∈ wsX1_drop := by decide +kernel
  have lk49 := hts (.fieldLink RX1 49 "LockerWall$Locker" "isOpen" "Z") (by decide +kernel)
  have lk33 := hts (.fieldLink RX1 33 "LockerWall$Locker" "count" "I") (by decide +kernel)
  refine lv_iload_n hx hb dX1_drop_0 rfl (lv_at hl 1 rfl) ?_
  refine k_i hw (va_runS (As := [.int p1]) (rest := []) ⟨hx, hb, hml, hown, hts⟩ (c_X1_isHook l G f wa S M p1) (va_cwS 1 hts gX1_drop_X1_isHook rfl rfl rfl (by decide +kernel) ⟨Nat.le_of_ble_eq_true rfl, Nat.le_of_ble_eq_true rfl⟩) (hw.preS _) rfl rfl hl.1 rfl (lv_room (Nat.le_of_ble_eq_true rfl)) dX1_drop_1 ⟨Nat.le_of_ble_eq_true rfl, Nat.le_of_ble_eq_true rfl⟩) (fun r u H locs hR hw => ?_)
  obtain ⟨hq, rfl⟩ := hR
  obtain rfl := hq.symm
  cases hh_1 : isH p1
  · skip
    refine W.eq (g2 := F0 m 4 ls [.int 0]) rfl ?_
    refine lv_if_eq (tgt := 18) hx hb dX1_drop_4 (by decide) (fun c_4 => ?_) (fun c_4 => ?_)
    · skip
      refine lv_iconst (v := (-1)) hx hb dX1_drop_18 (by decide) ?_
      exact e_i hx hb hr hlocks hw dX1_drop_19 (leafC (by simp only [oc_drop, oj_drop, hd, lg, lg2, ↓reduceIte, hh_1, Bool.false_eq_true, c_4]))
    · skip
      exact absurd c_4 (by decide)
  · skip
    refine W.eq (g2 := F0 m 4 ls [.int 1]) rfl ?_
    obtain ⟨i, hi, rfl⟩ := isH_of hh_1
    refine lv_if_eq (tgt := 18) hx hb dX1_drop_4 (by decide) (fun c_4 => ?_) (fun c_4 => ?_)
    · skip
      exact absurd c_4 (by decide)
    · skip
      refine lv_iload_n hx hb dX1_drop_7 rfl (lv_at hl 2 rfl) ?_
      refine lv_iconst (v := 1) hx hb dX1_drop_8 (by decide) ?_
      refine lv_icmp_lt (tgt := 18) hx hb dX1_drop_9 (by decide) (fun c_9 => ?_) (fun c_9 => ?_)
      · skip
        refine lv_iconst (v := (-1)) hx hb dX1_drop_18 (by decide) ?_
        exact e_i hx hb hr hlocks hw dX1_drop_19 (leafC (by simp only [oc_drop, oj_drop, hd, lg, lg2, ↓reduceIte, isH_nI hi, cl24 hi, c_4, c_9]))
      · skip
        refine lv_iload_n hx hb dX1_drop_12 rfl (lv_at hl 2 rfl) ?_
        refine lv_bipush (v := 10) hx hb dX1_drop_13 (by decide) ?_
        refine lv_icmp_le (tgt := 20) hx hb dX1_drop_15 (by decide) (fun c_15 => ?_) (fun c_15 => ?_)
        · skip
          obtain ⟨q, hq10, rfl⟩ := nI_of2 (M := 10) (n := 10) rfl (n1_0 c_9) c_15
          have clq : (nI q).toNatClampNeg = q := nI_clamp (by omega)
          refine lv_aload_n hx hb dX1_drop_20 rfl (lv_at hl 0 rfl) ?_
          refine lv_iload_n hx hb dX1_drop_21 rfl (lv_at hl 1 rfl) ?_
          rcases hf_i : f i with _ | a_i
          · skip
            have h0_i : S 0 i = 0 := (show S 0 i = oN (f i) from hw.col0 (show i < 25 by omega)).trans (by rw [hf_i]; rfl)
            refine k_o hw (va_runV (As := [.int (nI i)]) (rest := []) ⟨hx, hb, hml, hown, hts⟩ (c_X1_holdAt_n l G f wa S M (show i < 24 by omega) hf_i) (cwV 1 hts gX1_drop_X1_holdAt rfl rfl rfl (by decide +kernel) ⟨Nat.le_of_ble_eq_true rfl, Nat.le_of_ble_eq_true rfl⟩) (hw.preX _) rfl rfl hl.1 rfl (lv_room (Nat.le_of_ble_eq_true rfl)) dX1_drop_22 ⟨Nat.le_of_ble_eq_true rfl, Nat.le_of_ble_eq_true rfl⟩) (fun r u H locs hR hw => ?_)
            obtain ⟨hq, rfl⟩ := hR
            obtain rfl := hq.symm
            refine W.eq (g2 := F0 m 25 ls [.null]) rfl ?_
            refine lv_astoreN (lv' := [(4, .null), (0, .ref (gx G)), (1, .int (nI i)), (2, .int (nI q)), (3, .int p3)]) hx hb dX1_drop_25 hl (by decide) rfl (fun ls hl => ?_)
            refine lv_aloadN hx hb dX1_drop_27 (lv_at hl 0 rfl) ?_
            refine lv_ifnonnullN hx hb dX1_drop_29 ?_
            refine lv_bipush (v := (-2)) hx hb dX1_drop_32 (by decide) ?_
            exact e_i hx hb hr hlocks hw dX1_drop_34 (leafC (by simp only [oc_drop, oj_drop, hd, lg, lg2, ↓reduceIte, isH_nI hi, cl24 hi, c_4, c_9, c_15, clq, h0_i]))
          · skip
            have h0_i : ¬ S 0 i = 0 := by rw [(show S 0 i = oN (f i) from hw.col0 (show i < 25 by omega)), hf_i]; exact oN_s _
            refine k_o hw (va_runV (As := [.int (nI i)]) (rest := []) ⟨hx, hb, hml, hown, hts⟩ (c_X1_holdAt_s l G f wa S M (show i < 24 by omega) hf_i) (cwV 1 hts gX1_drop_X1_holdAt rfl rfl rfl (by decide +kernel) ⟨Nat.le_of_ble_eq_true rfl, Nat.le_of_ble_eq_true rfl⟩) (hw.preX _) rfl rfl hl.1 rfl (lv_room (Nat.le_of_ble_eq_true rfl)) dX1_drop_22 ⟨Nat.le_of_ble_eq_true rfl, Nat.le_of_ble_eq_true rfl⟩) (fun r u H locs hR hw => ?_)
            obtain ⟨hq, rfl⟩ := hR
            obtain rfl := hq.symm
            refine W.eq (g2 := F0 m 25 ls [.ref a_i]) rfl ?_
            refine lv_astore (lv' := [(4, .ref a_i), (0, .ref (gx G)), (1, .int (nI i)), (2, .int (nI q)), (3, .int p3)]) hx hb dX1_drop_25 hl (by decide) rfl (fun ls hl => ?_)
            refine lv_aload hx hb dX1_drop_27 (lv_at hl 0 rfl) ?_
            refine lv_ifnonnull (tgt := 35) hx hb dX1_drop_29 (by decide) ?_
            refine lv_aload hx hb dX1_drop_35 (lv_at hl 0 rfl) ?_
            refine r_get0 (v := .int (S 3 i)) hx hb hts hin0 hown hw (show i < 25 by omega) hf_i 2 (by decide) lk49 rfl dX1_drop_37 ?_
            refine lv_if_ne (tgt := 52) hx hb dX1_drop_40 (by decide) (fun c_40 => ?_) (fun c_40 => ?_)
            · skip
              refine lv_iconst (v := 0) hx hb dX1_drop_52 (by decide) ?_
              refine lv_istore (lv' := [(5, .int 0), (4, .ref a_i), (0, .ref (gx G)), (1, .int (nI i)), (2, .int (nI q)), (3, .int p3)]) hx hb dX1_drop_53 hl (by decide) rfl (fun ls hl => ?_)
              refine lv_iconst (v := 0) hx hb dX1_drop_55 (by decide) ?_
              refine lv_istore (lv' := [(6, .int 0), (5, .int 0), (4, .ref a_i), (0, .ref (gx G)), (1, .int (nI i)), (2, .int (nI q)), (3, .int p3)]) hx hb dX1_drop_56 hl (by decide) rfl (fun ls hl => ?_)
              have hoc : ∀ (g' : Int32) (T' : Tb), of_drop i p3 q 0 (hd S i) = (g', T') → oc_drop S (nI i) (nI q) p3 = (g', lg T' i 1) := by
                intro g' T' hz
                simp only [oc_drop, oj_drop, ↓reduceIte, isH_nI hi, cl24 hi, c_4, c_9, c_15, clq, h0_i, c_40]
                simp only [hz]
              have loop : ∀ (d k : Nat) (g : Int32) (T : Tb) (H : Heap) (locs : List Loc) (ls : Array Slot), (k + d = q ∧ Inv T ∧ of_drop i p3 q 0 (hd S i) = of_drop i p3 d g T) → Wi G (f, wa, T, M) s H locs → lv_has ls 7 [(6, .int (nI k)), (5, .int g), (4, .ref a_i), (2, .int (nI q)), (3, .int p3)] → W p l e (headSpec wsX1_drop (rk 2)).room s m [.ref (gx G), .int (nI i), .int (nI q), .int p3].toArray below meth c H locs 0 0 (MQ below (Qi G (fun r u => r = (oc_drop S (nI i) (nI q) p3).1 ∧ ∃ (f' : Nat → Option Nat) (wa' : Nat → Nat), u = (f', wa', (oc_drop S (nI i) (nI q) p3).2, M))) [.ref (gx G), .int (nI i), .int (nI q), .int p3].toArray s 0 0 (gA G)) (F0 m 58 ls []) := by
                intro d
                induction d with
                | zero =>
                  intro k g T H locs ls hk hw hl
                  obtain ⟨hdq, hIT, hop⟩ := hk
                  refine lv_iload hx hb dX1_drop_58 (lv_at hl 0 rfl) ?_
                  refine lv_iload_n hx hb dX1_drop_60 rfl (lv_at hl 3 rfl) ?_
                  refine lv_icmp_ge (tgt := 97) hx hb dX1_drop_61 (by decide) (fun c_61 => ?_) (fun c_61 => ?_)
                  · skip
                    refine lv_aload hx hb dX1_drop_97 (lv_at hl 2 rfl) ?_
                    refine lv_iconst (v := 1) hx hb dX1_drop_99 (by decide) ?_
                    refine lv_iload hx hb dX1_drop_100 (lv_at hl 1 rfl) ?_
                    refine k_i hw (va_runV (As := [.int 1, .int g]) (rest := []) ⟨hx, hb, hml, hown, hts⟩ (c_X0_letGo l G f wa T M (show i < 25 by omega) hf_i 1 g) (cwV 2 hts gX1_drop_X0_letGo rfl rfl rfl (by decide +kernel) ⟨Nat.le_of_ble_eq_true rfl, Nat.le_of_ble_eq_true rfl⟩) (hw.preL (show i < 25 by omega) hf_i _) rfl rfl hl.1 rfl (lv_room (Nat.le_of_ble_eq_true rfl)) dX1_drop_102 ⟨Nat.le_of_ble_eq_true rfl, Nat.le_of_ble_eq_true rfl⟩) (fun r u H locs hR hw => ?_)
                    obtain ⟨hq, rfl⟩ := hR
                    obtain rfl := hq.symm
                    exact e_i hx hb hr hlocks hw dX1_drop_105 (leafC (hoc _ _ (hop.trans (by simp only [of_drop, ↓reduceIte, c_61]))))
                  · skip
                    exact absurd (nI_le (show q ≤ k by omega) (by omega)) c_61
                | succ d ih =>
                  intro k g T H locs ls hk hw hl
                  obtain ⟨hdq, hIT, hop⟩ := hk
                  obtain ⟨n_h, h10_h, hn_h⟩ := hIT i hi
                  refine lv_iload hx hb dX1_drop_58 (lv_at hl 0 rfl) ?_
                  refine lv_iload_n hx hb dX1_drop_60 rfl (lv_at hl 3 rfl) ?_
                  refine lv_icmp_ge (tgt := 97) hx hb dX1_drop_61 (by decide) (fun c_61 => ?_) (fun c_61 => ?_)
                  · skip
                    exact absurd c_61 (nI_ge (show k < q by omega) (by omega))
                  · skip
                    refine lv_aload hx hb dX1_drop_64 (lv_at hl 2 rfl) ?_
                    refine r_get0 (v := .int (T 5 i)) hx hb hts hin0 hown hw (show i < 25 by omega) hf_i 5 (by decide) lk33 rfl dX1_drop_66 ?_
                    refine lv_if_le (tgt := 97) hx hb dX1_drop_69 (by decide) (fun c_69 => ?_) (fun c_69 => ?_)
                    · skip
                      refine lv_aload hx hb dX1_drop_97 (lv_at hl 2 rfl) ?_
                      refine lv_iconst (v := 1) hx hb dX1_drop_99 (by decide) ?_
                      refine lv_iload hx hb dX1_drop_100 (lv_at hl 1 rfl) ?_
                      refine k_i hw (va_runV (As := [.int 1, .int g]) (rest := []) ⟨hx, hb, hml, hown, hts⟩ (c_X0_letGo l G f wa T M (show i < 25 by omega) hf_i 1 g) (cwV 2 hts gX1_drop_X0_letGo rfl rfl rfl (by decide +kernel) ⟨Nat.le_of_ble_eq_true rfl, Nat.le_of_ble_eq_true rfl⟩) (hw.preL (show i < 25 by omega) hf_i _) rfl rfl hl.1 rfl (lv_room (Nat.le_of_ble_eq_true rfl)) dX1_drop_102 ⟨Nat.le_of_ble_eq_true rfl, Nat.le_of_ble_eq_true rfl⟩) (fun r u H locs hR hw => ?_)
                      obtain ⟨hq, rfl⟩ := hR
                      obtain rfl := hq.symm
                      exact e_i hx hb hr hlocks hw dX1_drop_105 (leafC (hoc _ _ (hop.trans (by simp only [of_drop, ↓reduceIte, c_61, c_69]))))
                    · skip
                      obtain ⟨q_h, hq_h, hs_h⟩ := n_succ hn_h h10_h (fun z => c_69 (by rw [z]; decide))
                      refine lv_iload hx hb dX1_drop_72 (lv_at hl 1 rfl) ?_
                      refine lv_aload hx hb dX1_drop_74 (lv_at hl 2 rfl) ?_
                      refine k_i hw (va_runV (As := []) (rest := [.int g]) ⟨hx, hb, hml, hown, hts⟩ (c_X0_removeLast l G f wa T M (show i < 25 by omega) hf_i hs_h hq_h) (cwV 0 hts gX1_drop_X0_removeLast rfl rfl rfl (by decide +kernel) ⟨Nat.le_of_ble_eq_true rfl, Nat.le_of_ble_eq_true rfl⟩) (hw.preL (show i < 25 by omega) hf_i _) rfl rfl hl.1 rfl (lv_room (Nat.le_of_ble_eq_true rfl)) dX1_drop_76 ⟨Nat.le_of_ble_eq_true rfl, Nat.le_of_ble_eq_true rfl⟩) (fun r u H locs hR hw => ?_)
                      obtain ⟨hq, rfl⟩ := hR
                      obtain rfl := hq.symm
                      refine lv_iadd hx hb dX1_drop_79 ?_
                      refine lv_istore (lv' := [(5, .int (g + (rmV T i))), (6, .int (nI k)), (4, .ref a_i), (2, .int (nI q)), (3, .int p3)]) hx hb dX1_drop_80 hl (by decide) rfl (fun ls hl => ?_)
                      refine lv_iload hx hb dX1_drop_82 (lv_at hl 0 rfl) ?_
                      refine lv_iload_n hx hb dX1_drop_84 rfl (lv_at hl 4 rfl) ?_
                      refine lv_icmp_lt (tgt := 91) hx hb dX1_drop_85 (by decide) (fun c_85 => ?_) (fun c_85 => ?_)
                      · skip
                        refine lv_iinc (v := nI (k + 1)) (lv' := [(6, .int (nI (k + 1))), (5, .int (g + (rmV T i))), (4, .ref a_i), (2, .int (nI q)), (3, .int p3)]) hx hb dX1_drop_91 hl (k := 1) rfl (nI_1 _) (by decide) rfl (fun ls hl => ?_)
                        refine lv_goto (tgt := 58) hx hb dX1_drop_94 (by decide) ?_
                        exact ih (k + 1) (g + (rmV T i)) (rmS T i) H locs ls ⟨by omega, hIT.rm hs_h hq_h, hop.trans (by simp only [of_drop, ↓reduceIte, c_61, c_69, c_85])⟩ hw (lv_sub hl [0, 1, 2, 3, 4] rfl)
                      · skip
                        refine lv_goto (tgt := 97) hx hb dX1_drop_88 (by decide) ?_
                        refine lv_aload hx hb dX1_drop_97 (lv_at hl 2 rfl) ?_
                        refine lv_iconst (v := 1) hx hb dX1_drop_99 (by decide) ?_
                        refine lv_iload hx hb dX1_drop_100 (lv_at hl 0 rfl) ?_
                        refine k_i hw (va_runV (As := [.int 1, .int (g + (rmV T i))]) (rest := []) ⟨hx, hb, hml, hown, hts⟩ (c_X0_letGo l G f wa (rmS T i) M (show i < 25 by omega) hf_i 1 (g + (rmV T i))) (cwV 2 hts gX1_drop_X0_letGo rfl rfl rfl (by decide +kernel) ⟨Nat.le_of_ble_eq_true rfl, Nat.le_of_ble_eq_true rfl⟩) (hw.preL (show i < 25 by omega) hf_i _) rfl rfl hl.1 rfl (lv_room (Nat.le_of_ble_eq_true rfl)) dX1_drop_102 ⟨Nat.le_of_ble_eq_true rfl, Nat.le_of_ble_eq_true rfl⟩) (fun r u H locs hR hw => ?_)
                        obtain ⟨hq, rfl⟩ := hR
                        obtain rfl := hq.symm
                        exact e_i hx hb hr hlocks hw dX1_drop_105 (leafC (hoc _ _ (hop.trans (by simp only [of_drop, ↓reduceIte, c_61, c_69, c_85]))))
              exact loop q 0 0 (sU S 6 i (S 6 i + 1)) _ _ _ ⟨by omega, (show Inv _ from hI), by rw [hd]⟩ hw (lv_sub hl [0, 1, 2, 5, 6] rfl)
            · skip
              refine lv_aload hx hb dX1_drop_43 (lv_at hl 0 rfl) ?_
              refine lv_iconst (v := 2) hx hb dX1_drop_45 (by decide) ?_
              refine lv_bipush (v := (-3)) hx hb dX1_drop_46 (by decide) ?_
              refine k_i hw (va_runV (As := [.int 2, .int (-3)]) (rest := []) ⟨hx, hb, hml, hown, hts⟩ (c_X0_letGo l G f wa (sU S 6 i ((S 6 i) + 1)) M (show i < 25 by omega) hf_i 2 (-3)) (cwV 2 hts gX1_drop_X0_letGo rfl rfl rfl (by decide +kernel) ⟨Nat.le_of_ble_eq_true rfl, Nat.le_of_ble_eq_true rfl⟩) (hw.preL (show i < 25 by omega) hf_i _) rfl rfl hl.1 rfl (lv_room (Nat.le_of_ble_eq_true rfl)) dX1_drop_48 ⟨Nat.le_of_ble_eq_true rfl, Nat.le_of_ble_eq_true rfl⟩) (fun r u H locs hR hw => ?_)
              obtain ⟨hq, rfl⟩ := hR
              obtain rfl := hq.symm
              exact e_i hx hb hr hlocks hw dX1_drop_51 (leafC (by simp only [oc_drop, oj_drop, hd, lg, lg2, ↓reduceIte, isH_nI hi, cl24 hi, c_4, c_9, c_15, clq, h0_i, c_40]))
        · skip
          refine lv_iconst (v := (-1)) hx hb dX1_drop_18 (by decide) ?_
          exact e_i hx hb hr hlocks hw dX1_drop_19 (leafC (by simp only [oc_drop, oj_drop, hd, lg, lg2, ↓reduceIte, isH_nI hi, cl24 hi, c_4, c_9, c_15, c_15]))
end
section
/-! lockers come and go: id 24 is the one that is in no hook -/
abbrev dfL : List Value := [.int 0, .int 0, .int 0, .int 0, .null, .int 0, .int 0, .int 0]
def dtS (S : Tb) (i : Nat) : Tb := fun c r => if c = 8 then (if r / 10 = 24 then S 8 (10 * i + r % 10) else S c r) else if c < 8 then (if r = 24 then S c i else if c = 0 ∧ r = i then 0 else S c r) else S c r
def nwS (S : Tb) (room code : Int32) : Tb := fun c r => if c = 8 then (if r / 10 = 24 then 0 else S c r) else if c < 8 then (if r = 24 then (if c = 0 then 1 else if c = 1 then room else if c = 2 then code else 0) else S c r) else S c r
def atS (S : Tb) (i : Nat) : Tb := fun c r => if c = 8 then (if r / 10 = i then S 8 (240 + r % 10) else S c r) else if c < 8 then (if r = i then S c 24 else if c = 0 ∧ r = 24 then 0 else S c r) else S c r
def dtF (f : Nat → Option Nat) (i a : Nat) : Nat → Option Nat := va_up (va_up f 24 (some a)) i none
def atF (f : Nat → Option Nat) (i a : Nat) : Nat → Option Nat := va_up (va_up f 24 none) i (some a)
def WiN (G : GT) (u : WT) (q : Nat) (s : State) (H : Heap) (locs : List Loc) : Prop := (∃ (L : List Nat) (e : Nat → va_E), va_P (gD G) vwCl (va_pl L e) H ∧ va_D (gA G) (va_pl L e) ∧ rpC G u.1 u.2.1 u.2.2.1 L e ∧ rpM G u.2.2.2 L e ∧ q ∈ L ∧ e q = .inr (0, dfL)) ∧ va_K (gD G) vwCl (tysW G) s ∧ (∀ q, s.heap.size ≤ q → gA G q) ∧ va_S (gA G) s.heap H locs
def WoN (G : GT) (u : WT) (q : Nat) (U : State) : Prop := (∃ (L : List Nat) (e : Nat → va_E), va_P (gD G) vwCl (va_pl L e) U.heap ∧ va_D (gA G) (va_pl L e) ∧ rpC G u.1 u.2.1 u.2.2.1 L e ∧ rpM G u.2.2.2 L e ∧ q ∈ L ∧ e q = .inr (0, dfL)) ∧ va_K (gD G) vwCl (tysW G) U ∧ ∀ q, U.heap.size ≤ q → gA G q
theorem WiN.pre {G : GT} {u : WT} {q : Nat} {s : State} {H : Heap} {locs : List Loc} (h : WiN G u q s H locs) (av : List Value) : PreS s H (va_Pc av (WoN G u q)) av := by
  obtain ⟨h1, h2, h3, h4⟩ := h
  refine ⟨fun a U g mk z => ⟨z.1, z.2.1, va_K.moved (u := U) (U := U.calling g mk a) (Vm.Alike.refl U.vm) z.2.2.1, z.2.2.2⟩, fun U hU hW => ⟨rfl, by rw [hU]; exact h1, va_K.moved hW.alike h2, fun z hz => h3 z ?_⟩⟩
  rw [hU] at hz
  exact Nat.le_trans h4.1 hz
theorem rpC_new {G : GT} {f : Nat → Option Nat} {wa : Nat → Nat} {S : Tb} {L : List Nat} {e : Nat → va_E} {q : Nat} {v : va_E} (h : rpC G f wa S L e) (hq : q ∉ L) : rpC G f wa S (L ++ [q]) (va_up e q v) := by
  obtain ⟨⟨x1, x2⟩, ⟨k1, f0, k2, k3⟩, c3, c4, c5, c6⟩ := h
  have ne : ∀ b, b ∈ L → b ≠ q := fun b h2 z => hq (z ▸ h2)
  have up : ∀ b, b ∈ L → va_up e q v b = e b := fun b hb => va_up_ne _ _ (ne b hb)
  refine ⟨⟨List.mem_append_left _ x1, by rw [up _ x1]; exact x2⟩, ⟨List.mem_append_left _ k1, f0, k2, by rw [up _ k1]; exact k3⟩, fun i hi a ha => ?_, c4, c5, c6⟩
  obtain ⟨⟨h1, h2⟩, h3, g, h4, h5⟩ := c3 i hi a ha
  exact ⟨⟨List.mem_append_left _ h1, by rw [up _ h1]; exact h2⟩, List.mem_append_left _ h3, g, by rw [up _ h3]; exact h4, h5⟩
theorem rpM_new {G : GT} {M : Tb} {L : List Nat} {e : Nat → va_E} {q : Nat} {v : va_E} (h : rpM G M L e) (hq : q ∉ L) : rpM G M (L ++ [q]) (va_up e q v) := by
  obtain ⟨⟨m1, m2⟩, m3, m4⟩ := h
  have up : ∀ b, b ∈ L → va_up e q v b = e b := fun b hb => va_up_ne _ _ (fun z => hq (z ▸ hb))
  exact ⟨⟨List.mem_append_left _ m1, by rw [up _ m1]; exact m2⟩, fun c hc => ⟨List.mem_append_left _ (m3 c hc).1, by rw [up _ (m3 c hc).1]; exact (m3 c hc).2⟩, m4⟩
/-- an unlisted object may become anything of its kind -/
theorem rpC_free {G : GT} {f : Nat → Option Nat} {wa : Nat → Nat} {S : Tb} {L : List Nat} {e : Nat → va_E} {q : Nat} {v : va_E} (h : rpC G f wa S L e) (h0 : kd (e q) = 0) (hno : ∀ i, i < 25 → f i ≠ some q) : rpC G f wa S L (va_up e q v) := by
  obtain ⟨⟨x1, x2⟩, ⟨k1, f0, k2, k3⟩, c3, c4, c5, c6⟩ := h
  have ne : ∀ b, kd (e b) ≠ 0 → b ≠ q := fun b h2 z => h2 (z ▸ h0)
  refine ⟨⟨x1, ?_⟩, ⟨k1, f0, k2, ?_⟩, fun i hi b hb => ⟨⟨(c3 i hi b hb).1.1, ?_⟩, (c3 i hi b hb).2.1, ?_⟩, c4, c5, c6⟩
  · rw [va_up_ne _ _ (ne _ (by rw [x2]; simp [kd]))]; exact x2
  · rw [va_up_ne _ _ (ne _ (by rw [k3]; simp [kd]))]; exact k3
  · rw [va_up_ne _ _ (fun z : b = q => hno i hi (by rw [← z]; exact hb))]; exact (c3 i hi b hb).1.2
  · obtain ⟨g, g1, g2⟩ := (c3 i hi b hb).2.2
    exact ⟨g, by rw [va_up_ne _ _ (ne _ (by rw [g1]; simp [kd]))]; exact g1, g2⟩
/-- the made locker stands at id 24 -/
theorem rpC_made {G : GT} {f : Nat → Option Nat} {wa : Nat → Nat} {S : Tb} {L : List Nat} {e : Nat → va_E} {q w : Nat} {p1 p2 : Int32} (h : rpC G f wa S L e) (hq : q ∈ L) (hw : w ∈ L) (eq : e q = .inr (0, [.int p1, .int p2, .int 0, .int 0, .ref w, .int 0, .int 0, .int 0])) (ew : e w = arE G (fun _ => 0)) (hno : ∀ i, i < 25 → f i ≠ some q) (hnw : ∀ i a, i < 25 → f i = some a → wa i ≠ w) :
    rpC G (va_up f 24 (some q)) (va_up wa 24 w) (nwS S p1 p2) L e := by
  obtain ⟨⟨x1, x2⟩, ⟨k1, f0, k2, k3⟩, c3, c4, c5, c6⟩ := h
  refine ⟨⟨x1, by rw [x2]; simp [nwS]⟩, ⟨k1, f0, fun j hj => by rw [va_up_ne _ _ (by omega)]; exact k2 j hj, k3⟩, fun i hi a ha => ?_, fun i j a hi hj ha hb => ?_, fun i j a b hi hj ha hb hab => ?_, fun i hi => ?_⟩
  · by_cases h24 : i = 24
    · subst h24
      rw [va_up_self] at ha
      cases ha
      rw [va_up_self]
      refine ⟨⟨hq, by rw [eq]; simp [nwS]⟩, hw, fun _ => 0, ew, fun k hk => by simp [nwS, show (240 + k) / 10 = 24 by omega]⟩
    · rw [va_up_ne _ _ h24] at ha
      rw [va_up_ne _ _ h24]
      obtain ⟨⟨h1, h2⟩, h3, g, h4, h5⟩ := c3 i hi a ha
      refine ⟨⟨h1, by rw [h2]; simp [nwS, h24]⟩, h3, g, h4, fun k hk => by rw [h5 k hk]; simp [nwS, show (10 * i + k) / 10 = i by omega, h24]⟩
  · by_cases hi24 : i = 24 <;> by_cases hj24 : j = 24
    · omega
    · subst hi24
      rw [va_up_self] at ha
      cases ha
      rw [va_up_ne _ _ hj24] at hb
      exact absurd hb (hno j hj)
    · subst hj24
      rw [va_up_self] at hb
      cases hb
      rw [va_up_ne _ _ hi24] at ha
      exact absurd ha (hno i hi)
    · rw [va_up_ne _ _ hi24] at ha
      rw [va_up_ne _ _ hj24] at hb
      exact c4 i j a hi hj ha hb
  · by_cases hi24 : i = 24 <;> by_cases hj24 : j = 24
    · omega
    · subst hi24
      rw [va_up_self, va_up_ne _ _ hj24] at hab
      rw [va_up_ne _ _ hj24] at hb
      exact absurd hab.symm (hnw j b hj hb)
    · subst hj24
      rw [va_up_self, va_up_ne _ _ hi24] at hab
      rw [va_up_ne _ _ hi24] at ha
      exact absurd hab (hnw i a hi ha)
    · rw [va_up_ne _ _ hi24] at ha hab
      rw [va_up_ne _ _ hj24] at hb hab
      exact c5 i j a b hi hj ha hb hab
  · by_cases h24 : i = 24
    · subst h24; rw [va_up_self]; simp [nwS, oN]
    · rw [va_up_ne _ _ h24, ← c6 i hi]; simp [nwS, h24]
/-- a hook gives its locker up -/
theorem rpC_dt {G : GT} {f f1 : Nat → Option Nat} {wa : Nat → Nat} {S : Tb} {L : List Nat} {e : Nat → va_E} {i a : Nat} (h : rpC G f wa S L e) (hi : i < 24) (hf : f i = some a) (hf1 : ∀ j, j < 24 → f1 j = f j) :
    rpC G (dtF f i a) (va_up wa 24 (wa i)) (dtS S i) L (va_up e (gh G) (hkE G (va_up f1 i none))) := by
  obtain ⟨⟨x1, x2⟩, ⟨k1, f0, k2, k3⟩, c3, c4, c5, c6⟩ := h
  have ne : ∀ b, kd (e b) ≠ 4 → b ≠ gh G := fun b h2 z => h2 (by rw [z, k3]; rfl)
  have hi24 : i ≠ 24 := by omega
  have F : ∀ r, r < 25 → ∀ b, dtF f i a r = some b → (r = 24 ∧ b = a) ∨ (r ≠ 24 ∧ r ≠ i ∧ f r = some b) := by
    intro r hr b hb
    unfold dtF at hb
    by_cases hri : r = i
    · subst hri; rw [va_up_self] at hb; cases hb
    · rw [va_up_ne _ _ hri] at hb
      by_cases hr24 : r = 24
      · subst hr24; rw [va_up_self] at hb; cases hb; exact Or.inl ⟨rfl, rfl⟩
      · rw [va_up_ne _ _ hr24] at hb; exact Or.inr ⟨hr24, hri, hb⟩
  refine ⟨⟨x1, ?_⟩, ⟨k1, va_up f1 i none, fun j hj => ?_, va_up_self _ _ _⟩, fun r hr b hb => ?_, fun r q b hr hq hb hb2 => ?_, fun r q b d hr hq hb hd hrq => ?_, fun r hr => ?_⟩
  · rw [va_up_ne _ _ (ne _ (by rw [x2]; simp [kd])), x2]; simp [dtS]
  · unfold dtF
    by_cases hji : j = i
    · subst hji; rw [va_up_self, va_up_self]
    · rw [va_up_ne _ _ hji, va_up_ne _ _ hji, va_up_ne _ _ (show j ≠ 24 by omega)]; exact hf1 j hj
  · rcases F r hr b hb with ⟨rfl, rfl⟩ | ⟨h24, hri, hfr⟩
    · obtain ⟨⟨h1, h2⟩, h3, g, h4, h5⟩ := c3 i (by omega) b hf
      rw [va_up_self]
      refine ⟨⟨h1, by rw [va_up_ne _ _ (ne _ (by rw [h2]; simp [kd])), h2]; simp [dtS]⟩, h3, g, by rw [va_up_ne _ _ (ne _ (by rw [h4]; simp [kd]))]; exact h4, fun k hk => by rw [h5 k hk]; simp [dtS, show (240 + k) / 10 = 24 by omega, show (240 + k) % 10 = k by omega]⟩
    · obtain ⟨⟨h1, h2⟩, h3, g, h4, h5⟩ := c3 r hr b hfr
      rw [va_up_ne _ _ h24]
      refine ⟨⟨h1, by rw [va_up_ne _ _ (ne _ (by rw [h2]; simp [kd])), h2]; simp [dtS, h24]⟩, h3, g, by rw [va_up_ne _ _ (ne _ (by rw [h4]; simp [kd]))]; exact h4, fun k hk => by rw [h5 k hk]; simp [dtS, show (10 * r + k) / 10 = r by omega, h24]⟩
  · rcases F r hr b hb with ⟨h1, h2⟩ | ⟨h1, h2, h3⟩ <;> rcases F q hq b hb2 with ⟨g1, g2⟩ | ⟨g1, g2, g3⟩
    · omega
    · rw [h2] at g3; exact absurd (c4 q i a hq (by omega) g3 hf) g2
    · rw [g2] at h3; exact absurd (c4 r i a hr (by omega) h3 hf) h2
    · exact c4 r q b hr hq h3 g3
  · rcases F r hr b hb with ⟨h1, h2⟩ | ⟨h1, h2, h3⟩ <;> rcases F q hq d hd with ⟨g1, g2⟩ | ⟨g1, g2, g3⟩
    · omega
    · rw [h1, va_up_self, va_up_ne _ _ g1] at hrq; exact absurd (c5 i q a d (by omega) hq hf g3 hrq).symm g2
    · rw [g1, va_up_self, va_up_ne _ _ h1] at hrq; exact absurd (c5 r i b a hr (by omega) h3 hf hrq) h2
    · rw [va_up_ne _ _ h1, va_up_ne _ _ g1] at hrq; exact c5 r q b d hr hq h3 g3 hrq
  · by_cases hri : r = i
    · subst hri; simp [dtS, dtF, va_up_self, oN, hi24]
    · by_cases h24 : r = 24
      · subst h24
        have := c6 i (by omega)
        rw [hf] at this
        simp only [dtS, dtF, va_up_ne _ _ hri, va_up_self]
        simp [this, oN]
      · simp only [dtF, va_up_ne _ _ hri, va_up_ne _ _ h24]
        rw [← c6 r hr]; simp [dtS, hri, h24]
/-- a hook gets the locker of id 24 -/
theorem rpC_at {G : GT} {f f1 : Nat → Option Nat} {wa : Nat → Nat} {S : Tb} {L : List Nat} {e : Nat → va_E} {i a : Nat} (h : rpC G f wa S L e) (hi : i < 24) (hf : f 24 = some a) (hf1 : ∀ j, j < 24 → f1 j = f j) :
    rpC G (atF f i a) (va_up wa i (wa 24)) (atS S i) L (va_up e (gh G) (hkE G (va_up f1 i (some a)))) := by
  obtain ⟨⟨x1, x2⟩, ⟨k1, f0, k2, k3⟩, c3, c4, c5, c6⟩ := h
  have ne : ∀ b, kd (e b) ≠ 4 → b ≠ gh G := fun b h2 z => h2 (by rw [z, k3]; rfl)
  have hi24 : i ≠ 24 := by omega
  have F : ∀ r, r < 25 → ∀ b, atF f i a r = some b → (r = i ∧ b = a) ∨ (r ≠ 24 ∧ r ≠ i ∧ f r = some b) := by
    intro r hr b hb
    unfold atF at hb
    by_cases hri : r = i
    · subst hri; rw [va_up_self] at hb; cases hb; exact Or.inl ⟨rfl, rfl⟩
    · rw [va_up_ne _ _ hri] at hb
      by_cases hr24 : r = 24
      · subst hr24; rw [va_up_self] at hb; cases hb
      · rw [va_up_ne _ _ hr24] at hb; exact Or.inr ⟨hr24, hri, hb⟩
  refine ⟨⟨x1, ?_⟩, ⟨k1, va_up f1 i (some a), fun j hj => ?_, va_up_self _ _ _⟩, fun r hr b hb => ?_, fun r q b hr hq hb hb2 => ?_, fun r q b d hr hq hb hd hrq => ?_, fun r hr => ?_⟩
  · rw [va_up_ne _ _ (ne _ (by rw [x2]; simp [kd])), x2]; simp [atS]
  · unfold atF
    by_cases hji : j = i
    · subst hji; rw [va_up_self, va_up_self]
    · rw [va_up_ne _ _ hji, va_up_ne _ _ hji, va_up_ne _ _ (show j ≠ 24 by omega)]; exact hf1 j hj
  · rcases F r hr b hb with ⟨rfl, rfl⟩ | ⟨h24, hri, hfr⟩
    · obtain ⟨⟨h1, h2⟩, h3, g, h4, h5⟩ := c3 24 (by omega) b hf
      rw [va_up_self]
      refine ⟨⟨h1, by rw [va_up_ne _ _ (ne _ (by rw [h2]; simp [kd])), h2]; simp [atS]⟩, h3, g, by rw [va_up_ne _ _ (ne _ (by rw [h4]; simp [kd]))]; exact h4, fun k hk => by rw [h5 k hk]; simp [atS, show (10 * r + k) / 10 = r by omega, show k % 10 = k by omega]⟩
    · obtain ⟨⟨h1, h2⟩, h3, g, h4, h5⟩ := c3 r hr b hfr
      rw [va_up_ne _ _ hri]
      refine ⟨⟨h1, by rw [va_up_ne _ _ (ne _ (by rw [h2]; simp [kd])), h2]; simp [atS, hri, h24]⟩, h3, g, by rw [va_up_ne _ _ (ne _ (by rw [h4]; simp [kd]))]; exact h4, fun k hk => by rw [h5 k hk]; simp [atS, show (10 * r + k) / 10 = r by omega, hri]⟩
  · rcases F r hr b hb with ⟨h1, h2⟩ | ⟨h1, h2, h3⟩ <;> rcases F q hq b hb2 with ⟨g1, g2⟩ | ⟨g1, g2, g3⟩
    · omega
    · rw [h2] at g3; exact absurd (c4 q 24 a hq (by omega) g3 hf) g1
    · rw [g2] at h3; exact absurd (c4 r 24 a hr (by omega) h3 hf) h1
    · exact c4 r q b hr hq h3 g3
  · rcases F r hr b hb with ⟨h1, h2⟩ | ⟨h1, h2, h3⟩ <;> rcases F q hq d hd with ⟨g1, g2⟩ | ⟨g1, g2, g3⟩
    · omega
    · rw [h1, va_up_self, va_up_ne _ _ g2] at hrq; exact absurd (c5 24 q a d (by omega) hq hf g3 hrq).symm g1
    · rw [g1, va_up_self, va_up_ne _ _ h2] at hrq; exact absurd (c5 r 24 b a hr (by omega) h3 hf hrq) h1
    · rw [va_up_ne _ _ h2, va_up_ne _ _ g2] at hrq; exact c5 r q b d hr hq h3 g3 hrq
  · by_cases hri : r = i
    · subst hri
      have := c6 24 (by omega)
      rw [hf] at this
      simp only [atF, va_up_self]
      simp [atS, this, oN]
    · by_cases h24 : r = 24
      · subst h24
        simp only [atF, va_up_ne _ _ hri, va_up_self]
        simp [atS, oN, hri]
      · simp only [atF, va_up_ne _ _ hri, va_up_ne _ _ h24]
        rw [← c6 r hr]; simp [atS, hri, h24]
section MK
variable {p : Program} {l : Launch} {e : Env} {R : Room} {s : State} {m : MethodId} {args : Array Value} {below : List Frame} {meth : Method} {c : Code} {H : Heap} {locs : List Loc} {cells slots : Nat} {Q : State → Prop}
variable {cc : ByteArray} {pc : Nat} {ls : Array Slot} {rest : List Value} {G : GT} {f : Nat → Option Nat} {wa : Nat → Nat} {S M : Tb} {Ts : List Cond} {own : String} {index : Nat}
theorem r_hstN (hx : p.tables.exec = Jvm.exec) (hb : c.code = cc) (hw : Wi G (f, wa, S, M) s H locs) {i a : Nat} (hi : i < 24) (hf : f i = some a) (hdg : decode cc pc = .ok (.aastore, 1))
    (kk : ∀ (H1 : Heap) (locs1 : List Loc), Wi G (dtF f i a, va_up wa 24 (wa i), dtS S i, M) s H1 locs1 → W p l e R s m args below meth c H1 locs1 cells slots Q (F0 m (pc + 1) ls rest)) : W p l e R s m args below meth c H locs cells slots Q (F0 m pc ls (.null :: .int (nI i) :: .ref (gh G) :: rest)) := by
  obtain ⟨⟨L, ev, hP, hD, hC, hM⟩, hK, hA, hS⟩ := hw
  obtain ⟨h1, f0, h2, h3⟩ := hC.2.1
  obtain ⟨k0, hk0⟩ := va_pl_get (X := []) (f := ev) h1
  have hk1 := hk0
  rw [h3] at hk1
  refine va_astqN (C := RX0) hx hb hK hP hD hS k0 2 hk1 rfl (vp_in_nI hi (by decide)) hdg (fun H1 locs1 g1 g2 g3 => ?_)
  rw [nI_clamp (by omega)] at g1 g2
  have q := va_pl_set (X := []) (e := hkE G (va_up f0 i none)) hD h1 hk0
  have q : (va_pl L ev).set k0 _ = va_pl L _ := q
  exact kk H1 locs1 ⟨⟨L, _, q ▸ g1, q ▸ g2, rpC_dt hC hi hf h2, rpM_up hM (by rw [h3]; simp [kd]) (by rw [h3]; simp [kd])⟩, hK, hA, g3⟩
theorem r_hst (hx : p.tables.exec = Jvm.exec) (hb : c.code = cc) (hw : Wi G (f, wa, S, M) s H locs) {i a : Nat} (hi : i < 24) (hf : f 24 = some a) (hdg : decode cc pc = .ok (.aastore, 1))
    (kk : ∀ (H1 : Heap) (locs1 : List Loc), Wi G (atF f i a, va_up wa i (wa 24), atS S i, M) s H1 locs1 → W p l e R s m args below meth c H1 locs1 cells slots Q (F0 m (pc + 1) ls rest)) : W p l e R s m args below meth c H locs cells slots Q (F0 m pc ls (.ref a :: .int (nI i) :: .ref (gh G) :: rest)) := by
  obtain ⟨⟨L, ev, hP, hD, hC, hM⟩, hK, hA, hS⟩ := hw
  obtain ⟨h1, f0, h2, h3⟩ := hC.2.1
  obtain ⟨k0, hk0⟩ := va_pl_get (X := []) (f := ev) h1
  have hk1 := hk0
  rw [h3] at hk1
  have ea := (hC.2.2.1 24 (by decide) a hf).1
  obtain ⟨ka, hka⟩ := va_pl_get (X := []) (f := ev) ea.1
  rw [ea.2] at hka
  refine va_astq (r := (RX0, TX0, 8)) hx hb hK hP hD hS k0 2 ka 0 hk1 rfl hka rfl (vp_in_nI hi (by decide)) hdg (fun H1 locs1 g1 g2 g3 => ?_)
  rw [nI_clamp (by omega)] at g1 g2
  have q := va_pl_set (X := []) (e := hkE G (va_up f0 i (some a))) hD h1 hk0
  have q : (va_pl L ev).set k0 _ = va_pl L _ := q
  exact kk H1 locs1 ⟨⟨L, _, q ▸ g1, q ▸ g2, rpC_at hC hi hf h2, rpM_up hM (by rw [h3]; simp [kd]) (by rw [h3]; simp [kd])⟩, hK, hA, g3⟩
theorem r_newL (hx : p.tables.exec = Jvm.exec) (hb : c.code = cc) (hts : ∀ w ∈ Ts, w.before args s = true) (hin : ∀ w ∈ wsX00, w ∈ Ts) (hown : s.vm.findClass own = some m.cls) (hcl : (Cond.classLink own index RX0).before args s = true) (hinst : (Cond.instantiable RX0 8).before args s = true) (hini : (Cond.initialized RX0).before args s = true) (hw : Wi G (f, wa, S, M) s H locs) (hcells : cells + 1 ≤ R.cells) (hslots : slots + 8 ≤ R.slots) (hdg : decode cc pc = .ok (.new index, 3))
    (kk : ∀ (q : Nat) (H1 : Heap), WiN G (f, wa, S, M) q s H1 locs → W p l e R s m args below meth c H1 locs (cells + 1) (slots + 8) Q (F0 m (pc + 3) ls (.ref q :: rest))) : W p l e R s m args below meth c H locs cells slots Q (F0 m pc ls rest) := by
  obtain ⟨⟨L, ev, hP, hD, hC, hM⟩, hK, hA, hS⟩ := hw
  refine va_new (ci := 0) (fs := dfL) (C := RX0) (T := TX0) (N := 8) hx hb hts hin tyX0 tyX0_ok hown hcl hinst hini hK hP hD hS hA rfl (fun j hj => ?_) hcells hslots hdg (fun q H1 g1 g2 g3 => ?_)
  · rcases (show j = 0 ∨ j = 1 ∨ j = 2 ∨ j = 3 ∨ j = 4 ∨ j = 5 ∨ j = 6 ∨ j = 7 by omega) with rfl | rfl | rfl | rfl | rfl | rfl | rfl | rfl <;> rfl
  · have hq : q ∉ L := va_pl_fresh2 (X := []) (f := ev) g2
    have z := va_pl_push (f := ev) (e := .inr (0, dfL)) hq
    exact kk q H1 ⟨⟨L ++ [q], va_up ev q (.inr (0, dfL)), z ▸ g1, z ▸ g2, rpC_new hC hq, rpM_new hM hq, List.mem_append_right _ (List.mem_singleton.mpr rfl), va_up_self _ _ _⟩, hK, hA, g3⟩
end MK
end
section
section MK2
variable {p : Program} {l : Launch} {e : Env} {R : Room} {s : State} {m : MethodId} {args : Array Value} {below : List Frame} {meth : Method} {c : Code} {H : Heap} {locs : List Loc} {cells slots : Nat} {Q : State → Prop}
variable {cc : ByteArray} {pc : Nat} {ls : Array Slot} {rest : List Value} {Ts : List Cond} {own : String} {index : Nat}
theorem p_putF {D : va_G} {cl : List vw_C} {tys : List (ClassId × FieldType)} {A : Nat → Prop} {H0 : Heap} {L : List Nat} {ev : Nat → va_E} {a ci N : Nat} {C ref : String} {T : u_T} {fs : List Value} (hexec : p.tables.exec = Jvm.exec) (hb : c.code = cc) (hts : ∀ w ∈ Ts, w.before args s = true) (hin : ∀ w ∈ u_ws C T N, w ∈ Ts) (ty0 : Nat → FieldType) (hty : ∀ k, k < N → parseFieldDescriptor (T k).2.2.1 = some (ty0 k)) (hnm : ∀ a, a < N → ∀ b, b < N → a ≠ b → (T a).2.1 ≠ (T b).2.1) (hown : s.vm.findClass own = some m.cls) (hK : va_K D cl tys s) (hP : va_P D cl (va_pl L ev) H) (hD : va_D A (va_pl L ev)) (hS0 : va_S A H0 H locs) (ha : a ∈ L) (he : ev a = .inr (ci, fs)) (hc : cl[ci]? = some (C, T, N)) (k : Nat) (hk : k < N) (hlink : (Cond.fieldLink own index ref (T k).2.1 (T k).2.2.1).before args s = true) (hsame : (T k).1 = ref) (hfin : (T k).2.2.2 = true) (hin2 : meth.name = "<init>") (hdecl : (T k).1 = own) {v : Value} (hn : narrow (ty0 k) v = v) (hfit : fits (ty0 k) v = true) (hl : k < fs.length)
    (hdg : decode cc pc = .ok (.putfield index, 3)) (kk : ∀ (H1 : Heap) (locs1 : List Loc), va_P D cl (va_pl L (va_up ev a (.inr (ci, fs.set k v)))) H1 → va_D A (va_pl L (va_up ev a (.inr (ci, fs.set k v)))) → va_S A H0 H1 locs1 → W p l e R s m args below meth c H1 locs1 cells slots Q (F0 m (pc + 3) ls rest)) : W p l e R s m args below meth c H locs cells slots Q (F0 m pc ls (v :: .ref a :: rest)) := by
  obtain ⟨k0, hk0⟩ := va_pl_get (X := []) (f := ev) ha
  have hk1 := hk0
  rw [he] at hk1
  refine va_putF hexec hb hts hin ty0 hty hnm hown hK hP hD hS0 k0 hk1 hc k hk hlink (fun x9 h9 => by rw [hsame] at h9; exact h9) hfin hin2 hdecl (hty k hk) hn hfit hl hdg (fun H1 locs1 h1 h2 h3 => kk H1 locs1 ?_ ?_ h3)
  · have q := va_pl_set (X := []) (e := .inr (ci, fs.set k v)) hD ha hk0
    exact (show _ = va_pl L _ from q) ▸ h1
  · have q := va_pl_set (X := []) (e := .inr (ci, fs.set k v)) hD ha hk0
    exact (show _ = va_pl L _ from q) ▸ h2
end MK2
theorem RA_int {U : State} {c1 c2 : ClassId} (h1 : va_RA U c1 .int) (h2 : va_RA U c2 .int) : c1 = c2 := by
  have a1 : U.vm.findClass ("[" ++ FieldType.int.toString) = some c1 := h1
  have a2 : U.vm.findClass ("[" ++ FieldType.int.toString) = some c2 := h2
  rw [a1] at a2
  exact Option.some.inj a2
theorem RA_bool {U : State} {c1 c2 : ClassId} (h1 : va_RA U c1 .boolean) (h2 : va_RA U c2 .boolean) : c1 = c2 := by
  have a1 : U.vm.findClass ("[" ++ FieldType.boolean.toString) = some c1 := h1
  have a2 : U.vm.findClass ("[" ++ FieldType.boolean.toString) = some c2 := h2
  rw [a1] at a2
  exact Option.some.inj a2
theorem bytes10 : 10 * componentBytes FieldType.int ≤ 536870912 := by decide
set_option maxHeartbeats 800000 in
set_option maxRecDepth 100000 in
theorem c_X0_init (l : Launch) (G : GT) (f : Nat → Option Nat) (wa : Nat → Nat) (S M : Tb) (a : Nat) (p1 p2 : Int32) : Met l yX0_init wsX0_init ({ frames := 1, cells := 1, slots := 10, locals := 30 }) (va_Pc [.ref a, .int p1, .int p2] (WoN G (f, wa, S, M) a)) (Qv G (fun u => ∃ w : Nat, u = (va_up f 24 (some a), va_up wa 24 w, nwS S p1 p2, M))) 1 10 (gA G) := by
  refine Met.ofW (cc := cX0_init) (maxL := 3) (ret := none) (by decide) rfl ?_
  intro p e s m args below meth c s₁ B hml hv
  obtain ⟨rfl, hW⟩ := hv
  have hx := B.exec
  have hb := B.bytes
  have hr := B.returns
  have hlocks := B.notSynchronized
  have hts := atoms_spec (ws := wsX0_init) B.pre
  have hown : s.vm.findClass RX0 = some m.cls := findClass_of_methodNamed B.named
  have hin : meth.name = "<init>" := (name_of_methodNamed B.named B.method).1
  obtain ⟨⟨L, ev, hP, hD, hC, hM, hq, eq⟩, hK, hA⟩ := hW
  have hS : va_S (gA G) s.heap s.heap [] := va_S.rf
  have hl := lv_entry ([.ref a, .int p1, .int p2]) (n := 3) (Nat.le_of_ble_eq_true rfl)
  rw [lg_entry_eq]
  generalize (lg_sl ([.ref a, .int p1, .int p2]) ++ List.replicate (3 - (lg_sl ([.ref a, .int p1, .int p2])).length) Slot.unset).toArray = ls at hl ⊢
  have hl : lv_has ls 3 [(0, .ref a), (1, .int p1), (2, .int p2)] := hl
  have hin0 : ∀ w ∈ wsX00, w ∈ wsX0_init := by decide +kernel
  have hno : ∀ i, i < 25 → f i ≠ some a := fun i hi hf => by
    have h1 := (hC.2.2.1 i hi a hf).1.2
    rw [eq] at h1
    simp [dfL] at h1
  refine lv_aload_n hx hb dX0_init_0 rfl (lv_at hl 0 rfl) ?_
  refine W.objInit hx hb hown (hts (.methodLink RX0 3 objectInit) (by decide +kernel)) (hts (.instanceMethod objectInit) (by decide +kernel)) (hts _ (List.mem_cons_of_mem _ (List.mem_append_left _ (List.mem_of_getElem? (i := 2) rfl)))) rfl (by rw [hml]; exact hl.1) rfl dX0_init_1 (Nat.le_of_ble_eq_true rfl) (Nat.le_of_ble_eq_true rfl) ?_
  refine W.eq (g2 := F0 m 4 ls []) rfl ?_
  refine lv_aload_n hx hb dX0_init_4 rfl (lv_at hl 0 rfl) ?_
  refine lv_iload_n hx hb dX0_init_5 rfl (lv_at hl 1 rfl) ?_
  refine p_putF hx hb hts hin0 tyX0 tyX0_ok nmX0 hown hK hP hD hS hq eq rfl 0 (by decide) (hts (.fieldLink RX0 9 "LockerWall$Locker" "room" "I") (by decide +kernel)) rfl rfl hin rfl rfl rfl (by simp) dX0_init_6 (fun H locs hP hD hS => ?_)
  have hC1 := rpC_free (v := .inr (0, dfL.set 0 (.int p1))) hC (by rw [eq]; rfl) hno
  have hM1 := rpM_up (v := .inr (0, dfL.set 0 (.int p1))) hM (a := a) (by rw [eq]; simp [kd]) (by rw [eq]; simp [kd])
  refine lv_aload_n hx hb dX0_init_9 rfl (lv_at hl 0 rfl) ?_
  refine lv_iload_n hx hb dX0_init_10 rfl (lv_at hl 2 rfl) ?_
  refine p_put hx hb hts hin0 tyX0 tyX0_ok nmX0 hown hK hP hD hS hq (va_up_self _ _ _) rfl 1 (by decide) (hts (.fieldLink RX0 15 "LockerWall$Locker" "code" "I") (by decide +kernel)) rfl rfl rfl rfl (by simp) dX0_init_11 (fun H locs hP hD hS => ?_)
  rw [bx_uu] at hP hD
  have hC2 := rpC_free (v := .inr (0, [.int p1, .int p2, .int 0, .int 0, .null, .int 0, .int 0, .int 0])) hC (by rw [eq]; rfl) hno
  have hM2 := rpM_up (v := .inr (0, [.int p1, .int p2, .int 0, .int 0, .null, .int 0, .int 0, .int 0])) hM (a := a) (by rw [eq]; simp [kd]) (by rw [eq]; simp [kd])
  have e2 : va_up ev a (.inr (0, [.int p1, .int p2, .int 0, .int 0, .null, .int 0, .int 0, .int 0])) a = .inr (0, [.int p1, .int p2, .int 0, .int 0, .null, .int 0, .int 0, .int 0]) := va_up_self _ _ _
  have hP : va_P (gD G) vwCl (va_pl L (va_up ev a (.inr (0, [.int p1, .int p2, .int 0, .int 0, .null, .int 0, .int 0, .int 0])))) H := hP
  have hD : va_D (gA G) (va_pl L (va_up ev a (.inr (0, [.int p1, .int p2, .int 0, .int 0, .null, .int 0, .int 0, .int 0])))) := hD
  generalize va_up ev a (.inr (0, [.int p1, .int p2, .int 0, .int 0, .null, .int 0, .int 0, .int 0])) = ev2 at hC2 hM2 e2 hP hD
  refine lv_aload_n hx hb dX0_init_14 rfl (lv_at hl 0 rfl) ?_
  refine lv_bipush (v := 10) hx hb dX0_init_15 (by decide) ?_
  refine va_newa (atype := .int) (ty := .int) (N' := 10) (a0 := (10, .inl (fun _ => 0))) hx hb (hts (.arrayClass .int) (by decide +kernel)) rfl hK hP hD hS hA (fun cA => rfl) (by decide) (by decide) bytes10 (Nat.le_of_ble_eq_true rfl) (Nat.le_of_ble_eq_true rfl) dX0_init_17 (fun w cA H hK1 hP hD hS => ?_)
  have hcA : cA = gI G := RA_int (hK1.2 3 (cA, .int) rfl).2 (hK.2 0 (gI G, .int) rfl).2
  subst hcA
  have hwL : w ∉ L := va_pl_fresh2 (X := []) (f := ev2) hD
  have z := va_pl_push (f := ev2) (e := .inl (gI G, 10, .inl (fun _ => 0))) hwL
  rw [z] at hP hD
  have hC3 := rpC_new (v := .inl (gI G, 10, .inl (fun _ => 0))) hC2 hwL
  have hM3 := rpM_new (v := .inl (gI G, 10, .inl (fun _ => 0))) hM2 hwL
  have haw : a ≠ w := fun q => hwL (q ▸ hq)
  have e3 : va_up ev2 w (.inl (gI G, 10, .inl (fun _ => 0))) a = .inr (0, [.int p1, .int p2, .int 0, .int 0, .null, .int 0, .int 0, .int 0]) := by rw [va_up_ne _ _ haw]; exact e2
  have ew3 : va_up ev2 w (.inl (gI G, 10, .inl (fun _ => 0))) w = arE G (fun _ => 0) := va_up_self _ _ _
  have hnw : ∀ i a, i < 25 → f i = some a → wa i ≠ w := fun i b hi hf q => hwL (q ▸ (hC2.2.2.1 i hi b hf).2.1)
  generalize va_up ev2 w (.inl (gI G, 10, .inl (fun _ => 0))) = ev3 at hC3 hM3 e3 ew3 hP hD
  have hq3 : a ∈ L ++ [w] := List.mem_append_left _ hq
  refine p_put hx hb hts hin0 tyX0 tyX0_ok nmX0 hown hK hP hD hS hq3 e3 rfl 4 (by decide) (hts (.fieldLink RX0 18 "LockerWall$Locker" "weights" "[I") (by decide +kernel)) rfl rfl rfl rfl (by simp) dX0_init_19 (fun H locs hP hD hS => ?_)
  have hC4 := rpC_free (v := .inr (0, [.int p1, .int p2, .int 0, .int 0, .ref w, .int 0, .int 0, .int 0])) hC3 (by rw [e3]; rfl) hno
  have hM4 := rpM_up (v := .inr (0, [.int p1, .int p2, .int 0, .int 0, .ref w, .int 0, .int 0, .int 0])) hM3 (a := a) (by rw [e3]; simp [kd]) (by rw [e3]; simp [kd])
  have hC5 := rpC_made (q := a) (w := w) (p1 := p1) (p2 := p2) hC4 hq3 (List.mem_append_right _ (List.mem_singleton.mpr rfl)) (va_up_self _ _ _) (by rw [va_up_ne _ _ (Ne.symm haw)]; exact ew3) hno hnw
  have hw : Wi G (va_up f 24 (some a), va_up wa 24 w, nwS S p1 p2, M) s H locs := ⟨⟨L ++ [w], _, hP, hD, hC5, hM4⟩, hK, hA, hS⟩
  exact e_v hx hb hr hlocks hw dX0_init_22 ⟨w, rfl⟩
def oc_mount (S : Tb) (p1 p2 p3 : Int32) : Int32 × Tb := if isH p1 = true then (if isWt p2 = true then (if S 0 p1.toNatClampNeg = 0 then (1, atS (nwS S p2 p3) p1.toNatClampNeg) else (-5, S)) else (-1, S)) else (-1, S)
def oj_unmount (S : Tb) (j : Nat) : Int32 × Tb := if S 0 j = 0 then (-2, S) else if S 5 j ≤ 0 then (dtS (hd S j) j 6 24, lg (dtS (hd S j) j) 24 1) else (-6, lg (hd S j) j 2)
def oc_unmount (S : Tb) (p1 : Int32) : Int32 × Tb := if isH p1 = true then oj_unmount (sU S 9 0 (S 9 0 + 1)) p1.toNatClampNeg else (-1, S)
theorem dtF_24 (f : Nat → Option Nat) {i : Nat} (a : Nat) (hi : i < 24) : dtF f i a 24 = some a := by
  unfold dtF
  rw [va_up_ne _ _ (show 24 ≠ i by omega), va_up_self]
theorem sU90 (S : Tb) (v : Int32) {c : Nat} (h : c ≠ 9) (j : Nat) : sU S 9 0 v c j = S c j := by rw [sU_oc S 0 v h]
set_option maxHeartbeats 800000 in
set_option maxRecDepth 100000 in
theorem c_X1_mount (l : Launch) (G : GT) (f : Nat → Option Nat) (wa : Nat → Nat) (S M : Tb) (p1 p2 p3 : Int32) : Met l yX1_mount wsX1_mount ({ frames := 2, cells := 2, slots := 18, locals := 60 }) (va_Pc [.ref (gx G), .int p1, .int p2, .int p3] (Wo G (f, wa, S, M))) (Qi G (fun r u => r = (oc_mount S p1 p2 p3).1 ∧ ∃ (f' : Nat → Option Nat) (wa' : Nat → Nat), u = (f', wa', (oc_mount S p1 p2 p3).2, M))) 2 18 (gA G) := by
  refine m_head (cc := cX1_mount) (maxL := 4) (ret := (some .int)) (by decide) rfl (Nat.le_of_ble_eq_true rfl) ?_
  intro p e s m below meth c hx hb hml hr hlocks hown hts hw ls hl
  have hown : s.vm.findClass RX1 = some m.cls := hown
  have hl : lv_has ls 4 [(0, .ref (gx G)), (1, .int p1), (2, .int p2), (3, .int p3)] := hl
  have hin0 : ∀ w ∈ wsX00, w ∈ wsX1_mount := by decide +kernel
  have hin1 : ∀ w ∈ wsX10, w ∈ wsX1_mount := by decide +kernel
  have lk11 := hts (.fieldLink RX1 11 "LockerWall" "hooks" "[LLockerWall$Locker;") (by decide +kernel)
  refine lv_iload_n hx hb dX1_mount_0 rfl (lv_at hl 1 rfl) ?_
  refine k_i hw (va_runS (As := [.int p1]) (rest := []) ⟨hx, hb, hml, hown, hts⟩ (c_X1_isHook l G f wa S M p1) (va_cwS 1 hts gX1_mount_X1_isHook rfl rfl rfl (by decide +kernel) ⟨Nat.le_of_ble_eq_true rfl, Nat.le_of_ble_eq_true rfl⟩) (hw.preS _) rfl rfl hl.1 rfl (lv_room (Nat.le_of_ble_eq_true rfl)) dX1_mount_1 ⟨Nat.le_of_ble_eq_true rfl, Nat.le_of_ble_eq_true rfl⟩) (fun r u H locs hR hw => ?_)
  obtain ⟨hq, rfl⟩ := hR
  obtain rfl := hq.symm
  cases hh_1 : isH p1
  · skip
    refine W.eq (g2 := F0 m 4 ls [.int 0]) rfl ?_
    refine lv_if_eq (tgt := 14) hx hb dX1_mount_4 (by decide) (fun c_4 => ?_) (fun c_4 => ?_)
    · skip
      refine lv_iconst (v := (-1)) hx hb dX1_mount_14 (by decide) ?_
      refine W.widen (k := 2) (n := 18) (by decide) (by decide) ?_
      exact e_i hx hb hr hlocks hw dX1_mount_15 (leafC (by simp only [oc_mount, hd, lg, lg2, ↓reduceIte, hh_1, Bool.false_eq_true, c_4]))
    · skip
      exact absurd c_4 (by decide)
  · skip
    refine W.eq (g2 := F0 m 4 ls [.int 1]) rfl ?_
    obtain ⟨i, hi, rfl⟩ := isH_of hh_1
    refine lv_if_eq (tgt := 14) hx hb dX1_mount_4 (by decide) (fun c_4 => ?_) (fun c_4 => ?_)
    · skip
      exact absurd c_4 (by decide)
    · skip
      refine lv_iload_n hx hb dX1_mount_7 rfl (lv_at hl 2 rfl) ?_
      refine k_i hw (va_runS (As := [.int p2]) (rest := []) ⟨hx, hb, hml, hown, hts⟩ (c_X1_isWeight l G f wa S M p2) (va_cwS 1 hts gX1_mount_X1_isWeight rfl rfl rfl (by decide +kernel) ⟨Nat.le_of_ble_eq_true rfl, Nat.le_of_ble_eq_true rfl⟩) (hw.preS _) rfl rfl hl.1 rfl (lv_room (Nat.le_of_ble_eq_true rfl)) dX1_mount_8 ⟨Nat.le_of_ble_eq_true rfl, Nat.le_of_ble_eq_true rfl⟩) (fun r u H locs hR hw => ?_)
      obtain ⟨hq, rfl⟩ := hR
      obtain rfl := hq.symm
      cases hh_8 : isWt p2
      · skip
        refine W.eq (g2 := F0 m 11 ls [.int 0]) rfl ?_
        refine lv_if_ne (tgt := 16) hx hb dX1_mount_11 (by decide) (fun c_11 => ?_) (fun c_11 => ?_)
        · skip
          exact absurd c_11 (by decide)
        · skip
          refine lv_iconst (v := (-1)) hx hb dX1_mount_14 (by decide) ?_
          refine W.widen (k := 2) (n := 18) (by decide) (by decide) ?_
          exact e_i hx hb hr hlocks hw dX1_mount_15 (leafC (by simp only [oc_mount, hd, lg, lg2, ↓reduceIte, isH_nI hi, cl24 hi, c_4, hh_8, Bool.false_eq_true, c_11]))
      · skip
        refine W.eq (g2 := F0 m 11 ls [.int 1]) rfl ?_
        refine lv_if_ne (tgt := 16) hx hb dX1_mount_11 (by decide) (fun c_11 => ?_) (fun c_11 => ?_)
        · skip
          refine lv_aload_n hx hb dX1_mount_16 rfl (lv_at hl 0 rfl) ?_
          refine r_getH hx hb hts hin1 hown hw lk11 dX1_mount_17 ?_
          refine lv_iload_n hx hb dX1_mount_20 rfl (lv_at hl 1 rfl) ?_
          rcases hf_i : f i with _ | a_i
          · skip
            have h0_i : S 0 i = 0 := (show S 0 i = oN (f i) from hw.col0 (show i < 25 by omega)).trans (by rw [hf_i]; rfl)
            refine r_hld (v := .null) hx hb hw (i) (rfl) (show i < 24 by omega) (by rw [hf_i]; rfl) dX1_mount_21 ?_
            refine lv_ifnullN (tgt := 28) hx hb dX1_mount_22 (by decide) ?_
            refine lv_aload_n hx hb dX1_mount_28 rfl (lv_at hl 0 rfl) ?_
            refine r_getH hx hb hts hin1 hown hw lk11 dX1_mount_29 ?_
            refine lv_iload_n hx hb dX1_mount_32 rfl (lv_at hl 1 rfl) ?_
            refine r_newL hx hb hts hin0 hown (hts (.classLink RX1 9 RX0) (by decide +kernel)) (hts (.instantiable RX0 8) (by decide +kernel)) (hts (.initialized RX0) (by decide +kernel)) hw (Nat.le_of_ble_eq_true rfl) (Nat.le_of_ble_eq_true rfl) dX1_mount_33 (fun q H hwn => ?_)
            refine lv_dup hx hb dX1_mount_36 rfl ?_
            refine lv_iload_n hx hb dX1_mount_37 rfl (lv_at hl 2 rfl) ?_
            refine lv_iload_n hx hb dX1_mount_38 rfl (lv_at hl 3 rfl) ?_
            refine va_callv (va_runI (As := [.int p2, .int p3]) (rest := [.ref q, .int (nI i), .ref (gh G)]) ⟨hx, hb, hml, hown, hts⟩ (c_X0_init l G f wa S M q p2 p3) (cwI 2 hts gX1_mount_X0_init rfl rfl rfl (hts (.initialized RX0) (by decide +kernel)) (hts (.methodLink RX1 26 yX0_init) (by decide +kernel)) (hts (.instanceMethod yX0_init) (by decide +kernel)) rfl (by decide +kernel) ⟨Nat.le_of_ble_eq_true rfl, Nat.le_of_ble_eq_true rfl⟩) (hwn.pre _) rfl rfl hl.1 rfl (lv_room (Nat.le_of_ble_eq_true rfl)) dX1_mount_39 ⟨Nat.le_of_ble_eq_true rfl, Nat.le_of_ble_eq_true rfl⟩) hwn.2.2.2 (fun _ _ h => h) (fun _ h => h) (fun u t H locs ht hvm hR hB _ _ hS => ?_)
            obtain ⟨w24, rfl⟩ := hR
            have hw : Wi G (va_up f 24 (some q), va_up wa 24 w24, nwS S p2 p3, M) s H locs := ⟨ht ▸ hB.1, hwn.2.1, hwn.2.2.1, hS⟩
            refine r_hst hx hb hw hi (va_up_self _ _ _) dX1_mount_42 (fun H locs hw => ?_)
            refine lv_iconst (v := 1) hx hb dX1_mount_43 (by decide) ?_
            refine W.widen (k := 2) (n := 18) (by decide) (by decide) ?_
            exact e_i hx hb hr hlocks hw dX1_mount_44 (leafC (by simp only [oc_mount, hd, lg, lg2, ↓reduceIte, isH_nI hi, cl24 hi, c_4, hh_8, c_11, h0_i]))
          · skip
            have h0_i : ¬ S 0 i = 0 := by rw [(show S 0 i = oN (f i) from hw.col0 (show i < 25 by omega)), hf_i]; exact oN_s _
            refine r_hld (v := .ref a_i) hx hb hw (i) (rfl) (show i < 24 by omega) (by rw [hf_i]; rfl) dX1_mount_21 ?_
            refine lv_ifnull hx hb dX1_mount_22 ?_
            refine lv_bipush (v := (-5)) hx hb dX1_mount_25 (by decide) ?_
            refine W.widen (k := 2) (n := 18) (by decide) (by decide) ?_
            exact e_i hx hb hr hlocks hw dX1_mount_27 (leafC (by simp only [oc_mount, hd, lg, lg2, ↓reduceIte, isH_nI hi, cl24 hi, c_4, hh_8, c_11, h0_i]))
        · skip
          exact absurd c_11 (by decide)

set_option maxHeartbeats 800000 in
set_option maxRecDepth 100000 in
theorem c_X1_unmount (l : Launch) (G : GT) (f : Nat → Option Nat) (wa : Nat → Nat) (S M : Tb) (p1 : Int32) : Met l yX1_unmount wsX1_unmount (rk 2) (va_Pc [.ref (gx G), .int p1] (Wo G (f, wa, S, M))) (Qi G (fun r u => r = (oc_unmount S p1).1 ∧ ∃ (f' : Nat → Option Nat) (wa' : Nat → Nat), u = (f', wa', (oc_unmount S p1).2, M))) 0 0 (gA G) := by
  refine m_head (cc := cX1_unmount) (maxL := 3) (ret := (some .int)) (by decide) rfl (Nat.le_of_ble_eq_true rfl) ?_
  intro p e s m below meth c hx hb hml hr hlocks hown hts hw ls hl
  have hown : s.vm.findClass RX1 = some m.cls := hown
  have hl : lv_has ls 3 [(0, .ref (gx G)), (1, .int p1)] := hl
  have hin0 : ∀ w ∈ wsX00, w ∈ wsX1_unmount := by decide +kernel
  have hin1 : ∀ w ∈ wsX10, w ∈ wsX1_unmount := by decide +kernel
  have lk15 := hts (.fieldLink RX1 15 "LockerWall" "latchHolds" "I") (by decide +kernel)
  have lk33 := hts (.fieldLink RX1 33 "LockerWall$Locker" "count" "I") (by decide +kernel)
  have lk11 := hts (.fieldLink RX1 11 "LockerWall" "hooks" "[LLockerWall$Locker;") (by decide +kernel)
  have lk40 := hts (.fieldLink RX1 40 "LockerWall$Locker" "holds" "I") (by decide +kernel)
  refine lv_iload_n hx hb dX1_unmount_0 rfl (lv_at hl 1 rfl) ?_
  refine k_i hw (va_runS (As := [.int p1]) (rest := []) ⟨hx, hb, hml, hown, hts⟩ (c_X1_isHook l G f wa S M p1) (va_cwS 1 hts gX1_unmount_X1_isHook rfl rfl rfl (by decide +kernel) ⟨Nat.le_of_ble_eq_true rfl, Nat.le_of_ble_eq_true rfl⟩) (hw.preS _) rfl rfl hl.1 rfl (lv_room (Nat.le_of_ble_eq_true rfl)) dX1_unmount_1 ⟨Nat.le_of_ble_eq_true rfl, Nat.le_of_ble_eq_true rfl⟩) (fun r u H locs hR hw => ?_)
  obtain ⟨hq, rfl⟩ := hR
  obtain rfl := hq.symm
  cases hh_1 : isH p1
  · skip
    refine W.eq (g2 := F0 m 4 ls [.int 0]) rfl ?_
    refine lv_if_ne (tgt := 9) hx hb dX1_unmount_4 (by decide) (fun c_4 => ?_) (fun c_4 => ?_)
    · skip
      exact absurd c_4 (by decide)
    · skip
      refine lv_iconst (v := (-1)) hx hb dX1_unmount_7 (by decide) ?_
      exact e_i hx hb hr hlocks hw dX1_unmount_8 (leafC (by simp only [oc_unmount, oj_unmount, sU90 S _ (show 0 ≠ 9 by decide), sU90 S _ (show 5 ≠ 9 by decide), sU90 S _ (show 6 ≠ 9 by decide), hd, lg, lg2, ↓reduceIte, hh_1, Bool.false_eq_true, c_4]))
  · skip
    refine W.eq (g2 := F0 m 4 ls [.int 1]) rfl ?_
    obtain ⟨i, hi, rfl⟩ := isH_of hh_1
    refine lv_if_ne (tgt := 9) hx hb dX1_unmount_4 (by decide) (fun c_4 => ?_) (fun c_4 => ?_)
    · skip
      refine lv_aload_n hx hb dX1_unmount_9 rfl (lv_at hl 0 rfl) ?_
      refine lv_dup hx hb dX1_unmount_10 rfl ?_
      refine r_getT hx hb hts hin1 hown hw lk15 dX1_unmount_11 ?_
      refine lv_iconst (v := 1) hx hb dX1_unmount_14 (by decide) ?_
      refine lv_iadd hx hb dX1_unmount_15 ?_
      refine r_putT hx hb hts hin1 hown hw lk15 dX1_unmount_16 (fun H locs hw => ?_)
      have hw : Wi G (f, wa, sU S 9 0 ((S 9 0) + 1), M) s H locs := hw
      refine lv_aload_n hx hb dX1_unmount_19 rfl (lv_at hl 0 rfl) ?_
      refine lv_iload_n hx hb dX1_unmount_20 rfl (lv_at hl 1 rfl) ?_
      rcases hf_i : f i with _ | a_i
      · skip
        have h0_i : S 0 i = 0 := (show S 0 i = oN (f i) from hw.col0 (show i < 25 by omega)).trans (by rw [hf_i]; rfl)
        refine k_o hw (va_runV (As := [.int (nI i)]) (rest := []) ⟨hx, hb, hml, hown, hts⟩ (c_X1_holdAt_n l G f wa (sU S 9 0 ((S 9 0) + 1)) M (show i < 24 by omega) hf_i) (cwV 1 hts gX1_unmount_X1_holdAt rfl rfl rfl (by decide +kernel) ⟨Nat.le_of_ble_eq_true rfl, Nat.le_of_ble_eq_true rfl⟩) (hw.preX _) rfl rfl hl.1 rfl (lv_room (Nat.le_of_ble_eq_true rfl)) dX1_unmount_21 ⟨Nat.le_of_ble_eq_true rfl, Nat.le_of_ble_eq_true rfl⟩) (fun r u H locs hR hw => ?_)
        obtain ⟨hq, rfl⟩ := hR
        obtain rfl := hq.symm
        refine W.eq (g2 := F0 m 24 ls [.null]) rfl ?_
        refine lv_astore_nN (lv' := [(2, .null), (0, .ref (gx G)), (1, .int (nI i))]) hx hb dX1_unmount_24 rfl hl (by decide) rfl (fun ls hl => ?_)
        refine lv_aload_nN hx hb dX1_unmount_25 rfl (lv_at hl 0 rfl) ?_
        refine lv_ifnonnullN hx hb dX1_unmount_26 ?_
        refine lv_bipush (v := (-2)) hx hb dX1_unmount_29 (by decide) ?_
        exact e_i hx hb hr hlocks hw dX1_unmount_31 (leafC (by simp only [oc_unmount, oj_unmount, sU90 S _ (show 0 ≠ 9 by decide), sU90 S _ (show 5 ≠ 9 by decide), sU90 S _ (show 6 ≠ 9 by decide), hd, lg, lg2, ↓reduceIte, isH_nI hi, cl24 hi, c_4, h0_i]))
      · skip
        have h0_i : ¬ S 0 i = 0 := by rw [(show S 0 i = oN (f i) from hw.col0 (show i < 25 by omega)), hf_i]; exact oN_s _
        refine k_o hw (va_runV (As := [.int (nI i)]) (rest := []) ⟨hx, hb, hml, hown, hts⟩ (c_X1_holdAt_s l G f wa (sU S 9 0 ((S 9 0) + 1)) M (show i < 24 by omega) hf_i) (cwV 1 hts gX1_unmount_X1_holdAt rfl rfl rfl (by decide +kernel) ⟨Nat.le_of_ble_eq_true rfl, Nat.le_of_ble_eq_true rfl⟩) (hw.preX _) rfl rfl hl.1 rfl (lv_room (Nat.le_of_ble_eq_true rfl)) dX1_unmount_21 ⟨Nat.le_of_ble_eq_true rfl, Nat.le_of_ble_eq_true rfl⟩) (fun r u H locs hR hw => ?_)
        obtain ⟨hq, rfl⟩ := hR
        obtain rfl := hq.symm
        refine W.eq (g2 := F0 m 24 ls [.ref a_i]) rfl ?_
        refine lv_astore_n (lv' := [(2, .ref a_i), (0, .ref (gx G)), (1, .int (nI i))]) hx hb dX1_unmount_24 rfl hl (by decide) rfl (fun ls hl => ?_)
        refine lv_aload_n hx hb dX1_unmount_25 rfl (lv_at hl 0 rfl) ?_
        refine lv_ifnonnull (tgt := 32) hx hb dX1_unmount_26 (by decide) ?_
        refine lv_aload_n hx hb dX1_unmount_32 rfl (lv_at hl 0 rfl) ?_
        refine r_get0 (v := .int (S 5 i)) hx hb hts hin0 hown hw (show i < 25 by omega) hf_i 5 (by decide) lk33 rfl dX1_unmount_33 ?_
        refine lv_if_le (tgt := 47) hx hb dX1_unmount_36 (by decide) (fun c_36 => ?_) (fun c_36 => ?_)
        · skip
          refine lv_aload_n hx hb dX1_unmount_47 rfl (lv_at hl 1 rfl) ?_
          refine r_getH hx hb hts hin1 hown hw lk11 dX1_unmount_48 ?_
          refine lv_iload_n hx hb dX1_unmount_51 rfl (lv_at hl 2 rfl) ?_
          refine lv_null hx hb dX1_unmount_52 ?_
          refine r_hstN hx hb hw hi hf_i dX1_unmount_53 (fun H locs hw => ?_)
          have hf24 := dtF_24 f a_i hi
          refine lv_aload_n hx hb dX1_unmount_54 rfl (lv_at hl 0 rfl) ?_
          refine lv_iconst (v := 1) hx hb dX1_unmount_55 (by decide) ?_
          refine lv_aload_n hx hb dX1_unmount_56 rfl (lv_at hl 0 rfl) ?_
          refine r_get0 (v := .int (dtS (sU (sU S 9 0 ((S 9 0) + 1)) 6 i ((S 6 i) + 1)) i 6 24)) hx hb hts hin0 hown hw (show 24 < 25 by decide) hf24 6 (by decide) lk40 rfl dX1_unmount_57 ?_
          refine k_i hw (va_runV (As := [.int 1, .int (dtS (sU (sU S 9 0 ((S 9 0) + 1)) 6 i ((S 6 i) + 1)) i 6 24)]) (rest := []) ⟨hx, hb, hml, hown, hts⟩ (c_X0_letGo l G (dtF f i a_i) (va_up wa 24 (wa i)) (dtS (sU (sU S 9 0 ((S 9 0) + 1)) 6 i ((S 6 i) + 1)) i) M (show 24 < 25 by decide) hf24 1 (dtS (sU (sU S 9 0 ((S 9 0) + 1)) 6 i ((S 6 i) + 1)) i 6 24)) (cwV 2 hts gX1_unmount_X0_letGo rfl rfl rfl (by decide +kernel) ⟨Nat.le_of_ble_eq_true rfl, Nat.le_of_ble_eq_true rfl⟩) (hw.preL (show 24 < 25 by decide) hf24 _) rfl rfl hl.1 rfl (lv_room (Nat.le_of_ble_eq_true rfl)) dX1_unmount_60 ⟨Nat.le_of_ble_eq_true rfl, Nat.le_of_ble_eq_true rfl⟩) (fun r u H locs hR hw => ?_)
          obtain ⟨hq, rfl⟩ := hR
          obtain rfl := hq.symm
          exact e_i hx hb hr hlocks hw dX1_unmount_63 (leafC (by simp only [oc_unmount, oj_unmount, sU90 S _ (show 0 ≠ 9 by decide), sU90 S _ (show 5 ≠ 9 by decide), sU90 S _ (show 6 ≠ 9 by decide), hd, lg, lg2, ↓reduceIte, isH_nI hi, cl24 hi, c_4, h0_i, c_36]))
        · skip
          refine lv_aload_n hx hb dX1_unmount_39 rfl (lv_at hl 0 rfl) ?_
          refine lv_iconst (v := 2) hx hb dX1_unmount_40 (by decide) ?_
          refine lv_bipush (v := (-6)) hx hb dX1_unmount_41 (by decide) ?_
          refine k_i hw (va_runV (As := [.int 2, .int (-6)]) (rest := []) ⟨hx, hb, hml, hown, hts⟩ (c_X0_letGo l G f wa (sU (sU S 9 0 ((S 9 0) + 1)) 6 i ((S 6 i) + 1)) M (show i < 25 by omega) hf_i 2 (-6)) (cwV 2 hts gX1_unmount_X0_letGo rfl rfl rfl (by decide +kernel) ⟨Nat.le_of_ble_eq_true rfl, Nat.le_of_ble_eq_true rfl⟩) (hw.preL (show i < 25 by omega) hf_i _) rfl rfl hl.1 rfl (lv_room (Nat.le_of_ble_eq_true rfl)) dX1_unmount_43 ⟨Nat.le_of_ble_eq_true rfl, Nat.le_of_ble_eq_true rfl⟩) (fun r u H locs hR hw => ?_)
          obtain ⟨hq, rfl⟩ := hR
          obtain rfl := hq.symm
          exact e_i hx hb hr hlocks hw dX1_unmount_46 (leafC (by simp only [oc_unmount, oj_unmount, sU90 S _ (show 0 ≠ 9 by decide), sU90 S _ (show 5 ≠ 9 by decide), sU90 S _ (show 6 ≠ 9 by decide), hd, lg, lg2, ↓reduceIte, isH_nI hi, cl24 hi, c_4, h0_i, c_36]))
    · skip
      exact absurd c_4 (by decide)
end
section
/-! what the reference's methods do, as they are written -/
def ml (M : Tb) (j : Nat) (how : Int32) : Tb := sU (sU M 6 j (M 6 j + 1)) 7 j how
def ml2 (M : Tb) (i j : Nat) (how : Int32) : Tb := sU (sU (sU (sU M 6 i (M 6 i + 1)) 6 j (sU M 6 i (M 6 i + 1) 6 j + 1)) 7 j how) 7 i how
theorem nlt_le {x y : Int32} (h : ¬ y < x) : x ≤ y := by
  rw [Int32.lt_iff_toInt_lt] at h
  rw [Int32.le_iff_toInt_le]
  omega
theorem lt_nle {x y : Int32} (h : y < x) : ¬ x ≤ y := by
  rw [Int32.lt_iff_toInt_lt] at h
  rw [Int32.le_iff_toInt_le]
  omega
def om_mount (M : Tb) (p1 p2 p3 : Int32) : Int32 × Tb := if isH p1 = true then (if isWt p2 = true then (if M 0 p1.toNatClampNeg = 0 then (1, sU (sU (sU (sU (sU (sU (sU (sU M 0 p1.toNatClampNeg 1) 1 p1.toNatClampNeg p2) 2 p1.toNatClampNeg p3) 3 p1.toNatClampNeg 0) 4 p1.toNatClampNeg 0) 5 p1.toNatClampNeg 0) 6 p1.toNatClampNeg 0) 7 p1.toNatClampNeg 0) else (-5, M)) else (-1, M)) else (-1, M)
def mj_unmount (M : Tb) (j : Nat) : Int32 × Tb := if M 0 j = 0 then (-2, M) else if M 5 j ≤ 0 then (M 6 j + 1, ml (sU M 0 j 0) j 1) else (-6, ml M j 2)
def om_unmount (M : Tb) (p1 : Int32) : Int32 × Tb := if isH p1 = true then mj_unmount (sU M 9 0 (M 9 0 + 1)) p1.toNatClampNeg else (-1, M)
def mj_open (M : Tb) (j : Nat) (c : Int32) : Int32 × Tb := if M 0 j = 0 then (-2, M) else if M 4 j = 3 then (-4, ml M j 2) else if c = M 2 j then (1, ml (sU (sU M 3 j 1) 4 j 0) j 1) else (-7, ml (sU M 4 j (M 4 j + 1)) j 4)
def om_open (M : Tb) (p1 p2 : Int32) : Int32 × Tb := if isH p1 = true then mj_open M p1.toNatClampNeg p2 else (-1, M)
def mj_shut (M : Tb) (j : Nat) : Int32 × Tb := if M 0 j = 0 then (-2, M) else if M 3 j = 0 then (-3, ml M j 2) else (1, ml (sU M 3 j 0) j 1)
def om_shut (M : Tb) (p1 : Int32) : Int32 × Tb := if isH p1 = true then mj_shut M p1.toNatClampNeg else (-1, M)
def mj_put (M : Tb) (j : Nat) (w : Int32) : Int32 × Tb := if M 0 j = 0 then (-2, M) else if M 3 j = 0 then (-3, ml M j 2) else if okA M j w = true then (acS M j w 5 j, ml (acS M j w) j 1) else (-5, ml M j 4)
def om_put (M : Tb) (p1 p2 : Int32) : Int32 × Tb := if isH p1 = true then (if isWt p2 = true then mj_put M p1.toNatClampNeg p2 else (-1, M)) else (-1, M)
def mj_take (M : Tb) (j : Nat) : Int32 × Tb := if M 0 j = 0 then (-2, M) else if M 3 j = 0 then (-3, ml M j 2) else if M 5 j = 0 then (-6, ml M j 4) else (rmV M j, ml (rmS M j) j 1)
def om_take (M : Tb) (p1 : Int32) : Int32 × Tb := if isH p1 = true then mj_take M p1.toNatClampNeg else (-1, M)
def mj_move (M : Tb) (i j : Nat) : Int32 × Tb := if M 0 i = 0 then (-2, M) else if M 0 j = 0 then (-2, ml M i 4) else if M 3 i = 0 then (-3, ml2 M i j 2) else if M 3 j = 0 then (-3, ml2 M i j 2) else if M 5 i = 0 then (-6, ml2 M i j 4) else if okA (rmS M i) j (rmV M i) = true then (rmV M i, ml2 (acS (rmS M i) j (rmV M i)) i j 1) else (-5, ml2 (acS (rmS M i) i (rmV M i)) i j 4)
def om_move (M : Tb) (p1 p2 : Int32) : Int32 × Tb := if isH p1 = true then (if isH p2 = true then mj_move M p1.toNatClampNeg p2.toNatClampNeg else (-1, M)) else (-1, M)
def of_sw (i j : Nat) : Nat → Nat → Tb → Tb
  | 0, _, M => M
  | d + 1, k, M => of_sw i j d (k + 1) (sU (sU M 8 (10 * i + k) (M 8 (10 * j + k))) 8 (10 * j + k) (M 8 (10 * i + k)))
def swM (M : Tb) (i j : Nat) : Tb := sU (sU (of_sw i j 10 0 M) 5 i (of_sw i j 10 0 M 5 j)) 5 j (of_sw i j 10 0 M 5 i)
def mj_swap (M : Tb) (i j : Nat) : Int32 × Tb := if M 0 i = 0 then (-2, M) else if M 0 j = 0 then (-2, ml M i 4) else if M 3 i = 0 then (-3, ml2 M i j 2) else if M 3 j = 0 then (-3, ml2 M i j 2) else if M 1 j < wt M i then (-5, ml2 M i j 4) else if wt M j ≤ M 1 i then (swM M i j 5 i + swM M i j 5 j, ml2 (swM M i j) i j 1) else (-5, ml2 M i j 4)
def om_swap (M : Tb) (p1 p2 : Int32) : Int32 × Tb := if isH p1 = true then (if isH p2 = true then mj_swap M p1.toNatClampNeg p2.toNatClampNeg else (-1, M)) else (-1, M)
def mf_find (w : Int32) : Nat → Nat → Tb → Int32 × Tb
  | 0, _, M => (-8, M)
  | d + 1, h, M => if M 0 h = 0 then mf_find w d (h + 1) M else if M 3 h = 0 then mf_find w d (h + 1) (ml M h 3) else if has M h w = true then (nI h, ml M h 3) else mf_find w d (h + 1) (ml M h 1)
def om_find (M : Tb) (p1 : Int32) : Int32 × Tb := if isWt p1 = true then mf_find p1 24 0 M else (-1, M)
def mf_first (w : Int32) : Nat → Nat → Tb → Int32 × Tb
  | 0, _, M => (-8, M)
  | d + 1, h, M => if M 0 h = 0 then mf_first w d (h + 1) M else if wt M h < w then mf_first w d (h + 1) (ml M h 1) else (nI h, ml M h 2)
def om_first (M : Tb) (p1 : Int32) : Int32 × Tb := if 0 ≤ p1 then mf_first p1 24 0 M else (-1, M)
def mf_tally : Nat → Nat → Int64 → Tb → Int64 × Tb
  | 0, _, z, M => (z, M)
  | d + 1, h, z, M => if M 0 h = 0 then mf_tally d (h + 1) z M else mf_tally d (h + 1) (z + (wt M h).toInt64 * (nI h + 1).toInt64) (ml M h 1)
def om_tally (M : Tb) : Int64 × Tb := mf_tally 24 0 0 (sU M 9 0 (M 9 0 + 1))
def mf_cnt (i : Nat) (M : Tb) : Nat → Nat → Int32 → Nat × Int32
  | 0, k, z => (k, z)
  | d + 1, k, z => if M 0 ((i + k) % 24) = 0 then (k, z) else mf_cnt i M d (k + 1) (z + wt M ((i + k) % 24))
def mf_let (i : Nat) (how : Int32) : Nat → Tb → Tb
  | 0, M => M
  | k + 1, M => mf_let i how k (ml M ((i + k) % 24) how)
def mj_weigh (M : Tb) (i n : Nat) : Int32 × Tb := if nI n ≤ nI (mf_cnt i M n 0 0).1 then ((mf_cnt i M n 0 0).2, mf_let i 2 (mf_cnt i M n 0 0).1 M) else (-2, mf_let i 4 (mf_cnt i M n 0 0).1 M)
def om_weigh (M : Tb) (p1 p2 : Int32) : Int32 × Tb := if isH p1 = true then (if p2 < 0 then (-1, M) else if p2 ≤ 12 then mj_weigh (sU M 9 0 (M 9 0 + 1)) p1.toNatClampNeg p2.toNatClampNeg else (-1, M)) else (-1, M)
def mj_drop (M : Tb) (j n : Nat) (m : Int32) : Int32 × Tb := if M 0 j = 0 then (-2, M) else if M 3 j = 0 then (-3, ml M j 2) else ((of_drop j m n 0 M).1, ml (of_drop j m n 0 M).2 j 1)
def om_drop (M : Tb) (p1 p2 p3 : Int32) : Int32 × Tb := if isH p1 = true then (if p2 < 1 then (-1, M) else if p2 ≤ 10 then mj_drop M p1.toNatClampNeg p2.toNatClampNeg p3 else (-1, M)) else (-1, M)
def mj_recode (M : Tb) (j : Nat) (c : Int32) : Int32 × Tb := if M 0 j = 0 then (-2, M) else if M 3 j = 0 then (-7, sU (sU M 6 j (M 6 j + 3)) 7 j 4) else (1, sU (sU (sU M 6 j (M 6 j + 3)) 7 j 2) 2 j c)
def om_recode (M : Tb) (p1 p2 : Int32) : Int32 × Tb := if isH p1 = true then mj_recode M p1.toNatClampNeg p2 else (-1, M)
def om_told (M : Tb) (p1 p2 : Int32) : Int32 × Tb := if isH p1 = true then (if p2 < 0 then (-1, M) else if p2 ≤ 8 then (if p2 = 0 then (if M 0 p1.toNatClampNeg = 0 then (0, M) else (1, M)) else (if M 0 p1.toNatClampNeg = 0 then (-2, M) else (factS M p1.toNatClampNeg p2.toNatClampNeg, M))) else (-1, M)) else (-1, M)
def om_item (M : Tb) (p1 p2 : Int32) : Int32 × Tb := if isH p1 = true then (if M 0 p1.toNatClampNeg = 0 then (-2, M) else (wOf M p1.toNatClampNeg p2, M)) else (-1, M)
theorem leafM {f : Nat → Option Nat} {wa : Nat → Nat} {S M' : Tb} {r : Int32} {o : Int32 × Tb} (h : o = (r, M')) : r = o.1 ∧ ((f, wa, S, M') : WT) = (f, wa, S, o.2) := by
  subst h
  exact ⟨rfl, rfl⟩
theorem leafML {f : Nat → Option Nat} {wa : Nat → Nat} {S M' : Tb} {r : Int64} {o : Int64 × Tb} (h : o = (r, M')) : r = o.1 ∧ ((f, wa, S, M') : WT) = (f, wa, S, o.2) := by
  subst h
  exact ⟨rfl, rfl⟩
theorem mf_cnt_le (i : Nat) (M : Tb) : ∀ (d k : Nat) (z : Int32), (mf_cnt i M d k z).1 ≤ k + d
  | 0, k, z => Nat.le_refl _
  | d + 1, k, z => by
    unfold mf_cnt
    split
    · exact Nat.le_add_right _ _
    · exact Nat.le_trans (mf_cnt_le i M d (k + 1) _) (by omega)
end
section
theorem okA_lt {S : Tb} {i n : Nat} {w : Int32} (hn : S 5 i = nI n) (h10 : n ≤ 10) (h : okA S i w = true) : n < 10 := by
  rcases Nat.lt_or_ge n 10 with q | q
  · exact q
  · have h1 : (10 : Int32) ≤ S 5 i := by rw [hn]; exact nI_le (a := 10) q (by omega)
    simp [okA, h1] at h
set_option maxHeartbeats 800000 in
set_option maxRecDepth 100000 in
theorem c_X2_let (l : Launch) (G : GT) (f : Nat → Option Nat) (wa : Nat → Nat) (S M : Tb) {j : Nat} (hj : j < 24) (p2 p3 : Int32) : Met l yX2_let wsX2_let (rk 0) (va_Pc [.ref (gm G), .int (nI j), .int p2, .int p3] (Wo G (f, wa, S, M))) (Qi G (fun r u => r = p3 ∧ u = (f, wa, S, ml M j p2))) 0 0 (gA G) := by
  refine m_head (cc := cX2_let) (maxL := 4) (ret := (some .int)) (by decide) rfl (Nat.le_of_ble_eq_true rfl) ?_
  intro p e s m below meth c hx hb hml hr hlocks hown hts hw ls hl
  have hown : s.vm.findClass RX2 = some m.cls := hown
  have hl : lv_has ls 4 [(0, .ref (gm G)), (1, .int (nI j)), (2, .int p2), (3, .int p3)] := hl
  have hin2 : ∀ w ∈ wsX20, w ∈ wsX2_let := by decide +kernel
  have lk29 := hts (.fieldLink RX2 29 "LockerWallModel" "holds" "[I") (by decide +kernel)
  have lk32 := hts (.fieldLink RX2 32 "LockerWallModel" "left" "[I") (by decide +kernel)
  refine lv_aload_n hx hb dX2_let_0 rfl (lv_at hl 0 rfl) ?_
  refine r_getM (v := .ref (gc G 6)) hx hb hts hin2 hown hw 6 (by decide) lk29 rfl dX2_let_1 ?_
  refine lv_iload_n hx hb dX2_let_4 rfl (lv_at hl 1 rfl) ?_
  refine lv_dup2_11 hx hb dX2_let_5 rfl rfl ?_
  refine r_mld hx hb hw 6 (by decide) (by decide) (j) (rfl) (show j < 24 by omega) dX2_let_6 ?_
  refine lv_iconst (v := 1) hx hb dX2_let_7 (by decide) ?_
  refine lv_iadd hx hb dX2_let_8 ?_
  refine r_mst hx hb hw 6 (by decide) (by decide) (j) (rfl) (show j < 24 by omega) dX2_let_9 (fun H locs hw => ?_)
  have hw : Wi G (f, wa, S, sU M 6 j ((M 6 j) + 1)) s H locs := hw
  refine lv_aload_n hx hb dX2_let_10 rfl (lv_at hl 0 rfl) ?_
  refine r_getM (v := .ref (gc G 7)) hx hb hts hin2 hown hw 7 (by decide) lk32 rfl dX2_let_11 ?_
  refine lv_iload_n hx hb dX2_let_14 rfl (lv_at hl 1 rfl) ?_
  refine lv_iload_n hx hb dX2_let_15 rfl (lv_at hl 2 rfl) ?_
  refine r_mst hx hb hw 7 (by decide) (by decide) (j) (rfl) (show j < 24 by omega) dX2_let_16 (fun H locs hw => ?_)
  have hw : Wi G (f, wa, S, sU (sU M 6 j ((M 6 j) + 1)) 7 j p2) s H locs := hw
  refine lv_iload_n hx hb dX2_let_17 rfl (lv_at hl 3 rfl) ?_
  exact e_i hx hb hr hlocks hw dX2_let_18 ⟨rfl, rfl⟩

set_option maxHeartbeats 800000 in
set_option maxRecDepth 100000 in
theorem c_X2_letBoth (l : Launch) (G : GT) (f : Nat → Option Nat) (wa : Nat → Nat) (S M : Tb) {i j : Nat} (hi : i < 24) (hj : j < 24) (p3 p4 : Int32) : Met l yX2_letBoth wsX2_letBoth (rk 0) (va_Pc [.ref (gm G), .int (nI i), .int (nI j), .int p3, .int p4] (Wo G (f, wa, S, M))) (Qi G (fun r u => r = p4 ∧ u = (f, wa, S, ml2 M i j p3))) 0 0 (gA G) := by
  refine m_head (cc := cX2_letBoth) (maxL := 5) (ret := (some .int)) (by decide) rfl (Nat.le_of_ble_eq_true rfl) ?_
  intro p e s m below meth c hx hb hml hr hlocks hown hts hw ls hl
  have hown : s.vm.findClass RX2 = some m.cls := hown
  have hl : lv_has ls 5 [(0, .ref (gm G)), (1, .int (nI i)), (2, .int (nI j)), (3, .int p3), (4, .int p4)] := hl
  have hin2 : ∀ w ∈ wsX20, w ∈ wsX2_letBoth := by decide +kernel
  have lk29 := hts (.fieldLink RX2 29 "LockerWallModel" "holds" "[I") (by decide +kernel)
  have lk32 := hts (.fieldLink RX2 32 "LockerWallModel" "left" "[I") (by decide +kernel)
  refine lv_aload_n hx hb dX2_letBoth_0 rfl (lv_at hl 0 rfl) ?_
  refine r_getM (v := .ref (gc G 6)) hx hb hts hin2 hown hw 6 (by decide) lk29 rfl dX2_letBoth_1 ?_
  refine lv_iload_n hx hb dX2_letBoth_4 rfl (lv_at hl 1 rfl) ?_
  refine lv_dup2_11 hx hb dX2_letBoth_5 rfl rfl ?_
  refine r_mld hx hb hw 6 (by decide) (by decide) (i) (rfl) (show i < 24 by omega) dX2_letBoth_6 ?_
  refine lv_iconst (v := 1) hx hb dX2_letBoth_7 (by decide) ?_
  refine lv_iadd hx hb dX2_letBoth_8 ?_
  refine r_mst hx hb hw 6 (by decide) (by decide) (i) (rfl) (show i < 24 by omega) dX2_letBoth_9 (fun H locs hw => ?_)
  have hw : Wi G (f, wa, S, sU M 6 i ((M 6 i) + 1)) s H locs := hw
  refine lv_aload_n hx hb dX2_letBoth_10 rfl (lv_at hl 0 rfl) ?_
  refine r_getM (v := .ref (gc G 6)) hx hb hts hin2 hown hw 6 (by decide) lk29 rfl dX2_letBoth_11 ?_
  refine lv_iload_n hx hb dX2_letBoth_14 rfl (lv_at hl 2 rfl) ?_
  refine lv_dup2_11 hx hb dX2_letBoth_15 rfl rfl ?_
  refine r_mld hx hb hw 6 (by decide) (by decide) (j) (rfl) (show j < 24 by omega) dX2_letBoth_16 ?_
  refine lv_iconst (v := 1) hx hb dX2_letBoth_17 (by decide) ?_
  refine lv_iadd hx hb dX2_letBoth_18 ?_
  refine r_mst hx hb hw 6 (by decide) (by decide) (j) (rfl) (show j < 24 by omega) dX2_letBoth_19 (fun H locs hw => ?_)
  have hw : Wi G (f, wa, S, sU (sU M 6 i ((M 6 i) + 1)) 6 j (((sU M 6 i ((M 6 i) + 1)) 6 j) + 1)) s H locs := hw
  refine lv_aload_n hx hb dX2_letBoth_20 rfl (lv_at hl 0 rfl) ?_
  refine r_getM (v := .ref (gc G 7)) hx hb hts hin2 hown hw 7 (by decide) lk32 rfl dX2_letBoth_21 ?_
  refine lv_iload_n hx hb dX2_letBoth_24 rfl (lv_at hl 2 rfl) ?_
  refine lv_iload_n hx hb dX2_letBoth_25 rfl (lv_at hl 3 rfl) ?_
  refine r_mst hx hb hw 7 (by decide) (by decide) (j) (rfl) (show j < 24 by omega) dX2_letBoth_26 (fun H locs hw => ?_)
  have hw : Wi G (f, wa, S, sU (sU (sU M 6 i ((M 6 i) + 1)) 6 j (((sU M 6 i ((M 6 i) + 1)) 6 j) + 1)) 7 j p3) s H locs := hw
  refine lv_aload_n hx hb dX2_letBoth_27 rfl (lv_at hl 0 rfl) ?_
  refine r_getM (v := .ref (gc G 7)) hx hb hts hin2 hown hw 7 (by decide) lk32 rfl dX2_letBoth_28 ?_
  refine lv_iload_n hx hb dX2_letBoth_31 rfl (lv_at hl 1 rfl) ?_
  refine lv_iload_n hx hb dX2_letBoth_32 rfl (lv_at hl 3 rfl) ?_
  refine r_mst hx hb hw 7 (by decide) (by decide) (i) (rfl) (show i < 24 by omega) dX2_letBoth_33 (fun H locs hw => ?_)
  have hw : Wi G (f, wa, S, sU (sU (sU (sU M 6 i ((M 6 i) + 1)) 6 j (((sU M 6 i ((M 6 i) + 1)) 6 j) + 1)) 7 j p3) 7 i p3) s H locs := hw
  refine lv_iload hx hb dX2_letBoth_34 (lv_at hl 4 rfl) ?_
  exact e_i hx hb hr hlocks hw dX2_letBoth_36 ⟨rfl, rfl⟩

set_option maxHeartbeats 800000 in
set_option maxRecDepth 100000 in
theorem c_X2_weight (l : Launch) (G : GT) (f : Nat → Option Nat) (wa : Nat → Nat) (S M : Tb) {i : Nat} (hi : i < 24) {n : Nat} (hn : M 5 i = nI n) (h10 : n ≤ 10) : Met l yX2_weight wsX2_weight (rk 0) (va_Pc [.ref (gm G), .int (nI i)] (Wo G (f, wa, S, M))) (Qi G (fun r u => r = wt M i ∧ u = (f, wa, S, M))) 0 0 (gA G) := by
  refine m_head (cc := cX2_weight) (maxL := 4) (ret := (some .int)) (by decide) rfl (Nat.le_of_ble_eq_true rfl) ?_
  intro p e s m below meth c hx hb hml hr hlocks hown hts hw ls hl
  have hown : s.vm.findClass RX2 = some m.cls := hown
  have hl : lv_has ls 4 [(0, .ref (gm G)), (1, .int (nI i))] := hl
  have hin2 : ∀ w ∈ wsX20, w ∈ wsX2_weight := by decide +kernel
  have lk26 := hts (.fieldLink RX2 26 "LockerWallModel" "many" "[I") (by decide +kernel)
  have lk35 := hts (.fieldLink RX2 35 "LockerWallModel" "item" "[I") (by decide +kernel)
  refine lv_iconst (v := 0) hx hb dX2_weight_0 (by decide) ?_
  refine lv_istore_n (lv' := [(2, .int 0), (0, .ref (gm G)), (1, .int (nI i))]) hx hb dX2_weight_1 rfl hl (by decide) rfl (fun ls hl => ?_)
  refine lv_iconst (v := 0) hx hb dX2_weight_2 (by decide) ?_
  refine lv_istore_n (lv' := [(3, .int 0), (2, .int 0), (0, .ref (gm G)), (1, .int (nI i))]) hx hb dX2_weight_3 rfl hl (by decide) rfl (fun ls hl => ?_)
  have loop : ∀ (d k : Nat) (H : Heap) (locs : List Loc) (ls : Array Slot), k + d = n → Wi G (f, wa, S, M) s H locs → lv_has ls 4 [(3, .int (nI k)), (2, .int (l_sum (fun k => M 8 (10 * i + k)) k)), (0, .ref (gm G)), (1, .int (nI i))] → W p l e (headSpec wsX2_weight (rk 0)).room s m [.ref (gm G), .int (nI i)].toArray below meth c H locs 0 0 (MQ below (Qi G (fun r u => r = wt M i ∧ u = (f, wa, S, M))) [.ref (gm G), .int (nI i)].toArray s 0 0 (gA G)) (F0 m 4 ls []) := by
    intro d
    induction d with
    | zero =>
      intro k H locs ls hk hw hl
      refine lv_iload_n hx hb dX2_weight_4 rfl (lv_at hl 0 rfl) ?_
      refine lv_aload_n hx hb dX2_weight_5 rfl (lv_at hl 2 rfl) ?_
      refine r_getM (v := .ref (gc G 5)) hx hb hts hin2 hown hw 5 (by decide) lk26 rfl dX2_weight_6 ?_
      refine lv_iload_n hx hb dX2_weight_9 rfl (lv_at hl 3 rfl) ?_
      refine r_mld hx hb hw 5 (by decide) (by decide) (i) (rfl) (show i < 24 by omega) dX2_weight_10 ?_
      refine lv_icmp_ge (tgt := 34) hx hb dX2_weight_11 (by decide) (fun c_11 => ?_) (fun c_11 => ?_)
      · skip
        refine lv_iload_n hx hb dX2_weight_34 rfl (lv_at hl 1 rfl) ?_
        exact e_i hx hb hr hlocks hw dX2_weight_35 ⟨by rw [wt_n hn h10, show n = k by omega], rfl⟩
      · skip
        exact absurd (by rw [hn]; exact nI_le (by omega) (by omega)) c_11
    | succ d ih =>
      intro k H locs ls hk hw hl
      refine lv_iload_n hx hb dX2_weight_4 rfl (lv_at hl 0 rfl) ?_
      refine lv_aload_n hx hb dX2_weight_5 rfl (lv_at hl 2 rfl) ?_
      refine r_getM (v := .ref (gc G 5)) hx hb hts hin2 hown hw 5 (by decide) lk26 rfl dX2_weight_6 ?_
      refine lv_iload_n hx hb dX2_weight_9 rfl (lv_at hl 3 rfl) ?_
      refine r_mld hx hb hw 5 (by decide) (by decide) (i) (rfl) (show i < 24 by omega) dX2_weight_10 ?_
      refine lv_icmp_ge (tgt := 34) hx hb dX2_weight_11 (by decide) (fun c_11 => ?_) (fun c_11 => ?_)
      · skip
        exact absurd c_11 (by rw [hn]; exact nI_ge (show k < n by omega) (by omega))
      · skip
        refine lv_iload_n hx hb dX2_weight_14 rfl (lv_at hl 1 rfl) ?_
        refine lv_aload_n hx hb dX2_weight_15 rfl (lv_at hl 2 rfl) ?_
        refine r_getM (v := .ref (gc G 8)) hx hb hts hin2 hown hw 8 (by decide) lk35 rfl dX2_weight_16 ?_
        refine lv_bipush (v := 10) hx hb dX2_weight_19 (by decide) ?_
        refine lv_iload_n hx hb dX2_weight_21 rfl (lv_at hl 3 rfl) ?_
        refine lv_imul hx hb dX2_weight_22 ?_
        refine lv_iload_n hx hb dX2_weight_23 rfl (lv_at hl 0 rfl) ?_
        refine lv_iadd hx hb dX2_weight_24 ?_
        refine r_mld hx hb hw 8 (by decide) (by decide) (10 * i + k) (ix10 _ _) (show 10 * i + k < 240 by omega) dX2_weight_25 ?_
        refine lv_iadd hx hb dX2_weight_26 ?_
        refine lv_istore_n (lv' := [(2, .int ((l_sum (fun k => M 8 (10 * i + k)) k) + (M 8 (10 * i + k)))), (3, .int (nI k)), (0, .ref (gm G)), (1, .int (nI i))]) hx hb dX2_weight_27 rfl hl (by decide) rfl (fun ls hl => ?_)
        refine lv_iinc (v := nI (k + 1)) (lv' := [(3, .int (nI (k + 1))), (2, .int ((l_sum (fun k => M 8 (10 * i + k)) k) + (M 8 (10 * i + k)))), (0, .ref (gm G)), (1, .int (nI i))]) hx hb dX2_weight_28 hl (k := 1) rfl (nI_1 _) (by decide) rfl (fun ls hl => ?_)
        refine lv_goto (tgt := 4) hx hb dX2_weight_31 (by decide) ?_
        exact ih (k + 1) H locs ls (by omega) hw (lv_sub hl [0, 1, 2, 3] rfl)
  exact loop n 0 _ _ _ (by omega) hw (lv_sub hl [0, 1, 2, 3] rfl)

set_option maxHeartbeats 800000 in
set_option maxRecDepth 100000 in
theorem c_X2_hasRoom (l : Launch) (G : GT) (f : Nat → Option Nat) (wa : Nat → Nat) (S M : Tb) {i : Nat} (hi : i < 24) {n : Nat} (hn : M 5 i = nI n) (h10 : n ≤ 10) (p2 : Int32) : Met l yX2_hasRoom wsX2_hasRoom (rk 1) (va_Pc [.ref (gm G), .int (nI i), .int p2] (Wo G (f, wa, S, M))) (Qi G (fun r u => r = b2i (okA M i p2) ∧ u = (f, wa, S, M))) 0 0 (gA G) := by
  refine m_head (cc := cX2_hasRoom) (maxL := 3) (ret := (some .boolean)) (by decide) rfl (Nat.le_of_ble_eq_true rfl) ?_
  intro p e s m below meth c hx hb hml hr hlocks hown hts hw ls hl
  have hown : s.vm.findClass RX2 = some m.cls := hown
  have hl : lv_has ls 3 [(0, .ref (gm G)), (1, .int (nI i)), (2, .int p2)] := hl
  have hin2 : ∀ w ∈ wsX20, w ∈ wsX2_hasRoom := by decide +kernel
  have lk26 := hts (.fieldLink RX2 26 "LockerWallModel" "many" "[I") (by decide +kernel)
  have lk13 := hts (.fieldLink RX2 13 "LockerWallModel" "room" "[I") (by decide +kernel)
  refine lv_aload_n hx hb dX2_hasRoom_0 rfl (lv_at hl 0 rfl) ?_
  refine r_getM (v := .ref (gc G 5)) hx hb hts hin2 hown hw 5 (by decide) lk26 rfl dX2_hasRoom_1 ?_
  refine lv_iload_n hx hb dX2_hasRoom_4 rfl (lv_at hl 1 rfl) ?_
  refine r_mld hx hb hw 5 (by decide) (by decide) (i) (rfl) (show i < 24 by omega) dX2_hasRoom_5 ?_
  refine lv_bipush (v := 10) hx hb dX2_hasRoom_6 (by decide) ?_
  refine lv_icmp_ge (tgt := 31) hx hb dX2_hasRoom_8 (by decide) (fun c_8 => ?_) (fun c_8 => ?_)
  · skip
    refine lv_iconst (v := 0) hx hb dX2_hasRoom_31 (by decide) ?_
    exact e_z hx hb hr hlocks hw rfl dX2_hasRoom_32 ⟨by simp [b2i, okA, c_8], rfl⟩
  · skip
    refine lv_aload_n hx hb dX2_hasRoom_11 rfl (lv_at hl 0 rfl) ?_
    refine lv_iload_n hx hb dX2_hasRoom_12 rfl (lv_at hl 1 rfl) ?_
    refine k_i hw (va_runV (As := [.int (nI i)]) (rest := []) ⟨hx, hb, hml, hown, hts⟩ (c_X2_weight l G f wa S M (i := i) (by omega) hn h10) (cwV 1 hts gX2_hasRoom_X2_weight rfl rfl rfl (by decide +kernel) ⟨Nat.le_of_ble_eq_true rfl, Nat.le_of_ble_eq_true rfl⟩) (hw.preM _) rfl rfl hl.1 rfl (lv_room (Nat.le_of_ble_eq_true rfl)) dX2_hasRoom_13 ⟨Nat.le_of_ble_eq_true rfl, Nat.le_of_ble_eq_true rfl⟩) (fun r u H locs hR hw => ?_)
    obtain ⟨hq, rfl⟩ := hR
    obtain rfl := hq.symm
    refine lv_iload_n hx hb dX2_hasRoom_16 rfl (lv_at hl 2 rfl) ?_
    refine lv_iadd hx hb dX2_hasRoom_17 ?_
    refine lv_aload_n hx hb dX2_hasRoom_18 rfl (lv_at hl 0 rfl) ?_
    refine r_getM (v := .ref (gc G 1)) hx hb hts hin2 hown hw 1 (by decide) lk13 rfl dX2_hasRoom_19 ?_
    refine lv_iload_n hx hb dX2_hasRoom_22 rfl (lv_at hl 1 rfl) ?_
    refine r_mld hx hb hw 1 (by decide) (by decide) (i) (rfl) (show i < 24 by omega) dX2_hasRoom_23 ?_
    refine lv_icmp_gt (tgt := 31) hx hb dX2_hasRoom_24 (by decide) (fun c_24 => ?_) (fun c_24 => ?_)
    · skip
      refine lv_iconst (v := 0) hx hb dX2_hasRoom_31 (by decide) ?_
      exact e_z hx hb hr hlocks hw rfl dX2_hasRoom_32 ⟨by simp [b2i, okA, c_8, lt_nle c_24], rfl⟩
    · skip
      refine lv_iconst (v := 1) hx hb dX2_hasRoom_27 (by decide) ?_
      refine lv_goto (tgt := 32) hx hb dX2_hasRoom_28 (by decide) ?_
      exact e_z hx hb hr hlocks hw rfl dX2_hasRoom_32 ⟨by simp [b2i, okA, c_8, nlt_le c_24], rfl⟩

set_option maxHeartbeats 800000 in
set_option maxRecDepth 100000 in
theorem c_X2_add (l : Launch) (G : GT) (f : Nat → Option Nat) (wa : Nat → Nat) (S M : Tb) {i : Nat} (hi : i < 24) {n : Nat} (hn : M 5 i = nI n) (h10 : n < 10) (p2 : Int32) : Met l yX2_add wsX2_add (rk 0) (va_Pc [.ref (gm G), .int (nI i), .int p2] (Wo G (f, wa, S, M))) (Qv G (fun u => u = (f, wa, S, acS M i p2))) 0 0 (gA G) := by
  refine m_head (cc := cX2_add) (maxL := 3) (ret := none) (by decide) rfl (Nat.le_of_ble_eq_true rfl) ?_
  intro p e s m below meth c hx hb hml hr hlocks hown hts hw ls hl
  have hown : s.vm.findClass RX2 = some m.cls := hown
  have hl : lv_has ls 3 [(0, .ref (gm G)), (1, .int (nI i)), (2, .int p2)] := hl
  have hin2 : ∀ w ∈ wsX20, w ∈ wsX2_add := by decide +kernel
  have lk35 := hts (.fieldLink RX2 35 "LockerWallModel" "item" "[I") (by decide +kernel)
  have lk26 := hts (.fieldLink RX2 26 "LockerWallModel" "many" "[I") (by decide +kernel)
  refine lv_aload_n hx hb dX2_add_0 rfl (lv_at hl 0 rfl) ?_
  refine r_getM (v := .ref (gc G 8)) hx hb hts hin2 hown hw 8 (by decide) lk35 rfl dX2_add_1 ?_
  refine lv_bipush (v := 10) hx hb dX2_add_4 (by decide) ?_
  refine lv_iload_n hx hb dX2_add_6 rfl (lv_at hl 1 rfl) ?_
  refine lv_imul hx hb dX2_add_7 ?_
  refine lv_aload_n hx hb dX2_add_8 rfl (lv_at hl 0 rfl) ?_
  refine r_getM (v := .ref (gc G 5)) hx hb hts hin2 hown hw 5 (by decide) lk26 rfl dX2_add_9 ?_
  refine lv_iload_n hx hb dX2_add_12 rfl (lv_at hl 1 rfl) ?_
  refine r_mld hx hb hw 5 (by decide) (by decide) (i) (rfl) (show i < 24 by omega) dX2_add_13 ?_
  refine lv_iadd hx hb dX2_add_14 ?_
  refine lv_iload_n hx hb dX2_add_15 rfl (lv_at hl 2 rfl) ?_
  refine r_mst hx hb hw 8 (by decide) (by decide) (10 * i + n) ((by rw [hn]; exact ix10 _ _)) (show 10 * i + n < 240 by omega) dX2_add_16 (fun H locs hw => ?_)
  have hw : Wi G (f, wa, S, sU M 8 (10 * i + n) p2) s H locs := hw
  refine lv_aload_n hx hb dX2_add_17 rfl (lv_at hl 0 rfl) ?_
  refine r_getM (v := .ref (gc G 5)) hx hb hts hin2 hown hw 5 (by decide) lk26 rfl dX2_add_18 ?_
  refine lv_iload_n hx hb dX2_add_21 rfl (lv_at hl 1 rfl) ?_
  refine lv_dup2_11 hx hb dX2_add_22 rfl rfl ?_
  refine r_mld hx hb hw 5 (by decide) (by decide) (i) (rfl) (show i < 24 by omega) dX2_add_23 ?_
  refine W.eq (g2 := F0 m 24 ls [.int (M 5 i), .int (nI i), .ref (gc G 5)]) rfl ?_
  refine lv_iconst (v := 1) hx hb dX2_add_24 (by decide) ?_
  refine lv_iadd hx hb dX2_add_25 ?_
  refine r_mst hx hb hw 5 (by decide) (by decide) (i) (rfl) (show i < 24 by omega) dX2_add_26 (fun H locs hw => ?_)
  have hw : Wi G (f, wa, S, sU (sU M 8 (10 * i + n) p2) 5 i ((M 5 i) + 1)) s H locs := hw
  exact e_v hx hb hr hlocks hw dX2_add_27 (by rw [acS, hn, nI_clamp (by omega), ← hn])

set_option maxHeartbeats 800000 in
set_option maxRecDepth 100000 in
theorem c_X2_takeLast (l : Launch) (G : GT) (f : Nat → Option Nat) (wa : Nat → Nat) (S M : Tb) {i : Nat} (hi : i < 24) {n : Nat} (hn : M 5 i = nI (n + 1)) (h10 : n < 10) : Met l yX2_takeLast wsX2_takeLast (rk 0) (va_Pc [.ref (gm G), .int (nI i)] (Wo G (f, wa, S, M))) (Qi G (fun r u => r = rmV M i ∧ u = (f, wa, S, rmS M i))) 0 0 (gA G) := by
  refine m_head (cc := cX2_takeLast) (maxL := 2) (ret := (some .int)) (by decide) rfl (Nat.le_of_ble_eq_true rfl) ?_
  intro p e s m below meth c hx hb hml hr hlocks hown hts hw ls hl
  have hown : s.vm.findClass RX2 = some m.cls := hown
  have hl : lv_has ls 2 [(0, .ref (gm G)), (1, .int (nI i))] := hl
  have hin2 : ∀ w ∈ wsX20, w ∈ wsX2_takeLast := by decide +kernel
  have lk26 := hts (.fieldLink RX2 26 "LockerWallModel" "many" "[I") (by decide +kernel)
  have lk35 := hts (.fieldLink RX2 35 "LockerWallModel" "item" "[I") (by decide +kernel)
  refine lv_aload_n hx hb dX2_takeLast_0 rfl (lv_at hl 0 rfl) ?_
  refine r_getM (v := .ref (gc G 5)) hx hb hts hin2 hown hw 5 (by decide) lk26 rfl dX2_takeLast_1 ?_
  refine lv_iload_n hx hb dX2_takeLast_4 rfl (lv_at hl 1 rfl) ?_
  refine lv_dup2_11 hx hb dX2_takeLast_5 rfl rfl ?_
  refine r_mld hx hb hw 5 (by decide) (by decide) (i) (rfl) (show i < 24 by omega) dX2_takeLast_6 ?_
  refine lv_iconst (v := 1) hx hb dX2_takeLast_7 (by decide) ?_
  refine lv_isub hx hb dX2_takeLast_8 ?_
  refine r_mst hx hb hw 5 (by decide) (by decide) (i) (rfl) (show i < 24 by omega) dX2_takeLast_9 (fun H locs hw => ?_)
  have hw : Wi G (f, wa, S, sU M 5 i ((M 5 i) - 1)) s H locs := hw
  refine lv_aload_n hx hb dX2_takeLast_10 rfl (lv_at hl 0 rfl) ?_
  refine r_getM (v := .ref (gc G 8)) hx hb hts hin2 hown hw 8 (by decide) lk35 rfl dX2_takeLast_11 ?_
  refine lv_bipush (v := 10) hx hb dX2_takeLast_14 (by decide) ?_
  refine lv_iload_n hx hb dX2_takeLast_16 rfl (lv_at hl 1 rfl) ?_
  refine lv_imul hx hb dX2_takeLast_17 ?_
  refine lv_aload_n hx hb dX2_takeLast_18 rfl (lv_at hl 0 rfl) ?_
  refine r_getM (v := .ref (gc G 5)) hx hb hts hin2 hown hw 5 (by decide) lk26 rfl dX2_takeLast_19 ?_
  refine lv_iload_n hx hb dX2_takeLast_22 rfl (lv_at hl 1 rfl) ?_
  refine r_mld hx hb hw 5 (by decide) (by decide) (i) (rfl) (show i < 24 by omega) dX2_takeLast_23 ?_
  refine W.eq (g2 := F0 m 24 ls [.int ((M 5 i) - 1), .int (10 * (nI i)), .ref (gc G 8)]) (by simp [sU]) ?_
  refine lv_iadd hx hb dX2_takeLast_24 ?_
  refine r_mld hx hb hw 8 (by decide) (by decide) (10 * i + n) ((by rw [hn, nI_pred]; exact ix10 _ _)) (show 10 * i + n < 240 by omega) dX2_takeLast_25 ?_
  refine W.eq (g2 := F0 m 26 ls [.int (M 8 (10 * i + n))]) rfl ?_
  exact e_i hx hb hr hlocks hw dX2_takeLast_26 ⟨by simp [rmV, hn, nI_pred, nI_clamp (show n < 2 ^ 31 by omega)], rfl⟩

set_option maxHeartbeats 800000 in
set_option maxRecDepth 100000 in
theorem c_X2_hasItem (l : Launch) (G : GT) (f : Nat → Option Nat) (wa : Nat → Nat) (S M : Tb) {i : Nat} (hi : i < 24) {n : Nat} (hn : M 5 i = nI n) (h10 : n ≤ 10) (p2 : Int32) : Met l yX2_hasItem wsX2_hasItem (rk 0) (va_Pc [.ref (gm G), .int (nI i), .int p2] (Wo G (f, wa, S, M))) (Qi G (fun r u => r = b2i (has M i p2) ∧ u = (f, wa, S, M))) 0 0 (gA G) := by
  refine m_head (cc := cX2_hasItem) (maxL := 5) (ret := (some .boolean)) (by decide) rfl (Nat.le_of_ble_eq_true rfl) ?_
  intro p e s m below meth c hx hb hml hr hlocks hown hts hw ls hl
  have hown : s.vm.findClass RX2 = some m.cls := hown
  have hl : lv_has ls 5 [(0, .ref (gm G)), (1, .int (nI i)), (2, .int p2)] := hl
  have hin2 : ∀ w ∈ wsX20, w ∈ wsX2_hasItem := by decide +kernel
  have lk26 := hts (.fieldLink RX2 26 "LockerWallModel" "many" "[I") (by decide +kernel)
  have lk35 := hts (.fieldLink RX2 35 "LockerWallModel" "item" "[I") (by decide +kernel)
  refine lv_iconst (v := 0) hx hb dX2_hasItem_0 (by decide) ?_
  refine lv_istore_n (lv' := [(3, .int 0), (0, .ref (gm G)), (1, .int (nI i)), (2, .int p2)]) hx hb dX2_hasItem_1 rfl hl (by decide) rfl (fun ls hl => ?_)
  refine lv_iconst (v := 0) hx hb dX2_hasItem_2 (by decide) ?_
  refine lv_istore (lv' := [(4, .int 0), (3, .int 0), (0, .ref (gm G)), (1, .int (nI i)), (2, .int p2)]) hx hb dX2_hasItem_3 hl (by decide) rfl (fun ls hl => ?_)
  have loop : ∀ (d k : Nat) (H : Heap) (locs : List Loc) (ls : Array Slot), k + d = n → Wi G (f, wa, S, M) s H locs → lv_has ls 5 [(4, .int (nI k)), (3, .int (b2i (hasI M i p2 k))), (0, .ref (gm G)), (1, .int (nI i)), (2, .int p2)] → W p l e (headSpec wsX2_hasItem (rk 0)).room s m [.ref (gm G), .int (nI i), .int p2].toArray below meth c H locs 0 0 (MQ below (Qi G (fun r u => r = b2i (has M i p2) ∧ u = (f, wa, S, M))) [.ref (gm G), .int (nI i), .int p2].toArray s 0 0 (gA G)) (F0 m 5 ls []) := by
    intro d
    induction d with
    | zero =>
      intro k H locs ls hk hw hl
      refine lv_iload hx hb dX2_hasItem_5 (lv_at hl 0 rfl) ?_
      refine lv_aload_n hx hb dX2_hasItem_7 rfl (lv_at hl 2 rfl) ?_
      refine r_getM (v := .ref (gc G 5)) hx hb hts hin2 hown hw 5 (by decide) lk26 rfl dX2_hasItem_8 ?_
      refine lv_iload_n hx hb dX2_hasItem_11 rfl (lv_at hl 3 rfl) ?_
      refine r_mld hx hb hw 5 (by decide) (by decide) (i) (rfl) (show i < 24 by omega) dX2_hasItem_12 ?_
      refine lv_icmp_ge (tgt := 48) hx hb dX2_hasItem_13 (by decide) (fun c_13 => ?_) (fun c_13 => ?_)
      · skip
        refine lv_iload_n hx hb dX2_hasItem_48 rfl (lv_at hl 1 rfl) ?_
        exact e_z hx hb hr hlocks hw (by cases hasI M i p2 k <;> rfl) dX2_hasItem_49 ⟨by rw [has_n hn h10, show n = k by omega], rfl⟩
      · skip
        exact absurd (by rw [hn]; exact nI_le (by omega) (by omega)) c_13
    | succ d ih =>
      intro k H locs ls hk hw hl
      refine lv_iload hx hb dX2_hasItem_5 (lv_at hl 0 rfl) ?_
      refine lv_aload_n hx hb dX2_hasItem_7 rfl (lv_at hl 2 rfl) ?_
      refine r_getM (v := .ref (gc G 5)) hx hb hts hin2 hown hw 5 (by decide) lk26 rfl dX2_hasItem_8 ?_
      refine lv_iload_n hx hb dX2_hasItem_11 rfl (lv_at hl 3 rfl) ?_
      refine r_mld hx hb hw 5 (by decide) (by decide) (i) (rfl) (show i < 24 by omega) dX2_hasItem_12 ?_
      refine lv_icmp_ge (tgt := 48) hx hb dX2_hasItem_13 (by decide) (fun c_13 => ?_) (fun c_13 => ?_)
      · skip
        exact absurd c_13 (by rw [hn]; exact nI_ge (show k < n by omega) (by omega))
      · skip
        cases hb2 : hasI M i p2 k
        · skip
          have hl : lv_has ls 5 [(4, .int (nI k)), (3, .int 0), (0, .ref (gm G)), (1, .int (nI i)), (2, .int p2)] := by rw [hb2] at hl; exact hl
          refine lv_iload_n hx hb dX2_hasItem_16 rfl (lv_at hl 1 rfl) ?_
          refine lv_if_ne (tgt := 36) hx hb dX2_hasItem_17 (by decide) (fun c_17 => ?_) (fun c_17 => ?_)
          · skip
            exact absurd c_17 (by decide)
          · skip
            refine lv_aload_n hx hb dX2_hasItem_20 rfl (lv_at hl 2 rfl) ?_
            refine r_getM (v := .ref (gc G 8)) hx hb hts hin2 hown hw 8 (by decide) lk35 rfl dX2_hasItem_21 ?_
            refine lv_bipush (v := 10) hx hb dX2_hasItem_24 (by decide) ?_
            refine lv_iload_n hx hb dX2_hasItem_26 rfl (lv_at hl 3 rfl) ?_
            refine lv_imul hx hb dX2_hasItem_27 ?_
            refine lv_iload hx hb dX2_hasItem_28 (lv_at hl 0 rfl) ?_
            refine lv_iadd hx hb dX2_hasItem_30 ?_
            refine r_mld hx hb hw 8 (by decide) (by decide) (10 * i + k) (ix10 _ _) (show 10 * i + k < 240 by omega) dX2_hasItem_31 ?_
            refine lv_iload_n hx hb dX2_hasItem_32 rfl (lv_at hl 4 rfl) ?_
            refine lv_icmp_ne (tgt := 40) hx hb dX2_hasItem_33 (by decide) (fun c_33 => ?_) (fun c_33 => ?_)
            · skip
              refine lv_iconst (v := 0) hx hb dX2_hasItem_40 (by decide) ?_
              refine lv_istore_n (lv' := [(3, .int 0), (4, .int (nI k)), (0, .ref (gm G)), (1, .int (nI i)), (2, .int p2)]) hx hb dX2_hasItem_41 rfl hl (by decide) rfl (fun ls hl => ?_)
              refine lv_iinc (v := nI (k + 1)) (lv' := [(4, .int (nI (k + 1))), (3, .int 0), (0, .ref (gm G)), (1, .int (nI i)), (2, .int p2)]) hx hb dX2_hasItem_42 hl (k := 1) rfl (nI_1 _) (by decide) rfl (fun ls hl => ?_)
              refine lv_goto (tgt := 5) hx hb dX2_hasItem_45 (by decide) ?_
              have hv : (0 : Int32) = b2i (hasI M i p2 (k + 1)) := by simp [hasI, b2i, hb2, c_33]
              rw [hv] at hl
              exact ih (k + 1) H locs ls (by omega) hw (lv_sub hl [0, 1, 2, 3, 4] rfl)
            · skip
              refine lv_iconst (v := 1) hx hb dX2_hasItem_36 (by decide) ?_
              refine lv_goto (tgt := 41) hx hb dX2_hasItem_37 (by decide) ?_
              refine lv_istore_n (lv' := [(3, .int 1), (4, .int (nI k)), (0, .ref (gm G)), (1, .int (nI i)), (2, .int p2)]) hx hb dX2_hasItem_41 rfl hl (by decide) rfl (fun ls hl => ?_)
              refine lv_iinc (v := nI (k + 1)) (lv' := [(4, .int (nI (k + 1))), (3, .int 1), (0, .ref (gm G)), (1, .int (nI i)), (2, .int p2)]) hx hb dX2_hasItem_42 hl (k := 1) rfl (nI_1 _) (by decide) rfl (fun ls hl => ?_)
              refine lv_goto (tgt := 5) hx hb dX2_hasItem_45 (by decide) ?_
              have hv : (1 : Int32) = b2i (hasI M i p2 (k + 1)) := by simp [hasI, b2i, hb2, c_33]
              rw [hv] at hl
              exact ih (k + 1) H locs ls (by omega) hw (lv_sub hl [0, 1, 2, 3, 4] rfl)
        · skip
          have hl : lv_has ls 5 [(4, .int (nI k)), (3, .int 1), (0, .ref (gm G)), (1, .int (nI i)), (2, .int p2)] := by rw [hb2] at hl; exact hl
          refine lv_iload_n hx hb dX2_hasItem_16 rfl (lv_at hl 1 rfl) ?_
          refine lv_if_ne (tgt := 36) hx hb dX2_hasItem_17 (by decide) (fun c_17 => ?_) (fun c_17 => ?_)
          · skip
            refine lv_iconst (v := 1) hx hb dX2_hasItem_36 (by decide) ?_
            refine lv_goto (tgt := 41) hx hb dX2_hasItem_37 (by decide) ?_
            refine lv_istore_n (lv' := [(3, .int 1), (4, .int (nI k)), (0, .ref (gm G)), (1, .int (nI i)), (2, .int p2)]) hx hb dX2_hasItem_41 rfl hl (by decide) rfl (fun ls hl => ?_)
            refine lv_iinc (v := nI (k + 1)) (lv' := [(4, .int (nI (k + 1))), (3, .int 1), (0, .ref (gm G)), (1, .int (nI i)), (2, .int p2)]) hx hb dX2_hasItem_42 hl (k := 1) rfl (nI_1 _) (by decide) rfl (fun ls hl => ?_)
            refine lv_goto (tgt := 5) hx hb dX2_hasItem_45 (by decide) ?_
            have hv : (1 : Int32) = b2i (hasI M i p2 (k + 1)) := by simp [hasI, b2i, hb2]
            rw [hv] at hl
            exact ih (k + 1) H locs ls (by omega) hw (lv_sub hl [0, 1, 2, 3, 4] rfl)
          · skip
            exact absurd c_17 (by decide)
  exact loop n 0 _ _ _ (by omega) hw (lv_sub hl [0, 1, 2, 3, 4] rfl)

set_option maxHeartbeats 800000 in
set_option maxRecDepth 100000 in
theorem c_X2_mount (l : Launch) (G : GT) (f : Nat → Option Nat) (wa : Nat → Nat) (S M : Tb) (p1 p2 p3 : Int32) : Met l yX2_mount wsX2_mount (rk 1) (va_Pc [.ref (gm G), .int p1, .int p2, .int p3] (Wo G (f, wa, S, M))) (Qi G (fun r u => r = (om_mount M p1 p2 p3).1 ∧ u = (f, wa, S, (om_mount M p1 p2 p3).2))) 0 0 (gA G) := by
  refine m_head (cc := cX2_mount) (maxL := 4) (ret := (some .int)) (by decide) rfl (Nat.le_of_ble_eq_true rfl) ?_
  intro p e s m below meth c hx hb hml hr hlocks hown hts hw ls hl
  have hown : s.vm.findClass RX2 = some m.cls := hown
  have hl : lv_has ls 4 [(0, .ref (gm G)), (1, .int p1), (2, .int p2), (3, .int p3)] := hl
  have hin2 : ∀ w ∈ wsX20, w ∈ wsX2_mount := by decide +kernel
  have lk7 := hts (.fieldLink RX2 7 "LockerWallModel" "there" "[Z") (by decide +kernel)
  have lk13 := hts (.fieldLink RX2 13 "LockerWallModel" "room" "[I") (by decide +kernel)
  have lk17 := hts (.fieldLink RX2 17 "LockerWallModel" "code" "[I") (by decide +kernel)
  have lk20 := hts (.fieldLink RX2 20 "LockerWallModel" "open" "[Z") (by decide +kernel)
  have lk23 := hts (.fieldLink RX2 23 "LockerWallModel" "tries" "[I") (by decide +kernel)
  have lk26 := hts (.fieldLink RX2 26 "LockerWallModel" "many" "[I") (by decide +kernel)
  have lk29 := hts (.fieldLink RX2 29 "LockerWallModel" "holds" "[I") (by decide +kernel)
  have lk32 := hts (.fieldLink RX2 32 "LockerWallModel" "left" "[I") (by decide +kernel)
  refine lv_iload_n hx hb dX2_mount_0 rfl (lv_at hl 1 rfl) ?_
  refine k_i hw (va_runS (As := [.int p1]) (rest := []) ⟨hx, hb, hml, hown, hts⟩ (c_X2_isHook l G f wa S M p1) (va_cwS 1 hts gX2_mount_X2_isHook rfl rfl rfl (by decide +kernel) ⟨Nat.le_of_ble_eq_true rfl, Nat.le_of_ble_eq_true rfl⟩) (hw.preS _) rfl rfl hl.1 rfl (lv_room (Nat.le_of_ble_eq_true rfl)) dX2_mount_1 ⟨Nat.le_of_ble_eq_true rfl, Nat.le_of_ble_eq_true rfl⟩) (fun r u H locs hR hw => ?_)
  obtain ⟨hq, rfl⟩ := hR
  obtain rfl := hq.symm
  cases hh_1 : isH p1
  · skip
    refine W.eq (g2 := F0 m 4 ls [.int 0]) rfl ?_
    refine lv_if_eq (tgt := 14) hx hb dX2_mount_4 (by decide) (fun c_4 => ?_) (fun c_4 => ?_)
    · skip
      refine lv_iconst (v := (-1)) hx hb dX2_mount_14 (by decide) ?_
      exact e_i hx hb hr hlocks hw dX2_mount_15 (leafM (by simp only [om_mount, ml, ml2, ↓reduceIte, hh_1, Bool.false_eq_true, c_4]))
    · skip
      exact absurd c_4 (by decide)
  · skip
    refine W.eq (g2 := F0 m 4 ls [.int 1]) rfl ?_
    obtain ⟨i, hi, rfl⟩ := isH_of hh_1
    refine lv_if_eq (tgt := 14) hx hb dX2_mount_4 (by decide) (fun c_4 => ?_) (fun c_4 => ?_)
    · skip
      exact absurd c_4 (by decide)
    · skip
      refine lv_iload_n hx hb dX2_mount_7 rfl (lv_at hl 2 rfl) ?_
      refine k_i hw (va_runS (As := [.int p2]) (rest := []) ⟨hx, hb, hml, hown, hts⟩ (c_X2_isWeight l G f wa S M p2) (va_cwS 1 hts gX2_mount_X2_isWeight rfl rfl rfl (by decide +kernel) ⟨Nat.le_of_ble_eq_true rfl, Nat.le_of_ble_eq_true rfl⟩) (hw.preS _) rfl rfl hl.1 rfl (lv_room (Nat.le_of_ble_eq_true rfl)) dX2_mount_8 ⟨Nat.le_of_ble_eq_true rfl, Nat.le_of_ble_eq_true rfl⟩) (fun r u H locs hR hw => ?_)
      obtain ⟨hq, rfl⟩ := hR
      obtain rfl := hq.symm
      cases hh_8 : isWt p2
      · skip
        refine W.eq (g2 := F0 m 11 ls [.int 0]) rfl ?_
        refine lv_if_ne (tgt := 16) hx hb dX2_mount_11 (by decide) (fun c_11 => ?_) (fun c_11 => ?_)
        · skip
          exact absurd c_11 (by decide)
        · skip
          refine lv_iconst (v := (-1)) hx hb dX2_mount_14 (by decide) ?_
          exact e_i hx hb hr hlocks hw dX2_mount_15 (leafM (by simp only [om_mount, ml, ml2, ↓reduceIte, isH_nI hi, cl24 hi, c_4, hh_8, Bool.false_eq_true, c_11]))
      · skip
        refine W.eq (g2 := F0 m 11 ls [.int 1]) rfl ?_
        refine lv_if_ne (tgt := 16) hx hb dX2_mount_11 (by decide) (fun c_11 => ?_) (fun c_11 => ?_)
        · skip
          refine lv_aload_n hx hb dX2_mount_16 rfl (lv_at hl 0 rfl) ?_
          refine r_getM (v := .ref (gc G 0)) hx hb hts hin2 hown hw 0 (by decide) lk7 rfl dX2_mount_17 ?_
          refine lv_iload_n hx hb dX2_mount_20 rfl (lv_at hl 1 rfl) ?_
          refine r_mldZ hx hb hw 0 (by decide) (by decide) (i) (rfl) (show i < 24 by omega) dX2_mount_21 ?_
          refine lv_if_eq (tgt := 28) hx hb dX2_mount_22 (by decide) (fun c_22 => ?_) (fun c_22 => ?_)
          · skip
            refine lv_aload_n hx hb dX2_mount_28 rfl (lv_at hl 0 rfl) ?_
            refine r_getM (v := .ref (gc G 0)) hx hb hts hin2 hown hw 0 (by decide) lk7 rfl dX2_mount_29 ?_
            refine lv_iload_n hx hb dX2_mount_32 rfl (lv_at hl 1 rfl) ?_
            refine lv_iconst (v := 1) hx hb dX2_mount_33 (by decide) ?_
            refine r_mstZ hx hb hw 0 (by decide) (by decide) (by decide) (i) (rfl) (show i < 24 by omega) dX2_mount_34 (fun H locs hw => ?_)
            have hw : Wi G (f, wa, S, sU M 0 i 1) s H locs := hw
            refine lv_aload_n hx hb dX2_mount_35 rfl (lv_at hl 0 rfl) ?_
            refine r_getM (v := .ref (gc G 1)) hx hb hts hin2 hown hw 1 (by decide) lk13 rfl dX2_mount_36 ?_
            refine lv_iload_n hx hb dX2_mount_39 rfl (lv_at hl 1 rfl) ?_
            refine lv_iload_n hx hb dX2_mount_40 rfl (lv_at hl 2 rfl) ?_
            refine r_mst hx hb hw 1 (by decide) (by decide) (i) (rfl) (show i < 24 by omega) dX2_mount_41 (fun H locs hw => ?_)
            have hw : Wi G (f, wa, S, sU (sU M 0 i 1) 1 i p2) s H locs := hw
            refine lv_aload_n hx hb dX2_mount_42 rfl (lv_at hl 0 rfl) ?_
            refine r_getM (v := .ref (gc G 2)) hx hb hts hin2 hown hw 2 (by decide) lk17 rfl dX2_mount_43 ?_
            refine lv_iload_n hx hb dX2_mount_46 rfl (lv_at hl 1 rfl) ?_
            refine lv_iload_n hx hb dX2_mount_47 rfl (lv_at hl 3 rfl) ?_
            refine r_mst hx hb hw 2 (by decide) (by decide) (i) (rfl) (show i < 24 by omega) dX2_mount_48 (fun H locs hw => ?_)
            have hw : Wi G (f, wa, S, sU (sU (sU M 0 i 1) 1 i p2) 2 i p3) s H locs := hw
            refine lv_aload_n hx hb dX2_mount_49 rfl (lv_at hl 0 rfl) ?_
            refine r_getM (v := .ref (gc G 3)) hx hb hts hin2 hown hw 3 (by decide) lk20 rfl dX2_mount_50 ?_
            refine lv_iload_n hx hb dX2_mount_53 rfl (lv_at hl 1 rfl) ?_
            refine lv_iconst (v := 0) hx hb dX2_mount_54 (by decide) ?_
            refine r_mstZ hx hb hw 3 (by decide) (by decide) (by decide) (i) (rfl) (show i < 24 by omega) dX2_mount_55 (fun H locs hw => ?_)
            have hw : Wi G (f, wa, S, sU (sU (sU (sU M 0 i 1) 1 i p2) 2 i p3) 3 i 0) s H locs := hw
            refine lv_aload_n hx hb dX2_mount_56 rfl (lv_at hl 0 rfl) ?_
            refine r_getM (v := .ref (gc G 4)) hx hb hts hin2 hown hw 4 (by decide) lk23 rfl dX2_mount_57 ?_
            refine lv_iload_n hx hb dX2_mount_60 rfl (lv_at hl 1 rfl) ?_
            refine lv_iconst (v := 0) hx hb dX2_mount_61 (by decide) ?_
            refine r_mst hx hb hw 4 (by decide) (by decide) (i) (rfl) (show i < 24 by omega) dX2_mount_62 (fun H locs hw => ?_)
            have hw : Wi G (f, wa, S, sU (sU (sU (sU (sU M 0 i 1) 1 i p2) 2 i p3) 3 i 0) 4 i 0) s H locs := hw
            refine lv_aload_n hx hb dX2_mount_63 rfl (lv_at hl 0 rfl) ?_
            refine r_getM (v := .ref (gc G 5)) hx hb hts hin2 hown hw 5 (by decide) lk26 rfl dX2_mount_64 ?_
            refine lv_iload_n hx hb dX2_mount_67 rfl (lv_at hl 1 rfl) ?_
            refine lv_iconst (v := 0) hx hb dX2_mount_68 (by decide) ?_
            refine r_mst hx hb hw 5 (by decide) (by decide) (i) (rfl) (show i < 24 by omega) dX2_mount_69 (fun H locs hw => ?_)
            have hw : Wi G (f, wa, S, sU (sU (sU (sU (sU (sU M 0 i 1) 1 i p2) 2 i p3) 3 i 0) 4 i 0) 5 i 0) s H locs := hw
            refine lv_aload_n hx hb dX2_mount_70 rfl (lv_at hl 0 rfl) ?_
            refine r_getM (v := .ref (gc G 6)) hx hb hts hin2 hown hw 6 (by decide) lk29 rfl dX2_mount_71 ?_
            refine lv_iload_n hx hb dX2_mount_74 rfl (lv_at hl 1 rfl) ?_
            refine lv_iconst (v := 0) hx hb dX2_mount_75 (by decide) ?_
            refine r_mst hx hb hw 6 (by decide) (by decide) (i) (rfl) (show i < 24 by omega) dX2_mount_76 (fun H locs hw => ?_)
            have hw : Wi G (f, wa, S, sU (sU (sU (sU (sU (sU (sU M 0 i 1) 1 i p2) 2 i p3) 3 i 0) 4 i 0) 5 i 0) 6 i 0) s H locs := hw
            refine lv_aload_n hx hb dX2_mount_77 rfl (lv_at hl 0 rfl) ?_
            refine r_getM (v := .ref (gc G 7)) hx hb hts hin2 hown hw 7 (by decide) lk32 rfl dX2_mount_78 ?_
            refine lv_iload_n hx hb dX2_mount_81 rfl (lv_at hl 1 rfl) ?_
            refine lv_iconst (v := 0) hx hb dX2_mount_82 (by decide) ?_
            refine r_mst hx hb hw 7 (by decide) (by decide) (i) (rfl) (show i < 24 by omega) dX2_mount_83 (fun H locs hw => ?_)
            have hw : Wi G (f, wa, S, sU (sU (sU (sU (sU (sU (sU (sU M 0 i 1) 1 i p2) 2 i p3) 3 i 0) 4 i 0) 5 i 0) 6 i 0) 7 i 0) s H locs := hw
            refine lv_iconst (v := 1) hx hb dX2_mount_84 (by decide) ?_
            exact e_i hx hb hr hlocks hw dX2_mount_85 (leafM (by simp only [om_mount, ml, ml2, ↓reduceIte, isH_nI hi, cl24 hi, c_4, hh_8, c_11, c_22]))
          · skip
            refine lv_bipush (v := (-5)) hx hb dX2_mount_25 (by decide) ?_
            exact e_i hx hb hr hlocks hw dX2_mount_27 (leafM (by simp only [om_mount, ml, ml2, ↓reduceIte, isH_nI hi, cl24 hi, c_4, hh_8, c_11, c_22]))
        · skip
          exact absurd c_11 (by decide)

set_option maxHeartbeats 800000 in
set_option maxRecDepth 100000 in
theorem c_X2_unmount (l : Launch) (G : GT) (f : Nat → Option Nat) (wa : Nat → Nat) (S M : Tb) (p1 : Int32) : Met l yX2_unmount wsX2_unmount (rk 1) (va_Pc [.ref (gm G), .int p1] (Wo G (f, wa, S, M))) (Qi G (fun r u => r = (om_unmount M p1).1 ∧ u = (f, wa, S, (om_unmount M p1).2))) 0 0 (gA G) := by
  refine m_head (cc := cX2_unmount) (maxL := 2) (ret := (some .int)) (by decide) rfl (Nat.le_of_ble_eq_true rfl) ?_
  intro p e s m below meth c hx hb hml hr hlocks hown hts hw ls hl
  have hown : s.vm.findClass RX2 = some m.cls := hown
  have hl : lv_has ls 2 [(0, .ref (gm G)), (1, .int p1)] := hl
  have hin2 : ∀ w ∈ wsX20, w ∈ wsX2_unmount := by decide +kernel
  have lk49 := hts (.fieldLink RX2 49 "LockerWallModel" "latched" "I") (by decide +kernel)
  have lk7 := hts (.fieldLink RX2 7 "LockerWallModel" "there" "[Z") (by decide +kernel)
  have lk26 := hts (.fieldLink RX2 26 "LockerWallModel" "many" "[I") (by decide +kernel)
  have lk29 := hts (.fieldLink RX2 29 "LockerWallModel" "holds" "[I") (by decide +kernel)
  refine lv_iload_n hx hb dX2_unmount_0 rfl (lv_at hl 1 rfl) ?_
  refine k_i hw (va_runS (As := [.int p1]) (rest := []) ⟨hx, hb, hml, hown, hts⟩ (c_X2_isHook l G f wa S M p1) (va_cwS 1 hts gX2_unmount_X2_isHook rfl rfl rfl (by decide +kernel) ⟨Nat.le_of_ble_eq_true rfl, Nat.le_of_ble_eq_true rfl⟩) (hw.preS _) rfl rfl hl.1 rfl (lv_room (Nat.le_of_ble_eq_true rfl)) dX2_unmount_1 ⟨Nat.le_of_ble_eq_true rfl, Nat.le_of_ble_eq_true rfl⟩) (fun r u H locs hR hw => ?_)
  obtain ⟨hq, rfl⟩ := hR
  obtain rfl := hq.symm
  cases hh_1 : isH p1
  · skip
    refine W.eq (g2 := F0 m 4 ls [.int 0]) rfl ?_
    refine lv_if_ne (tgt := 9) hx hb dX2_unmount_4 (by decide) (fun c_4 => ?_) (fun c_4 => ?_)
    · skip
      exact absurd c_4 (by decide)
    · skip
      refine lv_iconst (v := (-1)) hx hb dX2_unmount_7 (by decide) ?_
      exact e_i hx hb hr hlocks hw dX2_unmount_8 (leafM (by simp only [om_unmount, mj_unmount, sU90 M _ (show 0 ≠ 9 by decide), sU90 M _ (show 5 ≠ 9 by decide), sU90 M _ (show 6 ≠ 9 by decide), ml, ml2, ↓reduceIte, hh_1, Bool.false_eq_true, c_4]))
  · skip
    refine W.eq (g2 := F0 m 4 ls [.int 1]) rfl ?_
    obtain ⟨i, hi, rfl⟩ := isH_of hh_1
    refine lv_if_ne (tgt := 9) hx hb dX2_unmount_4 (by decide) (fun c_4 => ?_) (fun c_4 => ?_)
    · skip
      refine lv_aload_n hx hb dX2_unmount_9 rfl (lv_at hl 0 rfl) ?_
      refine lv_dup hx hb dX2_unmount_10 rfl ?_
      refine r_getM (v := .int (M 9 0)) hx hb hts hin2 hown hw 9 (by decide) lk49 rfl dX2_unmount_11 ?_
      refine lv_iconst (v := 1) hx hb dX2_unmount_14 (by decide) ?_
      refine lv_iadd hx hb dX2_unmount_15 ?_
      refine r_putMT hx hb hts hin2 hown hw lk49 dX2_unmount_16 (fun H locs hw => ?_)
      have hw : Wi G (f, wa, S, sU M 9 0 ((M 9 0) + 1)) s H locs := hw
      refine lv_aload_n hx hb dX2_unmount_19 rfl (lv_at hl 0 rfl) ?_
      refine r_getM (v := .ref (gc G 0)) hx hb hts hin2 hown hw 0 (by decide) lk7 rfl dX2_unmount_20 ?_
      refine lv_iload_n hx hb dX2_unmount_23 rfl (lv_at hl 1 rfl) ?_
      refine r_mldZ hx hb hw 0 (by decide) (by decide) (i) (rfl) (show i < 24 by omega) dX2_unmount_24 ?_
      refine W.eq (g2 := F0 m 25 ls [.int (M 0 i)]) rfl ?_
      refine lv_if_ne (tgt := 31) hx hb dX2_unmount_25 (by decide) (fun c_25 => ?_) (fun c_25 => ?_)
      · skip
        refine lv_aload_n hx hb dX2_unmount_31 rfl (lv_at hl 0 rfl) ?_
        refine r_getM (v := .ref (gc G 5)) hx hb hts hin2 hown hw 5 (by decide) lk26 rfl dX2_unmount_32 ?_
        refine lv_iload_n hx hb dX2_unmount_35 rfl (lv_at hl 1 rfl) ?_
        refine r_mld hx hb hw 5 (by decide) (by decide) (i) (rfl) (show i < 24 by omega) dX2_unmount_36 ?_
        refine W.eq (g2 := F0 m 37 ls [.int (M 5 i)]) rfl ?_
        refine lv_if_le (tgt := 49) hx hb dX2_unmount_37 (by decide) (fun c_37 => ?_) (fun c_37 => ?_)
        · skip
          refine lv_aload_n hx hb dX2_unmount_49 rfl (lv_at hl 0 rfl) ?_
          refine r_getM (v := .ref (gc G 0)) hx hb hts hin2 hown hw 0 (by decide) lk7 rfl dX2_unmount_50 ?_
          refine lv_iload_n hx hb dX2_unmount_53 rfl (lv_at hl 1 rfl) ?_
          refine lv_iconst (v := 0) hx hb dX2_unmount_54 (by decide) ?_
          refine r_mstZ hx hb hw 0 (by decide) (by decide) (by decide) (i) (rfl) (show i < 24 by omega) dX2_unmount_55 (fun H locs hw => ?_)
          have hw : Wi G (f, wa, S, sU (sU M 9 0 ((M 9 0) + 1)) 0 i 0) s H locs := hw
          refine lv_aload_n hx hb dX2_unmount_56 rfl (lv_at hl 0 rfl) ?_
          refine lv_iload_n hx hb dX2_unmount_57 rfl (lv_at hl 1 rfl) ?_
          refine lv_iconst (v := 1) hx hb dX2_unmount_58 (by decide) ?_
          refine lv_aload_n hx hb dX2_unmount_59 rfl (lv_at hl 0 rfl) ?_
          refine r_getM (v := .ref (gc G 6)) hx hb hts hin2 hown hw 6 (by decide) lk29 rfl dX2_unmount_60 ?_
          refine lv_iload_n hx hb dX2_unmount_63 rfl (lv_at hl 1 rfl) ?_
          refine r_mld hx hb hw 6 (by decide) (by decide) (i) (rfl) (show i < 24 by omega) dX2_unmount_64 ?_
          refine W.eq (g2 := F0 m 65 ls [.int (M 6 i), .int 1, .int (nI i), .ref (gm G)]) rfl ?_
          refine lv_iconst (v := 1) hx hb dX2_unmount_65 (by decide) ?_
          refine lv_iadd hx hb dX2_unmount_66 ?_
          refine k_i hw (va_runV (As := [.int (nI i), .int 1, .int ((M 6 i) + 1)]) (rest := []) ⟨hx, hb, hml, hown, hts⟩ (c_X2_let l G f wa S (sU (sU M 9 0 ((M 9 0) + 1)) 0 i 0) (j := i) (by omega) 1 ((M 6 i) + 1)) (cwV 3 hts gX2_unmount_X2_let rfl rfl rfl (by decide +kernel) ⟨Nat.le_of_ble_eq_true rfl, Nat.le_of_ble_eq_true rfl⟩) (hw.preM _) rfl rfl hl.1 rfl (lv_room (Nat.le_of_ble_eq_true rfl)) dX2_unmount_67 ⟨Nat.le_of_ble_eq_true rfl, Nat.le_of_ble_eq_true rfl⟩) (fun r u H locs hR hw => ?_)
          obtain ⟨hq, rfl⟩ := hR
          obtain rfl := hq.symm
          exact e_i hx hb hr hlocks hw dX2_unmount_70 (leafM (by simp only [om_unmount, mj_unmount, sU90 M _ (show 0 ≠ 9 by decide), sU90 M _ (show 5 ≠ 9 by decide), sU90 M _ (show 6 ≠ 9 by decide), ml, ml2, ↓reduceIte, isH_nI hi, cl24 hi, c_4, c_25, c_37]))
        · skip
          refine lv_aload_n hx hb dX2_unmount_40 rfl (lv_at hl 0 rfl) ?_
          refine lv_iload_n hx hb dX2_unmount_41 rfl (lv_at hl 1 rfl) ?_
          refine lv_iconst (v := 2) hx hb dX2_unmount_42 (by decide) ?_
          refine lv_bipush (v := (-6)) hx hb dX2_unmount_43 (by decide) ?_
          refine k_i hw (va_runV (As := [.int (nI i), .int 2, .int (-6)]) (rest := []) ⟨hx, hb, hml, hown, hts⟩ (c_X2_let l G f wa S (sU M 9 0 ((M 9 0) + 1)) (j := i) (by omega) 2 (-6)) (cwV 3 hts gX2_unmount_X2_let rfl rfl rfl (by decide +kernel) ⟨Nat.le_of_ble_eq_true rfl, Nat.le_of_ble_eq_true rfl⟩) (hw.preM _) rfl rfl hl.1 rfl (lv_room (Nat.le_of_ble_eq_true rfl)) dX2_unmount_45 ⟨Nat.le_of_ble_eq_true rfl, Nat.le_of_ble_eq_true rfl⟩) (fun r u H locs hR hw => ?_)
          obtain ⟨hq, rfl⟩ := hR
          obtain rfl := hq.symm
          exact e_i hx hb hr hlocks hw dX2_unmount_48 (leafM (by simp only [om_unmount, mj_unmount, sU90 M _ (show 0 ≠ 9 by decide), sU90 M _ (show 5 ≠ 9 by decide), sU90 M _ (show 6 ≠ 9 by decide), ml, ml2, ↓reduceIte, isH_nI hi, cl24 hi, c_4, c_25, c_37]))
      · skip
        refine lv_bipush (v := (-2)) hx hb dX2_unmount_28 (by decide) ?_
        exact e_i hx hb hr hlocks hw dX2_unmount_30 (leafM (by simp only [om_unmount, mj_unmount, sU90 M _ (show 0 ≠ 9 by decide), sU90 M _ (show 5 ≠ 9 by decide), sU90 M _ (show 6 ≠ 9 by decide), ml, ml2, ↓reduceIte, isH_nI hi, cl24 hi, c_4, c_25]))
    · skip
      exact absurd c_4 (by decide)

set_option maxHeartbeats 800000 in
set_option maxRecDepth 100000 in
theorem c_X2_open (l : Launch) (G : GT) (f : Nat → Option Nat) (wa : Nat → Nat) (S M : Tb) (p1 p2 : Int32) : Met l yX2_open wsX2_open (rk 1) (va_Pc [.ref (gm G), .int p1, .int p2] (Wo G (f, wa, S, M))) (Qi G (fun r u => r = (om_open M p1 p2).1 ∧ u = (f, wa, S, (om_open M p1 p2).2))) 0 0 (gA G) := by
  refine m_head (cc := cX2_open) (maxL := 3) (ret := (some .int)) (by decide) rfl (Nat.le_of_ble_eq_true rfl) ?_
  intro p e s m below meth c hx hb hml hr hlocks hown hts hw ls hl
  have hown : s.vm.findClass RX2 = some m.cls := hown
  have hl : lv_has ls 3 [(0, .ref (gm G)), (1, .int p1), (2, .int p2)] := hl
  have hin2 : ∀ w ∈ wsX20, w ∈ wsX2_open := by decide +kernel
  have lk7 := hts (.fieldLink RX2 7 "LockerWallModel" "there" "[Z") (by decide +kernel)
  have lk23 := hts (.fieldLink RX2 23 "LockerWallModel" "tries" "[I") (by decide +kernel)
  have lk17 := hts (.fieldLink RX2 17 "LockerWallModel" "code" "[I") (by decide +kernel)
  have lk20 := hts (.fieldLink RX2 20 "LockerWallModel" "open" "[Z") (by decide +kernel)
  refine lv_iload_n hx hb dX2_open_0 rfl (lv_at hl 1 rfl) ?_
  refine k_i hw (va_runS (As := [.int p1]) (rest := []) ⟨hx, hb, hml, hown, hts⟩ (c_X2_isHook l G f wa S M p1) (va_cwS 1 hts gX2_open_X2_isHook rfl rfl rfl (by decide +kernel) ⟨Nat.le_of_ble_eq_true rfl, Nat.le_of_ble_eq_true rfl⟩) (hw.preS _) rfl rfl hl.1 rfl (lv_room (Nat.le_of_ble_eq_true rfl)) dX2_open_1 ⟨Nat.le_of_ble_eq_true rfl, Nat.le_of_ble_eq_true rfl⟩) (fun r u H locs hR hw => ?_)
  obtain ⟨hq, rfl⟩ := hR
  obtain rfl := hq.symm
  cases hh_1 : isH p1
  · skip
    refine W.eq (g2 := F0 m 4 ls [.int 0]) rfl ?_
    refine lv_if_ne (tgt := 9) hx hb dX2_open_4 (by decide) (fun c_4 => ?_) (fun c_4 => ?_)
    · skip
      exact absurd c_4 (by decide)
    · skip
      refine lv_iconst (v := (-1)) hx hb dX2_open_7 (by decide) ?_
      exact e_i hx hb hr hlocks hw dX2_open_8 (leafM (by simp only [om_open, mj_open, ml, ml2, ↓reduceIte, hh_1, Bool.false_eq_true, c_4]))
  · skip
    refine W.eq (g2 := F0 m 4 ls [.int 1]) rfl ?_
    obtain ⟨i, hi, rfl⟩ := isH_of hh_1
    refine lv_if_ne (tgt := 9) hx hb dX2_open_4 (by decide) (fun c_4 => ?_) (fun c_4 => ?_)
    · skip
      refine lv_aload_n hx hb dX2_open_9 rfl (lv_at hl 0 rfl) ?_
      refine r_getM (v := .ref (gc G 0)) hx hb hts hin2 hown hw 0 (by decide) lk7 rfl dX2_open_10 ?_
      refine lv_iload_n hx hb dX2_open_13 rfl (lv_at hl 1 rfl) ?_
      refine r_mldZ hx hb hw 0 (by decide) (by decide) (i) (rfl) (show i < 24 by omega) dX2_open_14 ?_
      refine lv_if_ne (tgt := 21) hx hb dX2_open_15 (by decide) (fun c_15 => ?_) (fun c_15 => ?_)
      · skip
        refine lv_aload_n hx hb dX2_open_21 rfl (lv_at hl 0 rfl) ?_
        refine r_getM (v := .ref (gc G 4)) hx hb hts hin2 hown hw 4 (by decide) lk23 rfl dX2_open_22 ?_
        refine lv_iload_n hx hb dX2_open_25 rfl (lv_at hl 1 rfl) ?_
        refine r_mld hx hb hw 4 (by decide) (by decide) (i) (rfl) (show i < 24 by omega) dX2_open_26 ?_
        refine lv_iconst (v := 3) hx hb dX2_open_27 (by decide) ?_
        refine lv_icmp_ne (tgt := 40) hx hb dX2_open_28 (by decide) (fun c_28 => ?_) (fun c_28 => ?_)
        · skip
          refine lv_iload_n hx hb dX2_open_40 rfl (lv_at hl 2 rfl) ?_
          refine lv_aload_n hx hb dX2_open_41 rfl (lv_at hl 0 rfl) ?_
          refine r_getM (v := .ref (gc G 2)) hx hb hts hin2 hown hw 2 (by decide) lk17 rfl dX2_open_42 ?_
          refine lv_iload_n hx hb dX2_open_45 rfl (lv_at hl 1 rfl) ?_
          refine r_mld hx hb hw 2 (by decide) (by decide) (i) (rfl) (show i < 24 by omega) dX2_open_46 ?_
          refine lv_icmp_eq (tgt := 69) hx hb dX2_open_47 (by decide) (fun c_47 => ?_) (fun c_47 => ?_)
          · skip
            refine lv_aload_n hx hb dX2_open_69 rfl (lv_at hl 0 rfl) ?_
            refine r_getM (v := .ref (gc G 3)) hx hb hts hin2 hown hw 3 (by decide) lk20 rfl dX2_open_70 ?_
            refine lv_iload_n hx hb dX2_open_73 rfl (lv_at hl 1 rfl) ?_
            refine lv_iconst (v := 1) hx hb dX2_open_74 (by decide) ?_
            refine r_mstZ hx hb hw 3 (by decide) (by decide) (by decide) (i) (rfl) (show i < 24 by omega) dX2_open_75 (fun H locs hw => ?_)
            have hw : Wi G (f, wa, S, sU M 3 i 1) s H locs := hw
            refine lv_aload_n hx hb dX2_open_76 rfl (lv_at hl 0 rfl) ?_
            refine r_getM (v := .ref (gc G 4)) hx hb hts hin2 hown hw 4 (by decide) lk23 rfl dX2_open_77 ?_
            refine lv_iload_n hx hb dX2_open_80 rfl (lv_at hl 1 rfl) ?_
            refine lv_iconst (v := 0) hx hb dX2_open_81 (by decide) ?_
            refine r_mst hx hb hw 4 (by decide) (by decide) (i) (rfl) (show i < 24 by omega) dX2_open_82 (fun H locs hw => ?_)
            have hw : Wi G (f, wa, S, sU (sU M 3 i 1) 4 i 0) s H locs := hw
            refine lv_aload_n hx hb dX2_open_83 rfl (lv_at hl 0 rfl) ?_
            refine lv_iload_n hx hb dX2_open_84 rfl (lv_at hl 1 rfl) ?_
            refine lv_iconst (v := 1) hx hb dX2_open_85 (by decide) ?_
            refine lv_iconst (v := 1) hx hb dX2_open_86 (by decide) ?_
            refine k_i hw (va_runV (As := [.int (nI i), .int 1, .int 1]) (rest := []) ⟨hx, hb, hml, hown, hts⟩ (c_X2_let l G f wa S (sU (sU M 3 i 1) 4 i 0) (j := i) (by omega) 1 1) (cwV 3 hts gX2_open_X2_let rfl rfl rfl (by decide +kernel) ⟨Nat.le_of_ble_eq_true rfl, Nat.le_of_ble_eq_true rfl⟩) (hw.preM _) rfl rfl hl.1 rfl (lv_room (Nat.le_of_ble_eq_true rfl)) dX2_open_87 ⟨Nat.le_of_ble_eq_true rfl, Nat.le_of_ble_eq_true rfl⟩) (fun r u H locs hR hw => ?_)
            obtain ⟨hq, rfl⟩ := hR
            obtain rfl := hq.symm
            exact e_i hx hb hr hlocks hw dX2_open_90 (leafM (by simp only [om_open, mj_open, ml, ml2, ↓reduceIte, isH_nI hi, cl24 hi, c_4, c_15, c_28, c_47]))
          · skip
            refine lv_aload_n hx hb dX2_open_50 rfl (lv_at hl 0 rfl) ?_
            refine r_getM (v := .ref (gc G 4)) hx hb hts hin2 hown hw 4 (by decide) lk23 rfl dX2_open_51 ?_
            refine lv_iload_n hx hb dX2_open_54 rfl (lv_at hl 1 rfl) ?_
            refine lv_dup2_11 hx hb dX2_open_55 rfl rfl ?_
            refine r_mld hx hb hw 4 (by decide) (by decide) (i) (rfl) (show i < 24 by omega) dX2_open_56 ?_
            refine lv_iconst (v := 1) hx hb dX2_open_57 (by decide) ?_
            refine lv_iadd hx hb dX2_open_58 ?_
            refine r_mst hx hb hw 4 (by decide) (by decide) (i) (rfl) (show i < 24 by omega) dX2_open_59 (fun H locs hw => ?_)
            have hw : Wi G (f, wa, S, sU M 4 i ((M 4 i) + 1)) s H locs := hw
            refine lv_aload_n hx hb dX2_open_60 rfl (lv_at hl 0 rfl) ?_
            refine lv_iload_n hx hb dX2_open_61 rfl (lv_at hl 1 rfl) ?_
            refine lv_iconst (v := 4) hx hb dX2_open_62 (by decide) ?_
            refine lv_bipush (v := (-7)) hx hb dX2_open_63 (by decide) ?_
            refine k_i hw (va_runV (As := [.int (nI i), .int 4, .int (-7)]) (rest := []) ⟨hx, hb, hml, hown, hts⟩ (c_X2_let l G f wa S (sU M 4 i ((M 4 i) + 1)) (j := i) (by omega) 4 (-7)) (cwV 3 hts gX2_open_X2_let rfl rfl rfl (by decide +kernel) ⟨Nat.le_of_ble_eq_true rfl, Nat.le_of_ble_eq_true rfl⟩) (hw.preM _) rfl rfl hl.1 rfl (lv_room (Nat.le_of_ble_eq_true rfl)) dX2_open_65 ⟨Nat.le_of_ble_eq_true rfl, Nat.le_of_ble_eq_true rfl⟩) (fun r u H locs hR hw => ?_)
            obtain ⟨hq, rfl⟩ := hR
            obtain rfl := hq.symm
            exact e_i hx hb hr hlocks hw dX2_open_68 (leafM (by simp only [om_open, mj_open, ml, ml2, ↓reduceIte, isH_nI hi, cl24 hi, c_4, c_15, c_28, c_47]))
        · skip
          refine lv_aload_n hx hb dX2_open_31 rfl (lv_at hl 0 rfl) ?_
          refine lv_iload_n hx hb dX2_open_32 rfl (lv_at hl 1 rfl) ?_
          refine lv_iconst (v := 2) hx hb dX2_open_33 (by decide) ?_
          refine lv_bipush (v := (-4)) hx hb dX2_open_34 (by decide) ?_
          refine k_i hw (va_runV (As := [.int (nI i), .int 2, .int (-4)]) (rest := []) ⟨hx, hb, hml, hown, hts⟩ (c_X2_let l G f wa S M (j := i) (by omega) 2 (-4)) (cwV 3 hts gX2_open_X2_let rfl rfl rfl (by decide +kernel) ⟨Nat.le_of_ble_eq_true rfl, Nat.le_of_ble_eq_true rfl⟩) (hw.preM _) rfl rfl hl.1 rfl (lv_room (Nat.le_of_ble_eq_true rfl)) dX2_open_36 ⟨Nat.le_of_ble_eq_true rfl, Nat.le_of_ble_eq_true rfl⟩) (fun r u H locs hR hw => ?_)
          obtain ⟨hq, rfl⟩ := hR
          obtain rfl := hq.symm
          exact e_i hx hb hr hlocks hw dX2_open_39 (leafM (by simp only [om_open, mj_open, ml, ml2, ↓reduceIte, isH_nI hi, cl24 hi, c_4, c_15, c_28]))
      · skip
        refine lv_bipush (v := (-2)) hx hb dX2_open_18 (by decide) ?_
        exact e_i hx hb hr hlocks hw dX2_open_20 (leafM (by simp only [om_open, mj_open, ml, ml2, ↓reduceIte, isH_nI hi, cl24 hi, c_4, c_15]))
    · skip
      exact absurd c_4 (by decide)

set_option maxHeartbeats 800000 in
set_option maxRecDepth 100000 in
theorem c_X2_shut (l : Launch) (G : GT) (f : Nat → Option Nat) (wa : Nat → Nat) (S M : Tb) (p1 : Int32) : Met l yX2_shut wsX2_shut (rk 1) (va_Pc [.ref (gm G), .int p1] (Wo G (f, wa, S, M))) (Qi G (fun r u => r = (om_shut M p1).1 ∧ u = (f, wa, S, (om_shut M p1).2))) 0 0 (gA G) := by
  refine m_head (cc := cX2_shut) (maxL := 2) (ret := (some .int)) (by decide) rfl (Nat.le_of_ble_eq_true rfl) ?_
  intro p e s m below meth c hx hb hml hr hlocks hown hts hw ls hl
  have hown : s.vm.findClass RX2 = some m.cls := hown
  have hl : lv_has ls 2 [(0, .ref (gm G)), (1, .int p1)] := hl
  have hin2 : ∀ w ∈ wsX20, w ∈ wsX2_shut := by decide +kernel
  have lk7 := hts (.fieldLink RX2 7 "LockerWallModel" "there" "[Z") (by decide +kernel)
  have lk20 := hts (.fieldLink RX2 20 "LockerWallModel" "open" "[Z") (by decide +kernel)
  refine lv_iload_n hx hb dX2_shut_0 rfl (lv_at hl 1 rfl) ?_
  refine k_i hw (va_runS (As := [.int p1]) (rest := []) ⟨hx, hb, hml, hown, hts⟩ (c_X2_isHook l G f wa S M p1) (va_cwS 1 hts gX2_shut_X2_isHook rfl rfl rfl (by decide +kernel) ⟨Nat.le_of_ble_eq_true rfl, Nat.le_of_ble_eq_true rfl⟩) (hw.preS _) rfl rfl hl.1 rfl (lv_room (Nat.le_of_ble_eq_true rfl)) dX2_shut_1 ⟨Nat.le_of_ble_eq_true rfl, Nat.le_of_ble_eq_true rfl⟩) (fun r u H locs hR hw => ?_)
  obtain ⟨hq, rfl⟩ := hR
  obtain rfl := hq.symm
  cases hh_1 : isH p1
  · skip
    refine W.eq (g2 := F0 m 4 ls [.int 0]) rfl ?_
    refine lv_if_ne (tgt := 9) hx hb dX2_shut_4 (by decide) (fun c_4 => ?_) (fun c_4 => ?_)
    · skip
      exact absurd c_4 (by decide)
    · skip
      refine lv_iconst (v := (-1)) hx hb dX2_shut_7 (by decide) ?_
      exact e_i hx hb hr hlocks hw dX2_shut_8 (leafM (by simp only [om_shut, mj_shut, ml, ml2, ↓reduceIte, hh_1, Bool.false_eq_true, c_4]))
  · skip
    refine W.eq (g2 := F0 m 4 ls [.int 1]) rfl ?_
    obtain ⟨i, hi, rfl⟩ := isH_of hh_1
    refine lv_if_ne (tgt := 9) hx hb dX2_shut_4 (by decide) (fun c_4 => ?_) (fun c_4 => ?_)
    · skip
      refine lv_aload_n hx hb dX2_shut_9 rfl (lv_at hl 0 rfl) ?_
      refine r_getM (v := .ref (gc G 0)) hx hb hts hin2 hown hw 0 (by decide) lk7 rfl dX2_shut_10 ?_
      refine lv_iload_n hx hb dX2_shut_13 rfl (lv_at hl 1 rfl) ?_
      refine r_mldZ hx hb hw 0 (by decide) (by decide) (i) (rfl) (show i < 24 by omega) dX2_shut_14 ?_
      refine lv_if_ne (tgt := 21) hx hb dX2_shut_15 (by decide) (fun c_15 => ?_) (fun c_15 => ?_)
      · skip
        refine lv_aload_n hx hb dX2_shut_21 rfl (lv_at hl 0 rfl) ?_
        refine r_getM (v := .ref (gc G 3)) hx hb hts hin2 hown hw 3 (by decide) lk20 rfl dX2_shut_22 ?_
        refine lv_iload_n hx hb dX2_shut_25 rfl (lv_at hl 1 rfl) ?_
        refine r_mldZ hx hb hw 3 (by decide) (by decide) (i) (rfl) (show i < 24 by omega) dX2_shut_26 ?_
        refine lv_if_ne (tgt := 39) hx hb dX2_shut_27 (by decide) (fun c_27 => ?_) (fun c_27 => ?_)
        · skip
          refine lv_aload_n hx hb dX2_shut_39 rfl (lv_at hl 0 rfl) ?_
          refine r_getM (v := .ref (gc G 3)) hx hb hts hin2 hown hw 3 (by decide) lk20 rfl dX2_shut_40 ?_
          refine lv_iload_n hx hb dX2_shut_43 rfl (lv_at hl 1 rfl) ?_
          refine lv_iconst (v := 0) hx hb dX2_shut_44 (by decide) ?_
          refine r_mstZ hx hb hw 3 (by decide) (by decide) (by decide) (i) (rfl) (show i < 24 by omega) dX2_shut_45 (fun H locs hw => ?_)
          have hw : Wi G (f, wa, S, sU M 3 i 0) s H locs := hw
          refine lv_aload_n hx hb dX2_shut_46 rfl (lv_at hl 0 rfl) ?_
          refine lv_iload_n hx hb dX2_shut_47 rfl (lv_at hl 1 rfl) ?_
          refine lv_iconst (v := 1) hx hb dX2_shut_48 (by decide) ?_
          refine lv_iconst (v := 1) hx hb dX2_shut_49 (by decide) ?_
          refine k_i hw (va_runV (As := [.int (nI i), .int 1, .int 1]) (rest := []) ⟨hx, hb, hml, hown, hts⟩ (c_X2_let l G f wa S (sU M 3 i 0) (j := i) (by omega) 1 1) (cwV 3 hts gX2_shut_X2_let rfl rfl rfl (by decide +kernel) ⟨Nat.le_of_ble_eq_true rfl, Nat.le_of_ble_eq_true rfl⟩) (hw.preM _) rfl rfl hl.1 rfl (lv_room (Nat.le_of_ble_eq_true rfl)) dX2_shut_50 ⟨Nat.le_of_ble_eq_true rfl, Nat.le_of_ble_eq_true rfl⟩) (fun r u H locs hR hw => ?_)
          obtain ⟨hq, rfl⟩ := hR
          obtain rfl := hq.symm
          exact e_i hx hb hr hlocks hw dX2_shut_53 (leafM (by simp only [om_shut, mj_shut, ml, ml2, ↓reduceIte, isH_nI hi, cl24 hi, c_4, c_15, c_27]))
        · skip
          refine lv_aload_n hx hb dX2_shut_30 rfl (lv_at hl 0 rfl) ?_
          refine lv_iload_n hx hb dX2_shut_31 rfl (lv_at hl 1 rfl) ?_
          refine lv_iconst (v := 2) hx hb dX2_shut_32 (by decide) ?_
          refine lv_bipush (v := (-3)) hx hb dX2_shut_33 (by decide) ?_
          refine k_i hw (va_runV (As := [.int (nI i), .int 2, .int (-3)]) (rest := []) ⟨hx, hb, hml, hown, hts⟩ (c_X2_let l G f wa S M (j := i) (by omega) 2 (-3)) (cwV 3 hts gX2_shut_X2_let rfl rfl rfl (by decide +kernel) ⟨Nat.le_of_ble_eq_true rfl, Nat.le_of_ble_eq_true rfl⟩) (hw.preM _) rfl rfl hl.1 rfl (lv_room (Nat.le_of_ble_eq_true rfl)) dX2_shut_35 ⟨Nat.le_of_ble_eq_true rfl, Nat.le_of_ble_eq_true rfl⟩) (fun r u H locs hR hw => ?_)
          obtain ⟨hq, rfl⟩ := hR
          obtain rfl := hq.symm
          exact e_i hx hb hr hlocks hw dX2_shut_38 (leafM (by simp only [om_shut, mj_shut, ml, ml2, ↓reduceIte, isH_nI hi, cl24 hi, c_4, c_15, c_27]))
      · skip
        refine lv_bipush (v := (-2)) hx hb dX2_shut_18 (by decide) ?_
        exact e_i hx hb hr hlocks hw dX2_shut_20 (leafM (by simp only [om_shut, mj_shut, ml, ml2, ↓reduceIte, isH_nI hi, cl24 hi, c_4, c_15]))
    · skip
      exact absurd c_4 (by decide)

set_option maxHeartbeats 800000 in
set_option maxRecDepth 100000 in
theorem c_X2_put (l : Launch) (G : GT) (f : Nat → Option Nat) (wa : Nat → Nat) (S M : Tb) (hI : Inv M) (p1 p2 : Int32) : Met l yX2_put wsX2_put (rk 2) (va_Pc [.ref (gm G), .int p1, .int p2] (Wo G (f, wa, S, M))) (Qi G (fun r u => r = (om_put M p1 p2).1 ∧ u = (f, wa, S, (om_put M p1 p2).2))) 0 0 (gA G) := by
  refine m_head (cc := cX2_put) (maxL := 3) (ret := (some .int)) (by decide) rfl (Nat.le_of_ble_eq_true rfl) ?_
  intro p e s m below meth c hx hb hml hr hlocks hown hts hw ls hl
  have hown : s.vm.findClass RX2 = some m.cls := hown
  have hl : lv_has ls 3 [(0, .ref (gm G)), (1, .int p1), (2, .int p2)] := hl
  have hin2 : ∀ w ∈ wsX20, w ∈ wsX2_put := by decide +kernel
  have lk7 := hts (.fieldLink RX2 7 "LockerWallModel" "there" "[Z") (by decide +kernel)
  have lk20 := hts (.fieldLink RX2 20 "LockerWallModel" "open" "[Z") (by decide +kernel)
  have lk26 := hts (.fieldLink RX2 26 "LockerWallModel" "many" "[I") (by decide +kernel)
  refine lv_iload_n hx hb dX2_put_0 rfl (lv_at hl 1 rfl) ?_
  refine k_i hw (va_runS (As := [.int p1]) (rest := []) ⟨hx, hb, hml, hown, hts⟩ (c_X2_isHook l G f wa S M p1) (va_cwS 1 hts gX2_put_X2_isHook rfl rfl rfl (by decide +kernel) ⟨Nat.le_of_ble_eq_true rfl, Nat.le_of_ble_eq_true rfl⟩) (hw.preS _) rfl rfl hl.1 rfl (lv_room (Nat.le_of_ble_eq_true rfl)) dX2_put_1 ⟨Nat.le_of_ble_eq_true rfl, Nat.le_of_ble_eq_true rfl⟩) (fun r u H locs hR hw => ?_)
  obtain ⟨hq, rfl⟩ := hR
  obtain rfl := hq.symm
  cases hh_1 : isH p1
  · skip
    refine W.eq (g2 := F0 m 4 ls [.int 0]) rfl ?_
    refine lv_if_eq (tgt := 14) hx hb dX2_put_4 (by decide) (fun c_4 => ?_) (fun c_4 => ?_)
    · skip
      refine lv_iconst (v := (-1)) hx hb dX2_put_14 (by decide) ?_
      exact e_i hx hb hr hlocks hw dX2_put_15 (leafM (by simp only [om_put, mj_put, ml, ml2, ↓reduceIte, hh_1, Bool.false_eq_true, c_4]))
    · skip
      exact absurd c_4 (by decide)
  · skip
    refine W.eq (g2 := F0 m 4 ls [.int 1]) rfl ?_
    obtain ⟨i, hi, rfl⟩ := isH_of hh_1
    obtain ⟨n_i, h10_i, hn_i⟩ := hI i hi
    refine lv_if_eq (tgt := 14) hx hb dX2_put_4 (by decide) (fun c_4 => ?_) (fun c_4 => ?_)
    · skip
      exact absurd c_4 (by decide)
    · skip
      refine lv_iload_n hx hb dX2_put_7 rfl (lv_at hl 2 rfl) ?_
      refine k_i hw (va_runS (As := [.int p2]) (rest := []) ⟨hx, hb, hml, hown, hts⟩ (c_X2_isWeight l G f wa S M p2) (va_cwS 1 hts gX2_put_X2_isWeight rfl rfl rfl (by decide +kernel) ⟨Nat.le_of_ble_eq_true rfl, Nat.le_of_ble_eq_true rfl⟩) (hw.preS _) rfl rfl hl.1 rfl (lv_room (Nat.le_of_ble_eq_true rfl)) dX2_put_8 ⟨Nat.le_of_ble_eq_true rfl, Nat.le_of_ble_eq_true rfl⟩) (fun r u H locs hR hw => ?_)
      obtain ⟨hq, rfl⟩ := hR
      obtain rfl := hq.symm
      cases hh_8 : isWt p2
      · skip
        refine W.eq (g2 := F0 m 11 ls [.int 0]) rfl ?_
        refine lv_if_ne (tgt := 16) hx hb dX2_put_11 (by decide) (fun c_11 => ?_) (fun c_11 => ?_)
        · skip
          exact absurd c_11 (by decide)
        · skip
          refine lv_iconst (v := (-1)) hx hb dX2_put_14 (by decide) ?_
          exact e_i hx hb hr hlocks hw dX2_put_15 (leafM (by simp only [om_put, mj_put, ml, ml2, ↓reduceIte, isH_nI hi, cl24 hi, c_4, hh_8, Bool.false_eq_true, c_11]))
      · skip
        refine W.eq (g2 := F0 m 11 ls [.int 1]) rfl ?_
        refine lv_if_ne (tgt := 16) hx hb dX2_put_11 (by decide) (fun c_11 => ?_) (fun c_11 => ?_)
        · skip
          refine lv_aload_n hx hb dX2_put_16 rfl (lv_at hl 0 rfl) ?_
          refine r_getM (v := .ref (gc G 0)) hx hb hts hin2 hown hw 0 (by decide) lk7 rfl dX2_put_17 ?_
          refine lv_iload_n hx hb dX2_put_20 rfl (lv_at hl 1 rfl) ?_
          refine r_mldZ hx hb hw 0 (by decide) (by decide) (i) (rfl) (show i < 24 by omega) dX2_put_21 ?_
          refine lv_if_ne (tgt := 28) hx hb dX2_put_22 (by decide) (fun c_22 => ?_) (fun c_22 => ?_)
          · skip
            refine lv_aload_n hx hb dX2_put_28 rfl (lv_at hl 0 rfl) ?_
            refine r_getM (v := .ref (gc G 3)) hx hb hts hin2 hown hw 3 (by decide) lk20 rfl dX2_put_29 ?_
            refine lv_iload_n hx hb dX2_put_32 rfl (lv_at hl 1 rfl) ?_
            refine r_mldZ hx hb hw 3 (by decide) (by decide) (i) (rfl) (show i < 24 by omega) dX2_put_33 ?_
            refine lv_if_ne (tgt := 46) hx hb dX2_put_34 (by decide) (fun c_34 => ?_) (fun c_34 => ?_)
            · skip
              refine lv_aload_n hx hb dX2_put_46 rfl (lv_at hl 0 rfl) ?_
              refine lv_iload_n hx hb dX2_put_47 rfl (lv_at hl 1 rfl) ?_
              refine lv_iload_n hx hb dX2_put_48 rfl (lv_at hl 2 rfl) ?_
              refine k_i hw (va_runV (As := [.int (nI i), .int p2]) (rest := []) ⟨hx, hb, hml, hown, hts⟩ (c_X2_hasRoom l G f wa S M (i := i) (by omega) hn_i h10_i p2) (cwV 2 hts gX2_put_X2_hasRoom rfl rfl rfl (by decide +kernel) ⟨Nat.le_of_ble_eq_true rfl, Nat.le_of_ble_eq_true rfl⟩) (hw.preM _) rfl rfl hl.1 rfl (lv_room (Nat.le_of_ble_eq_true rfl)) dX2_put_49 ⟨Nat.le_of_ble_eq_true rfl, Nat.le_of_ble_eq_true rfl⟩) (fun r u H locs hR hw => ?_)
              obtain ⟨hq, rfl⟩ := hR
              obtain rfl := hq.symm
              cases hh_49 : okA M i p2
              · skip
                refine W.eq (g2 := F0 m 52 ls [.int 0]) rfl ?_
                refine lv_if_ne (tgt := 64) hx hb dX2_put_52 (by decide) (fun c_52 => ?_) (fun c_52 => ?_)
                · skip
                  exact absurd c_52 (by decide)
                · skip
                  refine lv_aload_n hx hb dX2_put_55 rfl (lv_at hl 0 rfl) ?_
                  refine lv_iload_n hx hb dX2_put_56 rfl (lv_at hl 1 rfl) ?_
                  refine lv_iconst (v := 4) hx hb dX2_put_57 (by decide) ?_
                  refine lv_bipush (v := (-5)) hx hb dX2_put_58 (by decide) ?_
                  refine k_i hw (va_runV (As := [.int (nI i), .int 4, .int (-5)]) (rest := []) ⟨hx, hb, hml, hown, hts⟩ (c_X2_let l G f wa S M (j := i) (by omega) 4 (-5)) (cwV 3 hts gX2_put_X2_let rfl rfl rfl (by decide +kernel) ⟨Nat.le_of_ble_eq_true rfl, Nat.le_of_ble_eq_true rfl⟩) (hw.preM _) rfl rfl hl.1 rfl (lv_room (Nat.le_of_ble_eq_true rfl)) dX2_put_60 ⟨Nat.le_of_ble_eq_true rfl, Nat.le_of_ble_eq_true rfl⟩) (fun r u H locs hR hw => ?_)
                  obtain ⟨hq, rfl⟩ := hR
                  obtain rfl := hq.symm
                  exact e_i hx hb hr hlocks hw dX2_put_63 (leafM (by simp only [om_put, mj_put, ml, ml2, ↓reduceIte, isH_nI hi, cl24 hi, c_4, hh_8, c_11, c_22, c_34, hh_49, Bool.false_eq_true, c_52]))
              · skip
                refine W.eq (g2 := F0 m 52 ls [.int 1]) rfl ?_
                refine lv_if_ne (tgt := 64) hx hb dX2_put_52 (by decide) (fun c_52 => ?_) (fun c_52 => ?_)
                · skip
                  have hlt_i : n_i < 10 := okA_lt hn_i h10_i hh_49
                  refine lv_aload_n hx hb dX2_put_64 rfl (lv_at hl 0 rfl) ?_
                  refine lv_iload_n hx hb dX2_put_65 rfl (lv_at hl 1 rfl) ?_
                  refine lv_iload_n hx hb dX2_put_66 rfl (lv_at hl 2 rfl) ?_
                  refine k_v hw (va_runV (As := [.int (nI i), .int p2]) (rest := []) ⟨hx, hb, hml, hown, hts⟩ (c_X2_add l G f wa S M (i := i) (by omega) hn_i hlt_i p2) (cwV 2 hts gX2_put_X2_add rfl rfl rfl (by decide +kernel) ⟨Nat.le_of_ble_eq_true rfl, Nat.le_of_ble_eq_true rfl⟩) (hw.preM _) rfl rfl hl.1 rfl (lv_room (Nat.le_of_ble_eq_true rfl)) dX2_put_67 ⟨Nat.le_of_ble_eq_true rfl, Nat.le_of_ble_eq_true rfl⟩) (fun u H locs hR hw => ?_)
                  obtain rfl := hR
                  refine lv_aload_n hx hb dX2_put_70 rfl (lv_at hl 0 rfl) ?_
                  refine lv_iload_n hx hb dX2_put_71 rfl (lv_at hl 1 rfl) ?_
                  refine lv_iconst (v := 1) hx hb dX2_put_72 (by decide) ?_
                  refine lv_aload_n hx hb dX2_put_73 rfl (lv_at hl 0 rfl) ?_
                  refine r_getM (v := .ref (gc G 5)) hx hb hts hin2 hown hw 5 (by decide) lk26 rfl dX2_put_74 ?_
                  refine lv_iload_n hx hb dX2_put_77 rfl (lv_at hl 1 rfl) ?_
                  refine r_mld hx hb hw 5 (by decide) (by decide) (i) (rfl) (show i < 24 by omega) dX2_put_78 ?_
                  refine k_i hw (va_runV (As := [.int (nI i), .int 1, .int (acS M i p2 5 i)]) (rest := []) ⟨hx, hb, hml, hown, hts⟩ (c_X2_let l G f wa S (acS M i p2) (j := i) (by omega) 1 (acS M i p2 5 i)) (cwV 3 hts gX2_put_X2_let rfl rfl rfl (by decide +kernel) ⟨Nat.le_of_ble_eq_true rfl, Nat.le_of_ble_eq_true rfl⟩) (hw.preM _) rfl rfl hl.1 rfl (lv_room (Nat.le_of_ble_eq_true rfl)) dX2_put_79 ⟨Nat.le_of_ble_eq_true rfl, Nat.le_of_ble_eq_true rfl⟩) (fun r u H locs hR hw => ?_)
                  obtain ⟨hq, rfl⟩ := hR
                  obtain rfl := hq.symm
                  exact e_i hx hb hr hlocks hw dX2_put_82 (leafM (by simp only [om_put, mj_put, ml, ml2, ↓reduceIte, isH_nI hi, cl24 hi, c_4, hh_8, c_11, c_22, c_34, hh_49, c_52]))
                · skip
                  exact absurd c_52 (by decide)
            · skip
              refine lv_aload_n hx hb dX2_put_37 rfl (lv_at hl 0 rfl) ?_
              refine lv_iload_n hx hb dX2_put_38 rfl (lv_at hl 1 rfl) ?_
              refine lv_iconst (v := 2) hx hb dX2_put_39 (by decide) ?_
              refine lv_bipush (v := (-3)) hx hb dX2_put_40 (by decide) ?_
              refine k_i hw (va_runV (As := [.int (nI i), .int 2, .int (-3)]) (rest := []) ⟨hx, hb, hml, hown, hts⟩ (c_X2_let l G f wa S M (j := i) (by omega) 2 (-3)) (cwV 3 hts gX2_put_X2_let rfl rfl rfl (by decide +kernel) ⟨Nat.le_of_ble_eq_true rfl, Nat.le_of_ble_eq_true rfl⟩) (hw.preM _) rfl rfl hl.1 rfl (lv_room (Nat.le_of_ble_eq_true rfl)) dX2_put_42 ⟨Nat.le_of_ble_eq_true rfl, Nat.le_of_ble_eq_true rfl⟩) (fun r u H locs hR hw => ?_)
              obtain ⟨hq, rfl⟩ := hR
              obtain rfl := hq.symm
              exact e_i hx hb hr hlocks hw dX2_put_45 (leafM (by simp only [om_put, mj_put, ml, ml2, ↓reduceIte, isH_nI hi, cl24 hi, c_4, hh_8, c_11, c_22, c_34]))
          · skip
            refine lv_bipush (v := (-2)) hx hb dX2_put_25 (by decide) ?_
            exact e_i hx hb hr hlocks hw dX2_put_27 (leafM (by simp only [om_put, mj_put, ml, ml2, ↓reduceIte, isH_nI hi, cl24 hi, c_4, hh_8, c_11, c_22]))
        · skip
          exact absurd c_11 (by decide)

set_option maxHeartbeats 800000 in
set_option maxRecDepth 100000 in
theorem c_X2_take (l : Launch) (G : GT) (f : Nat → Option Nat) (wa : Nat → Nat) (S M : Tb) (hI : Inv M) (p1 : Int32) : Met l yX2_take wsX2_take (rk 1) (va_Pc [.ref (gm G), .int p1] (Wo G (f, wa, S, M))) (Qi G (fun r u => r = (om_take M p1).1 ∧ u = (f, wa, S, (om_take M p1).2))) 0 0 (gA G) := by
  refine m_head (cc := cX2_take) (maxL := 2) (ret := (some .int)) (by decide) rfl (Nat.le_of_ble_eq_true rfl) ?_
  intro p e s m below meth c hx hb hml hr hlocks hown hts hw ls hl
  have hown : s.vm.findClass RX2 = some m.cls := hown
  have hl : lv_has ls 2 [(0, .ref (gm G)), (1, .int p1)] := hl
  have hin2 : ∀ w ∈ wsX20, w ∈ wsX2_take := by decide +kernel
  have lk7 := hts (.fieldLink RX2 7 "LockerWallModel" "there" "[Z") (by decide +kernel)
  have lk20 := hts (.fieldLink RX2 20 "LockerWallModel" "open" "[Z") (by decide +kernel)
  have lk26 := hts (.fieldLink RX2 26 "LockerWallModel" "many" "[I") (by decide +kernel)
  refine lv_iload_n hx hb dX2_take_0 rfl (lv_at hl 1 rfl) ?_
  refine k_i hw (va_runS (As := [.int p1]) (rest := []) ⟨hx, hb, hml, hown, hts⟩ (c_X2_isHook l G f wa S M p1) (va_cwS 1 hts gX2_take_X2_isHook rfl rfl rfl (by decide +kernel) ⟨Nat.le_of_ble_eq_true rfl, Nat.le_of_ble_eq_true rfl⟩) (hw.preS _) rfl rfl hl.1 rfl (lv_room (Nat.le_of_ble_eq_true rfl)) dX2_take_1 ⟨Nat.le_of_ble_eq_true rfl, Nat.le_of_ble_eq_true rfl⟩) (fun r u H locs hR hw => ?_)
  obtain ⟨hq, rfl⟩ := hR
  obtain rfl := hq.symm
  cases hh_1 : isH p1
  · skip
    refine W.eq (g2 := F0 m 4 ls [.int 0]) rfl ?_
    refine lv_if_ne (tgt := 9) hx hb dX2_take_4 (by decide) (fun c_4 => ?_) (fun c_4 => ?_)
    · skip
      exact absurd c_4 (by decide)
    · skip
      refine lv_iconst (v := (-1)) hx hb dX2_take_7 (by decide) ?_
      exact e_i hx hb hr hlocks hw dX2_take_8 (leafM (by simp only [om_take, mj_take, ml, ml2, ↓reduceIte, hh_1, Bool.false_eq_true, c_4]))
  · skip
    refine W.eq (g2 := F0 m 4 ls [.int 1]) rfl ?_
    obtain ⟨i, hi, rfl⟩ := isH_of hh_1
    obtain ⟨n_i, h10_i, hn_i⟩ := hI i hi
    refine lv_if_ne (tgt := 9) hx hb dX2_take_4 (by decide) (fun c_4 => ?_) (fun c_4 => ?_)
    · skip
      refine lv_aload_n hx hb dX2_take_9 rfl (lv_at hl 0 rfl) ?_
      refine r_getM (v := .ref (gc G 0)) hx hb hts hin2 hown hw 0 (by decide) lk7 rfl dX2_take_10 ?_
      refine lv_iload_n hx hb dX2_take_13 rfl (lv_at hl 1 rfl) ?_
      refine r_mldZ hx hb hw 0 (by decide) (by decide) (i) (rfl) (show i < 24 by omega) dX2_take_14 ?_
      refine lv_if_ne (tgt := 21) hx hb dX2_take_15 (by decide) (fun c_15 => ?_) (fun c_15 => ?_)
      · skip
        refine lv_aload_n hx hb dX2_take_21 rfl (lv_at hl 0 rfl) ?_
        refine r_getM (v := .ref (gc G 3)) hx hb hts hin2 hown hw 3 (by decide) lk20 rfl dX2_take_22 ?_
        refine lv_iload_n hx hb dX2_take_25 rfl (lv_at hl 1 rfl) ?_
        refine r_mldZ hx hb hw 3 (by decide) (by decide) (i) (rfl) (show i < 24 by omega) dX2_take_26 ?_
        refine lv_if_ne (tgt := 39) hx hb dX2_take_27 (by decide) (fun c_27 => ?_) (fun c_27 => ?_)
        · skip
          refine lv_aload_n hx hb dX2_take_39 rfl (lv_at hl 0 rfl) ?_
          refine r_getM (v := .ref (gc G 5)) hx hb hts hin2 hown hw 5 (by decide) lk26 rfl dX2_take_40 ?_
          refine lv_iload_n hx hb dX2_take_43 rfl (lv_at hl 1 rfl) ?_
          refine r_mld hx hb hw 5 (by decide) (by decide) (i) (rfl) (show i < 24 by omega) dX2_take_44 ?_
          refine lv_if_ne (tgt := 57) hx hb dX2_take_45 (by decide) (fun c_45 => ?_) (fun c_45 => ?_)
          · skip
            obtain ⟨q_i, hq_i, hs_i⟩ := n_succ hn_i h10_i c_45
            refine lv_aload_n hx hb dX2_take_57 rfl (lv_at hl 0 rfl) ?_
            refine lv_iload_n hx hb dX2_take_58 rfl (lv_at hl 1 rfl) ?_
            refine lv_iconst (v := 1) hx hb dX2_take_59 (by decide) ?_
            refine lv_aload_n hx hb dX2_take_60 rfl (lv_at hl 0 rfl) ?_
            refine lv_iload_n hx hb dX2_take_61 rfl (lv_at hl 1 rfl) ?_
            refine k_i hw (va_runV (As := [.int (nI i)]) (rest := [.int 1, .int (nI i), .ref (gm G)]) ⟨hx, hb, hml, hown, hts⟩ (c_X2_takeLast l G f wa S M (i := i) (by omega) hs_i hq_i) (cwV 1 hts gX2_take_X2_takeLast rfl rfl rfl (by decide +kernel) ⟨Nat.le_of_ble_eq_true rfl, Nat.le_of_ble_eq_true rfl⟩) (hw.preM _) rfl rfl hl.1 rfl (lv_room (Nat.le_of_ble_eq_true rfl)) dX2_take_62 ⟨Nat.le_of_ble_eq_true rfl, Nat.le_of_ble_eq_true rfl⟩) (fun r u H locs hR hw => ?_)
            obtain ⟨hq, rfl⟩ := hR
            obtain rfl := hq.symm
            refine k_i hw (va_runV (As := [.int (nI i), .int 1, .int (rmV M i)]) (rest := []) ⟨hx, hb, hml, hown, hts⟩ (c_X2_let l G f wa S (rmS M i) (j := i) (by omega) 1 (rmV M i)) (cwV 3 hts gX2_take_X2_let rfl rfl rfl (by decide +kernel) ⟨Nat.le_of_ble_eq_true rfl, Nat.le_of_ble_eq_true rfl⟩) (hw.preM _) rfl rfl hl.1 rfl (lv_room (Nat.le_of_ble_eq_true rfl)) dX2_take_65 ⟨Nat.le_of_ble_eq_true rfl, Nat.le_of_ble_eq_true rfl⟩) (fun r u H locs hR hw => ?_)
            obtain ⟨hq, rfl⟩ := hR
            obtain rfl := hq.symm
            exact e_i hx hb hr hlocks hw dX2_take_68 (leafM (by simp only [om_take, mj_take, ml, ml2, ↓reduceIte, isH_nI hi, cl24 hi, c_4, c_15, c_27, c_45]))
          · skip
            refine lv_aload_n hx hb dX2_take_48 rfl (lv_at hl 0 rfl) ?_
            refine lv_iload_n hx hb dX2_take_49 rfl (lv_at hl 1 rfl) ?_
            refine lv_iconst (v := 4) hx hb dX2_take_50 (by decide) ?_
            refine lv_bipush (v := (-6)) hx hb dX2_take_51 (by decide) ?_
            refine k_i hw (va_runV (As := [.int (nI i), .int 4, .int (-6)]) (rest := []) ⟨hx, hb, hml, hown, hts⟩ (c_X2_let l G f wa S M (j := i) (by omega) 4 (-6)) (cwV 3 hts gX2_take_X2_let rfl rfl rfl (by decide +kernel) ⟨Nat.le_of_ble_eq_true rfl, Nat.le_of_ble_eq_true rfl⟩) (hw.preM _) rfl rfl hl.1 rfl (lv_room (Nat.le_of_ble_eq_true rfl)) dX2_take_53 ⟨Nat.le_of_ble_eq_true rfl, Nat.le_of_ble_eq_true rfl⟩) (fun r u H locs hR hw => ?_)
            obtain ⟨hq, rfl⟩ := hR
            obtain rfl := hq.symm
            exact e_i hx hb hr hlocks hw dX2_take_56 (leafM (by simp only [om_take, mj_take, ml, ml2, ↓reduceIte, isH_nI hi, cl24 hi, c_4, c_15, c_27, c_45]))
        · skip
          refine lv_aload_n hx hb dX2_take_30 rfl (lv_at hl 0 rfl) ?_
          refine lv_iload_n hx hb dX2_take_31 rfl (lv_at hl 1 rfl) ?_
          refine lv_iconst (v := 2) hx hb dX2_take_32 (by decide) ?_
          refine lv_bipush (v := (-3)) hx hb dX2_take_33 (by decide) ?_
          refine k_i hw (va_runV (As := [.int (nI i), .int 2, .int (-3)]) (rest := []) ⟨hx, hb, hml, hown, hts⟩ (c_X2_let l G f wa S M (j := i) (by omega) 2 (-3)) (cwV 3 hts gX2_take_X2_let rfl rfl rfl (by decide +kernel) ⟨Nat.le_of_ble_eq_true rfl, Nat.le_of_ble_eq_true rfl⟩) (hw.preM _) rfl rfl hl.1 rfl (lv_room (Nat.le_of_ble_eq_true rfl)) dX2_take_35 ⟨Nat.le_of_ble_eq_true rfl, Nat.le_of_ble_eq_true rfl⟩) (fun r u H locs hR hw => ?_)
          obtain ⟨hq, rfl⟩ := hR
          obtain rfl := hq.symm
          exact e_i hx hb hr hlocks hw dX2_take_38 (leafM (by simp only [om_take, mj_take, ml, ml2, ↓reduceIte, isH_nI hi, cl24 hi, c_4, c_15, c_27]))
      · skip
        refine lv_bipush (v := (-2)) hx hb dX2_take_18 (by decide) ?_
        exact e_i hx hb hr hlocks hw dX2_take_20 (leafM (by simp only [om_take, mj_take, ml, ml2, ↓reduceIte, isH_nI hi, cl24 hi, c_4, c_15]))
    · skip
      exact absurd c_4 (by decide)

set_option maxHeartbeats 800000 in
set_option maxRecDepth 100000 in
theorem c_X2_recode (l : Launch) (G : GT) (f : Nat → Option Nat) (wa : Nat → Nat) (S M : Tb) (p1 p2 : Int32) : Met l yX2_recode wsX2_recode (rk 1) (va_Pc [.ref (gm G), .int p1, .int p2] (Wo G (f, wa, S, M))) (Qi G (fun r u => r = (om_recode M p1 p2).1 ∧ u = (f, wa, S, (om_recode M p1 p2).2))) 0 0 (gA G) := by
  refine m_head (cc := cX2_recode) (maxL := 3) (ret := (some .int)) (by decide) rfl (Nat.le_of_ble_eq_true rfl) ?_
  intro p e s m below meth c hx hb hml hr hlocks hown hts hw ls hl
  have hown : s.vm.findClass RX2 = some m.cls := hown
  have hl : lv_has ls 3 [(0, .ref (gm G)), (1, .int p1), (2, .int p2)] := hl
  have hin2 : ∀ w ∈ wsX20, w ∈ wsX2_recode := by decide +kernel
  have lk7 := hts (.fieldLink RX2 7 "LockerWallModel" "there" "[Z") (by decide +kernel)
  have lk29 := hts (.fieldLink RX2 29 "LockerWallModel" "holds" "[I") (by decide +kernel)
  have lk32 := hts (.fieldLink RX2 32 "LockerWallModel" "left" "[I") (by decide +kernel)
  have lk20 := hts (.fieldLink RX2 20 "LockerWallModel" "open" "[Z") (by decide +kernel)
  have lk17 := hts (.fieldLink RX2 17 "LockerWallModel" "code" "[I") (by decide +kernel)
  refine lv_iload_n hx hb dX2_recode_0 rfl (lv_at hl 1 rfl) ?_
  refine k_i hw (va_runS (As := [.int p1]) (rest := []) ⟨hx, hb, hml, hown, hts⟩ (c_X2_isHook l G f wa S M p1) (va_cwS 1 hts gX2_recode_X2_isHook rfl rfl rfl (by decide +kernel) ⟨Nat.le_of_ble_eq_true rfl, Nat.le_of_ble_eq_true rfl⟩) (hw.preS _) rfl rfl hl.1 rfl (lv_room (Nat.le_of_ble_eq_true rfl)) dX2_recode_1 ⟨Nat.le_of_ble_eq_true rfl, Nat.le_of_ble_eq_true rfl⟩) (fun r u H locs hR hw => ?_)
  obtain ⟨hq, rfl⟩ := hR
  obtain rfl := hq.symm
  cases hh_1 : isH p1
  · skip
    refine W.eq (g2 := F0 m 4 ls [.int 0]) rfl ?_
    refine lv_if_ne (tgt := 9) hx hb dX2_recode_4 (by decide) (fun c_4 => ?_) (fun c_4 => ?_)
    · skip
      exact absurd c_4 (by decide)
    · skip
      refine lv_iconst (v := (-1)) hx hb dX2_recode_7 (by decide) ?_
      exact e_i hx hb hr hlocks hw dX2_recode_8 (leafM (by simp only [om_recode, mj_recode, ml, ml2, ↓reduceIte, hh_1, Bool.false_eq_true, c_4]))
  · skip
    refine W.eq (g2 := F0 m 4 ls [.int 1]) rfl ?_
    obtain ⟨i, hi, rfl⟩ := isH_of hh_1
    refine lv_if_ne (tgt := 9) hx hb dX2_recode_4 (by decide) (fun c_4 => ?_) (fun c_4 => ?_)
    · skip
      refine lv_aload_n hx hb dX2_recode_9 rfl (lv_at hl 0 rfl) ?_
      refine r_getM (v := .ref (gc G 0)) hx hb hts hin2 hown hw 0 (by decide) lk7 rfl dX2_recode_10 ?_
      refine lv_iload_n hx hb dX2_recode_13 rfl (lv_at hl 1 rfl) ?_
      refine r_mldZ hx hb hw 0 (by decide) (by decide) (i) (rfl) (show i < 24 by omega) dX2_recode_14 ?_
      refine lv_if_ne (tgt := 21) hx hb dX2_recode_15 (by decide) (fun c_15 => ?_) (fun c_15 => ?_)
      · skip
        refine lv_aload_n hx hb dX2_recode_21 rfl (lv_at hl 0 rfl) ?_
        refine r_getM (v := .ref (gc G 6)) hx hb hts hin2 hown hw 6 (by decide) lk29 rfl dX2_recode_22 ?_
        refine lv_iload_n hx hb dX2_recode_25 rfl (lv_at hl 1 rfl) ?_
        refine lv_dup2_11 hx hb dX2_recode_26 rfl rfl ?_
        refine r_mld hx hb hw 6 (by decide) (by decide) (i) (rfl) (show i < 24 by omega) dX2_recode_27 ?_
        refine lv_iconst (v := 3) hx hb dX2_recode_28 (by decide) ?_
        refine lv_iadd hx hb dX2_recode_29 ?_
        refine r_mst hx hb hw 6 (by decide) (by decide) (i) (rfl) (show i < 24 by omega) dX2_recode_30 (fun H locs hw => ?_)
        have hw : Wi G (f, wa, S, sU M 6 i ((M 6 i) + 3)) s H locs := hw
        refine lv_aload_n hx hb dX2_recode_31 rfl (lv_at hl 0 rfl) ?_
        refine r_getM (v := .ref (gc G 7)) hx hb hts hin2 hown hw 7 (by decide) lk32 rfl dX2_recode_32 ?_
        refine lv_iload_n hx hb dX2_recode_35 rfl (lv_at hl 1 rfl) ?_
        refine lv_aload_n hx hb dX2_recode_36 rfl (lv_at hl 0 rfl) ?_
        refine r_getM (v := .ref (gc G 3)) hx hb hts hin2 hown hw 3 (by decide) lk20 rfl dX2_recode_37 ?_
        refine lv_iload_n hx hb dX2_recode_40 rfl (lv_at hl 1 rfl) ?_
        refine r_mldZ hx hb hw 3 (by decide) (by decide) (i) (rfl) (show i < 24 by omega) dX2_recode_41 ?_
        refine W.eq (g2 := F0 m 42 ls [.int (M 3 i), .int (nI i), .ref (gc G 7)]) rfl ?_
        refine lv_if_eq (tgt := 49) hx hb dX2_recode_42 (by decide) (fun c_42 => ?_) (fun c_42 => ?_)
        · skip
          refine lv_iconst (v := 4) hx hb dX2_recode_49 (by decide) ?_
          refine r_mst hx hb hw 7 (by decide) (by decide) (i) (rfl) (show i < 24 by omega) dX2_recode_50 (fun H locs hw => ?_)
          have hw : Wi G (f, wa, S, sU (sU M 6 i ((M 6 i) + 3)) 7 i 4) s H locs := hw
          refine lv_aload_n hx hb dX2_recode_51 rfl (lv_at hl 0 rfl) ?_
          refine r_getM (v := .ref (gc G 3)) hx hb hts hin2 hown hw 3 (by decide) lk20 rfl dX2_recode_52 ?_
          refine lv_iload_n hx hb dX2_recode_55 rfl (lv_at hl 1 rfl) ?_
          refine r_mldZ hx hb hw 3 (by decide) (by decide) (i) (rfl) (show i < 24 by omega) dX2_recode_56 ?_
          refine W.eq (g2 := F0 m 57 ls [.int (M 3 i)]) rfl ?_
          refine lv_if_ne (tgt := 63) hx hb dX2_recode_57 (by decide) (fun c_57 => ?_) (fun c_57 => ?_)
          · skip
            exact absurd c_42 c_57
          · skip
            refine lv_bipush (v := (-7)) hx hb dX2_recode_60 (by decide) ?_
            exact e_i hx hb hr hlocks hw dX2_recode_62 (leafM (by simp only [om_recode, mj_recode, ml, ml2, ↓reduceIte, isH_nI hi, cl24 hi, c_4, c_15, c_42, c_57]))
        · skip
          refine lv_iconst (v := 2) hx hb dX2_recode_45 (by decide) ?_
          refine lv_goto (tgt := 50) hx hb dX2_recode_46 (by decide) ?_
          refine r_mst hx hb hw 7 (by decide) (by decide) (i) (rfl) (show i < 24 by omega) dX2_recode_50 (fun H locs hw => ?_)
          have hw : Wi G (f, wa, S, sU (sU M 6 i ((M 6 i) + 3)) 7 i 2) s H locs := hw
          refine lv_aload_n hx hb dX2_recode_51 rfl (lv_at hl 0 rfl) ?_
          refine r_getM (v := .ref (gc G 3)) hx hb hts hin2 hown hw 3 (by decide) lk20 rfl dX2_recode_52 ?_
          refine lv_iload_n hx hb dX2_recode_55 rfl (lv_at hl 1 rfl) ?_
          refine r_mldZ hx hb hw 3 (by decide) (by decide) (i) (rfl) (show i < 24 by omega) dX2_recode_56 ?_
          refine W.eq (g2 := F0 m 57 ls [.int (M 3 i)]) rfl ?_
          refine lv_if_ne (tgt := 63) hx hb dX2_recode_57 (by decide) (fun c_57 => ?_) (fun c_57 => ?_)
          · skip
            refine lv_aload_n hx hb dX2_recode_63 rfl (lv_at hl 0 rfl) ?_
            refine r_getM (v := .ref (gc G 2)) hx hb hts hin2 hown hw 2 (by decide) lk17 rfl dX2_recode_64 ?_
            refine lv_iload_n hx hb dX2_recode_67 rfl (lv_at hl 1 rfl) ?_
            refine lv_iload_n hx hb dX2_recode_68 rfl (lv_at hl 2 rfl) ?_
            refine r_mst hx hb hw 2 (by decide) (by decide) (i) (rfl) (show i < 24 by omega) dX2_recode_69 (fun H locs hw => ?_)
            have hw : Wi G (f, wa, S, sU (sU (sU M 6 i ((M 6 i) + 3)) 7 i 2) 2 i p2) s H locs := hw
            refine lv_iconst (v := 1) hx hb dX2_recode_70 (by decide) ?_
            exact e_i hx hb hr hlocks hw dX2_recode_71 (leafM (by simp only [om_recode, mj_recode, ml, ml2, ↓reduceIte, isH_nI hi, cl24 hi, c_4, c_15, c_42, c_57]))
          · skip
            exact absurd c_57 c_42
      · skip
        refine lv_bipush (v := (-2)) hx hb dX2_recode_18 (by decide) ?_
        exact e_i hx hb hr hlocks hw dX2_recode_20 (leafM (by simp only [om_recode, mj_recode, ml, ml2, ↓reduceIte, isH_nI hi, cl24 hi, c_4, c_15]))
    · skip
      exact absurd c_4 (by decide)

set_option maxHeartbeats 800000 in
set_option maxRecDepth 100000 in
theorem c_X2_item (l : Launch) (G : GT) (f : Nat → Option Nat) (wa : Nat → Nat) (S M : Tb) (hI : Inv M) (p1 p2 : Int32) : Met l yX2_item wsX2_item (rk 1) (va_Pc [.ref (gm G), .int p1, .int p2] (Wo G (f, wa, S, M))) (Qi G (fun r u => r = (om_item M p1 p2).1 ∧ u = (f, wa, S, (om_item M p1 p2).2))) 0 0 (gA G) := by
  refine m_head (cc := cX2_item) (maxL := 3) (ret := (some .int)) (by decide) rfl (Nat.le_of_ble_eq_true rfl) ?_
  intro p e s m below meth c hx hb hml hr hlocks hown hts hw ls hl
  have hown : s.vm.findClass RX2 = some m.cls := hown
  have hl : lv_has ls 3 [(0, .ref (gm G)), (1, .int p1), (2, .int p2)] := hl
  have hin2 : ∀ w ∈ wsX20, w ∈ wsX2_item := by decide +kernel
  have lk7 := hts (.fieldLink RX2 7 "LockerWallModel" "there" "[Z") (by decide +kernel)
  have lk26 := hts (.fieldLink RX2 26 "LockerWallModel" "many" "[I") (by decide +kernel)
  have lk35 := hts (.fieldLink RX2 35 "LockerWallModel" "item" "[I") (by decide +kernel)
  refine lv_iload_n hx hb dX2_item_0 rfl (lv_at hl 1 rfl) ?_
  refine k_i hw (va_runS (As := [.int p1]) (rest := []) ⟨hx, hb, hml, hown, hts⟩ (c_X2_isHook l G f wa S M p1) (va_cwS 1 hts gX2_item_X2_isHook rfl rfl rfl (by decide +kernel) ⟨Nat.le_of_ble_eq_true rfl, Nat.le_of_ble_eq_true rfl⟩) (hw.preS _) rfl rfl hl.1 rfl (lv_room (Nat.le_of_ble_eq_true rfl)) dX2_item_1 ⟨Nat.le_of_ble_eq_true rfl, Nat.le_of_ble_eq_true rfl⟩) (fun r u H locs hR hw => ?_)
  obtain ⟨hq, rfl⟩ := hR
  obtain rfl := hq.symm
  cases hh_1 : isH p1
  · skip
    refine W.eq (g2 := F0 m 4 ls [.int 0]) rfl ?_
    refine lv_if_ne (tgt := 9) hx hb dX2_item_4 (by decide) (fun c_4 => ?_) (fun c_4 => ?_)
    · skip
      exact absurd c_4 (by decide)
    · skip
      refine lv_iconst (v := (-1)) hx hb dX2_item_7 (by decide) ?_
      exact e_i hx hb hr hlocks hw dX2_item_8 (leafM (by simp only [om_item, wOf, ml, ml2, ↓reduceIte, hh_1, Bool.false_eq_true, c_4]))
  · skip
    refine W.eq (g2 := F0 m 4 ls [.int 1]) rfl ?_
    obtain ⟨i, hi, rfl⟩ := isH_of hh_1
    obtain ⟨n_i, h10_i, hn_i⟩ := hI i hi
    refine lv_if_ne (tgt := 9) hx hb dX2_item_4 (by decide) (fun c_4 => ?_) (fun c_4 => ?_)
    · skip
      refine lv_aload_n hx hb dX2_item_9 rfl (lv_at hl 0 rfl) ?_
      refine r_getM (v := .ref (gc G 0)) hx hb hts hin2 hown hw 0 (by decide) lk7 rfl dX2_item_10 ?_
      refine lv_iload_n hx hb dX2_item_13 rfl (lv_at hl 1 rfl) ?_
      refine r_mldZ hx hb hw 0 (by decide) (by decide) (i) (rfl) (show i < 24 by omega) dX2_item_14 ?_
      refine lv_if_ne (tgt := 21) hx hb dX2_item_15 (by decide) (fun c_15 => ?_) (fun c_15 => ?_)
      · skip
        refine lv_iload_n hx hb dX2_item_21 rfl (lv_at hl 2 rfl) ?_
        refine lv_if_lt (tgt := 49) hx hb dX2_item_22 (by decide) (fun c_22 => ?_) (fun c_22 => ?_)
        · skip
          refine lv_bipush (v := (-8)) hx hb dX2_item_49 (by decide) ?_
          exact e_i hx hb hr hlocks hw dX2_item_51 (leafM (by simp only [om_item, wOf, ml, ml2, ↓reduceIte, isH_nI hi, cl24 hi, c_4, c_15, c_22]))
        · skip
          refine lv_iload_n hx hb dX2_item_25 rfl (lv_at hl 2 rfl) ?_
          refine lv_aload_n hx hb dX2_item_26 rfl (lv_at hl 0 rfl) ?_
          refine r_getM (v := .ref (gc G 5)) hx hb hts hin2 hown hw 5 (by decide) lk26 rfl dX2_item_27 ?_
          refine lv_iload_n hx hb dX2_item_30 rfl (lv_at hl 1 rfl) ?_
          refine r_mld hx hb hw 5 (by decide) (by decide) (i) (rfl) (show i < 24 by omega) dX2_item_31 ?_
          refine lv_icmp_ge (tgt := 49) hx hb dX2_item_32 (by decide) (fun c_32 => ?_) (fun c_32 => ?_)
          · skip
            refine lv_bipush (v := (-8)) hx hb dX2_item_49 (by decide) ?_
            exact e_i hx hb hr hlocks hw dX2_item_51 (leafM (by simp only [om_item, wOf, ml, ml2, ↓reduceIte, isH_nI hi, cl24 hi, c_4, c_15, c_22, c_32]))
          · skip
            obtain ⟨q, hq, rfl⟩ : ∃ q : Nat, q < n_i ∧ p2 = nI q := by
              rcases pk_ix p2 (n := n_i) (by omega) with h | h | h
              · exact absurd h c_22
              · exact absurd (by rw [hn_i]; exact h) c_32
              · exact h
            have clq : (nI q).toNatClampNeg = q := nI_clamp (by omega)
            refine lv_aload_n hx hb dX2_item_35 rfl (lv_at hl 0 rfl) ?_
            refine r_getM (v := .ref (gc G 8)) hx hb hts hin2 hown hw 8 (by decide) lk35 rfl dX2_item_36 ?_
            refine lv_bipush (v := 10) hx hb dX2_item_39 (by decide) ?_
            refine lv_iload_n hx hb dX2_item_41 rfl (lv_at hl 1 rfl) ?_
            refine lv_imul hx hb dX2_item_42 ?_
            refine lv_iload_n hx hb dX2_item_43 rfl (lv_at hl 2 rfl) ?_
            refine lv_iadd hx hb dX2_item_44 ?_
            refine r_mld hx hb hw 8 (by decide) (by decide) (10 * i + q) (ix10 _ _) (show 10 * i + q < 240 by omega) dX2_item_45 ?_
            refine lv_goto (tgt := 51) hx hb dX2_item_46 (by decide) ?_
            exact e_i hx hb hr hlocks hw dX2_item_51 (leafM (by simp only [om_item, wOf, ml, ml2, ↓reduceIte, isH_nI hi, cl24 hi, c_4, c_15, c_22, c_32, clq]))
      · skip
        refine lv_bipush (v := (-2)) hx hb dX2_item_18 (by decide) ?_
        exact e_i hx hb hr hlocks hw dX2_item_20 (leafM (by simp only [om_item, wOf, ml, ml2, ↓reduceIte, isH_nI hi, cl24 hi, c_4, c_15]))
    · skip
      exact absurd c_4 (by decide)

set_option maxHeartbeats 800000 in
set_option maxRecDepth 100000 in
theorem c_X2_latch (l : Launch) (G : GT) (f : Nat → Option Nat) (wa : Nat → Nat) (S M : Tb)  : Met l yX2_latch wsX2_latch (rk 0) (va_Pc [.ref (gm G)] (Wo G (f, wa, S, M))) (Qi G (fun r u => r = ((M 9 0, M)).1 ∧ u = (f, wa, S, ((M 9 0, M)).2))) 0 0 (gA G) := by
  refine m_head (cc := cX2_latch) (maxL := 1) (ret := (some .int)) (by decide) rfl (Nat.le_of_ble_eq_true rfl) ?_
  intro p e s m below meth c hx hb hml hr hlocks hown hts hw ls hl
  have hown : s.vm.findClass RX2 = some m.cls := hown
  have hl : lv_has ls 1 [(0, .ref (gm G))] := hl
  have hin2 : ∀ w ∈ wsX20, w ∈ wsX2_latch := by decide +kernel
  have lk49 := hts (.fieldLink RX2 49 "LockerWallModel" "latched" "I") (by decide +kernel)
  refine lv_aload_n hx hb dX2_latch_0 rfl (lv_at hl 0 rfl) ?_
  refine r_getM (v := .int (M 9 0)) hx hb hts hin2 hown hw 9 (by decide) lk49 rfl dX2_latch_1 ?_
  exact e_i hx hb hr hlocks hw dX2_latch_4 ⟨rfl, rfl⟩
end
section
set_option maxHeartbeats 800000 in
set_option maxRecDepth 100000 in
theorem c_X2_move (l : Launch) (G : GT) (f : Nat → Option Nat) (wa : Nat → Nat) (S M : Tb) (hI : Inv M) (p1 p2 : Int32) : Met l yX2_move wsX2_move (rk 2) (va_Pc [.ref (gm G), .int p1, .int p2] (Wo G (f, wa, S, M))) (Qi G (fun r u => r = (om_move M p1 p2).1 ∧ u = (f, wa, S, (om_move M p1 p2).2))) 0 0 (gA G) := by
  refine m_head (cc := cX2_move) (maxL := 4) (ret := (some .int)) (by decide) rfl (Nat.le_of_ble_eq_true rfl) ?_
  intro p e s m below meth c hx hb hml hr hlocks hown hts hw ls hl
  have hown : s.vm.findClass RX2 = some m.cls := hown
  have hl : lv_has ls 4 [(0, .ref (gm G)), (1, .int p1), (2, .int p2)] := hl
  have hin2 : ∀ w ∈ wsX20, w ∈ wsX2_move := by decide +kernel
  have lk7 := hts (.fieldLink RX2 7 "LockerWallModel" "there" "[Z") (by decide +kernel)
  have lk20 := hts (.fieldLink RX2 20 "LockerWallModel" "open" "[Z") (by decide +kernel)
  have lk26 := hts (.fieldLink RX2 26 "LockerWallModel" "many" "[I") (by decide +kernel)
  refine lv_iload_n hx hb dX2_move_0 rfl (lv_at hl 1 rfl) ?_
  refine k_i hw (va_runS (As := [.int p1]) (rest := []) ⟨hx, hb, hml, hown, hts⟩ (c_X2_isHook l G f wa S M p1) (va_cwS 1 hts gX2_move_X2_isHook rfl rfl rfl (by decide +kernel) ⟨Nat.le_of_ble_eq_true rfl, Nat.le_of_ble_eq_true rfl⟩) (hw.preS _) rfl rfl hl.1 rfl (lv_room (Nat.le_of_ble_eq_true rfl)) dX2_move_1 ⟨Nat.le_of_ble_eq_true rfl, Nat.le_of_ble_eq_true rfl⟩) (fun r u H locs hR hw => ?_)
  obtain ⟨hq, rfl⟩ := hR
  obtain rfl := hq.symm
  cases hh_1 : isH p1
  · skip
    refine W.eq (g2 := F0 m 4 ls [.int 0]) rfl ?_
    refine lv_if_eq (tgt := 14) hx hb dX2_move_4 (by decide) (fun c_4 => ?_) (fun c_4 => ?_)
    · skip
      refine lv_iconst (v := (-1)) hx hb dX2_move_14 (by decide) ?_
      exact e_i hx hb hr hlocks hw dX2_move_15 (leafM (by simp only [om_move, mj_move, ml, ml2, ↓reduceIte, hh_1, Bool.false_eq_true, c_4]))
    · skip
      exact absurd c_4 (by decide)
  · skip
    refine W.eq (g2 := F0 m 4 ls [.int 1]) rfl ?_
    obtain ⟨i, hi, rfl⟩ := isH_of hh_1
    obtain ⟨n_i, h10_i, hn_i⟩ := hI i hi
    refine lv_if_eq (tgt := 14) hx hb dX2_move_4 (by decide) (fun c_4 => ?_) (fun c_4 => ?_)
    · skip
      exact absurd c_4 (by decide)
    · skip
      refine lv_iload_n hx hb dX2_move_7 rfl (lv_at hl 2 rfl) ?_
      refine k_i hw (va_runS (As := [.int p2]) (rest := []) ⟨hx, hb, hml, hown, hts⟩ (c_X2_isHook l G f wa S M p2) (va_cwS 1 hts gX2_move_X2_isHook rfl rfl rfl (by decide +kernel) ⟨Nat.le_of_ble_eq_true rfl, Nat.le_of_ble_eq_true rfl⟩) (hw.preS _) rfl rfl hl.1 rfl (lv_room (Nat.le_of_ble_eq_true rfl)) dX2_move_8 ⟨Nat.le_of_ble_eq_true rfl, Nat.le_of_ble_eq_true rfl⟩) (fun r u H locs hR hw => ?_)
      obtain ⟨hq, rfl⟩ := hR
      obtain rfl := hq.symm
      cases hh_8 : isH p2
      · skip
        refine W.eq (g2 := F0 m 11 ls [.int 0]) rfl ?_
        refine lv_if_ne (tgt := 16) hx hb dX2_move_11 (by decide) (fun c_11 => ?_) (fun c_11 => ?_)
        · skip
          exact absurd c_11 (by decide)
        · skip
          refine lv_iconst (v := (-1)) hx hb dX2_move_14 (by decide) ?_
          exact e_i hx hb hr hlocks hw dX2_move_15 (leafM (by simp only [om_move, mj_move, ml, ml2, ↓reduceIte, isH_nI hi, cl24 hi, c_4, hh_8, Bool.false_eq_true, c_11]))
      · skip
        refine W.eq (g2 := F0 m 11 ls [.int 1]) rfl ?_
        obtain ⟨j, hj, rfl⟩ := isH_of hh_8
        obtain ⟨n_j, h10_j, hn_j⟩ := hI j hj
        refine lv_if_ne (tgt := 16) hx hb dX2_move_11 (by decide) (fun c_11 => ?_) (fun c_11 => ?_)
        · skip
          refine lv_aload_n hx hb dX2_move_16 rfl (lv_at hl 0 rfl) ?_
          refine r_getM (v := .ref (gc G 0)) hx hb hts hin2 hown hw 0 (by decide) lk7 rfl dX2_move_17 ?_
          refine lv_iload_n hx hb dX2_move_20 rfl (lv_at hl 1 rfl) ?_
          refine r_mldZ hx hb hw 0 (by decide) (by decide) (i) (rfl) (show i < 24 by omega) dX2_move_21 ?_
          refine lv_if_ne (tgt := 28) hx hb dX2_move_22 (by decide) (fun c_22 => ?_) (fun c_22 => ?_)
          · skip
            refine lv_aload_n hx hb dX2_move_28 rfl (lv_at hl 0 rfl) ?_
            refine r_getM (v := .ref (gc G 0)) hx hb hts hin2 hown hw 0 (by decide) lk7 rfl dX2_move_29 ?_
            refine lv_iload_n hx hb dX2_move_32 rfl (lv_at hl 2 rfl) ?_
            refine r_mldZ hx hb hw 0 (by decide) (by decide) (j) (rfl) (show j < 24 by omega) dX2_move_33 ?_
            refine lv_if_ne (tgt := 46) hx hb dX2_move_34 (by decide) (fun c_34 => ?_) (fun c_34 => ?_)
            · skip
              refine lv_aload_n hx hb dX2_move_46 rfl (lv_at hl 0 rfl) ?_
              refine r_getM (v := .ref (gc G 3)) hx hb hts hin2 hown hw 3 (by decide) lk20 rfl dX2_move_47 ?_
              refine lv_iload_n hx hb dX2_move_50 rfl (lv_at hl 1 rfl) ?_
              refine r_mldZ hx hb hw 3 (by decide) (by decide) (i) (rfl) (show i < 24 by omega) dX2_move_51 ?_
              refine lv_if_eq (tgt := 64) hx hb dX2_move_52 (by decide) (fun c_52 => ?_) (fun c_52 => ?_)
              · skip
                refine lv_aload_n hx hb dX2_move_64 rfl (lv_at hl 0 rfl) ?_
                refine lv_iload_n hx hb dX2_move_65 rfl (lv_at hl 1 rfl) ?_
                refine lv_iload_n hx hb dX2_move_66 rfl (lv_at hl 2 rfl) ?_
                refine lv_iconst (v := 2) hx hb dX2_move_67 (by decide) ?_
                refine lv_bipush (v := (-3)) hx hb dX2_move_68 (by decide) ?_
                refine k_i hw (va_runV (As := [.int (nI i), .int (nI j), .int 2, .int (-3)]) (rest := []) ⟨hx, hb, hml, hown, hts⟩ (c_X2_letBoth l G f wa S M (i := i) (j := j) (by omega) (by omega) 2 (-3)) (cwV 4 hts gX2_move_X2_letBoth rfl rfl rfl (by decide +kernel) ⟨Nat.le_of_ble_eq_true rfl, Nat.le_of_ble_eq_true rfl⟩) (hw.preM _) rfl rfl hl.1 rfl (lv_room (Nat.le_of_ble_eq_true rfl)) dX2_move_70 ⟨Nat.le_of_ble_eq_true rfl, Nat.le_of_ble_eq_true rfl⟩) (fun r u H locs hR hw => ?_)
                obtain ⟨hq, rfl⟩ := hR
                obtain rfl := hq.symm
                exact e_i hx hb hr hlocks hw dX2_move_73 (leafM (by simp only [om_move, mj_move, ml, ml2, ↓reduceIte, isH_nI hi, cl24 hi, c_4, isH_nI hj, cl24 hj, c_11, c_22, c_34, c_52]))
              · skip
                refine lv_aload_n hx hb dX2_move_55 rfl (lv_at hl 0 rfl) ?_
                refine r_getM (v := .ref (gc G 3)) hx hb hts hin2 hown hw 3 (by decide) lk20 rfl dX2_move_56 ?_
                refine lv_iload_n hx hb dX2_move_59 rfl (lv_at hl 2 rfl) ?_
                refine r_mldZ hx hb hw 3 (by decide) (by decide) (j) (rfl) (show j < 24 by omega) dX2_move_60 ?_
                refine lv_if_ne (tgt := 74) hx hb dX2_move_61 (by decide) (fun c_61 => ?_) (fun c_61 => ?_)
                · skip
                  refine lv_aload_n hx hb dX2_move_74 rfl (lv_at hl 0 rfl) ?_
                  refine r_getM (v := .ref (gc G 5)) hx hb hts hin2 hown hw 5 (by decide) lk26 rfl dX2_move_75 ?_
                  refine lv_iload_n hx hb dX2_move_78 rfl (lv_at hl 1 rfl) ?_
                  refine r_mld hx hb hw 5 (by decide) (by decide) (i) (rfl) (show i < 24 by omega) dX2_move_79 ?_
                  refine lv_if_ne (tgt := 93) hx hb dX2_move_80 (by decide) (fun c_80 => ?_) (fun c_80 => ?_)
                  · skip
                    obtain ⟨q_i, hq_i, hs_i⟩ := n_succ hn_i h10_i c_80
                    have hI1 := hI.rm hs_i hq_i
                    obtain ⟨n_k, h10_k, hn_k⟩ := hI1 j hj
                    have hr_i : rmS M i 5 i = nI q_i := by rw [rmS, sU_self, hs_i, nI_pred]
                    refine lv_aload_n hx hb dX2_move_93 rfl (lv_at hl 0 rfl) ?_
                    refine lv_iload_n hx hb dX2_move_94 rfl (lv_at hl 1 rfl) ?_
                    refine k_i hw (va_runV (As := [.int (nI i)]) (rest := []) ⟨hx, hb, hml, hown, hts⟩ (c_X2_takeLast l G f wa S M (i := i) (by omega) hs_i hq_i) (cwV 1 hts gX2_move_X2_takeLast rfl rfl rfl (by decide +kernel) ⟨Nat.le_of_ble_eq_true rfl, Nat.le_of_ble_eq_true rfl⟩) (hw.preM _) rfl rfl hl.1 rfl (lv_room (Nat.le_of_ble_eq_true rfl)) dX2_move_95 ⟨Nat.le_of_ble_eq_true rfl, Nat.le_of_ble_eq_true rfl⟩) (fun r u H locs hR hw => ?_)
                    obtain ⟨hq, rfl⟩ := hR
                    obtain rfl := hq.symm
                    refine lv_istore_n (lv' := [(3, .int (rmV M i)), (0, .ref (gm G)), (1, .int (nI i)), (2, .int (nI j))]) hx hb dX2_move_98 rfl hl (by decide) rfl (fun ls hl => ?_)
                    refine lv_aload_n hx hb dX2_move_99 rfl (lv_at hl 1 rfl) ?_
                    refine lv_iload_n hx hb dX2_move_100 rfl (lv_at hl 3 rfl) ?_
                    refine lv_iload_n hx hb dX2_move_101 rfl (lv_at hl 0 rfl) ?_
                    refine k_i hw (va_runV (As := [.int (nI j), .int (rmV M i)]) (rest := []) ⟨hx, hb, hml, hown, hts⟩ (c_X2_hasRoom l G f wa S (rmS M i) (i := j) (by omega) hn_k h10_k (rmV M i)) (cwV 2 hts gX2_move_X2_hasRoom rfl rfl rfl (by decide +kernel) ⟨Nat.le_of_ble_eq_true rfl, Nat.le_of_ble_eq_true rfl⟩) (hw.preM _) rfl rfl hl.1 rfl (lv_room (Nat.le_of_ble_eq_true rfl)) dX2_move_102 ⟨Nat.le_of_ble_eq_true rfl, Nat.le_of_ble_eq_true rfl⟩) (fun r u H locs hR hw => ?_)
                    obtain ⟨hq, rfl⟩ := hR
                    obtain rfl := hq.symm
                    cases hh_102 : okA (rmS M i) j (rmV M i)
                    · skip
                      refine W.eq (g2 := F0 m 105 ls [.int 0]) rfl ?_
                      refine lv_if_ne (tgt := 124) hx hb dX2_move_105 (by decide) (fun c_105 => ?_) (fun c_105 => ?_)
                      · skip
                        exact absurd c_105 (by decide)
                      · skip
                        refine lv_aload_n hx hb dX2_move_108 rfl (lv_at hl 1 rfl) ?_
                        refine lv_iload_n hx hb dX2_move_109 rfl (lv_at hl 2 rfl) ?_
                        refine lv_iload_n hx hb dX2_move_110 rfl (lv_at hl 0 rfl) ?_
                        refine k_v hw (va_runV (As := [.int (nI i), .int (rmV M i)]) (rest := []) ⟨hx, hb, hml, hown, hts⟩ (c_X2_add l G f wa S (rmS M i) (i := i) (by omega) hr_i hq_i (rmV M i)) (cwV 2 hts gX2_move_X2_add rfl rfl rfl (by decide +kernel) ⟨Nat.le_of_ble_eq_true rfl, Nat.le_of_ble_eq_true rfl⟩) (hw.preM _) rfl rfl hl.1 rfl (lv_room (Nat.le_of_ble_eq_true rfl)) dX2_move_111 ⟨Nat.le_of_ble_eq_true rfl, Nat.le_of_ble_eq_true rfl⟩) (fun u H locs hR hw => ?_)
                        obtain rfl := hR
                        refine lv_aload_n hx hb dX2_move_114 rfl (lv_at hl 1 rfl) ?_
                        refine lv_iload_n hx hb dX2_move_115 rfl (lv_at hl 2 rfl) ?_
                        refine lv_iload_n hx hb dX2_move_116 rfl (lv_at hl 3 rfl) ?_
                        refine lv_iconst (v := 4) hx hb dX2_move_117 (by decide) ?_
                        refine lv_bipush (v := (-5)) hx hb dX2_move_118 (by decide) ?_
                        refine k_i hw (va_runV (As := [.int (nI i), .int (nI j), .int 4, .int (-5)]) (rest := []) ⟨hx, hb, hml, hown, hts⟩ (c_X2_letBoth l G f wa S (acS (rmS M i) i (rmV M i)) (i := i) (j := j) (by omega) (by omega) 4 (-5)) (cwV 4 hts gX2_move_X2_letBoth rfl rfl rfl (by decide +kernel) ⟨Nat.le_of_ble_eq_true rfl, Nat.le_of_ble_eq_true rfl⟩) (hw.preM _) rfl rfl hl.1 rfl (lv_room (Nat.le_of_ble_eq_true rfl)) dX2_move_120 ⟨Nat.le_of_ble_eq_true rfl, Nat.le_of_ble_eq_true rfl⟩) (fun r u H locs hR hw => ?_)
                        obtain ⟨hq, rfl⟩ := hR
                        obtain rfl := hq.symm
                        exact e_i hx hb hr hlocks hw dX2_move_123 (leafM (by simp only [om_move, mj_move, ml, ml2, ↓reduceIte, isH_nI hi, cl24 hi, c_4, isH_nI hj, cl24 hj, c_11, c_22, c_34, c_52, c_61, c_80, hh_102, Bool.false_eq_true, c_105]))
                    · skip
                      refine W.eq (g2 := F0 m 105 ls [.int 1]) rfl ?_
                      refine lv_if_ne (tgt := 124) hx hb dX2_move_105 (by decide) (fun c_105 => ?_) (fun c_105 => ?_)
                      · skip
                        have hlt_k : n_k < 10 := okA_lt hn_k h10_k hh_102
                        refine lv_aload_n hx hb dX2_move_124 rfl (lv_at hl 1 rfl) ?_
                        refine lv_iload_n hx hb dX2_move_125 rfl (lv_at hl 3 rfl) ?_
                        refine lv_iload_n hx hb dX2_move_126 rfl (lv_at hl 0 rfl) ?_
                        refine k_v hw (va_runV (As := [.int (nI j), .int (rmV M i)]) (rest := []) ⟨hx, hb, hml, hown, hts⟩ (c_X2_add l G f wa S (rmS M i) (i := j) (by omega) hn_k hlt_k (rmV M i)) (cwV 2 hts gX2_move_X2_add rfl rfl rfl (by decide +kernel) ⟨Nat.le_of_ble_eq_true rfl, Nat.le_of_ble_eq_true rfl⟩) (hw.preM _) rfl rfl hl.1 rfl (lv_room (Nat.le_of_ble_eq_true rfl)) dX2_move_127 ⟨Nat.le_of_ble_eq_true rfl, Nat.le_of_ble_eq_true rfl⟩) (fun u H locs hR hw => ?_)
                        obtain rfl := hR
                        refine lv_aload_n hx hb dX2_move_130 rfl (lv_at hl 1 rfl) ?_
                        refine lv_iload_n hx hb dX2_move_131 rfl (lv_at hl 2 rfl) ?_
                        refine lv_iload_n hx hb dX2_move_132 rfl (lv_at hl 3 rfl) ?_
                        refine lv_iconst (v := 1) hx hb dX2_move_133 (by decide) ?_
                        refine lv_iload_n hx hb dX2_move_134 rfl (lv_at hl 0 rfl) ?_
                        refine k_i hw (va_runV (As := [.int (nI i), .int (nI j), .int 1, .int (rmV M i)]) (rest := []) ⟨hx, hb, hml, hown, hts⟩ (c_X2_letBoth l G f wa S (acS (rmS M i) j (rmV M i)) (i := i) (j := j) (by omega) (by omega) 1 (rmV M i)) (cwV 4 hts gX2_move_X2_letBoth rfl rfl rfl (by decide +kernel) ⟨Nat.le_of_ble_eq_true rfl, Nat.le_of_ble_eq_true rfl⟩) (hw.preM _) rfl rfl hl.1 rfl (lv_room (Nat.le_of_ble_eq_true rfl)) dX2_move_135 ⟨Nat.le_of_ble_eq_true rfl, Nat.le_of_ble_eq_true rfl⟩) (fun r u H locs hR hw => ?_)
                        obtain ⟨hq, rfl⟩ := hR
                        obtain rfl := hq.symm
                        exact e_i hx hb hr hlocks hw dX2_move_138 (leafM (by simp only [om_move, mj_move, ml, ml2, ↓reduceIte, isH_nI hi, cl24 hi, c_4, isH_nI hj, cl24 hj, c_11, c_22, c_34, c_52, c_61, c_80, hh_102, c_105]))
                      · skip
                        exact absurd c_105 (by decide)
                  · skip
                    refine lv_aload_n hx hb dX2_move_83 rfl (lv_at hl 0 rfl) ?_
                    refine lv_iload_n hx hb dX2_move_84 rfl (lv_at hl 1 rfl) ?_
                    refine lv_iload_n hx hb dX2_move_85 rfl (lv_at hl 2 rfl) ?_
                    refine lv_iconst (v := 4) hx hb dX2_move_86 (by decide) ?_
                    refine lv_bipush (v := (-6)) hx hb dX2_move_87 (by decide) ?_
                    refine k_i hw (va_runV (As := [.int (nI i), .int (nI j), .int 4, .int (-6)]) (rest := []) ⟨hx, hb, hml, hown, hts⟩ (c_X2_letBoth l G f wa S M (i := i) (j := j) (by omega) (by omega) 4 (-6)) (cwV 4 hts gX2_move_X2_letBoth rfl rfl rfl (by decide +kernel) ⟨Nat.le_of_ble_eq_true rfl, Nat.le_of_ble_eq_true rfl⟩) (hw.preM _) rfl rfl hl.1 rfl (lv_room (Nat.le_of_ble_eq_true rfl)) dX2_move_89 ⟨Nat.le_of_ble_eq_true rfl, Nat.le_of_ble_eq_true rfl⟩) (fun r u H locs hR hw => ?_)
                    obtain ⟨hq, rfl⟩ := hR
                    obtain rfl := hq.symm
                    exact e_i hx hb hr hlocks hw dX2_move_92 (leafM (by simp only [om_move, mj_move, ml, ml2, ↓reduceIte, isH_nI hi, cl24 hi, c_4, isH_nI hj, cl24 hj, c_11, c_22, c_34, c_52, c_61, c_80]))
                · skip
                  refine lv_aload_n hx hb dX2_move_64 rfl (lv_at hl 0 rfl) ?_
                  refine lv_iload_n hx hb dX2_move_65 rfl (lv_at hl 1 rfl) ?_
                  refine lv_iload_n hx hb dX2_move_66 rfl (lv_at hl 2 rfl) ?_
                  refine lv_iconst (v := 2) hx hb dX2_move_67 (by decide) ?_
                  refine lv_bipush (v := (-3)) hx hb dX2_move_68 (by decide) ?_
                  refine k_i hw (va_runV (As := [.int (nI i), .int (nI j), .int 2, .int (-3)]) (rest := []) ⟨hx, hb, hml, hown, hts⟩ (c_X2_letBoth l G f wa S M (i := i) (j := j) (by omega) (by omega) 2 (-3)) (cwV 4 hts gX2_move_X2_letBoth rfl rfl rfl (by decide +kernel) ⟨Nat.le_of_ble_eq_true rfl, Nat.le_of_ble_eq_true rfl⟩) (hw.preM _) rfl rfl hl.1 rfl (lv_room (Nat.le_of_ble_eq_true rfl)) dX2_move_70 ⟨Nat.le_of_ble_eq_true rfl, Nat.le_of_ble_eq_true rfl⟩) (fun r u H locs hR hw => ?_)
                  obtain ⟨hq, rfl⟩ := hR
                  obtain rfl := hq.symm
                  exact e_i hx hb hr hlocks hw dX2_move_73 (leafM (by simp only [om_move, mj_move, ml, ml2, ↓reduceIte, isH_nI hi, cl24 hi, c_4, isH_nI hj, cl24 hj, c_11, c_22, c_34, c_52, c_61]))
            · skip
              refine lv_aload_n hx hb dX2_move_37 rfl (lv_at hl 0 rfl) ?_
              refine lv_iload_n hx hb dX2_move_38 rfl (lv_at hl 1 rfl) ?_
              refine lv_iconst (v := 4) hx hb dX2_move_39 (by decide) ?_
              refine lv_bipush (v := (-2)) hx hb dX2_move_40 (by decide) ?_
              refine k_i hw (va_runV (As := [.int (nI i), .int 4, .int (-2)]) (rest := []) ⟨hx, hb, hml, hown, hts⟩ (c_X2_let l G f wa S M (j := i) (by omega) 4 (-2)) (cwV 3 hts gX2_move_X2_let rfl rfl rfl (by decide +kernel) ⟨Nat.le_of_ble_eq_true rfl, Nat.le_of_ble_eq_true rfl⟩) (hw.preM _) rfl rfl hl.1 rfl (lv_room (Nat.le_of_ble_eq_true rfl)) dX2_move_42 ⟨Nat.le_of_ble_eq_true rfl, Nat.le_of_ble_eq_true rfl⟩) (fun r u H locs hR hw => ?_)
              obtain ⟨hq, rfl⟩ := hR
              obtain rfl := hq.symm
              exact e_i hx hb hr hlocks hw dX2_move_45 (leafM (by simp only [om_move, mj_move, ml, ml2, ↓reduceIte, isH_nI hi, cl24 hi, c_4, isH_nI hj, cl24 hj, c_11, c_22, c_34]))
          · skip
            refine lv_bipush (v := (-2)) hx hb dX2_move_25 (by decide) ?_
            exact e_i hx hb hr hlocks hw dX2_move_27 (leafM (by simp only [om_move, mj_move, ml, ml2, ↓reduceIte, isH_nI hi, cl24 hi, c_4, isH_nI hj, cl24 hj, c_11, c_22]))
        · skip
          exact absurd c_11 (by decide)

set_option maxHeartbeats 800000 in
set_option maxRecDepth 100000 in
theorem c_X2_swap (l : Launch) (G : GT) (f : Nat → Option Nat) (wa : Nat → Nat) (S M : Tb) (hI : Inv M) (p1 p2 : Int32) : Met l yX2_swap wsX2_swap (rk 1) (va_Pc [.ref (gm G), .int p1, .int p2] (Wo G (f, wa, S, M))) (Qi G (fun r u => r = (om_swap M p1 p2).1 ∧ u = (f, wa, S, (om_swap M p1 p2).2))) 0 0 (gA G) := by
  refine m_head (cc := cX2_swap) (maxL := 5) (ret := (some .int)) (by decide) rfl (Nat.le_of_ble_eq_true rfl) ?_
  intro p e s m below meth c hx hb hml hr hlocks hown hts hw ls hl
  have hown : s.vm.findClass RX2 = some m.cls := hown
  have hl : lv_has ls 5 [(0, .ref (gm G)), (1, .int p1), (2, .int p2)] := hl
  have hin2 : ∀ w ∈ wsX20, w ∈ wsX2_swap := by decide +kernel
  have lk7 := hts (.fieldLink RX2 7 "LockerWallModel" "there" "[Z") (by decide +kernel)
  have lk20 := hts (.fieldLink RX2 20 "LockerWallModel" "open" "[Z") (by decide +kernel)
  have lk13 := hts (.fieldLink RX2 13 "LockerWallModel" "room" "[I") (by decide +kernel)
  have lk26 := hts (.fieldLink RX2 26 "LockerWallModel" "many" "[I") (by decide +kernel)
  have lk35 := hts (.fieldLink RX2 35 "LockerWallModel" "item" "[I") (by decide +kernel)
  refine lv_iload_n hx hb dX2_swap_0 rfl (lv_at hl 1 rfl) ?_
  refine k_i hw (va_runS (As := [.int p1]) (rest := []) ⟨hx, hb, hml, hown, hts⟩ (c_X2_isHook l G f wa S M p1) (va_cwS 1 hts gX2_swap_X2_isHook rfl rfl rfl (by decide +kernel) ⟨Nat.le_of_ble_eq_true rfl, Nat.le_of_ble_eq_true rfl⟩) (hw.preS _) rfl rfl hl.1 rfl (lv_room (Nat.le_of_ble_eq_true rfl)) dX2_swap_1 ⟨Nat.le_of_ble_eq_true rfl, Nat.le_of_ble_eq_true rfl⟩) (fun r u H locs hR hw => ?_)
  obtain ⟨hq, rfl⟩ := hR
  obtain rfl := hq.symm
  cases hh_1 : isH p1
  · skip
    refine W.eq (g2 := F0 m 4 ls [.int 0]) rfl ?_
    refine lv_if_eq (tgt := 14) hx hb dX2_swap_4 (by decide) (fun c_4 => ?_) (fun c_4 => ?_)
    · skip
      refine lv_iconst (v := (-1)) hx hb dX2_swap_14 (by decide) ?_
      exact e_i hx hb hr hlocks hw dX2_swap_15 (leafM (by simp only [om_swap, mj_swap, ml, ml2, ↓reduceIte, hh_1, Bool.false_eq_true, c_4]))
    · skip
      exact absurd c_4 (by decide)
  · skip
    refine W.eq (g2 := F0 m 4 ls [.int 1]) rfl ?_
    obtain ⟨i, hi, rfl⟩ := isH_of hh_1
    obtain ⟨n_i, h10_i, hn_i⟩ := hI i hi
    refine lv_if_eq (tgt := 14) hx hb dX2_swap_4 (by decide) (fun c_4 => ?_) (fun c_4 => ?_)
    · skip
      exact absurd c_4 (by decide)
    · skip
      refine lv_iload_n hx hb dX2_swap_7 rfl (lv_at hl 2 rfl) ?_
      refine k_i hw (va_runS (As := [.int p2]) (rest := []) ⟨hx, hb, hml, hown, hts⟩ (c_X2_isHook l G f wa S M p2) (va_cwS 1 hts gX2_swap_X2_isHook rfl rfl rfl (by decide +kernel) ⟨Nat.le_of_ble_eq_true rfl, Nat.le_of_ble_eq_true rfl⟩) (hw.preS _) rfl rfl hl.1 rfl (lv_room (Nat.le_of_ble_eq_true rfl)) dX2_swap_8 ⟨Nat.le_of_ble_eq_true rfl, Nat.le_of_ble_eq_true rfl⟩) (fun r u H locs hR hw => ?_)
      obtain ⟨hq, rfl⟩ := hR
      obtain rfl := hq.symm
      cases hh_8 : isH p2
      · skip
        refine W.eq (g2 := F0 m 11 ls [.int 0]) rfl ?_
        refine lv_if_ne (tgt := 16) hx hb dX2_swap_11 (by decide) (fun c_11 => ?_) (fun c_11 => ?_)
        · skip
          exact absurd c_11 (by decide)
        · skip
          refine lv_iconst (v := (-1)) hx hb dX2_swap_14 (by decide) ?_
          exact e_i hx hb hr hlocks hw dX2_swap_15 (leafM (by simp only [om_swap, mj_swap, ml, ml2, ↓reduceIte, isH_nI hi, cl24 hi, c_4, hh_8, Bool.false_eq_true, c_11]))
      · skip
        refine W.eq (g2 := F0 m 11 ls [.int 1]) rfl ?_
        obtain ⟨j, hj, rfl⟩ := isH_of hh_8
        obtain ⟨n_j, h10_j, hn_j⟩ := hI j hj
        refine lv_if_ne (tgt := 16) hx hb dX2_swap_11 (by decide) (fun c_11 => ?_) (fun c_11 => ?_)
        · skip
          refine lv_aload_n hx hb dX2_swap_16 rfl (lv_at hl 0 rfl) ?_
          refine r_getM (v := .ref (gc G 0)) hx hb hts hin2 hown hw 0 (by decide) lk7 rfl dX2_swap_17 ?_
          refine lv_iload_n hx hb dX2_swap_20 rfl (lv_at hl 1 rfl) ?_
          refine r_mldZ hx hb hw 0 (by decide) (by decide) (i) (rfl) (show i < 24 by omega) dX2_swap_21 ?_
          refine lv_if_ne (tgt := 28) hx hb dX2_swap_22 (by decide) (fun c_22 => ?_) (fun c_22 => ?_)
          · skip
            refine lv_aload_n hx hb dX2_swap_28 rfl (lv_at hl 0 rfl) ?_
            refine r_getM (v := .ref (gc G 0)) hx hb hts hin2 hown hw 0 (by decide) lk7 rfl dX2_swap_29 ?_
            refine lv_iload_n hx hb dX2_swap_32 rfl (lv_at hl 2 rfl) ?_
            refine r_mldZ hx hb hw 0 (by decide) (by decide) (j) (rfl) (show j < 24 by omega) dX2_swap_33 ?_
            refine lv_if_ne (tgt := 46) hx hb dX2_swap_34 (by decide) (fun c_34 => ?_) (fun c_34 => ?_)
            · skip
              refine lv_aload_n hx hb dX2_swap_46 rfl (lv_at hl 0 rfl) ?_
              refine r_getM (v := .ref (gc G 3)) hx hb hts hin2 hown hw 3 (by decide) lk20 rfl dX2_swap_47 ?_
              refine lv_iload_n hx hb dX2_swap_50 rfl (lv_at hl 1 rfl) ?_
              refine r_mldZ hx hb hw 3 (by decide) (by decide) (i) (rfl) (show i < 24 by omega) dX2_swap_51 ?_
              refine lv_if_eq (tgt := 64) hx hb dX2_swap_52 (by decide) (fun c_52 => ?_) (fun c_52 => ?_)
              · skip
                refine lv_aload_n hx hb dX2_swap_64 rfl (lv_at hl 0 rfl) ?_
                refine lv_iload_n hx hb dX2_swap_65 rfl (lv_at hl 1 rfl) ?_
                refine lv_iload_n hx hb dX2_swap_66 rfl (lv_at hl 2 rfl) ?_
                refine lv_iconst (v := 2) hx hb dX2_swap_67 (by decide) ?_
                refine lv_bipush (v := (-3)) hx hb dX2_swap_68 (by decide) ?_
                refine k_i hw (va_runV (As := [.int (nI i), .int (nI j), .int 2, .int (-3)]) (rest := []) ⟨hx, hb, hml, hown, hts⟩ (c_X2_letBoth l G f wa S M (i := i) (j := j) (by omega) (by omega) 2 (-3)) (cwV 4 hts gX2_swap_X2_letBoth rfl rfl rfl (by decide +kernel) ⟨Nat.le_of_ble_eq_true rfl, Nat.le_of_ble_eq_true rfl⟩) (hw.preM _) rfl rfl hl.1 rfl (lv_room (Nat.le_of_ble_eq_true rfl)) dX2_swap_70 ⟨Nat.le_of_ble_eq_true rfl, Nat.le_of_ble_eq_true rfl⟩) (fun r u H locs hR hw => ?_)
                obtain ⟨hq, rfl⟩ := hR
                obtain rfl := hq.symm
                exact e_i hx hb hr hlocks hw dX2_swap_73 (leafM (by simp only [om_swap, mj_swap, ml, ml2, ↓reduceIte, isH_nI hi, cl24 hi, c_4, isH_nI hj, cl24 hj, c_11, c_22, c_34, c_52]))
              · skip
                refine lv_aload_n hx hb dX2_swap_55 rfl (lv_at hl 0 rfl) ?_
                refine r_getM (v := .ref (gc G 3)) hx hb hts hin2 hown hw 3 (by decide) lk20 rfl dX2_swap_56 ?_
                refine lv_iload_n hx hb dX2_swap_59 rfl (lv_at hl 2 rfl) ?_
                refine r_mldZ hx hb hw 3 (by decide) (by decide) (j) (rfl) (show j < 24 by omega) dX2_swap_60 ?_
                refine lv_if_ne (tgt := 74) hx hb dX2_swap_61 (by decide) (fun c_61 => ?_) (fun c_61 => ?_)
                · skip
                  refine lv_aload_n hx hb dX2_swap_74 rfl (lv_at hl 0 rfl) ?_
                  refine lv_iload_n hx hb dX2_swap_75 rfl (lv_at hl 1 rfl) ?_
                  refine k_i hw (va_runV (As := [.int (nI i)]) (rest := []) ⟨hx, hb, hml, hown, hts⟩ (c_X2_weight l G f wa S M (i := i) (by omega) hn_i h10_i) (cwV 1 hts gX2_swap_X2_weight rfl rfl rfl (by decide +kernel) ⟨Nat.le_of_ble_eq_true rfl, Nat.le_of_ble_eq_true rfl⟩) (hw.preM _) rfl rfl hl.1 rfl (lv_room (Nat.le_of_ble_eq_true rfl)) dX2_swap_76 ⟨Nat.le_of_ble_eq_true rfl, Nat.le_of_ble_eq_true rfl⟩) (fun r u H locs hR hw => ?_)
                  obtain ⟨hq, rfl⟩ := hR
                  obtain rfl := hq.symm
                  refine lv_aload_n hx hb dX2_swap_79 rfl (lv_at hl 0 rfl) ?_
                  refine r_getM (v := .ref (gc G 1)) hx hb hts hin2 hown hw 1 (by decide) lk13 rfl dX2_swap_80 ?_
                  refine lv_iload_n hx hb dX2_swap_83 rfl (lv_at hl 2 rfl) ?_
                  refine r_mld hx hb hw 1 (by decide) (by decide) (j) (rfl) (show j < 24 by omega) dX2_swap_84 ?_
                  refine lv_icmp_gt (tgt := 102) hx hb dX2_swap_85 (by decide) (fun c_85 => ?_) (fun c_85 => ?_)
                  · skip
                    refine lv_aload_n hx hb dX2_swap_102 rfl (lv_at hl 0 rfl) ?_
                    refine lv_iload_n hx hb dX2_swap_103 rfl (lv_at hl 1 rfl) ?_
                    refine lv_iload_n hx hb dX2_swap_104 rfl (lv_at hl 2 rfl) ?_
                    refine lv_iconst (v := 4) hx hb dX2_swap_105 (by decide) ?_
                    refine lv_bipush (v := (-5)) hx hb dX2_swap_106 (by decide) ?_
                    refine k_i hw (va_runV (As := [.int (nI i), .int (nI j), .int 4, .int (-5)]) (rest := []) ⟨hx, hb, hml, hown, hts⟩ (c_X2_letBoth l G f wa S M (i := i) (j := j) (by omega) (by omega) 4 (-5)) (cwV 4 hts gX2_swap_X2_letBoth rfl rfl rfl (by decide +kernel) ⟨Nat.le_of_ble_eq_true rfl, Nat.le_of_ble_eq_true rfl⟩) (hw.preM _) rfl rfl hl.1 rfl (lv_room (Nat.le_of_ble_eq_true rfl)) dX2_swap_108 ⟨Nat.le_of_ble_eq_true rfl, Nat.le_of_ble_eq_true rfl⟩) (fun r u H locs hR hw => ?_)
                    obtain ⟨hq, rfl⟩ := hR
                    obtain rfl := hq.symm
                    exact e_i hx hb hr hlocks hw dX2_swap_111 (leafM (by simp only [om_swap, mj_swap, ml, ml2, ↓reduceIte, isH_nI hi, cl24 hi, c_4, isH_nI hj, cl24 hj, c_11, c_22, c_34, c_52, c_61, c_85]))
                  · skip
                    refine lv_aload_n hx hb dX2_swap_88 rfl (lv_at hl 0 rfl) ?_
                    refine lv_iload_n hx hb dX2_swap_89 rfl (lv_at hl 2 rfl) ?_
                    refine k_i hw (va_runV (As := [.int (nI j)]) (rest := []) ⟨hx, hb, hml, hown, hts⟩ (c_X2_weight l G f wa S M (i := j) (by omega) hn_j h10_j) (cwV 1 hts gX2_swap_X2_weight rfl rfl rfl (by decide +kernel) ⟨Nat.le_of_ble_eq_true rfl, Nat.le_of_ble_eq_true rfl⟩) (hw.preM _) rfl rfl hl.1 rfl (lv_room (Nat.le_of_ble_eq_true rfl)) dX2_swap_90 ⟨Nat.le_of_ble_eq_true rfl, Nat.le_of_ble_eq_true rfl⟩) (fun r u H locs hR hw => ?_)
                    obtain ⟨hq, rfl⟩ := hR
                    obtain rfl := hq.symm
                    refine lv_aload_n hx hb dX2_swap_93 rfl (lv_at hl 0 rfl) ?_
                    refine r_getM (v := .ref (gc G 1)) hx hb hts hin2 hown hw 1 (by decide) lk13 rfl dX2_swap_94 ?_
                    refine lv_iload_n hx hb dX2_swap_97 rfl (lv_at hl 1 rfl) ?_
                    refine r_mld hx hb hw 1 (by decide) (by decide) (i) (rfl) (show i < 24 by omega) dX2_swap_98 ?_
                    refine lv_icmp_le (tgt := 112) hx hb dX2_swap_99 (by decide) (fun c_99 => ?_) (fun c_99 => ?_)
                    · skip
                      refine lv_iconst (v := 0) hx hb dX2_swap_112 (by decide) ?_
                      refine lv_istore_n (lv' := [(3, .int 0), (0, .ref (gm G)), (1, .int (nI i)), (2, .int (nI j))]) hx hb dX2_swap_113 rfl hl (by decide) rfl (fun ls hl => ?_)
                      have loop : ∀ (d k : Nat) (T : Tb) (H : Heap) (locs : List Loc) (ls : Array Slot), (k + d = 10 ∧ of_sw i j 10 0 M = of_sw i j d k T) → Wi G (f, wa, S, T) s H locs → lv_has ls 5 [(3, .int (nI k)), (0, .ref (gm G)), (1, .int (nI i)), (2, .int (nI j))] → W p l e (headSpec wsX2_swap (rk 1)).room s m [.ref (gm G), .int (nI i), .int (nI j)].toArray below meth c H locs 0 0 (MQ below (Qi G (fun r u => r = (om_swap M (nI i) (nI j)).1 ∧ u = (f, wa, S, (om_swap M (nI i) (nI j)).2))) [.ref (gm G), .int (nI i), .int (nI j)].toArray s 0 0 (gA G)) (F0 m 114 ls []) := by
                        intro d
                        induction d with
                        | zero =>
                          intro k T H locs ls hk hw hl
                          obtain ⟨hk10, hop⟩ := hk
                          have hop : of_sw i j 10 0 M = T := hop
                          refine lv_iload_n hx hb dX2_swap_114 rfl (lv_at hl 0 rfl) ?_
                          refine lv_bipush (v := 10) hx hb dX2_swap_115 (by decide) ?_
                          refine lv_icmp_ge (tgt := 174) hx hb dX2_swap_117 (by decide) (fun c_117 => ?_) (fun c_117 => ?_)
                          · skip
                            refine lv_aload_n hx hb dX2_swap_174 rfl (lv_at hl 1 rfl) ?_
                            refine r_getM (v := .ref (gc G 5)) hx hb hts hin2 hown hw 5 (by decide) lk26 rfl dX2_swap_175 ?_
                            refine lv_iload_n hx hb dX2_swap_178 rfl (lv_at hl 2 rfl) ?_
                            refine r_mld hx hb hw 5 (by decide) (by decide) (i) (rfl) (show i < 24 by omega) dX2_swap_179 ?_
                            refine lv_istore_n (lv' := [(3, .int (T 5 i)), (0, .ref (gm G)), (1, .int (nI i)), (2, .int (nI j))]) hx hb dX2_swap_180 rfl hl (by decide) rfl (fun ls hl => ?_)
                            refine lv_aload_n hx hb dX2_swap_181 rfl (lv_at hl 1 rfl) ?_
                            refine r_getM (v := .ref (gc G 5)) hx hb hts hin2 hown hw 5 (by decide) lk26 rfl dX2_swap_182 ?_
                            refine lv_iload_n hx hb dX2_swap_185 rfl (lv_at hl 2 rfl) ?_
                            refine lv_aload_n hx hb dX2_swap_186 rfl (lv_at hl 1 rfl) ?_
                            refine r_getM (v := .ref (gc G 5)) hx hb hts hin2 hown hw 5 (by decide) lk26 rfl dX2_swap_187 ?_
                            refine lv_iload_n hx hb dX2_swap_190 rfl (lv_at hl 3 rfl) ?_
                            refine r_mld hx hb hw 5 (by decide) (by decide) (j) (rfl) (show j < 24 by omega) dX2_swap_191 ?_
                            refine r_mst hx hb hw 5 (by decide) (by decide) (i) (rfl) (show i < 24 by omega) dX2_swap_192 (fun H locs hw => ?_)
                            have hw : Wi G (f, wa, S, sU T 5 i (T 5 j)) s H locs := hw
                            refine lv_aload_n hx hb dX2_swap_193 rfl (lv_at hl 1 rfl) ?_
                            refine r_getM (v := .ref (gc G 5)) hx hb hts hin2 hown hw 5 (by decide) lk26 rfl dX2_swap_194 ?_
                            refine lv_iload_n hx hb dX2_swap_197 rfl (lv_at hl 3 rfl) ?_
                            refine lv_iload_n hx hb dX2_swap_198 rfl (lv_at hl 0 rfl) ?_
                            refine r_mst hx hb hw 5 (by decide) (by decide) (j) (rfl) (show j < 24 by omega) dX2_swap_199 (fun H locs hw => ?_)
                            have hw : Wi G (f, wa, S, sU (sU T 5 i (T 5 j)) 5 j (T 5 i)) s H locs := hw
                            refine lv_aload_n hx hb dX2_swap_200 rfl (lv_at hl 1 rfl) ?_
                            refine lv_iload_n hx hb dX2_swap_201 rfl (lv_at hl 2 rfl) ?_
                            refine lv_iload_n hx hb dX2_swap_202 rfl (lv_at hl 3 rfl) ?_
                            refine lv_iconst (v := 1) hx hb dX2_swap_203 (by decide) ?_
                            refine lv_aload_n hx hb dX2_swap_204 rfl (lv_at hl 1 rfl) ?_
                            refine r_getM (v := .ref (gc G 5)) hx hb hts hin2 hown hw 5 (by decide) lk26 rfl dX2_swap_205 ?_
                            refine lv_iload_n hx hb dX2_swap_208 rfl (lv_at hl 2 rfl) ?_
                            refine r_mld hx hb hw 5 (by decide) (by decide) (i) (rfl) (show i < 24 by omega) dX2_swap_209 ?_
                            refine lv_aload_n hx hb dX2_swap_210 rfl (lv_at hl 1 rfl) ?_
                            refine r_getM (v := .ref (gc G 5)) hx hb hts hin2 hown hw 5 (by decide) lk26 rfl dX2_swap_211 ?_
                            refine lv_iload_n hx hb dX2_swap_214 rfl (lv_at hl 3 rfl) ?_
                            refine r_mld hx hb hw 5 (by decide) (by decide) (j) (rfl) (show j < 24 by omega) dX2_swap_215 ?_
                            refine W.eq (g2 := F0 m 216 ls [.int (T 5 i), .int ((sU (sU T 5 i (T 5 j)) 5 j (T 5 i)) 5 i), .int 1, .int (nI j), .int (nI i), .ref (gm G)]) (by simp [sU]) ?_
                            refine lv_iadd hx hb dX2_swap_216 ?_
                            refine k_i hw (va_runV (As := [.int (nI i), .int (nI j), .int 1, .int (((sU (sU T 5 i (T 5 j)) 5 j (T 5 i)) 5 i) + (T 5 i))]) (rest := []) ⟨hx, hb, hml, hown, hts⟩ (c_X2_letBoth l G f wa S (sU (sU T 5 i (T 5 j)) 5 j (T 5 i)) (i := i) (j := j) (by omega) (by omega) 1 (((sU (sU T 5 i (T 5 j)) 5 j (T 5 i)) 5 i) + (T 5 i))) (cwV 4 hts gX2_swap_X2_letBoth rfl rfl rfl (by decide +kernel) ⟨Nat.le_of_ble_eq_true rfl, Nat.le_of_ble_eq_true rfl⟩) (hw.preM _) rfl rfl hl.1 rfl (lv_room (Nat.le_of_ble_eq_true rfl)) dX2_swap_217 ⟨Nat.le_of_ble_eq_true rfl, Nat.le_of_ble_eq_true rfl⟩) (fun r u H locs hR hw => ?_)
                            obtain ⟨hq, rfl⟩ := hR
                            obtain rfl := hq.symm
                            exact e_i hx hb hr hlocks hw dX2_swap_220 (leafM (by simp only [om_swap, mj_swap, ↓reduceIte, swM, hop, sU_self, isH_nI hi, cl24 hi, c_4, isH_nI hj, cl24 hj, c_11, c_22, c_34, c_52, c_61, c_85, c_99, c_117]))
                          · skip
                            exact absurd (show (10 : Int32) ≤ nI k from nI_le (a := 10) (by omega) (by omega)) c_117
                        | succ d ih =>
                          intro k T H locs ls hk hw hl
                          obtain ⟨hk10, hop⟩ := hk
                          refine lv_iload_n hx hb dX2_swap_114 rfl (lv_at hl 0 rfl) ?_
                          refine lv_bipush (v := 10) hx hb dX2_swap_115 (by decide) ?_
                          refine lv_icmp_ge (tgt := 174) hx hb dX2_swap_117 (by decide) (fun c_117 => ?_) (fun c_117 => ?_)
                          · skip
                            exact absurd c_117 (nI_ge (b := 10) (show k < 10 by omega) (by decide))
                          · skip
                            refine lv_aload_n hx hb dX2_swap_120 rfl (lv_at hl 1 rfl) ?_
                            refine r_getM (v := .ref (gc G 8)) hx hb hts hin2 hown hw 8 (by decide) lk35 rfl dX2_swap_121 ?_
                            refine lv_bipush (v := 10) hx hb dX2_swap_124 (by decide) ?_
                            refine lv_iload_n hx hb dX2_swap_126 rfl (lv_at hl 2 rfl) ?_
                            refine lv_imul hx hb dX2_swap_127 ?_
                            refine lv_iload_n hx hb dX2_swap_128 rfl (lv_at hl 0 rfl) ?_
                            refine lv_iadd hx hb dX2_swap_129 ?_
                            refine r_mld hx hb hw 8 (by decide) (by decide) (10 * i + k) (ix10 _ _) (show 10 * i + k < 240 by omega) dX2_swap_130 ?_
                            refine lv_istore (lv' := [(4, .int (T 8 (10 * i + k))), (3, .int (nI k)), (0, .ref (gm G)), (1, .int (nI i)), (2, .int (nI j))]) hx hb dX2_swap_131 hl (by decide) rfl (fun ls hl => ?_)
                            refine lv_aload_n hx hb dX2_swap_133 rfl (lv_at hl 2 rfl) ?_
                            refine r_getM (v := .ref (gc G 8)) hx hb hts hin2 hown hw 8 (by decide) lk35 rfl dX2_swap_134 ?_
                            refine lv_bipush (v := 10) hx hb dX2_swap_137 (by decide) ?_
                            refine lv_iload_n hx hb dX2_swap_139 rfl (lv_at hl 3 rfl) ?_
                            refine lv_imul hx hb dX2_swap_140 ?_
                            refine lv_iload_n hx hb dX2_swap_141 rfl (lv_at hl 1 rfl) ?_
                            refine lv_iadd hx hb dX2_swap_142 ?_
                            refine lv_aload_n hx hb dX2_swap_143 rfl (lv_at hl 2 rfl) ?_
                            refine r_getM (v := .ref (gc G 8)) hx hb hts hin2 hown hw 8 (by decide) lk35 rfl dX2_swap_144 ?_
                            refine lv_bipush (v := 10) hx hb dX2_swap_147 (by decide) ?_
                            refine lv_iload_n hx hb dX2_swap_149 rfl (lv_at hl 4 rfl) ?_
                            refine lv_imul hx hb dX2_swap_150 ?_
                            refine lv_iload_n hx hb dX2_swap_151 rfl (lv_at hl 1 rfl) ?_
                            refine lv_iadd hx hb dX2_swap_152 ?_
                            refine r_mld hx hb hw 8 (by decide) (by decide) (10 * j + k) (ix10 _ _) (show 10 * j + k < 240 by omega) dX2_swap_153 ?_
                            refine r_mst hx hb hw 8 (by decide) (by decide) (10 * i + k) (ix10 _ _) (show 10 * i + k < 240 by omega) dX2_swap_154 (fun H locs hw => ?_)
                            have hw : Wi G (f, wa, S, sU T 8 (10 * i + k) (T 8 (10 * j + k))) s H locs := hw
                            refine lv_aload_n hx hb dX2_swap_155 rfl (lv_at hl 2 rfl) ?_
                            refine r_getM (v := .ref (gc G 8)) hx hb hts hin2 hown hw 8 (by decide) lk35 rfl dX2_swap_156 ?_
                            refine lv_bipush (v := 10) hx hb dX2_swap_159 (by decide) ?_
                            refine lv_iload_n hx hb dX2_swap_161 rfl (lv_at hl 4 rfl) ?_
                            refine lv_imul hx hb dX2_swap_162 ?_
                            refine lv_iload_n hx hb dX2_swap_163 rfl (lv_at hl 1 rfl) ?_
                            refine lv_iadd hx hb dX2_swap_164 ?_
                            refine lv_iload hx hb dX2_swap_165 (lv_at hl 0 rfl) ?_
                            refine r_mst hx hb hw 8 (by decide) (by decide) (10 * j + k) (ix10 _ _) (show 10 * j + k < 240 by omega) dX2_swap_167 (fun H locs hw => ?_)
                            have hw : Wi G (f, wa, S, sU (sU T 8 (10 * i + k) (T 8 (10 * j + k))) 8 (10 * j + k) (T 8 (10 * i + k))) s H locs := hw
                            refine lv_iinc (v := nI (k + 1)) (lv' := [(3, .int (nI (k + 1))), (4, .int (T 8 (10 * i + k))), (0, .ref (gm G)), (1, .int (nI i)), (2, .int (nI j))]) hx hb dX2_swap_168 hl (k := 1) rfl (nI_1 _) (by decide) rfl (fun ls hl => ?_)
                            refine lv_goto (tgt := 114) hx hb dX2_swap_171 (by decide) ?_
                            exact ih (k + 1) (sU (sU T 8 (10 * i + k) (T 8 (10 * j + k))) 8 (10 * j + k) (T 8 (10 * i + k))) H locs ls ⟨by omega, hop.trans (by simp only [of_sw])⟩ hw (lv_sub hl [0, 2, 3, 4] rfl)
                      exact loop 10 0 M _ _ _ ⟨by omega, rfl⟩ hw (lv_sub hl [0, 1, 2, 3] rfl)
                    · skip
                      refine lv_aload_n hx hb dX2_swap_102 rfl (lv_at hl 0 rfl) ?_
                      refine lv_iload_n hx hb dX2_swap_103 rfl (lv_at hl 1 rfl) ?_
                      refine lv_iload_n hx hb dX2_swap_104 rfl (lv_at hl 2 rfl) ?_
                      refine lv_iconst (v := 4) hx hb dX2_swap_105 (by decide) ?_
                      refine lv_bipush (v := (-5)) hx hb dX2_swap_106 (by decide) ?_
                      refine k_i hw (va_runV (As := [.int (nI i), .int (nI j), .int 4, .int (-5)]) (rest := []) ⟨hx, hb, hml, hown, hts⟩ (c_X2_letBoth l G f wa S M (i := i) (j := j) (by omega) (by omega) 4 (-5)) (cwV 4 hts gX2_swap_X2_letBoth rfl rfl rfl (by decide +kernel) ⟨Nat.le_of_ble_eq_true rfl, Nat.le_of_ble_eq_true rfl⟩) (hw.preM _) rfl rfl hl.1 rfl (lv_room (Nat.le_of_ble_eq_true rfl)) dX2_swap_108 ⟨Nat.le_of_ble_eq_true rfl, Nat.le_of_ble_eq_true rfl⟩) (fun r u H locs hR hw => ?_)
                      obtain ⟨hq, rfl⟩ := hR
                      obtain rfl := hq.symm
                      exact e_i hx hb hr hlocks hw dX2_swap_111 (leafM (by simp only [om_swap, mj_swap, ml, ml2, ↓reduceIte, isH_nI hi, cl24 hi, c_4, isH_nI hj, cl24 hj, c_11, c_22, c_34, c_52, c_61, c_85, c_99]))
                · skip
                  refine lv_aload_n hx hb dX2_swap_64 rfl (lv_at hl 0 rfl) ?_
                  refine lv_iload_n hx hb dX2_swap_65 rfl (lv_at hl 1 rfl) ?_
                  refine lv_iload_n hx hb dX2_swap_66 rfl (lv_at hl 2 rfl) ?_
                  refine lv_iconst (v := 2) hx hb dX2_swap_67 (by decide) ?_
                  refine lv_bipush (v := (-3)) hx hb dX2_swap_68 (by decide) ?_
                  refine k_i hw (va_runV (As := [.int (nI i), .int (nI j), .int 2, .int (-3)]) (rest := []) ⟨hx, hb, hml, hown, hts⟩ (c_X2_letBoth l G f wa S M (i := i) (j := j) (by omega) (by omega) 2 (-3)) (cwV 4 hts gX2_swap_X2_letBoth rfl rfl rfl (by decide +kernel) ⟨Nat.le_of_ble_eq_true rfl, Nat.le_of_ble_eq_true rfl⟩) (hw.preM _) rfl rfl hl.1 rfl (lv_room (Nat.le_of_ble_eq_true rfl)) dX2_swap_70 ⟨Nat.le_of_ble_eq_true rfl, Nat.le_of_ble_eq_true rfl⟩) (fun r u H locs hR hw => ?_)
                  obtain ⟨hq, rfl⟩ := hR
                  obtain rfl := hq.symm
                  exact e_i hx hb hr hlocks hw dX2_swap_73 (leafM (by simp only [om_swap, mj_swap, ml, ml2, ↓reduceIte, isH_nI hi, cl24 hi, c_4, isH_nI hj, cl24 hj, c_11, c_22, c_34, c_52, c_61]))
            · skip
              refine lv_aload_n hx hb dX2_swap_37 rfl (lv_at hl 0 rfl) ?_
              refine lv_iload_n hx hb dX2_swap_38 rfl (lv_at hl 1 rfl) ?_
              refine lv_iconst (v := 4) hx hb dX2_swap_39 (by decide) ?_
              refine lv_bipush (v := (-2)) hx hb dX2_swap_40 (by decide) ?_
              refine k_i hw (va_runV (As := [.int (nI i), .int 4, .int (-2)]) (rest := []) ⟨hx, hb, hml, hown, hts⟩ (c_X2_let l G f wa S M (j := i) (by omega) 4 (-2)) (cwV 3 hts gX2_swap_X2_let rfl rfl rfl (by decide +kernel) ⟨Nat.le_of_ble_eq_true rfl, Nat.le_of_ble_eq_true rfl⟩) (hw.preM _) rfl rfl hl.1 rfl (lv_room (Nat.le_of_ble_eq_true rfl)) dX2_swap_42 ⟨Nat.le_of_ble_eq_true rfl, Nat.le_of_ble_eq_true rfl⟩) (fun r u H locs hR hw => ?_)
              obtain ⟨hq, rfl⟩ := hR
              obtain rfl := hq.symm
              exact e_i hx hb hr hlocks hw dX2_swap_45 (leafM (by simp only [om_swap, mj_swap, ml, ml2, ↓reduceIte, isH_nI hi, cl24 hi, c_4, isH_nI hj, cl24 hj, c_11, c_22, c_34]))
          · skip
            refine lv_bipush (v := (-2)) hx hb dX2_swap_25 (by decide) ?_
            exact e_i hx hb hr hlocks hw dX2_swap_27 (leafM (by simp only [om_swap, mj_swap, ml, ml2, ↓reduceIte, isH_nI hi, cl24 hi, c_4, isH_nI hj, cl24 hj, c_11, c_22]))
        · skip
          exact absurd c_11 (by decide)

set_option maxHeartbeats 800000 in
set_option maxRecDepth 100000 in
theorem c_X2_find (l : Launch) (G : GT) (f : Nat → Option Nat) (wa : Nat → Nat) (S M : Tb) (hI : Inv M) (p1 : Int32) : Met l yX2_find wsX2_find (rk 1) (va_Pc [.ref (gm G), .int p1] (Wo G (f, wa, S, M))) (Qi G (fun r u => r = (om_find M p1).1 ∧ u = (f, wa, S, (om_find M p1).2))) 0 0 (gA G) := by
  refine m_head (cc := cX2_find) (maxL := 4) (ret := (some .int)) (by decide) rfl (Nat.le_of_ble_eq_true rfl) ?_
  intro p e s m below meth c hx hb hml hr hlocks hown hts hw ls hl
  have hown : s.vm.findClass RX2 = some m.cls := hown
  have hl : lv_has ls 4 [(0, .ref (gm G)), (1, .int p1)] := hl
  have hin2 : ∀ w ∈ wsX20, w ∈ wsX2_find := by decide +kernel
  have lk7 := hts (.fieldLink RX2 7 "LockerWallModel" "there" "[Z") (by decide +kernel)
  have lk20 := hts (.fieldLink RX2 20 "LockerWallModel" "open" "[Z") (by decide +kernel)
  refine lv_iload_n hx hb dX2_find_0 rfl (lv_at hl 1 rfl) ?_
  refine k_i hw (va_runS (As := [.int p1]) (rest := []) ⟨hx, hb, hml, hown, hts⟩ (c_X2_isWeight l G f wa S M p1) (va_cwS 1 hts gX2_find_X2_isWeight rfl rfl rfl (by decide +kernel) ⟨Nat.le_of_ble_eq_true rfl, Nat.le_of_ble_eq_true rfl⟩) (hw.preS _) rfl rfl hl.1 rfl (lv_room (Nat.le_of_ble_eq_true rfl)) dX2_find_1 ⟨Nat.le_of_ble_eq_true rfl, Nat.le_of_ble_eq_true rfl⟩) (fun r u H locs hR hw => ?_)
  obtain ⟨hq, rfl⟩ := hR
  obtain rfl := hq.symm
  cases hh_1 : isWt p1
  · skip
    refine W.eq (g2 := F0 m 4 ls [.int 0]) rfl ?_
    refine lv_if_ne (tgt := 9) hx hb dX2_find_4 (by decide) (fun c_4 => ?_) (fun c_4 => ?_)
    · skip
      exact absurd c_4 (by decide)
    · skip
      refine lv_iconst (v := (-1)) hx hb dX2_find_7 (by decide) ?_
      exact e_i hx hb hr hlocks hw dX2_find_8 (leafM (by simp only [om_find, ml, ml2, ↓reduceIte, hh_1, Bool.false_eq_true, c_4]))
  · skip
    refine W.eq (g2 := F0 m 4 ls [.int 1]) rfl ?_
    refine lv_if_ne (tgt := 9) hx hb dX2_find_4 (by decide) (fun c_4 => ?_) (fun c_4 => ?_)
    · skip
      refine lv_iconst (v := 0) hx hb dX2_find_9 (by decide) ?_
      refine lv_istore_n (lv' := [(2, .int 0), (0, .ref (gm G)), (1, .int p1)]) hx hb dX2_find_10 rfl hl (by decide) rfl (fun ls hl => ?_)
      have loop : ∀ (d h : Nat) (T : Tb) (H : Heap) (locs : List Loc) (ls : Array Slot), (h + d = 24 ∧ Inv T ∧ om_find M p1 = mf_find p1 d h T) → Wi G (f, wa, S, T) s H locs → lv_has ls 4 [(2, .int (nI h)), (0, .ref (gm G)), (1, .int p1)] → W p l e (headSpec wsX2_find (rk 1)).room s m [.ref (gm G), .int p1].toArray below meth c H locs 0 0 (MQ below (Qi G (fun r u => r = (om_find M p1).1 ∧ u = (f, wa, S, (om_find M p1).2))) [.ref (gm G), .int p1].toArray s 0 0 (gA G)) (F0 m 11 ls []) := by
        intro d
        induction d with
        | zero =>
          intro h T H locs ls hk hw hl
          obtain ⟨hd24, hIT, hop⟩ := hk
          refine lv_iload_n hx hb dX2_find_11 rfl (lv_at hl 0 rfl) ?_
          refine lv_bipush (v := 24) hx hb dX2_find_12 (by decide) ?_
          refine lv_icmp_ge (tgt := 90) hx hb dX2_find_14 (by decide) (fun c_14 => ?_) (fun c_14 => ?_)
          · skip
            refine lv_bipush (v := (-8)) hx hb dX2_find_90 (by decide) ?_
            exact e_i hx hb hr hlocks hw dX2_find_92 (leafM (hop.trans (by simp only [mf_find, ml, ml2, ↓reduceIte, c_14])))
          · skip
            exact absurd (show (24 : Int32) ≤ nI h from nI_le (a := 24) (by omega) (by omega)) c_14
        | succ d ih =>
          intro h T H locs ls hk hw hl
          obtain ⟨hd24, hIT, hop⟩ := hk
          obtain ⟨n_h, h10_h, hn_h⟩ := hIT h (by omega)
          refine lv_iload_n hx hb dX2_find_11 rfl (lv_at hl 0 rfl) ?_
          refine lv_bipush (v := 24) hx hb dX2_find_12 (by decide) ?_
          refine lv_icmp_ge (tgt := 90) hx hb dX2_find_14 (by decide) (fun c_14 => ?_) (fun c_14 => ?_)
          · skip
            exact absurd c_14 (nI_ge (b := 24) (show h < 24 by omega) (by decide))
          · skip
            refine lv_aload_n hx hb dX2_find_17 rfl (lv_at hl 1 rfl) ?_
            refine r_getM (v := .ref (gc G 0)) hx hb hts hin2 hown hw 0 (by decide) lk7 rfl dX2_find_18 ?_
            refine lv_iload_n hx hb dX2_find_21 rfl (lv_at hl 0 rfl) ?_
            refine r_mldZ hx hb hw 0 (by decide) (by decide) (h) (rfl) (show h < 24 by omega) dX2_find_22 ?_
            refine lv_if_ne (tgt := 29) hx hb dX2_find_23 (by decide) (fun c_23 => ?_) (fun c_23 => ?_)
            · skip
              refine lv_aload_n hx hb dX2_find_29 rfl (lv_at hl 1 rfl) ?_
              refine r_getM (v := .ref (gc G 3)) hx hb hts hin2 hown hw 3 (by decide) lk20 rfl dX2_find_30 ?_
              refine lv_iload_n hx hb dX2_find_33 rfl (lv_at hl 0 rfl) ?_
              refine r_mldZ hx hb hw 3 (by decide) (by decide) (h) (rfl) (show h < 24 by omega) dX2_find_34 ?_
              refine lv_if_eq (tgt := 51) hx hb dX2_find_35 (by decide) (fun c_35 => ?_) (fun c_35 => ?_)
              · skip
                refine lv_iconst (v := 0) hx hb dX2_find_51 (by decide) ?_
                refine lv_istore_n (lv' := [(3, .int 0), (2, .int (nI h)), (0, .ref (gm G)), (1, .int p1)]) hx hb dX2_find_52 rfl hl (by decide) rfl (fun ls hl => ?_)
                refine lv_aload_n hx hb dX2_find_53 rfl (lv_at hl 2 rfl) ?_
                refine lv_iload_n hx hb dX2_find_54 rfl (lv_at hl 1 rfl) ?_
                refine lv_iload_n hx hb dX2_find_55 rfl (lv_at hl 0 rfl) ?_
                refine lv_if_ne (tgt := 68) hx hb dX2_find_56 (by decide) (fun c_56 => ?_) (fun c_56 => ?_)
                · skip
                  exact absurd c_56 (by decide)
                · skip
                  refine lv_aload_n hx hb dX2_find_59 rfl (lv_at hl 2 rfl) ?_
                  refine r_getM (v := .ref (gc G 3)) hx hb hts hin2 hown hw 3 (by decide) lk20 rfl dX2_find_60 ?_
                  refine lv_iload_n hx hb dX2_find_63 rfl (lv_at hl 1 rfl) ?_
                  refine r_mldZ hx hb hw 3 (by decide) (by decide) (h) (rfl) (show h < 24 by omega) dX2_find_64 ?_
                  refine lv_if_ne (tgt := 72) hx hb dX2_find_65 (by decide) (fun c_65 => ?_) (fun c_65 => ?_)
                  · skip
                    exact absurd c_35 c_65
                  · skip
                    refine lv_iconst (v := 3) hx hb dX2_find_68 (by decide) ?_
                    refine lv_goto (tgt := 73) hx hb dX2_find_69 (by decide) ?_
                    refine lv_iconst (v := 0) hx hb dX2_find_73 (by decide) ?_
                    refine k_i hw (va_runV (As := [.int (nI h), .int 3, .int 0]) (rest := []) ⟨hx, hb, hml, hown, hts⟩ (c_X2_let l G f wa S T (j := h) (by omega) 3 0) (cwV 3 hts gX2_find_X2_let rfl rfl rfl (by decide +kernel) ⟨Nat.le_of_ble_eq_true rfl, Nat.le_of_ble_eq_true rfl⟩) (hw.preM _) rfl rfl hl.1 rfl (lv_room (Nat.le_of_ble_eq_true rfl)) dX2_find_74 ⟨Nat.le_of_ble_eq_true rfl, Nat.le_of_ble_eq_true rfl⟩) (fun r u H locs hR hw => ?_)
                    obtain ⟨hq, rfl⟩ := hR
                    obtain rfl := hq.symm
                    refine lv_pop hx hb dX2_find_77 rfl ?_
                    refine lv_iload_n hx hb dX2_find_78 rfl (lv_at hl 0 rfl) ?_
                    refine lv_if_eq (tgt := 84) hx hb dX2_find_79 (by decide) (fun c_79 => ?_) (fun c_79 => ?_)
                    · skip
                      refine lv_iinc (v := nI (h + 1)) (lv' := [(2, .int (nI (h + 1))), (3, .int 0), (0, .ref (gm G)), (1, .int p1)]) hx hb dX2_find_84 hl (k := 1) rfl (nI_1 _) (by decide) rfl (fun ls hl => ?_)
                      refine lv_goto (tgt := 11) hx hb dX2_find_87 (by decide) ?_
                      exact ih (h + 1) (sU (sU T 6 h ((T 6 h) + 1)) 7 h 3) H locs ls ⟨by omega, (show Inv _ from hIT), hop.trans (by simp only [mf_find, ml, ml2, ↓reduceIte, c_14, c_23, c_35, c_56, c_65, c_79])⟩ hw (lv_sub hl [0, 2, 3] rfl)
                    · skip
                      exact absurd c_79 (by decide)
              · skip
                refine lv_aload_n hx hb dX2_find_38 rfl (lv_at hl 1 rfl) ?_
                refine lv_iload_n hx hb dX2_find_39 rfl (lv_at hl 0 rfl) ?_
                refine lv_iload_n hx hb dX2_find_40 rfl (lv_at hl 2 rfl) ?_
                refine k_i hw (va_runV (As := [.int (nI h), .int p1]) (rest := []) ⟨hx, hb, hml, hown, hts⟩ (c_X2_hasItem l G f wa S T (i := h) (by omega) hn_h h10_h p1) (cwV 2 hts gX2_find_X2_hasItem rfl rfl rfl (by decide +kernel) ⟨Nat.le_of_ble_eq_true rfl, Nat.le_of_ble_eq_true rfl⟩) (hw.preM _) rfl rfl hl.1 rfl (lv_room (Nat.le_of_ble_eq_true rfl)) dX2_find_41 ⟨Nat.le_of_ble_eq_true rfl, Nat.le_of_ble_eq_true rfl⟩) (fun r u H locs hR hw => ?_)
                obtain ⟨hq, rfl⟩ := hR
                obtain rfl := hq.symm
                cases hh_41 : has T h p1
                · skip
                  refine W.eq (g2 := F0 m 44 ls [.int 0]) rfl ?_
                  refine lv_if_eq (tgt := 51) hx hb dX2_find_44 (by decide) (fun c_44 => ?_) (fun c_44 => ?_)
                  · skip
                    refine lv_iconst (v := 0) hx hb dX2_find_51 (by decide) ?_
                    refine lv_istore_n (lv' := [(3, .int 0), (2, .int (nI h)), (0, .ref (gm G)), (1, .int p1)]) hx hb dX2_find_52 rfl hl (by decide) rfl (fun ls hl => ?_)
                    refine lv_aload_n hx hb dX2_find_53 rfl (lv_at hl 2 rfl) ?_
                    refine lv_iload_n hx hb dX2_find_54 rfl (lv_at hl 1 rfl) ?_
                    refine lv_iload_n hx hb dX2_find_55 rfl (lv_at hl 0 rfl) ?_
                    refine lv_if_ne (tgt := 68) hx hb dX2_find_56 (by decide) (fun c_56 => ?_) (fun c_56 => ?_)
                    · skip
                      exact absurd c_56 (by decide)
                    · skip
                      refine lv_aload_n hx hb dX2_find_59 rfl (lv_at hl 2 rfl) ?_
                      refine r_getM (v := .ref (gc G 3)) hx hb hts hin2 hown hw 3 (by decide) lk20 rfl dX2_find_60 ?_
                      refine lv_iload_n hx hb dX2_find_63 rfl (lv_at hl 1 rfl) ?_
                      refine r_mldZ hx hb hw 3 (by decide) (by decide) (h) (rfl) (show h < 24 by omega) dX2_find_64 ?_
                      refine lv_if_ne (tgt := 72) hx hb dX2_find_65 (by decide) (fun c_65 => ?_) (fun c_65 => ?_)
                      · skip
                        refine lv_iconst (v := 1) hx hb dX2_find_72 (by decide) ?_
                        refine lv_iconst (v := 0) hx hb dX2_find_73 (by decide) ?_
                        refine k_i hw (va_runV (As := [.int (nI h), .int 1, .int 0]) (rest := []) ⟨hx, hb, hml, hown, hts⟩ (c_X2_let l G f wa S T (j := h) (by omega) 1 0) (cwV 3 hts gX2_find_X2_let rfl rfl rfl (by decide +kernel) ⟨Nat.le_of_ble_eq_true rfl, Nat.le_of_ble_eq_true rfl⟩) (hw.preM _) rfl rfl hl.1 rfl (lv_room (Nat.le_of_ble_eq_true rfl)) dX2_find_74 ⟨Nat.le_of_ble_eq_true rfl, Nat.le_of_ble_eq_true rfl⟩) (fun r u H locs hR hw => ?_)
                        obtain ⟨hq, rfl⟩ := hR
                        obtain rfl := hq.symm
                        refine lv_pop hx hb dX2_find_77 rfl ?_
                        refine lv_iload_n hx hb dX2_find_78 rfl (lv_at hl 0 rfl) ?_
                        refine lv_if_eq (tgt := 84) hx hb dX2_find_79 (by decide) (fun c_79 => ?_) (fun c_79 => ?_)
                        · skip
                          refine lv_iinc (v := nI (h + 1)) (lv' := [(2, .int (nI (h + 1))), (3, .int 0), (0, .ref (gm G)), (1, .int p1)]) hx hb dX2_find_84 hl (k := 1) rfl (nI_1 _) (by decide) rfl (fun ls hl => ?_)
                          refine lv_goto (tgt := 11) hx hb dX2_find_87 (by decide) ?_
                          exact ih (h + 1) (sU (sU T 6 h ((T 6 h) + 1)) 7 h 1) H locs ls ⟨by omega, (show Inv _ from hIT), hop.trans (by simp only [mf_find, ml, ml2, ↓reduceIte, c_14, c_23, c_35, hh_41, Bool.false_eq_true, c_44, c_56, c_65, c_79])⟩ hw (lv_sub hl [0, 2, 3] rfl)
                        · skip
                          exact absurd c_79 (by decide)
                      · skip
                        exact absurd c_65 c_35
                  · skip
                    exact absurd c_44 (by decide)
                · skip
                  refine W.eq (g2 := F0 m 44 ls [.int 1]) rfl ?_
                  refine lv_if_eq (tgt := 51) hx hb dX2_find_44 (by decide) (fun c_44 => ?_) (fun c_44 => ?_)
                  · skip
                    exact absurd c_44 (by decide)
                  · skip
                    refine lv_iconst (v := 1) hx hb dX2_find_47 (by decide) ?_
                    refine lv_goto (tgt := 52) hx hb dX2_find_48 (by decide) ?_
                    refine lv_istore_n (lv' := [(3, .int 1), (2, .int (nI h)), (0, .ref (gm G)), (1, .int p1)]) hx hb dX2_find_52 rfl hl (by decide) rfl (fun ls hl => ?_)
                    refine lv_aload_n hx hb dX2_find_53 rfl (lv_at hl 2 rfl) ?_
                    refine lv_iload_n hx hb dX2_find_54 rfl (lv_at hl 1 rfl) ?_
                    refine lv_iload_n hx hb dX2_find_55 rfl (lv_at hl 0 rfl) ?_
                    refine lv_if_ne (tgt := 68) hx hb dX2_find_56 (by decide) (fun c_56 => ?_) (fun c_56 => ?_)
                    · skip
                      refine lv_iconst (v := 3) hx hb dX2_find_68 (by decide) ?_
                      refine lv_goto (tgt := 73) hx hb dX2_find_69 (by decide) ?_
                      refine lv_iconst (v := 0) hx hb dX2_find_73 (by decide) ?_
                      refine k_i hw (va_runV (As := [.int (nI h), .int 3, .int 0]) (rest := []) ⟨hx, hb, hml, hown, hts⟩ (c_X2_let l G f wa S T (j := h) (by omega) 3 0) (cwV 3 hts gX2_find_X2_let rfl rfl rfl (by decide +kernel) ⟨Nat.le_of_ble_eq_true rfl, Nat.le_of_ble_eq_true rfl⟩) (hw.preM _) rfl rfl hl.1 rfl (lv_room (Nat.le_of_ble_eq_true rfl)) dX2_find_74 ⟨Nat.le_of_ble_eq_true rfl, Nat.le_of_ble_eq_true rfl⟩) (fun r u H locs hR hw => ?_)
                      obtain ⟨hq, rfl⟩ := hR
                      obtain rfl := hq.symm
                      refine lv_pop hx hb dX2_find_77 rfl ?_
                      refine lv_iload_n hx hb dX2_find_78 rfl (lv_at hl 0 rfl) ?_
                      refine lv_if_eq (tgt := 84) hx hb dX2_find_79 (by decide) (fun c_79 => ?_) (fun c_79 => ?_)
                      · skip
                        exact absurd c_79 (by decide)
                      · skip
                        refine lv_iload_n hx hb dX2_find_82 rfl (lv_at hl 1 rfl) ?_
                        exact e_i hx hb hr hlocks hw dX2_find_83 (leafM (hop.trans (by simp only [mf_find, ml, ml2, ↓reduceIte, c_14, c_23, c_35, hh_41, c_44, c_56, c_79])))
                    · skip
                      exact absurd c_56 (by decide)
            · skip
              refine lv_goto (tgt := 84) hx hb dX2_find_26 (by decide) ?_
              refine lv_iinc (v := nI (h + 1)) (lv' := [(2, .int (nI (h + 1))), (0, .ref (gm G)), (1, .int p1)]) hx hb dX2_find_84 hl (k := 0) rfl (nI_1 _) (by decide) rfl (fun ls hl => ?_)
              refine lv_goto (tgt := 11) hx hb dX2_find_87 (by decide) ?_
              exact ih (h + 1) T H locs ls ⟨by omega, (show Inv _ from hIT), hop.trans (by simp only [mf_find, ml, ml2, ↓reduceIte, c_14, c_23])⟩ hw (lv_sub hl [0, 1, 2] rfl)
      exact loop 24 0 M _ _ _ ⟨by omega, hI, by simp only [om_find, ↓reduceIte, hh_1, c_4]⟩ hw (lv_sub hl [0, 1, 2] rfl)
    · skip
      exact absurd c_4 (by decide)

set_option maxHeartbeats 800000 in
set_option maxRecDepth 100000 in
theorem c_X2_first (l : Launch) (G : GT) (f : Nat → Option Nat) (wa : Nat → Nat) (S M : Tb) (hI : Inv M) (p1 : Int32) : Met l yX2_first wsX2_first (rk 1) (va_Pc [.ref (gm G), .int p1] (Wo G (f, wa, S, M))) (Qi G (fun r u => r = (om_first M p1).1 ∧ u = (f, wa, S, (om_first M p1).2))) 0 0 (gA G) := by
  refine m_head (cc := cX2_first) (maxL := 4) (ret := (some .int)) (by decide) rfl (Nat.le_of_ble_eq_true rfl) ?_
  intro p e s m below meth c hx hb hml hr hlocks hown hts hw ls hl
  have hown : s.vm.findClass RX2 = some m.cls := hown
  have hl : lv_has ls 4 [(0, .ref (gm G)), (1, .int p1)] := hl
  have hin2 : ∀ w ∈ wsX20, w ∈ wsX2_first := by decide +kernel
  have lk7 := hts (.fieldLink RX2 7 "LockerWallModel" "there" "[Z") (by decide +kernel)
  refine lv_iload_n hx hb dX2_first_0 rfl (lv_at hl 1 rfl) ?_
  refine lv_if_ge (tgt := 6) hx hb dX2_first_1 (by decide) (fun c_1 => ?_) (fun c_1 => ?_)
  · skip
    refine lv_iconst (v := 0) hx hb dX2_first_6 (by decide) ?_
    refine lv_istore_n (lv' := [(2, .int 0), (0, .ref (gm G)), (1, .int p1)]) hx hb dX2_first_7 rfl hl (by decide) rfl (fun ls hl => ?_)
    have loop : ∀ (d h : Nat) (T : Tb) (H : Heap) (locs : List Loc) (ls : Array Slot), (h + d = 24 ∧ Inv T ∧ om_first M p1 = mf_first p1 d h T) → Wi G (f, wa, S, T) s H locs → lv_has ls 4 [(2, .int (nI h)), (0, .ref (gm G)), (1, .int p1)] → W p l e (headSpec wsX2_first (rk 1)).room s m [.ref (gm G), .int p1].toArray below meth c H locs 0 0 (MQ below (Qi G (fun r u => r = (om_first M p1).1 ∧ u = (f, wa, S, (om_first M p1).2))) [.ref (gm G), .int p1].toArray s 0 0 (gA G)) (F0 m 8 ls []) := by
      intro d
      induction d with
      | zero =>
        intro h T H locs ls hk hw hl
        obtain ⟨hd24, hIT, hop⟩ := hk
        refine lv_iload_n hx hb dX2_first_8 rfl (lv_at hl 0 rfl) ?_
        refine lv_bipush (v := 24) hx hb dX2_first_9 (by decide) ?_
        refine lv_icmp_ge (tgt := 69) hx hb dX2_first_11 (by decide) (fun c_11 => ?_) (fun c_11 => ?_)
        · skip
          refine lv_bipush (v := (-8)) hx hb dX2_first_69 (by decide) ?_
          exact e_i hx hb hr hlocks hw dX2_first_71 (leafM (hop.trans (by simp only [mf_first, ml, ml2, ↓reduceIte, c_11])))
        · skip
          exact absurd (show (24 : Int32) ≤ nI h from nI_le (a := 24) (by omega) (by omega)) c_11
      | succ d ih =>
        intro h T H locs ls hk hw hl
        obtain ⟨hd24, hIT, hop⟩ := hk
        obtain ⟨n_h, h10_h, hn_h⟩ := hIT h (by omega)
        refine lv_iload_n hx hb dX2_first_8 rfl (lv_at hl 0 rfl) ?_
        refine lv_bipush (v := 24) hx hb dX2_first_9 (by decide) ?_
        refine lv_icmp_ge (tgt := 69) hx hb dX2_first_11 (by decide) (fun c_11 => ?_) (fun c_11 => ?_)
        · skip
          exact absurd c_11 (nI_ge (b := 24) (show h < 24 by omega) (by decide))
        · skip
          refine lv_aload_n hx hb dX2_first_14 rfl (lv_at hl 1 rfl) ?_
          refine r_getM (v := .ref (gc G 0)) hx hb hts hin2 hown hw 0 (by decide) lk7 rfl dX2_first_15 ?_
          refine lv_iload_n hx hb dX2_first_18 rfl (lv_at hl 0 rfl) ?_
          refine r_mldZ hx hb hw 0 (by decide) (by decide) (h) (rfl) (show h < 24 by omega) dX2_first_19 ?_
          refine lv_if_ne (tgt := 26) hx hb dX2_first_20 (by decide) (fun c_20 => ?_) (fun c_20 => ?_)
          · skip
            refine lv_aload_n hx hb dX2_first_26 rfl (lv_at hl 1 rfl) ?_
            refine lv_iload_n hx hb dX2_first_27 rfl (lv_at hl 0 rfl) ?_
            refine k_i hw (va_runV (As := [.int (nI h)]) (rest := []) ⟨hx, hb, hml, hown, hts⟩ (c_X2_weight l G f wa S T (i := h) (by omega) hn_h h10_h) (cwV 1 hts gX2_first_X2_weight rfl rfl rfl (by decide +kernel) ⟨Nat.le_of_ble_eq_true rfl, Nat.le_of_ble_eq_true rfl⟩) (hw.preM _) rfl rfl hl.1 rfl (lv_room (Nat.le_of_ble_eq_true rfl)) dX2_first_28 ⟨Nat.le_of_ble_eq_true rfl, Nat.le_of_ble_eq_true rfl⟩) (fun r u H locs hR hw => ?_)
            obtain ⟨hq, rfl⟩ := hR
            obtain rfl := hq.symm
            refine lv_iload_n hx hb dX2_first_31 rfl (lv_at hl 2 rfl) ?_
            refine lv_icmp_lt (tgt := 39) hx hb dX2_first_32 (by decide) (fun c_32 => ?_) (fun c_32 => ?_)
            · skip
              refine lv_iconst (v := 0) hx hb dX2_first_39 (by decide) ?_
              refine lv_istore_n (lv' := [(3, .int 0), (2, .int (nI h)), (0, .ref (gm G)), (1, .int p1)]) hx hb dX2_first_40 rfl hl (by decide) rfl (fun ls hl => ?_)
              refine lv_aload_n hx hb dX2_first_41 rfl (lv_at hl 2 rfl) ?_
              refine lv_iload_n hx hb dX2_first_42 rfl (lv_at hl 1 rfl) ?_
              refine lv_iload_n hx hb dX2_first_43 rfl (lv_at hl 0 rfl) ?_
              refine lv_if_eq (tgt := 51) hx hb dX2_first_44 (by decide) (fun c_44 => ?_) (fun c_44 => ?_)
              · skip
                refine lv_iconst (v := 1) hx hb dX2_first_51 (by decide) ?_
                refine lv_iconst (v := 0) hx hb dX2_first_52 (by decide) ?_
                refine k_i hw (va_runV (As := [.int (nI h), .int 1, .int 0]) (rest := []) ⟨hx, hb, hml, hown, hts⟩ (c_X2_let l G f wa S T (j := h) (by omega) 1 0) (cwV 3 hts gX2_first_X2_let rfl rfl rfl (by decide +kernel) ⟨Nat.le_of_ble_eq_true rfl, Nat.le_of_ble_eq_true rfl⟩) (hw.preM _) rfl rfl hl.1 rfl (lv_room (Nat.le_of_ble_eq_true rfl)) dX2_first_53 ⟨Nat.le_of_ble_eq_true rfl, Nat.le_of_ble_eq_true rfl⟩) (fun r u H locs hR hw => ?_)
                obtain ⟨hq, rfl⟩ := hR
                obtain rfl := hq.symm
                refine lv_pop hx hb dX2_first_56 rfl ?_
                refine lv_iload_n hx hb dX2_first_57 rfl (lv_at hl 0 rfl) ?_
                refine lv_if_eq (tgt := 63) hx hb dX2_first_58 (by decide) (fun c_58 => ?_) (fun c_58 => ?_)
                · skip
                  refine lv_iinc (v := nI (h + 1)) (lv' := [(2, .int (nI (h + 1))), (3, .int 0), (0, .ref (gm G)), (1, .int p1)]) hx hb dX2_first_63 hl (k := 1) rfl (nI_1 _) (by decide) rfl (fun ls hl => ?_)
                  refine lv_goto (tgt := 8) hx hb dX2_first_66 (by decide) ?_
                  exact ih (h + 1) (sU (sU T 6 h ((T 6 h) + 1)) 7 h 1) H locs ls ⟨by omega, (show Inv _ from hIT), hop.trans (by simp only [mf_first, ml, ml2, ↓reduceIte, c_11, c_20, c_32, c_44, c_58])⟩ hw (lv_sub hl [0, 2, 3] rfl)
                · skip
                  exact absurd c_58 (by decide)
              · skip
                exact absurd c_44 (by decide)
            · skip
              refine lv_iconst (v := 1) hx hb dX2_first_35 (by decide) ?_
              refine lv_goto (tgt := 40) hx hb dX2_first_36 (by decide) ?_
              refine lv_istore_n (lv' := [(3, .int 1), (2, .int (nI h)), (0, .ref (gm G)), (1, .int p1)]) hx hb dX2_first_40 rfl hl (by decide) rfl (fun ls hl => ?_)
              refine lv_aload_n hx hb dX2_first_41 rfl (lv_at hl 2 rfl) ?_
              refine lv_iload_n hx hb dX2_first_42 rfl (lv_at hl 1 rfl) ?_
              refine lv_iload_n hx hb dX2_first_43 rfl (lv_at hl 0 rfl) ?_
              refine lv_if_eq (tgt := 51) hx hb dX2_first_44 (by decide) (fun c_44 => ?_) (fun c_44 => ?_)
              · skip
                exact absurd c_44 (by decide)
              · skip
                refine lv_iconst (v := 2) hx hb dX2_first_47 (by decide) ?_
                refine lv_goto (tgt := 52) hx hb dX2_first_48 (by decide) ?_
                refine lv_iconst (v := 0) hx hb dX2_first_52 (by decide) ?_
                refine k_i hw (va_runV (As := [.int (nI h), .int 2, .int 0]) (rest := []) ⟨hx, hb, hml, hown, hts⟩ (c_X2_let l G f wa S T (j := h) (by omega) 2 0) (cwV 3 hts gX2_first_X2_let rfl rfl rfl (by decide +kernel) ⟨Nat.le_of_ble_eq_true rfl, Nat.le_of_ble_eq_true rfl⟩) (hw.preM _) rfl rfl hl.1 rfl (lv_room (Nat.le_of_ble_eq_true rfl)) dX2_first_53 ⟨Nat.le_of_ble_eq_true rfl, Nat.le_of_ble_eq_true rfl⟩) (fun r u H locs hR hw => ?_)
                obtain ⟨hq, rfl⟩ := hR
                obtain rfl := hq.symm
                refine lv_pop hx hb dX2_first_56 rfl ?_
                refine lv_iload_n hx hb dX2_first_57 rfl (lv_at hl 0 rfl) ?_
                refine lv_if_eq (tgt := 63) hx hb dX2_first_58 (by decide) (fun c_58 => ?_) (fun c_58 => ?_)
                · skip
                  exact absurd c_58 (by decide)
                · skip
                  refine lv_iload_n hx hb dX2_first_61 rfl (lv_at hl 1 rfl) ?_
                  exact e_i hx hb hr hlocks hw dX2_first_62 (leafM (hop.trans (by simp only [mf_first, ml, ml2, ↓reduceIte, c_11, c_20, c_32, c_44, c_58])))
          · skip
            refine lv_goto (tgt := 63) hx hb dX2_first_23 (by decide) ?_
            refine lv_iinc (v := nI (h + 1)) (lv' := [(2, .int (nI (h + 1))), (0, .ref (gm G)), (1, .int p1)]) hx hb dX2_first_63 hl (k := 0) rfl (nI_1 _) (by decide) rfl (fun ls hl => ?_)
            refine lv_goto (tgt := 8) hx hb dX2_first_66 (by decide) ?_
            exact ih (h + 1) T H locs ls ⟨by omega, (show Inv _ from hIT), hop.trans (by simp only [mf_first, ml, ml2, ↓reduceIte, c_11, c_20])⟩ hw (lv_sub hl [0, 1, 2] rfl)
    exact loop 24 0 M _ _ _ ⟨by omega, hI, by simp only [om_first, ↓reduceIte, c_1]⟩ hw (lv_sub hl [0, 1, 2] rfl)
  · skip
    refine lv_iconst (v := (-1)) hx hb dX2_first_4 (by decide) ?_
    exact e_i hx hb hr hlocks hw dX2_first_5 (leafM (by simp only [om_first, ml, ml2, ↓reduceIte, c_1]))

set_option maxHeartbeats 800000 in
set_option maxRecDepth 100000 in
theorem c_X2_tally (l : Launch) (G : GT) (f : Nat → Option Nat) (wa : Nat → Nat) (S M : Tb) (hI : Inv M) : Met l yX2_tally wsX2_tally (rk 1) (va_Pc [.ref (gm G)] (Wo G (f, wa, S, M))) (Ql G (fun r u => r = (om_tally M).1 ∧ u = (f, wa, S, (om_tally M).2))) 0 0 (gA G) := by
  refine m_head (cc := cX2_tally) (maxL := 4) (ret := (some .long)) (by decide) rfl (Nat.le_of_ble_eq_true rfl) ?_
  intro p e s m below meth c hx hb hml hr hlocks hown hts hw ls hl
  have hown : s.vm.findClass RX2 = some m.cls := hown
  have hl : lv_has ls 4 [(0, .ref (gm G))] := hl
  have hin2 : ∀ w ∈ wsX20, w ∈ wsX2_tally := by decide +kernel
  have lk49 := hts (.fieldLink RX2 49 "LockerWallModel" "latched" "I") (by decide +kernel)
  have lk7 := hts (.fieldLink RX2 7 "LockerWallModel" "there" "[Z") (by decide +kernel)
  refine lv_aload_n hx hb dX2_tally_0 rfl (lv_at hl 0 rfl) ?_
  refine lv_dup hx hb dX2_tally_1 rfl ?_
  refine r_getM (v := .int (M 9 0)) hx hb hts hin2 hown hw 9 (by decide) lk49 rfl dX2_tally_2 ?_
  refine lv_iconst (v := 1) hx hb dX2_tally_5 (by decide) ?_
  refine lv_iadd hx hb dX2_tally_6 ?_
  refine r_putMT hx hb hts hin2 hown hw lk49 dX2_tally_7 (fun H locs hw => ?_)
  have hw : Wi G (f, wa, S, sU M 9 0 ((M 9 0) + 1)) s H locs := hw
  refine lv_lconst (v := 0) hx hb dX2_tally_10 (by decide) ?_
  refine lv_lstore_n (lv' := [(1, .long 0), (0, .ref (gm G))]) hx hb dX2_tally_11 rfl hl (by decide) rfl (fun ls hl => ?_)
  refine lv_iconst (v := 0) hx hb dX2_tally_12 (by decide) ?_
  refine lv_istore_n (lv' := [(3, .int 0), (1, .long 0), (0, .ref (gm G))]) hx hb dX2_tally_13 rfl hl (by decide) rfl (fun ls hl => ?_)
  have loop : ∀ (d h : Nat) (z : Int64) (T : Tb) (H : Heap) (locs : List Loc) (ls : Array Slot), (h + d = 24 ∧ Inv T ∧ om_tally M = mf_tally d h z T) → Wi G (f, wa, S, T) s H locs → lv_has ls 4 [(3, .int (nI h)), (1, .long z), (0, .ref (gm G))] → W p l e (headSpec wsX2_tally (rk 1)).room s m [.ref (gm G)].toArray below meth c H locs 0 0 (MQ below (Ql G (fun r u => r = (om_tally M).1 ∧ u = (f, wa, S, (om_tally M).2))) [.ref (gm G)].toArray s 0 0 (gA G)) (F0 m 14 ls []) := by
    intro d
    induction d with
    | zero =>
      intro h z T H locs ls hk hw hl
      obtain ⟨hd24, hIT, hop⟩ := hk
      refine lv_iload_n hx hb dX2_tally_14 rfl (lv_at hl 0 rfl) ?_
      refine lv_bipush (v := 24) hx hb dX2_tally_15 (by decide) ?_
      refine lv_icmp_ge (tgt := 60) hx hb dX2_tally_17 (by decide) (fun c_17 => ?_) (fun c_17 => ?_)
      · skip
        refine lv_lload_n hx hb dX2_tally_60 rfl (lv_at hl 1 rfl) ?_
        exact e_l hx hb hr hlocks hw dX2_tally_61 (leafML (hop.trans (by simp only [mf_tally])))
      · skip
        exact absurd (show (24 : Int32) ≤ nI h from nI_le (a := 24) (by omega) (by omega)) c_17
    | succ d ih =>
      intro h z T H locs ls hk hw hl
      obtain ⟨hd24, hIT, hop⟩ := hk
      obtain ⟨n_h, h10_h, hn_h⟩ := hIT h (by omega)
      refine lv_iload_n hx hb dX2_tally_14 rfl (lv_at hl 0 rfl) ?_
      refine lv_bipush (v := 24) hx hb dX2_tally_15 (by decide) ?_
      refine lv_icmp_ge (tgt := 60) hx hb dX2_tally_17 (by decide) (fun c_17 => ?_) (fun c_17 => ?_)
      · skip
        exact absurd c_17 (nI_ge (b := 24) (show h < 24 by omega) (by decide))
      · skip
        refine lv_aload_n hx hb dX2_tally_20 rfl (lv_at hl 2 rfl) ?_
        refine r_getM (v := .ref (gc G 0)) hx hb hts hin2 hown hw 0 (by decide) lk7 rfl dX2_tally_21 ?_
        refine lv_iload_n hx hb dX2_tally_24 rfl (lv_at hl 0 rfl) ?_
        refine r_mldZ hx hb hw 0 (by decide) (by decide) (h) (rfl) (show h < 24 by omega) dX2_tally_25 ?_
        refine lv_if_ne (tgt := 32) hx hb dX2_tally_26 (by decide) (fun c_26 => ?_) (fun c_26 => ?_)
        · skip
          refine lv_lload_n hx hb dX2_tally_32 rfl (lv_at hl 1 rfl) ?_
          refine lv_aload_n hx hb dX2_tally_33 rfl (lv_at hl 2 rfl) ?_
          refine lv_iload_n hx hb dX2_tally_34 rfl (lv_at hl 0 rfl) ?_
          refine k_i hw (va_runV (As := [.int (nI h)]) (rest := [.long z]) ⟨hx, hb, hml, hown, hts⟩ (c_X2_weight l G f wa S T (i := h) (by omega) hn_h h10_h) (cwV 1 hts gX2_tally_X2_weight rfl rfl rfl (by decide +kernel) ⟨Nat.le_of_ble_eq_true rfl, Nat.le_of_ble_eq_true rfl⟩) (hw.preM _) rfl rfl hl.1 rfl (lv_room (Nat.le_of_ble_eq_true rfl)) dX2_tally_35 ⟨Nat.le_of_ble_eq_true rfl, Nat.le_of_ble_eq_true rfl⟩) (fun r u H locs hR hw => ?_)
          obtain ⟨hq, rfl⟩ := hR
          obtain rfl := hq.symm
          refine lv_i2l hx hb dX2_tally_38 rfl ?_
          refine lv_iload_n hx hb dX2_tally_39 rfl (lv_at hl 0 rfl) ?_
          refine lv_iconst (v := 1) hx hb dX2_tally_40 (by decide) ?_
          refine lv_iadd hx hb dX2_tally_41 ?_
          refine lv_i2l hx hb dX2_tally_42 rfl ?_
          refine lv_lmul hx hb dX2_tally_43 ?_
          refine lv_ladd hx hb dX2_tally_44 ?_
          refine lv_lstore_n (lv' := [(1, .long (z + (((wt T h).toInt64) * (((nI h) + 1).toInt64)))), (3, .int (nI h)), (0, .ref (gm G))]) hx hb dX2_tally_45 rfl hl (by decide) rfl (fun ls hl => ?_)
          refine lv_aload_n hx hb dX2_tally_46 rfl (lv_at hl 2 rfl) ?_
          refine lv_iload_n hx hb dX2_tally_47 rfl (lv_at hl 1 rfl) ?_
          refine lv_iconst (v := 1) hx hb dX2_tally_48 (by decide) ?_
          refine lv_iconst (v := 0) hx hb dX2_tally_49 (by decide) ?_
          refine k_i hw (va_runV (As := [.int (nI h), .int 1, .int 0]) (rest := []) ⟨hx, hb, hml, hown, hts⟩ (c_X2_let l G f wa S T (j := h) (by omega) 1 0) (cwV 3 hts gX2_tally_X2_let rfl rfl rfl (by decide +kernel) ⟨Nat.le_of_ble_eq_true rfl, Nat.le_of_ble_eq_true rfl⟩) (hw.preM _) rfl rfl hl.1 rfl (lv_room (Nat.le_of_ble_eq_true rfl)) dX2_tally_50 ⟨Nat.le_of_ble_eq_true rfl, Nat.le_of_ble_eq_true rfl⟩) (fun r u H locs hR hw => ?_)
          obtain ⟨hq, rfl⟩ := hR
          obtain rfl := hq.symm
          refine lv_pop hx hb dX2_tally_53 rfl ?_
          refine lv_iinc (v := nI (h + 1)) (lv' := [(3, .int (nI (h + 1))), (1, .long (z + (((wt T h).toInt64) * (((nI h) + 1).toInt64)))), (0, .ref (gm G))]) hx hb dX2_tally_54 hl (k := 1) rfl (nI_1 _) (by decide) rfl (fun ls hl => ?_)
          refine lv_goto (tgt := 14) hx hb dX2_tally_57 (by decide) ?_
          exact ih (h + 1) (z + (((wt T h).toInt64) * (((nI h) + 1).toInt64))) (sU (sU T 6 h ((T 6 h) + 1)) 7 h 1) H locs ls ⟨by omega, (show Inv _ from hIT), hop.trans (by simp only [mf_tally, ml, ml2, ↓reduceIte, c_17, c_26])⟩ hw (lv_sub hl [0, 1, 2] rfl)
        · skip
          refine lv_goto (tgt := 54) hx hb dX2_tally_29 (by decide) ?_
          refine lv_iinc (v := nI (h + 1)) (lv' := [(3, .int (nI (h + 1))), (1, .long z), (0, .ref (gm G))]) hx hb dX2_tally_54 hl (k := 0) rfl (nI_1 _) (by decide) rfl (fun ls hl => ?_)
          refine lv_goto (tgt := 14) hx hb dX2_tally_57 (by decide) ?_
          exact ih (h + 1) z T H locs ls ⟨by omega, (show Inv _ from hIT), hop.trans (by simp only [mf_tally, ml, ml2, ↓reduceIte, c_17, c_26])⟩ hw (lv_sub hl [0, 1, 2] rfl)
  exact loop 24 0 0 (sU M 9 0 (M 9 0 + 1)) _ _ _ ⟨by omega, (show Inv _ from hI), by rw [om_tally]⟩ hw (lv_sub hl [0, 1, 2] rfl)

set_option maxHeartbeats 800000 in
set_option maxRecDepth 100000 in
theorem c_X2_weigh (l : Launch) (G : GT) (f : Nat → Option Nat) (wa : Nat → Nat) (S M : Tb) (hI : Inv M) (p1 p2 : Int32) : Met l yX2_weigh wsX2_weigh (rk 1) (va_Pc [.ref (gm G), .int p1, .int p2] (Wo G (f, wa, S, M))) (Qi G (fun r u => r = (om_weigh M p1 p2).1 ∧ u = (f, wa, S, (om_weigh M p1 p2).2))) 0 0 (gA G) := by
  refine m_head (cc := cX2_weigh) (maxL := 6) (ret := (some .int)) (by decide) rfl (Nat.le_of_ble_eq_true rfl) ?_
  intro p e s m below meth c hx hb hml hr hlocks hown hts hw ls hl
  have hown : s.vm.findClass RX2 = some m.cls := hown
  have hl : lv_has ls 6 [(0, .ref (gm G)), (1, .int p1), (2, .int p2)] := hl
  have hin2 : ∀ w ∈ wsX20, w ∈ wsX2_weigh := by decide +kernel
  have lk49 := hts (.fieldLink RX2 49 "LockerWallModel" "latched" "I") (by decide +kernel)
  have lk7 := hts (.fieldLink RX2 7 "LockerWallModel" "there" "[Z") (by decide +kernel)
  refine lv_iload_n hx hb dX2_weigh_0 rfl (lv_at hl 1 rfl) ?_
  refine k_i hw (va_runS (As := [.int p1]) (rest := []) ⟨hx, hb, hml, hown, hts⟩ (c_X2_isHook l G f wa S M p1) (va_cwS 1 hts gX2_weigh_X2_isHook rfl rfl rfl (by decide +kernel) ⟨Nat.le_of_ble_eq_true rfl, Nat.le_of_ble_eq_true rfl⟩) (hw.preS _) rfl rfl hl.1 rfl (lv_room (Nat.le_of_ble_eq_true rfl)) dX2_weigh_1 ⟨Nat.le_of_ble_eq_true rfl, Nat.le_of_ble_eq_true rfl⟩) (fun r u H locs hR hw => ?_)
  obtain ⟨hq, rfl⟩ := hR
  obtain rfl := hq.symm
  cases hh_1 : isH p1
  · skip
    refine W.eq (g2 := F0 m 4 ls [.int 0]) rfl ?_
    refine lv_if_eq (tgt := 17) hx hb dX2_weigh_4 (by decide) (fun c_4 => ?_) (fun c_4 => ?_)
    · skip
      refine lv_iconst (v := (-1)) hx hb dX2_weigh_17 (by decide) ?_
      exact e_i hx hb hr hlocks hw dX2_weigh_18 (leafM (by simp only [om_weigh, ml, ml2, ↓reduceIte, hh_1, Bool.false_eq_true, c_4]))
    · skip
      exact absurd c_4 (by decide)
  · skip
    refine W.eq (g2 := F0 m 4 ls [.int 1]) rfl ?_
    obtain ⟨i, hi, rfl⟩ := isH_of hh_1
    refine lv_if_eq (tgt := 17) hx hb dX2_weigh_4 (by decide) (fun c_4 => ?_) (fun c_4 => ?_)
    · skip
      exact absurd c_4 (by decide)
    · skip
      refine lv_iload_n hx hb dX2_weigh_7 rfl (lv_at hl 2 rfl) ?_
      refine lv_if_lt (tgt := 17) hx hb dX2_weigh_8 (by decide) (fun c_8 => ?_) (fun c_8 => ?_)
      · skip
        refine lv_iconst (v := (-1)) hx hb dX2_weigh_17 (by decide) ?_
        exact e_i hx hb hr hlocks hw dX2_weigh_18 (leafM (by simp only [om_weigh, ml, ml2, ↓reduceIte, isH_nI hi, cl24 hi, c_4, c_8]))
      · skip
        refine lv_iload_n hx hb dX2_weigh_11 rfl (lv_at hl 2 rfl) ?_
        refine lv_bipush (v := 12) hx hb dX2_weigh_12 (by decide) ?_
        refine lv_icmp_le (tgt := 19) hx hb dX2_weigh_14 (by decide) (fun c_14 => ?_) (fun c_14 => ?_)
        · skip
          obtain ⟨q, hq12, rfl⟩ := nI_of2 (M := 12) (n := 12) rfl c_8 c_14
          have clq : (nI q).toNatClampNeg = q := nI_clamp (by omega)
          refine lv_aload_n hx hb dX2_weigh_19 rfl (lv_at hl 0 rfl) ?_
          refine lv_dup hx hb dX2_weigh_20 rfl ?_
          refine r_getM (v := .int (M 9 0)) hx hb hts hin2 hown hw 9 (by decide) lk49 rfl dX2_weigh_21 ?_
          refine lv_iconst (v := 1) hx hb dX2_weigh_24 (by decide) ?_
          refine lv_iadd hx hb dX2_weigh_25 ?_
          refine r_putMT hx hb hts hin2 hown hw lk49 dX2_weigh_26 (fun H locs hw => ?_)
          have hw : Wi G (f, wa, S, sU M 9 0 ((M 9 0) + 1)) s H locs := hw
          generalize hM1 : sU M 9 0 (M 9 0 + 1) = M1 at hw
          have hI1 : Inv M1 := by rw [← hM1]; exact hI
          refine lv_iconst (v := 0) hx hb dX2_weigh_29 (by decide) ?_
          refine lv_istore_n (lv' := [(3, .int 0), (0, .ref (gm G)), (1, .int (nI i)), (2, .int (nI q))]) hx hb dX2_weigh_30 rfl hl (by decide) rfl (fun ls hl => ?_)
          refine lv_iconst (v := 0) hx hb dX2_weigh_31 (by decide) ?_
          refine lv_istore (lv' := [(4, .int 0), (3, .int 0), (0, .ref (gm G)), (1, .int (nI i)), (2, .int (nI q))]) hx hb dX2_weigh_32 hl (by decide) rfl (fun ls hl => ?_)
          have fin : ∀ (k : Nat) (z : Int32) (H : Heap) (locs : List Loc) (ls : Array Slot), (k ≤ q ∧ mf_cnt i M1 q 0 0 = (k, z)) → Wi G (f, wa, S, M1) s H locs → lv_has ls 6 [(4, .int (nI k)), (3, .int z), (0, .ref (gm G)), (1, .int (nI i)), (2, .int (nI q))] → W p l e (headSpec wsX2_weigh (rk 1)).room s m [.ref (gm G), .int (nI i), .int (nI q)].toArray below meth c H locs 0 0 (MQ below (Qi G (fun r u => r = (om_weigh M (nI i) (nI q)).1 ∧ u = (f, wa, S, (om_weigh M (nI i) (nI q)).2))) [.ref (gm G), .int (nI i), .int (nI q)].toArray s 0 0 (gA G)) (F0 m 75 ls []) := by
            intro k z H locs ls hk hw hl
            obtain ⟨hkq, hcnt⟩ := hk
            by_cases hkn : nI q ≤ nI k
            · skip
              refine lv_iload hx hb dX2_weigh_75 (lv_at hl 0 rfl) ?_
              refine lv_iconst (v := 1) hx hb dX2_weigh_77 (by decide) ?_
              refine lv_isub hx hb dX2_weigh_78 ?_
              refine lv_istore (lv' := [(5, .int ((nI k) - 1)), (4, .int (nI k)), (3, .int z), (0, .ref (gm G)), (1, .int (nI i)), (2, .int (nI q))]) hx hb dX2_weigh_79 hl (by decide) rfl (fun ls hl => ?_)
              have loop : ∀ (t : Nat) (T : Tb) (H : Heap) (locs : List Loc) (ls : Array Slot), (t ≤ 12 ∧ mf_let i 2 k M1 = mf_let i 2 t T) → Wi G (f, wa, S, T) s H locs → lv_has ls 6 [(5, .int (nI t - 1)), (4, .int (nI k)), (3, .int z), (0, .ref (gm G)), (1, .int (nI i)), (2, .int (nI q))] → W p l e (headSpec wsX2_weigh (rk 1)).room s m [.ref (gm G), .int (nI i), .int (nI q)].toArray below meth c H locs 0 0 (MQ below (Qi G (fun r u => r = (om_weigh M (nI i) (nI q)).1 ∧ u = (f, wa, S, (om_weigh M (nI i) (nI q)).2))) [.ref (gm G), .int (nI i), .int (nI q)].toArray s 0 0 (gA G)) (F0 m 81 ls []) := by
                intro t
                induction t with
                | zero =>
                  intro T H locs ls hk hw hl
                  obtain ⟨ht, hop⟩ := hk
                  refine lv_iload hx hb dX2_weigh_81 (lv_at hl 0 rfl) ?_
                  refine lv_if_lt (tgt := 116) hx hb dX2_weigh_83 (by decide) (fun c_83 => ?_) (fun c_83 => ?_)
                  · skip
                    refine lv_iload hx hb dX2_weigh_116 (lv_at hl 1 rfl) ?_
                    refine lv_iload_n hx hb dX2_weigh_118 rfl (lv_at hl 5 rfl) ?_
                    refine lv_icmp_ge (tgt := 127) hx hb dX2_weigh_119 (by decide) (fun c_119 => ?_) (fun c_119 => ?_)
                    · skip
                      refine lv_iload_n hx hb dX2_weigh_127 rfl (lv_at hl 2 rfl) ?_
                      exact e_i hx hb hr hlocks hw dX2_weigh_128 (leafM (by simp only [om_weigh, mj_weigh, ↓reduceIte, hcnt, hkn, isH_nI hi, cl24 hi, c_4, c_8, c_14, clq, hM1, c_83, c_119]; simp only [hop, mf_let]))
                    · skip
                      exact absurd hkn c_119
                  · skip
                    exact absurd (by decide) c_83
                | succ t ih =>
                  intro T H locs ls hk hw hl
                  obtain ⟨ht, hop⟩ := hk
                  rw [nI_pred] at hl
                  refine lv_iload hx hb dX2_weigh_81 (lv_at hl 0 rfl) ?_
                  refine lv_if_lt (tgt := 116) hx hb dX2_weigh_83 (by decide) (fun c_83 => ?_) (fun c_83 => ?_)
                  · skip
                    exact absurd c_83 (nI_pos (by omega))
                  · skip
                    refine lv_aload_n hx hb dX2_weigh_86 rfl (lv_at hl 3 rfl) ?_
                    refine lv_iload_n hx hb dX2_weigh_87 rfl (lv_at hl 4 rfl) ?_
                    refine lv_iload hx hb dX2_weigh_88 (lv_at hl 0 rfl) ?_
                    refine lv_iadd hx hb dX2_weigh_90 ?_
                    refine W.eq (g2 := F0 m 91 ls [.int (nI (i + t)), .ref (gm G)]) (by rw [nI_add]) ?_
                    refine lv_bipush (v := 24) hx hb dX2_weigh_91 (by decide) ?_
                    refine lv_irem hx hb dX2_weigh_93 (by decide) ?_
                    refine W.eq (g2 := F0 m 94 ls [.int (nI ((i + t) % 24)), .ref (gm G)]) (by rw [ix24 (show i + t < 2 ^ 31 by omega)]) ?_
                    refine lv_iload hx hb dX2_weigh_94 (lv_at hl 1 rfl) ?_
                    refine lv_iload_n hx hb dX2_weigh_96 rfl (lv_at hl 5 rfl) ?_
                    refine lv_icmp_ge (tgt := 104) hx hb dX2_weigh_97 (by decide) (fun c_97 => ?_) (fun c_97 => ?_)
                    · skip
                      refine lv_iconst (v := 2) hx hb dX2_weigh_104 (by decide) ?_
                      refine lv_iconst (v := 0) hx hb dX2_weigh_105 (by decide) ?_
                      refine k_i hw (va_runV (As := [.int (nI ((i + t) % 24)), .int 2, .int 0]) (rest := []) ⟨hx, hb, hml, hown, hts⟩ (c_X2_let l G f wa S T (j := ((i + t) % 24)) (by omega) 2 0) (cwV 3 hts gX2_weigh_X2_let rfl rfl rfl (by decide +kernel) ⟨Nat.le_of_ble_eq_true rfl, Nat.le_of_ble_eq_true rfl⟩) (hw.preM _) rfl rfl hl.1 rfl (lv_room (Nat.le_of_ble_eq_true rfl)) dX2_weigh_106 ⟨Nat.le_of_ble_eq_true rfl, Nat.le_of_ble_eq_true rfl⟩) (fun r u H locs hR hw => ?_)
                      obtain ⟨hq, rfl⟩ := hR
                      obtain rfl := hq.symm
                      refine lv_pop hx hb dX2_weigh_109 rfl ?_
                      refine lv_iinc (v := nI t - 1) (lv' := [(5, .int (nI t - 1)), (4, .int (nI k)), (3, .int z), (0, .ref (gm G)), (1, .int (nI i)), (2, .int (nI q))]) hx hb dX2_weigh_110 hl (k := 0) rfl (m1 _) (by decide) rfl (fun ls hl => ?_)
                      refine lv_goto (tgt := 81) hx hb dX2_weigh_113 (by decide) ?_
                      exact ih (sU (sU T 6 ((i + t) % 24) ((T 6 ((i + t) % 24)) + 1)) 7 ((i + t) % 24) 2) H locs ls ⟨by omega, hop.trans (by simp only [mf_let, ml])⟩ hw (lv_sub hl [0, 1, 2, 3, 4, 5] rfl)
                    · skip
                      exact absurd hkn c_97
              exact loop k M1 _ _ _ ⟨by omega, rfl⟩ hw (lv_sub hl [0, 1, 2, 3, 4, 5] rfl)
            · skip
              refine lv_iload hx hb dX2_weigh_75 (lv_at hl 0 rfl) ?_
              refine lv_iconst (v := 1) hx hb dX2_weigh_77 (by decide) ?_
              refine lv_isub hx hb dX2_weigh_78 ?_
              refine lv_istore (lv' := [(5, .int ((nI k) - 1)), (4, .int (nI k)), (3, .int z), (0, .ref (gm G)), (1, .int (nI i)), (2, .int (nI q))]) hx hb dX2_weigh_79 hl (by decide) rfl (fun ls hl => ?_)
              have loop : ∀ (t : Nat) (T : Tb) (H : Heap) (locs : List Loc) (ls : Array Slot), (t ≤ 12 ∧ mf_let i 4 k M1 = mf_let i 4 t T) → Wi G (f, wa, S, T) s H locs → lv_has ls 6 [(5, .int (nI t - 1)), (4, .int (nI k)), (3, .int z), (0, .ref (gm G)), (1, .int (nI i)), (2, .int (nI q))] → W p l e (headSpec wsX2_weigh (rk 1)).room s m [.ref (gm G), .int (nI i), .int (nI q)].toArray below meth c H locs 0 0 (MQ below (Qi G (fun r u => r = (om_weigh M (nI i) (nI q)).1 ∧ u = (f, wa, S, (om_weigh M (nI i) (nI q)).2))) [.ref (gm G), .int (nI i), .int (nI q)].toArray s 0 0 (gA G)) (F0 m 81 ls []) := by
                intro t
                induction t with
                | zero =>
                  intro T H locs ls hk hw hl
                  obtain ⟨ht, hop⟩ := hk
                  refine lv_iload hx hb dX2_weigh_81 (lv_at hl 0 rfl) ?_
                  refine lv_if_lt (tgt := 116) hx hb dX2_weigh_83 (by decide) (fun c_83 => ?_) (fun c_83 => ?_)
                  · skip
                    refine lv_iload hx hb dX2_weigh_116 (lv_at hl 1 rfl) ?_
                    refine lv_iload_n hx hb dX2_weigh_118 rfl (lv_at hl 5 rfl) ?_
                    refine lv_icmp_ge (tgt := 127) hx hb dX2_weigh_119 (by decide) (fun c_119 => ?_) (fun c_119 => ?_)
                    · skip
                      exact absurd c_119 hkn
                    · skip
                      refine lv_bipush (v := (-2)) hx hb dX2_weigh_122 (by decide) ?_
                      refine lv_goto (tgt := 128) hx hb dX2_weigh_124 (by decide) ?_
                      exact e_i hx hb hr hlocks hw dX2_weigh_128 (leafM (by simp only [om_weigh, mj_weigh, ↓reduceIte, hcnt, hkn, isH_nI hi, cl24 hi, c_4, c_8, c_14, clq, hM1, c_83, c_119]; simp only [hop, mf_let]))
                  · skip
                    exact absurd (by decide) c_83
                | succ t ih =>
                  intro T H locs ls hk hw hl
                  obtain ⟨ht, hop⟩ := hk
                  rw [nI_pred] at hl
                  refine lv_iload hx hb dX2_weigh_81 (lv_at hl 0 rfl) ?_
                  refine lv_if_lt (tgt := 116) hx hb dX2_weigh_83 (by decide) (fun c_83 => ?_) (fun c_83 => ?_)
                  · skip
                    exact absurd c_83 (nI_pos (by omega))
                  · skip
                    refine lv_aload_n hx hb dX2_weigh_86 rfl (lv_at hl 3 rfl) ?_
                    refine lv_iload_n hx hb dX2_weigh_87 rfl (lv_at hl 4 rfl) ?_
                    refine lv_iload hx hb dX2_weigh_88 (lv_at hl 0 rfl) ?_
                    refine lv_iadd hx hb dX2_weigh_90 ?_
                    refine W.eq (g2 := F0 m 91 ls [.int (nI (i + t)), .ref (gm G)]) (by rw [nI_add]) ?_
                    refine lv_bipush (v := 24) hx hb dX2_weigh_91 (by decide) ?_
                    refine lv_irem hx hb dX2_weigh_93 (by decide) ?_
                    refine W.eq (g2 := F0 m 94 ls [.int (nI ((i + t) % 24)), .ref (gm G)]) (by rw [ix24 (show i + t < 2 ^ 31 by omega)]) ?_
                    refine lv_iload hx hb dX2_weigh_94 (lv_at hl 1 rfl) ?_
                    refine lv_iload_n hx hb dX2_weigh_96 rfl (lv_at hl 5 rfl) ?_
                    refine lv_icmp_ge (tgt := 104) hx hb dX2_weigh_97 (by decide) (fun c_97 => ?_) (fun c_97 => ?_)
                    · skip
                      exact absurd c_97 hkn
                    · skip
                      refine lv_iconst (v := 4) hx hb dX2_weigh_100 (by decide) ?_
                      refine lv_goto (tgt := 105) hx hb dX2_weigh_101 (by decide) ?_
                      refine lv_iconst (v := 0) hx hb dX2_weigh_105 (by decide) ?_
                      refine k_i hw (va_runV (As := [.int (nI ((i + t) % 24)), .int 4, .int 0]) (rest := []) ⟨hx, hb, hml, hown, hts⟩ (c_X2_let l G f wa S T (j := ((i + t) % 24)) (by omega) 4 0) (cwV 3 hts gX2_weigh_X2_let rfl rfl rfl (by decide +kernel) ⟨Nat.le_of_ble_eq_true rfl, Nat.le_of_ble_eq_true rfl⟩) (hw.preM _) rfl rfl hl.1 rfl (lv_room (Nat.le_of_ble_eq_true rfl)) dX2_weigh_106 ⟨Nat.le_of_ble_eq_true rfl, Nat.le_of_ble_eq_true rfl⟩) (fun r u H locs hR hw => ?_)
                      obtain ⟨hq, rfl⟩ := hR
                      obtain rfl := hq.symm
                      refine lv_pop hx hb dX2_weigh_109 rfl ?_
                      refine lv_iinc (v := nI t - 1) (lv' := [(5, .int (nI t - 1)), (4, .int (nI k)), (3, .int z), (0, .ref (gm G)), (1, .int (nI i)), (2, .int (nI q))]) hx hb dX2_weigh_110 hl (k := 0) rfl (m1 _) (by decide) rfl (fun ls hl => ?_)
                      refine lv_goto (tgt := 81) hx hb dX2_weigh_113 (by decide) ?_
                      exact ih (sU (sU T 6 ((i + t) % 24) ((T 6 ((i + t) % 24)) + 1)) 7 ((i + t) % 24) 4) H locs ls ⟨by omega, hop.trans (by simp only [mf_let, ml])⟩ hw (lv_sub hl [0, 1, 2, 3, 4, 5] rfl)
              exact loop k M1 _ _ _ ⟨by omega, rfl⟩ hw (lv_sub hl [0, 1, 2, 3, 4, 5] rfl)
          have loop : ∀ (d k : Nat) (z : Int32) (H : Heap) (locs : List Loc) (ls : Array Slot), (k + d = q ∧ mf_cnt i M1 q 0 0 = mf_cnt i M1 d k z) → Wi G (f, wa, S, M1) s H locs → lv_has ls 6 [(4, .int (nI k)), (3, .int z), (0, .ref (gm G)), (1, .int (nI i)), (2, .int (nI q))] → W p l e (headSpec wsX2_weigh (rk 1)).room s m [.ref (gm G), .int (nI i), .int (nI q)].toArray below meth c H locs 0 0 (MQ below (Qi G (fun r u => r = (om_weigh M (nI i) (nI q)).1 ∧ u = (f, wa, S, (om_weigh M (nI i) (nI q)).2))) [.ref (gm G), .int (nI i), .int (nI q)].toArray s 0 0 (gA G)) (F0 m 34 ls []) := by
            intro d
            induction d with
            | zero =>
              intro k z H locs ls hk hw hl
              obtain ⟨hkd, hop⟩ := hk
              refine lv_iload hx hb dX2_weigh_34 (lv_at hl 0 rfl) ?_
              refine lv_iload_n hx hb dX2_weigh_36 rfl (lv_at hl 4 rfl) ?_
              refine lv_icmp_ge (tgt := 75) hx hb dX2_weigh_37 (by decide) (fun c_37 => ?_) (fun c_37 => ?_)
              · skip
                exact fin k z _ _ _ ⟨by omega, hop.trans (by simp only [mf_cnt, ↓reduceIte, c_37])⟩ hw (lv_sub hl [0, 1, 2, 3, 4] rfl)
              · skip
                exact absurd (nI_le (show q ≤ k by omega) (by omega)) c_37
            | succ d ih =>
              intro k z H locs ls hk hw hl
              obtain ⟨hkd, hop⟩ := hk
              obtain ⟨n_h, h10_h, hn_h⟩ := hI1 ((i + k) % 24) (by omega)
              refine lv_iload hx hb dX2_weigh_34 (lv_at hl 0 rfl) ?_
              refine lv_iload_n hx hb dX2_weigh_36 rfl (lv_at hl 4 rfl) ?_
              refine lv_icmp_ge (tgt := 75) hx hb dX2_weigh_37 (by decide) (fun c_37 => ?_) (fun c_37 => ?_)
              · skip
                exact absurd c_37 (nI_ge (show k < q by omega) (by omega))
              · skip
                refine lv_aload_n hx hb dX2_weigh_40 rfl (lv_at hl 2 rfl) ?_
                refine r_getM (v := .ref (gc G 0)) hx hb hts hin2 hown hw 0 (by decide) lk7 rfl dX2_weigh_41 ?_
                refine lv_iload_n hx hb dX2_weigh_44 rfl (lv_at hl 3 rfl) ?_
                refine lv_iload hx hb dX2_weigh_45 (lv_at hl 0 rfl) ?_
                refine lv_iadd hx hb dX2_weigh_47 ?_
                refine W.eq (g2 := F0 m 48 ls [.int (nI (i + k)), .ref (gc G 0)]) (by rw [nI_add]) ?_
                refine lv_bipush (v := 24) hx hb dX2_weigh_48 (by decide) ?_
                refine lv_irem hx hb dX2_weigh_50 (by decide) ?_
                refine W.eq (g2 := F0 m 51 ls [.int (nI ((i + k) % 24)), .ref (gc G 0)]) (by rw [ix24 (show i + k < 2 ^ 31 by omega)]) ?_
                refine r_mldZ hx hb hw 0 (by decide) (by decide) (((i + k) % 24)) (rfl) (show ((i + k) % 24) < 24 by omega) dX2_weigh_51 ?_
                refine lv_if_eq (tgt := 75) hx hb dX2_weigh_52 (by decide) (fun c_52 => ?_) (fun c_52 => ?_)
                · skip
                  exact fin k z _ _ _ ⟨by omega, hop.trans (by simp only [mf_cnt, ↓reduceIte, c_37, c_52])⟩ hw (lv_sub hl [0, 1, 2, 3, 4] rfl)
                · skip
                  refine lv_iload_n hx hb dX2_weigh_55 rfl (lv_at hl 1 rfl) ?_
                  refine lv_aload_n hx hb dX2_weigh_56 rfl (lv_at hl 2 rfl) ?_
                  refine lv_iload_n hx hb dX2_weigh_57 rfl (lv_at hl 3 rfl) ?_
                  refine lv_iload hx hb dX2_weigh_58 (lv_at hl 0 rfl) ?_
                  refine lv_iadd hx hb dX2_weigh_60 ?_
                  refine W.eq (g2 := F0 m 61 ls [.int (nI (i + k)), .ref (gm G), .int z]) (by rw [nI_add]) ?_
                  refine lv_bipush (v := 24) hx hb dX2_weigh_61 (by decide) ?_
                  refine lv_irem hx hb dX2_weigh_63 (by decide) ?_
                  refine W.eq (g2 := F0 m 64 ls [.int (nI ((i + k) % 24)), .ref (gm G), .int z]) (by rw [ix24 (show i + k < 2 ^ 31 by omega)]) ?_
                  refine k_i hw (va_runV (As := [.int (nI ((i + k) % 24))]) (rest := [.int z]) ⟨hx, hb, hml, hown, hts⟩ (c_X2_weight l G f wa S M1 (i := ((i + k) % 24)) (by omega) hn_h h10_h) (cwV 1 hts gX2_weigh_X2_weight rfl rfl rfl (by decide +kernel) ⟨Nat.le_of_ble_eq_true rfl, Nat.le_of_ble_eq_true rfl⟩) (hw.preM _) rfl rfl hl.1 rfl (lv_room (Nat.le_of_ble_eq_true rfl)) dX2_weigh_64 ⟨Nat.le_of_ble_eq_true rfl, Nat.le_of_ble_eq_true rfl⟩) (fun r u H locs hR hw => ?_)
                  obtain ⟨hq, rfl⟩ := hR
                  obtain rfl := hq.symm
                  refine lv_iadd hx hb dX2_weigh_67 ?_
                  refine lv_istore_n (lv' := [(3, .int (z + (wt M1 ((i + k) % 24)))), (4, .int (nI k)), (0, .ref (gm G)), (1, .int (nI i)), (2, .int (nI q))]) hx hb dX2_weigh_68 rfl hl (by decide) rfl (fun ls hl => ?_)
                  refine lv_iinc (v := nI (k + 1)) (lv' := [(4, .int (nI (k + 1))), (3, .int (z + (wt M1 ((i + k) % 24)))), (0, .ref (gm G)), (1, .int (nI i)), (2, .int (nI q))]) hx hb dX2_weigh_69 hl (k := 1) rfl (nI_1 _) (by decide) rfl (fun ls hl => ?_)
                  refine lv_goto (tgt := 34) hx hb dX2_weigh_72 (by decide) ?_
                  exact ih (k + 1) (z + (wt M1 ((i + k) % 24))) H locs ls ⟨by omega, hop.trans (by simp only [mf_cnt, ↓reduceIte, c_37, c_52])⟩ hw (lv_sub hl [0, 1, 2, 3, 4] rfl)
          exact loop q 0 0 _ _ _ ⟨by omega, rfl⟩ hw (lv_sub hl [0, 1, 2, 3, 4] rfl)
        · skip
          refine lv_iconst (v := (-1)) hx hb dX2_weigh_17 (by decide) ?_
          exact e_i hx hb hr hlocks hw dX2_weigh_18 (leafM (by simp only [om_weigh, ml, ml2, ↓reduceIte, isH_nI hi, cl24 hi, c_4, c_8, c_14]))

set_option maxHeartbeats 800000 in
set_option maxRecDepth 100000 in
theorem c_X2_drop (l : Launch) (G : GT) (f : Nat → Option Nat) (wa : Nat → Nat) (S M : Tb) (hI : Inv M) (p1 p2 p3 : Int32) : Met l yX2_drop wsX2_drop (rk 1) (va_Pc [.ref (gm G), .int p1, .int p2, .int p3] (Wo G (f, wa, S, M))) (Qi G (fun r u => r = (om_drop M p1 p2 p3).1 ∧ u = (f, wa, S, (om_drop M p1 p2 p3).2))) 0 0 (gA G) := by
  refine m_head (cc := cX2_drop) (maxL := 7) (ret := (some .int)) (by decide) rfl (Nat.le_of_ble_eq_true rfl) ?_
  intro p e s m below meth c hx hb hml hr hlocks hown hts hw ls hl
  have hown : s.vm.findClass RX2 = some m.cls := hown
  have hl : lv_has ls 7 [(0, .ref (gm G)), (1, .int p1), (2, .int p2), (3, .int p3)] := hl
  have hin2 : ∀ w ∈ wsX20, w ∈ wsX2_drop := by decide +kernel
  have lk7 := hts (.fieldLink RX2 7 "LockerWallModel" "there" "[Z") (by decide +kernel)
  have lk20 := hts (.fieldLink RX2 20 "LockerWallModel" "open" "[Z") (by decide +kernel)
  have lk26 := hts (.fieldLink RX2 26 "LockerWallModel" "many" "[I") (by decide +kernel)
  refine lv_iload_n hx hb dX2_drop_0 rfl (lv_at hl 1 rfl) ?_
  refine k_i hw (va_runS (As := [.int p1]) (rest := []) ⟨hx, hb, hml, hown, hts⟩ (c_X2_isHook l G f wa S M p1) (va_cwS 1 hts gX2_drop_X2_isHook rfl rfl rfl (by decide +kernel) ⟨Nat.le_of_ble_eq_true rfl, Nat.le_of_ble_eq_true rfl⟩) (hw.preS _) rfl rfl hl.1 rfl (lv_room (Nat.le_of_ble_eq_true rfl)) dX2_drop_1 ⟨Nat.le_of_ble_eq_true rfl, Nat.le_of_ble_eq_true rfl⟩) (fun r u H locs hR hw => ?_)
  obtain ⟨hq, rfl⟩ := hR
  obtain rfl := hq.symm
  cases hh_1 : isH p1
  · skip
    refine W.eq (g2 := F0 m 4 ls [.int 0]) rfl ?_
    refine lv_if_eq (tgt := 18) hx hb dX2_drop_4 (by decide) (fun c_4 => ?_) (fun c_4 => ?_)
    · skip
      refine lv_iconst (v := (-1)) hx hb dX2_drop_18 (by decide) ?_
      exact e_i hx hb hr hlocks hw dX2_drop_19 (leafM (by simp only [om_drop, mj_drop, ml, ml2, ↓reduceIte, hh_1, Bool.false_eq_true, c_4]))
    · skip
      exact absurd c_4 (by decide)
  · skip
    refine W.eq (g2 := F0 m 4 ls [.int 1]) rfl ?_
    obtain ⟨i, hi, rfl⟩ := isH_of hh_1
    refine lv_if_eq (tgt := 18) hx hb dX2_drop_4 (by decide) (fun c_4 => ?_) (fun c_4 => ?_)
    · skip
      exact absurd c_4 (by decide)
    · skip
      refine lv_iload_n hx hb dX2_drop_7 rfl (lv_at hl 2 rfl) ?_
      refine lv_iconst (v := 1) hx hb dX2_drop_8 (by decide) ?_
      refine lv_icmp_lt (tgt := 18) hx hb dX2_drop_9 (by decide) (fun c_9 => ?_) (fun c_9 => ?_)
      · skip
        refine lv_iconst (v := (-1)) hx hb dX2_drop_18 (by decide) ?_
        exact e_i hx hb hr hlocks hw dX2_drop_19 (leafM (by simp only [om_drop, mj_drop, ml, ml2, ↓reduceIte, isH_nI hi, cl24 hi, c_4, c_9]))
      · skip
        refine lv_iload_n hx hb dX2_drop_12 rfl (lv_at hl 2 rfl) ?_
        refine lv_bipush (v := 10) hx hb dX2_drop_13 (by decide) ?_
        refine lv_icmp_le (tgt := 20) hx hb dX2_drop_15 (by decide) (fun c_15 => ?_) (fun c_15 => ?_)
        · skip
          obtain ⟨q, hq10, rfl⟩ := nI_of2 (M := 10) (n := 10) rfl (n1_0 c_9) c_15
          have clq : (nI q).toNatClampNeg = q := nI_clamp (by omega)
          refine lv_aload_n hx hb dX2_drop_20 rfl (lv_at hl 0 rfl) ?_
          refine r_getM (v := .ref (gc G 0)) hx hb hts hin2 hown hw 0 (by decide) lk7 rfl dX2_drop_21 ?_
          refine lv_iload_n hx hb dX2_drop_24 rfl (lv_at hl 1 rfl) ?_
          refine r_mldZ hx hb hw 0 (by decide) (by decide) (i) (rfl) (show i < 24 by omega) dX2_drop_25 ?_
          refine lv_if_ne (tgt := 32) hx hb dX2_drop_26 (by decide) (fun c_26 => ?_) (fun c_26 => ?_)
          · skip
            refine lv_aload_n hx hb dX2_drop_32 rfl (lv_at hl 0 rfl) ?_
            refine r_getM (v := .ref (gc G 3)) hx hb hts hin2 hown hw 3 (by decide) lk20 rfl dX2_drop_33 ?_
            refine lv_iload_n hx hb dX2_drop_36 rfl (lv_at hl 1 rfl) ?_
            refine r_mldZ hx hb hw 3 (by decide) (by decide) (i) (rfl) (show i < 24 by omega) dX2_drop_37 ?_
            refine lv_if_ne (tgt := 50) hx hb dX2_drop_38 (by decide) (fun c_38 => ?_) (fun c_38 => ?_)
            · skip
              refine lv_iconst (v := 0) hx hb dX2_drop_50 (by decide) ?_
              refine lv_istore (lv' := [(4, .int 0), (0, .ref (gm G)), (1, .int (nI i)), (2, .int (nI q)), (3, .int p3)]) hx hb dX2_drop_51 hl (by decide) rfl (fun ls hl => ?_)
              refine lv_iconst (v := 0) hx hb dX2_drop_53 (by decide) ?_
              refine lv_istore (lv' := [(5, .int 0), (4, .int 0), (0, .ref (gm G)), (1, .int (nI i)), (2, .int (nI q)), (3, .int p3)]) hx hb dX2_drop_54 hl (by decide) rfl (fun ls hl => ?_)
              refine lv_iconst (v := 0) hx hb dX2_drop_56 (by decide) ?_
              refine lv_istore (lv' := [(6, .int 0), (5, .int 0), (4, .int 0), (0, .ref (gm G)), (1, .int (nI i)), (2, .int (nI q)), (3, .int p3)]) hx hb dX2_drop_57 hl (by decide) rfl (fun ls hl => ?_)
              have hoc : ∀ (g' : Int32) (T' : Tb), of_drop i p3 q 0 M = (g', T') → om_drop M (nI i) (nI q) p3 = (g', ml T' i 1) := by
                intro g' T' hz
                simp only [om_drop, mj_drop, ↓reduceIte, isH_nI hi, cl24 hi, c_4, c_9, c_15, clq, c_26, c_38]
                simp only [hz]
              have fin : ∀ (v g : Int32) (T : Tb) (H : Heap) (locs : List Loc) (ls : Array Slot), of_drop i p3 q 0 M = (g, T) → Wi G (f, wa, S, T) s H locs → lv_has ls 7 [(4, .int v), (5, .int g), (6, .int 1), (0, .ref (gm G)), (1, .int (nI i)), (2, .int (nI q)), (3, .int p3)] → W p l e (headSpec wsX2_drop (rk 1)).room s m [.ref (gm G), .int (nI i), .int (nI q), .int p3].toArray below meth c H locs 0 0 (MQ below (Qi G (fun r u => r = (om_drop M (nI i) (nI q) p3).1 ∧ u = (f, wa, S, (om_drop M (nI i) (nI q) p3).2))) [.ref (gm G), .int (nI i), .int (nI q), .int p3].toArray s 0 0 (gA G)) (F0 m 59 ls []) := by
                intro v g T H locs ls hop hw hl
                refine lv_iload hx hb dX2_drop_59 (lv_at hl 0 rfl) ?_
                refine lv_iload_n hx hb dX2_drop_61 rfl (lv_at hl 5 rfl) ?_
                refine lv_icmp_ge (tgt := 108) hx hb dX2_drop_62 (by decide) (fun c_62 => ?_) (fun c_62 => ?_)
                · skip
                  refine lv_aload_n hx hb dX2_drop_108 rfl (lv_at hl 3 rfl) ?_
                  refine lv_iload_n hx hb dX2_drop_109 rfl (lv_at hl 4 rfl) ?_
                  refine lv_iconst (v := 1) hx hb dX2_drop_110 (by decide) ?_
                  refine lv_iload hx hb dX2_drop_111 (lv_at hl 1 rfl) ?_
                  refine k_i hw (va_runV (As := [.int (nI i), .int 1, .int g]) (rest := []) ⟨hx, hb, hml, hown, hts⟩ (c_X2_let l G f wa S T (j := i) (by omega) 1 g) (cwV 3 hts gX2_drop_X2_let rfl rfl rfl (by decide +kernel) ⟨Nat.le_of_ble_eq_true rfl, Nat.le_of_ble_eq_true rfl⟩) (hw.preM _) rfl rfl hl.1 rfl (lv_room (Nat.le_of_ble_eq_true rfl)) dX2_drop_113 ⟨Nat.le_of_ble_eq_true rfl, Nat.le_of_ble_eq_true rfl⟩) (fun r u H locs hR hw => ?_)
                  obtain ⟨hq, rfl⟩ := hR
                  obtain rfl := hq.symm
                  exact e_i hx hb hr hlocks hw dX2_drop_116 (leafM (hoc _ _ hop))
                · skip
                  refine lv_aload_n hx hb dX2_drop_65 rfl (lv_at hl 3 rfl) ?_
                  refine r_getM (v := .ref (gc G 5)) hx hb hts hin2 hown hw 5 (by decide) lk26 rfl dX2_drop_66 ?_
                  refine lv_iload_n hx hb dX2_drop_69 rfl (lv_at hl 4 rfl) ?_
                  refine r_mld hx hb hw 5 (by decide) (by decide) (i) (rfl) (show i < 24 by omega) dX2_drop_70 ?_
                  refine lv_if_le (tgt := 108) hx hb dX2_drop_71 (by decide) (fun c_71 => ?_) (fun c_71 => ?_)
                  · skip
                    refine lv_aload_n hx hb dX2_drop_108 rfl (lv_at hl 3 rfl) ?_
                    refine lv_iload_n hx hb dX2_drop_109 rfl (lv_at hl 4 rfl) ?_
                    refine lv_iconst (v := 1) hx hb dX2_drop_110 (by decide) ?_
                    refine lv_iload hx hb dX2_drop_111 (lv_at hl 1 rfl) ?_
                    refine k_i hw (va_runV (As := [.int (nI i), .int 1, .int g]) (rest := []) ⟨hx, hb, hml, hown, hts⟩ (c_X2_let l G f wa S T (j := i) (by omega) 1 g) (cwV 3 hts gX2_drop_X2_let rfl rfl rfl (by decide +kernel) ⟨Nat.le_of_ble_eq_true rfl, Nat.le_of_ble_eq_true rfl⟩) (hw.preM _) rfl rfl hl.1 rfl (lv_room (Nat.le_of_ble_eq_true rfl)) dX2_drop_113 ⟨Nat.le_of_ble_eq_true rfl, Nat.le_of_ble_eq_true rfl⟩) (fun r u H locs hR hw => ?_)
                    obtain ⟨hq, rfl⟩ := hR
                    obtain rfl := hq.symm
                    exact e_i hx hb hr hlocks hw dX2_drop_116 (leafM (hoc _ _ hop))
                  · skip
                    refine lv_iload hx hb dX2_drop_74 (lv_at hl 2 rfl) ?_
                    refine lv_if_ne (tgt := 108) hx hb dX2_drop_76 (by decide) (fun c_76 => ?_) (fun c_76 => ?_)
                    · skip
                      refine lv_aload_n hx hb dX2_drop_108 rfl (lv_at hl 3 rfl) ?_
                      refine lv_iload_n hx hb dX2_drop_109 rfl (lv_at hl 4 rfl) ?_
                      refine lv_iconst (v := 1) hx hb dX2_drop_110 (by decide) ?_
                      refine lv_iload hx hb dX2_drop_111 (lv_at hl 1 rfl) ?_
                      refine k_i hw (va_runV (As := [.int (nI i), .int 1, .int g]) (rest := []) ⟨hx, hb, hml, hown, hts⟩ (c_X2_let l G f wa S T (j := i) (by omega) 1 g) (cwV 3 hts gX2_drop_X2_let rfl rfl rfl (by decide +kernel) ⟨Nat.le_of_ble_eq_true rfl, Nat.le_of_ble_eq_true rfl⟩) (hw.preM _) rfl rfl hl.1 rfl (lv_room (Nat.le_of_ble_eq_true rfl)) dX2_drop_113 ⟨Nat.le_of_ble_eq_true rfl, Nat.le_of_ble_eq_true rfl⟩) (fun r u H locs hR hw => ?_)
                      obtain ⟨hq, rfl⟩ := hR
                      obtain rfl := hq.symm
                      exact e_i hx hb hr hlocks hw dX2_drop_116 (leafM (hoc _ _ hop))
                    · skip
                      exact absurd c_76 (by decide)
              have loop : ∀ (d k : Nat) (g : Int32) (T : Tb) (H : Heap) (locs : List Loc) (ls : Array Slot), (k + d = q ∧ Inv T ∧ of_drop i p3 q 0 M = of_drop i p3 d g T) → Wi G (f, wa, S, T) s H locs → lv_has ls 7 [(4, .int (nI k)), (5, .int g), (6, .int 0), (0, .ref (gm G)), (1, .int (nI i)), (2, .int (nI q)), (3, .int p3)] → W p l e (headSpec wsX2_drop (rk 1)).room s m [.ref (gm G), .int (nI i), .int (nI q), .int p3].toArray below meth c H locs 0 0 (MQ below (Qi G (fun r u => r = (om_drop M (nI i) (nI q) p3).1 ∧ u = (f, wa, S, (om_drop M (nI i) (nI q) p3).2))) [.ref (gm G), .int (nI i), .int (nI q), .int p3].toArray s 0 0 (gA G)) (F0 m 59 ls []) := by
                intro d
                induction d with
                | zero =>
                  intro k g T H locs ls hk hw hl
                  obtain ⟨hdq, hIT, hop⟩ := hk
                  refine lv_iload hx hb dX2_drop_59 (lv_at hl 0 rfl) ?_
                  refine lv_iload_n hx hb dX2_drop_61 rfl (lv_at hl 5 rfl) ?_
                  refine lv_icmp_ge (tgt := 108) hx hb dX2_drop_62 (by decide) (fun c_62 => ?_) (fun c_62 => ?_)
                  · skip
                    refine lv_aload_n hx hb dX2_drop_108 rfl (lv_at hl 3 rfl) ?_
                    refine lv_iload_n hx hb dX2_drop_109 rfl (lv_at hl 4 rfl) ?_
                    refine lv_iconst (v := 1) hx hb dX2_drop_110 (by decide) ?_
                    refine lv_iload hx hb dX2_drop_111 (lv_at hl 1 rfl) ?_
                    refine k_i hw (va_runV (As := [.int (nI i), .int 1, .int g]) (rest := []) ⟨hx, hb, hml, hown, hts⟩ (c_X2_let l G f wa S T (j := i) (by omega) 1 g) (cwV 3 hts gX2_drop_X2_let rfl rfl rfl (by decide +kernel) ⟨Nat.le_of_ble_eq_true rfl, Nat.le_of_ble_eq_true rfl⟩) (hw.preM _) rfl rfl hl.1 rfl (lv_room (Nat.le_of_ble_eq_true rfl)) dX2_drop_113 ⟨Nat.le_of_ble_eq_true rfl, Nat.le_of_ble_eq_true rfl⟩) (fun r u H locs hR hw => ?_)
                    obtain ⟨hq, rfl⟩ := hR
                    obtain rfl := hq.symm
                    exact e_i hx hb hr hlocks hw dX2_drop_116 (leafM (hoc _ _ (hop.trans (by simp only [of_drop, ↓reduceIte]))))
                  · skip
                    exact absurd (nI_le (show q ≤ k by omega) (by omega)) c_62
                | succ d ih =>
                  intro k g T H locs ls hk hw hl
                  obtain ⟨hdq, hIT, hop⟩ := hk
                  obtain ⟨n_h, h10_h, hn_h⟩ := hIT i hi
                  refine lv_iload hx hb dX2_drop_59 (lv_at hl 0 rfl) ?_
                  refine lv_iload_n hx hb dX2_drop_61 rfl (lv_at hl 5 rfl) ?_
                  refine lv_icmp_ge (tgt := 108) hx hb dX2_drop_62 (by decide) (fun c_62 => ?_) (fun c_62 => ?_)
                  · skip
                    exact absurd c_62 (nI_ge (show k < q by omega) (by omega))
                  · skip
                    refine lv_aload_n hx hb dX2_drop_65 rfl (lv_at hl 3 rfl) ?_
                    refine r_getM (v := .ref (gc G 5)) hx hb hts hin2 hown hw 5 (by decide) lk26 rfl dX2_drop_66 ?_
                    refine lv_iload_n hx hb dX2_drop_69 rfl (lv_at hl 4 rfl) ?_
                    refine r_mld hx hb hw 5 (by decide) (by decide) (i) (rfl) (show i < 24 by omega) dX2_drop_70 ?_
                    refine lv_if_le (tgt := 108) hx hb dX2_drop_71 (by decide) (fun c_71 => ?_) (fun c_71 => ?_)
                    · skip
                      refine lv_aload_n hx hb dX2_drop_108 rfl (lv_at hl 3 rfl) ?_
                      refine lv_iload_n hx hb dX2_drop_109 rfl (lv_at hl 4 rfl) ?_
                      refine lv_iconst (v := 1) hx hb dX2_drop_110 (by decide) ?_
                      refine lv_iload hx hb dX2_drop_111 (lv_at hl 1 rfl) ?_
                      refine k_i hw (va_runV (As := [.int (nI i), .int 1, .int g]) (rest := []) ⟨hx, hb, hml, hown, hts⟩ (c_X2_let l G f wa S T (j := i) (by omega) 1 g) (cwV 3 hts gX2_drop_X2_let rfl rfl rfl (by decide +kernel) ⟨Nat.le_of_ble_eq_true rfl, Nat.le_of_ble_eq_true rfl⟩) (hw.preM _) rfl rfl hl.1 rfl (lv_room (Nat.le_of_ble_eq_true rfl)) dX2_drop_113 ⟨Nat.le_of_ble_eq_true rfl, Nat.le_of_ble_eq_true rfl⟩) (fun r u H locs hR hw => ?_)
                      obtain ⟨hq, rfl⟩ := hR
                      obtain rfl := hq.symm
                      exact e_i hx hb hr hlocks hw dX2_drop_116 (leafM (hoc _ _ (hop.trans (by simp only [of_drop, ↓reduceIte, c_71]))))
                    · skip
                      refine lv_iload hx hb dX2_drop_74 (lv_at hl 2 rfl) ?_
                      refine lv_if_ne (tgt := 108) hx hb dX2_drop_76 (by decide) (fun c_76 => ?_) (fun c_76 => ?_)
                      · skip
                        exact absurd c_76 (by decide)
                      · skip
                        obtain ⟨q_h, hq_h, hs_h⟩ := n_succ hn_h h10_h (fun z => c_71 (by rw [z]; decide))
                        refine lv_iload hx hb dX2_drop_79 (lv_at hl 1 rfl) ?_
                        refine lv_aload_n hx hb dX2_drop_81 rfl (lv_at hl 3 rfl) ?_
                        refine lv_iload_n hx hb dX2_drop_82 rfl (lv_at hl 4 rfl) ?_
                        refine k_i hw (va_runV (As := [.int (nI i)]) (rest := [.int g]) ⟨hx, hb, hml, hown, hts⟩ (c_X2_takeLast l G f wa S T (i := i) (by omega) hs_h hq_h) (cwV 1 hts gX2_drop_X2_takeLast rfl rfl rfl (by decide +kernel) ⟨Nat.le_of_ble_eq_true rfl, Nat.le_of_ble_eq_true rfl⟩) (hw.preM _) rfl rfl hl.1 rfl (lv_room (Nat.le_of_ble_eq_true rfl)) dX2_drop_83 ⟨Nat.le_of_ble_eq_true rfl, Nat.le_of_ble_eq_true rfl⟩) (fun r u H locs hR hw => ?_)
                        obtain ⟨hq, rfl⟩ := hR
                        obtain rfl := hq.symm
                        refine lv_iadd hx hb dX2_drop_86 ?_
                        refine lv_istore (lv' := [(5, .int (g + (rmV T i))), (4, .int (nI k)), (6, .int 0), (0, .ref (gm G)), (1, .int (nI i)), (2, .int (nI q)), (3, .int p3)]) hx hb dX2_drop_87 hl (by decide) rfl (fun ls hl => ?_)
                        refine lv_iinc (v := nI (k + 1)) (lv' := [(4, .int (nI (k + 1))), (5, .int (g + (rmV T i))), (6, .int 0), (0, .ref (gm G)), (1, .int (nI i)), (2, .int (nI q)), (3, .int p3)]) hx hb dX2_drop_89 hl (k := 1) rfl (nI_1 _) (by decide) rfl (fun ls hl => ?_)
                        refine lv_iload hx hb dX2_drop_92 (lv_at hl 1 rfl) ?_
                        refine lv_iload_n hx hb dX2_drop_94 rfl (lv_at hl 6 rfl) ?_
                        refine lv_icmp_lt (tgt := 102) hx hb dX2_drop_95 (by decide) (fun c_95 => ?_) (fun c_95 => ?_)
                        · skip
                          refine lv_iconst (v := 0) hx hb dX2_drop_102 (by decide) ?_
                          refine lv_istore (lv' := [(6, .int 0), (4, .int (nI (k + 1))), (5, .int (g + (rmV T i))), (0, .ref (gm G)), (1, .int (nI i)), (2, .int (nI q)), (3, .int p3)]) hx hb dX2_drop_103 hl (by decide) rfl (fun ls hl => ?_)
                          refine lv_goto (tgt := 59) hx hb dX2_drop_105 (by decide) ?_
                          exact ih (k + 1) (g + (rmV T i)) (rmS T i) H locs ls ⟨by omega, hIT.rm hs_h hq_h, hop.trans (by simp only [of_drop, ↓reduceIte, c_62, c_71, c_76, c_95])⟩ hw (lv_sub hl [1, 2, 0, 3, 4, 5, 6] rfl)
                        · skip
                          refine lv_iconst (v := 1) hx hb dX2_drop_98 (by decide) ?_
                          refine lv_goto (tgt := 103) hx hb dX2_drop_99 (by decide) ?_
                          refine lv_istore (lv' := [(6, .int 1), (4, .int (nI (k + 1))), (5, .int (g + (rmV T i))), (0, .ref (gm G)), (1, .int (nI i)), (2, .int (nI q)), (3, .int p3)]) hx hb dX2_drop_103 hl (by decide) rfl (fun ls hl => ?_)
                          refine lv_goto (tgt := 59) hx hb dX2_drop_105 (by decide) ?_
                          exact fin _ (g + (rmV T i)) (rmS T i) H locs ls (hop.trans (by simp only [of_drop, ↓reduceIte, c_62, c_71, c_76, c_95])) hw (lv_sub hl [1, 2, 0, 3, 4, 5, 6] rfl)
              exact loop q 0 0 M _ _ _ ⟨by omega, hI, rfl⟩ hw (lv_sub hl [2, 1, 0, 3, 4, 5, 6] rfl)
            · skip
              refine lv_aload_n hx hb dX2_drop_41 rfl (lv_at hl 0 rfl) ?_
              refine lv_iload_n hx hb dX2_drop_42 rfl (lv_at hl 1 rfl) ?_
              refine lv_iconst (v := 2) hx hb dX2_drop_43 (by decide) ?_
              refine lv_bipush (v := (-3)) hx hb dX2_drop_44 (by decide) ?_
              refine k_i hw (va_runV (As := [.int (nI i), .int 2, .int (-3)]) (rest := []) ⟨hx, hb, hml, hown, hts⟩ (c_X2_let l G f wa S M (j := i) (by omega) 2 (-3)) (cwV 3 hts gX2_drop_X2_let rfl rfl rfl (by decide +kernel) ⟨Nat.le_of_ble_eq_true rfl, Nat.le_of_ble_eq_true rfl⟩) (hw.preM _) rfl rfl hl.1 rfl (lv_room (Nat.le_of_ble_eq_true rfl)) dX2_drop_46 ⟨Nat.le_of_ble_eq_true rfl, Nat.le_of_ble_eq_true rfl⟩) (fun r u H locs hR hw => ?_)
              obtain ⟨hq, rfl⟩ := hR
              obtain rfl := hq.symm
              exact e_i hx hb hr hlocks hw dX2_drop_49 (leafM (by simp only [om_drop, mj_drop, ml, ml2, ↓reduceIte, isH_nI hi, cl24 hi, c_4, c_9, c_15, clq, c_26, c_38]))
          · skip
            refine lv_bipush (v := (-2)) hx hb dX2_drop_29 (by decide) ?_
            exact e_i hx hb hr hlocks hw dX2_drop_31 (leafM (by simp only [om_drop, mj_drop, ml, ml2, ↓reduceIte, isH_nI hi, cl24 hi, c_4, c_9, c_15, clq, c_26]))
        · skip
          refine lv_iconst (v := (-1)) hx hb dX2_drop_18 (by decide) ?_
          exact e_i hx hb hr hlocks hw dX2_drop_19 (leafM (by simp only [om_drop, mj_drop, ml, ml2, ↓reduceIte, isH_nI hi, cl24 hi, c_4, c_9, c_15]))

set_option maxHeartbeats 800000 in
set_option maxRecDepth 100000 in
theorem c_X2_told (l : Launch) (G : GT) (f : Nat → Option Nat) (wa : Nat → Nat) (S M : Tb) (hI : Inv M) (p1 p2 : Int32) : Met l yX2_told wsX2_told (rk 1) (va_Pc [.ref (gm G), .int p1, .int p2] (Wo G (f, wa, S, M))) (Qi G (fun r u => r = (om_told M p1 p2).1 ∧ u = (f, wa, S, (om_told M p1 p2).2))) 0 0 (gA G) := by
  refine m_head (cc := cX2_told) (maxL := 3) (ret := (some .int)) (by decide) rfl (Nat.le_of_ble_eq_true rfl) ?_
  intro p e s m below meth c hx hb hml hr hlocks hown hts hw ls hl
  have hown : s.vm.findClass RX2 = some m.cls := hown
  have hl : lv_has ls 3 [(0, .ref (gm G)), (1, .int p1), (2, .int p2)] := hl
  have hin2 : ∀ w ∈ wsX20, w ∈ wsX2_told := by decide +kernel
  have lk7 := hts (.fieldLink RX2 7 "LockerWallModel" "there" "[Z") (by decide +kernel)
  have lk13 := hts (.fieldLink RX2 13 "LockerWallModel" "room" "[I") (by decide +kernel)
  have lk17 := hts (.fieldLink RX2 17 "LockerWallModel" "code" "[I") (by decide +kernel)
  have lk20 := hts (.fieldLink RX2 20 "LockerWallModel" "open" "[Z") (by decide +kernel)
  have lk23 := hts (.fieldLink RX2 23 "LockerWallModel" "tries" "[I") (by decide +kernel)
  have lk26 := hts (.fieldLink RX2 26 "LockerWallModel" "many" "[I") (by decide +kernel)
  have lk29 := hts (.fieldLink RX2 29 "LockerWallModel" "holds" "[I") (by decide +kernel)
  have lk32 := hts (.fieldLink RX2 32 "LockerWallModel" "left" "[I") (by decide +kernel)
  refine lv_iload_n hx hb dX2_told_0 rfl (lv_at hl 1 rfl) ?_
  refine k_i hw (va_runS (As := [.int p1]) (rest := []) ⟨hx, hb, hml, hown, hts⟩ (c_X2_isHook l G f wa S M p1) (va_cwS 1 hts gX2_told_X2_isHook rfl rfl rfl (by decide +kernel) ⟨Nat.le_of_ble_eq_true rfl, Nat.le_of_ble_eq_true rfl⟩) (hw.preS _) rfl rfl hl.1 rfl (lv_room (Nat.le_of_ble_eq_true rfl)) dX2_told_1 ⟨Nat.le_of_ble_eq_true rfl, Nat.le_of_ble_eq_true rfl⟩) (fun r u H locs hR hw => ?_)
  obtain ⟨hq, rfl⟩ := hR
  obtain rfl := hq.symm
  cases hh_1 : isH p1
  · skip
    refine W.eq (g2 := F0 m 4 ls [.int 0]) rfl ?_
    refine lv_if_eq (tgt := 17) hx hb dX2_told_4 (by decide) (fun c_4 => ?_) (fun c_4 => ?_)
    · skip
      refine lv_iconst (v := (-1)) hx hb dX2_told_17 (by decide) ?_
      exact e_i hx hb hr hlocks hw dX2_told_18 (leafM (by simp only [om_told, factS, ↓reduceIte, hh_1, Bool.false_eq_true, c_4]))
    · skip
      exact absurd c_4 (by decide)
  · skip
    refine W.eq (g2 := F0 m 4 ls [.int 1]) rfl ?_
    obtain ⟨i, hi, rfl⟩ := isH_of hh_1
    obtain ⟨n_i, h10_i, hn_i⟩ := hI i hi
    refine lv_if_eq (tgt := 17) hx hb dX2_told_4 (by decide) (fun c_4 => ?_) (fun c_4 => ?_)
    · skip
      exact absurd c_4 (by decide)
    · skip
      refine lv_iload_n hx hb dX2_told_7 rfl (lv_at hl 2 rfl) ?_
      refine lv_if_lt (tgt := 17) hx hb dX2_told_8 (by decide) (fun c_8 => ?_) (fun c_8 => ?_)
      · skip
        refine lv_iconst (v := (-1)) hx hb dX2_told_17 (by decide) ?_
        exact e_i hx hb hr hlocks hw dX2_told_18 (leafM (by simp only [om_told, factS, ↓reduceIte, isH_nI hi, cl24 hi, c_4, c_8]))
      · skip
        refine lv_iload_n hx hb dX2_told_11 rfl (lv_at hl 2 rfl) ?_
        refine lv_bipush (v := 8) hx hb dX2_told_12 (by decide) ?_
        refine lv_icmp_le (tgt := 19) hx hb dX2_told_14 (by decide) (fun c_14 => ?_) (fun c_14 => ?_)
        · skip
          refine lv_iload_n hx hb dX2_told_19 rfl (lv_at hl 2 rfl) ?_
          refine lv_if_ne (tgt := 38) hx hb dX2_told_20 (by decide) (fun c_20 => ?_) (fun c_20 => ?_)
          · skip
            refine lv_aload_n hx hb dX2_told_38 rfl (lv_at hl 0 rfl) ?_
            refine r_getM (v := .ref (gc G 0)) hx hb hts hin2 hown hw 0 (by decide) lk7 rfl dX2_told_39 ?_
            refine lv_iload_n hx hb dX2_told_42 rfl (lv_at hl 1 rfl) ?_
            refine r_mldZ hx hb hw 0 (by decide) (by decide) (i) (rfl) (show i < 24 by omega) dX2_told_43 ?_
            refine lv_if_ne (tgt := 50) hx hb dX2_told_44 (by decide) (fun c_44 => ?_) (fun c_44 => ?_)
            · skip
              refine lv_iload_n hx hb dX2_told_50 rfl (lv_at hl 2 rfl) ?_
              obtain ⟨q, hq8, rfl⟩ := nI_of2 (M := 8) (n := 8) rfl c_8 c_14
              have hq0 : q ≠ 0 := fun z => c_20 (by rw [z]; exact nI_0)
              rcases (show q = 1 ∨ q = 2 ∨ q = 3 ∨ q = 4 ∨ q = 5 ∨ q = 6 ∨ q = 7 ∨ q = 8 by omega) with rfl | rfl | rfl | rfl | rfl | rfl | rfl | rfl
              · skip
                have clq : (nI 1).toNatClampNeg = 1 := nI_clamp (by decide)
                refine lv_tableIn (tgt := 92) (off := 41) hx hb dX2_told_51 (by decide) (by decide) rfl (by decide) ?_
                refine lv_aload_n hx hb dX2_told_92 rfl (lv_at hl 0 rfl) ?_
                refine r_getM (v := .ref (gc G 1)) hx hb hts hin2 hown hw 1 (by decide) lk13 rfl dX2_told_93 ?_
                refine lv_iload_n hx hb dX2_told_96 rfl (lv_at hl 1 rfl) ?_
                refine r_mld hx hb hw 1 (by decide) (by decide) (i) (rfl) (show i < 24 by omega) dX2_told_97 ?_
                exact e_i hx hb hr hlocks hw dX2_told_98 (leafM (by simp only [om_told, factS, ↓reduceIte, isH_nI hi, cl24 hi, c_4, c_8, c_14, c_20, c_44, clq]))
              · skip
                have clq : (nI 2).toNatClampNeg = 2 := nI_clamp (by decide)
                refine lv_tableIn (tgt := 99) (off := 48) hx hb dX2_told_51 (by decide) (by decide) rfl (by decide) ?_
                refine lv_aload_n hx hb dX2_told_99 rfl (lv_at hl 0 rfl) ?_
                refine r_getM (v := .ref (gc G 2)) hx hb hts hin2 hown hw 2 (by decide) lk17 rfl dX2_told_100 ?_
                refine lv_iload_n hx hb dX2_told_103 rfl (lv_at hl 1 rfl) ?_
                refine r_mld hx hb hw 2 (by decide) (by decide) (i) (rfl) (show i < 24 by omega) dX2_told_104 ?_
                exact e_i hx hb hr hlocks hw dX2_told_105 (leafM (by simp only [om_told, factS, ↓reduceIte, isH_nI hi, cl24 hi, c_4, c_8, c_14, c_20, c_44, clq]))
              · skip
                have clq : (nI 3).toNatClampNeg = 3 := nI_clamp (by decide)
                refine lv_tableIn (tgt := 106) (off := 55) hx hb dX2_told_51 (by decide) (by decide) rfl (by decide) ?_
                refine lv_aload_n hx hb dX2_told_106 rfl (lv_at hl 0 rfl) ?_
                refine r_getM (v := .ref (gc G 3)) hx hb hts hin2 hown hw 3 (by decide) lk20 rfl dX2_told_107 ?_
                refine lv_iload_n hx hb dX2_told_110 rfl (lv_at hl 1 rfl) ?_
                refine r_mldZ hx hb hw 3 (by decide) (by decide) (i) (rfl) (show i < 24 by omega) dX2_told_111 ?_
                refine lv_if_eq (tgt := 119) hx hb dX2_told_112 (by decide) (fun c_112 => ?_) (fun c_112 => ?_)
                · skip
                  refine lv_iconst (v := 0) hx hb dX2_told_119 (by decide) ?_
                  exact e_i hx hb hr hlocks hw dX2_told_120 (leafM (by simp only [om_told, factS, ↓reduceIte, isH_nI hi, cl24 hi, c_4, c_8, c_14, c_20, c_44, clq, c_112]))
                · skip
                  refine lv_iconst (v := 1) hx hb dX2_told_115 (by decide) ?_
                  refine lv_goto (tgt := 120) hx hb dX2_told_116 (by decide) ?_
                  exact e_i hx hb hr hlocks hw dX2_told_120 (leafM (by simp only [om_told, factS, ↓reduceIte, isH_nI hi, cl24 hi, c_4, c_8, c_14, c_20, c_44, clq, c_112]))
              · skip
                have clq : (nI 4).toNatClampNeg = 4 := nI_clamp (by decide)
                refine lv_tableIn (tgt := 121) (off := 70) hx hb dX2_told_51 (by decide) (by decide) rfl (by decide) ?_
                refine lv_aload_n hx hb dX2_told_121 rfl (lv_at hl 0 rfl) ?_
                refine r_getM (v := .ref (gc G 4)) hx hb hts hin2 hown hw 4 (by decide) lk23 rfl dX2_told_122 ?_
                refine lv_iload_n hx hb dX2_told_125 rfl (lv_at hl 1 rfl) ?_
                refine r_mld hx hb hw 4 (by decide) (by decide) (i) (rfl) (show i < 24 by omega) dX2_told_126 ?_
                exact e_i hx hb hr hlocks hw dX2_told_127 (leafM (by simp only [om_told, factS, ↓reduceIte, isH_nI hi, cl24 hi, c_4, c_8, c_14, c_20, c_44, clq]))
              · skip
                have clq : (nI 5).toNatClampNeg = 5 := nI_clamp (by decide)
                refine lv_tableIn (tgt := 128) (off := 77) hx hb dX2_told_51 (by decide) (by decide) rfl (by decide) ?_
                refine lv_aload_n hx hb dX2_told_128 rfl (lv_at hl 0 rfl) ?_
                refine r_getM (v := .ref (gc G 5)) hx hb hts hin2 hown hw 5 (by decide) lk26 rfl dX2_told_129 ?_
                refine lv_iload_n hx hb dX2_told_132 rfl (lv_at hl 1 rfl) ?_
                refine r_mld hx hb hw 5 (by decide) (by decide) (i) (rfl) (show i < 24 by omega) dX2_told_133 ?_
                exact e_i hx hb hr hlocks hw dX2_told_134 (leafM (by simp only [om_told, factS, ↓reduceIte, isH_nI hi, cl24 hi, c_4, c_8, c_14, c_20, c_44, clq]))
              · skip
                have clq : (nI 6).toNatClampNeg = 6 := nI_clamp (by decide)
                refine lv_tableIn (tgt := 135) (off := 84) hx hb dX2_told_51 (by decide) (by decide) rfl (by decide) ?_
                refine lv_aload_n hx hb dX2_told_135 rfl (lv_at hl 0 rfl) ?_
                refine lv_iload_n hx hb dX2_told_136 rfl (lv_at hl 1 rfl) ?_
                refine k_i hw (va_runV (As := [.int (nI i)]) (rest := []) ⟨hx, hb, hml, hown, hts⟩ (c_X2_weight l G f wa S M (i := i) (by omega) hn_i h10_i) (cwV 1 hts gX2_told_X2_weight rfl rfl rfl (by decide +kernel) ⟨Nat.le_of_ble_eq_true rfl, Nat.le_of_ble_eq_true rfl⟩) (hw.preM _) rfl rfl hl.1 rfl (lv_room (Nat.le_of_ble_eq_true rfl)) dX2_told_137 ⟨Nat.le_of_ble_eq_true rfl, Nat.le_of_ble_eq_true rfl⟩) (fun r u H locs hR hw => ?_)
                obtain ⟨hq, rfl⟩ := hR
                obtain rfl := hq.symm
                exact e_i hx hb hr hlocks hw dX2_told_140 (leafM (by simp only [om_told, factS, ↓reduceIte, isH_nI hi, cl24 hi, c_4, c_8, c_14, c_20, c_44, clq]))
              · skip
                have clq : (nI 7).toNatClampNeg = 7 := nI_clamp (by decide)
                refine lv_tableIn (tgt := 141) (off := 90) hx hb dX2_told_51 (by decide) (by decide) rfl (by decide) ?_
                refine lv_aload_n hx hb dX2_told_141 rfl (lv_at hl 0 rfl) ?_
                refine r_getM (v := .ref (gc G 6)) hx hb hts hin2 hown hw 6 (by decide) lk29 rfl dX2_told_142 ?_
                refine lv_iload_n hx hb dX2_told_145 rfl (lv_at hl 1 rfl) ?_
                refine r_mld hx hb hw 6 (by decide) (by decide) (i) (rfl) (show i < 24 by omega) dX2_told_146 ?_
                exact e_i hx hb hr hlocks hw dX2_told_147 (leafM (by simp only [om_told, factS, ↓reduceIte, isH_nI hi, cl24 hi, c_4, c_8, c_14, c_20, c_44, clq]))
              · skip
                have clq : (nI 8).toNatClampNeg = 8 := nI_clamp (by decide)
                refine lv_tableOut (tgt := 148) hx hb dX2_told_51 (Or.inr (by decide)) (by decide) ?_
                refine lv_aload_n hx hb dX2_told_148 rfl (lv_at hl 0 rfl) ?_
                refine r_getM (v := .ref (gc G 7)) hx hb hts hin2 hown hw 7 (by decide) lk32 rfl dX2_told_149 ?_
                refine lv_iload_n hx hb dX2_told_152 rfl (lv_at hl 1 rfl) ?_
                refine r_mld hx hb hw 7 (by decide) (by decide) (i) (rfl) (show i < 24 by omega) dX2_told_153 ?_
                exact e_i hx hb hr hlocks hw dX2_told_154 (leafM (by simp only [om_told, factS, ↓reduceIte, isH_nI hi, cl24 hi, c_4, c_8, c_14, c_20, c_44, clq]))
            · skip
              refine lv_bipush (v := (-2)) hx hb dX2_told_47 (by decide) ?_
              exact e_i hx hb hr hlocks hw dX2_told_49 (leafM (by simp only [om_told, factS, ↓reduceIte, isH_nI hi, cl24 hi, c_4, c_8, c_14, c_20, c_44]))
          · skip
            refine lv_aload_n hx hb dX2_told_23 rfl (lv_at hl 0 rfl) ?_
            refine r_getM (v := .ref (gc G 0)) hx hb hts hin2 hown hw 0 (by decide) lk7 rfl dX2_told_24 ?_
            refine lv_iload_n hx hb dX2_told_27 rfl (lv_at hl 1 rfl) ?_
            refine r_mldZ hx hb hw 0 (by decide) (by decide) (i) (rfl) (show i < 24 by omega) dX2_told_28 ?_
            refine lv_if_eq (tgt := 36) hx hb dX2_told_29 (by decide) (fun c_29 => ?_) (fun c_29 => ?_)
            · skip
              refine lv_iconst (v := 0) hx hb dX2_told_36 (by decide) ?_
              exact e_i hx hb hr hlocks hw dX2_told_37 (leafM (by simp only [om_told, ↓reduceIte, isH_nI hi, cl24 hi, c_4, c_8, c_14, c_29]; rw [if_pos c_20]))
            · skip
              refine lv_iconst (v := 1) hx hb dX2_told_32 (by decide) ?_
              refine lv_goto (tgt := 37) hx hb dX2_told_33 (by decide) ?_
              exact e_i hx hb hr hlocks hw dX2_told_37 (leafM (by simp only [om_told, ↓reduceIte, isH_nI hi, cl24 hi, c_4, c_8, c_14, c_29]; rw [if_pos c_20]))
        · skip
          refine lv_iconst (v := (-1)) hx hb dX2_told_17 (by decide) ?_
          exact e_i hx hb hr hlocks hw dX2_told_18 (leafM (by simp only [om_told, factS, ↓reduceIte, isH_nI hi, cl24 hi, c_4, c_8, c_14]))
end
section
/-! THE RELATION between the wall's table and the reference's -/
def Row (S M : Tb) (i : Nat) : Prop := S 0 i = M 0 i ∧ (∃ t : Nat, t ≤ 3 ∧ M 4 i = nI t) ∧ (∃ n : Nat, n ≤ 10 ∧ S 5 i = nI n) ∧ ∃ n : Nat, n ≤ 10 ∧ M 5 i = nI n ∧ (¬ M 0 i = 0 → (∀ c, c < 8 → S c i = M c i) ∧ ∀ k, k < n → S 8 (10 * i + k) = M 8 (10 * i + k))
def Rel (S M : Tb) : Prop := S 9 0 = M 9 0 ∧ ∀ i, i < 24 → Row S M i
theorem Rel.inv {S M : Tb} (h : Rel S M) : Inv S := fun i hi => (h.2 i hi).2.2.1
theorem Rel.invM {S M : Tb} (h : Rel S M) : Inv M := fun i hi => by
  obtain ⟨-, -, -, n, h1, h2, -⟩ := h.2 i hi
  exact ⟨n, h1, h2⟩
theorem Rel.c0 {S M : Tb} (h : Rel S M) {i : Nat} (hi : i < 24) : S 0 i = M 0 i := (h.2 i hi).1
theorem Rel.col {S M : Tb} (h : Rel S M) {i : Nat} (hi : i < 24) (hm : ¬ M 0 i = 0) {c : Nat} (hc : c < 8) : S c i = M c i := by
  obtain ⟨-, -, -, n, -, -, h3⟩ := h.2 i hi
  exact (h3 hm).1 c hc
theorem Row.congr {S M S' M' : Tb} {i : Nat} (h : Row S M i) (h1 : ∀ c, c < 8 → S' c i = S c i) (h2 : ∀ c, c < 8 → M' c i = M c i) (h3 : ∀ k, k < 10 → S' 8 (10 * i + k) = S 8 (10 * i + k)) (h4 : ∀ k, k < 10 → M' 8 (10 * i + k) = M 8 (10 * i + k)) : Row S' M' i := by
  obtain ⟨a0, ⟨t, t3, a4⟩, ⟨n1, n10, a5⟩, n, m10, b5, b⟩ := h
  refine ⟨by rw [h1 0 (by decide), h2 0 (by decide)]; exact a0, ⟨t, t3, by rw [h2 4 (by decide)]; exact a4⟩, ⟨n1, n10, by rw [h1 5 (by decide)]; exact a5⟩, n, m10, by rw [h2 5 (by decide)]; exact b5, fun hm => ?_⟩
  rw [h2 0 (by decide)] at hm
  obtain ⟨b1, b2⟩ := b hm
  exact ⟨fun c hc => by rw [h1 c hc, h2 c hc]; exact b1 c hc, fun k hk => by rw [h3 k (by omega), h4 k (by omega)]; exact b2 k hk⟩
theorem Rel.set {S M : Tb} (h : Rel S M) {c j : Nat} {v v' : Int32} (hc : c < 8) (h0 : c ≠ 0) (h5 : c ≠ 5) (h4 : c = 4 → ∃ t : Nat, t ≤ 3 ∧ v' = nI t) (hv : ¬ M 0 j = 0 → v = v') : Rel (sU S c j v) (sU M c j v') := by
  refine ⟨by rw [sU_oc S j v (show 9 ≠ c by omega), sU_oc M j v' (show 9 ≠ c by omega)]; exact h.1, fun i hi => ?_⟩
  by_cases hij : i = j
  · subst hij
    obtain ⟨a0, ⟨t, t3, a4⟩, ⟨n1, n10, a5⟩, n, m10, b5, b⟩ := h.2 i hi
    refine ⟨by rw [sU_oc S i v (Ne.symm h0), sU_oc M i v' (Ne.symm h0)]; exact a0, ?_, ⟨n1, n10, by rw [sU_oc S i v (Ne.symm h5)]; exact a5⟩, n, m10, by rw [sU_oc M i v' (Ne.symm h5)]; exact b5, fun hm => ?_⟩
    · by_cases hc4 : c = 4
      · obtain ⟨t', h1, h2⟩ := h4 hc4
        exact ⟨t', h1, by rw [hc4, sU_self]; exact h2⟩
      · exact ⟨t, t3, by rw [sU_oc M i v' (Ne.symm hc4)]; exact a4⟩
    · rw [sU_oc M i v' (Ne.symm h0)] at hm
      obtain ⟨b1, b2⟩ := b hm
      refine ⟨fun d hd => ?_, fun k hk => by rw [sU_oc S i v (show 8 ≠ c by omega), sU_oc M i v' (show 8 ≠ c by omega)]; exact b2 k hk⟩
      by_cases hdc : d = c
      · rw [hdc, sU_self, sU_self]; exact hv hm
      · rw [sU_oc S i v hdc, sU_oc M i v' hdc]; exact b1 d hd
  · exact (h.2 i hi).congr (fun d _ => sU_oj S c d v hij) (fun d _ => sU_oj M c d v' hij) (fun k _ => by rw [sU_oc S j v (show 8 ≠ c by omega)]) (fun k _ => by rw [sU_oc M j v' (show 8 ≠ c by omega)])
theorem Rel.hd {S M : Tb} (h : Rel S M) {j : Nat} (hj : j < 24) : Rel (hd S j) (hd M j) := h.set (by decide) (by decide) (by decide) (fun q => by cases q) (fun hm => by rw [h.col hj hm (by decide)])
theorem Rel.lg {S M : Tb} (h : Rel S M) (j : Nat) (how : Int32) : Rel (lg S j how) (lg M j how) := h.set (by decide) (by decide) (by decide) (fun q => by cases q) (fun _ => rfl)
theorem Rel.t9 {S M : Tb} (h : Rel S M) : Rel (sU S 9 0 (S 9 0 + 1)) (sU M 9 0 (M 9 0 + 1)) := by
  refine ⟨by rw [sU_self, sU_self, h.1], fun i hi => (h.2 i hi).congr (fun c hc => by rw [sU_oc S 0 _ (show c ≠ 9 by omega)]) (fun c hc => by rw [sU_oc M 0 _ (show c ≠ 9 by omega)]) (fun k _ => by rw [sU_oc S 0 _ (show 8 ≠ 9 by decide)]) (fun k _ => by rw [sU_oc M 0 _ (show 8 ≠ 9 by decide)])⟩
theorem Rel.rm {S M : Tb} (h : Rel S M) {j q : Nat} (hj : j < 24) (hm0 : ¬ M 0 j = 0) (hq : M 5 j = nI (q + 1)) (hq10 : q < 10) : Rel (rmS S j) (rmS M j) := by
  have e5 : S 5 j = M 5 j := h.col hj hm0 (by decide)
  refine ⟨by rw [rmS, rmS, sU_oc S j _ (by decide), sU_oc M j _ (by decide)]; exact h.1, fun i hi => ?_⟩
  by_cases hij : i = j
  · subst hij
    obtain ⟨a0, ⟨t, t3, a4⟩, -, n, m10, b5, b⟩ := h.2 i hi
    have hn : n = q + 1 := by
      rw [b5] at hq
      exact (nI_eq (by omega) (by omega)).mp hq
    refine ⟨a0, ⟨t, t3, a4⟩, ⟨q, by omega, by rw [rmS, sU_self, e5, hq, nI_pred]⟩, q, by omega, by rw [rmS, sU_self, hq, nI_pred], fun hm => ?_⟩
    obtain ⟨b1, b2⟩ := b hm0
    refine ⟨fun d hd => ?_, fun k hk => b2 k (by omega)⟩
    by_cases hd5 : d = 5
    · rw [hd5, rmS, rmS, sU_self, sU_self, e5]
    · rw [rmS, rmS, sU_oc S i _ hd5, sU_oc M i _ hd5]; exact b1 d hd
  · exact (h.2 i hi).congr (fun d _ => sU_oj S 5 d _ hij) (fun d _ => sU_oj M 5 d _ hij) (fun k _ => by rw [rmS, sU_oc S j _ (show 8 ≠ 5 by decide)]) (fun k _ => by rw [rmS, sU_oc M j _ (show 8 ≠ 5 by decide)])
theorem ac_c (S : Tb) (j : Nat) (w : Int32) {c : Nat} (h5 : c ≠ 5) (h8 : c ≠ 8) (r : Nat) : acS S j w c r = S c r := by
  rw [acS, sU_oc _ j _ h5, sU_oc S _ _ h8]
theorem ac_8 (S : Tb) (j : Nat) (w : Int32) (r : Nat) : acS S j w 8 r = if r = 10 * j + (S 5 j).toNatClampNeg then w else S 8 r := by
  rw [acS, sU_oc _ j _ (show 8 ≠ 5 by decide)]
  simp [sU]
theorem ac_5 (S : Tb) (j : Nat) (w : Int32) (r : Nat) : acS S j w 5 r = if r = j then S 5 j + 1 else S 5 r := by
  simp [acS, sU]
theorem Rel.ac {S M : Tb} (h : Rel S M) {j n : Nat} (hj : j < 24) (hm0 : ¬ M 0 j = 0) (hn : M 5 j = nI n) (hn10 : n < 10) (w : Int32) : Rel (acS S j w) (acS M j w) := by
  have e5 : S 5 j = M 5 j := h.col hj hm0 (by decide)
  have cl : (nI n).toNatClampNeg = n := nI_clamp (by omega)
  refine ⟨by rw [ac_c S j w (by decide) (by decide), ac_c M j w (by decide) (by decide)]; exact h.1, fun i hi => ?_⟩
  by_cases hij : i = j
  · subst hij
    obtain ⟨a0, ⟨t, t3, a4⟩, -, n', m10, b5, b⟩ := h.2 i hi
    have hn' : n' = n := by
      rw [b5] at hn
      exact (nI_eq (by omega) (by omega)).mp hn
    subst hn'
    refine ⟨by rw [ac_c S i w (by decide) (by decide), ac_c M i w (by decide) (by decide)]; exact a0, ⟨t, t3, by rw [ac_c M i w (by decide) (by decide)]; exact a4⟩, ⟨n' + 1, by omega, by rw [ac_5, if_pos rfl, e5, hn, nI_1]⟩, n' + 1, by omega, by rw [ac_5, if_pos rfl, hn, nI_1], fun hm => ?_⟩
    obtain ⟨b1, b2⟩ := b hm0
    refine ⟨fun d hd => ?_, fun k hk => ?_⟩
    · by_cases hd5 : d = 5
      · rw [hd5, ac_5, ac_5, if_pos rfl, if_pos rfl, e5]
      · rw [ac_c S i w hd5 (by omega), ac_c M i w hd5 (by omega)]; exact b1 d hd
    · rw [ac_8, ac_8, e5, hn, cl]
      by_cases hkn : k = n'
      · rw [hkn, if_pos rfl, if_pos rfl]
      · rw [if_neg (by omega), if_neg (by omega)]; exact b2 k (by omega)
  · refine (h.2 i hi).congr (fun d hd => ?_) (fun d hd => ?_) (fun k hk => ?_) (fun k hk => ?_)
    · by_cases hd5 : d = 5
      · rw [hd5, ac_5, if_neg hij]
      · exact ac_c S j w hd5 (by omega) i
    · by_cases hd5 : d = 5
      · rw [hd5, ac_5, if_neg hij]
      · exact ac_c M j w hd5 (by omega) i
    · rw [ac_8, e5, hn, cl, if_neg (by omega)]
    · rw [ac_8, hn, cl, if_neg (by omega)]
theorem exS_5 (S : Tb) (i j r : Nat) : exS S i j 5 r = if r = i then S 5 j else if r = j then S 5 i else S 5 r := by simp [exS]
theorem Rel.ex {S M : Tb} (h : Rel S M) {i j : Nat} (hi : i < 24) (hj : j < 24) (mi : ¬ M 0 i = 0) (mj : ¬ M 0 j = 0) : Rel (exS S i j) (exS M i j) := by
  refine ⟨by rw [exS_c S i j (by decide) (by decide), exS_c M i j (by decide) (by decide)]; exact h.1, fun r hr => ?_⟩
  have key : ∀ z, z < 24 → ¬ M 0 z = 0 → ¬ M 0 r = 0 → (∀ T : Tb, exS T i j 5 r = T 5 z) → (∀ (T : Tb) k, k < 10 → exS T i j 8 (10 * r + k) = T 8 (10 * z + k)) → Row (exS S i j) (exS M i j) r := by
    intro z hz hmz hmr k5 k8
    obtain ⟨a0, ⟨t, t3, a4⟩, -, -⟩ := h.2 r hr
    obtain ⟨-, -, ⟨n1, n10, a5⟩, n, m10, b5, b⟩ := h.2 z hz
    refine ⟨by rw [exS_c S i j (by decide) (by decide), exS_c M i j (by decide) (by decide)]; exact a0, ⟨t, t3, by rw [exS_c M i j (by decide) (by decide)]; exact a4⟩, ⟨n1, n10, by rw [k5]; exact a5⟩, n, m10, by rw [k5]; exact b5, fun _ => ⟨fun d hd => ?_, fun k hk => ?_⟩⟩
    · by_cases hd5 : d = 5
      · rw [hd5, k5, k5]; exact (b hmz).1 5 (by decide)
      · rw [exS_c S i j hd5 (by omega), exS_c M i j hd5 (by omega)]; exact h.col hr hmr hd
    · rw [k8 S k (by omega), k8 M k (by omega)]; exact (b hmz).2 k hk
  by_cases hri : r = i
  · subst hri
    exact key j hj mj mi (fun T => by rw [exS_5, if_pos rfl]) (fun T k hk => exS_8i T r j hk)
  · by_cases hrj : r = j
    · subst hrj
      exact key i hi mi mj (fun T => by rw [exS_5, if_neg hri, if_pos rfl]) (fun T k hk => exS_8j T i r hk)
    · refine (h.2 r hr).congr (fun d hd => ?_) (fun d hd => ?_) (fun k hk => exS_8o S i j hk hri hrj) (fun k hk => exS_8o M i j hk hri hrj)
      · by_cases hd5 : d = 5
        · rw [hd5, exS_5, if_neg hri, if_neg hrj]
        · exact exS_c S i j hd5 (by omega) r
      · by_cases hd5 : d = 5
        · rw [hd5, exS_5, if_neg hri, if_neg hrj]
        · exact exS_c M i j hd5 (by omega) r
/-! steps that don't meet change places -/
theorem sU_comm (M : Tb) {c d : Nat} (x y : Nat) (v u : Int32) (h : c ≠ d) : sU (sU M c x v) d y u = sU (sU M d y u) c x v := by
  funext a r
  by_cases h1 : a = d
  · subst h1; simp [sU, Ne.symm h]
  · by_cases h2 : a = c
    · subst h2; simp [sU, h]
    · simp [sU, h1, h2]
theorem hd_sU (M : Tb) {c : Nat} (j x : Nat) (v : Int32) (h : c ≠ 6) : hd (sU M c x v) j = sU (hd M j) c x v := by
  rw [hd, hd, sU_oc M x v (Ne.symm h), sU_comm M x j v _ h]
theorem hd_lg (M : Tb) (j x : Nat) (v : Int32) : hd (lg M x v) j = lg (hd M j) x v := hd_sU M j x v (by decide)
theorem hd_rm (M : Tb) (j i : Nat) : hd (rmS M i) j = rmS (hd M j) i := by
  rw [rmS, hd_sU M j i _ (by decide)]; rfl
theorem hd_ac (M : Tb) (j i : Nat) (w : Int32) : hd (acS M i w) j = acS (hd M j) i w := by
  rw [acS, hd_sU _ j i _ (by decide), hd_sU M j _ _ (by decide)]; rfl
theorem hd_hd (M : Tb) (i j : Nat) : hd (hd M i) j = hd (hd M j) i := by
  funext c r
  by_cases h6 : c = 6
  · subst h6
    by_cases hi : r = i <;> by_cases hj : r = j
    · subst hi; subst hj; rfl
    · subst hi; simp [hd, sU, hj, Ne.symm hj]
    · subst hj; simp [hd, sU, hi, Ne.symm hi]
    · simp [hd, sU, hi, hj]
  · simp [hd, sU, h6]
theorem hd_ex (M : Tb) (i j r : Nat) : hd (exS M i j) r = exS (hd M r) i j := by
  funext c q
  by_cases h6 : c = 6
  · subst h6; simp [hd, sU, exS]
  · by_cases h5 : c = 5
    · subst h5; simp [hd, sU, exS]
    · by_cases h8 : c = 8
      · subst h8; simp [hd, sU, exS]
      · simp [hd, sU, exS, h5, h6, h8]
theorem ml_eq (M : Tb) (j : Nat) (how : Int32) : ml M j how = lg (hd M j) j how := rfl
theorem ml2_eq (M : Tb) (i j : Nat) (how : Int32) : ml2 M i j how = lg2 (hd (hd M i) j) i j how := rfl
theorem Rel.lg2 {S M : Tb} (h : Rel S M) (i j : Nat) (how : Int32) : Rel (lg2 S i j how) (lg2 M i j how) := (h.lg j how).lg i how
/-! words of a row -/
theorem l_sum_eq {a b : Nat → Int32} : ∀ n : Nat, (∀ k, k < n → a k = b k) → l_sum a n = l_sum b n
  | 0, _ => rfl
  | n + 1, h => by
    show l_sum a n + a n = l_sum b n + b n
    rw [l_sum_eq n (fun k hk => h k (by omega)), h n (by omega)]
theorem Rel.wt {S M : Tb} (h : Rel S M) {i : Nat} (hi : i < 24) (hm : ¬ M 0 i = 0) : wt S i = wt M i := by
  obtain ⟨-, -, -, n, m10, b5, b⟩ := h.2 i hi
  rw [wt_n ((h.col hi hm (by decide)).trans b5) m10, wt_n b5 m10]
  exact l_sum_eq n (b hm).2
theorem hasI_eq {S M : Tb} {i : Nat} {w : Int32} : ∀ n : Nat, (∀ k, k < n → S 8 (10 * i + k) = M 8 (10 * i + k)) → hasI S i w n = hasI M i w n
  | 0, _ => rfl
  | n + 1, h => by
    show (hasI S i w n || decide (S 8 (10 * i + n) = w)) = (hasI M i w n || decide (M 8 (10 * i + n) = w))
    rw [hasI_eq n (fun k hk => h k (by omega)), h n (by omega)]
theorem Rel.has {S M : Tb} (h : Rel S M) {i : Nat} (hi : i < 24) (hm : ¬ M 0 i = 0) (w : Int32) : has S i w = has M i w := by
  obtain ⟨-, -, -, n, m10, b5, b⟩ := h.2 i hi
  rw [has_n ((h.col hi hm (by decide)).trans b5) m10, has_n b5 m10]
  exact hasI_eq n (b hm).2
theorem Rel.kA {S M : Tb} (h : Rel S M) {i : Nat} (hi : i < 24) (hm : ¬ M 0 i = 0) (w : Int32) : okA S i w = okA M i w := by
  unfold okA
  rw [h.col hi hm (show 5 < 8 by decide), h.col hi hm (show 1 < 8 by decide), h.wt hi hm]
theorem Rel.rV {S M : Tb} (h : Rel S M) {i q : Nat} (hi : i < 24) (hm : ¬ M 0 i = 0) (hq : M 5 i = nI (q + 1)) (hq10 : q < 10) : rmV S i = rmV M i := by
  obtain ⟨-, -, -, n, m10, b5, b⟩ := h.2 i hi
  have hn : n = q + 1 := by
    rw [b5] at hq
    exact (nI_eq (by omega) (by omega)).mp hq
  unfold rmV
  rw [h.col hi hm (show 5 < 8 by decide), hq, nI_pred, nI_clamp (by omega)]
  exact (b hm).2 q (by omega)
theorem Rel.wO {S M : Tb} (h : Rel S M) {i : Nat} (hi : i < 24) (hm : ¬ M 0 i = 0) (x : Int32) : wOf S i x = wOf M i x := by
  obtain ⟨-, -, -, n, m10, b5, b⟩ := h.2 i hi
  unfold wOf
  rw [h.col hi hm (show 5 < 8 by decide)]
  by_cases h1 : x < 0
  · rw [if_pos h1, if_pos h1]
  · by_cases h2 : M 5 i ≤ x
    · rw [if_neg h1, if_neg h1, if_pos h2, if_pos h2]
    · rw [if_neg h1, if_neg h1, if_neg h2, if_neg h2]
      rcases pk_ix x (n := n) (by omega) with q | q | ⟨k, hk, rfl⟩
      · exact absurd q h1
      · exact absurd (by rw [b5]; exact q) h2
      · rw [nI_clamp (by omega)]; exact (b hm).2 k hk
theorem Rel.fact {S M : Tb} (h : Rel S M) {i : Nat} (hi : i < 24) (hm : ¬ M 0 i = 0) (q : Nat) : factS S i q = factS M i q := by
  have c : ∀ d, d < 8 → S d i = M d i := fun d hd => h.col hi hm hd
  match q with
  | 0 => rfl
  | 1 => exact c 1 (by decide)
  | 2 => exact c 2 (by decide)
  | 3 => show (if S 3 i = 0 then (0 : Int32) else 1) = if M 3 i = 0 then 0 else 1; rw [c 3 (by decide)]
  | 4 => exact c 4 (by decide)
  | 5 => exact c 5 (by decide)
  | 6 => exact h.wt hi hm
  | 7 => exact c 6 (by decide)
  | k + 8 => exact c 7 (by decide)
end
section
/-! ONE ANSWER, and the relation again: method by method -/
abbrev Ok (a b : Int32 × Tb) : Prop := a.1 = b.1 ∧ Rel a.2 b.2
theorem Ok.bad {S M : Tb} (h : Rel S M) (r : Int32) : Ok (r, S) (r, M) := ⟨rfl, h⟩
theorem Ok.of {S M : Tb} {r r' : Int32} (e : r = r') (h : Rel S M) : Ok (r, S) (r', M) := ⟨e, h⟩
theorem nH {i : Int32} (h : ¬ isH i = true) : isH i = false := by simpa using h
theorem q_open {S M : Tb} (h : Rel S M) (p1 p2 : Int32) : Ok (oc_open S p1 p2) (om_open M p1 p2) := by
  unfold oc_open om_open
  by_cases h1 : isH p1 = true
  · rw [if_pos h1, if_pos h1]
    obtain ⟨j, hj, rfl⟩ := isH_of h1
    rw [cl24 hj]
    unfold oj_open mj_open
    rw [h.c0 hj]
    by_cases h0 : M 0 j = 0
    · rw [if_pos h0, if_pos h0]; exact Ok.bad h _
    · rw [if_neg h0, if_neg h0, h.col hj h0 (show 4 < 8 by decide), h.col hj h0 (show 2 < 8 by decide)]
      obtain ⟨-, ⟨t, t3, a4⟩, -⟩ := h.2 j hj
      by_cases ht : t = 3
      · have e4 : M 4 j = 3 := by rw [a4, ht]; rfl
        rw [if_neg (by rw [e4]; decide), if_pos e4]
        exact ⟨rfl, ((h.hd hj).lg j 2)⟩
      · have e4 : M 4 j < 3 := by rw [a4]; exact nI_lt (b := 3) (by omega) (by decide)
        have e5 : ¬ M 4 j = 3 := fun q => by rw [q] at e4; exact absurd e4 (by decide)
        rw [if_pos e4, if_neg e5]
        by_cases hc : M 2 j = p2
        · rw [if_pos hc, if_pos hc.symm]
          refine ⟨rfl, ?_⟩
          rw [ml_eq, hd_sU _ j j _ (show 4 ≠ 6 by decide), hd_sU _ j j _ (show 3 ≠ 6 by decide)]
          exact ((((h.hd hj).set (by decide) (by decide) (by decide) (fun q => by cases q) (fun _ => rfl)).set (by decide) (by decide) (by decide) (fun _ => ⟨0, by omega, nI_0.symm⟩) (fun _ => rfl)).lg j 1)
        · rw [if_neg hc, if_neg (fun q => hc q.symm)]
          refine ⟨rfl, ?_⟩
          rw [ml_eq, hd_sU _ j j _ (show 4 ≠ 6 by decide)]
          exact (((h.hd hj).set (by decide) (by decide) (by decide) (fun _ => ⟨t + 1, by omega, by rw [a4, nI_1]⟩) (fun _ => rfl)).lg j 4)
  · rw [if_neg h1, if_neg h1]; exact Ok.bad h _
theorem q_shut {S M : Tb} (h : Rel S M) (p1 : Int32) : Ok (oc_shut S p1) (om_shut M p1) := by
  unfold oc_shut om_shut
  by_cases h1 : isH p1 = true
  · rw [if_pos h1, if_pos h1]
    obtain ⟨j, hj, rfl⟩ := isH_of h1
    rw [cl24 hj]
    unfold oj_shut mj_shut
    rw [h.c0 hj]
    by_cases h0 : M 0 j = 0
    · rw [if_pos h0, if_pos h0]; exact Ok.bad h _
    · rw [if_neg h0, if_neg h0, h.col hj h0 (show 3 < 8 by decide)]
      by_cases h3 : M 3 j = 0
      · rw [if_pos h3, if_pos h3]; exact ⟨rfl, (h.hd hj).lg j 2⟩
      · rw [if_neg h3, if_neg h3]
        refine ⟨rfl, ?_⟩
        rw [ml_eq, hd_sU _ j j _ (show 3 ≠ 6 by decide)]
        exact (((h.hd hj).set (by decide) (by decide) (by decide) (fun q => by cases q) (fun _ => rfl)).lg j 1)
  · rw [if_neg h1, if_neg h1]; exact Ok.bad h _
theorem q_put {S M : Tb} (h : Rel S M) (p1 p2 : Int32) : Ok (oc_put S p1 p2) (om_put M p1 p2) := by
  unfold oc_put om_put
  by_cases h1 : isH p1 = true
  · rw [if_pos h1, if_pos h1]
    by_cases h2 : isWt p2 = true
    · rw [if_pos h2, if_pos h2]
      obtain ⟨j, hj, rfl⟩ := isH_of h1
      rw [cl24 hj]
      unfold oj_put mj_put
      rw [h.c0 hj]
      by_cases h0 : M 0 j = 0
      · rw [if_pos h0, if_pos h0]; exact Ok.bad h _
      · rw [if_neg h0, if_neg h0, h.col hj h0 (show 3 < 8 by decide)]
        by_cases h3 : M 3 j = 0
        · rw [if_pos h3, if_pos h3]; exact ⟨rfl, (h.hd hj).lg j 2⟩
        · have ek : okA (hd S j) j p2 = okA M j p2 := ((h.hd hj).kA hj h0 p2).trans rfl
          rw [if_neg h3, if_neg h3, ek]
          by_cases hk : okA M j p2 = true
          · rw [if_pos hk, if_pos hk]
            obtain ⟨n, n10, hn⟩ := h.invM j hj
            have R := (h.hd hj).ac hj h0 (show hd M j 5 j = nI n from hn) (okA_lt hn n10 hk) p2
            refine ⟨?_, ?_⟩
            · show acS (hd S j) j p2 5 j = acS M j p2 5 j
              rw [ac_5, if_pos rfl, ac_5, if_pos rfl]
              exact congrArg (· + 1) (h.col hj h0 (show 5 < 8 by decide))
            · rw [ml_eq, hd_ac]
              exact R.lg j 1
          · rw [if_neg hk, if_neg hk]; exact ⟨rfl, (h.hd hj).lg j 4⟩
    · rw [if_neg h2, if_neg h2]; exact Ok.bad h _
  · rw [if_neg h1, if_neg h1]; exact Ok.bad h _
theorem q_take {S M : Tb} (h : Rel S M) (p1 : Int32) : Ok (oc_take S p1) (om_take M p1) := by
  unfold oc_take om_take
  by_cases h1 : isH p1 = true
  · rw [if_pos h1, if_pos h1]
    obtain ⟨j, hj, rfl⟩ := isH_of h1
    rw [cl24 hj]
    unfold oj_take mj_take
    rw [h.c0 hj]
    by_cases h0 : M 0 j = 0
    · rw [if_pos h0, if_pos h0]; exact Ok.bad h _
    · rw [if_neg h0, if_neg h0, h.col hj h0 (show 3 < 8 by decide), h.col hj h0 (show 5 < 8 by decide)]
      by_cases h3 : M 3 j = 0
      · rw [if_pos h3, if_pos h3]; exact ⟨rfl, (h.hd hj).lg j 2⟩
      · rw [if_neg h3, if_neg h3]
        by_cases h5 : M 5 j = 0
        · rw [if_pos h5, if_pos h5]; exact ⟨rfl, (h.hd hj).lg j 4⟩
        · rw [if_neg h5, if_neg h5]
          obtain ⟨n, n10, hn⟩ := h.invM j hj
          obtain ⟨q, q10, hq⟩ := n_succ hn n10 h5
          refine ⟨((h.hd hj).rV hj h0 (show hd M j 5 j = nI (q + 1) from hq) q10).trans rfl, ?_⟩
          rw [ml_eq, hd_rm]
          exact ((h.hd hj).rm hj h0 (show hd M j 5 j = nI (q + 1) from hq) q10).lg j 1
  · rw [if_neg h1, if_neg h1]; exact Ok.bad h _
theorem ac_rm (M : Tb) {i q : Nat} (hq : M 5 i = nI (q + 1)) (hq10 : q < 10) : acS (rmS M i) i (rmV M i) = M := by
  have e5 : rmS M i 5 i = nI q := by rw [rmS, sU_self, hq, nI_pred]
  have ev : rmV M i = M 8 (10 * i + q) := by rw [rmV, hq, nI_pred, nI_clamp (by omega)]
  funext c r
  by_cases h5 : c = 5
  · subst h5
    rw [ac_5, e5]
    by_cases hr : r = i
    · rw [if_pos hr, hr, hq, nI_1]
    · rw [if_neg hr, rmS, sU_oj M 5 5 _ hr]
  · by_cases h8 : c = 8
    · subst h8
      rw [ac_8, e5, nI_clamp (by omega), ev]
      by_cases hr : r = 10 * i + q
      · rw [if_pos hr, hr]
      · rw [if_neg hr, rmS, sU_oc M i _ (by decide)]
    · rw [ac_c _ i _ h5 h8, rmS, sU_oc M i _ h5]
theorem wt_rm {M : Tb} {i q : Nat} (hq : M 5 i = nI (q + 1)) (hq10 : q < 10) : wt (rmS M i) i + rmV M i = wt M i := by
  have e5 : rmS M i 5 i = nI q := by rw [rmS, sU_self, hq, nI_pred]
  rw [wt_n e5 (by omega), wt_n hq (by omega), rmV, hq, nI_pred, nI_clamp (by omega)]
  rfl
theorem ok_rm {M : Tb} {i q : Nat} (hq : M 5 i = nI (q + 1)) (hq10 : q < 10) (hw : wt M i ≤ M 1 i) : okA (rmS M i) i (rmV M i) = true := by
  have e5 : rmS M i 5 i = nI q := by rw [rmS, sU_self, hq, nI_pred]
  have h1 : ¬ (10 : Int32) ≤ rmS M i 5 i := by rw [e5]; exact nI_ge (b := 10) hq10 (by decide)
  have h2 : wt (rmS M i) i + rmV M i ≤ rmS M i 1 i := by rw [wt_rm hq hq10]; exact hw
  unfold okA
  rw [decide_eq_true h2, decide_eq_false h1]
  rfl
theorem q_omv {S M : Tb} (h : Rel S M) {i j : Nat} (hi : i < 24) (hj : j < 24) (mi : ¬ M 0 i = 0) (mj : ¬ M 0 j = 0) (hwi : wt M i ≤ M 1 i) :
    Ok (omv S i j) (if M 5 i = 0 then (-6, lg2 M i j 4) else if okA (rmS M i) j (rmV M i) = true then (rmV M i, lg2 (acS (rmS M i) j (rmV M i)) i j 1) else (-5, lg2 (acS (rmS M i) i (rmV M i)) i j 4)) := by
  unfold omv
  rw [h.col hi mi (show 5 < 8 by decide)]
  by_cases h5 : M 5 i = 0
  · rw [if_pos h5, if_pos h5]; exact ⟨rfl, h.lg2 i j 4⟩
  · rw [if_neg h5, if_neg h5]
    obtain ⟨n, n10, hn⟩ := h.invM i hi
    obtain ⟨q, q10, hq⟩ := n_succ hn n10 h5
    have R1 := h.rm hi mi hq q10
    have ev := h.rV hi mi hq q10
    rw [ev, R1.kA hj (show ¬ rmS M i 0 j = 0 from mj) (rmV M i)]
    by_cases hk : okA (rmS M i) j (rmV M i) = true
    · rw [if_pos hk, if_pos hk]
      obtain ⟨n', n10', hn'⟩ := R1.invM j hj
      exact ⟨rfl, (R1.ac hj (show ¬ rmS M i 0 j = 0 from mj) hn' (okA_lt hn' n10' hk) _).lg2 i j 1⟩
    · rw [if_neg hk, if_neg hk, R1.kA hi (show ¬ rmS M i 0 i = 0 from mi) (rmV M i), if_pos (ok_rm hq q10 hwi)]
      exact ⟨rfl, (R1.ac hi (show ¬ rmS M i 0 i = 0 from mi) (show rmS M i 5 i = nI q by rw [rmS, sU_self, hq, nI_pred]) q10 (rmV M i)).lg2 i j 4⟩
theorem wt_hd (M : Tb) (i j : Nat) : wt (hd M j) i = wt M i := rfl
theorem q_move {S M : Tb} (h : Rel S M) (hW : ∀ i, i < 24 → ¬ M 0 i = 0 → wt M i ≤ M 1 i) (p1 p2 : Int32) : Ok (oc_act S p1 p2 0) (om_move M p1 p2) := by
  unfold oc_act om_move
  by_cases h1 : isH p1 = true
  · rw [if_pos h1, if_pos h1]
    by_cases h2 : isH p2 = true
    · rw [if_pos h2, if_pos h2]
      obtain ⟨i, hi, rfl⟩ := isH_of h1
      obtain ⟨j, hj, rfl⟩ := isH_of h2
      rw [cl24 hi, cl24 hj]
      unfold oj_act mj_move
      rw [h.c0 hi, h.c0 hj]
      by_cases m0 : M 0 i = 0
      · rw [if_pos m0, if_pos m0]; exact Ok.bad h _
      · rw [if_neg m0, if_neg m0]
        by_cases m1 : M 0 j = 0
        · rw [if_pos m1, if_pos m1]; exact ⟨rfl, (h.hd hi).lg i 4⟩
        · have R := (h.hd hi).hd hj
          rw [if_neg m1, if_neg m1, h.col hi m0 (show 3 < 8 by decide), h.col hj m1 (show 3 < 8 by decide)]
          by_cases h3 : M 3 i = 0
          · rw [if_pos h3, if_pos h3]; exact ⟨rfl, R.lg2 i j 2⟩
          · rw [if_neg h3, if_neg h3]
            by_cases h4 : M 3 j = 0
            · rw [if_pos h4, if_pos h4]; exact ⟨rfl, R.lg2 i j 2⟩
            · rw [if_neg h4, if_neg h4, if_pos rfl]
              have Z := q_omv R hi hj (show ¬ hd (hd M i) j 0 i = 0 from m0) (show ¬ hd (hd M i) j 0 j = 0 from m1) (show wt (hd (hd M i) j) i ≤ hd (hd M i) j 1 i from hW i hi m0)
              refine ⟨Z.1.trans ?_, ?_⟩
              · show (if M 5 i = 0 then _ else if okA (rmS M i) j (rmV M i) = true then _ else _ : Int32 × Tb).1 = _
                by_cases h5 : M 5 i = 0
                · rw [if_pos h5, if_pos h5]
                · rw [if_neg h5, if_neg h5]
                  by_cases hk : okA (rmS M i) j (rmV M i) = true
                  · rw [if_pos hk, if_pos hk]; rfl
                  · rw [if_neg hk, if_neg hk]
              · have Z2 := Z.2
                have e5 : hd (hd M i) j 5 i = M 5 i := rfl
                have eo : okA (rmS (hd (hd M i) j) i) j (rmV (hd (hd M i) j) i) = okA (rmS M i) j (rmV M i) := rfl
                have ev : rmV (hd (hd M i) j) i = rmV M i := rfl
                rw [e5, eo, ev, ← hd_rm, ← hd_rm, ← hd_ac, ← hd_ac, ← hd_ac, ← hd_ac] at Z2
                exact Z2
    · rw [if_neg h2, if_neg h2]; exact Ok.bad h _
  · rw [if_neg h1, if_neg h1]; exact Ok.bad h _
/-! the swap's loop -/
theorem sw_c (i j : Nat) : ∀ (d k : Nat) (M : Tb) (c r : Nat), c ≠ 8 → of_sw i j d k M c r = M c r
  | 0, _, _, _, _, _ => rfl
  | d + 1, k, M, c, r, h => by
    show of_sw i j d (k + 1) _ c r = _
    rw [sw_c i j d (k + 1) _ c r h, sU_oc _ _ _ h, sU_oc _ _ _ h]
theorem sw_8 (i j : Nat) : ∀ (d k : Nat) (M : Tb) (r : Nat), k + d ≤ 10 → of_sw i j d k M 8 r = if k ≤ r % 10 ∧ r % 10 < k + d then (if r / 10 = i then M 8 (10 * j + r % 10) else if r / 10 = j then M 8 (10 * i + r % 10) else M 8 r) else M 8 r
  | 0, k, M, r, h => by
    rw [if_neg (by omega)]; rfl
  | d + 1, k, M, r, h => by
    show of_sw i j d (k + 1) _ 8 r = _
    rw [sw_8 i j d (k + 1) _ r (by omega)]
    have st : ∀ x, sU (sU M 8 (10 * i + k) (M 8 (10 * j + k))) 8 (10 * j + k) (M 8 (10 * i + k)) 8 x = if x = 10 * j + k then M 8 (10 * i + k) else if x = 10 * i + k then M 8 (10 * j + k) else M 8 x := by
      intro x
      simp [sU]
    rw [st, st, st]
    by_cases hk : r % 10 = k
    · rw [if_neg (show ¬ (k + 1 ≤ r % 10 ∧ r % 10 < k + 1 + d) by omega), if_pos (show k ≤ r % 10 ∧ r % 10 < k + (d + 1) by omega)]
      by_cases hj : r / 10 = j
      · rw [if_pos (show r = 10 * j + k by omega)]
        by_cases hi : r / 10 = i
        · rw [if_pos hi]
          have e : 10 * i + k = 10 * j + r % 10 := by omega
          rw [e]
        · rw [if_neg hi, if_pos hj, hk]
      · rw [if_neg (show ¬ r = 10 * j + k by omega)]
        by_cases hi : r / 10 = i
        · rw [if_pos (show r = 10 * i + k by omega), if_pos hi, hk]
        · rw [if_neg (show ¬ r = 10 * i + k by omega), if_neg hi, if_neg hj]
    · by_cases hin : k ≤ r % 10 ∧ r % 10 < k + (d + 1)
      · rw [if_pos (show k + 1 ≤ r % 10 ∧ r % 10 < k + 1 + d by omega), if_pos hin]
        by_cases hi : r / 10 = i
        · rw [if_pos hi, if_pos hi, if_neg (by omega), if_neg (by omega)]
        · rw [if_neg hi, if_neg hi]
          by_cases hj : r / 10 = j
          · rw [if_pos hj, if_pos hj, if_neg (by omega), if_neg (by omega)]
          · rw [if_neg hj, if_neg hj, if_neg (by omega), if_neg (by omega)]
      · rw [if_neg (show ¬ (k + 1 ≤ r % 10 ∧ r % 10 < k + 1 + d) by omega), if_neg hin, if_neg (by omega), if_neg (by omega)]
theorem swM_eq (M : Tb) (i j : Nat) : swM M i j = exS M i j := by
  funext c r
  by_cases h5 : c = 5
  · subst h5
    rw [exS_5, swM]
    by_cases hj : r = j
    · subst hj
      rw [sU_self, sw_c i r 10 0 M 5 i (by decide)]
      by_cases hi : r = i
      · subst hi; rw [if_pos rfl]
      · rw [if_neg hi, if_pos rfl]
    · rw [sU_oj _ 5 5 _ hj]
      by_cases hi : r = i
      · subst hi; rw [sU_self, if_pos rfl, sw_c r j 10 0 M 5 j (by decide)]
      · rw [sU_oj _ 5 5 _ hi, if_neg hi, if_neg hj, sw_c i j 10 0 M 5 r (by decide)]
  · rw [swM, sU_oc _ _ _ h5, sU_oc _ _ _ h5]
    by_cases h8 : c = 8
    · subst h8
      rw [sw_8 i j 10 0 M r (by omega), if_pos (by omega)]
      simp [exS]
    · rw [sw_c i j 10 0 M c r h8, exS_c M i j h5 h8]
theorem q_swap {S M : Tb} (h : Rel S M) (p1 p2 : Int32) : Ok (oc_act S p1 p2 1) (om_swap M p1 p2) := by
  unfold oc_act om_swap
  by_cases h1 : isH p1 = true
  · rw [if_pos h1, if_pos h1]
    by_cases h2 : isH p2 = true
    · rw [if_pos h2, if_pos h2]
      obtain ⟨i, hi, rfl⟩ := isH_of h1
      obtain ⟨j, hj, rfl⟩ := isH_of h2
      rw [cl24 hi, cl24 hj]
      unfold oj_act mj_swap
      rw [h.c0 hi, h.c0 hj]
      by_cases m0 : M 0 i = 0
      · rw [if_pos m0, if_pos m0]; exact Ok.bad h _
      · rw [if_neg m0, if_neg m0]
        by_cases m1 : M 0 j = 0
        · rw [if_pos m1, if_pos m1]; exact ⟨rfl, (h.hd hi).lg i 4⟩
        · have R := (h.hd hi).hd hj
          rw [if_neg m1, if_neg m1, h.col hi m0 (show 3 < 8 by decide), h.col hj m1 (show 3 < 8 by decide)]
          by_cases h3 : M 3 i = 0
          · rw [if_pos h3, if_pos h3]; exact ⟨rfl, R.lg2 i j 2⟩
          · rw [if_neg h3, if_neg h3]
            by_cases h4 : M 3 j = 0
            · rw [if_pos h4, if_pos h4]; exact ⟨rfl, R.lg2 i j 2⟩
            · rw [if_neg h4, if_neg h4, if_neg (by decide)]
              unfold oex
              have e1 : wt (hd (hd S i) j) i = wt M i := (R.wt hi (show ¬ hd (hd M i) j 0 i = 0 from m0)).trans rfl
              have e2 : wt (hd (hd S i) j) j = wt M j := (R.wt hj (show ¬ hd (hd M i) j 0 j = 0 from m1)).trans rfl
              have e3 : hd (hd S i) j 1 i = M 1 i := h.col hi m0 (by decide)
              have e4 : hd (hd S i) j 1 j = M 1 j := h.col hj m1 (by decide)
              rw [e1, e2, e3, e4]
              by_cases c1 : M 1 j < wt M i
              · rw [if_pos c1, if_pos c1]; exact ⟨rfl, R.lg2 i j 4⟩
              · rw [if_neg c1, if_neg c1]
                by_cases c2 : wt M j ≤ M 1 i
                · rw [if_pos c2, if_pos c2, swM_eq]
                  have X := R.ex hi hj (show ¬ hd (hd M i) j 0 i = 0 from m0) (show ¬ hd (hd M i) j 0 j = 0 from m1)
                  refine ⟨?_, ?_⟩
                  · have x1 : exS (hd (hd S i) j) i j 5 i = exS M i j 5 i := (X.col hi (show ¬ exS (hd (hd M i) j) i j 0 i = 0 from m0) (show 5 < 8 by decide)).trans rfl
                    have x2 : exS (hd (hd S i) j) i j 5 j = exS M i j 5 j := (X.col hj (show ¬ exS (hd (hd M i) j) i j 0 j = 0 from m1) (show 5 < 8 by decide)).trans rfl
                    show exS (hd (hd S i) j) i j 5 i + exS (hd (hd S i) j) i j 5 j = _
                    rw [x1, x2]
                  · rw [ml2_eq, hd_ex, hd_ex]
                    exact X.lg2 i j 1
                · rw [if_neg c2, if_neg c2]; exact ⟨rfl, R.lg2 i j 4⟩
    · rw [if_neg h2, if_neg h2]; exact Ok.bad h _
  · rw [if_neg h1, if_neg h1]; exact Ok.bad h _
end
section
theorem lg_lg (M : Tb) (j : Nat) (a b : Int32) : lg (lg M j a) j b = lg M j b := by
  funext c r
  by_cases hc : c = 7 <;> by_cases hr : r = j <;> simp [lg, sU, hc, hr]
theorem i3 (x : Int32) : x + 1 + 1 + 1 = x + 3 := by
  rw [Int32.add_assoc, Int32.add_assoc]; rfl
theorem hd3 (M : Tb) (j : Nat) : hd (hd (hd M j) j) j = sU M 6 j (M 6 j + 3) := by
  funext c r
  by_cases hc : c = 6
  · subst hc
    by_cases hr : r = j
    · subst hr; simp only [hd, sU_self]; exact i3 _
    · simp [hd, sU, hr]
  · simp [hd, sU, hc]
theorem q_recode {S M : Tb} (h : Rel S M) (p1 p2 : Int32) : Ok (oc_recode S p1 p2) (om_recode M p1 p2) := by
  unfold oc_recode om_recode
  by_cases h1 : isH p1 = true
  · rw [if_pos h1, if_pos h1]
    obtain ⟨j, hj, rfl⟩ := isH_of h1
    rw [cl24 hj]
    unfold oj_recode mj_recode
    rw [h.c0 hj]
    by_cases h0 : M 0 j = 0
    · rw [if_pos h0, if_pos h0]; exact Ok.bad h _
    · have R := ((h.hd hj).hd hj).hd hj
      rw [if_neg h0, if_neg h0, h.col hj h0 (show 3 < 8 by decide), lg_lg, lg_lg, lg_lg, lg_lg]
      by_cases h3 : M 3 j = 0
      · rw [if_pos h3, if_pos h3]
        refine ⟨rfl, ?_⟩
        rw [← hd3]
        exact R.lg j 4
      · rw [if_neg h3, if_neg h3]
        refine ⟨rfl, ?_⟩
        rw [← hd3, sU_comm _ j j _ _ (show 7 ≠ 2 by decide)]
        exact (R.set (by decide) (by decide) (by decide) (fun q => by cases q) (fun _ => rfl)).lg j 2
  · rw [if_neg h1, if_neg h1]; exact Ok.bad h _
theorem q_told {S M : Tb} (h : Rel S M) (p1 p2 : Int32) : Ok (oc_told S p1 p2) (om_told M p1 p2) := by
  unfold oc_told om_told
  by_cases h1 : isH p1 = true
  · rw [if_pos h1, if_pos h1]
    by_cases h2 : p2 < 0
    · rw [if_pos h2, if_pos h2]; exact Ok.bad h _
    · rw [if_neg h2, if_neg h2]
      by_cases h3 : p2 ≤ 8
      · rw [if_pos h3, if_pos h3]
        obtain ⟨j, hj, rfl⟩ := isH_of h1
        rw [cl24 hj, h.c0 hj]
        by_cases h0 : M 0 j = 0
        · rw [if_pos h0, if_pos h0, if_pos h0]
          by_cases h4 : p2 = 0
          · rw [if_pos h4, if_pos h4]; exact Ok.bad h _
          · rw [if_neg h4, if_neg h4]; exact Ok.bad h _
        · rw [if_neg h0, if_neg h0, if_neg h0]
          by_cases h4 : p2 = 0
          · rw [if_pos h4, h4]; exact ⟨rfl, h⟩
          · rw [if_neg h4]; exact ⟨h.fact hj h0 _, h⟩
      · rw [if_neg h3, if_neg h3]; exact Ok.bad h _
  · rw [if_neg h1, if_neg h1]; exact Ok.bad h _
theorem q_item {S M : Tb} (h : Rel S M) (p1 p2 : Int32) : Ok (oc_item S p1 p2) (om_item M p1 p2) := by
  unfold oc_item om_item
  by_cases h1 : isH p1 = true
  · rw [if_pos h1, if_pos h1]
    obtain ⟨j, hj, rfl⟩ := isH_of h1
    rw [cl24 hj, h.c0 hj]
    by_cases h0 : M 0 j = 0
    · rw [if_pos h0, if_pos h0]; exact Ok.bad h _
    · rw [if_neg h0, if_neg h0]; exact ⟨h.wO hj h0 _, h⟩
  · rw [if_neg h1, if_neg h1]; exact Ok.bad h _
theorem has_hd (M : Tb) (j i : Nat) (w : Int32) : has (hd M j) i w = has M i w := by
  show hasI (hd M j) i w (M 5 i).toNatClampNeg = hasI M i w (M 5 i).toNatClampNeg
  exact hasI_eq _ (fun _ _ => rfl)
theorem qf_find (w : Int32) : ∀ (d k : Nat) {S M : Tb}, Rel S M → k + d ≤ 24 → Ok (of_find w d k S) (mf_find w d k M)
  | 0, _, _, _, h, _ => ⟨rfl, h⟩
  | d + 1, k, S, M, h, hk => by
    have hj : k < 24 := by omega
    show Ok (if S 0 k = 0 then _ else if S 3 k = 0 then _ else if has (hd S k) k w = true then _ else _) (if M 0 k = 0 then _ else if M 3 k = 0 then _ else if has M k w = true then _ else _)
    rw [h.c0 hj]
    by_cases h0 : M 0 k = 0
    · rw [if_pos h0, if_pos h0]; exact qf_find w d (k + 1) h (by omega)
    · rw [if_neg h0, if_neg h0, h.col hj h0 (show 3 < 8 by decide)]
      by_cases h3 : M 3 k = 0
      · rw [if_pos h3, if_pos h3]; exact qf_find w d (k + 1) ((h.hd hj).lg k 3) (by omega)
      · have e : has (hd S k) k w = has M k w := ((h.hd hj).has hj h0 w).trans (has_hd M k k w)
        rw [if_neg h3, if_neg h3, e]
        by_cases hh : has M k w = true
        · rw [if_pos hh, if_pos hh]; exact ⟨rfl, (h.hd hj).lg k 3⟩
        · rw [if_neg hh, if_neg hh]; exact qf_find w d (k + 1) ((h.hd hj).lg k 1) (by omega)
theorem q_find {S M : Tb} (h : Rel S M) (p1 : Int32) : Ok (oc_find S p1) (om_find M p1) := by
  unfold oc_find om_find
  by_cases h1 : isWt p1 = true
  · rw [if_pos h1, if_pos h1]; exact qf_find p1 24 0 h (by omega)
  · rw [if_neg h1, if_neg h1]; exact Ok.bad h _
theorem qf_first (w : Int32) : ∀ (d k : Nat) {S M : Tb}, Rel S M → k + d ≤ 24 → Ok (of_first w d k S) (mf_first w d k M)
  | 0, _, _, _, h, _ => ⟨rfl, h⟩
  | d + 1, k, S, M, h, hk => by
    have hj : k < 24 := by omega
    show Ok (if S 0 k = 0 then _ else if wt (hd S k) k < w then _ else _) (if M 0 k = 0 then _ else if wt M k < w then _ else _)
    rw [h.c0 hj]
    by_cases h0 : M 0 k = 0
    · rw [if_pos h0, if_pos h0]; exact qf_first w d (k + 1) h (by omega)
    · have e : wt (hd S k) k = wt M k := ((h.hd hj).wt hj h0).trans rfl
      rw [if_neg h0, if_neg h0, e]
      by_cases hh : wt M k < w
      · rw [if_pos hh, if_pos hh]; exact qf_first w d (k + 1) ((h.hd hj).lg k 1) (by omega)
      · rw [if_neg hh, if_neg hh]; exact ⟨rfl, (h.hd hj).lg k 2⟩
theorem q_first {S M : Tb} (h : Rel S M) (p1 : Int32) : Ok (oc_first S p1) (om_first M p1) := by
  unfold oc_first om_first
  by_cases h1 : 0 ≤ p1
  · rw [if_pos h1, if_pos h1]; exact qf_first p1 24 0 h (by omega)
  · rw [if_neg h1, if_neg h1]; exact Ok.bad h _
theorem tl_eq {k : Nat} (hk : k < 24) (x : Int64) : ((nI k).toInt64 + 1) * x = x * (nI k + 1).toInt64 := by
  rw [nI_1, nI_l (by omega), nI_l (by omega), lN_1, Int64.mul_comm]
theorem qf_tally : ∀ (d k : Nat) (z : Int64) {S M : Tb}, Rel S M → k + d ≤ 24 → (of_tally d k z S).1 = (mf_tally d k z M).1 ∧ Rel (of_tally d k z S).2 (mf_tally d k z M).2
  | 0, _, _, _, _, h, _ => ⟨rfl, h⟩
  | d + 1, k, z, S, M, h, hk => by
    have hj : k < 24 := by omega
    unfold of_tally mf_tally
    rw [h.c0 hj]
    by_cases h0 : M 0 k = 0
    · rw [if_pos h0, if_pos h0]; exact qf_tally d (k + 1) z h (by omega)
    · have e : wt (hd S k) k = wt M k := ((h.hd hj).wt hj h0).trans rfl
      rw [if_neg h0, if_neg h0, e, tl_eq hj]
      exact qf_tally d (k + 1) _ ((h.hd hj).lg k 1) (by omega)
theorem q_tally {S M : Tb} (h : Rel S M) : (oc_tally S).1 = (om_tally M).1 ∧ Rel (oc_tally S).2 (om_tally M).2 := qf_tally 24 0 0 h.t9 (by omega)
/-! weigh -/
def hdN (i : Nat) : Nat → Tb → Tb
  | 0, M => M
  | k + 1, M => hd (hdN i k M) ((i + k) % 24)
def lgN (i : Nat) (how : Int32) : Nat → Tb → Tb
  | 0, M => M
  | k + 1, M => lgN i how k (lg M ((i + k) % 24) how)
theorem hdN_hd (i : Nat) : ∀ (k : Nat) (M : Tb) (r : Nat), hdN i k (hd M r) = hd (hdN i k M) r
  | 0, _, _ => rfl
  | k + 1, M, r => by
    show hd (hdN i k (hd M r)) _ = hd (hd (hdN i k M) _) r
    rw [hdN_hd i k M r, hd_hd]
theorem hdN_lg (i : Nat) : ∀ (k : Nat) (M : Tb) (r : Nat) (how : Int32), hdN i k (lg M r how) = lg (hdN i k M) r how
  | 0, _, _, _ => rfl
  | k + 1, M, r, how => by
    show hd (hdN i k (lg M r how)) _ = lg (hd (hdN i k M) _) r how
    rw [hdN_lg i k M r how, hd_lg]
theorem mf_let_eq (i : Nat) (how : Int32) : ∀ (k : Nat) (M : Tb), mf_let i how k M = lgN i how k (hdN i k M)
  | 0, _ => rfl
  | k + 1, M => by
    show mf_let i how k (ml M _ how) = lgN i how k (lg (hd (hdN i k M) _) _ how)
    rw [mf_let_eq i how k, ml_eq, hdN_lg, hdN_hd]
theorem hdN_0 (i : Nat) : ∀ (k : Nat) (M : Tb) (r : Nat), hdN i k M 0 r = M 0 r
  | 0, _, _ => rfl
  | k + 1, M, r => by
    show hd (hdN i k M) _ 0 r = _
    exact (show hd (hdN i k M) _ 0 r = hdN i k M 0 r from rfl).trans (hdN_0 i k M r)
theorem hdN_wt (i : Nat) : ∀ (k : Nat) (M : Tb) (r : Nat), wt (hdN i k M) r = wt M r
  | 0, _, _ => rfl
  | k + 1, M, r => (wt_hd (hdN i k M) r _).trans (hdN_wt i k M r)
/-- what the reference counts, over what the wall holds -/
theorem cnt_hold (i : Nat) (M : Tb) : ∀ (d k : Nat), (∀ t, t < k → ¬ M 0 ((i + t) % 24) = 0) → ∃ q : Nat, k ≤ q ∧ of_hold i d k (hdN i k M) = (q, hdN i q M) ∧ mf_cnt i M d k (l_sum (fun t => wt M ((i + t) % 24)) k) = (q, l_sum (fun t => wt M ((i + t) % 24)) q) ∧ ∀ t, t < q → ¬ M 0 ((i + t) % 24) = 0
  | 0, k, h => ⟨k, Nat.le_refl _, rfl, rfl, h⟩
  | d + 1, k, h => by
    unfold of_hold mf_cnt
    rw [hdN_0]
    by_cases h0 : M 0 ((i + k) % 24) = 0
    · rw [if_pos h0, if_pos h0]; exact ⟨k, Nat.le_refl _, rfl, rfl, h⟩
    · rw [if_neg h0, if_neg h0]
      obtain ⟨q, q1, q2, q3, q4⟩ := cnt_hold i M d (k + 1) (fun t ht => by
        by_cases htk : t = k
        · rw [htk]; exact h0
        · exact h t (by omega))
      exact ⟨q, by omega, q2, q3, q4⟩
theorem let_sum (i : Nat) (how : Int32) : ∀ (k : Nat) (z : Int32) (T : Tb), (∀ t, t < k → ¬ T 0 ((i + t) % 24) = 0) → of_let i how k z T = (z + l_sum (fun t => wt T ((i + t) % 24)) k, lgN i how k T)
  | 0, z, T, _ => by
    show (z, T) = (z + 0, T)
    rw [Int32.add_zero]
  | k + 1, z, T, h => by
    unfold of_let
    rw [if_neg (h k (by omega)), let_sum i how k _ (lg T ((i + k) % 24) how) (fun t ht => h t (by omega))]
    show (z + wt T ((i + k) % 24) + l_sum (fun t => wt T ((i + t) % 24)) k, _) = (z + (l_sum (fun t => wt T ((i + t) % 24)) k + wt T ((i + k) % 24)), _)
    rw [Int32.add_assoc, Int32.add_comm (wt T ((i + k) % 24))]
    rfl
theorem qf_hold (i : Nat) : ∀ (d k : Nat) {S M : Tb}, Rel S M → (of_hold i d k S).1 = (of_hold i d k M).1 ∧ Rel (of_hold i d k S).2 (of_hold i d k M).2
  | 0, _, _, _, h => ⟨rfl, h⟩
  | d + 1, k, S, M, h => by
    have hj : (i + k) % 24 < 24 := by omega
    unfold of_hold
    rw [h.c0 hj]
    by_cases h0 : M 0 ((i + k) % 24) = 0
    · rw [if_pos h0, if_pos h0]; exact ⟨rfl, h⟩
    · rw [if_neg h0, if_neg h0]; exact qf_hold i d (k + 1) (h.hd hj)
theorem qf_let (i : Nat) (how : Int32) : ∀ (k : Nat) (z : Int32) {S M : Tb}, Rel S M → Ok (of_let i how k z S) (of_let i how k z M)
  | 0, _, _, _, h => ⟨rfl, h⟩
  | k + 1, z, S, M, h => by
    have hj : (i + k) % 24 < 24 := by omega
    unfold of_let
    rw [h.c0 hj]
    by_cases h0 : M 0 ((i + k) % 24) = 0
    · rw [if_pos h0, if_pos h0]; exact qf_let i how k z h
    · rw [if_neg h0, if_neg h0, h.wt hj h0]; exact qf_let i how k _ (h.lg _ how)
theorem q_weigh {S M : Tb} (h : Rel S M) (p1 p2 : Int32) : Ok (oc_weigh S p1 p2) (om_weigh M p1 p2) := by
  unfold oc_weigh om_weigh
  by_cases h1 : isH p1 = true
  · rw [if_pos h1, if_pos h1]
    by_cases h2 : p2 < 0
    · rw [if_pos h2, if_pos h2]; exact Ok.bad h _
    · rw [if_neg h2, if_neg h2]
      by_cases h3 : p2 ≤ 12
      · rw [if_pos h3, if_pos h3]
        obtain ⟨i, hi, rfl⟩ := isH_of h1
        obtain ⟨n, hn, rfl⟩ := nI_of2 (M := 12) (n := 12) rfl h2 h3
        rw [cl24 hi, nI_clamp (show n < 2 ^ 31 by omega)]
        have R := h.t9
        generalize sU S 9 0 (S 9 0 + 1) = S1 at R
        generalize sU M 9 0 (M 9 0 + 1) = M1 at R
        obtain ⟨e1, R1⟩ := qf_hold i n 0 R
        obtain ⟨q, q1, q2, q3, q4⟩ := cnt_hold i M1 n 0 (fun t ht => absurd ht (by omega))
        have q2 : of_hold i n 0 M1 = (q, hdN i q M1) := q2
        have q3 : mf_cnt i M1 n 0 0 = (q, l_sum (fun t => wt M1 ((i + t) % 24)) q) := q3
        have hqn : q ≤ n := by
          have := of_hold_le i n 0 M1
          rw [q2] at this
          omega
        unfold oj_weigh mj_weigh
        rw [q2] at e1 R1
        rw [e1, q3]
        have hT : ∀ t, t < q → ¬ hdN i q M1 0 ((i + t) % 24) = 0 := fun t ht => by rw [hdN_0]; exact q4 t ht
        have hs : l_sum (fun t => wt (hdN i q M1) ((i + t) % 24)) q = l_sum (fun t => wt M1 ((i + t) % 24)) q := l_sum_eq q (fun t _ => hdN_wt i q M1 _)
        show Ok (if nI n ≤ nI q then _ else _) (if nI n ≤ nI q then _ else _)
        by_cases hc : nI n ≤ nI q
        · have hnq : n = q := by
            have := (nI_leI (show n < 2 ^ 31 by omega) (show q < 2 ^ 31 by omega)).mp hc
            omega
          rw [if_pos hc, if_pos hc, hnq]
          have Z := qf_let i 2 q 0 R1
          rw [hnq] at Z
          rw [let_sum i 2 q 0 (hdN i q M1) hT, hs] at Z
          refine ⟨Z.1.trans ?_, ?_⟩
          · show (0 : Int32) + _ = _
            rw [Int32.zero_add]
          · show Rel _ (mf_let i 2 q M1)
            rw [mf_let_eq]
            exact Z.2
        · rw [if_neg hc, if_neg hc]
          have Z := qf_let i 4 q 0 R1
          rw [let_sum i 4 q 0 (hdN i q M1) hT] at Z
          refine ⟨rfl, ?_⟩
          show Rel _ (mf_let i 4 q M1)
          rw [mf_let_eq]
          exact Z.2
      · rw [if_neg h3, if_neg h3]; exact Ok.bad h _
  · rw [if_neg h1, if_neg h1]; exact Ok.bad h _
/-! drop -/
theorem drop_hd (j : Nat) (m : Int32) : ∀ (d : Nat) (g : Int32) (M : Tb), of_drop j m d g (hd M j) = ((of_drop j m d g M).1, hd (of_drop j m d g M).2 j)
  | 0, _, _ => rfl
  | d + 1, g, M => by
    unfold of_drop
    have e5 : hd M j 5 j = M 5 j := rfl
    have ev : rmV (hd M j) j = rmV M j := rfl
    rw [e5, ev]
    by_cases h1 : M 5 j ≤ 0
    · rw [if_pos h1, if_pos h1]
    · rw [if_neg h1, if_neg h1]
      by_cases h2 : g + rmV M j < m
      · rw [if_pos h2, if_pos h2, ← hd_rm]; exact drop_hd j m d _ _
      · rw [if_neg h2, if_neg h2, ← hd_rm]
theorem qf_drop (j : Nat) (hj : j < 24) (m : Int32) : ∀ (d : Nat) (g : Int32) {S M : Tb}, Rel S M → ¬ M 0 j = 0 → Ok (of_drop j m d g S) (of_drop j m d g M)
  | 0, _, _, _, h, _ => ⟨rfl, h⟩
  | d + 1, g, S, M, h, h0 => by
    unfold of_drop
    rw [h.col hj h0 (show 5 < 8 by decide)]
    by_cases h1 : M 5 j ≤ 0
    · rw [if_pos h1, if_pos h1]; exact ⟨rfl, h⟩
    · obtain ⟨n, n10, hn⟩ := h.invM j hj
      obtain ⟨q, q10, hq⟩ := n_succ hn n10 (fun z => h1 (by rw [z]; decide))
      rw [if_neg h1, if_neg h1, h.rV hj h0 hq q10]
      by_cases h2 : g + rmV M j < m
      · rw [if_pos h2, if_pos h2]; exact qf_drop j hj m d _ (h.rm hj h0 hq q10) h0
      · rw [if_neg h2, if_neg h2]; exact ⟨rfl, h.rm hj h0 hq q10⟩
theorem q_drop {S M : Tb} (h : Rel S M) (p1 p2 p3 : Int32) : Ok (oc_drop S p1 p2 p3) (om_drop M p1 p2 p3) := by
  unfold oc_drop om_drop
  by_cases h1 : isH p1 = true
  · rw [if_pos h1, if_pos h1]
    by_cases h2 : p2 < 1
    · rw [if_pos h2, if_pos h2]; exact Ok.bad h _
    · rw [if_neg h2, if_neg h2]
      by_cases h3 : p2 ≤ 10
      · rw [if_pos h3, if_pos h3]
        obtain ⟨j, hj, rfl⟩ := isH_of h1
        rw [cl24 hj]
        unfold oj_drop mj_drop
        rw [h.c0 hj]
        by_cases h0 : M 0 j = 0
        · rw [if_pos h0, if_pos h0]; exact Ok.bad h _
        · rw [if_neg h0, if_neg h0, h.col hj h0 (show 3 < 8 by decide)]
          by_cases h4 : M 3 j = 0
          · rw [if_pos h4, if_pos h4]; exact ⟨rfl, (h.hd hj).lg j 2⟩
          · rw [if_neg h4, if_neg h4]
            have Z := qf_drop j hj p3 p2.toNatClampNeg 0 (h.hd hj) (show ¬ hd M j 0 j = 0 from h0)
            rw [drop_hd j p3 p2.toNatClampNeg 0 M] at Z
            exact ⟨Z.1, Z.2.lg j 1⟩
      · rw [if_neg h3, if_neg h3]; exact Ok.bad h _
  · rw [if_neg h1, if_neg h1]; exact Ok.bad h _
/-! mount, unmount -/
theorem q_mount {S M : Tb} (h : Rel S M) (p1 p2 p3 : Int32) : Ok (oc_mount S p1 p2 p3) (om_mount M p1 p2 p3) := by
  unfold oc_mount om_mount
  by_cases h1 : isH p1 = true
  · rw [if_pos h1, if_pos h1]
    by_cases h2 : isWt p2 = true
    · rw [if_pos h2, if_pos h2]
      obtain ⟨j, hj, rfl⟩ := isH_of h1
      rw [cl24 hj, h.c0 hj]
      by_cases h0 : M 0 j = 0
      · rw [if_pos h0, if_pos h0]
        refine ⟨rfl, ?_, fun i hi => ?_⟩
        · show atS (nwS S p2 p3) j 9 0 = _
          simp only [atS, nwS, sU_oc _ j _ (show 9 ≠ 0 by decide), sU_oc _ j _ (show 9 ≠ 1 by decide), sU_oc _ j _ (show 9 ≠ 2 by decide), sU_oc _ j _ (show 9 ≠ 3 by decide), sU_oc _ j _ (show 9 ≠ 4 by decide), sU_oc _ j _ (show 9 ≠ 5 by decide), sU_oc _ j _ (show 9 ≠ 6 by decide), sU_oc _ j _ (show 9 ≠ 7 by decide)]
          exact h.1
        · by_cases hij : i = j
          · subst hij
            refine ⟨by simp [atS, nwS, sU], ⟨0, by omega, by simp [sU, nI_0]⟩, ⟨0, by omega, by simp [atS, nwS, nI_0]⟩, 0, by omega, by simp [sU, nI_0], fun _ => ⟨fun c hc => ?_, fun k hk => absurd hk (by omega)⟩⟩
            rcases (show c = 0 ∨ c = 1 ∨ c = 2 ∨ c = 3 ∨ c = 4 ∨ c = 5 ∨ c = 6 ∨ c = 7 by omega) with rfl | rfl | rfl | rfl | rfl | rfl | rfl | rfl <;> simp [atS, nwS, sU]
          · refine (h.2 i hi).congr (fun c hc => ?_) (fun c hc => ?_) (fun k hk => ?_) (fun k hk => ?_)
            · have : c ≠ 8 := by omega
              simp [atS, nwS, this, hc, hij, show i ≠ 24 by omega]
            · simp only [sU_oj _ _ c _ hij]
            · simp [atS, nwS, show (10 * i + k) / 10 = i by omega, hij, show i ≠ 24 by omega]
            · simp only [sU_oc _ j _ (show 8 ≠ 0 by decide), sU_oc _ j _ (show 8 ≠ 1 by decide), sU_oc _ j _ (show 8 ≠ 2 by decide), sU_oc _ j _ (show 8 ≠ 3 by decide), sU_oc _ j _ (show 8 ≠ 4 by decide), sU_oc _ j _ (show 8 ≠ 5 by decide), sU_oc _ j _ (show 8 ≠ 6 by decide), sU_oc _ j _ (show 8 ≠ 7 by decide)]
      · rw [if_neg h0, if_neg h0]; exact Ok.bad h _
    · rw [if_neg h2, if_neg h2]; exact Ok.bad h _
  · rw [if_neg h1, if_neg h1]; exact Ok.bad h _
theorem q_unmount {S M : Tb} (h : Rel S M) (p1 : Int32) : Ok (oc_unmount S p1) (om_unmount M p1) := by
  unfold oc_unmount om_unmount
  by_cases h1 : isH p1 = true
  · rw [if_pos h1, if_pos h1]
    obtain ⟨j, hj, rfl⟩ := isH_of h1
    have R := h.t9
    generalize sU S 9 0 (S 9 0 + 1) = S1 at R
    generalize sU M 9 0 (M 9 0 + 1) = M1 at R
    rw [cl24 hj]
    unfold oj_unmount mj_unmount
    rw [R.c0 hj]
    by_cases h0 : M1 0 j = 0
    · rw [if_pos h0, if_pos h0]; exact Ok.bad R _
    · rw [if_neg h0, if_neg h0, R.col hj h0 (show 5 < 8 by decide)]
      by_cases h5 : M1 5 j ≤ 0
      · rw [if_pos h5, if_pos h5]
        refine ⟨?_, ?_, fun i hi => ?_⟩
        · show dtS (hd S1 j) j 6 24 = M1 6 j + 1
          rw [← R.col hj h0 (show 6 < 8 by decide)]
          simp [dtS, hd, sU]
        · show lg (dtS (hd S1 j) j) 24 1 9 0 = ml (sU M1 0 j 0) j 1 9 0
          simp [lg, ml, dtS, hd, sU]
          exact R.1
        · by_cases hij : i = j
          · subst hij
            obtain ⟨a0, ⟨t, t3, a4⟩, ⟨n1, n10, a5⟩, n, m10, b5, b⟩ := R.2 i hi
            have h24 : i ≠ 24 := by omega
            refine ⟨by simp [lg, ml, dtS, sU, h24], ⟨t, t3, by simp [ml, sU]; exact a4⟩, ⟨n1, n10, by simp [lg, dtS, hd, sU, h24]; exact a5⟩, n, m10, by simp [ml, sU]; exact b5, fun hm => absurd (by simp [ml, sU]) hm⟩
          · have h24 : i ≠ 24 := by omega
            refine (R.2 i hi).congr (fun c hc => ?_) (fun c hc => ?_) (fun k hk => ?_) (fun k hk => ?_)
            · show lg (dtS (hd S1 j) j) 24 1 c i = S1 c i
              have : c ≠ 8 := by omega
              rw [lg, sU_oj _ 7 c _ h24]
              simp only [dtS, if_neg this, if_pos hc, if_neg h24]
              rw [if_neg (fun q => hij q.2), hd, sU_oj _ 6 c _ hij]
            · show ml (sU M1 0 j 0) j 1 c i = M1 c i
              rw [ml, sU_oj _ 7 c _ hij, sU_oj _ 6 c _ hij, sU_oj _ 0 c _ hij]
            · show lg (dtS (hd S1 j) j) 24 1 8 (10 * i + k) = S1 8 (10 * i + k)
              simp [lg, dtS, hd, sU, show (10 * i + k) / 10 = i by omega, h24]
            · rfl
      · rw [if_neg h5, if_neg h5]; exact ⟨rfl, (R.hd hj).lg j 2⟩
  · rw [if_neg h1, if_neg h1]; exact Ok.bad h _
end
section
/-! no locker holds more than its room -/
def nsum (g : Nat → Nat) : Nat → Nat
  | 0 => 0
  | n + 1 => nsum g n + g n
def WRow (M : Tb) (i : Nat) : Prop := ¬ M 0 i = 0 → ∃ (n : Nat) (g : Nat → Nat) (r : Nat), n ≤ 10 ∧ M 5 i = nI n ∧ (∀ k, k < n → g k ≤ 1000 ∧ M 8 (10 * i + k) = nI (g k)) ∧ r ≤ 1000 ∧ M 1 i = nI r ∧ nsum g n ≤ r
def Wei (M : Tb) : Prop := ∀ i, i < 24 → WRow M i
theorem l_nsum {a : Nat → Int32} {g : Nat → Nat} : ∀ n : Nat, (∀ k, k < n → a k = nI (g k)) → l_sum a n = nI (nsum g n)
  | 0, _ => nI_0.symm
  | n + 1, h => by
    show l_sum a n + a n = nI (nsum g n + g n)
    rw [l_nsum n (fun k hk => h k (by omega)), h n (by omega), nI_add]
theorem nsum_le {g : Nat → Nat} : ∀ n : Nat, (∀ k, k < n → g k ≤ 1000) → nsum g n ≤ 1000 * n
  | 0, _ => Nat.le_refl _
  | n + 1, h => by
    have h1 := nsum_le n (fun k hk => h k (by omega))
    have h2 := h n (by omega)
    show nsum g n + g n ≤ 1000 * (n + 1)
    omega
theorem nsum_eq {g g' : Nat → Nat} : ∀ n : Nat, (∀ k, k < n → g k = g' k) → nsum g n = nsum g' n
  | 0, _ => rfl
  | n + 1, h => by
    show nsum g n + g n = nsum g' n + g' n
    rw [nsum_eq n (fun k hk => h k (by omega)), h n (by omega)]
theorem Wei.le {M : Tb} (h : Wei M) {i : Nat} (hi : i < 24) (hm : ¬ M 0 i = 0) : wt M i ≤ M 1 i := by
  obtain ⟨n, g, r, n10, h5, hg, r10, h1, hs⟩ := h i hi hm
  rw [wt_n h5 n10, l_nsum n (fun k hk => (hg k hk).2), h1]
  exact nI_le hs (by omega)
theorem WRow.congr {M M' : Tb} {i : Nat} (h : WRow M i) (h0 : M' 0 i = M 0 i) (h1 : M' 1 i = M 1 i) (h5 : M' 5 i = M 5 i) (h8 : ∀ k, k < 10 → M' 8 (10 * i + k) = M 8 (10 * i + k)) : WRow M' i := by
  intro hm
  rw [h0] at hm
  obtain ⟨n, g, r, n10, a5, hg, r10, a1, hs⟩ := h hm
  exact ⟨n, g, r, n10, by rw [h5]; exact a5, fun k hk => ⟨(hg k hk).1, by rw [h8 k (by omega)]; exact (hg k hk).2⟩, r10, by rw [h1]; exact a1, hs⟩
theorem v_rm {M : Tb} (h : Wei M) {j q : Nat} (hq : M 5 j = nI (q + 1)) (hq10 : q < 10) : Wei (rmS M j) := by
  intro i hi
  by_cases hij : i = j
  · subst hij
    intro hm
    obtain ⟨n, g, r, n10, a5, hg, r10, a1, hs⟩ := h i hi hm
    have hn : n = q + 1 := by
      rw [a5] at hq
      exact (nI_eq (by omega) (by omega)).mp hq
    subst hn
    refine ⟨q, g, r, by omega, by rw [rmS, sU_self, hq, nI_pred], fun k hk => hg k (by omega), r10, a1, ?_⟩
    have : nsum g (q + 1) = nsum g q + g q := rfl
    omega
  · exact (h i hi).congr rfl rfl (by rw [rmS, sU_oj M 5 5 _ hij]) (fun k hk => rfl)
/-- what a locker takes: the weight of an item, within its room -/
theorem v_ac {M : Tb} (h : Wei M) {j x : Nat} (hj : j < 24) (hm0 : ¬ M 0 j = 0) (hx : x ≤ 1000) (hk : okA M j (nI x) = true) : Wei (acS M j (nI x)) := by
  intro i hi
  obtain ⟨n, g, r, n10, a5, hg, r10, a1, hs⟩ := h j hj hm0
  have hn : n < 10 := okA_lt a5 n10 hk
  have cl : (nI n).toNatClampNeg = n := nI_clamp (by omega)
  by_cases hij : i = j
  · subst hij
    intro hm
    have hb := nsum_le n (fun k hk => (hg k hk).1)
    have hle : nsum g n + x ≤ r := by
      have h2 : wt M i + nI x ≤ M 1 i := by
        unfold okA at hk
        simp only [Bool.and_eq_true, decide_eq_true_eq] at hk
        exact hk.2
      rw [wt_n a5 n10, l_nsum n (fun k hk => (hg k hk).2), nI_add, a1] at h2
      exact (nI_leI (by omega) (by omega)).mp h2
    refine ⟨n + 1, fun k => if k = n then x else g k, r, by omega, by rw [ac_5, if_pos rfl, a5, nI_1], fun k hk => ?_, r10, by rw [ac_c M i _ (by decide) (by decide)]; exact a1, ?_⟩
    · by_cases hkn : k = n
      · refine ⟨?_, ?_⟩
        · show (if k = n then x else g k) ≤ 1000
          rw [if_pos hkn]; exact hx
        · show _ = nI (if k = n then x else g k)
          rw [ac_8, a5, cl, hkn, if_pos rfl, if_pos rfl]
      · refine ⟨?_, ?_⟩
        · show (if k = n then x else g k) ≤ 1000
          rw [if_neg hkn]; exact (hg k (by omega)).1
        · show _ = nI (if k = n then x else g k)
          rw [ac_8, a5, cl, if_neg (by omega), if_neg hkn]
          exact (hg k (by omega)).2
    · show nsum _ n + (if n = n then x else g n) ≤ r
      rw [if_pos rfl, nsum_eq (g' := g) n (fun k hk => by rw [if_neg (by omega)])]
      exact hle
  · refine (h i hi).congr (ac_c M j _ (by decide) (by decide) i) (ac_c M j _ (by decide) (by decide) i) (by rw [ac_5, if_neg hij]) (fun k hk => ?_)
    rw [ac_8, a5, cl, if_neg (by omega)]
theorem v_rmV {M : Tb} (h : Wei M) {j q : Nat} (hj : j < 24) (hm0 : ¬ M 0 j = 0) (hq : M 5 j = nI (q + 1)) (hq10 : q < 10) : ∃ x : Nat, x ≤ 1000 ∧ rmV M j = nI x := by
  obtain ⟨n, g, r, n10, a5, hg, -⟩ := h j hj hm0
  have hn : n = q + 1 := by
    rw [a5] at hq
    exact (nI_eq (by omega) (by omega)).mp hq
  refine ⟨g q, (hg q (by omega)).1, ?_⟩
  rw [rmV, hq, nI_pred, nI_clamp (by omega)]
  exact (hg q (by omega)).2
theorem v_ex {M : Tb} (h : Wei M) {i j : Nat} (hi : i < 24) (hj : j < 24) (mi : ¬ M 0 i = 0) (mj : ¬ M 0 j = 0) (c1 : ¬ M 1 j < wt M i) (c2 : wt M j ≤ M 1 i) : Wei (exS M i j) := by
  intro r hr
  obtain ⟨n, g, x, n10, a5, hg, x10, a1, hs⟩ := h i hi mi
  obtain ⟨n', g', x', n10', a5', hg', x10', a1', hs'⟩ := h j hj mj
  have b := nsum_le n (fun k hk => (hg k hk).1)
  have b' := nsum_le n' (fun k hk => (hg' k hk).1)
  have w1 : wt M i = nI (nsum g n) := by rw [wt_n a5 n10, l_nsum n (fun k hk => (hg k hk).2)]
  have w2 : wt M j = nI (nsum g' n') := by rw [wt_n a5' n10', l_nsum n' (fun k hk => (hg' k hk).2)]
  have le1 : nsum g n ≤ x' := by
    have := nlt_le c1
    rw [w1, a1'] at this
    exact (nI_leI (by omega) (by omega)).mp this
  have le2 : nsum g' n' ≤ x := by
    rw [w2, a1] at c2
    exact (nI_leI (by omega) (by omega)).mp c2
  by_cases hri : r = i
  · subst hri
    intro _
    exact ⟨n', g', x, n10', by rw [exS_5, if_pos rfl]; exact a5', fun k hk => ⟨(hg' k hk).1, by rw [exS_8i M r j (by omega)]; exact (hg' k hk).2⟩, x10, by rw [exS_c M r j (by decide) (by decide)]; exact a1, le2⟩
  · by_cases hrj : r = j
    · subst hrj
      intro _
      exact ⟨n, g, x', n10, by rw [exS_5, if_neg hri, if_pos rfl]; exact a5, fun k hk => ⟨(hg k hk).1, by rw [exS_8j M i r (by omega)]; exact (hg k hk).2⟩, x10', by rw [exS_c M i r (by decide) (by decide)]; exact a1', le1⟩
    · exact (h r hr).congr (exS_c M i j (by decide) (by decide) r) (exS_c M i j (by decide) (by decide) r) (by rw [exS_5, if_neg hri, if_neg hrj]) (fun k hk => exS_8o M i j hk hri hrj)
theorem isWt_of {w : Int32} (h : isWt w = true) : ∃ x : Nat, x ≤ 1000 ∧ w = nI x := by
  have hh : ¬ w < 1 ∧ ¬ (1000 : Int32) < w := by simpa [isWt] using h
  exact nI_of2 (M := 1000) (n := 1000) rfl (n1_0 hh.1) (nlt_le hh.2)
theorem v_open {M : Tb} (h : Wei M) (p1 p2 : Int32) : Wei (om_open M p1 p2).2 := by
  unfold om_open mj_open
  split
  · split
    · exact h
    · split
      · exact h
      · split
        · exact h
        · exact h
  · exact h
theorem v_shut {M : Tb} (h : Wei M) (p1 : Int32) : Wei (om_shut M p1).2 := by
  unfold om_shut mj_shut
  split
  · split
    · exact h
    · split
      · exact h
      · exact h
  · exact h
theorem v_put {S M : Tb} (R : Rel S M) (h : Wei M) (p1 p2 : Int32) : Wei (om_put M p1 p2).2 := by
  unfold om_put
  by_cases h1 : isH p1 = true
  · rw [if_pos h1]
    by_cases h2 : isWt p2 = true
    · rw [if_pos h2]
      obtain ⟨j, hj, rfl⟩ := isH_of h1
      obtain ⟨x, hx, rfl⟩ := isWt_of h2
      rw [cl24 hj]
      unfold mj_put
      by_cases h0 : M 0 j = 0
      · rw [if_pos h0]; exact h
      · rw [if_neg h0]
        by_cases h3 : M 3 j = 0
        · rw [if_pos h3]; exact h
        · rw [if_neg h3]
          by_cases hk : okA M j (nI x) = true
          · rw [if_pos hk]; exact v_ac h hj h0 hx hk
          · rw [if_neg hk]; exact h
    · rw [if_neg h2]; exact h
  · rw [if_neg h1]; exact h
theorem v_take {S M : Tb} (R : Rel S M) (h : Wei M) (p1 : Int32) : Wei (om_take M p1).2 := by
  unfold om_take
  by_cases h1 : isH p1 = true
  · rw [if_pos h1]
    obtain ⟨j, hj, rfl⟩ := isH_of h1
    rw [cl24 hj]
    unfold mj_take
    by_cases h0 : M 0 j = 0
    · rw [if_pos h0]; exact h
    · rw [if_neg h0]
      by_cases h3 : M 3 j = 0
      · rw [if_pos h3]; exact h
      · rw [if_neg h3]
        by_cases h5 : M 5 j = 0
        · rw [if_pos h5]; exact h
        · rw [if_neg h5]
          obtain ⟨n, n10, hn⟩ := R.invM j hj
          obtain ⟨q, q10, hq⟩ := n_succ hn n10 h5
          exact v_rm h hq q10
  · rw [if_neg h1]; exact h
theorem v_move {S M : Tb} (R : Rel S M) (h : Wei M) (p1 p2 : Int32) : Wei (om_move M p1 p2).2 := by
  unfold om_move
  by_cases h1 : isH p1 = true
  · rw [if_pos h1]
    by_cases h2 : isH p2 = true
    · rw [if_pos h2]
      obtain ⟨i, hi, rfl⟩ := isH_of h1
      obtain ⟨j, hj, rfl⟩ := isH_of h2
      rw [cl24 hi, cl24 hj]
      unfold mj_move
      by_cases m0 : M 0 i = 0
      · rw [if_pos m0]; exact h
      · rw [if_neg m0]
        by_cases m1 : M 0 j = 0
        · rw [if_pos m1]; exact h
        · rw [if_neg m1]
          by_cases h3 : M 3 i = 0
          · rw [if_pos h3]; exact h
          · rw [if_neg h3]
            by_cases h4 : M 3 j = 0
            · rw [if_pos h4]; exact h
            · rw [if_neg h4]
              by_cases h5 : M 5 i = 0
              · rw [if_pos h5]; exact h
              · rw [if_neg h5]
                obtain ⟨n, n10, hn⟩ := R.invM i hi
                obtain ⟨q, q10, hq⟩ := n_succ hn n10 h5
                obtain ⟨x, hx, ex⟩ := v_rmV h hi m0 hq q10
                by_cases hk : okA (rmS M i) j (rmV M i) = true
                · rw [if_pos hk]
                  rw [ex] at hk ⊢
                  exact v_ac (v_rm h hq q10) hj (show ¬ rmS M i 0 j = 0 from m1) hx hk
                · rw [if_neg hk, ac_rm M hq q10]; exact h
    · rw [if_neg h2]; exact h
  · rw [if_neg h1]; exact h
theorem v_swap {M : Tb} (h : Wei M) (p1 p2 : Int32) : Wei (om_swap M p1 p2).2 := by
  unfold om_swap
  by_cases h1 : isH p1 = true
  · rw [if_pos h1]
    by_cases h2 : isH p2 = true
    · rw [if_pos h2]
      obtain ⟨i, hi, rfl⟩ := isH_of h1
      obtain ⟨j, hj, rfl⟩ := isH_of h2
      rw [cl24 hi, cl24 hj]
      unfold mj_swap
      by_cases m0 : M 0 i = 0
      · rw [if_pos m0]; exact h
      · rw [if_neg m0]
        by_cases m1 : M 0 j = 0
        · rw [if_pos m1]; exact h
        · rw [if_neg m1]
          by_cases h3 : M 3 i = 0
          · rw [if_pos h3]; exact h
          · rw [if_neg h3]
            by_cases h4 : M 3 j = 0
            · rw [if_pos h4]; exact h
            · rw [if_neg h4]
              by_cases c1 : M 1 j < wt M i
              · rw [if_pos c1]; exact h
              · rw [if_neg c1]
                by_cases c2 : wt M j ≤ M 1 i
                · rw [if_pos c2, swM_eq]; exact v_ex h hi hj m0 m1 c1 c2
                · rw [if_neg c2]; exact h
    · rw [if_neg h2]; exact h
  · rw [if_neg h1]; exact h
theorem vf_find (w : Int32) : ∀ (d k : Nat) {M : Tb}, Wei M → Wei (mf_find w d k M).2
  | 0, _, _, h => h
  | d + 1, k, M, h => by
    unfold mf_find
    split
    · exact vf_find w d (k + 1) h
    · split
      · exact vf_find w d (k + 1) (M := ml M k 3) h
      · split
        · exact h
        · exact vf_find w d (k + 1) (M := ml M k 1) h
theorem v_find {M : Tb} (h : Wei M) (p1 : Int32) : Wei (om_find M p1).2 := by
  unfold om_find
  split
  · exact vf_find p1 24 0 h
  · exact h
theorem vf_first (w : Int32) : ∀ (d k : Nat) {M : Tb}, Wei M → Wei (mf_first w d k M).2
  | 0, _, _, h => h
  | d + 1, k, M, h => by
    unfold mf_first
    split
    · exact vf_first w d (k + 1) h
    · split
      · exact vf_first w d (k + 1) (M := ml M k 1) h
      · exact h
theorem v_first {M : Tb} (h : Wei M) (p1 : Int32) : Wei (om_first M p1).2 := by
  unfold om_first
  split
  · exact vf_first p1 24 0 h
  · exact h
theorem vf_tally : ∀ (d k : Nat) (z : Int64) {M : Tb}, Wei M → Wei (mf_tally d k z M).2
  | 0, _, _, _, h => h
  | d + 1, k, z, M, h => by
    unfold mf_tally
    split
    · exact vf_tally d (k + 1) z h
    · exact vf_tally d (k + 1) _ (M := ml M k 1) h
theorem v_tally {M : Tb} (h : Wei M) : Wei (om_tally M).2 := vf_tally 24 0 0 (M := sU M 9 0 (M 9 0 + 1)) h
theorem vf_let (i : Nat) (how : Int32) : ∀ (k : Nat) {M : Tb}, Wei M → Wei (mf_let i how k M)
  | 0, _, h => h
  | k + 1, M, h => vf_let i how k (M := ml M ((i + k) % 24) how) h
theorem v_weigh {M : Tb} (h : Wei M) (p1 p2 : Int32) : Wei (om_weigh M p1 p2).2 := by
  have h9 : Wei (sU M 9 0 (M 9 0 + 1)) := h
  unfold om_weigh mj_weigh
  split
  · split
    · exact h
    · split
      · split
        · exact vf_let _ _ _ h9
        · exact vf_let _ _ _ h9
      · exact h
  · exact h
theorem vf_drop (j : Nat) (hj : j < 24) (m : Int32) : ∀ (d : Nat) (g : Int32) {M : Tb}, Inv M → Wei M → Wei (of_drop j m d g M).2
  | 0, _, _, _, h => h
  | d + 1, g, M, hI, h => by
    unfold of_drop
    by_cases h1 : M 5 j ≤ 0
    · rw [if_pos h1]; exact h
    · obtain ⟨n, n10, hn⟩ := hI j hj
      obtain ⟨q, q10, hq⟩ := n_succ hn n10 (fun z => h1 (by rw [z]; decide))
      rw [if_neg h1]
      split
      · exact vf_drop j hj m d _ (hI.rm hq q10) (v_rm h hq q10)
      · exact v_rm h hq q10
theorem v_drop {S M : Tb} (R : Rel S M) (h : Wei M) (p1 p2 p3 : Int32) : Wei (om_drop M p1 p2 p3).2 := by
  unfold om_drop
  by_cases h1 : isH p1 = true
  · rw [if_pos h1]
    obtain ⟨j, hj, rfl⟩ := isH_of h1
    rw [cl24 hj]
    split
    · exact h
    · split
      · unfold mj_drop
        split
        · exact h
        · split
          · exact h
          · exact vf_drop j hj p3 _ 0 R.invM h
      · exact h
  · rw [if_neg h1]; exact h
theorem v_recode {M : Tb} (h : Wei M) (p1 p2 : Int32) : Wei (om_recode M p1 p2).2 := by
  unfold om_recode mj_recode
  split
  · split
    · exact h
    · split
      · exact h
      · exact h
  · exact h
theorem v_told {M : Tb} (h : Wei M) (p1 p2 : Int32) : Wei (om_told M p1 p2).2 := by
  unfold om_told
  repeat' split
  all_goals exact h
theorem v_item {M : Tb} (h : Wei M) (p1 p2 : Int32) : Wei (om_item M p1 p2).2 := by
  unfold om_item
  repeat' split
  all_goals exact h
theorem v_mount {M : Tb} (h : Wei M) (p1 p2 p3 : Int32) : Wei (om_mount M p1 p2 p3).2 := by
  unfold om_mount
  by_cases h1 : isH p1 = true
  · rw [if_pos h1]
    by_cases h2 : isWt p2 = true
    · rw [if_pos h2]
      obtain ⟨j, hj, rfl⟩ := isH_of h1
      obtain ⟨x, hx, rfl⟩ := isWt_of h2
      rw [cl24 hj]
      split
      · intro i hi
        by_cases hij : i = j
        · subst hij
          intro _
          exact ⟨0, fun _ => 0, x, by omega, by simp [sU, nI_0], fun k hk => absurd hk (by omega), hx, by simp [sU], Nat.zero_le _⟩
        · refine (h i hi).congr ?_ ?_ ?_ (fun k hk => rfl)
          · simp only [sU_oj _ _ 0 _ hij]
          · simp only [sU_oj _ _ 1 _ hij]
          · simp only [sU_oj _ _ 5 _ hij]
      · exact h
    · rw [if_neg h2]; exact h
  · rw [if_neg h1]; exact h
theorem v_unmount {M : Tb} (h : Wei M) (p1 : Int32) : Wei (om_unmount M p1).2 := by
  have h9 : Wei (sU M 9 0 (M 9 0 + 1)) := h
  generalize hM : sU M 9 0 (M 9 0 + 1) = M1 at h9
  unfold om_unmount
  rw [hM]
  by_cases h1 : isH p1 = true
  · rw [if_pos h1]
    obtain ⟨j, hj, rfl⟩ := isH_of h1
    rw [cl24 hj]
    unfold mj_unmount
    split
    · exact h9
    · split
      · intro i hi
        by_cases hij : i = j
        · subst hij
          intro hm
          exact absurd (by simp [ml, sU]) hm
        · refine (h9 i hi).congr ?_ rfl rfl (fun k hk => rfl)
          show sU M1 0 j 0 0 i = M1 0 i
          rw [sU_oj _ 0 0 _ hij]
      · exact h9
  · rw [if_neg h1]; exact h
end
section
/-! constructors of the wall and of the reference -/
abbrev tyl (cI cZ cQ : ClassId) : List (ClassId × FieldType) := [(cI, .int), (cZ, .boolean), (cQ, .object RX0)]
def P0 (D : va_G) (tys : List (ClassId × FieldType)) (A : Nat → Prop) (L : List Nat) (ev : Nat → va_E) (U : State) : Prop := va_P D vwCl (va_pl L ev) U.heap ∧ va_K D vwCl tys U ∧ va_D A (va_pl L ev) ∧ ∀ q, U.heap.size ≤ q → A q
theorem ne_in {x y : Nat} {L : List Nat} (h : x ∈ L) (hq : y ∉ L) : x ≠ y := fun w => hq (w ▸ h)
theorem ne_in' {x y : Nat} {L : List Nat} (h : y ∈ L) (hq : x ∉ L) : x ≠ y := fun w => hq (w ▸ h)
theorem RA_obj {U : State} {c1 c2 : ClassId} {C : String} (h1 : va_RA U c1 (.object C)) (h2 : va_RA U c2 (.object C)) : c1 = c2 := by
  obtain ⟨_, _, -, -, -, a1⟩ := h1
  obtain ⟨_, _, -, -, -, a2⟩ := h2
  rw [a1] at a2
  exact Option.some.inj a2
theorem va_pl_up {L : List Nat} {ev : Nat → va_E} {q : Nat} {v : va_E} (h : ev q = v) : va_up ev q v = ev := by
  funext r
  by_cases hr : r = q
  · subst hr; rw [va_up_self, h]
  · rw [va_up_ne _ _ hr]
set_option maxHeartbeats 800000 in
set_option maxRecDepth 100000 in
theorem c_X1_init (l : Launch) (D : va_G) (cI cZ cQ : ClassId) (A : Nat → Prop) (L : List Nat) (ev : Nat → va_E) (a : Nat) (ha : a ∈ L) (ea : ev a = .inr (1, [.null, .int 0])) : Met l yX1_init wsX1_init ({ frames := 1, cells := 1, slots := 24, locals := 30 }) (va_Pc [.ref a] (fun U => P0 D (tyl cI cZ cQ) A L ev U ∧ va_AO RX0 U)) (va_Qv (fun q : Nat => q ∉ L) (fun q t => P0 D (tyl cI cZ cQ) A (L ++ [q]) (va_up (va_up ev q (.inl (cQ, 24, .inr (.inr (.inr (.inr (fun _ => none))))))) a (.inr (1, [.ref q, .int 0]))) t) A) 1 24 A := by
  refine Met.ofW (cc := cX1_init) (maxL := 1) (ret := none) (by decide) rfl ?_
  intro p e s m args below meth c s₁ B hml hv
  obtain ⟨rfl, ⟨hP, hK, hD, hA⟩, hAO⟩ := hv
  have hx := B.exec
  have hb := B.bytes
  have hr := B.returns
  have hlocks := B.notSynchronized
  have hts := atoms_spec (ws := wsX1_init) B.pre
  have hown : s.vm.findClass RX1 = some m.cls := findClass_of_methodNamed B.named
  have hin : meth.name = "<init>" := (name_of_methodNamed B.named B.method).1
  have hS : va_S A s.heap s.heap [] := va_S.rf
  have hl := lv_entry ([.ref a]) (n := 1) (Nat.le_of_ble_eq_true rfl)
  rw [lg_entry_eq]
  generalize (lg_sl ([.ref a]) ++ List.replicate (1 - (lg_sl ([.ref a])).length) Slot.unset).toArray = ls at hl ⊢
  have hl : lv_has ls 1 [(0, .ref a)] := hl
  have hin1 : ∀ w ∈ wsX10, w ∈ wsX1_init := by decide +kernel
  refine lv_aload_n hx hb dX1_init_0 rfl (lv_at hl 0 rfl) ?_
  refine W.objInit hx hb hown (hts (.methodLink RX1 1 objectInit) (by decide +kernel)) (hts (.instanceMethod objectInit) (by decide +kernel)) (hts _ (List.mem_cons_of_mem _ (List.mem_append_left _ (List.mem_of_getElem? (i := 2) rfl)))) rfl (by rw [hml]; exact hl.1) rfl dX1_init_1 (Nat.le_of_ble_eq_true rfl) (Nat.le_of_ble_eq_true rfl) ?_
  refine W.eq (g2 := F0 m 4 ls []) rfl ?_
  refine lv_aload_n hx hb dX1_init_4 rfl (lv_at hl 0 rfl) ?_
  refine lv_bipush (v := 24) hx hb dX1_init_5 (by decide) ?_
  refine va_newq (C := RX0) (N' := 24) hx hb hown (hts (.classLink RX1 9 RX0) (by decide +kernel)) hAO hK hP hD hS hA (by decide) (by decide) (by decide) (Nat.le_of_ble_eq_true rfl) (Nat.le_of_ble_eq_true rfl) dX1_init_7 (fun q cA H hK1 hP hD hS => ?_)
  have hcA : cA = cQ := RA_obj (hK1.2 3 (cA, .object RX0) rfl).2 (hK.2 2 (cQ, .object RX0) rfl).2
  subst hcA
  have hq : q ∉ L := va_pl_fresh2 (X := []) (f := ev) hD
  have z := va_pl_push (f := ev) (e := .inl (cA, 24, .inr (.inr (.inr (.inr (fun _ => none)))))) hq
  rw [z] at hP hD
  have haq : a ≠ q := fun w => hq (w ▸ ha)
  have ha1 : a ∈ L ++ [q] := List.mem_append_left _ ha
  refine p_putF hx hb hts hin1 tyX1 tyX1_ok nmX1 hown hK hP hD hS ha1 ((va_up_ne _ _ haq).trans ea) rfl 0 (by decide) (hts (.fieldLink RX1 11 "LockerWall" "hooks" "[LLockerWall$Locker;") (by decide +kernel)) rfl rfl hin rfl rfl rfl (by simp) dX1_init_10 (fun H locs hP hD hS => ?_)
  refine lv_aload_n hx hb dX1_init_13 rfl (lv_at hl 0 rfl) ?_
  refine lv_iconst (v := 0) hx hb dX1_init_14 (by decide) ?_
  refine p_put hx hb hts hin1 tyX1 tyX1_ok nmX1 hown hK hP hD hS ha1 (va_up_self _ _ _) rfl 1 (by decide) (hts (.fieldLink RX1 15 "LockerWall" "latchHolds" "I") (by decide +kernel)) rfl rfl rfl rfl (by simp) dX1_init_15 (fun H locs hP hD hS => ?_)
  rw [bx_uu] at hP hD
  exact W.vret hx hb hr (fun t ht hW => ⟨⟨q, rfl, hq, by rw [ht]; exact hP, va_K.moved hW.alike hK, hD, fun r hr => hA r (Nat.le_trans hS.1 (by rw [ht] at hr; exact hr))⟩, hS.F ht⟩) hS.2.2 dX1_init_18
/-- the reference's arrays so far: k of them -/
def lsM (k : Nat) (qs : Nat → Nat) : List Value := [if 0 < k then .ref (qs 0) else .null, if 1 < k then .ref (qs 1) else .null, if 2 < k then .ref (qs 2) else .null, if 3 < k then .ref (qs 3) else .null, if 4 < k then .ref (qs 4) else .null, if 5 < k then .ref (qs 5) else .null, if 6 < k then .ref (qs 6) else .null, if 7 < k then .ref (qs 7) else .null, if 8 < k then .ref (qs 8) else .null, .int 0]
def arM (cI cZ : ClassId) (c : Nat) : va_E := .inl (if c = 0 ∨ c = 3 then cZ else cI, mln c, .inl (fun _ => 0))
def JM (cI cZ : ClassId) (a : Nat) (L0 : List Nat) (e0 : Nat → va_E) (k : Nat) (qs : Nat → Nat) (L : List Nat) (ev : Nat → va_E) : Prop :=
  (a ∈ L ∧ ev a = .inr (2, lsM k qs)) ∧ (∀ c, c < k → qs c ∈ L ∧ qs c ∉ L0 ∧ ev (qs c) = arM cI cZ c) ∧ (∀ c d, c < k → d < k → qs c = qs d → c = d) ∧ ∀ b, b ∈ L0 → b ∈ L ∧ (b ≠ a → ev b = e0 b)
theorem JM.step {cI cZ : ClassId} {a : Nat} {L0 L : List Nat} {e0 ev : Nat → va_E} {k q : Nat} {qs : Nat → Nat} {x : va_E} (h : JM cI cZ a L0 e0 k qs L ev) (ha0 : a ∈ L0) (hq : q ∉ L) (hx : x = arM cI cZ k) {fs : List Value} (hfs : fs = lsM (k + 1) (va_up qs k q)) :
    JM cI cZ a L0 e0 (k + 1) (va_up qs k q) (L ++ [q]) (va_up (va_up ev q x) a (.inr (2, fs))) := by
  obtain ⟨⟨h1, h2⟩, h3, h4, h5⟩ := h
  have haq : a ≠ q := fun w => hq (w ▸ h1)
  refine ⟨⟨List.mem_append_left _ h1, by rw [va_up_self, hfs]⟩, fun c hc => ?_, fun c d hc hd hcd => ?_, fun b hb => ⟨List.mem_append_left _ (h5 b hb).1, fun hba => ?_⟩⟩
  · by_cases hck : c = k
    · subst hck
      rw [va_up_self]
      refine ⟨List.mem_append_right _ (List.mem_singleton.mpr rfl), fun w => hq (h5 q w).1, ?_⟩
      rw [va_up_ne _ _ (Ne.symm haq), va_up_self, hx]
    · rw [va_up_ne _ _ hck]
      obtain ⟨g1, g2, g3⟩ := h3 c (by omega)
      refine ⟨List.mem_append_left _ g1, g2, ?_⟩
      rw [va_up_ne _ _ (ne_in' ha0 g2), va_up_ne _ _ (ne_in g1 hq)]
      exact g3
  · by_cases hck : c = k <;> by_cases hdk : d = k
    · omega
    · rw [hck, va_up_self, va_up_ne _ _ hdk] at hcd
      exact absurd (hcd ▸ (h3 d (by omega)).1) hq
    · rw [hdk, va_up_self, va_up_ne _ _ hck] at hcd
      exact absurd (hcd ▸ (h3 c (by omega)).1) hq
    · rw [va_up_ne _ _ hck, va_up_ne _ _ hdk] at hcd
      exact h4 c d (by omega) (by omega) hcd
  · rw [va_up_ne _ _ hba, va_up_ne _ _ (ne_in (h5 b hb).1 hq)]
    exact (h5 b hb).2 hba
theorem bytes24 : 24 * componentBytes FieldType.int ≤ 536870912 := by decide
theorem bytes24z : 24 * componentBytes FieldType.boolean ≤ 536870912 := by decide
theorem bytes240 : 240 * componentBytes FieldType.int ≤ 536870912 := by decide
-- THE REFERENCE
set_option maxHeartbeats 1600000 in
set_option maxRecDepth 100000 in
theorem c_X2_init (l : Launch) (D : va_G) (cI cZ cQ : ClassId) (A : Nat → Prop) (L0 : List Nat) (e0 : Nat → va_E) (a : Nat) (ha : a ∈ L0) (ea : e0 a = .inr (2, [.null, .null, .null, .null, .null, .null, .null, .null, .null, .int 0])) : Met l yX2_init wsX2_init ({ frames := 1, cells := 9, slots := 432, locals := 30 }) (va_Pc [.ref a] (fun U => P0 D (tyl cI cZ cQ) A L0 e0 U)) (va_Qv (fun u : (Nat → Nat) × List Nat × (Nat → va_E) => JM cI cZ a L0 e0 9 u.1 u.2.1 u.2.2) (fun u t => P0 D (tyl cI cZ cQ) A u.2.1 u.2.2 t) A) 9 432 A := by
  refine Met.ofW (cc := cX2_init) (maxL := 1) (ret := none) (by decide) rfl ?_
  intro p e s m args below meth c s₁ B hml hv
  obtain ⟨rfl, ⟨hP, hK, hD, hA⟩⟩ := hv
  have hx := B.exec
  have hb := B.bytes
  have hr := B.returns
  have hlocks := B.notSynchronized
  have hts := atoms_spec (ws := wsX2_init) B.pre
  have hown : s.vm.findClass RX2 = some m.cls := findClass_of_methodNamed B.named
  have hin : meth.name = "<init>" := (name_of_methodNamed B.named B.method).1
  have hS : va_S A s.heap s.heap [] := va_S.rf
  have hl := lv_entry ([.ref a]) (n := 1) (Nat.le_of_ble_eq_true rfl)
  rw [lg_entry_eq]
  generalize (lg_sl ([.ref a]) ++ List.replicate (1 - (lg_sl ([.ref a])).length) Slot.unset).toArray = ls at hl ⊢
  have hl : lv_has ls 1 [(0, .ref a)] := hl
  have hin2 : ∀ w ∈ wsX20, w ∈ wsX2_init := by decide +kernel
  have haI := hts (.arrayClass .int) (by decide +kernel)
  have haZ := hts (.arrayClass .boolean) (by decide +kernel)
  have J : JM cI cZ a L0 e0 0 (fun _ => 0) L0 e0 := ⟨⟨ha, by rw [ea]; rfl⟩, fun c hc => absurd hc (by omega), fun c d hc => absurd hc (by omega), fun b hb => ⟨hb, fun _ => rfl⟩⟩
  refine lv_aload_n hx hb dX2_init_0 rfl (lv_at hl 0 rfl) ?_
  refine W.objInit hx hb hown (hts (.methodLink RX2 1 objectInit) (by decide +kernel)) (hts (.instanceMethod objectInit) (by decide +kernel)) (hts _ (List.mem_cons_of_mem _ (List.mem_append_left _ (List.mem_of_getElem? (i := 2) rfl)))) rfl (by rw [hml]; exact hl.1) rfl dX2_init_1 (Nat.le_of_ble_eq_true rfl) (Nat.le_of_ble_eq_true rfl) ?_
  refine W.eq (g2 := F0 m 4 ls []) rfl ?_
  refine lv_aload_n hx hb dX2_init_4 rfl (lv_at hl 0 rfl) ?_
  refine lv_bipush (v := 24) hx hb dX2_init_5 (by decide) ?_
  refine va_newa (atype := .boolean) (ty := .boolean) (N' := 24) (a0 := (24, .inl (fun _ => 0))) hx hb haZ rfl hK hP hD hS hA (fun cA => rfl) (by decide) (by decide) bytes24z (Nat.le_of_ble_eq_true rfl) (Nat.le_of_ble_eq_true rfl) dX2_init_7 (fun q0 cA0 H hK1 hP hD hS => ?_)
  have hc0 : cA0 = cZ := RA_bool (hK1.2 3 (cA0, .boolean) rfl).2 (hK.2 1 (cZ, .boolean) rfl).2
  rw [hc0] at hP hD
  have hq0 : q0 ∉ L0 := va_pl_fresh2 (X := []) (f := e0) hD
  rw [va_pl_push (f := e0) (e := .inl (cZ, 24, .inl (fun _ => 0))) hq0] at hP hD
  refine p_putF hx hb hts hin2 tyX2 tyX2_ok nmX2 hown hK hP hD hS (List.mem_append_left _ J.1.1) ((va_up_ne _ _ (ne_in J.1.1 hq0)).trans J.1.2) rfl 0 (by decide) (hts (.fieldLink RX2 7 "LockerWallModel" "there" "[Z") (by decide +kernel)) rfl rfl hin rfl rfl rfl (by simp [lsM]) dX2_init_9 (fun H locs hP hD hS => ?_)
  have J := J.step (q := q0) (x := .inl (cZ, 24, .inl (fun _ => 0))) (fs := (lsM 0 (fun _ => 0)).set 0 (.ref q0)) ha hq0 rfl (by simp [lsM, va_up])
  generalize hev0 : va_up (va_up e0 q0 (.inl (cZ, 24, .inl (fun _ => 0)))) a (.inr (2, (lsM 0 (fun _ => 0)).set 0 (.ref q0))) = ev0 at hP hD J
  generalize hqs0 : va_up (fun _ => 0) 0 q0 = qs0 at J
  generalize hLL0 : L0 ++ [q0] = L1 at hP hD J
  refine lv_aload_n hx hb dX2_init_12 rfl (lv_at hl 0 rfl) ?_
  refine lv_bipush (v := 24) hx hb dX2_init_13 (by decide) ?_
  refine va_newa (atype := .int) (ty := .int) (N' := 24) (a0 := (24, .inl (fun _ => 0))) hx hb haI rfl hK hP hD hS hA (fun cA => rfl) (by decide) (by decide) bytes24 (Nat.le_of_ble_eq_true rfl) (Nat.le_of_ble_eq_true rfl) dX2_init_15 (fun q1 cA1 H hK1 hP hD hS => ?_)
  have hc1 : cA1 = cI := RA_int (hK1.2 3 (cA1, .int) rfl).2 (hK.2 0 (cI, .int) rfl).2
  rw [hc1] at hP hD
  have hq1 : q1 ∉ L1 := va_pl_fresh2 (X := []) (f := ev0) hD
  rw [va_pl_push (f := ev0) (e := .inl (cI, 24, .inl (fun _ => 0))) hq1] at hP hD
  refine p_putF hx hb hts hin2 tyX2 tyX2_ok nmX2 hown hK hP hD hS (List.mem_append_left _ J.1.1) ((va_up_ne _ _ (ne_in J.1.1 hq1)).trans J.1.2) rfl 1 (by decide) (hts (.fieldLink RX2 13 "LockerWallModel" "room" "[I") (by decide +kernel)) rfl rfl hin rfl rfl rfl (by simp [lsM]) dX2_init_17 (fun H locs hP hD hS => ?_)
  have J := J.step (q := q1) (x := .inl (cI, 24, .inl (fun _ => 0))) (fs := (lsM 1 qs0).set 1 (.ref q1)) ha hq1 rfl (by simp [lsM, va_up])
  generalize hev1 : va_up (va_up ev0 q1 (.inl (cI, 24, .inl (fun _ => 0)))) a (.inr (2, (lsM 1 qs0).set 1 (.ref q1))) = ev1 at hP hD J
  generalize hqs1 : va_up qs0 1 q1 = qs1 at J
  generalize hLL1 : L1 ++ [q1] = L2 at hP hD J
  refine lv_aload_n hx hb dX2_init_20 rfl (lv_at hl 0 rfl) ?_
  refine lv_bipush (v := 24) hx hb dX2_init_21 (by decide) ?_
  refine va_newa (atype := .int) (ty := .int) (N' := 24) (a0 := (24, .inl (fun _ => 0))) hx hb haI rfl hK hP hD hS hA (fun cA => rfl) (by decide) (by decide) bytes24 (Nat.le_of_ble_eq_true rfl) (Nat.le_of_ble_eq_true rfl) dX2_init_23 (fun q2 cA2 H hK1 hP hD hS => ?_)
  have hc2 : cA2 = cI := RA_int (hK1.2 3 (cA2, .int) rfl).2 (hK.2 0 (cI, .int) rfl).2
  rw [hc2] at hP hD
  have hq2 : q2 ∉ L2 := va_pl_fresh2 (X := []) (f := ev1) hD
  rw [va_pl_push (f := ev1) (e := .inl (cI, 24, .inl (fun _ => 0))) hq2] at hP hD
  refine p_putF hx hb hts hin2 tyX2 tyX2_ok nmX2 hown hK hP hD hS (List.mem_append_left _ J.1.1) ((va_up_ne _ _ (ne_in J.1.1 hq2)).trans J.1.2) rfl 2 (by decide) (hts (.fieldLink RX2 17 "LockerWallModel" "code" "[I") (by decide +kernel)) rfl rfl hin rfl rfl rfl (by simp [lsM]) dX2_init_25 (fun H locs hP hD hS => ?_)
  have J := J.step (q := q2) (x := .inl (cI, 24, .inl (fun _ => 0))) (fs := (lsM 2 qs1).set 2 (.ref q2)) ha hq2 rfl (by simp [lsM, va_up])
  generalize hev2 : va_up (va_up ev1 q2 (.inl (cI, 24, .inl (fun _ => 0)))) a (.inr (2, (lsM 2 qs1).set 2 (.ref q2))) = ev2 at hP hD J
  generalize hqs2 : va_up qs1 2 q2 = qs2 at J
  generalize hLL2 : L2 ++ [q2] = L3 at hP hD J
  refine lv_aload_n hx hb dX2_init_28 rfl (lv_at hl 0 rfl) ?_
  refine lv_bipush (v := 24) hx hb dX2_init_29 (by decide) ?_
  refine va_newa (atype := .boolean) (ty := .boolean) (N' := 24) (a0 := (24, .inl (fun _ => 0))) hx hb haZ rfl hK hP hD hS hA (fun cA => rfl) (by decide) (by decide) bytes24z (Nat.le_of_ble_eq_true rfl) (Nat.le_of_ble_eq_true rfl) dX2_init_31 (fun q3 cA3 H hK1 hP hD hS => ?_)
  have hc3 : cA3 = cZ := RA_bool (hK1.2 3 (cA3, .boolean) rfl).2 (hK.2 1 (cZ, .boolean) rfl).2
  rw [hc3] at hP hD
  have hq3 : q3 ∉ L3 := va_pl_fresh2 (X := []) (f := ev2) hD
  rw [va_pl_push (f := ev2) (e := .inl (cZ, 24, .inl (fun _ => 0))) hq3] at hP hD
  refine p_putF hx hb hts hin2 tyX2 tyX2_ok nmX2 hown hK hP hD hS (List.mem_append_left _ J.1.1) ((va_up_ne _ _ (ne_in J.1.1 hq3)).trans J.1.2) rfl 3 (by decide) (hts (.fieldLink RX2 20 "LockerWallModel" "open" "[Z") (by decide +kernel)) rfl rfl hin rfl rfl rfl (by simp [lsM]) dX2_init_33 (fun H locs hP hD hS => ?_)
  have J := J.step (q := q3) (x := .inl (cZ, 24, .inl (fun _ => 0))) (fs := (lsM 3 qs2).set 3 (.ref q3)) ha hq3 rfl (by simp [lsM, va_up])
  generalize hev3 : va_up (va_up ev2 q3 (.inl (cZ, 24, .inl (fun _ => 0)))) a (.inr (2, (lsM 3 qs2).set 3 (.ref q3))) = ev3 at hP hD J
  generalize hqs3 : va_up qs2 3 q3 = qs3 at J
  generalize hLL3 : L3 ++ [q3] = L4 at hP hD J
  refine lv_aload_n hx hb dX2_init_36 rfl (lv_at hl 0 rfl) ?_
  refine lv_bipush (v := 24) hx hb dX2_init_37 (by decide) ?_
  refine va_newa (atype := .int) (ty := .int) (N' := 24) (a0 := (24, .inl (fun _ => 0))) hx hb haI rfl hK hP hD hS hA (fun cA => rfl) (by decide) (by decide) bytes24 (Nat.le_of_ble_eq_true rfl) (Nat.le_of_ble_eq_true rfl) dX2_init_39 (fun q4 cA4 H hK1 hP hD hS => ?_)
  have hc4 : cA4 = cI := RA_int (hK1.2 3 (cA4, .int) rfl).2 (hK.2 0 (cI, .int) rfl).2
  rw [hc4] at hP hD
  have hq4 : q4 ∉ L4 := va_pl_fresh2 (X := []) (f := ev3) hD
  rw [va_pl_push (f := ev3) (e := .inl (cI, 24, .inl (fun _ => 0))) hq4] at hP hD
  refine p_putF hx hb hts hin2 tyX2 tyX2_ok nmX2 hown hK hP hD hS (List.mem_append_left _ J.1.1) ((va_up_ne _ _ (ne_in J.1.1 hq4)).trans J.1.2) rfl 4 (by decide) (hts (.fieldLink RX2 23 "LockerWallModel" "tries" "[I") (by decide +kernel)) rfl rfl hin rfl rfl rfl (by simp [lsM]) dX2_init_41 (fun H locs hP hD hS => ?_)
  have J := J.step (q := q4) (x := .inl (cI, 24, .inl (fun _ => 0))) (fs := (lsM 4 qs3).set 4 (.ref q4)) ha hq4 rfl (by simp [lsM, va_up])
  generalize hev4 : va_up (va_up ev3 q4 (.inl (cI, 24, .inl (fun _ => 0)))) a (.inr (2, (lsM 4 qs3).set 4 (.ref q4))) = ev4 at hP hD J
  generalize hqs4 : va_up qs3 4 q4 = qs4 at J
  generalize hLL4 : L4 ++ [q4] = L5 at hP hD J
  refine lv_aload_n hx hb dX2_init_44 rfl (lv_at hl 0 rfl) ?_
  refine lv_bipush (v := 24) hx hb dX2_init_45 (by decide) ?_
  refine va_newa (atype := .int) (ty := .int) (N' := 24) (a0 := (24, .inl (fun _ => 0))) hx hb haI rfl hK hP hD hS hA (fun cA => rfl) (by decide) (by decide) bytes24 (Nat.le_of_ble_eq_true rfl) (Nat.le_of_ble_eq_true rfl) dX2_init_47 (fun q5 cA5 H hK1 hP hD hS => ?_)
  have hc5 : cA5 = cI := RA_int (hK1.2 3 (cA5, .int) rfl).2 (hK.2 0 (cI, .int) rfl).2
  rw [hc5] at hP hD
  have hq5 : q5 ∉ L5 := va_pl_fresh2 (X := []) (f := ev4) hD
  rw [va_pl_push (f := ev4) (e := .inl (cI, 24, .inl (fun _ => 0))) hq5] at hP hD
  refine p_putF hx hb hts hin2 tyX2 tyX2_ok nmX2 hown hK hP hD hS (List.mem_append_left _ J.1.1) ((va_up_ne _ _ (ne_in J.1.1 hq5)).trans J.1.2) rfl 5 (by decide) (hts (.fieldLink RX2 26 "LockerWallModel" "many" "[I") (by decide +kernel)) rfl rfl hin rfl rfl rfl (by simp [lsM]) dX2_init_49 (fun H locs hP hD hS => ?_)
  have J := J.step (q := q5) (x := .inl (cI, 24, .inl (fun _ => 0))) (fs := (lsM 5 qs4).set 5 (.ref q5)) ha hq5 rfl (by simp [lsM, va_up])
  generalize hev5 : va_up (va_up ev4 q5 (.inl (cI, 24, .inl (fun _ => 0)))) a (.inr (2, (lsM 5 qs4).set 5 (.ref q5))) = ev5 at hP hD J
  generalize hqs5 : va_up qs4 5 q5 = qs5 at J
  generalize hLL5 : L5 ++ [q5] = L6 at hP hD J
  refine lv_aload_n hx hb dX2_init_52 rfl (lv_at hl 0 rfl) ?_
  refine lv_bipush (v := 24) hx hb dX2_init_53 (by decide) ?_
  refine va_newa (atype := .int) (ty := .int) (N' := 24) (a0 := (24, .inl (fun _ => 0))) hx hb haI rfl hK hP hD hS hA (fun cA => rfl) (by decide) (by decide) bytes24 (Nat.le_of_ble_eq_true rfl) (Nat.le_of_ble_eq_true rfl) dX2_init_55 (fun q6 cA6 H hK1 hP hD hS => ?_)
  have hc6 : cA6 = cI := RA_int (hK1.2 3 (cA6, .int) rfl).2 (hK.2 0 (cI, .int) rfl).2
  rw [hc6] at hP hD
  have hq6 : q6 ∉ L6 := va_pl_fresh2 (X := []) (f := ev5) hD
  rw [va_pl_push (f := ev5) (e := .inl (cI, 24, .inl (fun _ => 0))) hq6] at hP hD
  refine p_putF hx hb hts hin2 tyX2 tyX2_ok nmX2 hown hK hP hD hS (List.mem_append_left _ J.1.1) ((va_up_ne _ _ (ne_in J.1.1 hq6)).trans J.1.2) rfl 6 (by decide) (hts (.fieldLink RX2 29 "LockerWallModel" "holds" "[I") (by decide +kernel)) rfl rfl hin rfl rfl rfl (by simp [lsM]) dX2_init_57 (fun H locs hP hD hS => ?_)
  have J := J.step (q := q6) (x := .inl (cI, 24, .inl (fun _ => 0))) (fs := (lsM 6 qs5).set 6 (.ref q6)) ha hq6 rfl (by simp [lsM, va_up])
  generalize hev6 : va_up (va_up ev5 q6 (.inl (cI, 24, .inl (fun _ => 0)))) a (.inr (2, (lsM 6 qs5).set 6 (.ref q6))) = ev6 at hP hD J
  generalize hqs6 : va_up qs5 6 q6 = qs6 at J
  generalize hLL6 : L6 ++ [q6] = L7 at hP hD J
  refine lv_aload_n hx hb dX2_init_60 rfl (lv_at hl 0 rfl) ?_
  refine lv_bipush (v := 24) hx hb dX2_init_61 (by decide) ?_
  refine va_newa (atype := .int) (ty := .int) (N' := 24) (a0 := (24, .inl (fun _ => 0))) hx hb haI rfl hK hP hD hS hA (fun cA => rfl) (by decide) (by decide) bytes24 (Nat.le_of_ble_eq_true rfl) (Nat.le_of_ble_eq_true rfl) dX2_init_63 (fun q7 cA7 H hK1 hP hD hS => ?_)
  have hc7 : cA7 = cI := RA_int (hK1.2 3 (cA7, .int) rfl).2 (hK.2 0 (cI, .int) rfl).2
  rw [hc7] at hP hD
  have hq7 : q7 ∉ L7 := va_pl_fresh2 (X := []) (f := ev6) hD
  rw [va_pl_push (f := ev6) (e := .inl (cI, 24, .inl (fun _ => 0))) hq7] at hP hD
  refine p_putF hx hb hts hin2 tyX2 tyX2_ok nmX2 hown hK hP hD hS (List.mem_append_left _ J.1.1) ((va_up_ne _ _ (ne_in J.1.1 hq7)).trans J.1.2) rfl 7 (by decide) (hts (.fieldLink RX2 32 "LockerWallModel" "left" "[I") (by decide +kernel)) rfl rfl hin rfl rfl rfl (by simp [lsM]) dX2_init_65 (fun H locs hP hD hS => ?_)
  have J := J.step (q := q7) (x := .inl (cI, 24, .inl (fun _ => 0))) (fs := (lsM 7 qs6).set 7 (.ref q7)) ha hq7 rfl (by simp [lsM, va_up])
  generalize hev7 : va_up (va_up ev6 q7 (.inl (cI, 24, .inl (fun _ => 0)))) a (.inr (2, (lsM 7 qs6).set 7 (.ref q7))) = ev7 at hP hD J
  generalize hqs7 : va_up qs6 7 q7 = qs7 at J
  generalize hLL7 : L7 ++ [q7] = L8 at hP hD J
  refine lv_aload_n hx hb dX2_init_68 rfl (lv_at hl 0 rfl) ?_
  refine lv_sipush (v := 240) hx hb dX2_init_69 (by decide) ?_
  refine va_newa (atype := .int) (ty := .int) (N' := 240) (a0 := (240, .inl (fun _ => 0))) hx hb haI rfl hK hP hD hS hA (fun cA => rfl) (by decide) (by decide) bytes240 (Nat.le_of_ble_eq_true rfl) (Nat.le_of_ble_eq_true rfl) dX2_init_72 (fun q8 cA8 H hK1 hP hD hS => ?_)
  have hc8 : cA8 = cI := RA_int (hK1.2 3 (cA8, .int) rfl).2 (hK.2 0 (cI, .int) rfl).2
  rw [hc8] at hP hD
  have hq8 : q8 ∉ L8 := va_pl_fresh2 (X := []) (f := ev7) hD
  rw [va_pl_push (f := ev7) (e := .inl (cI, 240, .inl (fun _ => 0))) hq8] at hP hD
  refine p_putF hx hb hts hin2 tyX2 tyX2_ok nmX2 hown hK hP hD hS (List.mem_append_left _ J.1.1) ((va_up_ne _ _ (ne_in J.1.1 hq8)).trans J.1.2) rfl 8 (by decide) (hts (.fieldLink RX2 35 "LockerWallModel" "item" "[I") (by decide +kernel)) rfl rfl hin rfl rfl rfl (by simp [lsM]) dX2_init_74 (fun H locs hP hD hS => ?_)
  have J := J.step (q := q8) (x := .inl (cI, 240, .inl (fun _ => 0))) (fs := (lsM 8 qs7).set 8 (.ref q8)) ha hq8 rfl (by simp [lsM, va_up])
  generalize hev8 : va_up (va_up ev7 q8 (.inl (cI, 240, .inl (fun _ => 0)))) a (.inr (2, (lsM 8 qs7).set 8 (.ref q8))) = ev8 at hP hD J
  generalize hqs8 : va_up qs7 8 q8 = qs8 at J
  generalize hLL8 : L8 ++ [q8] = L9 at hP hD J
  exact W.vret hx hb hr (fun t ht hW => ⟨⟨(qs8, L9, ev8), rfl, J, by rw [ht]; exact hP, va_K.moved hW.alike hK, hD, fun r hr => hA r (Nat.le_trans hS.1 (by rw [ht] at hr; exact hr))⟩, hS.F ht⟩) hS.2.2 dX2_init_77
end
