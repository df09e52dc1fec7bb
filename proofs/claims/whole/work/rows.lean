section
-- ===== PART A: goes FIRST, ahead of the names: the tables' words, and 'selects' of the private methods out of them =====
/-- a private method of a class that the tables say can be made, by its rows of tables_1 -/
def lw_okq (q : MethodName × Nat) : Prop := (q.1.cls ≠ "java/lang/invoke/MethodHandle" ∧ q.1.cls ≠ "java/lang/invoke/VarHandle") ∧ Cond.instantiable q.1.cls q.2 ∈ tables_1 ∧ Cond.privateMethod q.1 ∈ tables_1 ∧ Cond.instanceMethod q.1 ∈ tables_1
theorem lw_p0 : lw_okq (⟨"SternDesk", "isTerm", "(I)Z"⟩, 2) := ⟨⟨by decide +kernel, by decide +kernel⟩, List.mem_of_getElem? (i := 11) (by decide +kernel), List.mem_of_getElem? (i := 105) (by decide +kernel), List.mem_of_getElem? (i := 106) (by decide +kernel)⟩
theorem lw_p1 : lw_okq (⟨"SternDesk$Rows", "countInside", "(III)I"⟩, 1) := ⟨⟨by decide +kernel, by decide +kernel⟩, List.mem_of_getElem? (i := 43) (by decide +kernel), List.mem_of_getElem? (i := 181) (by decide +kernel), List.mem_of_getElem? (i := 182) (by decide +kernel)⟩
theorem lw_p2 : lw_okq (⟨"SternDesk", "stepOn", "(II)V"⟩, 2) := ⟨⟨by decide +kernel, by decide +kernel⟩, List.mem_of_getElem? (i := 11) (by decide +kernel), List.mem_of_getElem? (i := 203) (by decide +kernel), List.mem_of_getElem? (i := 204) (by decide +kernel)⟩
theorem lw_p3 : lw_okq (⟨"java/lang/Throwable", "fillInStackTrace", "(I)Ljava/lang/Throwable;"⟩, 6) := ⟨⟨by decide +kernel, by decide +kernel⟩, List.mem_of_getElem? (i := 288) (by decide +kernel), List.mem_of_getElem? (i := 286) (by decide +kernel), List.mem_of_getElem? (i := 287) (by decide +kernel)⟩
theorem lw_p4 : lw_okq (⟨"SternDeskModel", "become", "(JJ)V"⟩, 11) := ⟨⟨by decide +kernel, by decide +kernel⟩, List.mem_of_getElem? (i := 351) (by decide +kernel), List.mem_of_getElem? (i := 403) (by decide +kernel), List.mem_of_getElem? (i := 404) (by decide +kernel)⟩
theorem lw_p5 : lw_okq (⟨"SternDeskModel", "findTerms", "()V"⟩, 11) := ⟨⟨by decide +kernel, by decide +kernel⟩, List.mem_of_getElem? (i := 351) (by decide +kernel), List.mem_of_getElem? (i := 418) (by decide +kernel), List.mem_of_getElem? (i := 419) (by decide +kernel)⟩
theorem lw_p6 : lw_okq (⟨"SternDeskModel", "walk", "()V"⟩, 11) := ⟨⟨by decide +kernel, by decide +kernel⟩, List.mem_of_getElem? (i := 351) (by decide +kernel), List.mem_of_getElem? (i := 434) (by decide +kernel), List.mem_of_getElem? (i := 435) (by decide +kernel)⟩
def lw_privs_1 : List (MethodName × Nat) := [(⟨"SternDesk", "isTerm", "(I)Z"⟩, 2), (⟨"SternDesk$Rows", "countInside", "(III)I"⟩, 1), (⟨"SternDesk", "stepOn", "(II)V"⟩, 2), (⟨"java/lang/Throwable", "fillInStackTrace", "(I)Ljava/lang/Throwable;"⟩, 6), (⟨"SternDeskModel", "become", "(JJ)V"⟩, 11), (⟨"SternDeskModel", "findTerms", "()V"⟩, 11), (⟨"SternDeskModel", "walk", "()V"⟩, 11)]
theorem lw_r1 : ∀ q ∈ lw_privs_1, lw_okq q := List.forall_mem_cons.mpr ⟨lw_p0, List.forall_mem_cons.mpr ⟨lw_p1, List.forall_mem_cons.mpr ⟨lw_p2, List.forall_mem_cons.mpr ⟨lw_p3, List.forall_mem_cons.mpr ⟨lw_p4, List.forall_mem_cons.mpr ⟨lw_p5, List.forall_mem_cons.mpr ⟨lw_p6, fun _ h => absurd h List.not_mem_nil⟩⟩⟩⟩⟩⟩⟩
def lw_privs : List (MethodName × Nat) := lw_privs_1
def lw_tbl : List Cond := k2_sels lw_privs ++ tables_1
theorem lw_privs_ok : ∀ q ∈ lw_privs, lw_okq q := lw_r1
-- ===== end of PART A; then your names; then what follows =====
/-! ===== BEGIN words of one list among another's, by their places ===== -/
theorem goodIn_r {big : List Cond} (ws : List Cond) (ps : List Nat) (hp : ws = ps.filterMap (fun i => big[i]?)) (h : ws.all goodWord = true) : GoodIn big ws := by
  intro w hw
  have h1 := List.all_eq_true.mp h w hw
  rw [hp] at hw
  obtain ⟨i, -, hi⟩ := List.mem_filterMap.mp hw
  have hm : w ∈ big := by first | exact List.mem_of_getElem? hi | exact List.getElem?_mem hi
  exact ⟨hm, good_of_word h1⟩
theorem goodIn_app {big a b : List Cond} (ha : GoodIn big a) (hb : GoodIn big b) : GoodIn big (a ++ b) := fun w h => (List.mem_append.mp h).elim (ha w) (hb w)
theorem goodIn_ca {big a b : List Cond} {c : Cond} (ha : GoodIn big (c :: a)) (hb : GoodIn big b) : GoodIn big (c :: (a ++ b)) := fun w h => (List.mem_cons.mp h).elim (fun e => ha w (List.mem_cons.mpr (Or.inl e))) (fun h => (List.mem_append.mp h).elim (fun h => ha w (List.mem_cons.mpr (Or.inr h))) (hb w))
theorem goodIn_sub {big ws : List Cond} (hm : ∀ w ∈ ws, w ∈ big) (h : ws.all goodWord = true) : GoodIn big ws := fun w hw => ⟨hm w hw, good_of_word (List.all_eq_true.mp h w hw)⟩
/-! ===== END ===== -/
end
section
def RX0 : String := "SternDesk$Expansion"
def TX0 : u_T := fun k => match k with
  | 0 => ("SternDesk$Expansion", "quotients", "[I", true)
  | 1 => ("SternDesk$Expansion", "tops", "[I", true)
  | 2 => ("SternDesk$Expansion", "bottoms", "[I", true)
  | _ => ("SternDesk$Expansion", "count", "I", false)
def tyX0 : Nat → FieldType := fun k => match k with
  | 0 => .array .int
  | 1 => .array .int
  | 2 => .array .int
  | _ => .int
abbrev wsX00 : List Cond := u_ws RX0 TX0 4
theorem nmX0 : ∀ a, a < 4 → ∀ b, b < 4 → a ≠ b → (TX0 a).2.1 ≠ (TX0 b).2.1 := by decide +kernel
theorem tyX0_ok : ∀ k, k < 4 → parseFieldDescriptor (TX0 k).2.2.1 = some (tyX0 k) := by decide +kernel
def RX1 : String := "SternDesk$Fraction"
def TX1 : u_T := fun k => match k with
  | 0 => ("SternDesk$Fraction", "top", "I", true)
  | _ => ("SternDesk$Fraction", "bottom", "I", true)
def tyX1 : Nat → FieldType := fun k => match k with
  | 0 => .int
  | _ => .int
abbrev wsX10 : List Cond := u_ws RX1 TX1 2
theorem nmX1 : ∀ a, a < 2 → ∀ b, b < 2 → a ≠ b → (TX1 a).2.1 ≠ (TX1 b).2.1 := by decide +kernel
theorem tyX1_ok : ∀ k, k < 2 → parseFieldDescriptor (TX1 k).2.2.1 = some (tyX1 k) := by decide +kernel
def RX2 : String := "SternDesk$Rows"
def TX2 : u_T := fun k => match k with
  | _ => ("SternDesk$Rows", "moebiusSums", "[I", true)
def tyX2 : Nat → FieldType := fun k => match k with
  | _ => .array .int
abbrev wsX20 : List Cond := u_ws RX2 TX2 1
theorem nmX2 : ∀ a, a < 1 → ∀ b, b < 1 → a ≠ b → (TX2 a).2.1 ≠ (TX2 b).2.1 := by decide +kernel
theorem tyX2_ok : ∀ k, k < 1 → parseFieldDescriptor (TX2 k).2.2.1 = some (tyX2 k) := by decide +kernel
def RX3 : String := "SternDesk"
def TX3 : u_T := fun k => match k with
  | 0 => ("SternDesk", "hand", "LSternDesk$Expansion;", true)
  | _ => ("SternDesk", "rows", "LSternDesk$Rows;", true)
def tyX3 : Nat → FieldType := fun k => match k with
  | 0 => .object "SternDesk$Expansion"
  | _ => .object "SternDesk$Rows"
abbrev wsX30 : List Cond := u_ws RX3 TX3 2
theorem nmX3 : ∀ a, a < 2 → ∀ b, b < 2 → a ≠ b → (TX3 a).2.1 ≠ (TX3 b).2.1 := by decide +kernel
theorem tyX3_ok : ∀ k, k < 2 → parseFieldDescriptor (TX3 k).2.2.1 = some (tyX3 k) := by decide +kernel
def RX4 : String := "SternDeskModel"
def TX4 : u_T := fun k => match k with
  | 0 => ("SternDeskModel", "thrown", "I", false)
  | 1 => ("SternDeskModel", "top", "I", false)
  | 2 => ("SternDeskModel", "bottom", "I", false)
  | 3 => ("SternDeskModel", "many", "I", false)
  | 4 => ("SternDeskModel", "terms", "[I", true)
  | 5 => ("SternDeskModel", "runs", "I", false)
  | 6 => ("SternDeskModel", "run", "[I", true)
  | 7 => ("SternDeskModel", "lowTop", "J", false)
  | 8 => ("SternDeskModel", "lowBottom", "J", false)
  | 9 => ("SternDeskModel", "highTop", "J", false)
  | _ => ("SternDeskModel", "highBottom", "J", false)
def tyX4 : Nat → FieldType := fun k => match k with
  | 0 => .int
  | 1 => .int
  | 2 => .int
  | 3 => .int
  | 4 => .array .int
  | 5 => .int
  | 6 => .array .int
  | 7 => .long
  | 8 => .long
  | 9 => .long
  | _ => .long
abbrev wsX40 : List Cond := u_ws RX4 TX4 11
theorem nmX4 : ∀ a, a < 11 → ∀ b, b < 11 → a ≠ b → (TX4 a).2.1 ≠ (TX4 b).2.1 := by decide +kernel
theorem tyX4_ok : ∀ k, k < 11 → parseFieldDescriptor (TX4 k).2.2.1 = some (tyX4 k) := by decide +kernel
abbrev vwCl : List vw_C := [(RX0, TX0, 4), (RX1, TX1, 2), (RX2, TX2, 1), (RX3, TX3, 2), (RX4, TX4, 11)]
end
section
abbrev cX0_init : ByteArray := prog_2_method_1_code
def yX0_init : MethodName := ⟨RX0, "<init>", "()V"⟩
abbrev cX0_top : ByteArray := prog_2_method_2_code
def yX0_top : MethodName := ⟨RX0, "top", "()I"⟩
abbrev cX0_bottom : ByteArray := prog_2_method_3_code
def yX0_bottom : MethodName := ⟨RX0, "bottom", "()I"⟩
abbrev cX0_topBefore : ByteArray := prog_2_method_4_code
def yX0_topBefore : MethodName := ⟨RX0, "topBefore", "()I"⟩
abbrev cX0_bottomBefore : ByteArray := prog_2_method_5_code
def yX0_bottomBefore : MethodName := ⟨RX0, "bottomBefore", "()I"⟩
abbrev cX0_startAnew : ByteArray := prog_2_method_6_code
def yX0_startAnew : MethodName := ⟨RX0, "startAnew", "()V"⟩
abbrev cX0_addTerm : ByteArray := prog_2_method_7_code
def yX0_addTerm : MethodName := ⟨RX0, "addTerm", "(I)V"⟩
abbrev cX0_expand : ByteArray := prog_2_method_8_code
def yX0_expand : MethodName := ⟨RX0, "expand", "(II)V"⟩
abbrev cX0_expandSimplest : ByteArray := prog_2_method_9_code
def yX0_expandSimplest : MethodName := ⟨RX0, "expandSimplest", "(IIII)V"⟩
abbrev cX0_countSteps : ByteArray := prog_2_method_10_code
def yX0_countSteps : MethodName := ⟨RX0, "countSteps", "()I"⟩
abbrev cX0_countRuns : ByteArray := prog_2_method_11_code
def yX0_countRuns : MethodName := ⟨RX0, "countRuns", "()I"⟩
abbrev cX0_firstTermWithSteps : ByteArray := prog_2_method_12_code
def yX0_firstTermWithSteps : MethodName := ⟨RX0, "firstTermWithSteps", "()I"⟩
abbrev cX0_stepsOfRun : ByteArray := prog_2_method_13_code
def yX0_stepsOfRun : MethodName := ⟨RX0, "stepsOfRun", "(I)I"⟩
abbrev cX0_neighbourAt : ByteArray := prog_2_method_14_code
def yX0_neighbourAt : MethodName := ⟨RX0, "neighbourAt", "(I)LSternDesk$Fraction;"⟩
abbrev cX0_nearWithin : ByteArray := prog_2_method_15_code
def yX0_nearWithin : MethodName := ⟨RX0, "nearWithin", "(II)LSternDesk$Fraction;"⟩
abbrev cX0_lastWithin : ByteArray := prog_2_method_16_code
def yX0_lastWithin : MethodName := ⟨RX0, "lastWithin", "(I)I"⟩
abbrev cX0_isLowerNearer : ByteArray := prog_2_method_17_code
def yX0_isLowerNearer : MethodName := ⟨RX0, "isLowerNearer", "(LSternDesk$Fraction;LSternDesk$Fraction;)Z"⟩
abbrev cX0_termsMakeIt : ByteArray := prog_2_method_18_code
def yX0_termsMakeIt : MethodName := ⟨RX0, "termsMakeIt", "()Z"⟩
abbrev cX0_convergentsAreClose : ByteArray := prog_2_method_19_code
def yX0_convergentsAreClose : MethodName := ⟨RX0, "convergentsAreClose", "()Z"⟩
abbrev cX0_wayLeadsToIt : ByteArray := prog_2_method_20_code
def yX0_wayLeadsToIt : MethodName := ⟨RX0, "wayLeadsToIt", "()Z"⟩
abbrev cX1_init : ByteArray := prog_3_method_1_code
def yX1_init : MethodName := ⟨RX1, "<init>", "(II)V"⟩
abbrev cX2_init : ByteArray := prog_4_method_1_code
def yX2_init : MethodName := ⟨RX2, "<init>", "()V"⟩
abbrev cX2_countAll : ByteArray := prog_4_method_2_code
def yX2_countAll : MethodName := ⟨RX2, "countAll", "(I)I"⟩
abbrev cX2_countBelow : ByteArray := prog_4_method_3_code
def yX2_countBelow : MethodName := ⟨RX2, "countBelow", "(III)I"⟩
abbrev cX2_countInside : ByteArray := prog_4_method_4_code
def yX2_countInside : MethodName := ⟨RX2, "countInside", "(III)I"⟩
abbrev cX2_columnOf : ByteArray := prog_4_method_5_code
def yX2_columnOf : MethodName := ⟨RX2, "columnOf", "(II)I"⟩
abbrev cX2_bottomBehind : ByteArray := prog_4_method_6_code
def yX2_bottomBehind : MethodName := ⟨RX2, "bottomBehind", "(III)I"⟩
abbrev cX3_sumOfFloors : ByteArray := prog_1_method_23_code
def yX3_sumOfFloors : MethodName := ⟨RX3, "sumOfFloors", "(JJJJ)J"⟩
def wsX0_init : List Cond := .code yX0_init cX0_init 1 none :: ([.methodLink RX0 3 objectInit, .instanceMethod objectInit, .code objectInit ⟨#[0xb1]⟩ 1 none, .arrayClass .int, .fieldLink RX0 9 "SternDesk$Expansion" "quotients" "[I", .fieldLink RX0 15 "SternDesk$Expansion" "tops" "[I", .fieldLink RX0 18 "SternDesk$Expansion" "bottoms" "[I"] ++ wsX00)
def wsX0_top : List Cond := .code yX0_top cX0_top 1 (some .int) :: ([.fieldLink RX0 15 "SternDesk$Expansion" "tops" "[I", .fieldLink RX0 21 "SternDesk$Expansion" "count" "I"] ++ wsX00)
def wsX0_bottom : List Cond := .code yX0_bottom cX0_bottom 1 (some .int) :: ([.fieldLink RX0 18 "SternDesk$Expansion" "bottoms" "[I", .fieldLink RX0 21 "SternDesk$Expansion" "count" "I"] ++ wsX00)
def wsX0_topBefore : List Cond := .code yX0_topBefore cX0_topBefore 1 (some .int) :: ([.fieldLink RX0 21 "SternDesk$Expansion" "count" "I", .fieldLink RX0 15 "SternDesk$Expansion" "tops" "[I"] ++ wsX00)
def wsX0_bottomBefore : List Cond := .code yX0_bottomBefore cX0_bottomBefore 1 (some .int) :: ([.fieldLink RX0 21 "SternDesk$Expansion" "count" "I", .fieldLink RX0 18 "SternDesk$Expansion" "bottoms" "[I"] ++ wsX00)
def wsX0_startAnew : List Cond := .code yX0_startAnew cX0_startAnew 1 none :: ([.fieldLink RX0 21 "SternDesk$Expansion" "count" "I", .fieldLink RX0 15 "SternDesk$Expansion" "tops" "[I", .fieldLink RX0 18 "SternDesk$Expansion" "bottoms" "[I"] ++ wsX00)
def wsX0_addTerm : List Cond := .code yX0_addTerm cX0_addTerm 4 none :: ([.fieldLink RX0 21 "SternDesk$Expansion" "count" "I", .fieldLink RX0 9 "SternDesk$Expansion" "quotients" "[I", .fieldLink RX0 15 "SternDesk$Expansion" "tops" "[I", .fieldLink RX0 18 "SternDesk$Expansion" "bottoms" "[I", .methodLink RX0 25 yX0_top, .instanceMethod yX0_top, .selects RX0 yX0_top yX0_top, .initialized RX0, .code yX0_top cX0_top 1 (some .int), .methodLink RX0 29 yX0_topBefore, .instanceMethod yX0_topBefore, .selects RX0 yX0_topBefore yX0_topBefore, .code yX0_topBefore cX0_topBefore 1 (some .int), .methodLink RX0 32 yX0_bottom, .instanceMethod yX0_bottom, .selects RX0 yX0_bottom yX0_bottom, .code yX0_bottom cX0_bottom 1 (some .int), .methodLink RX0 35 yX0_bottomBefore, .instanceMethod yX0_bottomBefore, .selects RX0 yX0_bottomBefore yX0_bottomBefore, .code yX0_bottomBefore cX0_bottomBefore 1 (some .int)] ++ wsX00)
def wsX0_expand_r1 : List Cond := [Cond.methodLink RX0 38 yX0_startAnew, Cond.instanceMethod yX0_startAnew, Cond.selects RX0 yX0_startAnew yX0_startAnew, Cond.initialized RX0, Cond.code yX0_startAnew cX0_startAnew 1 none, Cond.fieldLink RX0 21 "SternDesk$Expansion" "count" "I", Cond.fieldLink RX0 15 "SternDesk$Expansion" "tops" "[I", Cond.fieldLink RX0 18 "SternDesk$Expansion" "bottoms" "[I", Cond.methodLink RX0 41 yX0_addTerm, Cond.instanceMethod yX0_addTerm, Cond.selects RX0 yX0_addTerm yX0_addTerm, Cond.code yX0_addTerm cX0_addTerm 4 none, Cond.fieldLink RX0 9 "SternDesk$Expansion" "quotients" "[I", Cond.methodLink RX0 25 yX0_top, Cond.instanceMethod yX0_top, Cond.selects RX0 yX0_top yX0_top, Cond.code yX0_top cX0_top 1 (some .int), Cond.methodLink RX0 29 yX0_topBefore, Cond.instanceMethod yX0_topBefore, Cond.selects RX0 yX0_topBefore yX0_topBefore, Cond.code yX0_topBefore cX0_topBefore 1 (some .int), Cond.methodLink RX0 32 yX0_bottom, Cond.instanceMethod yX0_bottom, Cond.selects RX0 yX0_bottom yX0_bottom]
def wsX0_expand_r2 : List Cond := [Cond.code yX0_bottom cX0_bottom 1 (some .int), Cond.methodLink RX0 35 yX0_bottomBefore, Cond.instanceMethod yX0_bottomBefore, Cond.selects RX0 yX0_bottomBefore yX0_bottomBefore, Cond.code yX0_bottomBefore cX0_bottomBefore 1 (some .int)]
def wsX0_expand : List Cond := .code yX0_expand cX0_expand 8 none :: ((wsX0_expand_r1 ++ wsX0_expand_r2) ++ wsX00)
def wsX0_expandSimplest_r1 : List Cond := [Cond.methodLink RX0 38 yX0_startAnew, Cond.instanceMethod yX0_startAnew, Cond.selects RX0 yX0_startAnew yX0_startAnew, Cond.initialized RX0, Cond.code yX0_startAnew cX0_startAnew 1 none, Cond.fieldLink RX0 21 "SternDesk$Expansion" "count" "I", Cond.fieldLink RX0 15 "SternDesk$Expansion" "tops" "[I", Cond.fieldLink RX0 18 "SternDesk$Expansion" "bottoms" "[I", Cond.methodLink RX0 41 yX0_addTerm, Cond.instanceMethod yX0_addTerm, Cond.selects RX0 yX0_addTerm yX0_addTerm, Cond.code yX0_addTerm cX0_addTerm 4 none, Cond.fieldLink RX0 9 "SternDesk$Expansion" "quotients" "[I", Cond.methodLink RX0 25 yX0_top, Cond.instanceMethod yX0_top, Cond.selects RX0 yX0_top yX0_top, Cond.code yX0_top cX0_top 1 (some .int), Cond.methodLink RX0 29 yX0_topBefore, Cond.instanceMethod yX0_topBefore, Cond.selects RX0 yX0_topBefore yX0_topBefore, Cond.code yX0_topBefore cX0_topBefore 1 (some .int), Cond.methodLink RX0 32 yX0_bottom, Cond.instanceMethod yX0_bottom, Cond.selects RX0 yX0_bottom yX0_bottom]
def wsX0_expandSimplest_r2 : List Cond := [Cond.code yX0_bottom cX0_bottom 1 (some .int), Cond.methodLink RX0 35 yX0_bottomBefore, Cond.instanceMethod yX0_bottomBefore, Cond.selects RX0 yX0_bottomBefore yX0_bottomBefore, Cond.code yX0_bottomBefore cX0_bottomBefore 1 (some .int)]
def wsX0_expandSimplest : List Cond := .code yX0_expandSimplest cX0_expandSimplest 10 none :: ((wsX0_expandSimplest_r1 ++ wsX0_expandSimplest_r2) ++ wsX00)
def wsX0_countSteps : List Cond := .code yX0_countSteps cX0_countSteps 3 (some .int) :: ([.fieldLink RX0 21 "SternDesk$Expansion" "count" "I", .fieldLink RX0 9 "SternDesk$Expansion" "quotients" "[I"] ++ wsX00)
def wsX0_firstTermWithSteps : List Cond := .code yX0_firstTermWithSteps cX0_firstTermWithSteps 1 (some .int) :: ([.fieldLink RX0 9 "SternDesk$Expansion" "quotients" "[I"] ++ wsX00)
def wsX0_countRuns : List Cond := .code yX0_countRuns cX0_countRuns 1 (some .int) :: ([.fieldLink RX0 21 "SternDesk$Expansion" "count" "I", .methodLink RX0 25 yX0_top, .instanceMethod yX0_top, .selects RX0 yX0_top yX0_top, .initialized RX0, .code yX0_top cX0_top 1 (some .int), .fieldLink RX0 15 "SternDesk$Expansion" "tops" "[I", .methodLink RX0 32 yX0_bottom, .instanceMethod yX0_bottom, .selects RX0 yX0_bottom yX0_bottom, .code yX0_bottom cX0_bottom 1 (some .int), .fieldLink RX0 18 "SternDesk$Expansion" "bottoms" "[I", .methodLink RX0 45 yX0_firstTermWithSteps, .instanceMethod yX0_firstTermWithSteps, .selects RX0 yX0_firstTermWithSteps yX0_firstTermWithSteps, .code yX0_firstTermWithSteps cX0_firstTermWithSteps 1 (some .int), .fieldLink RX0 9 "SternDesk$Expansion" "quotients" "[I"] ++ wsX00)
def wsX0_stepsOfRun : List Cond := .code yX0_stepsOfRun cX0_stepsOfRun 4 (some .int) :: ([.fieldLink RX0 21 "SternDesk$Expansion" "count" "I", .fieldLink RX0 9 "SternDesk$Expansion" "quotients" "[I", .methodLink RX0 45 yX0_firstTermWithSteps, .instanceMethod yX0_firstTermWithSteps, .selects RX0 yX0_firstTermWithSteps yX0_firstTermWithSteps, .initialized RX0, .code yX0_firstTermWithSteps cX0_firstTermWithSteps 1 (some .int)] ++ wsX00)
def wsX1_init : List Cond := .code yX1_init cX1_init 3 none :: ([.methodLink RX1 1 objectInit, .instanceMethod objectInit, .code objectInit ⟨#[0xb1]⟩ 1 none, .fieldLink RX1 7 "SternDesk$Fraction" "top" "I", .fieldLink RX1 13 "SternDesk$Fraction" "bottom" "I"] ++ wsX10)
def wsX0_neighbourAt_r1 : List Cond := [Cond.fieldLink RX0 21 "SternDesk$Expansion" "count" "I", Cond.classLink RX0 48 RX1, Cond.instantiable RX1 2, Cond.initialized RX1, Cond.methodLink RX0 29 yX0_topBefore, Cond.instanceMethod yX0_topBefore, Cond.selects RX0 yX0_topBefore yX0_topBefore, Cond.initialized RX0, Cond.code yX0_topBefore cX0_topBefore 1 (some .int), Cond.fieldLink RX0 15 "SternDesk$Expansion" "tops" "[I", Cond.methodLink RX0 35 yX0_bottomBefore, Cond.instanceMethod yX0_bottomBefore, Cond.selects RX0 yX0_bottomBefore yX0_bottomBefore, Cond.code yX0_bottomBefore cX0_bottomBefore 1 (some .int), Cond.fieldLink RX0 18 "SternDesk$Expansion" "bottoms" "[I", Cond.methodLink RX0 50 yX1_init, Cond.instanceMethod yX1_init, Cond.code yX1_init cX1_init 3 none, Cond.methodLink RX1 1 objectInit, Cond.instanceMethod objectInit, Cond.code objectInit ⟨#[0xb1]⟩ 1 none, Cond.fieldLink RX1 7 "SternDesk$Fraction" "top" "I", Cond.fieldLink RX1 13 "SternDesk$Fraction" "bottom" "I", Cond.methodLink RX0 25 yX0_top]
def wsX0_neighbourAt_r2 : List Cond := [Cond.instanceMethod yX0_top, Cond.selects RX0 yX0_top yX0_top, Cond.code yX0_top cX0_top 1 (some .int), Cond.methodLink RX0 32 yX0_bottom, Cond.instanceMethod yX0_bottom, Cond.selects RX0 yX0_bottom yX0_bottom, Cond.code yX0_bottom cX0_bottom 1 (some .int)]
def wsX0_neighbourAt : List Cond := .code yX0_neighbourAt cX0_neighbourAt 2 (some (.object "SternDesk$Fraction")) :: ((wsX0_neighbourAt_r1 ++ wsX0_neighbourAt_r2) ++ wsX00 ++ wsX10)
def wsX0_lastWithin : List Cond := .code yX0_lastWithin cX0_lastWithin 4 (some .int) :: ([.fieldLink RX0 21 "SternDesk$Expansion" "count" "I", .fieldLink RX0 18 "SternDesk$Expansion" "bottoms" "[I"] ++ wsX00)
def wsX0_isLowerNearer : List Cond := .code yX0_isLowerNearer cX0_isLowerNearer 7 (some .boolean) :: ([.fieldLink RX0 57 "SternDesk$Fraction" "bottom" "I", .fieldLink RX0 59 "SternDesk$Fraction" "top" "I", .methodLink RX0 25 yX0_top, .instanceMethod yX0_top, .selects RX0 yX0_top yX0_top, .initialized RX0, .code yX0_top cX0_top 1 (some .int), .fieldLink RX0 15 "SternDesk$Expansion" "tops" "[I", .fieldLink RX0 21 "SternDesk$Expansion" "count" "I", .methodLink RX0 32 yX0_bottom, .instanceMethod yX0_bottom, .selects RX0 yX0_bottom yX0_bottom, .code yX0_bottom cX0_bottom 1 (some .int), .fieldLink RX0 18 "SternDesk$Expansion" "bottoms" "[I"] ++ wsX10 ++ wsX00)
def wsX0_nearWithin_r1 : List Cond := [Cond.classLink RX0 48 RX1, Cond.instantiable RX1 2, Cond.initialized RX1, Cond.fieldLink RX0 15 "SternDesk$Expansion" "tops" "[I", Cond.fieldLink RX0 18 "SternDesk$Expansion" "bottoms" "[I", Cond.fieldLink RX0 57 "SternDesk$Fraction" "bottom" "I", Cond.fieldLink RX0 59 "SternDesk$Fraction" "top" "I", Cond.methodLink RX0 53 yX0_lastWithin, Cond.instanceMethod yX0_lastWithin, Cond.selects RX0 yX0_lastWithin yX0_lastWithin, Cond.initialized RX0, Cond.code yX0_lastWithin cX0_lastWithin 4 (some .int), Cond.fieldLink RX0 21 "SternDesk$Expansion" "count" "I", Cond.methodLink RX0 50 yX1_init, Cond.instanceMethod yX1_init, Cond.code yX1_init cX1_init 3 none, Cond.methodLink RX1 1 objectInit, Cond.instanceMethod objectInit, Cond.code objectInit ⟨#[0xb1]⟩ 1 none, Cond.fieldLink RX1 7 "SternDesk$Fraction" "top" "I", Cond.fieldLink RX1 13 "SternDesk$Fraction" "bottom" "I", Cond.methodLink RX0 61 yX0_isLowerNearer, Cond.instanceMethod yX0_isLowerNearer, Cond.selects RX0 yX0_isLowerNearer yX0_isLowerNearer]
def wsX0_nearWithin_r2 : List Cond := [Cond.code yX0_isLowerNearer cX0_isLowerNearer 7 (some .boolean), Cond.methodLink RX0 25 yX0_top, Cond.instanceMethod yX0_top, Cond.selects RX0 yX0_top yX0_top, Cond.code yX0_top cX0_top 1 (some .int), Cond.methodLink RX0 32 yX0_bottom, Cond.instanceMethod yX0_bottom, Cond.selects RX0 yX0_bottom yX0_bottom, Cond.code yX0_bottom cX0_bottom 1 (some .int)]
def wsX0_nearWithin : List Cond := .code yX0_nearWithin cX0_nearWithin 10 (some (.object "SternDesk$Fraction")) :: ((wsX0_nearWithin_r1 ++ wsX0_nearWithin_r2) ++ wsX10 ++ wsX00)
def wsX0_termsMakeIt : List Cond := .code yX0_termsMakeIt cX0_termsMakeIt 8 (some .boolean) :: ([.fieldLink RX0 21 "SternDesk$Expansion" "count" "I", .fieldLink RX0 9 "SternDesk$Expansion" "quotients" "[I", .methodLink RX0 25 yX0_top, .instanceMethod yX0_top, .selects RX0 yX0_top yX0_top, .initialized RX0, .code yX0_top cX0_top 1 (some .int), .fieldLink RX0 15 "SternDesk$Expansion" "tops" "[I", .methodLink RX0 32 yX0_bottom, .instanceMethod yX0_bottom, .selects RX0 yX0_bottom yX0_bottom, .code yX0_bottom cX0_bottom 1 (some .int), .fieldLink RX0 18 "SternDesk$Expansion" "bottoms" "[I"] ++ wsX00)
def wsX0_convergentsAreClose : List Cond := .code yX0_convergentsAreClose cX0_convergentsAreClose 4 (some .boolean) :: ([.fieldLink RX0 21 "SternDesk$Expansion" "count" "I", .fieldLink RX0 15 "SternDesk$Expansion" "tops" "[I", .fieldLink RX0 18 "SternDesk$Expansion" "bottoms" "[I", .constantLong RX0 65 (-1)] ++ wsX00)
def wsX0_wayLeadsToIt_r1 : List Cond := [Cond.methodLink RX0 25 yX0_top, Cond.instanceMethod yX0_top, Cond.selects RX0 yX0_top yX0_top, Cond.initialized RX0, Cond.code yX0_top cX0_top 1 (some .int), Cond.fieldLink RX0 15 "SternDesk$Expansion" "tops" "[I", Cond.fieldLink RX0 21 "SternDesk$Expansion" "count" "I", Cond.methodLink RX0 67 yX0_countRuns, Cond.instanceMethod yX0_countRuns, Cond.selects RX0 yX0_countRuns yX0_countRuns, Cond.code yX0_countRuns cX0_countRuns 1 (some .int), Cond.methodLink RX0 32 yX0_bottom, Cond.instanceMethod yX0_bottom, Cond.selects RX0 yX0_bottom yX0_bottom, Cond.code yX0_bottom cX0_bottom 1 (some .int), Cond.fieldLink RX0 18 "SternDesk$Expansion" "bottoms" "[I", Cond.methodLink RX0 45 yX0_firstTermWithSteps, Cond.instanceMethod yX0_firstTermWithSteps, Cond.selects RX0 yX0_firstTermWithSteps yX0_firstTermWithSteps, Cond.code yX0_firstTermWithSteps cX0_firstTermWithSteps 1 (some .int), Cond.fieldLink RX0 9 "SternDesk$Expansion" "quotients" "[I", Cond.methodLink RX0 70 yX0_stepsOfRun, Cond.instanceMethod yX0_stepsOfRun, Cond.selects RX0 yX0_stepsOfRun yX0_stepsOfRun]
def wsX0_wayLeadsToIt_r2 : List Cond := [Cond.code yX0_stepsOfRun cX0_stepsOfRun 4 (some .int)]
def wsX0_wayLeadsToIt : List Cond := .code yX0_wayLeadsToIt cX0_wayLeadsToIt 12 (some .boolean) :: ((wsX0_wayLeadsToIt_r1 ++ wsX0_wayLeadsToIt_r2) ++ wsX00)
def wsX2_init : List Cond := .code yX2_init cX2_init 3 none :: ([.methodLink RX2 3 objectInit, .instanceMethod objectInit, .code objectInit ⟨#[0xb1]⟩ 1 none, .arrayClass .int, .fieldLink RX2 9 "SternDesk$Rows" "moebiusSums" "[I"] ++ wsX20)
def wsX3_sumOfFloors : List Cond := .code yX3_sumOfFloors cX3_sumOfFloors 15 (some .long) :: ([.constantLong RX3 132 (2)])
def wsX2_countInside : List Cond := .code yX2_countInside cX2_countInside 10 (some .int) :: ([.fieldLink RX2 9 "SternDesk$Rows" "moebiusSums" "[I", .static yX3_sumOfFloors, .initialized RX3, .code yX3_sumOfFloors cX3_sumOfFloors 15 (some .long), .constantLong RX3 132 (2)] ++ wsX20)
def wsX2_countAll : List Cond := .code yX2_countAll cX2_countAll 2 (some .int) :: ([.methodLink RX2 15 yX2_countInside, .instanceMethod yX2_countInside, .selects RX2 yX2_countInside yX2_countInside, .initialized RX2, .code yX2_countInside cX2_countInside 10 (some .int), .fieldLink RX2 9 "SternDesk$Rows" "moebiusSums" "[I", .static yX3_sumOfFloors, .initialized RX3, .code yX3_sumOfFloors cX3_sumOfFloors 15 (some .long), .constantLong RX3 132 (2)] ++ wsX20)
def wsX2_countBelow : List Cond := .code yX2_countBelow cX2_countBelow 4 (some .int) :: ([.methodLink RX2 19 yX2_countAll, .instanceMethod yX2_countAll, .selects RX2 yX2_countAll yX2_countAll, .initialized RX2, .code yX2_countAll cX2_countAll 2 (some .int), .methodLink RX2 15 yX2_countInside, .instanceMethod yX2_countInside, .selects RX2 yX2_countInside yX2_countInside, .code yX2_countInside cX2_countInside 10 (some .int), .fieldLink RX2 9 "SternDesk$Rows" "moebiusSums" "[I", .static yX3_sumOfFloors, .initialized RX3, .code yX3_sumOfFloors cX3_sumOfFloors 15 (some .long), .constantLong RX3 132 (2)] ++ wsX20)
def wsX2_columnOf : List Cond := .code yX2_columnOf cX2_columnOf 7 (some .int) :: ([.methodLink RX2 27 yX2_countBelow, .instanceMethod yX2_countBelow, .selects RX2 yX2_countBelow yX2_countBelow, .initialized RX2, .code yX2_countBelow cX2_countBelow 4 (some .int), .methodLink RX2 19 yX2_countAll, .instanceMethod yX2_countAll, .selects RX2 yX2_countAll yX2_countAll, .code yX2_countAll cX2_countAll 2 (some .int), .methodLink RX2 15 yX2_countInside, .instanceMethod yX2_countInside, .selects RX2 yX2_countInside yX2_countInside, .code yX2_countInside cX2_countInside 10 (some .int), .fieldLink RX2 9 "SternDesk$Rows" "moebiusSums" "[I", .static yX3_sumOfFloors, .initialized RX3, .code yX3_sumOfFloors cX3_sumOfFloors 15 (some .long), .constantLong RX3 132 (2)] ++ wsX20)
def wsX2_bottomBehind : List Cond := .code yX2_bottomBehind cX2_bottomBehind 4 (some .int) :: ([])
theorem dX0_init_0 : decode cX0_init 0 = .ok (.aload_n 0, 1) := by decide +kernel
theorem dX0_init_1 : decode cX0_init 1 = .ok (.invokespecial 3, 3) := by decide +kernel
theorem dX0_init_4 : decode cX0_init 4 = .ok (.aload_n 0, 1) := by decide +kernel
theorem dX0_init_5 : decode cX0_init 5 = .ok (.bipush 32, 2) := by decide +kernel
theorem dX0_init_7 : decode cX0_init 7 = .ok (.newarray .int, 2) := by decide +kernel
theorem dX0_init_9 : decode cX0_init 9 = .ok (.putfield 9, 3) := by decide +kernel
theorem dX0_init_12 : decode cX0_init 12 = .ok (.aload_n 0, 1) := by decide +kernel
theorem dX0_init_13 : decode cX0_init 13 = .ok (.bipush 33, 2) := by decide +kernel
theorem dX0_init_15 : decode cX0_init 15 = .ok (.newarray .int, 2) := by decide +kernel
theorem dX0_init_17 : decode cX0_init 17 = .ok (.putfield 15, 3) := by decide +kernel
theorem dX0_init_20 : decode cX0_init 20 = .ok (.aload_n 0, 1) := by decide +kernel
theorem dX0_init_21 : decode cX0_init 21 = .ok (.bipush 33, 2) := by decide +kernel
theorem dX0_init_23 : decode cX0_init 23 = .ok (.newarray .int, 2) := by decide +kernel
theorem dX0_init_25 : decode cX0_init 25 = .ok (.putfield 18, 3) := by decide +kernel
theorem dX0_init_28 : decode cX0_init 28 = .ok (.return_, 1) := by decide +kernel
theorem dX0_top_0 : decode cX0_top 0 = .ok (.aload_n 0, 1) := by decide +kernel
theorem dX0_top_1 : decode cX0_top 1 = .ok (.getfield 15, 3) := by decide +kernel
theorem dX0_top_4 : decode cX0_top 4 = .ok (.aload_n 0, 1) := by decide +kernel
theorem dX0_top_5 : decode cX0_top 5 = .ok (.getfield 21, 3) := by decide +kernel
theorem dX0_top_8 : decode cX0_top 8 = .ok (.iaload, 1) := by decide +kernel
theorem dX0_top_9 : decode cX0_top 9 = .ok (.ireturn, 1) := by decide +kernel
theorem dX0_bottom_0 : decode cX0_bottom 0 = .ok (.aload_n 0, 1) := by decide +kernel
theorem dX0_bottom_1 : decode cX0_bottom 1 = .ok (.getfield 18, 3) := by decide +kernel
theorem dX0_bottom_4 : decode cX0_bottom 4 = .ok (.aload_n 0, 1) := by decide +kernel
theorem dX0_bottom_5 : decode cX0_bottom 5 = .ok (.getfield 21, 3) := by decide +kernel
theorem dX0_bottom_8 : decode cX0_bottom 8 = .ok (.iaload, 1) := by decide +kernel
theorem dX0_bottom_9 : decode cX0_bottom 9 = .ok (.ireturn, 1) := by decide +kernel
theorem dX0_topBefore_0 : decode cX0_topBefore 0 = .ok (.aload_n 0, 1) := by decide +kernel
theorem dX0_topBefore_1 : decode cX0_topBefore 1 = .ok (.getfield 21, 3) := by decide +kernel
theorem dX0_topBefore_4 : decode cX0_topBefore 4 = .ok (.ifCond .le 17, 3) := by decide +kernel
theorem dX0_topBefore_7 : decode cX0_topBefore 7 = .ok (.aload_n 0, 1) := by decide +kernel
theorem dX0_topBefore_8 : decode cX0_topBefore 8 = .ok (.getfield 15, 3) := by decide +kernel
theorem dX0_topBefore_11 : decode cX0_topBefore 11 = .ok (.aload_n 0, 1) := by decide +kernel
theorem dX0_topBefore_12 : decode cX0_topBefore 12 = .ok (.getfield 21, 3) := by decide +kernel
theorem dX0_topBefore_15 : decode cX0_topBefore 15 = .ok (.iconst 1, 1) := by decide +kernel
theorem dX0_topBefore_16 : decode cX0_topBefore 16 = .ok (.isub, 1) := by decide +kernel
theorem dX0_topBefore_17 : decode cX0_topBefore 17 = .ok (.iaload, 1) := by decide +kernel
theorem dX0_topBefore_18 : decode cX0_topBefore 18 = .ok (.goto 4, 3) := by decide +kernel
theorem dX0_topBefore_21 : decode cX0_topBefore 21 = .ok (.iconst 0, 1) := by decide +kernel
theorem dX0_topBefore_22 : decode cX0_topBefore 22 = .ok (.ireturn, 1) := by decide +kernel
theorem dX0_bottomBefore_0 : decode cX0_bottomBefore 0 = .ok (.aload_n 0, 1) := by decide +kernel
theorem dX0_bottomBefore_1 : decode cX0_bottomBefore 1 = .ok (.getfield 21, 3) := by decide +kernel
theorem dX0_bottomBefore_4 : decode cX0_bottomBefore 4 = .ok (.ifCond .le 17, 3) := by decide +kernel
theorem dX0_bottomBefore_7 : decode cX0_bottomBefore 7 = .ok (.aload_n 0, 1) := by decide +kernel
theorem dX0_bottomBefore_8 : decode cX0_bottomBefore 8 = .ok (.getfield 18, 3) := by decide +kernel
theorem dX0_bottomBefore_11 : decode cX0_bottomBefore 11 = .ok (.aload_n 0, 1) := by decide +kernel
theorem dX0_bottomBefore_12 : decode cX0_bottomBefore 12 = .ok (.getfield 21, 3) := by decide +kernel
theorem dX0_bottomBefore_15 : decode cX0_bottomBefore 15 = .ok (.iconst 1, 1) := by decide +kernel
theorem dX0_bottomBefore_16 : decode cX0_bottomBefore 16 = .ok (.isub, 1) := by decide +kernel
theorem dX0_bottomBefore_17 : decode cX0_bottomBefore 17 = .ok (.iaload, 1) := by decide +kernel
theorem dX0_bottomBefore_18 : decode cX0_bottomBefore 18 = .ok (.goto 4, 3) := by decide +kernel
theorem dX0_bottomBefore_21 : decode cX0_bottomBefore 21 = .ok (.iconst 1, 1) := by decide +kernel
theorem dX0_bottomBefore_22 : decode cX0_bottomBefore 22 = .ok (.ireturn, 1) := by decide +kernel
theorem dX0_startAnew_0 : decode cX0_startAnew 0 = .ok (.aload_n 0, 1) := by decide +kernel
theorem dX0_startAnew_1 : decode cX0_startAnew 1 = .ok (.iconst 0, 1) := by decide +kernel
theorem dX0_startAnew_2 : decode cX0_startAnew 2 = .ok (.putfield 21, 3) := by decide +kernel
theorem dX0_startAnew_5 : decode cX0_startAnew 5 = .ok (.aload_n 0, 1) := by decide +kernel
theorem dX0_startAnew_6 : decode cX0_startAnew 6 = .ok (.getfield 15, 3) := by decide +kernel
theorem dX0_startAnew_9 : decode cX0_startAnew 9 = .ok (.iconst 0, 1) := by decide +kernel
theorem dX0_startAnew_10 : decode cX0_startAnew 10 = .ok (.iconst 1, 1) := by decide +kernel
theorem dX0_startAnew_11 : decode cX0_startAnew 11 = .ok (.iastore, 1) := by decide +kernel
theorem dX0_startAnew_12 : decode cX0_startAnew 12 = .ok (.aload_n 0, 1) := by decide +kernel
theorem dX0_startAnew_13 : decode cX0_startAnew 13 = .ok (.getfield 18, 3) := by decide +kernel
theorem dX0_startAnew_16 : decode cX0_startAnew 16 = .ok (.iconst 0, 1) := by decide +kernel
theorem dX0_startAnew_17 : decode cX0_startAnew 17 = .ok (.iconst 0, 1) := by decide +kernel
theorem dX0_startAnew_18 : decode cX0_startAnew 18 = .ok (.iastore, 1) := by decide +kernel
theorem dX0_startAnew_19 : decode cX0_startAnew 19 = .ok (.return_, 1) := by decide +kernel
set_option maxRecDepth 20000 in
theorem ggX0_addTerm_X0_top : GoodIn wsX0_addTerm wsX0_top := goodIn_r _ [9, 3, 1, 22, 23, 24, 25] (by decide +kernel) (by decide +kernel)
set_option maxRecDepth 20000 in
theorem gX0_addTerm_X0_top : GoodIn wsX0_addTerm (wsV RX0 25 RX0 yX0_top wsX0_top) := goodIn_app (goodIn_of _ (by decide +kernel)) ggX0_addTerm_X0_top
set_option maxRecDepth 20000 in
theorem ggX0_addTerm_X0_topBefore : GoodIn wsX0_addTerm wsX0_topBefore := goodIn_r _ [13, 1, 3, 22, 23, 24, 25] (by decide +kernel) (by decide +kernel)
set_option maxRecDepth 20000 in
theorem gX0_addTerm_X0_topBefore : GoodIn wsX0_addTerm (wsV RX0 29 RX0 yX0_topBefore wsX0_topBefore) := goodIn_app (goodIn_of _ (by decide +kernel)) ggX0_addTerm_X0_topBefore
set_option maxRecDepth 20000 in
theorem ggX0_addTerm_X0_bottom : GoodIn wsX0_addTerm wsX0_bottom := goodIn_r _ [17, 4, 1, 22, 23, 24, 25] (by decide +kernel) (by decide +kernel)
set_option maxRecDepth 20000 in
theorem gX0_addTerm_X0_bottom : GoodIn wsX0_addTerm (wsV RX0 32 RX0 yX0_bottom wsX0_bottom) := goodIn_app (goodIn_of _ (by decide +kernel)) ggX0_addTerm_X0_bottom
set_option maxRecDepth 20000 in
theorem ggX0_addTerm_X0_bottomBefore : GoodIn wsX0_addTerm wsX0_bottomBefore := goodIn_r _ [21, 1, 4, 22, 23, 24, 25] (by decide +kernel) (by decide +kernel)
set_option maxRecDepth 20000 in
theorem gX0_addTerm_X0_bottomBefore : GoodIn wsX0_addTerm (wsV RX0 35 RX0 yX0_bottomBefore wsX0_bottomBefore) := goodIn_app (goodIn_of _ (by decide +kernel)) ggX0_addTerm_X0_bottomBefore
theorem dX0_addTerm_0 : decode cX0_addTerm 0 = .ok (.aload_n 0, 1) := by decide +kernel
theorem dX0_addTerm_1 : decode cX0_addTerm 1 = .ok (.getfield 21, 3) := by decide +kernel
theorem dX0_addTerm_4 : decode cX0_addTerm 4 = .ok (.bipush 32, 2) := by decide +kernel
theorem dX0_addTerm_6 : decode cX0_addTerm 6 = .ok (.if_icmp .lt 4, 3) := by decide +kernel
theorem dX0_addTerm_9 : decode cX0_addTerm 9 = .ok (.return_, 1) := by decide +kernel
theorem dX0_addTerm_10 : decode cX0_addTerm 10 = .ok (.iload_n 1, 1) := by decide +kernel
theorem dX0_addTerm_11 : decode cX0_addTerm 11 = .ok (.aload_n 0, 1) := by decide +kernel
theorem dX0_addTerm_12 : decode cX0_addTerm 12 = .ok (.invokevirtual 25, 3) := by decide +kernel
theorem dX0_addTerm_15 : decode cX0_addTerm 15 = .ok (.imul, 1) := by decide +kernel
theorem dX0_addTerm_16 : decode cX0_addTerm 16 = .ok (.aload_n 0, 1) := by decide +kernel
theorem dX0_addTerm_17 : decode cX0_addTerm 17 = .ok (.invokevirtual 29, 3) := by decide +kernel
theorem dX0_addTerm_20 : decode cX0_addTerm 20 = .ok (.iadd, 1) := by decide +kernel
theorem dX0_addTerm_21 : decode cX0_addTerm 21 = .ok (.istore_n 2, 1) := by decide +kernel
theorem dX0_addTerm_22 : decode cX0_addTerm 22 = .ok (.iload_n 1, 1) := by decide +kernel
theorem dX0_addTerm_23 : decode cX0_addTerm 23 = .ok (.aload_n 0, 1) := by decide +kernel
theorem dX0_addTerm_24 : decode cX0_addTerm 24 = .ok (.invokevirtual 32, 3) := by decide +kernel
theorem dX0_addTerm_27 : decode cX0_addTerm 27 = .ok (.imul, 1) := by decide +kernel
theorem dX0_addTerm_28 : decode cX0_addTerm 28 = .ok (.aload_n 0, 1) := by decide +kernel
theorem dX0_addTerm_29 : decode cX0_addTerm 29 = .ok (.invokevirtual 35, 3) := by decide +kernel
theorem dX0_addTerm_32 : decode cX0_addTerm 32 = .ok (.iadd, 1) := by decide +kernel
theorem dX0_addTerm_33 : decode cX0_addTerm 33 = .ok (.istore_n 3, 1) := by decide +kernel
theorem dX0_addTerm_34 : decode cX0_addTerm 34 = .ok (.aload_n 0, 1) := by decide +kernel
theorem dX0_addTerm_35 : decode cX0_addTerm 35 = .ok (.getfield 9, 3) := by decide +kernel
theorem dX0_addTerm_38 : decode cX0_addTerm 38 = .ok (.aload_n 0, 1) := by decide +kernel
theorem dX0_addTerm_39 : decode cX0_addTerm 39 = .ok (.getfield 21, 3) := by decide +kernel
theorem dX0_addTerm_42 : decode cX0_addTerm 42 = .ok (.iload_n 1, 1) := by decide +kernel
theorem dX0_addTerm_43 : decode cX0_addTerm 43 = .ok (.iastore, 1) := by decide +kernel
theorem dX0_addTerm_44 : decode cX0_addTerm 44 = .ok (.aload_n 0, 1) := by decide +kernel
theorem dX0_addTerm_45 : decode cX0_addTerm 45 = .ok (.dup, 1) := by decide +kernel
theorem dX0_addTerm_46 : decode cX0_addTerm 46 = .ok (.getfield 21, 3) := by decide +kernel
theorem dX0_addTerm_49 : decode cX0_addTerm 49 = .ok (.iconst 1, 1) := by decide +kernel
theorem dX0_addTerm_50 : decode cX0_addTerm 50 = .ok (.iadd, 1) := by decide +kernel
theorem dX0_addTerm_51 : decode cX0_addTerm 51 = .ok (.putfield 21, 3) := by decide +kernel
theorem dX0_addTerm_54 : decode cX0_addTerm 54 = .ok (.aload_n 0, 1) := by decide +kernel
theorem dX0_addTerm_55 : decode cX0_addTerm 55 = .ok (.getfield 15, 3) := by decide +kernel
theorem dX0_addTerm_58 : decode cX0_addTerm 58 = .ok (.aload_n 0, 1) := by decide +kernel
theorem dX0_addTerm_59 : decode cX0_addTerm 59 = .ok (.getfield 21, 3) := by decide +kernel
theorem dX0_addTerm_62 : decode cX0_addTerm 62 = .ok (.iload_n 2, 1) := by decide +kernel
theorem dX0_addTerm_63 : decode cX0_addTerm 63 = .ok (.iastore, 1) := by decide +kernel
theorem dX0_addTerm_64 : decode cX0_addTerm 64 = .ok (.aload_n 0, 1) := by decide +kernel
theorem dX0_addTerm_65 : decode cX0_addTerm 65 = .ok (.getfield 18, 3) := by decide +kernel
theorem dX0_addTerm_68 : decode cX0_addTerm 68 = .ok (.aload_n 0, 1) := by decide +kernel
theorem dX0_addTerm_69 : decode cX0_addTerm 69 = .ok (.getfield 21, 3) := by decide +kernel
theorem dX0_addTerm_72 : decode cX0_addTerm 72 = .ok (.iload_n 3, 1) := by decide +kernel
theorem dX0_addTerm_73 : decode cX0_addTerm 73 = .ok (.iastore, 1) := by decide +kernel
theorem dX0_addTerm_74 : decode cX0_addTerm 74 = .ok (.return_, 1) := by decide +kernel
set_option maxRecDepth 20000 in
theorem ggX0_expand_X0_startAnew : GoodIn wsX0_expand wsX0_startAnew := goodIn_r _ [5, 6, 7, 8, 30, 31, 32, 33] (by decide +kernel) (by decide +kernel)
set_option maxRecDepth 20000 in
theorem gX0_expand_X0_startAnew : GoodIn wsX0_expand (wsV RX0 38 RX0 yX0_startAnew wsX0_startAnew) := goodIn_app (goodIn_of _ (by decide +kernel)) ggX0_expand_X0_startAnew
set_option maxRecDepth 20000 in
theorem ggX0_expand_X0_addTerm : GoodIn wsX0_expand wsX0_addTerm := goodIn_r _ [12, 6, 13, 7, 8, 14, 15, 16, 4, 17, 18, 19, 20, 21, 22, 23, 24, 25, 26, 27, 28, 29, 30, 31, 32, 33] (by decide +kernel) (by decide +kernel)
set_option maxRecDepth 20000 in
theorem gX0_expand_X0_addTerm : GoodIn wsX0_expand (wsV RX0 41 RX0 yX0_addTerm wsX0_addTerm) := goodIn_app (goodIn_of _ (by decide +kernel)) ggX0_expand_X0_addTerm
theorem dX0_expand_0 : decode cX0_expand 0 = .ok (.aload_n 0, 1) := by decide +kernel
theorem dX0_expand_1 : decode cX0_expand 1 = .ok (.invokevirtual 38, 3) := by decide +kernel
theorem dX0_expand_4 : decode cX0_expand 4 = .ok (.iload_n 1, 1) := by decide +kernel
theorem dX0_expand_5 : decode cX0_expand 5 = .ok (.istore_n 3, 1) := by decide +kernel
theorem dX0_expand_6 : decode cX0_expand 6 = .ok (.iload_n 2, 1) := by decide +kernel
theorem dX0_expand_7 : decode cX0_expand 7 = .ok (.istore 4, 2) := by decide +kernel
theorem dX0_expand_9 : decode cX0_expand 9 = .ok (.iconst 0, 1) := by decide +kernel
theorem dX0_expand_10 : decode cX0_expand 10 = .ok (.istore 5, 2) := by decide +kernel
theorem dX0_expand_12 : decode cX0_expand 12 = .ok (.iload 5, 2) := by decide +kernel
theorem dX0_expand_14 : decode cX0_expand 14 = .ok (.bipush 32, 2) := by decide +kernel
theorem dX0_expand_16 : decode cX0_expand 16 = .ok (.if_icmp .ge 42, 3) := by decide +kernel
theorem dX0_expand_19 : decode cX0_expand 19 = .ok (.iload 4, 2) := by decide +kernel
theorem dX0_expand_21 : decode cX0_expand 21 = .ok (.ifCond .le 37, 3) := by decide +kernel
theorem dX0_expand_24 : decode cX0_expand 24 = .ok (.iload_n 3, 1) := by decide +kernel
theorem dX0_expand_25 : decode cX0_expand 25 = .ok (.iload 4, 2) := by decide +kernel
theorem dX0_expand_27 : decode cX0_expand 27 = .ok (.idiv, 1) := by decide +kernel
theorem dX0_expand_28 : decode cX0_expand 28 = .ok (.istore 6, 2) := by decide +kernel
theorem dX0_expand_30 : decode cX0_expand 30 = .ok (.iload_n 3, 1) := by decide +kernel
theorem dX0_expand_31 : decode cX0_expand 31 = .ok (.iload 6, 2) := by decide +kernel
theorem dX0_expand_33 : decode cX0_expand 33 = .ok (.iload 4, 2) := by decide +kernel
theorem dX0_expand_35 : decode cX0_expand 35 = .ok (.imul, 1) := by decide +kernel
theorem dX0_expand_36 : decode cX0_expand 36 = .ok (.isub, 1) := by decide +kernel
theorem dX0_expand_37 : decode cX0_expand 37 = .ok (.istore 7, 2) := by decide +kernel
theorem dX0_expand_39 : decode cX0_expand 39 = .ok (.aload_n 0, 1) := by decide +kernel
theorem dX0_expand_40 : decode cX0_expand 40 = .ok (.iload 6, 2) := by decide +kernel
theorem dX0_expand_42 : decode cX0_expand 42 = .ok (.invokevirtual 41, 3) := by decide +kernel
theorem dX0_expand_45 : decode cX0_expand 45 = .ok (.iload 4, 2) := by decide +kernel
theorem dX0_expand_47 : decode cX0_expand 47 = .ok (.istore_n 3, 1) := by decide +kernel
theorem dX0_expand_48 : decode cX0_expand 48 = .ok (.iload 7, 2) := by decide +kernel
theorem dX0_expand_50 : decode cX0_expand 50 = .ok (.istore 4, 2) := by decide +kernel
theorem dX0_expand_52 : decode cX0_expand 52 = .ok (.iinc 5 1, 3) := by decide +kernel
theorem dX0_expand_55 : decode cX0_expand 55 = .ok (.goto (-43), 3) := by decide +kernel
theorem dX0_expand_58 : decode cX0_expand 58 = .ok (.return_, 1) := by decide +kernel
set_option maxRecDepth 20000 in
theorem ggX0_expandSimplest_X0_startAnew : GoodIn wsX0_expandSimplest wsX0_startAnew := goodIn_r _ [5, 6, 7, 8, 30, 31, 32, 33] (by decide +kernel) (by decide +kernel)
set_option maxRecDepth 20000 in
theorem gX0_expandSimplest_X0_startAnew : GoodIn wsX0_expandSimplest (wsV RX0 38 RX0 yX0_startAnew wsX0_startAnew) := goodIn_app (goodIn_of _ (by decide +kernel)) ggX0_expandSimplest_X0_startAnew
set_option maxRecDepth 20000 in
theorem ggX0_expandSimplest_X0_addTerm : GoodIn wsX0_expandSimplest wsX0_addTerm := goodIn_r _ [12, 6, 13, 7, 8, 14, 15, 16, 4, 17, 18, 19, 20, 21, 22, 23, 24, 25, 26, 27, 28, 29, 30, 31, 32, 33] (by decide +kernel) (by decide +kernel)
set_option maxRecDepth 20000 in
theorem gX0_expandSimplest_X0_addTerm : GoodIn wsX0_expandSimplest (wsV RX0 41 RX0 yX0_addTerm wsX0_addTerm) := goodIn_app (goodIn_of _ (by decide +kernel)) ggX0_expandSimplest_X0_addTerm
theorem dX0_expandSimplest_0 : decode cX0_expandSimplest 0 = .ok (.aload_n 0, 1) := by decide +kernel
theorem dX0_expandSimplest_1 : decode cX0_expandSimplest 1 = .ok (.invokevirtual 38, 3) := by decide +kernel
theorem dX0_expandSimplest_4 : decode cX0_expandSimplest 4 = .ok (.iconst 0, 1) := by decide +kernel
theorem dX0_expandSimplest_5 : decode cX0_expandSimplest 5 = .ok (.istore 5, 2) := by decide +kernel
theorem dX0_expandSimplest_7 : decode cX0_expandSimplest 7 = .ok (.iconst 0, 1) := by decide +kernel
theorem dX0_expandSimplest_8 : decode cX0_expandSimplest 8 = .ok (.istore 6, 2) := by decide +kernel
theorem dX0_expandSimplest_10 : decode cX0_expandSimplest 10 = .ok (.iload 6, 2) := by decide +kernel
theorem dX0_expandSimplest_12 : decode cX0_expandSimplest 12 = .ok (.bipush 32, 2) := by decide +kernel
theorem dX0_expandSimplest_14 : decode cX0_expandSimplest 14 = .ok (.if_icmp .ge 88, 3) := by decide +kernel
theorem dX0_expandSimplest_17 : decode cX0_expandSimplest 17 = .ok (.iload_n 2, 1) := by decide +kernel
theorem dX0_expandSimplest_18 : decode cX0_expandSimplest 18 = .ok (.ifCond .le 84, 3) := by decide +kernel
theorem dX0_expandSimplest_21 : decode cX0_expandSimplest 21 = .ok (.iload 5, 2) := by decide +kernel
theorem dX0_expandSimplest_23 : decode cX0_expandSimplest 23 = .ok (.ifCond .ne 79, 3) := by decide +kernel
theorem dX0_expandSimplest_26 : decode cX0_expandSimplest 26 = .ok (.iload_n 1, 1) := by decide +kernel
theorem dX0_expandSimplest_27 : decode cX0_expandSimplest 27 = .ok (.iload_n 2, 1) := by decide +kernel
theorem dX0_expandSimplest_28 : decode cX0_expandSimplest 28 = .ok (.idiv, 1) := by decide +kernel
theorem dX0_expandSimplest_29 : decode cX0_expandSimplest 29 = .ok (.istore 7, 2) := by decide +kernel
theorem dX0_expandSimplest_31 : decode cX0_expandSimplest 31 = .ok (.iload 7, 2) := by decide +kernel
theorem dX0_expandSimplest_33 : decode cX0_expandSimplest 33 = .ok (.iconst 1, 1) := by decide +kernel
theorem dX0_expandSimplest_34 : decode cX0_expandSimplest 34 = .ok (.iadd, 1) := by decide +kernel
theorem dX0_expandSimplest_35 : decode cX0_expandSimplest 35 = .ok (.iload 4, 2) := by decide +kernel
theorem dX0_expandSimplest_37 : decode cX0_expandSimplest 37 = .ok (.imul, 1) := by decide +kernel
theorem dX0_expandSimplest_38 : decode cX0_expandSimplest 38 = .ok (.iload_n 3, 1) := by decide +kernel
theorem dX0_expandSimplest_39 : decode cX0_expandSimplest 39 = .ok (.if_icmp .ge 7, 3) := by decide +kernel
theorem dX0_expandSimplest_42 : decode cX0_expandSimplest 42 = .ok (.iconst 1, 1) := by decide +kernel
theorem dX0_expandSimplest_43 : decode cX0_expandSimplest 43 = .ok (.goto 4, 3) := by decide +kernel
theorem dX0_expandSimplest_46 : decode cX0_expandSimplest 46 = .ok (.iconst 0, 1) := by decide +kernel
theorem dX0_expandSimplest_47 : decode cX0_expandSimplest 47 = .ok (.istore 5, 2) := by decide +kernel
theorem dX0_expandSimplest_49 : decode cX0_expandSimplest 49 = .ok (.aload_n 0, 1) := by decide +kernel
theorem dX0_expandSimplest_50 : decode cX0_expandSimplest 50 = .ok (.iload 5, 2) := by decide +kernel
theorem dX0_expandSimplest_52 : decode cX0_expandSimplest 52 = .ok (.ifCond .eq 10, 3) := by decide +kernel
theorem dX0_expandSimplest_55 : decode cX0_expandSimplest 55 = .ok (.iload 7, 2) := by decide +kernel
theorem dX0_expandSimplest_57 : decode cX0_expandSimplest 57 = .ok (.iconst 1, 1) := by decide +kernel
theorem dX0_expandSimplest_58 : decode cX0_expandSimplest 58 = .ok (.iadd, 1) := by decide +kernel
theorem dX0_expandSimplest_59 : decode cX0_expandSimplest 59 = .ok (.goto 5, 3) := by decide +kernel
theorem dX0_expandSimplest_62 : decode cX0_expandSimplest 62 = .ok (.iload 7, 2) := by decide +kernel
theorem dX0_expandSimplest_64 : decode cX0_expandSimplest 64 = .ok (.invokevirtual 41, 3) := by decide +kernel
theorem dX0_expandSimplest_67 : decode cX0_expandSimplest 67 = .ok (.iload_n 1, 1) := by decide +kernel
theorem dX0_expandSimplest_68 : decode cX0_expandSimplest 68 = .ok (.iload 7, 2) := by decide +kernel
theorem dX0_expandSimplest_70 : decode cX0_expandSimplest 70 = .ok (.iload_n 2, 1) := by decide +kernel
theorem dX0_expandSimplest_71 : decode cX0_expandSimplest 71 = .ok (.imul, 1) := by decide +kernel
theorem dX0_expandSimplest_72 : decode cX0_expandSimplest 72 = .ok (.isub, 1) := by decide +kernel
theorem dX0_expandSimplest_73 : decode cX0_expandSimplest 73 = .ok (.istore 8, 2) := by decide +kernel
theorem dX0_expandSimplest_75 : decode cX0_expandSimplest 75 = .ok (.iload_n 3, 1) := by decide +kernel
theorem dX0_expandSimplest_76 : decode cX0_expandSimplest 76 = .ok (.iload 7, 2) := by decide +kernel
theorem dX0_expandSimplest_78 : decode cX0_expandSimplest 78 = .ok (.iload 4, 2) := by decide +kernel
theorem dX0_expandSimplest_80 : decode cX0_expandSimplest 80 = .ok (.imul, 1) := by decide +kernel
theorem dX0_expandSimplest_81 : decode cX0_expandSimplest 81 = .ok (.isub, 1) := by decide +kernel
theorem dX0_expandSimplest_82 : decode cX0_expandSimplest 82 = .ok (.istore 9, 2) := by decide +kernel
theorem dX0_expandSimplest_84 : decode cX0_expandSimplest 84 = .ok (.iload 4, 2) := by decide +kernel
theorem dX0_expandSimplest_86 : decode cX0_expandSimplest 86 = .ok (.istore_n 1, 1) := by decide +kernel
theorem dX0_expandSimplest_87 : decode cX0_expandSimplest 87 = .ok (.iload_n 2, 1) := by decide +kernel
theorem dX0_expandSimplest_88 : decode cX0_expandSimplest 88 = .ok (.istore_n 3, 1) := by decide +kernel
theorem dX0_expandSimplest_89 : decode cX0_expandSimplest 89 = .ok (.iload 9, 2) := by decide +kernel
theorem dX0_expandSimplest_91 : decode cX0_expandSimplest 91 = .ok (.istore_n 2, 1) := by decide +kernel
theorem dX0_expandSimplest_92 : decode cX0_expandSimplest 92 = .ok (.iload 8, 2) := by decide +kernel
theorem dX0_expandSimplest_94 : decode cX0_expandSimplest 94 = .ok (.istore 4, 2) := by decide +kernel
theorem dX0_expandSimplest_96 : decode cX0_expandSimplest 96 = .ok (.iinc 6 1, 3) := by decide +kernel
theorem dX0_expandSimplest_99 : decode cX0_expandSimplest 99 = .ok (.goto (-89), 3) := by decide +kernel
theorem dX0_expandSimplest_102 : decode cX0_expandSimplest 102 = .ok (.return_, 1) := by decide +kernel
theorem dX0_countSteps_0 : decode cX0_countSteps 0 = .ok (.iconst (-1), 1) := by decide +kernel
theorem dX0_countSteps_1 : decode cX0_countSteps 1 = .ok (.istore_n 1, 1) := by decide +kernel
theorem dX0_countSteps_2 : decode cX0_countSteps 2 = .ok (.iconst 0, 1) := by decide +kernel
theorem dX0_countSteps_3 : decode cX0_countSteps 3 = .ok (.istore_n 2, 1) := by decide +kernel
theorem dX0_countSteps_4 : decode cX0_countSteps 4 = .ok (.iload_n 2, 1) := by decide +kernel
theorem dX0_countSteps_5 : decode cX0_countSteps 5 = .ok (.aload_n 0, 1) := by decide +kernel
theorem dX0_countSteps_6 : decode cX0_countSteps 6 = .ok (.getfield 21, 3) := by decide +kernel
theorem dX0_countSteps_9 : decode cX0_countSteps 9 = .ok (.if_icmp .ge 18, 3) := by decide +kernel
theorem dX0_countSteps_12 : decode cX0_countSteps 12 = .ok (.iload_n 1, 1) := by decide +kernel
theorem dX0_countSteps_13 : decode cX0_countSteps 13 = .ok (.aload_n 0, 1) := by decide +kernel
theorem dX0_countSteps_14 : decode cX0_countSteps 14 = .ok (.getfield 9, 3) := by decide +kernel
theorem dX0_countSteps_17 : decode cX0_countSteps 17 = .ok (.iload_n 2, 1) := by decide +kernel
theorem dX0_countSteps_18 : decode cX0_countSteps 18 = .ok (.iaload, 1) := by decide +kernel
theorem dX0_countSteps_19 : decode cX0_countSteps 19 = .ok (.iadd, 1) := by decide +kernel
theorem dX0_countSteps_20 : decode cX0_countSteps 20 = .ok (.istore_n 1, 1) := by decide +kernel
theorem dX0_countSteps_21 : decode cX0_countSteps 21 = .ok (.iinc 2 1, 3) := by decide +kernel
theorem dX0_countSteps_24 : decode cX0_countSteps 24 = .ok (.goto (-20), 3) := by decide +kernel
theorem dX0_countSteps_27 : decode cX0_countSteps 27 = .ok (.iload_n 1, 1) := by decide +kernel
theorem dX0_countSteps_28 : decode cX0_countSteps 28 = .ok (.ireturn, 1) := by decide +kernel
set_option maxRecDepth 20000 in
theorem ggX0_countRuns_X0_top : GoodIn wsX0_countRuns wsX0_top := goodIn_r _ [6, 7, 1, 18, 19, 20, 21] (by decide +kernel) (by decide +kernel)
set_option maxRecDepth 20000 in
theorem gX0_countRuns_X0_top : GoodIn wsX0_countRuns (wsV RX0 25 RX0 yX0_top wsX0_top) := goodIn_app (goodIn_of _ (by decide +kernel)) ggX0_countRuns_X0_top
set_option maxRecDepth 20000 in
theorem ggX0_countRuns_X0_bottom : GoodIn wsX0_countRuns wsX0_bottom := goodIn_r _ [11, 12, 1, 18, 19, 20, 21] (by decide +kernel) (by decide +kernel)
set_option maxRecDepth 20000 in
theorem gX0_countRuns_X0_bottom : GoodIn wsX0_countRuns (wsV RX0 32 RX0 yX0_bottom wsX0_bottom) := goodIn_app (goodIn_of _ (by decide +kernel)) ggX0_countRuns_X0_bottom
set_option maxRecDepth 20000 in
theorem ggX0_countRuns_X0_firstTermWithSteps : GoodIn wsX0_countRuns wsX0_firstTermWithSteps := goodIn_r _ [16, 17, 18, 19, 20, 21] (by decide +kernel) (by decide +kernel)
set_option maxRecDepth 20000 in
theorem gX0_countRuns_X0_firstTermWithSteps : GoodIn wsX0_countRuns (wsV RX0 45 RX0 yX0_firstTermWithSteps wsX0_firstTermWithSteps) := goodIn_app (goodIn_of _ (by decide +kernel)) ggX0_countRuns_X0_firstTermWithSteps
theorem dX0_countRuns_0 : decode cX0_countRuns 0 = .ok (.aload_n 0, 1) := by decide +kernel
theorem dX0_countRuns_1 : decode cX0_countRuns 1 = .ok (.invokevirtual 25, 3) := by decide +kernel
theorem dX0_countRuns_4 : decode cX0_countRuns 4 = .ok (.ifCond .eq 14, 3) := by decide +kernel
theorem dX0_countRuns_7 : decode cX0_countRuns 7 = .ok (.aload_n 0, 1) := by decide +kernel
theorem dX0_countRuns_8 : decode cX0_countRuns 8 = .ok (.invokevirtual 25, 3) := by decide +kernel
theorem dX0_countRuns_11 : decode cX0_countRuns 11 = .ok (.aload_n 0, 1) := by decide +kernel
theorem dX0_countRuns_12 : decode cX0_countRuns 12 = .ok (.invokevirtual 32, 3) := by decide +kernel
theorem dX0_countRuns_15 : decode cX0_countRuns 15 = .ok (.if_icmp .ne 7, 3) := by decide +kernel
theorem dX0_countRuns_18 : decode cX0_countRuns 18 = .ok (.iconst 0, 1) := by decide +kernel
theorem dX0_countRuns_19 : decode cX0_countRuns 19 = .ok (.goto 12, 3) := by decide +kernel
theorem dX0_countRuns_22 : decode cX0_countRuns 22 = .ok (.aload_n 0, 1) := by decide +kernel
theorem dX0_countRuns_23 : decode cX0_countRuns 23 = .ok (.getfield 21, 3) := by decide +kernel
theorem dX0_countRuns_26 : decode cX0_countRuns 26 = .ok (.aload_n 0, 1) := by decide +kernel
theorem dX0_countRuns_27 : decode cX0_countRuns 27 = .ok (.invokevirtual 45, 3) := by decide +kernel
theorem dX0_countRuns_30 : decode cX0_countRuns 30 = .ok (.isub, 1) := by decide +kernel
theorem dX0_countRuns_31 : decode cX0_countRuns 31 = .ok (.ireturn, 1) := by decide +kernel
theorem dX0_firstTermWithSteps_0 : decode cX0_firstTermWithSteps 0 = .ok (.aload_n 0, 1) := by decide +kernel
theorem dX0_firstTermWithSteps_1 : decode cX0_firstTermWithSteps 1 = .ok (.getfield 9, 3) := by decide +kernel
theorem dX0_firstTermWithSteps_4 : decode cX0_firstTermWithSteps 4 = .ok (.iconst 0, 1) := by decide +kernel
theorem dX0_firstTermWithSteps_5 : decode cX0_firstTermWithSteps 5 = .ok (.iaload, 1) := by decide +kernel
theorem dX0_firstTermWithSteps_6 : decode cX0_firstTermWithSteps 6 = .ok (.ifCond .ne 7, 3) := by decide +kernel
theorem dX0_firstTermWithSteps_9 : decode cX0_firstTermWithSteps 9 = .ok (.iconst 1, 1) := by decide +kernel
theorem dX0_firstTermWithSteps_10 : decode cX0_firstTermWithSteps 10 = .ok (.goto 4, 3) := by decide +kernel
theorem dX0_firstTermWithSteps_13 : decode cX0_firstTermWithSteps 13 = .ok (.iconst 0, 1) := by decide +kernel
theorem dX0_firstTermWithSteps_14 : decode cX0_firstTermWithSteps 14 = .ok (.ireturn, 1) := by decide +kernel
set_option maxRecDepth 20000 in
theorem ggX0_stepsOfRun_X0_firstTermWithSteps : GoodIn wsX0_stepsOfRun wsX0_firstTermWithSteps := goodIn_r _ [7, 2, 8, 9, 10, 11] (by decide +kernel) (by decide +kernel)
set_option maxRecDepth 20000 in
theorem gX0_stepsOfRun_X0_firstTermWithSteps : GoodIn wsX0_stepsOfRun (wsV RX0 45 RX0 yX0_firstTermWithSteps wsX0_firstTermWithSteps) := goodIn_app (goodIn_of _ (by decide +kernel)) ggX0_stepsOfRun_X0_firstTermWithSteps
theorem dX0_stepsOfRun_0 : decode cX0_stepsOfRun 0 = .ok (.iload_n 1, 1) := by decide +kernel
theorem dX0_stepsOfRun_1 : decode cX0_stepsOfRun 1 = .ok (.aload_n 0, 1) := by decide +kernel
theorem dX0_stepsOfRun_2 : decode cX0_stepsOfRun 2 = .ok (.invokevirtual 45, 3) := by decide +kernel
theorem dX0_stepsOfRun_5 : decode cX0_stepsOfRun 5 = .ok (.iadd, 1) := by decide +kernel
theorem dX0_stepsOfRun_6 : decode cX0_stepsOfRun 6 = .ok (.istore_n 2, 1) := by decide +kernel
theorem dX0_stepsOfRun_7 : decode cX0_stepsOfRun 7 = .ok (.iload_n 2, 1) := by decide +kernel
theorem dX0_stepsOfRun_8 : decode cX0_stepsOfRun 8 = .ok (.aload_n 0, 1) := by decide +kernel
theorem dX0_stepsOfRun_9 : decode cX0_stepsOfRun 9 = .ok (.getfield 21, 3) := by decide +kernel
theorem dX0_stepsOfRun_12 : decode cX0_stepsOfRun 12 = .ok (.iconst 1, 1) := by decide +kernel
theorem dX0_stepsOfRun_13 : decode cX0_stepsOfRun 13 = .ok (.isub, 1) := by decide +kernel
theorem dX0_stepsOfRun_14 : decode cX0_stepsOfRun 14 = .ok (.if_icmp .ne 14, 3) := by decide +kernel
theorem dX0_stepsOfRun_17 : decode cX0_stepsOfRun 17 = .ok (.aload_n 0, 1) := by decide +kernel
theorem dX0_stepsOfRun_18 : decode cX0_stepsOfRun 18 = .ok (.getfield 9, 3) := by decide +kernel
theorem dX0_stepsOfRun_21 : decode cX0_stepsOfRun 21 = .ok (.iload_n 2, 1) := by decide +kernel
theorem dX0_stepsOfRun_22 : decode cX0_stepsOfRun 22 = .ok (.iaload, 1) := by decide +kernel
theorem dX0_stepsOfRun_23 : decode cX0_stepsOfRun 23 = .ok (.iconst 1, 1) := by decide +kernel
theorem dX0_stepsOfRun_24 : decode cX0_stepsOfRun 24 = .ok (.isub, 1) := by decide +kernel
theorem dX0_stepsOfRun_25 : decode cX0_stepsOfRun 25 = .ok (.goto 9, 3) := by decide +kernel
theorem dX0_stepsOfRun_28 : decode cX0_stepsOfRun 28 = .ok (.aload_n 0, 1) := by decide +kernel
theorem dX0_stepsOfRun_29 : decode cX0_stepsOfRun 29 = .ok (.getfield 9, 3) := by decide +kernel
theorem dX0_stepsOfRun_32 : decode cX0_stepsOfRun 32 = .ok (.iload_n 2, 1) := by decide +kernel
theorem dX0_stepsOfRun_33 : decode cX0_stepsOfRun 33 = .ok (.iaload, 1) := by decide +kernel
theorem dX0_stepsOfRun_34 : decode cX0_stepsOfRun 34 = .ok (.istore_n 3, 1) := by decide +kernel
theorem dX0_stepsOfRun_35 : decode cX0_stepsOfRun 35 = .ok (.iload_n 2, 1) := by decide +kernel
theorem dX0_stepsOfRun_36 : decode cX0_stepsOfRun 36 = .ok (.iconst 2, 1) := by decide +kernel
theorem dX0_stepsOfRun_37 : decode cX0_stepsOfRun 37 = .ok (.irem, 1) := by decide +kernel
theorem dX0_stepsOfRun_38 : decode cX0_stepsOfRun 38 = .ok (.ifCond .ne 7, 3) := by decide +kernel
theorem dX0_stepsOfRun_41 : decode cX0_stepsOfRun 41 = .ok (.iload_n 3, 1) := by decide +kernel
theorem dX0_stepsOfRun_42 : decode cX0_stepsOfRun 42 = .ok (.goto 5, 3) := by decide +kernel
theorem dX0_stepsOfRun_45 : decode cX0_stepsOfRun 45 = .ok (.iload_n 3, 1) := by decide +kernel
theorem dX0_stepsOfRun_46 : decode cX0_stepsOfRun 46 = .ok (.ineg, 1) := by decide +kernel
theorem dX0_stepsOfRun_47 : decode cX0_stepsOfRun 47 = .ok (.ireturn, 1) := by decide +kernel
set_option maxRecDepth 20000 in
theorem ggX0_neighbourAt_X0_topBefore : GoodIn wsX0_neighbourAt wsX0_topBefore := goodIn_r _ [9, 1, 10, 32, 33, 34, 35] (by decide +kernel) (by decide +kernel)
set_option maxRecDepth 20000 in
theorem gX0_neighbourAt_X0_topBefore : GoodIn wsX0_neighbourAt (wsV RX0 29 RX0 yX0_topBefore wsX0_topBefore) := goodIn_app (goodIn_of _ (by decide +kernel)) ggX0_neighbourAt_X0_topBefore
set_option maxRecDepth 20000 in
theorem ggX0_neighbourAt_X0_bottomBefore : GoodIn wsX0_neighbourAt wsX0_bottomBefore := goodIn_r _ [14, 1, 15, 32, 33, 34, 35] (by decide +kernel) (by decide +kernel)
set_option maxRecDepth 20000 in
theorem gX0_neighbourAt_X0_bottomBefore : GoodIn wsX0_neighbourAt (wsV RX0 35 RX0 yX0_bottomBefore wsX0_bottomBefore) := goodIn_app (goodIn_of _ (by decide +kernel)) ggX0_neighbourAt_X0_bottomBefore
set_option maxRecDepth 20000 in
theorem ggX0_neighbourAt_X1_init : GoodIn wsX0_neighbourAt wsX1_init := goodIn_r _ [18, 19, 20, 21, 22, 23, 36, 37] (by decide +kernel) (by decide +kernel)
set_option maxRecDepth 20000 in
theorem gX0_neighbourAt_X1_init : GoodIn wsX0_neighbourAt (wsX1_init) := ggX0_neighbourAt_X1_init
set_option maxRecDepth 20000 in
theorem ggX0_neighbourAt_X0_top : GoodIn wsX0_neighbourAt wsX0_top := goodIn_r _ [27, 10, 1, 32, 33, 34, 35] (by decide +kernel) (by decide +kernel)
set_option maxRecDepth 20000 in
theorem gX0_neighbourAt_X0_top : GoodIn wsX0_neighbourAt (wsV RX0 25 RX0 yX0_top wsX0_top) := goodIn_app (goodIn_of _ (by decide +kernel)) ggX0_neighbourAt_X0_top
set_option maxRecDepth 20000 in
theorem ggX0_neighbourAt_X0_bottom : GoodIn wsX0_neighbourAt wsX0_bottom := goodIn_r _ [31, 15, 1, 32, 33, 34, 35] (by decide +kernel) (by decide +kernel)
set_option maxRecDepth 20000 in
theorem gX0_neighbourAt_X0_bottom : GoodIn wsX0_neighbourAt (wsV RX0 32 RX0 yX0_bottom wsX0_bottom) := goodIn_app (goodIn_of _ (by decide +kernel)) ggX0_neighbourAt_X0_bottom
theorem dX0_neighbourAt_0 : decode cX0_neighbourAt 0 = .ok (.iload_n 1, 1) := by decide +kernel
theorem dX0_neighbourAt_1 : decode cX0_neighbourAt 1 = .ok (.aload_n 0, 1) := by decide +kernel
theorem dX0_neighbourAt_2 : decode cX0_neighbourAt 2 = .ok (.getfield 21, 3) := by decide +kernel
theorem dX0_neighbourAt_5 : decode cX0_neighbourAt 5 = .ok (.iconst 2, 1) := by decide +kernel
theorem dX0_neighbourAt_6 : decode cX0_neighbourAt 6 = .ok (.irem, 1) := by decide +kernel
theorem dX0_neighbourAt_7 : decode cX0_neighbourAt 7 = .ok (.if_icmp .ne 19, 3) := by decide +kernel
theorem dX0_neighbourAt_10 : decode cX0_neighbourAt 10 = .ok (.new 48, 3) := by decide +kernel
theorem dX0_neighbourAt_13 : decode cX0_neighbourAt 13 = .ok (.dup, 1) := by decide +kernel
theorem dX0_neighbourAt_14 : decode cX0_neighbourAt 14 = .ok (.aload_n 0, 1) := by decide +kernel
theorem dX0_neighbourAt_15 : decode cX0_neighbourAt 15 = .ok (.invokevirtual 29, 3) := by decide +kernel
theorem dX0_neighbourAt_18 : decode cX0_neighbourAt 18 = .ok (.aload_n 0, 1) := by decide +kernel
theorem dX0_neighbourAt_19 : decode cX0_neighbourAt 19 = .ok (.invokevirtual 35, 3) := by decide +kernel
theorem dX0_neighbourAt_22 : decode cX0_neighbourAt 22 = .ok (.invokespecial 50, 3) := by decide +kernel
theorem dX0_neighbourAt_25 : decode cX0_neighbourAt 25 = .ok (.areturn, 1) := by decide +kernel
theorem dX0_neighbourAt_26 : decode cX0_neighbourAt 26 = .ok (.new 48, 3) := by decide +kernel
theorem dX0_neighbourAt_29 : decode cX0_neighbourAt 29 = .ok (.dup, 1) := by decide +kernel
theorem dX0_neighbourAt_30 : decode cX0_neighbourAt 30 = .ok (.aload_n 0, 1) := by decide +kernel
theorem dX0_neighbourAt_31 : decode cX0_neighbourAt 31 = .ok (.invokevirtual 25, 3) := by decide +kernel
theorem dX0_neighbourAt_34 : decode cX0_neighbourAt 34 = .ok (.aload_n 0, 1) := by decide +kernel
theorem dX0_neighbourAt_35 : decode cX0_neighbourAt 35 = .ok (.invokevirtual 29, 3) := by decide +kernel
theorem dX0_neighbourAt_38 : decode cX0_neighbourAt 38 = .ok (.isub, 1) := by decide +kernel
theorem dX0_neighbourAt_39 : decode cX0_neighbourAt 39 = .ok (.aload_n 0, 1) := by decide +kernel
theorem dX0_neighbourAt_40 : decode cX0_neighbourAt 40 = .ok (.invokevirtual 32, 3) := by decide +kernel
theorem dX0_neighbourAt_43 : decode cX0_neighbourAt 43 = .ok (.aload_n 0, 1) := by decide +kernel
theorem dX0_neighbourAt_44 : decode cX0_neighbourAt 44 = .ok (.invokevirtual 35, 3) := by decide +kernel
theorem dX0_neighbourAt_47 : decode cX0_neighbourAt 47 = .ok (.isub, 1) := by decide +kernel
theorem dX0_neighbourAt_48 : decode cX0_neighbourAt 48 = .ok (.invokespecial 50, 3) := by decide +kernel
theorem dX0_neighbourAt_51 : decode cX0_neighbourAt 51 = .ok (.areturn, 1) := by decide +kernel
set_option maxRecDepth 20000 in
theorem ggX0_nearWithin_X0_lastWithin : GoodIn wsX0_nearWithin wsX0_lastWithin := goodIn_r _ [12, 13, 5, 36, 37, 38, 39] (by decide +kernel) (by decide +kernel)
set_option maxRecDepth 20000 in
theorem gX0_nearWithin_X0_lastWithin : GoodIn wsX0_nearWithin (wsV RX0 53 RX0 yX0_lastWithin wsX0_lastWithin) := goodIn_app (goodIn_of _ (by decide +kernel)) ggX0_nearWithin_X0_lastWithin
set_option maxRecDepth 20000 in
theorem ggX0_nearWithin_X1_init : GoodIn wsX0_nearWithin wsX1_init := goodIn_r _ [16, 17, 18, 19, 20, 21, 34, 35] (by decide +kernel) (by decide +kernel)
set_option maxRecDepth 20000 in
theorem gX0_nearWithin_X1_init : GoodIn wsX0_nearWithin (wsX1_init) := ggX0_nearWithin_X1_init
set_option maxRecDepth 20000 in
theorem ggX0_nearWithin_X0_isLowerNearer : GoodIn wsX0_nearWithin wsX0_isLowerNearer := goodIn_r _ [25, 6, 7, 26, 27, 28, 11, 29, 4, 13, 30, 31, 32, 33, 5, 34, 35, 36, 37, 38, 39] (by decide +kernel) (by decide +kernel)
set_option maxRecDepth 20000 in
theorem gX0_nearWithin_X0_isLowerNearer : GoodIn wsX0_nearWithin (wsV RX0 61 RX0 yX0_isLowerNearer wsX0_isLowerNearer) := goodIn_app (goodIn_of _ (by decide +kernel)) ggX0_nearWithin_X0_isLowerNearer
theorem dX0_nearWithin_0 : decode cX0_nearWithin 0 = .ok (.aload_n 0, 1) := by decide +kernel
theorem dX0_nearWithin_1 : decode cX0_nearWithin 1 = .ok (.iload_n 1, 1) := by decide +kernel
theorem dX0_nearWithin_2 : decode cX0_nearWithin 2 = .ok (.invokevirtual 53, 3) := by decide +kernel
theorem dX0_nearWithin_5 : decode cX0_nearWithin 5 = .ok (.istore_n 3, 1) := by decide +kernel
theorem dX0_nearWithin_6 : decode cX0_nearWithin 6 = .ok (.new 48, 3) := by decide +kernel
theorem dX0_nearWithin_9 : decode cX0_nearWithin 9 = .ok (.dup, 1) := by decide +kernel
theorem dX0_nearWithin_10 : decode cX0_nearWithin 10 = .ok (.aload_n 0, 1) := by decide +kernel
theorem dX0_nearWithin_11 : decode cX0_nearWithin 11 = .ok (.getfield 15, 3) := by decide +kernel
theorem dX0_nearWithin_14 : decode cX0_nearWithin 14 = .ok (.iload_n 3, 1) := by decide +kernel
theorem dX0_nearWithin_15 : decode cX0_nearWithin 15 = .ok (.iaload, 1) := by decide +kernel
theorem dX0_nearWithin_16 : decode cX0_nearWithin 16 = .ok (.aload_n 0, 1) := by decide +kernel
theorem dX0_nearWithin_17 : decode cX0_nearWithin 17 = .ok (.getfield 18, 3) := by decide +kernel
theorem dX0_nearWithin_20 : decode cX0_nearWithin 20 = .ok (.iload_n 3, 1) := by decide +kernel
theorem dX0_nearWithin_21 : decode cX0_nearWithin 21 = .ok (.iaload, 1) := by decide +kernel
theorem dX0_nearWithin_22 : decode cX0_nearWithin 22 = .ok (.invokespecial 50, 3) := by decide +kernel
theorem dX0_nearWithin_25 : decode cX0_nearWithin 25 = .ok (.astore 4, 2) := by decide +kernel
theorem dX0_nearWithin_27 : decode cX0_nearWithin 27 = .ok (.aload 4, 2) := by decide +kernel
theorem dX0_nearWithin_29 : decode cX0_nearWithin 29 = .ok (.getfield 57, 3) := by decide +kernel
theorem dX0_nearWithin_32 : decode cX0_nearWithin 32 = .ok (.ifCond .le 22, 3) := by decide +kernel
theorem dX0_nearWithin_35 : decode cX0_nearWithin 35 = .ok (.iload_n 1, 1) := by decide +kernel
theorem dX0_nearWithin_36 : decode cX0_nearWithin 36 = .ok (.aload_n 0, 1) := by decide +kernel
theorem dX0_nearWithin_37 : decode cX0_nearWithin 37 = .ok (.getfield 18, 3) := by decide +kernel
theorem dX0_nearWithin_40 : decode cX0_nearWithin 40 = .ok (.iload_n 3, 1) := by decide +kernel
theorem dX0_nearWithin_41 : decode cX0_nearWithin 41 = .ok (.iconst 1, 1) := by decide +kernel
theorem dX0_nearWithin_42 : decode cX0_nearWithin 42 = .ok (.isub, 1) := by decide +kernel
theorem dX0_nearWithin_43 : decode cX0_nearWithin 43 = .ok (.iaload, 1) := by decide +kernel
theorem dX0_nearWithin_44 : decode cX0_nearWithin 44 = .ok (.isub, 1) := by decide +kernel
theorem dX0_nearWithin_45 : decode cX0_nearWithin 45 = .ok (.aload 4, 2) := by decide +kernel
theorem dX0_nearWithin_47 : decode cX0_nearWithin 47 = .ok (.getfield 57, 3) := by decide +kernel
theorem dX0_nearWithin_50 : decode cX0_nearWithin 50 = .ok (.idiv, 1) := by decide +kernel
theorem dX0_nearWithin_51 : decode cX0_nearWithin 51 = .ok (.goto 4, 3) := by decide +kernel
theorem dX0_nearWithin_54 : decode cX0_nearWithin 54 = .ok (.iconst 0, 1) := by decide +kernel
theorem dX0_nearWithin_55 : decode cX0_nearWithin 55 = .ok (.istore 5, 2) := by decide +kernel
theorem dX0_nearWithin_57 : decode cX0_nearWithin 57 = .ok (.new 48, 3) := by decide +kernel
theorem dX0_nearWithin_60 : decode cX0_nearWithin 60 = .ok (.dup, 1) := by decide +kernel
theorem dX0_nearWithin_61 : decode cX0_nearWithin 61 = .ok (.aload_n 0, 1) := by decide +kernel
theorem dX0_nearWithin_62 : decode cX0_nearWithin 62 = .ok (.getfield 15, 3) := by decide +kernel
theorem dX0_nearWithin_65 : decode cX0_nearWithin 65 = .ok (.iload_n 3, 1) := by decide +kernel
theorem dX0_nearWithin_66 : decode cX0_nearWithin 66 = .ok (.iconst 1, 1) := by decide +kernel
theorem dX0_nearWithin_67 : decode cX0_nearWithin 67 = .ok (.isub, 1) := by decide +kernel
theorem dX0_nearWithin_68 : decode cX0_nearWithin 68 = .ok (.iaload, 1) := by decide +kernel
theorem dX0_nearWithin_69 : decode cX0_nearWithin 69 = .ok (.iload 5, 2) := by decide +kernel
theorem dX0_nearWithin_71 : decode cX0_nearWithin 71 = .ok (.aload 4, 2) := by decide +kernel
theorem dX0_nearWithin_73 : decode cX0_nearWithin 73 = .ok (.getfield 59, 3) := by decide +kernel
theorem dX0_nearWithin_76 : decode cX0_nearWithin 76 = .ok (.imul, 1) := by decide +kernel
theorem dX0_nearWithin_77 : decode cX0_nearWithin 77 = .ok (.iadd, 1) := by decide +kernel
theorem dX0_nearWithin_78 : decode cX0_nearWithin 78 = .ok (.aload_n 0, 1) := by decide +kernel
theorem dX0_nearWithin_79 : decode cX0_nearWithin 79 = .ok (.getfield 18, 3) := by decide +kernel
theorem dX0_nearWithin_82 : decode cX0_nearWithin 82 = .ok (.iload_n 3, 1) := by decide +kernel
theorem dX0_nearWithin_83 : decode cX0_nearWithin 83 = .ok (.iconst 1, 1) := by decide +kernel
theorem dX0_nearWithin_84 : decode cX0_nearWithin 84 = .ok (.isub, 1) := by decide +kernel
theorem dX0_nearWithin_85 : decode cX0_nearWithin 85 = .ok (.iaload, 1) := by decide +kernel
theorem dX0_nearWithin_86 : decode cX0_nearWithin 86 = .ok (.iload 5, 2) := by decide +kernel
theorem dX0_nearWithin_88 : decode cX0_nearWithin 88 = .ok (.aload 4, 2) := by decide +kernel
theorem dX0_nearWithin_90 : decode cX0_nearWithin 90 = .ok (.getfield 57, 3) := by decide +kernel
theorem dX0_nearWithin_93 : decode cX0_nearWithin 93 = .ok (.imul, 1) := by decide +kernel
theorem dX0_nearWithin_94 : decode cX0_nearWithin 94 = .ok (.iadd, 1) := by decide +kernel
theorem dX0_nearWithin_95 : decode cX0_nearWithin 95 = .ok (.invokespecial 50, 3) := by decide +kernel
theorem dX0_nearWithin_98 : decode cX0_nearWithin 98 = .ok (.astore 6, 2) := by decide +kernel
theorem dX0_nearWithin_100 : decode cX0_nearWithin 100 = .ok (.iload_n 3, 1) := by decide +kernel
theorem dX0_nearWithin_101 : decode cX0_nearWithin 101 = .ok (.iconst 2, 1) := by decide +kernel
theorem dX0_nearWithin_102 : decode cX0_nearWithin 102 = .ok (.irem, 1) := by decide +kernel
theorem dX0_nearWithin_103 : decode cX0_nearWithin 103 = .ok (.iconst 1, 1) := by decide +kernel
theorem dX0_nearWithin_104 : decode cX0_nearWithin 104 = .ok (.if_icmp .ne 7, 3) := by decide +kernel
theorem dX0_nearWithin_107 : decode cX0_nearWithin 107 = .ok (.iconst 1, 1) := by decide +kernel
theorem dX0_nearWithin_108 : decode cX0_nearWithin 108 = .ok (.goto 4, 3) := by decide +kernel
theorem dX0_nearWithin_111 : decode cX0_nearWithin 111 = .ok (.iconst 0, 1) := by decide +kernel
theorem dX0_nearWithin_112 : decode cX0_nearWithin 112 = .ok (.istore 7, 2) := by decide +kernel
theorem dX0_nearWithin_114 : decode cX0_nearWithin 114 = .ok (.iload 7, 2) := by decide +kernel
theorem dX0_nearWithin_116 : decode cX0_nearWithin 116 = .ok (.ifCond .eq 8, 3) := by decide +kernel
theorem dX0_nearWithin_119 : decode cX0_nearWithin 119 = .ok (.aload 4, 2) := by decide +kernel
theorem dX0_nearWithin_121 : decode cX0_nearWithin 121 = .ok (.goto 5, 3) := by decide +kernel
theorem dX0_nearWithin_124 : decode cX0_nearWithin 124 = .ok (.aload 6, 2) := by decide +kernel
theorem dX0_nearWithin_126 : decode cX0_nearWithin 126 = .ok (.astore 8, 2) := by decide +kernel
theorem dX0_nearWithin_128 : decode cX0_nearWithin 128 = .ok (.iload 7, 2) := by decide +kernel
theorem dX0_nearWithin_130 : decode cX0_nearWithin 130 = .ok (.ifCond .eq 8, 3) := by decide +kernel
theorem dX0_nearWithin_133 : decode cX0_nearWithin 133 = .ok (.aload 6, 2) := by decide +kernel
theorem dX0_nearWithin_135 : decode cX0_nearWithin 135 = .ok (.goto 5, 3) := by decide +kernel
theorem dX0_nearWithin_138 : decode cX0_nearWithin 138 = .ok (.aload 4, 2) := by decide +kernel
theorem dX0_nearWithin_140 : decode cX0_nearWithin 140 = .ok (.astore 9, 2) := by decide +kernel
theorem dX0_nearWithin_142 : decode cX0_nearWithin 142 = .ok (.iload_n 2, 1) := by decide +kernel
theorem dX0_nearWithin_143 : decode cX0_nearWithin 143 = .ok (.iconst 2, 1) := by decide +kernel
theorem dX0_nearWithin_144 : decode cX0_nearWithin 144 = .ok (.if_icmp .ne 22, 3) := by decide +kernel
theorem dX0_nearWithin_147 : decode cX0_nearWithin 147 = .ok (.aload_n 0, 1) := by decide +kernel
theorem dX0_nearWithin_148 : decode cX0_nearWithin 148 = .ok (.aload 8, 2) := by decide +kernel
theorem dX0_nearWithin_150 : decode cX0_nearWithin 150 = .ok (.aload 9, 2) := by decide +kernel
theorem dX0_nearWithin_152 : decode cX0_nearWithin 152 = .ok (.invokevirtual 61, 3) := by decide +kernel
theorem dX0_nearWithin_155 : decode cX0_nearWithin 155 = .ok (.ifCond .eq 8, 3) := by decide +kernel
theorem dX0_nearWithin_158 : decode cX0_nearWithin 158 = .ok (.aload 8, 2) := by decide +kernel
theorem dX0_nearWithin_160 : decode cX0_nearWithin 160 = .ok (.goto 5, 3) := by decide +kernel
theorem dX0_nearWithin_163 : decode cX0_nearWithin 163 = .ok (.aload 9, 2) := by decide +kernel
theorem dX0_nearWithin_165 : decode cX0_nearWithin 165 = .ok (.areturn, 1) := by decide +kernel
theorem dX0_nearWithin_166 : decode cX0_nearWithin 166 = .ok (.iload_n 2, 1) := by decide +kernel
theorem dX0_nearWithin_167 : decode cX0_nearWithin 167 = .ok (.ifCond .ne 8, 3) := by decide +kernel
theorem dX0_nearWithin_170 : decode cX0_nearWithin 170 = .ok (.aload 8, 2) := by decide +kernel
theorem dX0_nearWithin_172 : decode cX0_nearWithin 172 = .ok (.goto 5, 3) := by decide +kernel
theorem dX0_nearWithin_175 : decode cX0_nearWithin 175 = .ok (.aload 9, 2) := by decide +kernel
theorem dX0_nearWithin_177 : decode cX0_nearWithin 177 = .ok (.areturn, 1) := by decide +kernel
theorem dX0_lastWithin_0 : decode cX0_lastWithin 0 = .ok (.iconst 1, 1) := by decide +kernel
theorem dX0_lastWithin_1 : decode cX0_lastWithin 1 = .ok (.istore_n 2, 1) := by decide +kernel
theorem dX0_lastWithin_2 : decode cX0_lastWithin 2 = .ok (.iconst 2, 1) := by decide +kernel
theorem dX0_lastWithin_3 : decode cX0_lastWithin 3 = .ok (.istore_n 3, 1) := by decide +kernel
theorem dX0_lastWithin_4 : decode cX0_lastWithin 4 = .ok (.iload_n 3, 1) := by decide +kernel
theorem dX0_lastWithin_5 : decode cX0_lastWithin 5 = .ok (.aload_n 0, 1) := by decide +kernel
theorem dX0_lastWithin_6 : decode cX0_lastWithin 6 = .ok (.getfield 21, 3) := by decide +kernel
theorem dX0_lastWithin_9 : decode cX0_lastWithin 9 = .ok (.if_icmp .gt 21, 3) := by decide +kernel
theorem dX0_lastWithin_12 : decode cX0_lastWithin 12 = .ok (.aload_n 0, 1) := by decide +kernel
theorem dX0_lastWithin_13 : decode cX0_lastWithin 13 = .ok (.getfield 18, 3) := by decide +kernel
theorem dX0_lastWithin_16 : decode cX0_lastWithin 16 = .ok (.iload_n 3, 1) := by decide +kernel
theorem dX0_lastWithin_17 : decode cX0_lastWithin 17 = .ok (.iaload, 1) := by decide +kernel
theorem dX0_lastWithin_18 : decode cX0_lastWithin 18 = .ok (.iload_n 1, 1) := by decide +kernel
theorem dX0_lastWithin_19 : decode cX0_lastWithin 19 = .ok (.if_icmp .gt 5, 3) := by decide +kernel
theorem dX0_lastWithin_22 : decode cX0_lastWithin 22 = .ok (.iload_n 3, 1) := by decide +kernel
theorem dX0_lastWithin_23 : decode cX0_lastWithin 23 = .ok (.istore_n 2, 1) := by decide +kernel
theorem dX0_lastWithin_24 : decode cX0_lastWithin 24 = .ok (.iinc 3 1, 3) := by decide +kernel
theorem dX0_lastWithin_27 : decode cX0_lastWithin 27 = .ok (.goto (-23), 3) := by decide +kernel
theorem dX0_lastWithin_30 : decode cX0_lastWithin 30 = .ok (.iload_n 2, 1) := by decide +kernel
theorem dX0_lastWithin_31 : decode cX0_lastWithin 31 = .ok (.ireturn, 1) := by decide +kernel
set_option maxRecDepth 20000 in
theorem ggX0_isLowerNearer_X0_top : GoodIn wsX0_isLowerNearer wsX0_top := goodIn_r _ [7, 8, 9, 17, 18, 19, 20] (by decide +kernel) (by decide +kernel)
set_option maxRecDepth 20000 in
theorem gX0_isLowerNearer_X0_top : GoodIn wsX0_isLowerNearer (wsV RX0 25 RX0 yX0_top wsX0_top) := goodIn_app (goodIn_of _ (by decide +kernel)) ggX0_isLowerNearer_X0_top
set_option maxRecDepth 20000 in
theorem ggX0_isLowerNearer_X0_bottom : GoodIn wsX0_isLowerNearer wsX0_bottom := goodIn_r _ [13, 14, 9, 17, 18, 19, 20] (by decide +kernel) (by decide +kernel)
set_option maxRecDepth 20000 in
theorem gX0_isLowerNearer_X0_bottom : GoodIn wsX0_isLowerNearer (wsV RX0 32 RX0 yX0_bottom wsX0_bottom) := goodIn_app (goodIn_of _ (by decide +kernel)) ggX0_isLowerNearer_X0_bottom
theorem dX0_isLowerNearer_0 : decode cX0_isLowerNearer 0 = .ok (.aload_n 0, 1) := by decide +kernel
theorem dX0_isLowerNearer_1 : decode cX0_isLowerNearer 1 = .ok (.invokevirtual 25, 3) := by decide +kernel
theorem dX0_isLowerNearer_4 : decode cX0_isLowerNearer 4 = .ok (.i2l, 1) := by decide +kernel
theorem dX0_isLowerNearer_5 : decode cX0_isLowerNearer 5 = .ok (.aload_n 1, 1) := by decide +kernel
theorem dX0_isLowerNearer_6 : decode cX0_isLowerNearer 6 = .ok (.getfield 57, 3) := by decide +kernel
theorem dX0_isLowerNearer_9 : decode cX0_isLowerNearer 9 = .ok (.i2l, 1) := by decide +kernel
theorem dX0_isLowerNearer_10 : decode cX0_isLowerNearer 10 = .ok (.lmul, 1) := by decide +kernel
theorem dX0_isLowerNearer_11 : decode cX0_isLowerNearer 11 = .ok (.aload_n 0, 1) := by decide +kernel
theorem dX0_isLowerNearer_12 : decode cX0_isLowerNearer 12 = .ok (.invokevirtual 32, 3) := by decide +kernel
theorem dX0_isLowerNearer_15 : decode cX0_isLowerNearer 15 = .ok (.i2l, 1) := by decide +kernel
theorem dX0_isLowerNearer_16 : decode cX0_isLowerNearer 16 = .ok (.aload_n 1, 1) := by decide +kernel
theorem dX0_isLowerNearer_17 : decode cX0_isLowerNearer 17 = .ok (.getfield 59, 3) := by decide +kernel
theorem dX0_isLowerNearer_20 : decode cX0_isLowerNearer 20 = .ok (.i2l, 1) := by decide +kernel
theorem dX0_isLowerNearer_21 : decode cX0_isLowerNearer 21 = .ok (.lmul, 1) := by decide +kernel
theorem dX0_isLowerNearer_22 : decode cX0_isLowerNearer 22 = .ok (.lsub, 1) := by decide +kernel
theorem dX0_isLowerNearer_23 : decode cX0_isLowerNearer 23 = .ok (.aload_n 2, 1) := by decide +kernel
theorem dX0_isLowerNearer_24 : decode cX0_isLowerNearer 24 = .ok (.getfield 57, 3) := by decide +kernel
theorem dX0_isLowerNearer_27 : decode cX0_isLowerNearer 27 = .ok (.i2l, 1) := by decide +kernel
theorem dX0_isLowerNearer_28 : decode cX0_isLowerNearer 28 = .ok (.lmul, 1) := by decide +kernel
theorem dX0_isLowerNearer_29 : decode cX0_isLowerNearer 29 = .ok (.lstore_n 3, 1) := by decide +kernel
theorem dX0_isLowerNearer_30 : decode cX0_isLowerNearer 30 = .ok (.aload_n 0, 1) := by decide +kernel
theorem dX0_isLowerNearer_31 : decode cX0_isLowerNearer 31 = .ok (.invokevirtual 32, 3) := by decide +kernel
theorem dX0_isLowerNearer_34 : decode cX0_isLowerNearer 34 = .ok (.i2l, 1) := by decide +kernel
theorem dX0_isLowerNearer_35 : decode cX0_isLowerNearer 35 = .ok (.aload_n 2, 1) := by decide +kernel
theorem dX0_isLowerNearer_36 : decode cX0_isLowerNearer 36 = .ok (.getfield 59, 3) := by decide +kernel
theorem dX0_isLowerNearer_39 : decode cX0_isLowerNearer 39 = .ok (.i2l, 1) := by decide +kernel
theorem dX0_isLowerNearer_40 : decode cX0_isLowerNearer 40 = .ok (.lmul, 1) := by decide +kernel
theorem dX0_isLowerNearer_41 : decode cX0_isLowerNearer 41 = .ok (.aload_n 0, 1) := by decide +kernel
theorem dX0_isLowerNearer_42 : decode cX0_isLowerNearer 42 = .ok (.invokevirtual 25, 3) := by decide +kernel
theorem dX0_isLowerNearer_45 : decode cX0_isLowerNearer 45 = .ok (.i2l, 1) := by decide +kernel
theorem dX0_isLowerNearer_46 : decode cX0_isLowerNearer 46 = .ok (.aload_n 2, 1) := by decide +kernel
theorem dX0_isLowerNearer_47 : decode cX0_isLowerNearer 47 = .ok (.getfield 57, 3) := by decide +kernel
theorem dX0_isLowerNearer_50 : decode cX0_isLowerNearer 50 = .ok (.i2l, 1) := by decide +kernel
theorem dX0_isLowerNearer_51 : decode cX0_isLowerNearer 51 = .ok (.lmul, 1) := by decide +kernel
theorem dX0_isLowerNearer_52 : decode cX0_isLowerNearer 52 = .ok (.lsub, 1) := by decide +kernel
theorem dX0_isLowerNearer_53 : decode cX0_isLowerNearer 53 = .ok (.aload_n 1, 1) := by decide +kernel
theorem dX0_isLowerNearer_54 : decode cX0_isLowerNearer 54 = .ok (.getfield 57, 3) := by decide +kernel
theorem dX0_isLowerNearer_57 : decode cX0_isLowerNearer 57 = .ok (.i2l, 1) := by decide +kernel
theorem dX0_isLowerNearer_58 : decode cX0_isLowerNearer 58 = .ok (.lmul, 1) := by decide +kernel
theorem dX0_isLowerNearer_59 : decode cX0_isLowerNearer 59 = .ok (.lstore 5, 2) := by decide +kernel
theorem dX0_isLowerNearer_61 : decode cX0_isLowerNearer 61 = .ok (.lload_n 3, 1) := by decide +kernel
theorem dX0_isLowerNearer_62 : decode cX0_isLowerNearer 62 = .ok (.lload 5, 2) := by decide +kernel
theorem dX0_isLowerNearer_64 : decode cX0_isLowerNearer 64 = .ok (.lcmp, 1) := by decide +kernel
theorem dX0_isLowerNearer_65 : decode cX0_isLowerNearer 65 = .ok (.ifCond .lt 21, 3) := by decide +kernel
theorem dX0_isLowerNearer_68 : decode cX0_isLowerNearer 68 = .ok (.lload_n 3, 1) := by decide +kernel
theorem dX0_isLowerNearer_69 : decode cX0_isLowerNearer 69 = .ok (.lload 5, 2) := by decide +kernel
theorem dX0_isLowerNearer_71 : decode cX0_isLowerNearer 71 = .ok (.lcmp, 1) := by decide +kernel
theorem dX0_isLowerNearer_72 : decode cX0_isLowerNearer 72 = .ok (.ifCond .ne 18, 3) := by decide +kernel
theorem dX0_isLowerNearer_75 : decode cX0_isLowerNearer 75 = .ok (.aload_n 1, 1) := by decide +kernel
theorem dX0_isLowerNearer_76 : decode cX0_isLowerNearer 76 = .ok (.getfield 57, 3) := by decide +kernel
theorem dX0_isLowerNearer_79 : decode cX0_isLowerNearer 79 = .ok (.aload_n 2, 1) := by decide +kernel
theorem dX0_isLowerNearer_80 : decode cX0_isLowerNearer 80 = .ok (.getfield 57, 3) := by decide +kernel
theorem dX0_isLowerNearer_83 : decode cX0_isLowerNearer 83 = .ok (.if_icmp .gt 7, 3) := by decide +kernel
theorem dX0_isLowerNearer_86 : decode cX0_isLowerNearer 86 = .ok (.iconst 1, 1) := by decide +kernel
theorem dX0_isLowerNearer_87 : decode cX0_isLowerNearer 87 = .ok (.goto 4, 3) := by decide +kernel
theorem dX0_isLowerNearer_90 : decode cX0_isLowerNearer 90 = .ok (.iconst 0, 1) := by decide +kernel
theorem dX0_isLowerNearer_91 : decode cX0_isLowerNearer 91 = .ok (.ireturn, 1) := by decide +kernel
set_option maxRecDepth 20000 in
theorem ggX0_termsMakeIt_X0_top : GoodIn wsX0_termsMakeIt wsX0_top := goodIn_r _ [7, 8, 1, 14, 15, 16, 17] (by decide +kernel) (by decide +kernel)
set_option maxRecDepth 20000 in
theorem gX0_termsMakeIt_X0_top : GoodIn wsX0_termsMakeIt (wsV RX0 25 RX0 yX0_top wsX0_top) := goodIn_app (goodIn_of _ (by decide +kernel)) ggX0_termsMakeIt_X0_top
set_option maxRecDepth 20000 in
theorem ggX0_termsMakeIt_X0_bottom : GoodIn wsX0_termsMakeIt wsX0_bottom := goodIn_r _ [12, 13, 1, 14, 15, 16, 17] (by decide +kernel) (by decide +kernel)
set_option maxRecDepth 20000 in
theorem gX0_termsMakeIt_X0_bottom : GoodIn wsX0_termsMakeIt (wsV RX0 32 RX0 yX0_bottom wsX0_bottom) := goodIn_app (goodIn_of _ (by decide +kernel)) ggX0_termsMakeIt_X0_bottom
theorem dX0_termsMakeIt_0 : decode cX0_termsMakeIt 0 = .ok (.lconst 1, 1) := by decide +kernel
theorem dX0_termsMakeIt_1 : decode cX0_termsMakeIt 1 = .ok (.lstore_n 1, 1) := by decide +kernel
theorem dX0_termsMakeIt_2 : decode cX0_termsMakeIt 2 = .ok (.lconst 0, 1) := by decide +kernel
theorem dX0_termsMakeIt_3 : decode cX0_termsMakeIt 3 = .ok (.lstore_n 3, 1) := by decide +kernel
theorem dX0_termsMakeIt_4 : decode cX0_termsMakeIt 4 = .ok (.aload_n 0, 1) := by decide +kernel
theorem dX0_termsMakeIt_5 : decode cX0_termsMakeIt 5 = .ok (.getfield 21, 3) := by decide +kernel
theorem dX0_termsMakeIt_8 : decode cX0_termsMakeIt 8 = .ok (.iconst 1, 1) := by decide +kernel
theorem dX0_termsMakeIt_9 : decode cX0_termsMakeIt 9 = .ok (.isub, 1) := by decide +kernel
theorem dX0_termsMakeIt_10 : decode cX0_termsMakeIt 10 = .ok (.istore 5, 2) := by decide +kernel
theorem dX0_termsMakeIt_12 : decode cX0_termsMakeIt 12 = .ok (.iload 5, 2) := by decide +kernel
theorem dX0_termsMakeIt_14 : decode cX0_termsMakeIt 14 = .ok (.ifCond .lt 28, 3) := by decide +kernel
theorem dX0_termsMakeIt_17 : decode cX0_termsMakeIt 17 = .ok (.aload_n 0, 1) := by decide +kernel
theorem dX0_termsMakeIt_18 : decode cX0_termsMakeIt 18 = .ok (.getfield 9, 3) := by decide +kernel
theorem dX0_termsMakeIt_21 : decode cX0_termsMakeIt 21 = .ok (.iload 5, 2) := by decide +kernel
theorem dX0_termsMakeIt_23 : decode cX0_termsMakeIt 23 = .ok (.iaload, 1) := by decide +kernel
theorem dX0_termsMakeIt_24 : decode cX0_termsMakeIt 24 = .ok (.i2l, 1) := by decide +kernel
theorem dX0_termsMakeIt_25 : decode cX0_termsMakeIt 25 = .ok (.lload_n 1, 1) := by decide +kernel
theorem dX0_termsMakeIt_26 : decode cX0_termsMakeIt 26 = .ok (.lmul, 1) := by decide +kernel
theorem dX0_termsMakeIt_27 : decode cX0_termsMakeIt 27 = .ok (.lload_n 3, 1) := by decide +kernel
theorem dX0_termsMakeIt_28 : decode cX0_termsMakeIt 28 = .ok (.ladd, 1) := by decide +kernel
theorem dX0_termsMakeIt_29 : decode cX0_termsMakeIt 29 = .ok (.lstore 6, 2) := by decide +kernel
theorem dX0_termsMakeIt_31 : decode cX0_termsMakeIt 31 = .ok (.lload_n 1, 1) := by decide +kernel
theorem dX0_termsMakeIt_32 : decode cX0_termsMakeIt 32 = .ok (.lstore_n 3, 1) := by decide +kernel
theorem dX0_termsMakeIt_33 : decode cX0_termsMakeIt 33 = .ok (.lload 6, 2) := by decide +kernel
theorem dX0_termsMakeIt_35 : decode cX0_termsMakeIt 35 = .ok (.lstore_n 1, 1) := by decide +kernel
theorem dX0_termsMakeIt_36 : decode cX0_termsMakeIt 36 = .ok (.iinc 5 (-1), 3) := by decide +kernel
theorem dX0_termsMakeIt_39 : decode cX0_termsMakeIt 39 = .ok (.goto (-27), 3) := by decide +kernel
theorem dX0_termsMakeIt_42 : decode cX0_termsMakeIt 42 = .ok (.lload_n 1, 1) := by decide +kernel
theorem dX0_termsMakeIt_43 : decode cX0_termsMakeIt 43 = .ok (.aload_n 0, 1) := by decide +kernel
theorem dX0_termsMakeIt_44 : decode cX0_termsMakeIt 44 = .ok (.invokevirtual 25, 3) := by decide +kernel
theorem dX0_termsMakeIt_47 : decode cX0_termsMakeIt 47 = .ok (.i2l, 1) := by decide +kernel
theorem dX0_termsMakeIt_48 : decode cX0_termsMakeIt 48 = .ok (.lcmp, 1) := by decide +kernel
theorem dX0_termsMakeIt_49 : decode cX0_termsMakeIt 49 = .ok (.ifCond .ne 17, 3) := by decide +kernel
theorem dX0_termsMakeIt_52 : decode cX0_termsMakeIt 52 = .ok (.lload_n 3, 1) := by decide +kernel
theorem dX0_termsMakeIt_53 : decode cX0_termsMakeIt 53 = .ok (.aload_n 0, 1) := by decide +kernel
theorem dX0_termsMakeIt_54 : decode cX0_termsMakeIt 54 = .ok (.invokevirtual 32, 3) := by decide +kernel
theorem dX0_termsMakeIt_57 : decode cX0_termsMakeIt 57 = .ok (.i2l, 1) := by decide +kernel
theorem dX0_termsMakeIt_58 : decode cX0_termsMakeIt 58 = .ok (.lcmp, 1) := by decide +kernel
theorem dX0_termsMakeIt_59 : decode cX0_termsMakeIt 59 = .ok (.ifCond .ne 7, 3) := by decide +kernel
theorem dX0_termsMakeIt_62 : decode cX0_termsMakeIt 62 = .ok (.iconst 1, 1) := by decide +kernel
theorem dX0_termsMakeIt_63 : decode cX0_termsMakeIt 63 = .ok (.goto 4, 3) := by decide +kernel
theorem dX0_termsMakeIt_66 : decode cX0_termsMakeIt 66 = .ok (.iconst 0, 1) := by decide +kernel
theorem dX0_termsMakeIt_67 : decode cX0_termsMakeIt 67 = .ok (.ireturn, 1) := by decide +kernel
theorem dX0_convergentsAreClose_0 : decode cX0_convergentsAreClose 0 = .ok (.iconst 2, 1) := by decide +kernel
theorem dX0_convergentsAreClose_1 : decode cX0_convergentsAreClose 1 = .ok (.istore_n 1, 1) := by decide +kernel
theorem dX0_convergentsAreClose_2 : decode cX0_convergentsAreClose 2 = .ok (.iload_n 1, 1) := by decide +kernel
theorem dX0_convergentsAreClose_3 : decode cX0_convergentsAreClose 3 = .ok (.aload_n 0, 1) := by decide +kernel
theorem dX0_convergentsAreClose_4 : decode cX0_convergentsAreClose 4 = .ok (.getfield 21, 3) := by decide +kernel
theorem dX0_convergentsAreClose_7 : decode cX0_convergentsAreClose 7 = .ok (.if_icmp .gt 61, 3) := by decide +kernel
theorem dX0_convergentsAreClose_10 : decode cX0_convergentsAreClose 10 = .ok (.aload_n 0, 1) := by decide +kernel
theorem dX0_convergentsAreClose_11 : decode cX0_convergentsAreClose 11 = .ok (.getfield 15, 3) := by decide +kernel
theorem dX0_convergentsAreClose_14 : decode cX0_convergentsAreClose 14 = .ok (.iload_n 1, 1) := by decide +kernel
theorem dX0_convergentsAreClose_15 : decode cX0_convergentsAreClose 15 = .ok (.iaload, 1) := by decide +kernel
theorem dX0_convergentsAreClose_16 : decode cX0_convergentsAreClose 16 = .ok (.i2l, 1) := by decide +kernel
theorem dX0_convergentsAreClose_17 : decode cX0_convergentsAreClose 17 = .ok (.aload_n 0, 1) := by decide +kernel
theorem dX0_convergentsAreClose_18 : decode cX0_convergentsAreClose 18 = .ok (.getfield 18, 3) := by decide +kernel
theorem dX0_convergentsAreClose_21 : decode cX0_convergentsAreClose 21 = .ok (.iload_n 1, 1) := by decide +kernel
theorem dX0_convergentsAreClose_22 : decode cX0_convergentsAreClose 22 = .ok (.iconst 1, 1) := by decide +kernel
theorem dX0_convergentsAreClose_23 : decode cX0_convergentsAreClose 23 = .ok (.isub, 1) := by decide +kernel
theorem dX0_convergentsAreClose_24 : decode cX0_convergentsAreClose 24 = .ok (.iaload, 1) := by decide +kernel
theorem dX0_convergentsAreClose_25 : decode cX0_convergentsAreClose 25 = .ok (.i2l, 1) := by decide +kernel
theorem dX0_convergentsAreClose_26 : decode cX0_convergentsAreClose 26 = .ok (.lmul, 1) := by decide +kernel
theorem dX0_convergentsAreClose_27 : decode cX0_convergentsAreClose 27 = .ok (.aload_n 0, 1) := by decide +kernel
theorem dX0_convergentsAreClose_28 : decode cX0_convergentsAreClose 28 = .ok (.getfield 15, 3) := by decide +kernel
theorem dX0_convergentsAreClose_31 : decode cX0_convergentsAreClose 31 = .ok (.iload_n 1, 1) := by decide +kernel
theorem dX0_convergentsAreClose_32 : decode cX0_convergentsAreClose 32 = .ok (.iconst 1, 1) := by decide +kernel
theorem dX0_convergentsAreClose_33 : decode cX0_convergentsAreClose 33 = .ok (.isub, 1) := by decide +kernel
theorem dX0_convergentsAreClose_34 : decode cX0_convergentsAreClose 34 = .ok (.iaload, 1) := by decide +kernel
theorem dX0_convergentsAreClose_35 : decode cX0_convergentsAreClose 35 = .ok (.i2l, 1) := by decide +kernel
theorem dX0_convergentsAreClose_36 : decode cX0_convergentsAreClose 36 = .ok (.aload_n 0, 1) := by decide +kernel
theorem dX0_convergentsAreClose_37 : decode cX0_convergentsAreClose 37 = .ok (.getfield 18, 3) := by decide +kernel
theorem dX0_convergentsAreClose_40 : decode cX0_convergentsAreClose 40 = .ok (.iload_n 1, 1) := by decide +kernel
theorem dX0_convergentsAreClose_41 : decode cX0_convergentsAreClose 41 = .ok (.iaload, 1) := by decide +kernel
theorem dX0_convergentsAreClose_42 : decode cX0_convergentsAreClose 42 = .ok (.i2l, 1) := by decide +kernel
theorem dX0_convergentsAreClose_43 : decode cX0_convergentsAreClose 43 = .ok (.lmul, 1) := by decide +kernel
theorem dX0_convergentsAreClose_44 : decode cX0_convergentsAreClose 44 = .ok (.lsub, 1) := by decide +kernel
theorem dX0_convergentsAreClose_45 : decode cX0_convergentsAreClose 45 = .ok (.lstore_n 2, 1) := by decide +kernel
theorem dX0_convergentsAreClose_46 : decode cX0_convergentsAreClose 46 = .ok (.lload_n 2, 1) := by decide +kernel
theorem dX0_convergentsAreClose_47 : decode cX0_convergentsAreClose 47 = .ok (.lconst 1, 1) := by decide +kernel
theorem dX0_convergentsAreClose_48 : decode cX0_convergentsAreClose 48 = .ok (.lcmp, 1) := by decide +kernel
theorem dX0_convergentsAreClose_49 : decode cX0_convergentsAreClose 49 = .ok (.ifCond .eq 13, 3) := by decide +kernel
theorem dX0_convergentsAreClose_52 : decode cX0_convergentsAreClose 52 = .ok (.lload_n 2, 1) := by decide +kernel
theorem dX0_convergentsAreClose_53 : decode cX0_convergentsAreClose 53 = .ok (.ldc2_w 65, 3) := by decide +kernel
theorem dX0_convergentsAreClose_56 : decode cX0_convergentsAreClose 56 = .ok (.lcmp, 1) := by decide +kernel
theorem dX0_convergentsAreClose_57 : decode cX0_convergentsAreClose 57 = .ok (.ifCond .eq 5, 3) := by decide +kernel
theorem dX0_convergentsAreClose_60 : decode cX0_convergentsAreClose 60 = .ok (.iconst 0, 1) := by decide +kernel
theorem dX0_convergentsAreClose_61 : decode cX0_convergentsAreClose 61 = .ok (.ireturn, 1) := by decide +kernel
theorem dX0_convergentsAreClose_62 : decode cX0_convergentsAreClose 62 = .ok (.iinc 1 1, 3) := by decide +kernel
theorem dX0_convergentsAreClose_65 : decode cX0_convergentsAreClose 65 = .ok (.goto (-63), 3) := by decide +kernel
theorem dX0_convergentsAreClose_68 : decode cX0_convergentsAreClose 68 = .ok (.iconst 1, 1) := by decide +kernel
theorem dX0_convergentsAreClose_69 : decode cX0_convergentsAreClose 69 = .ok (.ireturn, 1) := by decide +kernel
set_option maxRecDepth 20000 in
theorem ggX0_wayLeadsToIt_X0_top : GoodIn wsX0_wayLeadsToIt wsX0_top := goodIn_r _ [5, 6, 7, 26, 27, 28, 29] (by decide +kernel) (by decide +kernel)
set_option maxRecDepth 20000 in
theorem gX0_wayLeadsToIt_X0_top : GoodIn wsX0_wayLeadsToIt (wsV RX0 25 RX0 yX0_top wsX0_top) := goodIn_app (goodIn_of _ (by decide +kernel)) ggX0_wayLeadsToIt_X0_top
set_option maxRecDepth 20000 in
theorem ggX0_wayLeadsToIt_X0_countRuns : GoodIn wsX0_wayLeadsToIt wsX0_countRuns := goodIn_r _ [11, 7, 1, 2, 3, 4, 5, 6, 12, 13, 14, 15, 16, 17, 18, 19, 20, 21, 26, 27, 28, 29] (by decide +kernel) (by decide +kernel)
set_option maxRecDepth 20000 in
theorem gX0_wayLeadsToIt_X0_countRuns : GoodIn wsX0_wayLeadsToIt (wsV RX0 67 RX0 yX0_countRuns wsX0_countRuns) := goodIn_app (goodIn_of _ (by decide +kernel)) ggX0_wayLeadsToIt_X0_countRuns
set_option maxRecDepth 20000 in
theorem ggX0_wayLeadsToIt_X0_stepsOfRun : GoodIn wsX0_wayLeadsToIt wsX0_stepsOfRun := goodIn_r _ [25, 7, 21, 17, 18, 19, 4, 20, 26, 27, 28, 29] (by decide +kernel) (by decide +kernel)
set_option maxRecDepth 20000 in
theorem gX0_wayLeadsToIt_X0_stepsOfRun : GoodIn wsX0_wayLeadsToIt (wsV RX0 70 RX0 yX0_stepsOfRun wsX0_stepsOfRun) := goodIn_app (goodIn_of _ (by decide +kernel)) ggX0_wayLeadsToIt_X0_stepsOfRun
set_option maxRecDepth 20000 in
theorem ggX0_wayLeadsToIt_X0_bottom : GoodIn wsX0_wayLeadsToIt wsX0_bottom := goodIn_r _ [15, 16, 7, 26, 27, 28, 29] (by decide +kernel) (by decide +kernel)
set_option maxRecDepth 20000 in
theorem gX0_wayLeadsToIt_X0_bottom : GoodIn wsX0_wayLeadsToIt (wsV RX0 32 RX0 yX0_bottom wsX0_bottom) := goodIn_app (goodIn_of _ (by decide +kernel)) ggX0_wayLeadsToIt_X0_bottom
theorem dX0_wayLeadsToIt_0 : decode cX0_wayLeadsToIt 0 = .ok (.aload_n 0, 1) := by decide +kernel
theorem dX0_wayLeadsToIt_1 : decode cX0_wayLeadsToIt 1 = .ok (.invokevirtual 25, 3) := by decide +kernel
theorem dX0_wayLeadsToIt_4 : decode cX0_wayLeadsToIt 4 = .ok (.ifCond .ne 5, 3) := by decide +kernel
theorem dX0_wayLeadsToIt_7 : decode cX0_wayLeadsToIt 7 = .ok (.iconst 1, 1) := by decide +kernel
theorem dX0_wayLeadsToIt_8 : decode cX0_wayLeadsToIt 8 = .ok (.ireturn, 1) := by decide +kernel
theorem dX0_wayLeadsToIt_9 : decode cX0_wayLeadsToIt 9 = .ok (.lconst 0, 1) := by decide +kernel
theorem dX0_wayLeadsToIt_10 : decode cX0_wayLeadsToIt 10 = .ok (.lstore_n 1, 1) := by decide +kernel
theorem dX0_wayLeadsToIt_11 : decode cX0_wayLeadsToIt 11 = .ok (.lconst 1, 1) := by decide +kernel
theorem dX0_wayLeadsToIt_12 : decode cX0_wayLeadsToIt 12 = .ok (.lstore_n 3, 1) := by decide +kernel
theorem dX0_wayLeadsToIt_13 : decode cX0_wayLeadsToIt 13 = .ok (.lconst 1, 1) := by decide +kernel
theorem dX0_wayLeadsToIt_14 : decode cX0_wayLeadsToIt 14 = .ok (.lstore 5, 2) := by decide +kernel
theorem dX0_wayLeadsToIt_16 : decode cX0_wayLeadsToIt 16 = .ok (.lconst 0, 1) := by decide +kernel
theorem dX0_wayLeadsToIt_17 : decode cX0_wayLeadsToIt 17 = .ok (.lstore 7, 2) := by decide +kernel
theorem dX0_wayLeadsToIt_19 : decode cX0_wayLeadsToIt 19 = .ok (.aload_n 0, 1) := by decide +kernel
theorem dX0_wayLeadsToIt_20 : decode cX0_wayLeadsToIt 20 = .ok (.invokevirtual 67, 3) := by decide +kernel
theorem dX0_wayLeadsToIt_23 : decode cX0_wayLeadsToIt 23 = .ok (.istore 9, 2) := by decide +kernel
theorem dX0_wayLeadsToIt_25 : decode cX0_wayLeadsToIt 25 = .ok (.iconst 0, 1) := by decide +kernel
theorem dX0_wayLeadsToIt_26 : decode cX0_wayLeadsToIt 26 = .ok (.istore 10, 2) := by decide +kernel
theorem dX0_wayLeadsToIt_28 : decode cX0_wayLeadsToIt 28 = .ok (.iload 10, 2) := by decide +kernel
theorem dX0_wayLeadsToIt_30 : decode cX0_wayLeadsToIt 30 = .ok (.iload 9, 2) := by decide +kernel
theorem dX0_wayLeadsToIt_32 : decode cX0_wayLeadsToIt 32 = .ok (.if_icmp .ge 63, 3) := by decide +kernel
theorem dX0_wayLeadsToIt_35 : decode cX0_wayLeadsToIt 35 = .ok (.aload_n 0, 1) := by decide +kernel
theorem dX0_wayLeadsToIt_36 : decode cX0_wayLeadsToIt 36 = .ok (.iload 10, 2) := by decide +kernel
theorem dX0_wayLeadsToIt_38 : decode cX0_wayLeadsToIt 38 = .ok (.invokevirtual 70, 3) := by decide +kernel
theorem dX0_wayLeadsToIt_41 : decode cX0_wayLeadsToIt 41 = .ok (.istore 11, 2) := by decide +kernel
theorem dX0_wayLeadsToIt_43 : decode cX0_wayLeadsToIt 43 = .ok (.iload 11, 2) := by decide +kernel
theorem dX0_wayLeadsToIt_45 : decode cX0_wayLeadsToIt 45 = .ok (.ifCond .le 24, 3) := by decide +kernel
theorem dX0_wayLeadsToIt_48 : decode cX0_wayLeadsToIt 48 = .ok (.lload_n 1, 1) := by decide +kernel
theorem dX0_wayLeadsToIt_49 : decode cX0_wayLeadsToIt 49 = .ok (.iload 11, 2) := by decide +kernel
theorem dX0_wayLeadsToIt_51 : decode cX0_wayLeadsToIt 51 = .ok (.i2l, 1) := by decide +kernel
theorem dX0_wayLeadsToIt_52 : decode cX0_wayLeadsToIt 52 = .ok (.lload 5, 2) := by decide +kernel
theorem dX0_wayLeadsToIt_54 : decode cX0_wayLeadsToIt 54 = .ok (.lmul, 1) := by decide +kernel
theorem dX0_wayLeadsToIt_55 : decode cX0_wayLeadsToIt 55 = .ok (.ladd, 1) := by decide +kernel
theorem dX0_wayLeadsToIt_56 : decode cX0_wayLeadsToIt 56 = .ok (.lstore_n 1, 1) := by decide +kernel
theorem dX0_wayLeadsToIt_57 : decode cX0_wayLeadsToIt 57 = .ok (.lload_n 3, 1) := by decide +kernel
theorem dX0_wayLeadsToIt_58 : decode cX0_wayLeadsToIt 58 = .ok (.iload 11, 2) := by decide +kernel
theorem dX0_wayLeadsToIt_60 : decode cX0_wayLeadsToIt 60 = .ok (.i2l, 1) := by decide +kernel
theorem dX0_wayLeadsToIt_61 : decode cX0_wayLeadsToIt 61 = .ok (.lload 7, 2) := by decide +kernel
theorem dX0_wayLeadsToIt_63 : decode cX0_wayLeadsToIt 63 = .ok (.lmul, 1) := by decide +kernel
theorem dX0_wayLeadsToIt_64 : decode cX0_wayLeadsToIt 64 = .ok (.ladd, 1) := by decide +kernel
theorem dX0_wayLeadsToIt_65 : decode cX0_wayLeadsToIt 65 = .ok (.lstore_n 3, 1) := by decide +kernel
theorem dX0_wayLeadsToIt_66 : decode cX0_wayLeadsToIt 66 = .ok (.goto 23, 3) := by decide +kernel
theorem dX0_wayLeadsToIt_69 : decode cX0_wayLeadsToIt 69 = .ok (.lload 5, 2) := by decide +kernel
theorem dX0_wayLeadsToIt_71 : decode cX0_wayLeadsToIt 71 = .ok (.iload 11, 2) := by decide +kernel
theorem dX0_wayLeadsToIt_73 : decode cX0_wayLeadsToIt 73 = .ok (.i2l, 1) := by decide +kernel
theorem dX0_wayLeadsToIt_74 : decode cX0_wayLeadsToIt 74 = .ok (.lload_n 1, 1) := by decide +kernel
theorem dX0_wayLeadsToIt_75 : decode cX0_wayLeadsToIt 75 = .ok (.lmul, 1) := by decide +kernel
theorem dX0_wayLeadsToIt_76 : decode cX0_wayLeadsToIt 76 = .ok (.lsub, 1) := by decide +kernel
theorem dX0_wayLeadsToIt_77 : decode cX0_wayLeadsToIt 77 = .ok (.lstore 5, 2) := by decide +kernel
theorem dX0_wayLeadsToIt_79 : decode cX0_wayLeadsToIt 79 = .ok (.lload 7, 2) := by decide +kernel
theorem dX0_wayLeadsToIt_81 : decode cX0_wayLeadsToIt 81 = .ok (.iload 11, 2) := by decide +kernel
theorem dX0_wayLeadsToIt_83 : decode cX0_wayLeadsToIt 83 = .ok (.i2l, 1) := by decide +kernel
theorem dX0_wayLeadsToIt_84 : decode cX0_wayLeadsToIt 84 = .ok (.lload_n 3, 1) := by decide +kernel
theorem dX0_wayLeadsToIt_85 : decode cX0_wayLeadsToIt 85 = .ok (.lmul, 1) := by decide +kernel
theorem dX0_wayLeadsToIt_86 : decode cX0_wayLeadsToIt 86 = .ok (.lsub, 1) := by decide +kernel
theorem dX0_wayLeadsToIt_87 : decode cX0_wayLeadsToIt 87 = .ok (.lstore 7, 2) := by decide +kernel
theorem dX0_wayLeadsToIt_89 : decode cX0_wayLeadsToIt 89 = .ok (.iinc 10 1, 3) := by decide +kernel
theorem dX0_wayLeadsToIt_92 : decode cX0_wayLeadsToIt 92 = .ok (.goto (-64), 3) := by decide +kernel
theorem dX0_wayLeadsToIt_95 : decode cX0_wayLeadsToIt 95 = .ok (.lload_n 1, 1) := by decide +kernel
theorem dX0_wayLeadsToIt_96 : decode cX0_wayLeadsToIt 96 = .ok (.lload 5, 2) := by decide +kernel
theorem dX0_wayLeadsToIt_98 : decode cX0_wayLeadsToIt 98 = .ok (.ladd, 1) := by decide +kernel
theorem dX0_wayLeadsToIt_99 : decode cX0_wayLeadsToIt 99 = .ok (.aload_n 0, 1) := by decide +kernel
theorem dX0_wayLeadsToIt_100 : decode cX0_wayLeadsToIt 100 = .ok (.invokevirtual 25, 3) := by decide +kernel
theorem dX0_wayLeadsToIt_103 : decode cX0_wayLeadsToIt 103 = .ok (.i2l, 1) := by decide +kernel
theorem dX0_wayLeadsToIt_104 : decode cX0_wayLeadsToIt 104 = .ok (.lcmp, 1) := by decide +kernel
theorem dX0_wayLeadsToIt_105 : decode cX0_wayLeadsToIt 105 = .ok (.ifCond .ne 20, 3) := by decide +kernel
theorem dX0_wayLeadsToIt_108 : decode cX0_wayLeadsToIt 108 = .ok (.lload_n 3, 1) := by decide +kernel
theorem dX0_wayLeadsToIt_109 : decode cX0_wayLeadsToIt 109 = .ok (.lload 7, 2) := by decide +kernel
theorem dX0_wayLeadsToIt_111 : decode cX0_wayLeadsToIt 111 = .ok (.ladd, 1) := by decide +kernel
theorem dX0_wayLeadsToIt_112 : decode cX0_wayLeadsToIt 112 = .ok (.aload_n 0, 1) := by decide +kernel
theorem dX0_wayLeadsToIt_113 : decode cX0_wayLeadsToIt 113 = .ok (.invokevirtual 32, 3) := by decide +kernel
theorem dX0_wayLeadsToIt_116 : decode cX0_wayLeadsToIt 116 = .ok (.i2l, 1) := by decide +kernel
theorem dX0_wayLeadsToIt_117 : decode cX0_wayLeadsToIt 117 = .ok (.lcmp, 1) := by decide +kernel
theorem dX0_wayLeadsToIt_118 : decode cX0_wayLeadsToIt 118 = .ok (.ifCond .ne 7, 3) := by decide +kernel
theorem dX0_wayLeadsToIt_121 : decode cX0_wayLeadsToIt 121 = .ok (.iconst 1, 1) := by decide +kernel
theorem dX0_wayLeadsToIt_122 : decode cX0_wayLeadsToIt 122 = .ok (.goto 4, 3) := by decide +kernel
theorem dX0_wayLeadsToIt_125 : decode cX0_wayLeadsToIt 125 = .ok (.iconst 0, 1) := by decide +kernel
theorem dX0_wayLeadsToIt_126 : decode cX0_wayLeadsToIt 126 = .ok (.ireturn, 1) := by decide +kernel
theorem dX1_init_0 : decode cX1_init 0 = .ok (.aload_n 0, 1) := by decide +kernel
theorem dX1_init_1 : decode cX1_init 1 = .ok (.invokespecial 1, 3) := by decide +kernel
theorem dX1_init_4 : decode cX1_init 4 = .ok (.aload_n 0, 1) := by decide +kernel
theorem dX1_init_5 : decode cX1_init 5 = .ok (.iload_n 1, 1) := by decide +kernel
theorem dX1_init_6 : decode cX1_init 6 = .ok (.putfield 7, 3) := by decide +kernel
theorem dX1_init_9 : decode cX1_init 9 = .ok (.aload_n 0, 1) := by decide +kernel
theorem dX1_init_10 : decode cX1_init 10 = .ok (.iload_n 2, 1) := by decide +kernel
theorem dX1_init_11 : decode cX1_init 11 = .ok (.putfield 13, 3) := by decide +kernel
theorem dX1_init_14 : decode cX1_init 14 = .ok (.return_, 1) := by decide +kernel
theorem dX2_init_0 : decode cX2_init 0 = .ok (.aload_n 0, 1) := by decide +kernel
theorem dX2_init_1 : decode cX2_init 1 = .ok (.invokespecial 3, 3) := by decide +kernel
theorem dX2_init_4 : decode cX2_init 4 = .ok (.aload_n 0, 1) := by decide +kernel
theorem dX2_init_5 : decode cX2_init 5 = .ok (.sipush 201, 3) := by decide +kernel
theorem dX2_init_8 : decode cX2_init 8 = .ok (.newarray .int, 2) := by decide +kernel
theorem dX2_init_10 : decode cX2_init 10 = .ok (.putfield 9, 3) := by decide +kernel
theorem dX2_init_13 : decode cX2_init 13 = .ok (.aload_n 0, 1) := by decide +kernel
theorem dX2_init_14 : decode cX2_init 14 = .ok (.getfield 9, 3) := by decide +kernel
theorem dX2_init_17 : decode cX2_init 17 = .ok (.iconst 1, 1) := by decide +kernel
theorem dX2_init_18 : decode cX2_init 18 = .ok (.iconst 1, 1) := by decide +kernel
theorem dX2_init_19 : decode cX2_init 19 = .ok (.iastore, 1) := by decide +kernel
theorem dX2_init_20 : decode cX2_init 20 = .ok (.iconst 1, 1) := by decide +kernel
theorem dX2_init_21 : decode cX2_init 21 = .ok (.istore_n 1, 1) := by decide +kernel
theorem dX2_init_22 : decode cX2_init 22 = .ok (.iload_n 1, 1) := by decide +kernel
theorem dX2_init_23 : decode cX2_init 23 = .ok (.sipush 200, 3) := by decide +kernel
theorem dX2_init_26 : decode cX2_init 26 = .ok (.if_icmp .gt 42, 3) := by decide +kernel
theorem dX2_init_29 : decode cX2_init 29 = .ok (.iconst 2, 1) := by decide +kernel
theorem dX2_init_30 : decode cX2_init 30 = .ok (.iload_n 1, 1) := by decide +kernel
theorem dX2_init_31 : decode cX2_init 31 = .ok (.imul, 1) := by decide +kernel
theorem dX2_init_32 : decode cX2_init 32 = .ok (.istore_n 2, 1) := by decide +kernel
theorem dX2_init_33 : decode cX2_init 33 = .ok (.iload_n 2, 1) := by decide +kernel
theorem dX2_init_34 : decode cX2_init 34 = .ok (.sipush 200, 3) := by decide +kernel
theorem dX2_init_37 : decode cX2_init 37 = .ok (.if_icmp .gt 25, 3) := by decide +kernel
theorem dX2_init_40 : decode cX2_init 40 = .ok (.aload_n 0, 1) := by decide +kernel
theorem dX2_init_41 : decode cX2_init 41 = .ok (.getfield 9, 3) := by decide +kernel
theorem dX2_init_44 : decode cX2_init 44 = .ok (.iload_n 2, 1) := by decide +kernel
theorem dX2_init_45 : decode cX2_init 45 = .ok (.dup2, 1) := by decide +kernel
theorem dX2_init_46 : decode cX2_init 46 = .ok (.iaload, 1) := by decide +kernel
theorem dX2_init_47 : decode cX2_init 47 = .ok (.aload_n 0, 1) := by decide +kernel
theorem dX2_init_48 : decode cX2_init 48 = .ok (.getfield 9, 3) := by decide +kernel
theorem dX2_init_51 : decode cX2_init 51 = .ok (.iload_n 1, 1) := by decide +kernel
theorem dX2_init_52 : decode cX2_init 52 = .ok (.iaload, 1) := by decide +kernel
theorem dX2_init_53 : decode cX2_init 53 = .ok (.isub, 1) := by decide +kernel
theorem dX2_init_54 : decode cX2_init 54 = .ok (.iastore, 1) := by decide +kernel
theorem dX2_init_55 : decode cX2_init 55 = .ok (.iload_n 2, 1) := by decide +kernel
theorem dX2_init_56 : decode cX2_init 56 = .ok (.iload_n 1, 1) := by decide +kernel
theorem dX2_init_57 : decode cX2_init 57 = .ok (.iadd, 1) := by decide +kernel
theorem dX2_init_58 : decode cX2_init 58 = .ok (.istore_n 2, 1) := by decide +kernel
theorem dX2_init_59 : decode cX2_init 59 = .ok (.goto (-26), 3) := by decide +kernel
theorem dX2_init_62 : decode cX2_init 62 = .ok (.iinc 1 1, 3) := by decide +kernel
theorem dX2_init_65 : decode cX2_init 65 = .ok (.goto (-43), 3) := by decide +kernel
theorem dX2_init_68 : decode cX2_init 68 = .ok (.iconst 2, 1) := by decide +kernel
theorem dX2_init_69 : decode cX2_init 69 = .ok (.istore_n 1, 1) := by decide +kernel
theorem dX2_init_70 : decode cX2_init 70 = .ok (.iload_n 1, 1) := by decide +kernel
theorem dX2_init_71 : decode cX2_init 71 = .ok (.sipush 200, 3) := by decide +kernel
theorem dX2_init_74 : decode cX2_init 74 = .ok (.if_icmp .gt 26, 3) := by decide +kernel
theorem dX2_init_77 : decode cX2_init 77 = .ok (.aload_n 0, 1) := by decide +kernel
theorem dX2_init_78 : decode cX2_init 78 = .ok (.getfield 9, 3) := by decide +kernel
theorem dX2_init_81 : decode cX2_init 81 = .ok (.iload_n 1, 1) := by decide +kernel
theorem dX2_init_82 : decode cX2_init 82 = .ok (.dup2, 1) := by decide +kernel
theorem dX2_init_83 : decode cX2_init 83 = .ok (.iaload, 1) := by decide +kernel
theorem dX2_init_84 : decode cX2_init 84 = .ok (.aload_n 0, 1) := by decide +kernel
theorem dX2_init_85 : decode cX2_init 85 = .ok (.getfield 9, 3) := by decide +kernel
theorem dX2_init_88 : decode cX2_init 88 = .ok (.iload_n 1, 1) := by decide +kernel
theorem dX2_init_89 : decode cX2_init 89 = .ok (.iconst 1, 1) := by decide +kernel
theorem dX2_init_90 : decode cX2_init 90 = .ok (.isub, 1) := by decide +kernel
theorem dX2_init_91 : decode cX2_init 91 = .ok (.iaload, 1) := by decide +kernel
theorem dX2_init_92 : decode cX2_init 92 = .ok (.iadd, 1) := by decide +kernel
theorem dX2_init_93 : decode cX2_init 93 = .ok (.iastore, 1) := by decide +kernel
theorem dX2_init_94 : decode cX2_init 94 = .ok (.iinc 1 1, 3) := by decide +kernel
theorem dX2_init_97 : decode cX2_init 97 = .ok (.goto (-27), 3) := by decide +kernel
theorem dX2_init_100 : decode cX2_init 100 = .ok (.return_, 1) := by decide +kernel
set_option maxRecDepth 20000 in
theorem ggX2_countAll_X2_countInside : GoodIn wsX2_countAll wsX2_countInside := goodIn_r _ [5, 6, 7, 8, 9, 10, 11] (by decide +kernel) (by decide +kernel)
set_option maxRecDepth 20000 in
theorem gX2_countAll_X2_countInside : GoodIn wsX2_countAll (wsV RX2 15 RX2 yX2_countInside wsX2_countInside) := goodIn_app (goodIn_of _ (by decide +kernel)) ggX2_countAll_X2_countInside
theorem dX2_countAll_0 : decode cX2_countAll 0 = .ok (.aload_n 0, 1) := by decide +kernel
theorem dX2_countAll_1 : decode cX2_countAll 1 = .ok (.iload_n 1, 1) := by decide +kernel
theorem dX2_countAll_2 : decode cX2_countAll 2 = .ok (.iconst 1, 1) := by decide +kernel
theorem dX2_countAll_3 : decode cX2_countAll 3 = .ok (.iconst 1, 1) := by decide +kernel
theorem dX2_countAll_4 : decode cX2_countAll 4 = .ok (.invokevirtual 15, 3) := by decide +kernel
theorem dX2_countAll_7 : decode cX2_countAll 7 = .ok (.iconst 2, 1) := by decide +kernel
theorem dX2_countAll_8 : decode cX2_countAll 8 = .ok (.iadd, 1) := by decide +kernel
theorem dX2_countAll_9 : decode cX2_countAll 9 = .ok (.ireturn, 1) := by decide +kernel
set_option maxRecDepth 20000 in
theorem ggX2_countBelow_X2_countAll : GoodIn wsX2_countBelow wsX2_countAll := goodIn_r _ [5, 6, 7, 8, 4, 9, 10, 11, 12, 13, 14, 15] (by decide +kernel) (by decide +kernel)
set_option maxRecDepth 20000 in
theorem gX2_countBelow_X2_countAll : GoodIn wsX2_countBelow (wsV RX2 19 RX2 yX2_countAll wsX2_countAll) := goodIn_app (goodIn_of _ (by decide +kernel)) ggX2_countBelow_X2_countAll
set_option maxRecDepth 20000 in
theorem ggX2_countBelow_X2_countInside : GoodIn wsX2_countBelow wsX2_countInside := goodIn_r _ [9, 10, 11, 12, 13, 14, 15] (by decide +kernel) (by decide +kernel)
set_option maxRecDepth 20000 in
theorem gX2_countBelow_X2_countInside : GoodIn wsX2_countBelow (wsV RX2 15 RX2 yX2_countInside wsX2_countInside) := goodIn_app (goodIn_of _ (by decide +kernel)) ggX2_countBelow_X2_countInside
theorem dX2_countBelow_0 : decode cX2_countBelow 0 = .ok (.iload_n 2, 1) := by decide +kernel
theorem dX2_countBelow_1 : decode cX2_countBelow 1 = .ok (.ifCond .ne 5, 3) := by decide +kernel
theorem dX2_countBelow_4 : decode cX2_countBelow 4 = .ok (.iconst 0, 1) := by decide +kernel
theorem dX2_countBelow_5 : decode cX2_countBelow 5 = .ok (.ireturn, 1) := by decide +kernel
theorem dX2_countBelow_6 : decode cX2_countBelow 6 = .ok (.iload_n 2, 1) := by decide +kernel
theorem dX2_countBelow_7 : decode cX2_countBelow 7 = .ok (.iload_n 3, 1) := by decide +kernel
theorem dX2_countBelow_8 : decode cX2_countBelow 8 = .ok (.if_icmp .le 11, 3) := by decide +kernel
theorem dX2_countBelow_11 : decode cX2_countBelow 11 = .ok (.aload_n 0, 1) := by decide +kernel
theorem dX2_countBelow_12 : decode cX2_countBelow 12 = .ok (.iload_n 1, 1) := by decide +kernel
theorem dX2_countBelow_13 : decode cX2_countBelow 13 = .ok (.invokevirtual 19, 3) := by decide +kernel
theorem dX2_countBelow_16 : decode cX2_countBelow 16 = .ok (.goto 12, 3) := by decide +kernel
theorem dX2_countBelow_19 : decode cX2_countBelow 19 = .ok (.aload_n 0, 1) := by decide +kernel
theorem dX2_countBelow_20 : decode cX2_countBelow 20 = .ok (.iload_n 1, 1) := by decide +kernel
theorem dX2_countBelow_21 : decode cX2_countBelow 21 = .ok (.iload_n 2, 1) := by decide +kernel
theorem dX2_countBelow_22 : decode cX2_countBelow 22 = .ok (.iload_n 3, 1) := by decide +kernel
theorem dX2_countBelow_23 : decode cX2_countBelow 23 = .ok (.invokevirtual 15, 3) := by decide +kernel
theorem dX2_countBelow_26 : decode cX2_countBelow 26 = .ok (.iconst 1, 1) := by decide +kernel
theorem dX2_countBelow_27 : decode cX2_countBelow 27 = .ok (.iadd, 1) := by decide +kernel
theorem dX2_countBelow_28 : decode cX2_countBelow 28 = .ok (.ireturn, 1) := by decide +kernel
theorem dX2_countInside_0 : decode cX2_countInside 0 = .ok (.lconst 0, 1) := by decide +kernel
theorem dX2_countInside_1 : decode cX2_countInside 1 = .ok (.lstore 4, 2) := by decide +kernel
theorem dX2_countInside_3 : decode cX2_countInside 3 = .ok (.iconst 1, 1) := by decide +kernel
theorem dX2_countInside_4 : decode cX2_countInside 4 = .ok (.istore 6, 2) := by decide +kernel
theorem dX2_countInside_6 : decode cX2_countInside 6 = .ok (.iconst 0, 1) := by decide +kernel
theorem dX2_countInside_7 : decode cX2_countInside 7 = .ok (.istore 7, 2) := by decide +kernel
theorem dX2_countInside_9 : decode cX2_countInside 9 = .ok (.iload 7, 2) := by decide +kernel
theorem dX2_countInside_11 : decode cX2_countInside 11 = .ok (.sipush 200, 3) := by decide +kernel
theorem dX2_countInside_14 : decode cX2_countInside 14 = .ok (.if_icmp .ge 71, 3) := by decide +kernel
theorem dX2_countInside_17 : decode cX2_countInside 17 = .ok (.iload 6, 2) := by decide +kernel
theorem dX2_countInside_19 : decode cX2_countInside 19 = .ok (.iload_n 1, 1) := by decide +kernel
theorem dX2_countInside_20 : decode cX2_countInside 20 = .ok (.if_icmp .gt 65, 3) := by decide +kernel
theorem dX2_countInside_23 : decode cX2_countInside 23 = .ok (.iload_n 1, 1) := by decide +kernel
theorem dX2_countInside_24 : decode cX2_countInside 24 = .ok (.iload 6, 2) := by decide +kernel
theorem dX2_countInside_26 : decode cX2_countInside 26 = .ok (.idiv, 1) := by decide +kernel
theorem dX2_countInside_27 : decode cX2_countInside 27 = .ok (.istore 8, 2) := by decide +kernel
theorem dX2_countInside_29 : decode cX2_countInside 29 = .ok (.iload_n 1, 1) := by decide +kernel
theorem dX2_countInside_30 : decode cX2_countInside 30 = .ok (.iload 8, 2) := by decide +kernel
theorem dX2_countInside_32 : decode cX2_countInside 32 = .ok (.idiv, 1) := by decide +kernel
theorem dX2_countInside_33 : decode cX2_countInside 33 = .ok (.istore 9, 2) := by decide +kernel
theorem dX2_countInside_35 : decode cX2_countInside 35 = .ok (.lload 4, 2) := by decide +kernel
theorem dX2_countInside_37 : decode cX2_countInside 37 = .ok (.aload_n 0, 1) := by decide +kernel
theorem dX2_countInside_38 : decode cX2_countInside 38 = .ok (.getfield 9, 3) := by decide +kernel
theorem dX2_countInside_41 : decode cX2_countInside 41 = .ok (.iload 9, 2) := by decide +kernel
theorem dX2_countInside_43 : decode cX2_countInside 43 = .ok (.iaload, 1) := by decide +kernel
theorem dX2_countInside_44 : decode cX2_countInside 44 = .ok (.aload_n 0, 1) := by decide +kernel
theorem dX2_countInside_45 : decode cX2_countInside 45 = .ok (.getfield 9, 3) := by decide +kernel
theorem dX2_countInside_48 : decode cX2_countInside 48 = .ok (.iload 6, 2) := by decide +kernel
theorem dX2_countInside_50 : decode cX2_countInside 50 = .ok (.iconst 1, 1) := by decide +kernel
theorem dX2_countInside_51 : decode cX2_countInside 51 = .ok (.isub, 1) := by decide +kernel
theorem dX2_countInside_52 : decode cX2_countInside 52 = .ok (.iaload, 1) := by decide +kernel
theorem dX2_countInside_53 : decode cX2_countInside 53 = .ok (.isub, 1) := by decide +kernel
theorem dX2_countInside_54 : decode cX2_countInside 54 = .ok (.i2l, 1) := by decide +kernel
theorem dX2_countInside_55 : decode cX2_countInside 55 = .ok (.iload 8, 2) := by decide +kernel
theorem dX2_countInside_57 : decode cX2_countInside 57 = .ok (.i2l, 1) := by decide +kernel
theorem dX2_countInside_58 : decode cX2_countInside 58 = .ok (.iload_n 2, 1) := by decide +kernel
theorem dX2_countInside_59 : decode cX2_countInside 59 = .ok (.i2l, 1) := by decide +kernel
theorem dX2_countInside_60 : decode cX2_countInside 60 = .ok (.iload_n 2, 1) := by decide +kernel
theorem dX2_countInside_61 : decode cX2_countInside 61 = .ok (.iconst 1, 1) := by decide +kernel
theorem dX2_countInside_62 : decode cX2_countInside 62 = .ok (.isub, 1) := by decide +kernel
theorem dX2_countInside_63 : decode cX2_countInside 63 = .ok (.i2l, 1) := by decide +kernel
theorem dX2_countInside_64 : decode cX2_countInside 64 = .ok (.iload_n 3, 1) := by decide +kernel
theorem dX2_countInside_65 : decode cX2_countInside 65 = .ok (.i2l, 1) := by decide +kernel
theorem dX2_countInside_66 : decode cX2_countInside 66 = .ok (.invokestatic 23, 3) := by decide +kernel
theorem dX2_countInside_69 : decode cX2_countInside 69 = .ok (.lmul, 1) := by decide +kernel
theorem dX2_countInside_70 : decode cX2_countInside 70 = .ok (.ladd, 1) := by decide +kernel
theorem dX2_countInside_71 : decode cX2_countInside 71 = .ok (.lstore 4, 2) := by decide +kernel
theorem dX2_countInside_73 : decode cX2_countInside 73 = .ok (.iload 9, 2) := by decide +kernel
theorem dX2_countInside_75 : decode cX2_countInside 75 = .ok (.iconst 1, 1) := by decide +kernel
theorem dX2_countInside_76 : decode cX2_countInside 76 = .ok (.iadd, 1) := by decide +kernel
theorem dX2_countInside_77 : decode cX2_countInside 77 = .ok (.istore 6, 2) := by decide +kernel
theorem dX2_countInside_79 : decode cX2_countInside 79 = .ok (.iinc 7 1, 3) := by decide +kernel
theorem dX2_countInside_82 : decode cX2_countInside 82 = .ok (.goto (-73), 3) := by decide +kernel
theorem dX2_countInside_85 : decode cX2_countInside 85 = .ok (.lload 4, 2) := by decide +kernel
theorem dX2_countInside_87 : decode cX2_countInside 87 = .ok (.l2i, 1) := by decide +kernel
theorem dX2_countInside_88 : decode cX2_countInside 88 = .ok (.ireturn, 1) := by decide +kernel
set_option maxRecDepth 20000 in
theorem ggX2_columnOf_X2_countBelow : GoodIn wsX2_columnOf wsX2_countBelow := goodIn_r _ [5, 6, 7, 8, 4, 9, 10, 11, 12, 13, 14, 15, 16, 17, 18, 19] (by decide +kernel) (by decide +kernel)
set_option maxRecDepth 20000 in
theorem gX2_columnOf_X2_countBelow : GoodIn wsX2_columnOf (wsV RX2 27 RX2 yX2_countBelow wsX2_countBelow) := goodIn_app (goodIn_of _ (by decide +kernel)) ggX2_columnOf_X2_countBelow
theorem dX2_columnOf_0 : decode cX2_columnOf 0 = .ok (.iconst 0, 1) := by decide +kernel
theorem dX2_columnOf_1 : decode cX2_columnOf 1 = .ok (.istore_n 3, 1) := by decide +kernel
theorem dX2_columnOf_2 : decode cX2_columnOf 2 = .ok (.iload_n 1, 1) := by decide +kernel
theorem dX2_columnOf_3 : decode cX2_columnOf 3 = .ok (.iconst 1, 1) := by decide +kernel
theorem dX2_columnOf_4 : decode cX2_columnOf 4 = .ok (.iadd, 1) := by decide +kernel
theorem dX2_columnOf_5 : decode cX2_columnOf 5 = .ok (.istore 4, 2) := by decide +kernel
theorem dX2_columnOf_7 : decode cX2_columnOf 7 = .ok (.iconst 0, 1) := by decide +kernel
theorem dX2_columnOf_8 : decode cX2_columnOf 8 = .ok (.istore 5, 2) := by decide +kernel
theorem dX2_columnOf_10 : decode cX2_columnOf 10 = .ok (.iload 5, 2) := by decide +kernel
theorem dX2_columnOf_12 : decode cX2_columnOf 12 = .ok (.bipush 64, 2) := by decide +kernel
theorem dX2_columnOf_14 : decode cX2_columnOf 14 = .ok (.if_icmp .ge 47, 3) := by decide +kernel
theorem dX2_columnOf_17 : decode cX2_columnOf 17 = .ok (.iload 4, 2) := by decide +kernel
theorem dX2_columnOf_19 : decode cX2_columnOf 19 = .ok (.iload_n 3, 1) := by decide +kernel
theorem dX2_columnOf_20 : decode cX2_columnOf 20 = .ok (.isub, 1) := by decide +kernel
theorem dX2_columnOf_21 : decode cX2_columnOf 21 = .ok (.iconst 1, 1) := by decide +kernel
theorem dX2_columnOf_22 : decode cX2_columnOf 22 = .ok (.if_icmp .le 39, 3) := by decide +kernel
theorem dX2_columnOf_25 : decode cX2_columnOf 25 = .ok (.iload_n 3, 1) := by decide +kernel
theorem dX2_columnOf_26 : decode cX2_columnOf 26 = .ok (.iload 4, 2) := by decide +kernel
theorem dX2_columnOf_28 : decode cX2_columnOf 28 = .ok (.iadd, 1) := by decide +kernel
theorem dX2_columnOf_29 : decode cX2_columnOf 29 = .ok (.iconst 2, 1) := by decide +kernel
theorem dX2_columnOf_30 : decode cX2_columnOf 30 = .ok (.idiv, 1) := by decide +kernel
theorem dX2_columnOf_31 : decode cX2_columnOf 31 = .ok (.istore 6, 2) := by decide +kernel
theorem dX2_columnOf_33 : decode cX2_columnOf 33 = .ok (.aload_n 0, 1) := by decide +kernel
theorem dX2_columnOf_34 : decode cX2_columnOf 34 = .ok (.iload_n 1, 1) := by decide +kernel
theorem dX2_columnOf_35 : decode cX2_columnOf 35 = .ok (.iload 6, 2) := by decide +kernel
theorem dX2_columnOf_37 : decode cX2_columnOf 37 = .ok (.iload_n 1, 1) := by decide +kernel
theorem dX2_columnOf_38 : decode cX2_columnOf 38 = .ok (.invokevirtual 27, 3) := by decide +kernel
theorem dX2_columnOf_41 : decode cX2_columnOf 41 = .ok (.iload_n 2, 1) := by decide +kernel
theorem dX2_columnOf_42 : decode cX2_columnOf 42 = .ok (.if_icmp .gt 9, 3) := by decide +kernel
theorem dX2_columnOf_45 : decode cX2_columnOf 45 = .ok (.iload 6, 2) := by decide +kernel
theorem dX2_columnOf_47 : decode cX2_columnOf 47 = .ok (.istore_n 3, 1) := by decide +kernel
theorem dX2_columnOf_48 : decode cX2_columnOf 48 = .ok (.goto 7, 3) := by decide +kernel
theorem dX2_columnOf_51 : decode cX2_columnOf 51 = .ok (.iload 6, 2) := by decide +kernel
theorem dX2_columnOf_53 : decode cX2_columnOf 53 = .ok (.istore 4, 2) := by decide +kernel
theorem dX2_columnOf_55 : decode cX2_columnOf 55 = .ok (.iinc 5 1, 3) := by decide +kernel
theorem dX2_columnOf_58 : decode cX2_columnOf 58 = .ok (.goto (-48), 3) := by decide +kernel
theorem dX2_columnOf_61 : decode cX2_columnOf 61 = .ok (.iload_n 3, 1) := by decide +kernel
theorem dX2_columnOf_62 : decode cX2_columnOf 62 = .ok (.ireturn, 1) := by decide +kernel
theorem dX2_bottomBehind_0 : decode cX2_bottomBehind 0 = .ok (.iload_n 0, 1) := by decide +kernel
theorem dX2_bottomBehind_1 : decode cX2_bottomBehind 1 = .ok (.istore_n 3, 1) := by decide +kernel
theorem dX2_bottomBehind_2 : decode cX2_bottomBehind 2 = .ok (.iload_n 3, 1) := by decide +kernel
theorem dX2_bottomBehind_3 : decode cX2_bottomBehind 3 = .ok (.iload_n 0, 1) := by decide +kernel
theorem dX2_bottomBehind_4 : decode cX2_bottomBehind 4 = .ok (.iload_n 2, 1) := by decide +kernel
theorem dX2_bottomBehind_5 : decode cX2_bottomBehind 5 = .ok (.isub, 1) := by decide +kernel
theorem dX2_bottomBehind_6 : decode cX2_bottomBehind 6 = .ok (.if_icmp .le 25, 3) := by decide +kernel
theorem dX2_bottomBehind_9 : decode cX2_bottomBehind 9 = .ok (.iload_n 2, 1) := by decide +kernel
theorem dX2_bottomBehind_10 : decode cX2_bottomBehind 10 = .ok (.ifCond .le 21, 3) := by decide +kernel
theorem dX2_bottomBehind_13 : decode cX2_bottomBehind 13 = .ok (.iload_n 1, 1) := by decide +kernel
theorem dX2_bottomBehind_14 : decode cX2_bottomBehind 14 = .ok (.iload_n 3, 1) := by decide +kernel
theorem dX2_bottomBehind_15 : decode cX2_bottomBehind 15 = .ok (.imul, 1) := by decide +kernel
theorem dX2_bottomBehind_16 : decode cX2_bottomBehind 16 = .ok (.iconst 1, 1) := by decide +kernel
theorem dX2_bottomBehind_17 : decode cX2_bottomBehind 17 = .ok (.iadd, 1) := by decide +kernel
theorem dX2_bottomBehind_18 : decode cX2_bottomBehind 18 = .ok (.iload_n 2, 1) := by decide +kernel
theorem dX2_bottomBehind_19 : decode cX2_bottomBehind 19 = .ok (.irem, 1) := by decide +kernel
theorem dX2_bottomBehind_20 : decode cX2_bottomBehind 20 = .ok (.ifCond .ne 5, 3) := by decide +kernel
theorem dX2_bottomBehind_23 : decode cX2_bottomBehind 23 = .ok (.iload_n 3, 1) := by decide +kernel
theorem dX2_bottomBehind_24 : decode cX2_bottomBehind 24 = .ok (.ireturn, 1) := by decide +kernel
theorem dX2_bottomBehind_25 : decode cX2_bottomBehind 25 = .ok (.iinc 3 (-1), 3) := by decide +kernel
theorem dX2_bottomBehind_28 : decode cX2_bottomBehind 28 = .ok (.goto (-26), 3) := by decide +kernel
theorem dX2_bottomBehind_31 : decode cX2_bottomBehind 31 = .ok (.iload_n 0, 1) := by decide +kernel
theorem dX2_bottomBehind_32 : decode cX2_bottomBehind 32 = .ok (.ireturn, 1) := by decide +kernel
end
section
abbrev cX3_init : ByteArray := prog_1_method_1_code
def yX3_init : MethodName := ⟨RX3, "<init>", "()V"⟩
abbrev cX3_take : ByteArray := prog_1_method_2_code
def yX3_take : MethodName := ⟨RX3, "take", "(II)V"⟩
abbrev cX3_part : ByteArray := prog_1_method_3_code
def yX3_part : MethodName := ⟨RX3, "part", "(I)I"⟩
abbrev cX3_terms : ByteArray := prog_1_method_4_code
def yX3_terms : MethodName := ⟨RX3, "terms", "()I"⟩
abbrev cX3_term : ByteArray := prog_1_method_5_code
def yX3_term : MethodName := ⟨RX3, "term", "(I)I"⟩
abbrev cX3_convergent : ByteArray := prog_1_method_6_code
def yX3_convergent : MethodName := ⟨RX3, "convergent", "(II)I"⟩
abbrev cX3_way : ByteArray := prog_1_method_7_code
def yX3_way : MethodName := ⟨RX3, "way", "(I)I"⟩
abbrev cX3_run : ByteArray := prog_1_method_8_code
def yX3_run : MethodName := ⟨RX3, "run", "(I)I"⟩
abbrev cX3_go : ByteArray := prog_1_method_9_code
def yX3_go : MethodName := ⟨RX3, "go", "(II)I"⟩
abbrev cX3_up : ByteArray := prog_1_method_10_code
def yX3_up : MethodName := ⟨RX3, "up", "()I"⟩
abbrev cX3_near : ByteArray := prog_1_method_11_code
def yX3_near : MethodName := ⟨RX3, "near", "(III)I"⟩
abbrev cX3_between : ByteArray := prog_1_method_12_code
def yX3_between : MethodName := ⟨RX3, "between", "(IIII)I"⟩
abbrev cX3_row : ByteArray := prog_1_method_13_code
def yX3_row : MethodName := ⟨RX3, "row", "(I)I"⟩
abbrev cX3_pick : ByteArray := prog_1_method_14_code
def yX3_pick : MethodName := ⟨RX3, "pick", "(II)I"⟩
abbrev cX3_place : ByteArray := prog_1_method_15_code
def yX3_place : MethodName := ⟨RX3, "place", "(I)I"⟩
abbrev cX3_floors : ByteArray := prog_1_method_16_code
def yX3_floors : MethodName := ⟨RX3, "floors", "(I)J"⟩
abbrev cX3_sawteeth : ByteArray := prog_1_method_17_code
def yX3_sawteeth : MethodName := ⟨RX3, "sawteeth", "()J"⟩
abbrev cX3_check : ByteArray := prog_1_method_18_code
def yX3_check : MethodName := ⟨RX3, "check", "()I"⟩
abbrev cX3_isWithin : ByteArray := prog_1_method_19_code
def yX3_isWithin : MethodName := ⟨RX3, "isWithin", "(III)Z"⟩
abbrev cX3_topOrBottom : ByteArray := prog_1_method_20_code
def yX3_topOrBottom : MethodName := ⟨RX3, "topOrBottom", "(III)I"⟩
abbrev cX3_isTerm : ByteArray := prog_1_method_21_code
def yX3_isTerm : MethodName := ⟨RX3, "isTerm", "(I)Z"⟩
abbrev cX3_stepOn : ByteArray := prog_1_method_22_code
def yX3_stepOn : MethodName := ⟨RX3, "stepOn", "(II)V"⟩
def wsX3_init_r1 : List Cond := [Cond.methodLink RX3 1 objectInit, Cond.instanceMethod objectInit, Cond.code objectInit ⟨#[0xb1]⟩ 1 none, Cond.classLink RX3 7 RX0, Cond.instantiable RX0 4, Cond.initialized RX0, Cond.fieldLink RX3 10 "SternDesk" "hand" "LSternDesk$Expansion;", Cond.classLink RX3 16 RX2, Cond.instantiable RX2 1, Cond.initialized RX2, Cond.fieldLink RX3 19 "SternDesk" "rows" "LSternDesk$Rows;", Cond.instanceMethod yX0_init, Cond.code yX0_init cX0_init 1 none, Cond.methodLink RX0 3 objectInit, Cond.arrayClass .int, Cond.fieldLink RX0 9 "SternDesk$Expansion" "quotients" "[I", Cond.fieldLink RX0 15 "SternDesk$Expansion" "tops" "[I", Cond.fieldLink RX0 18 "SternDesk$Expansion" "bottoms" "[I", Cond.methodLink RX3 18 yX2_init, Cond.instanceMethod yX2_init, Cond.code yX2_init cX2_init 3 none, Cond.methodLink RX2 3 objectInit, Cond.fieldLink RX2 9 "SternDesk$Rows" "moebiusSums" "[I", Cond.methodLink RX3 23 yX0_expand]
def wsX3_init_r2 : List Cond := [Cond.instanceMethod yX0_expand, Cond.selects RX0 yX0_expand yX0_expand, Cond.code yX0_expand cX0_expand 8 none, Cond.methodLink RX0 38 yX0_startAnew, Cond.instanceMethod yX0_startAnew, Cond.selects RX0 yX0_startAnew yX0_startAnew, Cond.code yX0_startAnew cX0_startAnew 1 none, Cond.fieldLink RX0 21 "SternDesk$Expansion" "count" "I", Cond.methodLink RX0 41 yX0_addTerm, Cond.instanceMethod yX0_addTerm, Cond.selects RX0 yX0_addTerm yX0_addTerm, Cond.code yX0_addTerm cX0_addTerm 4 none, Cond.methodLink RX0 25 yX0_top, Cond.instanceMethod yX0_top, Cond.selects RX0 yX0_top yX0_top, Cond.code yX0_top cX0_top 1 (some .int), Cond.methodLink RX0 29 yX0_topBefore, Cond.instanceMethod yX0_topBefore, Cond.selects RX0 yX0_topBefore yX0_topBefore, Cond.code yX0_topBefore cX0_topBefore 1 (some .int), Cond.methodLink RX0 32 yX0_bottom, Cond.instanceMethod yX0_bottom, Cond.selects RX0 yX0_bottom yX0_bottom, Cond.code yX0_bottom cX0_bottom 1 (some .int)]
def wsX3_init_r3 : List Cond := [Cond.methodLink RX0 35 yX0_bottomBefore, Cond.instanceMethod yX0_bottomBefore, Cond.selects RX0 yX0_bottomBefore yX0_bottomBefore, Cond.code yX0_bottomBefore cX0_bottomBefore 1 (some .int)]
def wsX3_init : List Cond := .code yX3_init cX3_init 1 none :: ((wsX3_init_r1 ++ (wsX3_init_r2 ++ wsX3_init_r3)) ++ wsX00 ++ wsX30 ++ wsX20)
def wsX3_isWithin : List Cond := .code yX3_isWithin cX3_isWithin 3 (some .boolean) :: ([])
def wsX3_topOrBottom : List Cond := .code yX3_topOrBottom cX3_topOrBottom 3 (some .int) :: ([])
def wsX3_part : List Cond := .code yX3_part cX3_part 2 (some .int) :: ([.fieldLink RX3 10 "SternDesk" "hand" "LSternDesk$Expansion;", .methodLink RX3 39 yX0_top, .instanceMethod yX0_top, .selects RX0 yX0_top yX0_top, .initialized RX0, .code yX0_top cX0_top 1 (some .int), .fieldLink RX0 15 "SternDesk$Expansion" "tops" "[I", .fieldLink RX0 21 "SternDesk$Expansion" "count" "I", .methodLink RX3 43 yX0_bottom, .instanceMethod yX0_bottom, .selects RX0 yX0_bottom yX0_bottom, .code yX0_bottom cX0_bottom 1 (some .int), .fieldLink RX0 18 "SternDesk$Expansion" "bottoms" "[I", .methodLink RX3 46 yX3_topOrBottom, .static yX3_topOrBottom, .initialized RX3, .code yX3_topOrBottom cX3_topOrBottom 3 (some .int)] ++ wsX30 ++ wsX00)
def wsX3_terms : List Cond := .code yX3_terms cX3_terms 1 (some .int) :: ([.fieldLink RX3 10 "SternDesk" "hand" "LSternDesk$Expansion;", .fieldLink RX3 50 "SternDesk$Expansion" "count" "I"] ++ wsX30 ++ wsX00)
def wsX3_isTerm : List Cond := .code yX3_isTerm cX3_isTerm 2 (some .boolean) :: ([.fieldLink RX3 10 "SternDesk" "hand" "LSternDesk$Expansion;", .fieldLink RX3 50 "SternDesk$Expansion" "count" "I"] ++ wsX30 ++ wsX00)
def wsX3_term : List Cond := .code yX3_term cX3_term 2 (some .int) :: ([.fieldLink RX3 10 "SternDesk" "hand" "LSternDesk$Expansion;", .fieldLink RX3 58 "SternDesk$Expansion" "quotients" "[I", .methodLink RX3 54 yX3_isTerm, .instanceMethod yX3_isTerm, .selects RX3 yX3_isTerm yX3_isTerm, .initialized RX3, .code yX3_isTerm cX3_isTerm 2 (some .boolean), .fieldLink RX3 50 "SternDesk$Expansion" "count" "I"] ++ wsX30 ++ wsX00)
def wsX3_convergent : List Cond := .code yX3_convergent cX3_convergent 3 (some .int) :: ([.fieldLink RX3 10 "SternDesk" "hand" "LSternDesk$Expansion;", .fieldLink RX3 62 "SternDesk$Expansion" "tops" "[I", .fieldLink RX3 65 "SternDesk$Expansion" "bottoms" "[I", .methodLink RX3 54 yX3_isTerm, .instanceMethod yX3_isTerm, .selects RX3 yX3_isTerm yX3_isTerm, .initialized RX3, .code yX3_isTerm cX3_isTerm 2 (some .boolean), .fieldLink RX3 50 "SternDesk$Expansion" "count" "I", .methodLink RX3 46 yX3_topOrBottom, .static yX3_topOrBottom, .code yX3_topOrBottom cX3_topOrBottom 3 (some .int)] ++ wsX30 ++ wsX00)
def wsX3_way_r1 : List Cond := [Cond.fieldLink RX3 10 "SternDesk" "hand" "LSternDesk$Expansion;", Cond.methodLink RX3 39 yX0_top, Cond.instanceMethod yX0_top, Cond.selects RX0 yX0_top yX0_top, Cond.initialized RX0, Cond.code yX0_top cX0_top 1 (some .int), Cond.fieldLink RX0 15 "SternDesk$Expansion" "tops" "[I", Cond.fieldLink RX0 21 "SternDesk$Expansion" "count" "I", Cond.methodLink RX3 68 yX0_countSteps, Cond.instanceMethod yX0_countSteps, Cond.selects RX0 yX0_countSteps yX0_countSteps, Cond.code yX0_countSteps cX0_countSteps 3 (some .int), Cond.fieldLink RX0 9 "SternDesk$Expansion" "quotients" "[I", Cond.methodLink RX3 71 yX0_countRuns, Cond.instanceMethod yX0_countRuns, Cond.selects RX0 yX0_countRuns yX0_countRuns, Cond.code yX0_countRuns cX0_countRuns 1 (some .int), Cond.methodLink RX0 25 yX0_top, Cond.methodLink RX0 32 yX0_bottom, Cond.instanceMethod yX0_bottom, Cond.selects RX0 yX0_bottom yX0_bottom, Cond.code yX0_bottom cX0_bottom 1 (some .int), Cond.fieldLink RX0 18 "SternDesk$Expansion" "bottoms" "[I", Cond.methodLink RX0 45 yX0_firstTermWithSteps]
def wsX3_way_r2 : List Cond := [Cond.instanceMethod yX0_firstTermWithSteps, Cond.selects RX0 yX0_firstTermWithSteps yX0_firstTermWithSteps, Cond.code yX0_firstTermWithSteps cX0_firstTermWithSteps 1 (some .int), Cond.methodLink RX3 46 yX3_topOrBottom, Cond.static yX3_topOrBottom, Cond.initialized RX3, Cond.code yX3_topOrBottom cX3_topOrBottom 3 (some .int)]
def wsX3_way : List Cond := .code yX3_way cX3_way 2 (some .int) :: ((wsX3_way_r1 ++ wsX3_way_r2) ++ wsX30 ++ wsX00)
def wsX3_run_r1 : List Cond := [Cond.fieldLink RX3 10 "SternDesk" "hand" "LSternDesk$Expansion;", Cond.methodLink RX3 71 yX0_countRuns, Cond.instanceMethod yX0_countRuns, Cond.selects RX0 yX0_countRuns yX0_countRuns, Cond.initialized RX0, Cond.code yX0_countRuns cX0_countRuns 1 (some .int), Cond.fieldLink RX0 21 "SternDesk$Expansion" "count" "I", Cond.methodLink RX0 25 yX0_top, Cond.instanceMethod yX0_top, Cond.selects RX0 yX0_top yX0_top, Cond.code yX0_top cX0_top 1 (some .int), Cond.fieldLink RX0 15 "SternDesk$Expansion" "tops" "[I", Cond.methodLink RX0 32 yX0_bottom, Cond.instanceMethod yX0_bottom, Cond.selects RX0 yX0_bottom yX0_bottom, Cond.code yX0_bottom cX0_bottom 1 (some .int), Cond.fieldLink RX0 18 "SternDesk$Expansion" "bottoms" "[I", Cond.methodLink RX0 45 yX0_firstTermWithSteps, Cond.instanceMethod yX0_firstTermWithSteps, Cond.selects RX0 yX0_firstTermWithSteps yX0_firstTermWithSteps, Cond.code yX0_firstTermWithSteps cX0_firstTermWithSteps 1 (some .int), Cond.fieldLink RX0 9 "SternDesk$Expansion" "quotients" "[I", Cond.methodLink RX3 74 yX0_stepsOfRun, Cond.instanceMethod yX0_stepsOfRun]
def wsX3_run_r2 : List Cond := [Cond.selects RX0 yX0_stepsOfRun yX0_stepsOfRun, Cond.code yX0_stepsOfRun cX0_stepsOfRun 4 (some .int)]
def wsX3_run : List Cond := .code yX3_run cX3_run 2 (some .int) :: ((wsX3_run_r1 ++ wsX3_run_r2) ++ wsX30 ++ wsX00)
def wsX3_go_r1 : List Cond := [Cond.constant RX3 27 (100000), Cond.fieldLink RX3 10 "SternDesk" "hand" "LSternDesk$Expansion;", Cond.fieldLink RX3 82 "SternDesk$Fraction" "top" "I", Cond.fieldLink RX3 86 "SternDesk$Fraction" "bottom" "I", Cond.constantLong RX3 88 (100000), Cond.methodLink RX3 28 yX3_isWithin, Cond.static yX3_isWithin, Cond.initialized RX3, Cond.code yX3_isWithin cX3_isWithin 3 (some .boolean), Cond.methodLink RX3 39 yX0_top, Cond.instanceMethod yX0_top, Cond.selects RX0 yX0_top yX0_top, Cond.initialized RX0, Cond.code yX0_top cX0_top 1 (some .int), Cond.fieldLink RX0 15 "SternDesk$Expansion" "tops" "[I", Cond.fieldLink RX0 21 "SternDesk$Expansion" "count" "I", Cond.methodLink RX3 78 yX0_neighbourAt, Cond.instanceMethod yX0_neighbourAt, Cond.selects RX0 yX0_neighbourAt yX0_neighbourAt, Cond.code yX0_neighbourAt cX0_neighbourAt 2 (some (.object "SternDesk$Fraction")), Cond.classLink RX0 48 RX1, Cond.instantiable RX1 2, Cond.initialized RX1, Cond.methodLink RX0 29 yX0_topBefore]
def wsX3_go_r2 : List Cond := [Cond.instanceMethod yX0_topBefore, Cond.selects RX0 yX0_topBefore yX0_topBefore, Cond.code yX0_topBefore cX0_topBefore 1 (some .int), Cond.methodLink RX0 35 yX0_bottomBefore, Cond.instanceMethod yX0_bottomBefore, Cond.selects RX0 yX0_bottomBefore yX0_bottomBefore, Cond.code yX0_bottomBefore cX0_bottomBefore 1 (some .int), Cond.fieldLink RX0 18 "SternDesk$Expansion" "bottoms" "[I", Cond.methodLink RX0 50 yX1_init, Cond.instanceMethod yX1_init, Cond.code yX1_init cX1_init 3 none, Cond.methodLink RX1 1 objectInit, Cond.instanceMethod objectInit, Cond.code objectInit ⟨#[0xb1]⟩ 1 none, Cond.fieldLink RX1 7 "SternDesk$Fraction" "top" "I", Cond.fieldLink RX1 13 "SternDesk$Fraction" "bottom" "I", Cond.methodLink RX0 25 yX0_top, Cond.methodLink RX0 32 yX0_bottom, Cond.instanceMethod yX0_bottom, Cond.selects RX0 yX0_bottom yX0_bottom, Cond.code yX0_bottom cX0_bottom 1 (some .int), Cond.methodLink RX3 43 yX0_bottom, Cond.methodLink RX3 23 yX0_expand, Cond.instanceMethod yX0_expand]
def wsX3_go_r3 : List Cond := [Cond.selects RX0 yX0_expand yX0_expand, Cond.code yX0_expand cX0_expand 8 none, Cond.methodLink RX0 38 yX0_startAnew, Cond.instanceMethod yX0_startAnew, Cond.selects RX0 yX0_startAnew yX0_startAnew, Cond.code yX0_startAnew cX0_startAnew 1 none, Cond.methodLink RX0 41 yX0_addTerm, Cond.instanceMethod yX0_addTerm, Cond.selects RX0 yX0_addTerm yX0_addTerm, Cond.code yX0_addTerm cX0_addTerm 4 none, Cond.fieldLink RX0 9 "SternDesk$Expansion" "quotients" "[I"]
def wsX3_go : List Cond := .code yX3_go cX3_go 8 (some .int) :: ((wsX3_go_r1 ++ (wsX3_go_r2 ++ wsX3_go_r3)) ++ wsX30 ++ wsX10 ++ wsX00)
def wsX3_up_r1 : List Cond := [Cond.fieldLink RX3 10 "SternDesk" "hand" "LSternDesk$Expansion;", Cond.methodLink RX3 71 yX0_countRuns, Cond.instanceMethod yX0_countRuns, Cond.selects RX0 yX0_countRuns yX0_countRuns, Cond.initialized RX0, Cond.code yX0_countRuns cX0_countRuns 1 (some .int), Cond.fieldLink RX0 21 "SternDesk$Expansion" "count" "I", Cond.methodLink RX0 25 yX0_top, Cond.instanceMethod yX0_top, Cond.selects RX0 yX0_top yX0_top, Cond.code yX0_top cX0_top 1 (some .int), Cond.fieldLink RX0 15 "SternDesk$Expansion" "tops" "[I", Cond.methodLink RX0 32 yX0_bottom, Cond.instanceMethod yX0_bottom, Cond.selects RX0 yX0_bottom yX0_bottom, Cond.code yX0_bottom cX0_bottom 1 (some .int), Cond.fieldLink RX0 18 "SternDesk$Expansion" "bottoms" "[I", Cond.methodLink RX0 45 yX0_firstTermWithSteps, Cond.instanceMethod yX0_firstTermWithSteps, Cond.selects RX0 yX0_firstTermWithSteps yX0_firstTermWithSteps, Cond.code yX0_firstTermWithSteps cX0_firstTermWithSteps 1 (some .int), Cond.fieldLink RX0 9 "SternDesk$Expansion" "quotients" "[I", Cond.methodLink RX3 39 yX0_top, Cond.methodLink RX3 90 yX0_topBefore]
def wsX3_up_r2 : List Cond := [Cond.instanceMethod yX0_topBefore, Cond.selects RX0 yX0_topBefore yX0_topBefore, Cond.code yX0_topBefore cX0_topBefore 1 (some .int), Cond.methodLink RX3 43 yX0_bottom, Cond.methodLink RX3 93 yX0_bottomBefore, Cond.instanceMethod yX0_bottomBefore, Cond.selects RX0 yX0_bottomBefore yX0_bottomBefore, Cond.code yX0_bottomBefore cX0_bottomBefore 1 (some .int), Cond.methodLink RX3 23 yX0_expand, Cond.instanceMethod yX0_expand, Cond.selects RX0 yX0_expand yX0_expand, Cond.code yX0_expand cX0_expand 8 none, Cond.methodLink RX0 38 yX0_startAnew, Cond.instanceMethod yX0_startAnew, Cond.selects RX0 yX0_startAnew yX0_startAnew, Cond.code yX0_startAnew cX0_startAnew 1 none, Cond.methodLink RX0 41 yX0_addTerm, Cond.instanceMethod yX0_addTerm, Cond.selects RX0 yX0_addTerm yX0_addTerm, Cond.code yX0_addTerm cX0_addTerm 4 none, Cond.methodLink RX0 29 yX0_topBefore, Cond.methodLink RX0 35 yX0_bottomBefore]
def wsX3_up : List Cond := .code yX3_up cX3_up 1 (some .int) :: ((wsX3_up_r1 ++ wsX3_up_r2) ++ wsX30 ++ wsX00)
def wsX3_row : List Cond := .code yX3_row cX3_row 2 (some .int) :: ([.fieldLink RX3 19 "SternDesk" "rows" "LSternDesk$Rows;", .methodLink RX3 28 yX3_isWithin, .static yX3_isWithin, .initialized RX3, .code yX3_isWithin cX3_isWithin 3 (some .boolean), .methodLink RX3 111 yX2_countAll, .instanceMethod yX2_countAll, .selects RX2 yX2_countAll yX2_countAll, .initialized RX2, .code yX2_countAll cX2_countAll 2 (some .int), .methodLink RX2 15 yX2_countInside, .instanceMethod yX2_countInside, .selects RX2 yX2_countInside yX2_countInside, .code yX2_countInside cX2_countInside 10 (some .int), .fieldLink RX2 9 "SternDesk$Rows" "moebiusSums" "[I", .static yX3_sumOfFloors, .code yX3_sumOfFloors cX3_sumOfFloors 15 (some .long), .constantLong RX3 132 (2)] ++ wsX30 ++ wsX20)
def wsX3_stepOn_r1 : List Cond := [Cond.fieldLink RX3 10 "SternDesk" "hand" "LSternDesk$Expansion;", Cond.methodLink RX3 39 yX0_top, Cond.instanceMethod yX0_top, Cond.selects RX0 yX0_top yX0_top, Cond.initialized RX0, Cond.code yX0_top cX0_top 1 (some .int), Cond.fieldLink RX0 15 "SternDesk$Expansion" "tops" "[I", Cond.fieldLink RX0 21 "SternDesk$Expansion" "count" "I", Cond.methodLink RX3 43 yX0_bottom, Cond.instanceMethod yX0_bottom, Cond.selects RX0 yX0_bottom yX0_bottom, Cond.code yX0_bottom cX0_bottom 1 (some .int), Cond.fieldLink RX0 18 "SternDesk$Expansion" "bottoms" "[I", Cond.methodLink RX3 144 yX2_bottomBehind, Cond.static yX2_bottomBehind, Cond.initialized RX2, Cond.code yX2_bottomBehind cX2_bottomBehind 4 (some .int), Cond.methodLink RX3 23 yX0_expand, Cond.instanceMethod yX0_expand, Cond.selects RX0 yX0_expand yX0_expand, Cond.code yX0_expand cX0_expand 8 none, Cond.methodLink RX0 38 yX0_startAnew, Cond.instanceMethod yX0_startAnew, Cond.selects RX0 yX0_startAnew yX0_startAnew]
def wsX3_stepOn_r2 : List Cond := [Cond.code yX0_startAnew cX0_startAnew 1 none, Cond.methodLink RX0 41 yX0_addTerm, Cond.instanceMethod yX0_addTerm, Cond.selects RX0 yX0_addTerm yX0_addTerm, Cond.code yX0_addTerm cX0_addTerm 4 none, Cond.fieldLink RX0 9 "SternDesk$Expansion" "quotients" "[I", Cond.methodLink RX0 25 yX0_top, Cond.methodLink RX0 29 yX0_topBefore, Cond.instanceMethod yX0_topBefore, Cond.selects RX0 yX0_topBefore yX0_topBefore, Cond.code yX0_topBefore cX0_topBefore 1 (some .int), Cond.methodLink RX0 32 yX0_bottom, Cond.methodLink RX0 35 yX0_bottomBefore, Cond.instanceMethod yX0_bottomBefore, Cond.selects RX0 yX0_bottomBefore yX0_bottomBefore, Cond.code yX0_bottomBefore cX0_bottomBefore 1 (some .int)]
def wsX3_stepOn : List Cond := .code yX3_stepOn cX3_stepOn 11 none :: ((wsX3_stepOn_r1 ++ wsX3_stepOn_r2) ++ wsX30 ++ wsX00)
def wsX3_pick_r1 : List Cond := [Cond.fieldLink RX3 19 "SternDesk" "rows" "LSternDesk$Rows;", Cond.fieldLink RX3 10 "SternDesk" "hand" "LSternDesk$Expansion;", Cond.methodLink RX3 28 yX3_isWithin, Cond.static yX3_isWithin, Cond.initialized RX3, Cond.code yX3_isWithin cX3_isWithin 3 (some .boolean), Cond.methodLink RX3 111 yX2_countAll, Cond.instanceMethod yX2_countAll, Cond.selects RX2 yX2_countAll yX2_countAll, Cond.initialized RX2, Cond.code yX2_countAll cX2_countAll 2 (some .int), Cond.methodLink RX2 15 yX2_countInside, Cond.instanceMethod yX2_countInside, Cond.selects RX2 yX2_countInside yX2_countInside, Cond.code yX2_countInside cX2_countInside 10 (some .int), Cond.fieldLink RX2 9 "SternDesk$Rows" "moebiusSums" "[I", Cond.static yX3_sumOfFloors, Cond.code yX3_sumOfFloors cX3_sumOfFloors 15 (some .long), Cond.constantLong RX3 132 (2), Cond.methodLink RX3 114 yX2_columnOf, Cond.instanceMethod yX2_columnOf, Cond.selects RX2 yX2_columnOf yX2_columnOf, Cond.code yX2_columnOf cX2_columnOf 7 (some .int), Cond.methodLink RX2 27 yX2_countBelow]
def wsX3_pick_r2 : List Cond := [Cond.instanceMethod yX2_countBelow, Cond.selects RX2 yX2_countBelow yX2_countBelow, Cond.code yX2_countBelow cX2_countBelow 4 (some .int), Cond.methodLink RX2 19 yX2_countAll, Cond.methodLink RX3 23 yX0_expand, Cond.instanceMethod yX0_expand, Cond.selects RX0 yX0_expand yX0_expand, Cond.initialized RX0, Cond.code yX0_expand cX0_expand 8 none, Cond.methodLink RX0 38 yX0_startAnew, Cond.instanceMethod yX0_startAnew, Cond.selects RX0 yX0_startAnew yX0_startAnew, Cond.code yX0_startAnew cX0_startAnew 1 none, Cond.fieldLink RX0 21 "SternDesk$Expansion" "count" "I", Cond.fieldLink RX0 15 "SternDesk$Expansion" "tops" "[I", Cond.fieldLink RX0 18 "SternDesk$Expansion" "bottoms" "[I", Cond.methodLink RX0 41 yX0_addTerm, Cond.instanceMethod yX0_addTerm, Cond.selects RX0 yX0_addTerm yX0_addTerm, Cond.code yX0_addTerm cX0_addTerm 4 none, Cond.fieldLink RX0 9 "SternDesk$Expansion" "quotients" "[I", Cond.methodLink RX0 25 yX0_top, Cond.instanceMethod yX0_top, Cond.selects RX0 yX0_top yX0_top]
def wsX3_pick_r3 : List Cond := [Cond.code yX0_top cX0_top 1 (some .int), Cond.methodLink RX0 29 yX0_topBefore, Cond.instanceMethod yX0_topBefore, Cond.selects RX0 yX0_topBefore yX0_topBefore, Cond.code yX0_topBefore cX0_topBefore 1 (some .int), Cond.methodLink RX0 32 yX0_bottom, Cond.instanceMethod yX0_bottom, Cond.selects RX0 yX0_bottom yX0_bottom, Cond.code yX0_bottom cX0_bottom 1 (some .int), Cond.methodLink RX0 35 yX0_bottomBefore, Cond.instanceMethod yX0_bottomBefore, Cond.selects RX0 yX0_bottomBefore yX0_bottomBefore, Cond.code yX0_bottomBefore cX0_bottomBefore 1 (some .int), Cond.methodLink RX3 118 yX2_countBelow, Cond.methodLink RX3 121 yX3_stepOn, Cond.instanceMethod yX3_stepOn, Cond.selects RX3 yX3_stepOn yX3_stepOn, Cond.code yX3_stepOn cX3_stepOn 11 none, Cond.methodLink RX3 39 yX0_top, Cond.methodLink RX3 43 yX0_bottom, Cond.methodLink RX3 144 yX2_bottomBehind, Cond.static yX2_bottomBehind, Cond.code yX2_bottomBehind cX2_bottomBehind 4 (some .int)]
def wsX3_pick : List Cond := .code yX3_pick cX3_pick 4 (some .int) :: ((wsX3_pick_r1 ++ (wsX3_pick_r2 ++ wsX3_pick_r3)) ++ wsX30 ++ wsX20 ++ wsX00)
def wsX3_place_r1 : List Cond := [Cond.fieldLink RX3 19 "SternDesk" "rows" "LSternDesk$Rows;", Cond.fieldLink RX3 10 "SternDesk" "hand" "LSternDesk$Expansion;", Cond.methodLink RX3 28 yX3_isWithin, Cond.static yX3_isWithin, Cond.initialized RX3, Cond.code yX3_isWithin cX3_isWithin 3 (some .boolean), Cond.methodLink RX3 39 yX0_top, Cond.instanceMethod yX0_top, Cond.selects RX0 yX0_top yX0_top, Cond.initialized RX0, Cond.code yX0_top cX0_top 1 (some .int), Cond.fieldLink RX0 15 "SternDesk$Expansion" "tops" "[I", Cond.fieldLink RX0 21 "SternDesk$Expansion" "count" "I", Cond.methodLink RX3 43 yX0_bottom, Cond.instanceMethod yX0_bottom, Cond.selects RX0 yX0_bottom yX0_bottom, Cond.code yX0_bottom cX0_bottom 1 (some .int), Cond.fieldLink RX0 18 "SternDesk$Expansion" "bottoms" "[I", Cond.methodLink RX3 118 yX2_countBelow, Cond.instanceMethod yX2_countBelow, Cond.selects RX2 yX2_countBelow yX2_countBelow, Cond.initialized RX2, Cond.code yX2_countBelow cX2_countBelow 4 (some .int), Cond.methodLink RX2 19 yX2_countAll]
def wsX3_place_r2 : List Cond := [Cond.instanceMethod yX2_countAll, Cond.selects RX2 yX2_countAll yX2_countAll, Cond.code yX2_countAll cX2_countAll 2 (some .int), Cond.methodLink RX2 15 yX2_countInside, Cond.instanceMethod yX2_countInside, Cond.selects RX2 yX2_countInside yX2_countInside, Cond.code yX2_countInside cX2_countInside 10 (some .int), Cond.fieldLink RX2 9 "SternDesk$Rows" "moebiusSums" "[I", Cond.static yX3_sumOfFloors, Cond.code yX3_sumOfFloors cX3_sumOfFloors 15 (some .long), Cond.constantLong RX3 132 (2)]
def wsX3_place : List Cond := .code yX3_place cX3_place 2 (some .int) :: ((wsX3_place_r1 ++ wsX3_place_r2) ++ wsX30 ++ wsX00 ++ wsX20)
def wsX3_floors : List Cond := .code yX3_floors cX3_floors 2 (some .long) :: ([.constant RX3 27 (100000), .fieldLink RX3 10 "SternDesk" "hand" "LSternDesk$Expansion;", .constantLong RX3 128 (-1), .methodLink RX3 28 yX3_isWithin, .static yX3_isWithin, .initialized RX3, .code yX3_isWithin cX3_isWithin 3 (some .boolean), .methodLink RX3 39 yX0_top, .instanceMethod yX0_top, .selects RX0 yX0_top yX0_top, .initialized RX0, .code yX0_top cX0_top 1 (some .int), .fieldLink RX0 15 "SternDesk$Expansion" "tops" "[I", .fieldLink RX0 21 "SternDesk$Expansion" "count" "I", .methodLink RX3 43 yX0_bottom, .instanceMethod yX0_bottom, .selects RX0 yX0_bottom yX0_bottom, .code yX0_bottom cX0_bottom 1 (some .int), .fieldLink RX0 18 "SternDesk$Expansion" "bottoms" "[I", .methodLink RX3 124 yX3_sumOfFloors, .static yX3_sumOfFloors, .code yX3_sumOfFloors cX3_sumOfFloors 15 (some .long), .constantLong RX3 132 (2)] ++ wsX30 ++ wsX00)
def wsX3_sawteeth : List Cond := .code yX3_sawteeth cX3_sawteeth 12 (some .long) :: ([.fieldLink RX3 10 "SternDesk" "hand" "LSternDesk$Expansion;", .fieldLink RX3 50 "SternDesk$Expansion" "count" "I", .fieldLink RX3 58 "SternDesk$Expansion" "quotients" "[I", .constantLong RX3 130 (3), .constantLong RX3 132 (2), .methodLink RX3 43 yX0_bottom, .instanceMethod yX0_bottom, .selects RX0 yX0_bottom yX0_bottom, .initialized RX0, .code yX0_bottom cX0_bottom 1 (some .int), .fieldLink RX0 18 "SternDesk$Expansion" "bottoms" "[I", .fieldLink RX0 21 "SternDesk$Expansion" "count" "I", .methodLink RX3 39 yX0_top, .instanceMethod yX0_top, .selects RX0 yX0_top yX0_top, .code yX0_top cX0_top 1 (some .int), .fieldLink RX0 15 "SternDesk$Expansion" "tops" "[I", .methodLink RX3 93 yX0_bottomBefore, .instanceMethod yX0_bottomBefore, .selects RX0 yX0_bottomBefore yX0_bottomBefore, .code yX0_bottomBefore cX0_bottomBefore 1 (some .int)] ++ wsX30 ++ wsX00)
def wsX3_check_r1 : List Cond := [Cond.fieldLink RX3 10 "SternDesk" "hand" "LSternDesk$Expansion;", Cond.methodLink RX3 134 yX0_termsMakeIt, Cond.instanceMethod yX0_termsMakeIt, Cond.selects RX0 yX0_termsMakeIt yX0_termsMakeIt, Cond.initialized RX0, Cond.code yX0_termsMakeIt cX0_termsMakeIt 8 (some .boolean), Cond.fieldLink RX0 21 "SternDesk$Expansion" "count" "I", Cond.fieldLink RX0 9 "SternDesk$Expansion" "quotients" "[I", Cond.methodLink RX0 25 yX0_top, Cond.instanceMethod yX0_top, Cond.selects RX0 yX0_top yX0_top, Cond.code yX0_top cX0_top 1 (some .int), Cond.fieldLink RX0 15 "SternDesk$Expansion" "tops" "[I", Cond.methodLink RX0 32 yX0_bottom, Cond.instanceMethod yX0_bottom, Cond.selects RX0 yX0_bottom yX0_bottom, Cond.code yX0_bottom cX0_bottom 1 (some .int), Cond.fieldLink RX0 18 "SternDesk$Expansion" "bottoms" "[I", Cond.methodLink RX3 138 yX0_convergentsAreClose, Cond.instanceMethod yX0_convergentsAreClose, Cond.selects RX0 yX0_convergentsAreClose yX0_convergentsAreClose, Cond.code yX0_convergentsAreClose cX0_convergentsAreClose 4 (some .boolean), Cond.constantLong RX0 65 (-1), Cond.methodLink RX3 141 yX0_wayLeadsToIt]
def wsX3_check_r2 : List Cond := [Cond.instanceMethod yX0_wayLeadsToIt, Cond.selects RX0 yX0_wayLeadsToIt yX0_wayLeadsToIt, Cond.code yX0_wayLeadsToIt cX0_wayLeadsToIt 12 (some .boolean), Cond.methodLink RX0 67 yX0_countRuns, Cond.instanceMethod yX0_countRuns, Cond.selects RX0 yX0_countRuns yX0_countRuns, Cond.code yX0_countRuns cX0_countRuns 1 (some .int), Cond.methodLink RX0 45 yX0_firstTermWithSteps, Cond.instanceMethod yX0_firstTermWithSteps, Cond.selects RX0 yX0_firstTermWithSteps yX0_firstTermWithSteps, Cond.code yX0_firstTermWithSteps cX0_firstTermWithSteps 1 (some .int), Cond.methodLink RX0 70 yX0_stepsOfRun, Cond.instanceMethod yX0_stepsOfRun, Cond.selects RX0 yX0_stepsOfRun yX0_stepsOfRun, Cond.code yX0_stepsOfRun cX0_stepsOfRun 4 (some .int)]
def wsX3_check : List Cond := .code yX3_check cX3_check 1 (some .int) :: ((wsX3_check_r1 ++ wsX3_check_r2) ++ wsX30 ++ wsX00)
set_option maxRecDepth 20000 in
theorem ggX2_countInside_X3_sumOfFloors : GoodIn wsX2_countInside wsX3_sumOfFloors := goodIn_r _ [4, 5] (by decide +kernel) (by decide +kernel)
set_option maxRecDepth 20000 in
theorem gX2_countInside_X3_sumOfFloors_n23 : GoodIn wsX2_countInside (wsX3_sumOfFloors) := ggX2_countInside_X3_sumOfFloors
set_option maxRecDepth 20000 in
theorem ggX3_init_X0_init : GoodIn wsX3_init wsX0_init := goodIn_r _ [13, 14, 2, 3, 15, 16, 17, 18, 53, 54, 55, 56] (by decide +kernel) (by decide +kernel)
set_option maxRecDepth 20000 in
theorem gX3_init_X0_init_n9 : GoodIn wsX3_init (wsX0_init) := ggX3_init_X0_init
set_option maxRecDepth 20000 in
theorem ggX3_init_X2_init : GoodIn wsX3_init wsX2_init := goodIn_r _ [21, 22, 2, 3, 15, 23, 59] (by decide +kernel) (by decide +kernel)
set_option maxRecDepth 20000 in
theorem gX3_init_X2_init : GoodIn wsX3_init (wsX2_init) := ggX3_init_X2_init
set_option maxRecDepth 20000 in
theorem ggX3_init_X0_expand : GoodIn wsX3_init wsX0_expand := goodIn_r _ [27, 28, 29, 30, 6, 31, 32, 17, 18, 33, 34, 35, 36, 16, 37, 38, 39, 40, 41, 42, 43, 44, 45, 46, 47, 48, 49, 50, 51, 52, 53, 54, 55, 56] (by decide +kernel) (by decide +kernel)
set_option maxRecDepth 20000 in
theorem gX3_init_X0_expand : GoodIn wsX3_init (wsV RX3 23 RX0 yX0_expand wsX0_expand) := goodIn_app (goodIn_of _ (by decide +kernel)) ggX3_init_X0_expand
theorem dX3_init_0 : decode cX3_init 0 = .ok (.aload_n 0, 1) := by decide +kernel
theorem dX3_init_1 : decode cX3_init 1 = .ok (.invokespecial 1, 3) := by decide +kernel
theorem dX3_init_4 : decode cX3_init 4 = .ok (.aload_n 0, 1) := by decide +kernel
theorem dX3_init_5 : decode cX3_init 5 = .ok (.new 7, 3) := by decide +kernel
theorem dX3_init_8 : decode cX3_init 8 = .ok (.dup, 1) := by decide +kernel
theorem dX3_init_9 : decode cX3_init 9 = .ok (.invokespecial 9, 3) := by decide +kernel
theorem dX3_init_12 : decode cX3_init 12 = .ok (.putfield 10, 3) := by decide +kernel
theorem dX3_init_15 : decode cX3_init 15 = .ok (.aload_n 0, 1) := by decide +kernel
theorem dX3_init_16 : decode cX3_init 16 = .ok (.new 16, 3) := by decide +kernel
theorem dX3_init_19 : decode cX3_init 19 = .ok (.dup, 1) := by decide +kernel
theorem dX3_init_20 : decode cX3_init 20 = .ok (.invokespecial 18, 3) := by decide +kernel
theorem dX3_init_23 : decode cX3_init 23 = .ok (.putfield 19, 3) := by decide +kernel
theorem dX3_init_26 : decode cX3_init 26 = .ok (.aload_n 0, 1) := by decide +kernel
theorem dX3_init_27 : decode cX3_init 27 = .ok (.getfield 10, 3) := by decide +kernel
theorem dX3_init_30 : decode cX3_init 30 = .ok (.iconst 1, 1) := by decide +kernel
theorem dX3_init_31 : decode cX3_init 31 = .ok (.iconst 1, 1) := by decide +kernel
theorem dX3_init_32 : decode cX3_init 32 = .ok (.invokevirtual 23, 3) := by decide +kernel
theorem dX3_init_35 : decode cX3_init 35 = .ok (.return_, 1) := by decide +kernel
theorem dX3_take_0 : decode cX3_take 0 = .ok (.iload_n 1, 1) := by decide +kernel
theorem dX3_take_1 : decode cX3_take 1 = .ok (.iconst 0, 1) := by decide +kernel
theorem dX3_take_2 : decode cX3_take 2 = .ok (.ldc 27, 2) := by decide +kernel
theorem dX3_take_4 : decode cX3_take 4 = .ok (.invokestatic 28, 3) := by decide +kernel
theorem dX3_take_7 : decode cX3_take 7 = .ok (.ifCond .eq 13, 3) := by decide +kernel
theorem dX3_take_10 : decode cX3_take 10 = .ok (.iload_n 2, 1) := by decide +kernel
theorem dX3_take_11 : decode cX3_take 11 = .ok (.iconst 1, 1) := by decide +kernel
theorem dX3_take_12 : decode cX3_take 12 = .ok (.ldc 27, 2) := by decide +kernel
theorem dX3_take_14 : decode cX3_take 14 = .ok (.invokestatic 28, 3) := by decide +kernel
theorem dX3_take_17 : decode cX3_take 17 = .ok (.ifCond .ne 13, 3) := by decide +kernel
theorem dX3_take_20 : decode cX3_take 20 = .ok (.new 32, 3) := by decide +kernel
theorem dX3_take_23 : decode cX3_take 23 = .ok (.dup, 1) := by decide +kernel
theorem dX3_take_24 : decode cX3_take 24 = .ok (.ldc 34, 2) := by decide +kernel
theorem dX3_take_26 : decode cX3_take 26 = .ok (.invokespecial 36, 3) := by decide +kernel
theorem dX3_take_29 : decode cX3_take 29 = .ok (.athrow, 1) := by decide +kernel
theorem dX3_take_30 : decode cX3_take 30 = .ok (.aload_n 0, 1) := by decide +kernel
theorem dX3_take_31 : decode cX3_take 31 = .ok (.getfield 10, 3) := by decide +kernel
theorem dX3_take_34 : decode cX3_take 34 = .ok (.iload_n 1, 1) := by decide +kernel
theorem dX3_take_35 : decode cX3_take 35 = .ok (.iload_n 2, 1) := by decide +kernel
theorem dX3_take_36 : decode cX3_take 36 = .ok (.invokevirtual 23, 3) := by decide +kernel
theorem dX3_take_39 : decode cX3_take 39 = .ok (.return_, 1) := by decide +kernel
set_option maxRecDepth 20000 in
theorem ggX3_part_X0_top : GoodIn wsX3_part wsX0_top := goodIn_r _ [6, 7, 8, 20, 21, 22, 23] (by decide +kernel) (by decide +kernel)
set_option maxRecDepth 20000 in
theorem gX3_part_X0_top : GoodIn wsX3_part (wsV RX3 39 RX0 yX0_top wsX0_top) := goodIn_app (goodIn_of _ (by decide +kernel)) ggX3_part_X0_top
set_option maxRecDepth 20000 in
theorem ggX3_part_X0_bottom : GoodIn wsX3_part wsX0_bottom := goodIn_r _ [12, 13, 8, 20, 21, 22, 23] (by decide +kernel) (by decide +kernel)
set_option maxRecDepth 20000 in
theorem gX3_part_X0_bottom : GoodIn wsX3_part (wsV RX3 43 RX0 yX0_bottom wsX0_bottom) := goodIn_app (goodIn_of _ (by decide +kernel)) ggX3_part_X0_bottom
set_option maxRecDepth 20000 in
theorem ggX3_part_X3_topOrBottom : GoodIn wsX3_part wsX3_topOrBottom := goodIn_r _ [17] (by decide +kernel) (by decide +kernel)
set_option maxRecDepth 20000 in
theorem gX3_part_X3_topOrBottom : GoodIn wsX3_part (va_wsS RX3 46 yX3_topOrBottom wsX3_topOrBottom) := goodIn_app (goodIn_of _ (by decide +kernel)) ggX3_part_X3_topOrBottom
theorem dX3_part_0 : decode cX3_part 0 = .ok (.iload_n 1, 1) := by decide +kernel
theorem dX3_part_1 : decode cX3_part 1 = .ok (.aload_n 0, 1) := by decide +kernel
theorem dX3_part_2 : decode cX3_part 2 = .ok (.getfield 10, 3) := by decide +kernel
theorem dX3_part_5 : decode cX3_part 5 = .ok (.invokevirtual 39, 3) := by decide +kernel
theorem dX3_part_8 : decode cX3_part 8 = .ok (.aload_n 0, 1) := by decide +kernel
theorem dX3_part_9 : decode cX3_part 9 = .ok (.getfield 10, 3) := by decide +kernel
theorem dX3_part_12 : decode cX3_part 12 = .ok (.invokevirtual 43, 3) := by decide +kernel
theorem dX3_part_15 : decode cX3_part 15 = .ok (.invokestatic 46, 3) := by decide +kernel
theorem dX3_part_18 : decode cX3_part 18 = .ok (.ireturn, 1) := by decide +kernel
theorem dX3_terms_0 : decode cX3_terms 0 = .ok (.aload_n 0, 1) := by decide +kernel
theorem dX3_terms_1 : decode cX3_terms 1 = .ok (.getfield 10, 3) := by decide +kernel
theorem dX3_terms_4 : decode cX3_terms 4 = .ok (.getfield 50, 3) := by decide +kernel
theorem dX3_terms_7 : decode cX3_terms 7 = .ok (.ireturn, 1) := by decide +kernel
set_option maxRecDepth 20000 in
theorem ggX3_term_X3_isTerm : GoodIn wsX3_term wsX3_isTerm := goodIn_r _ [7, 1, 8, 9, 10, 11, 12, 13, 14] (by decide +kernel) (by decide +kernel)
set_option maxRecDepth 20000 in
theorem gX3_term_X3_isTerm : GoodIn wsX3_term (wsV RX3 54 RX3 yX3_isTerm wsX3_isTerm) := goodIn_app (goodIn_of _ (by decide +kernel)) ggX3_term_X3_isTerm
theorem dX3_term_0 : decode cX3_term 0 = .ok (.aload_n 0, 1) := by decide +kernel
theorem dX3_term_1 : decode cX3_term 1 = .ok (.iload_n 1, 1) := by decide +kernel
theorem dX3_term_2 : decode cX3_term 2 = .ok (.invokevirtual 54, 3) := by decide +kernel
theorem dX3_term_5 : decode cX3_term 5 = .ok (.ifCond .eq 15, 3) := by decide +kernel
theorem dX3_term_8 : decode cX3_term 8 = .ok (.aload_n 0, 1) := by decide +kernel
theorem dX3_term_9 : decode cX3_term 9 = .ok (.getfield 10, 3) := by decide +kernel
theorem dX3_term_12 : decode cX3_term 12 = .ok (.getfield 58, 3) := by decide +kernel
theorem dX3_term_15 : decode cX3_term 15 = .ok (.iload_n 1, 1) := by decide +kernel
theorem dX3_term_16 : decode cX3_term 16 = .ok (.iaload, 1) := by decide +kernel
theorem dX3_term_17 : decode cX3_term 17 = .ok (.goto 4, 3) := by decide +kernel
theorem dX3_term_20 : decode cX3_term 20 = .ok (.iconst (-1), 1) := by decide +kernel
theorem dX3_term_21 : decode cX3_term 21 = .ok (.ireturn, 1) := by decide +kernel
set_option maxRecDepth 20000 in
theorem ggX3_convergent_X3_isTerm : GoodIn wsX3_convergent wsX3_isTerm := goodIn_r _ [8, 1, 9, 13, 14, 15, 16, 17, 18] (by decide +kernel) (by decide +kernel)
set_option maxRecDepth 20000 in
theorem gX3_convergent_X3_isTerm : GoodIn wsX3_convergent (wsV RX3 54 RX3 yX3_isTerm wsX3_isTerm) := goodIn_app (goodIn_of _ (by decide +kernel)) ggX3_convergent_X3_isTerm
set_option maxRecDepth 20000 in
theorem ggX3_convergent_X3_topOrBottom : GoodIn wsX3_convergent wsX3_topOrBottom := goodIn_r _ [12] (by decide +kernel) (by decide +kernel)
set_option maxRecDepth 20000 in
theorem gX3_convergent_X3_topOrBottom : GoodIn wsX3_convergent (va_wsS RX3 46 yX3_topOrBottom wsX3_topOrBottom) := goodIn_app (goodIn_of _ (by decide +kernel)) ggX3_convergent_X3_topOrBottom
theorem dX3_convergent_0 : decode cX3_convergent 0 = .ok (.aload_n 0, 1) := by decide +kernel
theorem dX3_convergent_1 : decode cX3_convergent 1 = .ok (.iload_n 1, 1) := by decide +kernel
theorem dX3_convergent_2 : decode cX3_convergent 2 = .ok (.invokevirtual 54, 3) := by decide +kernel
theorem dX3_convergent_5 : decode cX3_convergent 5 = .ok (.ifCond .eq 32, 3) := by decide +kernel
theorem dX3_convergent_8 : decode cX3_convergent 8 = .ok (.iload_n 2, 1) := by decide +kernel
theorem dX3_convergent_9 : decode cX3_convergent 9 = .ok (.aload_n 0, 1) := by decide +kernel
theorem dX3_convergent_10 : decode cX3_convergent 10 = .ok (.getfield 10, 3) := by decide +kernel
theorem dX3_convergent_13 : decode cX3_convergent 13 = .ok (.getfield 62, 3) := by decide +kernel
theorem dX3_convergent_16 : decode cX3_convergent 16 = .ok (.iload_n 1, 1) := by decide +kernel
theorem dX3_convergent_17 : decode cX3_convergent 17 = .ok (.iconst 1, 1) := by decide +kernel
theorem dX3_convergent_18 : decode cX3_convergent 18 = .ok (.iadd, 1) := by decide +kernel
theorem dX3_convergent_19 : decode cX3_convergent 19 = .ok (.iaload, 1) := by decide +kernel
theorem dX3_convergent_20 : decode cX3_convergent 20 = .ok (.aload_n 0, 1) := by decide +kernel
theorem dX3_convergent_21 : decode cX3_convergent 21 = .ok (.getfield 10, 3) := by decide +kernel
theorem dX3_convergent_24 : decode cX3_convergent 24 = .ok (.getfield 65, 3) := by decide +kernel
theorem dX3_convergent_27 : decode cX3_convergent 27 = .ok (.iload_n 1, 1) := by decide +kernel
theorem dX3_convergent_28 : decode cX3_convergent 28 = .ok (.iconst 1, 1) := by decide +kernel
theorem dX3_convergent_29 : decode cX3_convergent 29 = .ok (.iadd, 1) := by decide +kernel
theorem dX3_convergent_30 : decode cX3_convergent 30 = .ok (.iaload, 1) := by decide +kernel
theorem dX3_convergent_31 : decode cX3_convergent 31 = .ok (.invokestatic 46, 3) := by decide +kernel
theorem dX3_convergent_34 : decode cX3_convergent 34 = .ok (.goto 4, 3) := by decide +kernel
theorem dX3_convergent_37 : decode cX3_convergent 37 = .ok (.iconst (-1), 1) := by decide +kernel
theorem dX3_convergent_38 : decode cX3_convergent 38 = .ok (.ireturn, 1) := by decide +kernel
set_option maxRecDepth 20000 in
theorem ggX3_way_X0_top : GoodIn wsX3_way wsX0_top := goodIn_r _ [6, 7, 8, 34, 35, 36, 37] (by decide +kernel) (by decide +kernel)
set_option maxRecDepth 20000 in
theorem gX3_way_X0_top : GoodIn wsX3_way (wsV RX3 39 RX0 yX0_top wsX0_top) := goodIn_app (goodIn_of _ (by decide +kernel)) ggX3_way_X0_top
set_option maxRecDepth 20000 in
theorem ggX3_way_X0_countSteps : GoodIn wsX3_way wsX0_countSteps := goodIn_r _ [12, 8, 13, 34, 35, 36, 37] (by decide +kernel) (by decide +kernel)
set_option maxRecDepth 20000 in
theorem gX3_way_X0_countSteps : GoodIn wsX3_way (wsV RX3 68 RX0 yX0_countSteps wsX0_countSteps) := goodIn_app (goodIn_of _ (by decide +kernel)) ggX3_way_X0_countSteps
set_option maxRecDepth 20000 in
theorem ggX3_way_X0_countRuns : GoodIn wsX3_way wsX0_countRuns := goodIn_r _ [17, 8, 18, 3, 4, 5, 6, 7, 19, 20, 21, 22, 23, 24, 25, 26, 27, 13, 34, 35, 36, 37] (by decide +kernel) (by decide +kernel)
set_option maxRecDepth 20000 in
theorem gX3_way_X0_countRuns : GoodIn wsX3_way (wsV RX3 71 RX0 yX0_countRuns wsX0_countRuns) := goodIn_app (goodIn_of _ (by decide +kernel)) ggX3_way_X0_countRuns
set_option maxRecDepth 20000 in
theorem ggX3_way_X3_topOrBottom : GoodIn wsX3_way wsX3_topOrBottom := goodIn_r _ [31] (by decide +kernel) (by decide +kernel)
set_option maxRecDepth 20000 in
theorem gX3_way_X3_topOrBottom : GoodIn wsX3_way (va_wsS RX3 46 yX3_topOrBottom wsX3_topOrBottom) := goodIn_app (goodIn_of _ (by decide +kernel)) ggX3_way_X3_topOrBottom
theorem dX3_way_0 : decode cX3_way 0 = .ok (.aload_n 0, 1) := by decide +kernel
theorem dX3_way_1 : decode cX3_way 1 = .ok (.getfield 10, 3) := by decide +kernel
theorem dX3_way_4 : decode cX3_way 4 = .ok (.invokevirtual 39, 3) := by decide +kernel
theorem dX3_way_7 : decode cX3_way 7 = .ok (.ifCond .ne 5, 3) := by decide +kernel
theorem dX3_way_10 : decode cX3_way 10 = .ok (.iconst (-1), 1) := by decide +kernel
theorem dX3_way_11 : decode cX3_way 11 = .ok (.ireturn, 1) := by decide +kernel
theorem dX3_way_12 : decode cX3_way 12 = .ok (.iload_n 1, 1) := by decide +kernel
theorem dX3_way_13 : decode cX3_way 13 = .ok (.aload_n 0, 1) := by decide +kernel
theorem dX3_way_14 : decode cX3_way 14 = .ok (.getfield 10, 3) := by decide +kernel
theorem dX3_way_17 : decode cX3_way 17 = .ok (.invokevirtual 68, 3) := by decide +kernel
theorem dX3_way_20 : decode cX3_way 20 = .ok (.aload_n 0, 1) := by decide +kernel
theorem dX3_way_21 : decode cX3_way 21 = .ok (.getfield 10, 3) := by decide +kernel
theorem dX3_way_24 : decode cX3_way 24 = .ok (.invokevirtual 71, 3) := by decide +kernel
theorem dX3_way_27 : decode cX3_way 27 = .ok (.invokestatic 46, 3) := by decide +kernel
theorem dX3_way_30 : decode cX3_way 30 = .ok (.ireturn, 1) := by decide +kernel
set_option maxRecDepth 20000 in
theorem ggX3_run_X0_countRuns : GoodIn wsX3_run wsX0_countRuns := goodIn_r _ [6, 7, 8, 9, 10, 5, 11, 12, 13, 14, 15, 16, 17, 18, 19, 20, 21, 22, 29, 30, 31, 32] (by decide +kernel) (by decide +kernel)
set_option maxRecDepth 20000 in
theorem gX3_run_X0_countRuns : GoodIn wsX3_run (wsV RX3 71 RX0 yX0_countRuns wsX0_countRuns) := goodIn_app (goodIn_of _ (by decide +kernel)) ggX3_run_X0_countRuns
set_option maxRecDepth 20000 in
theorem ggX3_run_X0_stepsOfRun : GoodIn wsX3_run wsX0_stepsOfRun := goodIn_r _ [26, 7, 22, 18, 19, 20, 5, 21, 29, 30, 31, 32] (by decide +kernel) (by decide +kernel)
set_option maxRecDepth 20000 in
theorem gX3_run_X0_stepsOfRun : GoodIn wsX3_run (wsV RX3 74 RX0 yX0_stepsOfRun wsX0_stepsOfRun) := goodIn_app (goodIn_of _ (by decide +kernel)) ggX3_run_X0_stepsOfRun
theorem dX3_run_0 : decode cX3_run 0 = .ok (.iload_n 1, 1) := by decide +kernel
theorem dX3_run_1 : decode cX3_run 1 = .ok (.ifCond .lt 25, 3) := by decide +kernel
theorem dX3_run_4 : decode cX3_run 4 = .ok (.iload_n 1, 1) := by decide +kernel
theorem dX3_run_5 : decode cX3_run 5 = .ok (.aload_n 0, 1) := by decide +kernel
theorem dX3_run_6 : decode cX3_run 6 = .ok (.getfield 10, 3) := by decide +kernel
theorem dX3_run_9 : decode cX3_run 9 = .ok (.invokevirtual 71, 3) := by decide +kernel
theorem dX3_run_12 : decode cX3_run 12 = .ok (.if_icmp .ge 14, 3) := by decide +kernel
theorem dX3_run_15 : decode cX3_run 15 = .ok (.aload_n 0, 1) := by decide +kernel
theorem dX3_run_16 : decode cX3_run 16 = .ok (.getfield 10, 3) := by decide +kernel
theorem dX3_run_19 : decode cX3_run 19 = .ok (.iload_n 1, 1) := by decide +kernel
theorem dX3_run_20 : decode cX3_run 20 = .ok (.invokevirtual 74, 3) := by decide +kernel
theorem dX3_run_23 : decode cX3_run 23 = .ok (.goto 4, 3) := by decide +kernel
theorem dX3_run_26 : decode cX3_run 26 = .ok (.iconst 0, 1) := by decide +kernel
theorem dX3_run_27 : decode cX3_run 27 = .ok (.ireturn, 1) := by decide +kernel
set_option maxRecDepth 20000 in
theorem ggX3_go_X3_isWithin : GoodIn wsX3_go wsX3_isWithin := goodIn_r _ [9] (by decide +kernel) (by decide +kernel)
set_option maxRecDepth 20000 in
theorem gX3_go_X3_isWithin : GoodIn wsX3_go (va_wsS RX3 28 yX3_isWithin wsX3_isWithin) := goodIn_app (goodIn_of _ (by decide +kernel)) ggX3_go_X3_isWithin
set_option maxRecDepth 20000 in
theorem ggX3_go_X0_top : GoodIn wsX3_go wsX0_top := goodIn_r _ [14, 15, 16, 64, 65, 66, 67] (by decide +kernel) (by decide +kernel)
set_option maxRecDepth 20000 in
theorem gX3_go_X0_top : GoodIn wsX3_go (wsV RX3 39 RX0 yX0_top wsX0_top) := goodIn_app (goodIn_of _ (by decide +kernel)) ggX3_go_X0_top
set_option maxRecDepth 20000 in
theorem ggX3_go_X0_neighbourAt : GoodIn wsX3_go wsX0_neighbourAt := goodIn_r _ [20, 16, 21, 22, 23, 24, 25, 26, 13, 27, 15, 28, 29, 30, 31, 32, 33, 34, 35, 36, 37, 38, 39, 40, 41, 11, 12, 14, 42, 43, 44, 45, 64, 65, 66, 67, 62, 63] (by decide +kernel) (by decide +kernel)
set_option maxRecDepth 20000 in
theorem gX3_go_X0_neighbourAt : GoodIn wsX3_go (wsV RX3 78 RX0 yX0_neighbourAt wsX0_neighbourAt) := goodIn_app (goodIn_of _ (by decide +kernel)) ggX3_go_X0_neighbourAt
set_option maxRecDepth 20000 in
theorem ggX3_go_X0_bottom : GoodIn wsX3_go wsX0_bottom := goodIn_r _ [45, 32, 16, 64, 65, 66, 67] (by decide +kernel) (by decide +kernel)
set_option maxRecDepth 20000 in
theorem gX3_go_X0_bottom : GoodIn wsX3_go (wsV RX3 43 RX0 yX0_bottom wsX0_bottom) := goodIn_app (goodIn_of _ (by decide +kernel)) ggX3_go_X0_bottom
set_option maxRecDepth 20000 in
theorem ggX3_go_X0_expand : GoodIn wsX3_go wsX0_expand := goodIn_r _ [50, 51, 52, 53, 13, 54, 16, 15, 32, 55, 56, 57, 58, 59, 41, 11, 12, 14, 24, 25, 26, 27, 42, 43, 44, 45, 28, 29, 30, 31, 64, 65, 66, 67] (by decide +kernel) (by decide +kernel)
set_option maxRecDepth 20000 in
theorem gX3_go_X0_expand : GoodIn wsX3_go (wsV RX3 23 RX0 yX0_expand wsX0_expand) := goodIn_app (goodIn_of _ (by decide +kernel)) ggX3_go_X0_expand
theorem dX3_go_0 : decode cX3_go 0 = .ok (.iload_n 1, 1) := by decide +kernel
theorem dX3_go_1 : decode cX3_go 1 = .ok (.iconst 0, 1) := by decide +kernel
theorem dX3_go_2 : decode cX3_go 2 = .ok (.iconst 1, 1) := by decide +kernel
theorem dX3_go_3 : decode cX3_go 3 = .ok (.invokestatic 28, 3) := by decide +kernel
theorem dX3_go_6 : decode cX3_go 6 = .ok (.ifCond .eq 23, 3) := by decide +kernel
theorem dX3_go_9 : decode cX3_go 9 = .ok (.iload_n 2, 1) := by decide +kernel
theorem dX3_go_10 : decode cX3_go 10 = .ok (.iconst 0, 1) := by decide +kernel
theorem dX3_go_11 : decode cX3_go 11 = .ok (.ldc 27, 2) := by decide +kernel
theorem dX3_go_13 : decode cX3_go 13 = .ok (.invokestatic 28, 3) := by decide +kernel
theorem dX3_go_16 : decode cX3_go 16 = .ok (.ifCond .eq 13, 3) := by decide +kernel
theorem dX3_go_19 : decode cX3_go 19 = .ok (.aload_n 0, 1) := by decide +kernel
theorem dX3_go_20 : decode cX3_go 20 = .ok (.getfield 10, 3) := by decide +kernel
theorem dX3_go_23 : decode cX3_go 23 = .ok (.invokevirtual 39, 3) := by decide +kernel
theorem dX3_go_26 : decode cX3_go 26 = .ok (.ifCond .ne 5, 3) := by decide +kernel
theorem dX3_go_29 : decode cX3_go 29 = .ok (.iconst 0, 1) := by decide +kernel
theorem dX3_go_30 : decode cX3_go 30 = .ok (.ireturn, 1) := by decide +kernel
theorem dX3_go_31 : decode cX3_go 31 = .ok (.aload_n 0, 1) := by decide +kernel
theorem dX3_go_32 : decode cX3_go 32 = .ok (.getfield 10, 3) := by decide +kernel
theorem dX3_go_35 : decode cX3_go 35 = .ok (.iload_n 1, 1) := by decide +kernel
theorem dX3_go_36 : decode cX3_go 36 = .ok (.invokevirtual 78, 3) := by decide +kernel
theorem dX3_go_39 : decode cX3_go 39 = .ok (.astore_n 3, 1) := by decide +kernel
theorem dX3_go_40 : decode cX3_go 40 = .ok (.aload_n 0, 1) := by decide +kernel
theorem dX3_go_41 : decode cX3_go 41 = .ok (.getfield 10, 3) := by decide +kernel
theorem dX3_go_44 : decode cX3_go 44 = .ok (.invokevirtual 39, 3) := by decide +kernel
theorem dX3_go_47 : decode cX3_go 47 = .ok (.i2l, 1) := by decide +kernel
theorem dX3_go_48 : decode cX3_go 48 = .ok (.iload_n 2, 1) := by decide +kernel
theorem dX3_go_49 : decode cX3_go 49 = .ok (.i2l, 1) := by decide +kernel
theorem dX3_go_50 : decode cX3_go 50 = .ok (.aload_n 3, 1) := by decide +kernel
theorem dX3_go_51 : decode cX3_go 51 = .ok (.getfield 82, 3) := by decide +kernel
theorem dX3_go_54 : decode cX3_go 54 = .ok (.i2l, 1) := by decide +kernel
theorem dX3_go_55 : decode cX3_go 55 = .ok (.lmul, 1) := by decide +kernel
theorem dX3_go_56 : decode cX3_go 56 = .ok (.ladd, 1) := by decide +kernel
theorem dX3_go_57 : decode cX3_go 57 = .ok (.lstore 4, 2) := by decide +kernel
theorem dX3_go_59 : decode cX3_go 59 = .ok (.aload_n 0, 1) := by decide +kernel
theorem dX3_go_60 : decode cX3_go 60 = .ok (.getfield 10, 3) := by decide +kernel
theorem dX3_go_63 : decode cX3_go 63 = .ok (.invokevirtual 43, 3) := by decide +kernel
theorem dX3_go_66 : decode cX3_go 66 = .ok (.i2l, 1) := by decide +kernel
theorem dX3_go_67 : decode cX3_go 67 = .ok (.iload_n 2, 1) := by decide +kernel
theorem dX3_go_68 : decode cX3_go 68 = .ok (.i2l, 1) := by decide +kernel
theorem dX3_go_69 : decode cX3_go 69 = .ok (.aload_n 3, 1) := by decide +kernel
theorem dX3_go_70 : decode cX3_go 70 = .ok (.getfield 86, 3) := by decide +kernel
theorem dX3_go_73 : decode cX3_go 73 = .ok (.i2l, 1) := by decide +kernel
theorem dX3_go_74 : decode cX3_go 74 = .ok (.lmul, 1) := by decide +kernel
theorem dX3_go_75 : decode cX3_go 75 = .ok (.ladd, 1) := by decide +kernel
theorem dX3_go_76 : decode cX3_go 76 = .ok (.lstore 6, 2) := by decide +kernel
theorem dX3_go_78 : decode cX3_go 78 = .ok (.lload 4, 2) := by decide +kernel
theorem dX3_go_80 : decode cX3_go 80 = .ok (.ldc2_w 88, 3) := by decide +kernel
theorem dX3_go_83 : decode cX3_go 83 = .ok (.lcmp, 1) := by decide +kernel
theorem dX3_go_84 : decode cX3_go 84 = .ok (.ifCond .gt 12, 3) := by decide +kernel
theorem dX3_go_87 : decode cX3_go 87 = .ok (.lload 6, 2) := by decide +kernel
theorem dX3_go_89 : decode cX3_go 89 = .ok (.ldc2_w 88, 3) := by decide +kernel
theorem dX3_go_92 : decode cX3_go 92 = .ok (.lcmp, 1) := by decide +kernel
theorem dX3_go_93 : decode cX3_go 93 = .ok (.ifCond .le 5, 3) := by decide +kernel
theorem dX3_go_96 : decode cX3_go 96 = .ok (.iconst 0, 1) := by decide +kernel
theorem dX3_go_97 : decode cX3_go 97 = .ok (.ireturn, 1) := by decide +kernel
theorem dX3_go_98 : decode cX3_go 98 = .ok (.aload_n 0, 1) := by decide +kernel
theorem dX3_go_99 : decode cX3_go 99 = .ok (.getfield 10, 3) := by decide +kernel
theorem dX3_go_102 : decode cX3_go 102 = .ok (.lload 4, 2) := by decide +kernel
theorem dX3_go_104 : decode cX3_go 104 = .ok (.l2i, 1) := by decide +kernel
theorem dX3_go_105 : decode cX3_go 105 = .ok (.lload 6, 2) := by decide +kernel
theorem dX3_go_107 : decode cX3_go 107 = .ok (.l2i, 1) := by decide +kernel
theorem dX3_go_108 : decode cX3_go 108 = .ok (.invokevirtual 23, 3) := by decide +kernel
theorem dX3_go_111 : decode cX3_go 111 = .ok (.iconst 1, 1) := by decide +kernel
theorem dX3_go_112 : decode cX3_go 112 = .ok (.ireturn, 1) := by decide +kernel
set_option maxRecDepth 20000 in
theorem ggX3_up_X0_countRuns : GoodIn wsX3_up wsX0_countRuns := goodIn_r _ [6, 7, 8, 9, 10, 5, 11, 12, 13, 14, 15, 16, 17, 18, 19, 20, 21, 22, 49, 50, 51, 52] (by decide +kernel) (by decide +kernel)
set_option maxRecDepth 20000 in
theorem gX3_up_X0_countRuns : GoodIn wsX3_up (wsV RX3 71 RX0 yX0_countRuns wsX0_countRuns) := goodIn_app (goodIn_of _ (by decide +kernel)) ggX3_up_X0_countRuns
set_option maxRecDepth 20000 in
theorem ggX3_up_X0_top : GoodIn wsX3_up wsX0_top := goodIn_r _ [11, 12, 7, 49, 50, 51, 52] (by decide +kernel) (by decide +kernel)
set_option maxRecDepth 20000 in
theorem gX3_up_X0_top : GoodIn wsX3_up (wsV RX3 39 RX0 yX0_top wsX0_top) := goodIn_app (goodIn_of _ (by decide +kernel)) ggX3_up_X0_top
set_option maxRecDepth 20000 in
theorem ggX3_up_X0_topBefore : GoodIn wsX3_up wsX0_topBefore := goodIn_r _ [27, 7, 12, 49, 50, 51, 52] (by decide +kernel) (by decide +kernel)
set_option maxRecDepth 20000 in
theorem gX3_up_X0_topBefore : GoodIn wsX3_up (wsV RX3 90 RX0 yX0_topBefore wsX0_topBefore) := goodIn_app (goodIn_of _ (by decide +kernel)) ggX3_up_X0_topBefore
set_option maxRecDepth 20000 in
theorem ggX3_up_X0_bottom : GoodIn wsX3_up wsX0_bottom := goodIn_r _ [16, 17, 7, 49, 50, 51, 52] (by decide +kernel) (by decide +kernel)
set_option maxRecDepth 20000 in
theorem gX3_up_X0_bottom : GoodIn wsX3_up (wsV RX3 43 RX0 yX0_bottom wsX0_bottom) := goodIn_app (goodIn_of _ (by decide +kernel)) ggX3_up_X0_bottom
set_option maxRecDepth 20000 in
theorem ggX3_up_X0_bottomBefore : GoodIn wsX3_up wsX0_bottomBefore := goodIn_r _ [32, 7, 17, 49, 50, 51, 52] (by decide +kernel) (by decide +kernel)
set_option maxRecDepth 20000 in
theorem gX3_up_X0_bottomBefore : GoodIn wsX3_up (wsV RX3 93 RX0 yX0_bottomBefore wsX0_bottomBefore) := goodIn_app (goodIn_of _ (by decide +kernel)) ggX3_up_X0_bottomBefore
set_option maxRecDepth 20000 in
theorem ggX3_up_X0_expand : GoodIn wsX3_up wsX0_expand := goodIn_r _ [36, 37, 38, 39, 5, 40, 7, 12, 17, 41, 42, 43, 44, 22, 8, 9, 10, 11, 45, 25, 26, 27, 13, 14, 15, 16, 46, 30, 31, 32, 49, 50, 51, 52] (by decide +kernel) (by decide +kernel)
set_option maxRecDepth 20000 in
theorem gX3_up_X0_expand : GoodIn wsX3_up (wsV RX3 23 RX0 yX0_expand wsX0_expand) := goodIn_app (goodIn_of _ (by decide +kernel)) ggX3_up_X0_expand
theorem dX3_up_0 : decode cX3_up 0 = .ok (.aload_n 0, 1) := by decide +kernel
theorem dX3_up_1 : decode cX3_up 1 = .ok (.getfield 10, 3) := by decide +kernel
theorem dX3_up_4 : decode cX3_up 4 = .ok (.invokevirtual 71, 3) := by decide +kernel
theorem dX3_up_7 : decode cX3_up 7 = .ok (.ifCond .ne 5, 3) := by decide +kernel
theorem dX3_up_10 : decode cX3_up 10 = .ok (.iconst 0, 1) := by decide +kernel
theorem dX3_up_11 : decode cX3_up 11 = .ok (.ireturn, 1) := by decide +kernel
theorem dX3_up_12 : decode cX3_up 12 = .ok (.aload_n 0, 1) := by decide +kernel
theorem dX3_up_13 : decode cX3_up 13 = .ok (.getfield 10, 3) := by decide +kernel
theorem dX3_up_16 : decode cX3_up 16 = .ok (.aload_n 0, 1) := by decide +kernel
theorem dX3_up_17 : decode cX3_up 17 = .ok (.getfield 10, 3) := by decide +kernel
theorem dX3_up_20 : decode cX3_up 20 = .ok (.invokevirtual 39, 3) := by decide +kernel
theorem dX3_up_23 : decode cX3_up 23 = .ok (.aload_n 0, 1) := by decide +kernel
theorem dX3_up_24 : decode cX3_up 24 = .ok (.getfield 10, 3) := by decide +kernel
theorem dX3_up_27 : decode cX3_up 27 = .ok (.invokevirtual 90, 3) := by decide +kernel
theorem dX3_up_30 : decode cX3_up 30 = .ok (.isub, 1) := by decide +kernel
theorem dX3_up_31 : decode cX3_up 31 = .ok (.aload_n 0, 1) := by decide +kernel
theorem dX3_up_32 : decode cX3_up 32 = .ok (.getfield 10, 3) := by decide +kernel
theorem dX3_up_35 : decode cX3_up 35 = .ok (.invokevirtual 43, 3) := by decide +kernel
theorem dX3_up_38 : decode cX3_up 38 = .ok (.aload_n 0, 1) := by decide +kernel
theorem dX3_up_39 : decode cX3_up 39 = .ok (.getfield 10, 3) := by decide +kernel
theorem dX3_up_42 : decode cX3_up 42 = .ok (.invokevirtual 93, 3) := by decide +kernel
theorem dX3_up_45 : decode cX3_up 45 = .ok (.isub, 1) := by decide +kernel
theorem dX3_up_46 : decode cX3_up 46 = .ok (.invokevirtual 23, 3) := by decide +kernel
theorem dX3_up_49 : decode cX3_up 49 = .ok (.iconst 1, 1) := by decide +kernel
theorem dX3_up_50 : decode cX3_up 50 = .ok (.ireturn, 1) := by decide +kernel
theorem dX3_near_0 : decode cX3_near 0 = .ok (.iload_n 1, 1) := by decide +kernel
theorem dX3_near_1 : decode cX3_near 1 = .ok (.iconst 1, 1) := by decide +kernel
theorem dX3_near_2 : decode cX3_near 2 = .ok (.sipush 1000, 3) := by decide +kernel
theorem dX3_near_5 : decode cX3_near 5 = .ok (.invokestatic 28, 3) := by decide +kernel
theorem dX3_near_8 : decode cX3_near 8 = .ok (.ifCond .eq 21, 3) := by decide +kernel
theorem dX3_near_11 : decode cX3_near 11 = .ok (.iload_n 2, 1) := by decide +kernel
theorem dX3_near_12 : decode cX3_near 12 = .ok (.iconst 0, 1) := by decide +kernel
theorem dX3_near_13 : decode cX3_near 13 = .ok (.iconst 2, 1) := by decide +kernel
theorem dX3_near_14 : decode cX3_near 14 = .ok (.invokestatic 28, 3) := by decide +kernel
theorem dX3_near_17 : decode cX3_near 17 = .ok (.ifCond .eq 12, 3) := by decide +kernel
theorem dX3_near_20 : decode cX3_near 20 = .ok (.iload_n 3, 1) := by decide +kernel
theorem dX3_near_21 : decode cX3_near 21 = .ok (.iconst 0, 1) := by decide +kernel
theorem dX3_near_22 : decode cX3_near 22 = .ok (.iconst 1, 1) := by decide +kernel
theorem dX3_near_23 : decode cX3_near 23 = .ok (.invokestatic 28, 3) := by decide +kernel
theorem dX3_near_26 : decode cX3_near 26 = .ok (.ifCond .ne 13, 3) := by decide +kernel
theorem dX3_near_29 : decode cX3_near 29 = .ok (.new 32, 3) := by decide +kernel
theorem dX3_near_32 : decode cX3_near 32 = .ok (.dup, 1) := by decide +kernel
theorem dX3_near_33 : decode cX3_near 33 = .ok (.ldc 96, 2) := by decide +kernel
theorem dX3_near_35 : decode cX3_near 35 = .ok (.invokespecial 36, 3) := by decide +kernel
theorem dX3_near_38 : decode cX3_near 38 = .ok (.athrow, 1) := by decide +kernel
theorem dX3_near_39 : decode cX3_near 39 = .ok (.aload_n 0, 1) := by decide +kernel
theorem dX3_near_40 : decode cX3_near 40 = .ok (.getfield 10, 3) := by decide +kernel
theorem dX3_near_43 : decode cX3_near 43 = .ok (.invokevirtual 43, 3) := by decide +kernel
theorem dX3_near_46 : decode cX3_near 46 = .ok (.iload_n 1, 1) := by decide +kernel
theorem dX3_near_47 : decode cX3_near 47 = .ok (.if_icmp .gt 9, 3) := by decide +kernel
theorem dX3_near_50 : decode cX3_near 50 = .ok (.aload_n 0, 1) := by decide +kernel
theorem dX3_near_51 : decode cX3_near 51 = .ok (.iload_n 3, 1) := by decide +kernel
theorem dX3_near_52 : decode cX3_near 52 = .ok (.invokevirtual 98, 3) := by decide +kernel
theorem dX3_near_55 : decode cX3_near 55 = .ok (.ireturn, 1) := by decide +kernel
theorem dX3_near_56 : decode cX3_near 56 = .ok (.aload_n 0, 1) := by decide +kernel
theorem dX3_near_57 : decode cX3_near 57 = .ok (.getfield 10, 3) := by decide +kernel
theorem dX3_near_60 : decode cX3_near 60 = .ok (.iload_n 1, 1) := by decide +kernel
theorem dX3_near_61 : decode cX3_near 61 = .ok (.iload_n 2, 1) := by decide +kernel
theorem dX3_near_62 : decode cX3_near 62 = .ok (.invokevirtual 101, 3) := by decide +kernel
theorem dX3_near_65 : decode cX3_near 65 = .ok (.astore 4, 2) := by decide +kernel
theorem dX3_near_67 : decode cX3_near 67 = .ok (.iload_n 3, 1) := by decide +kernel
theorem dX3_near_68 : decode cX3_near 68 = .ok (.aload 4, 2) := by decide +kernel
theorem dX3_near_70 : decode cX3_near 70 = .ok (.getfield 82, 3) := by decide +kernel
theorem dX3_near_73 : decode cX3_near 73 = .ok (.aload 4, 2) := by decide +kernel
theorem dX3_near_75 : decode cX3_near 75 = .ok (.getfield 86, 3) := by decide +kernel
theorem dX3_near_78 : decode cX3_near 78 = .ok (.invokestatic 46, 3) := by decide +kernel
theorem dX3_near_81 : decode cX3_near 81 = .ok (.ireturn, 1) := by decide +kernel
theorem dX3_between_0 : decode cX3_between 0 = .ok (.iload_n 1, 1) := by decide +kernel
theorem dX3_between_1 : decode cX3_between 1 = .ok (.iconst 0, 1) := by decide +kernel
theorem dX3_between_2 : decode cX3_between 2 = .ok (.sipush 5000, 3) := by decide +kernel
theorem dX3_between_5 : decode cX3_between 5 = .ok (.invokestatic 28, 3) := by decide +kernel
theorem dX3_between_8 : decode cX3_between 8 = .ok (.ifCond .eq 37, 3) := by decide +kernel
theorem dX3_between_11 : decode cX3_between 11 = .ok (.iload_n 2, 1) := by decide +kernel
theorem dX3_between_12 : decode cX3_between 12 = .ok (.iconst 1, 1) := by decide +kernel
theorem dX3_between_13 : decode cX3_between 13 = .ok (.sipush 5000, 3) := by decide +kernel
theorem dX3_between_16 : decode cX3_between 16 = .ok (.invokestatic 28, 3) := by decide +kernel
theorem dX3_between_19 : decode cX3_between 19 = .ok (.ifCond .eq 26, 3) := by decide +kernel
theorem dX3_between_22 : decode cX3_between 22 = .ok (.iload_n 3, 1) := by decide +kernel
theorem dX3_between_23 : decode cX3_between 23 = .ok (.iconst 0, 1) := by decide +kernel
theorem dX3_between_24 : decode cX3_between 24 = .ok (.sipush 5000, 3) := by decide +kernel
theorem dX3_between_27 : decode cX3_between 27 = .ok (.invokestatic 28, 3) := by decide +kernel
theorem dX3_between_30 : decode cX3_between 30 = .ok (.ifCond .eq 15, 3) := by decide +kernel
theorem dX3_between_33 : decode cX3_between 33 = .ok (.iload 4, 2) := by decide +kernel
theorem dX3_between_35 : decode cX3_between 35 = .ok (.iconst 1, 1) := by decide +kernel
theorem dX3_between_36 : decode cX3_between 36 = .ok (.sipush 5000, 3) := by decide +kernel
theorem dX3_between_39 : decode cX3_between 39 = .ok (.invokestatic 28, 3) := by decide +kernel
theorem dX3_between_42 : decode cX3_between 42 = .ok (.ifCond .ne 13, 3) := by decide +kernel
theorem dX3_between_45 : decode cX3_between 45 = .ok (.new 32, 3) := by decide +kernel
theorem dX3_between_48 : decode cX3_between 48 = .ok (.dup, 1) := by decide +kernel
theorem dX3_between_49 : decode cX3_between 49 = .ok (.ldc 105, 2) := by decide +kernel
theorem dX3_between_51 : decode cX3_between 51 = .ok (.invokespecial 36, 3) := by decide +kernel
theorem dX3_between_54 : decode cX3_between 54 = .ok (.athrow, 1) := by decide +kernel
theorem dX3_between_55 : decode cX3_between 55 = .ok (.iload_n 1, 1) := by decide +kernel
theorem dX3_between_56 : decode cX3_between 56 = .ok (.iload 4, 2) := by decide +kernel
theorem dX3_between_58 : decode cX3_between 58 = .ok (.imul, 1) := by decide +kernel
theorem dX3_between_59 : decode cX3_between 59 = .ok (.iload_n 3, 1) := by decide +kernel
theorem dX3_between_60 : decode cX3_between 60 = .ok (.iload_n 2, 1) := by decide +kernel
theorem dX3_between_61 : decode cX3_between 61 = .ok (.imul, 1) := by decide +kernel
theorem dX3_between_62 : decode cX3_between 62 = .ok (.if_icmp .lt 5, 3) := by decide +kernel
theorem dX3_between_65 : decode cX3_between 65 = .ok (.iconst 0, 1) := by decide +kernel
theorem dX3_between_66 : decode cX3_between 66 = .ok (.ireturn, 1) := by decide +kernel
theorem dX3_between_67 : decode cX3_between 67 = .ok (.aload_n 0, 1) := by decide +kernel
theorem dX3_between_68 : decode cX3_between 68 = .ok (.getfield 10, 3) := by decide +kernel
theorem dX3_between_71 : decode cX3_between 71 = .ok (.iload_n 1, 1) := by decide +kernel
theorem dX3_between_72 : decode cX3_between 72 = .ok (.iload_n 2, 1) := by decide +kernel
theorem dX3_between_73 : decode cX3_between 73 = .ok (.iload_n 3, 1) := by decide +kernel
theorem dX3_between_74 : decode cX3_between 74 = .ok (.iload 4, 2) := by decide +kernel
theorem dX3_between_76 : decode cX3_between 76 = .ok (.invokevirtual 107, 3) := by decide +kernel
theorem dX3_between_79 : decode cX3_between 79 = .ok (.iconst 1, 1) := by decide +kernel
theorem dX3_between_80 : decode cX3_between 80 = .ok (.ireturn, 1) := by decide +kernel
set_option maxRecDepth 20000 in
theorem ggX3_row_X3_isWithin : GoodIn wsX3_row wsX3_isWithin := goodIn_r _ [5] (by decide +kernel) (by decide +kernel)
set_option maxRecDepth 20000 in
theorem gX3_row_X3_isWithin : GoodIn wsX3_row (va_wsS RX3 28 yX3_isWithin wsX3_isWithin) := goodIn_app (goodIn_of _ (by decide +kernel)) ggX3_row_X3_isWithin
set_option maxRecDepth 20000 in
theorem ggX3_row_X2_countAll : GoodIn wsX3_row wsX2_countAll := goodIn_r _ [10, 11, 12, 13, 9, 14, 15, 16, 4, 17, 18, 21] (by decide +kernel) (by decide +kernel)
set_option maxRecDepth 20000 in
theorem gX3_row_X2_countAll : GoodIn wsX3_row (wsV RX3 111 RX2 yX2_countAll wsX2_countAll) := goodIn_app (goodIn_of _ (by decide +kernel)) ggX3_row_X2_countAll
theorem dX3_row_0 : decode cX3_row 0 = .ok (.iload_n 1, 1) := by decide +kernel
theorem dX3_row_1 : decode cX3_row 1 = .ok (.iconst 1, 1) := by decide +kernel
theorem dX3_row_2 : decode cX3_row 2 = .ok (.sipush 200, 3) := by decide +kernel
theorem dX3_row_5 : decode cX3_row 5 = .ok (.invokestatic 28, 3) := by decide +kernel
theorem dX3_row_8 : decode cX3_row 8 = .ok (.ifCond .eq 14, 3) := by decide +kernel
theorem dX3_row_11 : decode cX3_row 11 = .ok (.aload_n 0, 1) := by decide +kernel
theorem dX3_row_12 : decode cX3_row 12 = .ok (.getfield 19, 3) := by decide +kernel
theorem dX3_row_15 : decode cX3_row 15 = .ok (.iload_n 1, 1) := by decide +kernel
theorem dX3_row_16 : decode cX3_row 16 = .ok (.invokevirtual 111, 3) := by decide +kernel
theorem dX3_row_19 : decode cX3_row 19 = .ok (.goto 4, 3) := by decide +kernel
theorem dX3_row_22 : decode cX3_row 22 = .ok (.iconst (-1), 1) := by decide +kernel
theorem dX3_row_23 : decode cX3_row 23 = .ok (.ireturn, 1) := by decide +kernel
set_option maxRecDepth 20000 in
theorem ggX3_pick_X3_isWithin : GoodIn wsX3_pick wsX3_isWithin := goodIn_r _ [6] (by decide +kernel) (by decide +kernel)
set_option maxRecDepth 20000 in
theorem gX3_pick_X3_isWithin : GoodIn wsX3_pick (va_wsS RX3 28 yX3_isWithin wsX3_isWithin) := goodIn_app (goodIn_of _ (by decide +kernel)) ggX3_pick_X3_isWithin
set_option maxRecDepth 20000 in
theorem ggX3_pick_X2_countAll : GoodIn wsX3_pick wsX2_countAll := goodIn_r _ [11, 12, 13, 14, 10, 15, 16, 17, 5, 18, 19, 74] (by decide +kernel) (by decide +kernel)
set_option maxRecDepth 20000 in
theorem gX3_pick_X2_countAll : GoodIn wsX3_pick (wsV RX3 111 RX2 yX2_countAll wsX2_countAll) := goodIn_app (goodIn_of _ (by decide +kernel)) ggX3_pick_X2_countAll
set_option maxRecDepth 20000 in
theorem ggX3_pick_X2_columnOf : GoodIn wsX3_pick wsX2_columnOf := goodIn_r _ [23, 24, 25, 26, 10, 27, 28, 8, 9, 11, 12, 13, 14, 15, 16, 17, 5, 18, 19, 74] (by decide +kernel) (by decide +kernel)
set_option maxRecDepth 20000 in
theorem gX3_pick_X2_columnOf : GoodIn wsX3_pick (wsV RX3 114 RX2 yX2_columnOf wsX2_columnOf) := goodIn_app (goodIn_of _ (by decide +kernel)) ggX3_pick_X2_columnOf
set_option maxRecDepth 20000 in
theorem ggX3_pick_X0_expand : GoodIn wsX3_pick wsX0_expand := goodIn_r _ [33, 34, 35, 36, 32, 37, 38, 39, 40, 41, 42, 43, 44, 45, 46, 47, 48, 49, 50, 51, 52, 53, 54, 55, 56, 57, 58, 59, 60, 61, 75, 76, 77, 78] (by decide +kernel) (by decide +kernel)
set_option maxRecDepth 20000 in
theorem gX3_pick_X0_expand : GoodIn wsX3_pick (wsV RX3 23 RX0 yX0_expand wsX0_expand) := goodIn_app (goodIn_of _ (by decide +kernel)) ggX3_pick_X0_expand
set_option maxRecDepth 20000 in
theorem ggX3_pick_X2_countBelow : GoodIn wsX3_pick wsX2_countBelow := goodIn_r _ [27, 28, 8, 9, 10, 11, 12, 13, 14, 15, 16, 17, 5, 18, 19, 74] (by decide +kernel) (by decide +kernel)
set_option maxRecDepth 20000 in
theorem gX3_pick_X2_countBelow : GoodIn wsX3_pick (wsV RX3 118 RX2 yX2_countBelow wsX2_countBelow) := goodIn_app (goodIn_of _ (by decide +kernel)) ggX3_pick_X2_countBelow
set_option maxRecDepth 20000 in
theorem ggX3_pick_X3_stepOn : GoodIn wsX3_pick wsX3_stepOn := goodIn_r _ [66, 2, 67, 47, 48, 32, 49, 39, 38, 68, 55, 56, 57, 40, 69, 70, 10, 71, 29, 30, 31, 33, 34, 35, 36, 37, 41, 42, 43, 44, 45, 46, 50, 51, 52, 53, 54, 58, 59, 60, 61, 72, 73, 75, 76, 77, 78] (by decide +kernel) (by decide +kernel)
set_option maxRecDepth 20000 in
theorem gX3_pick_X3_stepOn : GoodIn wsX3_pick (wsV RX3 121 RX3 yX3_stepOn wsX3_stepOn) := goodIn_app (goodIn_of _ (by decide +kernel)) ggX3_pick_X3_stepOn
theorem dX3_pick_0 : decode cX3_pick 0 = .ok (.iload_n 1, 1) := by decide +kernel
theorem dX3_pick_1 : decode cX3_pick 1 = .ok (.iconst 1, 1) := by decide +kernel
theorem dX3_pick_2 : decode cX3_pick 2 = .ok (.sipush 200, 3) := by decide +kernel
theorem dX3_pick_5 : decode cX3_pick 5 = .ok (.invokestatic 28, 3) := by decide +kernel
theorem dX3_pick_8 : decode cX3_pick 8 = .ok (.ifCond .eq 19, 3) := by decide +kernel
theorem dX3_pick_11 : decode cX3_pick 11 = .ok (.iload_n 2, 1) := by decide +kernel
theorem dX3_pick_12 : decode cX3_pick 12 = .ok (.ifCond .lt 15, 3) := by decide +kernel
theorem dX3_pick_15 : decode cX3_pick 15 = .ok (.iload_n 2, 1) := by decide +kernel
theorem dX3_pick_16 : decode cX3_pick 16 = .ok (.aload_n 0, 1) := by decide +kernel
theorem dX3_pick_17 : decode cX3_pick 17 = .ok (.getfield 19, 3) := by decide +kernel
theorem dX3_pick_20 : decode cX3_pick 20 = .ok (.iload_n 1, 1) := by decide +kernel
theorem dX3_pick_21 : decode cX3_pick 21 = .ok (.invokevirtual 111, 3) := by decide +kernel
theorem dX3_pick_24 : decode cX3_pick 24 = .ok (.if_icmp .lt 5, 3) := by decide +kernel
theorem dX3_pick_27 : decode cX3_pick 27 = .ok (.iconst 0, 1) := by decide +kernel
theorem dX3_pick_28 : decode cX3_pick 28 = .ok (.ireturn, 1) := by decide +kernel
theorem dX3_pick_29 : decode cX3_pick 29 = .ok (.aload_n 0, 1) := by decide +kernel
theorem dX3_pick_30 : decode cX3_pick 30 = .ok (.getfield 19, 3) := by decide +kernel
theorem dX3_pick_33 : decode cX3_pick 33 = .ok (.iload_n 1, 1) := by decide +kernel
theorem dX3_pick_34 : decode cX3_pick 34 = .ok (.iload_n 2, 1) := by decide +kernel
theorem dX3_pick_35 : decode cX3_pick 35 = .ok (.invokevirtual 114, 3) := by decide +kernel
theorem dX3_pick_38 : decode cX3_pick 38 = .ok (.istore_n 3, 1) := by decide +kernel
theorem dX3_pick_39 : decode cX3_pick 39 = .ok (.aload_n 0, 1) := by decide +kernel
theorem dX3_pick_40 : decode cX3_pick 40 = .ok (.getfield 10, 3) := by decide +kernel
theorem dX3_pick_43 : decode cX3_pick 43 = .ok (.iload_n 3, 1) := by decide +kernel
theorem dX3_pick_44 : decode cX3_pick 44 = .ok (.iload_n 1, 1) := by decide +kernel
theorem dX3_pick_45 : decode cX3_pick 45 = .ok (.invokevirtual 23, 3) := by decide +kernel
theorem dX3_pick_48 : decode cX3_pick 48 = .ok (.aload_n 0, 1) := by decide +kernel
theorem dX3_pick_49 : decode cX3_pick 49 = .ok (.iload_n 1, 1) := by decide +kernel
theorem dX3_pick_50 : decode cX3_pick 50 = .ok (.iload_n 2, 1) := by decide +kernel
theorem dX3_pick_51 : decode cX3_pick 51 = .ok (.aload_n 0, 1) := by decide +kernel
theorem dX3_pick_52 : decode cX3_pick 52 = .ok (.getfield 19, 3) := by decide +kernel
theorem dX3_pick_55 : decode cX3_pick 55 = .ok (.iload_n 1, 1) := by decide +kernel
theorem dX3_pick_56 : decode cX3_pick 56 = .ok (.iload_n 3, 1) := by decide +kernel
theorem dX3_pick_57 : decode cX3_pick 57 = .ok (.iload_n 1, 1) := by decide +kernel
theorem dX3_pick_58 : decode cX3_pick 58 = .ok (.invokevirtual 118, 3) := by decide +kernel
theorem dX3_pick_61 : decode cX3_pick 61 = .ok (.isub, 1) := by decide +kernel
theorem dX3_pick_62 : decode cX3_pick 62 = .ok (.invokevirtual 121, 3) := by decide +kernel
theorem dX3_pick_65 : decode cX3_pick 65 = .ok (.iconst 1, 1) := by decide +kernel
theorem dX3_pick_66 : decode cX3_pick 66 = .ok (.ireturn, 1) := by decide +kernel
set_option maxRecDepth 20000 in
theorem ggX3_place_X3_isWithin : GoodIn wsX3_place wsX3_isWithin := goodIn_r _ [6] (by decide +kernel) (by decide +kernel)
set_option maxRecDepth 20000 in
theorem gX3_place_X3_isWithin : GoodIn wsX3_place (va_wsS RX3 28 yX3_isWithin wsX3_isWithin) := goodIn_app (goodIn_of _ (by decide +kernel)) ggX3_place_X3_isWithin
set_option maxRecDepth 20000 in
theorem ggX3_place_X0_top : GoodIn wsX3_place wsX0_top := goodIn_r _ [11, 12, 13, 38, 39, 40, 41] (by decide +kernel) (by decide +kernel)
set_option maxRecDepth 20000 in
theorem gX3_place_X0_top : GoodIn wsX3_place (wsV RX3 39 RX0 yX0_top wsX0_top) := goodIn_app (goodIn_of _ (by decide +kernel)) ggX3_place_X0_top
set_option maxRecDepth 20000 in
theorem ggX3_place_X0_bottom : GoodIn wsX3_place wsX0_bottom := goodIn_r _ [17, 18, 13, 38, 39, 40, 41] (by decide +kernel) (by decide +kernel)
set_option maxRecDepth 20000 in
theorem gX3_place_X0_bottom : GoodIn wsX3_place (wsV RX3 43 RX0 yX0_bottom wsX0_bottom) := goodIn_app (goodIn_of _ (by decide +kernel)) ggX3_place_X0_bottom
set_option maxRecDepth 20000 in
theorem ggX3_place_X2_countBelow : GoodIn wsX3_place wsX2_countBelow := goodIn_r _ [23, 24, 25, 26, 22, 27, 28, 29, 30, 31, 32, 33, 5, 34, 35, 42] (by decide +kernel) (by decide +kernel)
set_option maxRecDepth 20000 in
theorem gX3_place_X2_countBelow : GoodIn wsX3_place (wsV RX3 118 RX2 yX2_countBelow wsX2_countBelow) := goodIn_app (goodIn_of _ (by decide +kernel)) ggX3_place_X2_countBelow
theorem dX3_place_0 : decode cX3_place 0 = .ok (.iload_n 1, 1) := by decide +kernel
theorem dX3_place_1 : decode cX3_place 1 = .ok (.iconst 1, 1) := by decide +kernel
theorem dX3_place_2 : decode cX3_place 2 = .ok (.sipush 200, 3) := by decide +kernel
theorem dX3_place_5 : decode cX3_place 5 = .ok (.invokestatic 28, 3) := by decide +kernel
theorem dX3_place_8 : decode cX3_place 8 = .ok (.ifCond .eq 28, 3) := by decide +kernel
theorem dX3_place_11 : decode cX3_place 11 = .ok (.aload_n 0, 1) := by decide +kernel
theorem dX3_place_12 : decode cX3_place 12 = .ok (.getfield 19, 3) := by decide +kernel
theorem dX3_place_15 : decode cX3_place 15 = .ok (.iload_n 1, 1) := by decide +kernel
theorem dX3_place_16 : decode cX3_place 16 = .ok (.aload_n 0, 1) := by decide +kernel
theorem dX3_place_17 : decode cX3_place 17 = .ok (.getfield 10, 3) := by decide +kernel
theorem dX3_place_20 : decode cX3_place 20 = .ok (.invokevirtual 39, 3) := by decide +kernel
theorem dX3_place_23 : decode cX3_place 23 = .ok (.aload_n 0, 1) := by decide +kernel
theorem dX3_place_24 : decode cX3_place 24 = .ok (.getfield 10, 3) := by decide +kernel
theorem dX3_place_27 : decode cX3_place 27 = .ok (.invokevirtual 43, 3) := by decide +kernel
theorem dX3_place_30 : decode cX3_place 30 = .ok (.invokevirtual 118, 3) := by decide +kernel
theorem dX3_place_33 : decode cX3_place 33 = .ok (.goto 4, 3) := by decide +kernel
theorem dX3_place_36 : decode cX3_place 36 = .ok (.iconst (-1), 1) := by decide +kernel
theorem dX3_place_37 : decode cX3_place 37 = .ok (.ireturn, 1) := by decide +kernel
set_option maxRecDepth 20000 in
theorem ggX3_floors_X3_isWithin : GoodIn wsX3_floors wsX3_isWithin := goodIn_r _ [7] (by decide +kernel) (by decide +kernel)
set_option maxRecDepth 20000 in
theorem gX3_floors_X3_isWithin : GoodIn wsX3_floors (va_wsS RX3 28 yX3_isWithin wsX3_isWithin) := goodIn_app (goodIn_of _ (by decide +kernel)) ggX3_floors_X3_isWithin
set_option maxRecDepth 20000 in
theorem ggX3_floors_X0_top : GoodIn wsX3_floors wsX0_top := goodIn_r _ [12, 13, 14, 26, 27, 28, 29] (by decide +kernel) (by decide +kernel)
set_option maxRecDepth 20000 in
theorem gX3_floors_X0_top : GoodIn wsX3_floors (wsV RX3 39 RX0 yX0_top wsX0_top) := goodIn_app (goodIn_of _ (by decide +kernel)) ggX3_floors_X0_top
set_option maxRecDepth 20000 in
theorem ggX3_floors_X0_bottom : GoodIn wsX3_floors wsX0_bottom := goodIn_r _ [18, 19, 14, 26, 27, 28, 29] (by decide +kernel) (by decide +kernel)
set_option maxRecDepth 20000 in
theorem gX3_floors_X0_bottom : GoodIn wsX3_floors (wsV RX3 43 RX0 yX0_bottom wsX0_bottom) := goodIn_app (goodIn_of _ (by decide +kernel)) ggX3_floors_X0_bottom
set_option maxRecDepth 20000 in
theorem ggX3_floors_X3_sumOfFloors : GoodIn wsX3_floors wsX3_sumOfFloors := goodIn_r _ [22, 23] (by decide +kernel) (by decide +kernel)
set_option maxRecDepth 20000 in
theorem gX3_floors_X3_sumOfFloors : GoodIn wsX3_floors (va_wsS RX3 124 yX3_sumOfFloors wsX3_sumOfFloors) := goodIn_app (goodIn_of _ (by decide +kernel)) ggX3_floors_X3_sumOfFloors
theorem dX3_floors_0 : decode cX3_floors 0 = .ok (.iload_n 1, 1) := by decide +kernel
theorem dX3_floors_1 : decode cX3_floors 1 = .ok (.iconst 0, 1) := by decide +kernel
theorem dX3_floors_2 : decode cX3_floors 2 = .ok (.ldc 27, 2) := by decide +kernel
theorem dX3_floors_4 : decode cX3_floors 4 = .ok (.invokestatic 28, 3) := by decide +kernel
theorem dX3_floors_7 : decode cX3_floors 7 = .ok (.ifCond .eq 28, 3) := by decide +kernel
theorem dX3_floors_10 : decode cX3_floors 10 = .ok (.iload_n 1, 1) := by decide +kernel
theorem dX3_floors_11 : decode cX3_floors 11 = .ok (.i2l, 1) := by decide +kernel
theorem dX3_floors_12 : decode cX3_floors 12 = .ok (.aload_n 0, 1) := by decide +kernel
theorem dX3_floors_13 : decode cX3_floors 13 = .ok (.getfield 10, 3) := by decide +kernel
theorem dX3_floors_16 : decode cX3_floors 16 = .ok (.invokevirtual 39, 3) := by decide +kernel
theorem dX3_floors_19 : decode cX3_floors 19 = .ok (.i2l, 1) := by decide +kernel
theorem dX3_floors_20 : decode cX3_floors 20 = .ok (.lconst 0, 1) := by decide +kernel
theorem dX3_floors_21 : decode cX3_floors 21 = .ok (.aload_n 0, 1) := by decide +kernel
theorem dX3_floors_22 : decode cX3_floors 22 = .ok (.getfield 10, 3) := by decide +kernel
theorem dX3_floors_25 : decode cX3_floors 25 = .ok (.invokevirtual 43, 3) := by decide +kernel
theorem dX3_floors_28 : decode cX3_floors 28 = .ok (.i2l, 1) := by decide +kernel
theorem dX3_floors_29 : decode cX3_floors 29 = .ok (.invokestatic 124, 3) := by decide +kernel
theorem dX3_floors_32 : decode cX3_floors 32 = .ok (.goto 6, 3) := by decide +kernel
theorem dX3_floors_35 : decode cX3_floors 35 = .ok (.ldc2_w 128, 3) := by decide +kernel
theorem dX3_floors_38 : decode cX3_floors 38 = .ok (.lreturn, 1) := by decide +kernel
set_option maxRecDepth 20000 in
theorem ggX3_sawteeth_X0_bottom : GoodIn wsX3_sawteeth wsX0_bottom := goodIn_r _ [10, 11, 12, 24, 25, 26, 27] (by decide +kernel) (by decide +kernel)
set_option maxRecDepth 20000 in
theorem gX3_sawteeth_X0_bottom : GoodIn wsX3_sawteeth (wsV RX3 43 RX0 yX0_bottom wsX0_bottom) := goodIn_app (goodIn_of _ (by decide +kernel)) ggX3_sawteeth_X0_bottom
set_option maxRecDepth 20000 in
theorem ggX3_sawteeth_X0_top : GoodIn wsX3_sawteeth wsX0_top := goodIn_r _ [16, 17, 12, 24, 25, 26, 27] (by decide +kernel) (by decide +kernel)
set_option maxRecDepth 20000 in
theorem gX3_sawteeth_X0_top : GoodIn wsX3_sawteeth (wsV RX3 39 RX0 yX0_top wsX0_top) := goodIn_app (goodIn_of _ (by decide +kernel)) ggX3_sawteeth_X0_top
set_option maxRecDepth 20000 in
theorem ggX3_sawteeth_X0_bottomBefore : GoodIn wsX3_sawteeth wsX0_bottomBefore := goodIn_r _ [21, 12, 11, 24, 25, 26, 27] (by decide +kernel) (by decide +kernel)
set_option maxRecDepth 20000 in
theorem gX3_sawteeth_X0_bottomBefore : GoodIn wsX3_sawteeth (wsV RX3 93 RX0 yX0_bottomBefore wsX0_bottomBefore) := goodIn_app (goodIn_of _ (by decide +kernel)) ggX3_sawteeth_X0_bottomBefore
theorem dX3_sawteeth_0 : decode cX3_sawteeth 0 = .ok (.aload_n 0, 1) := by decide +kernel
theorem dX3_sawteeth_1 : decode cX3_sawteeth 1 = .ok (.getfield 10, 3) := by decide +kernel
theorem dX3_sawteeth_4 : decode cX3_sawteeth 4 = .ok (.getfield 50, 3) := by decide +kernel
theorem dX3_sawteeth_7 : decode cX3_sawteeth 7 = .ok (.iconst 1, 1) := by decide +kernel
theorem dX3_sawteeth_8 : decode cX3_sawteeth 8 = .ok (.isub, 1) := by decide +kernel
theorem dX3_sawteeth_9 : decode cX3_sawteeth 9 = .ok (.istore_n 1, 1) := by decide +kernel
theorem dX3_sawteeth_10 : decode cX3_sawteeth 10 = .ok (.lconst 0, 1) := by decide +kernel
theorem dX3_sawteeth_11 : decode cX3_sawteeth 11 = .ok (.lstore_n 2, 1) := by decide +kernel
theorem dX3_sawteeth_12 : decode cX3_sawteeth 12 = .ok (.iconst 1, 1) := by decide +kernel
theorem dX3_sawteeth_13 : decode cX3_sawteeth 13 = .ok (.istore 4, 2) := by decide +kernel
theorem dX3_sawteeth_15 : decode cX3_sawteeth 15 = .ok (.iload 4, 2) := by decide +kernel
theorem dX3_sawteeth_17 : decode cX3_sawteeth 17 = .ok (.iload_n 1, 1) := by decide +kernel
theorem dX3_sawteeth_18 : decode cX3_sawteeth 18 = .ok (.if_icmp .gt 46, 3) := by decide +kernel
theorem dX3_sawteeth_21 : decode cX3_sawteeth 21 = .ok (.lload_n 2, 1) := by decide +kernel
theorem dX3_sawteeth_22 : decode cX3_sawteeth 22 = .ok (.iload 4, 2) := by decide +kernel
theorem dX3_sawteeth_24 : decode cX3_sawteeth 24 = .ok (.iconst 2, 1) := by decide +kernel
theorem dX3_sawteeth_25 : decode cX3_sawteeth 25 = .ok (.irem, 1) := by decide +kernel
theorem dX3_sawteeth_26 : decode cX3_sawteeth 26 = .ok (.iconst 1, 1) := by decide +kernel
theorem dX3_sawteeth_27 : decode cX3_sawteeth 27 = .ok (.if_icmp .ne 17, 3) := by decide +kernel
theorem dX3_sawteeth_30 : decode cX3_sawteeth 30 = .ok (.aload_n 0, 1) := by decide +kernel
theorem dX3_sawteeth_31 : decode cX3_sawteeth 31 = .ok (.getfield 10, 3) := by decide +kernel
theorem dX3_sawteeth_34 : decode cX3_sawteeth 34 = .ok (.getfield 58, 3) := by decide +kernel
theorem dX3_sawteeth_37 : decode cX3_sawteeth 37 = .ok (.iload 4, 2) := by decide +kernel
theorem dX3_sawteeth_39 : decode cX3_sawteeth 39 = .ok (.iaload, 1) := by decide +kernel
theorem dX3_sawteeth_40 : decode cX3_sawteeth 40 = .ok (.i2l, 1) := by decide +kernel
theorem dX3_sawteeth_41 : decode cX3_sawteeth 41 = .ok (.goto 15, 3) := by decide +kernel
theorem dX3_sawteeth_44 : decode cX3_sawteeth 44 = .ok (.aload_n 0, 1) := by decide +kernel
theorem dX3_sawteeth_45 : decode cX3_sawteeth 45 = .ok (.getfield 10, 3) := by decide +kernel
theorem dX3_sawteeth_48 : decode cX3_sawteeth 48 = .ok (.getfield 58, 3) := by decide +kernel
theorem dX3_sawteeth_51 : decode cX3_sawteeth 51 = .ok (.iload 4, 2) := by decide +kernel
theorem dX3_sawteeth_53 : decode cX3_sawteeth 53 = .ok (.iaload, 1) := by decide +kernel
theorem dX3_sawteeth_54 : decode cX3_sawteeth 54 = .ok (.ineg, 1) := by decide +kernel
theorem dX3_sawteeth_55 : decode cX3_sawteeth 55 = .ok (.i2l, 1) := by decide +kernel
theorem dX3_sawteeth_56 : decode cX3_sawteeth 56 = .ok (.ladd, 1) := by decide +kernel
theorem dX3_sawteeth_57 : decode cX3_sawteeth 57 = .ok (.lstore_n 2, 1) := by decide +kernel
theorem dX3_sawteeth_58 : decode cX3_sawteeth 58 = .ok (.iinc 4 1, 3) := by decide +kernel
theorem dX3_sawteeth_61 : decode cX3_sawteeth 61 = .ok (.goto (-46), 3) := by decide +kernel
theorem dX3_sawteeth_64 : decode cX3_sawteeth 64 = .ok (.aload_n 0, 1) := by decide +kernel
theorem dX3_sawteeth_65 : decode cX3_sawteeth 65 = .ok (.getfield 10, 3) := by decide +kernel
theorem dX3_sawteeth_68 : decode cX3_sawteeth 68 = .ok (.invokevirtual 43, 3) := by decide +kernel
theorem dX3_sawteeth_71 : decode cX3_sawteeth 71 = .ok (.i2l, 1) := by decide +kernel
theorem dX3_sawteeth_72 : decode cX3_sawteeth 72 = .ok (.lstore 4, 2) := by decide +kernel
theorem dX3_sawteeth_74 : decode cX3_sawteeth 74 = .ok (.aload_n 0, 1) := by decide +kernel
theorem dX3_sawteeth_75 : decode cX3_sawteeth 75 = .ok (.getfield 10, 3) := by decide +kernel
theorem dX3_sawteeth_78 : decode cX3_sawteeth 78 = .ok (.invokevirtual 39, 3) := by decide +kernel
theorem dX3_sawteeth_81 : decode cX3_sawteeth 81 = .ok (.i2l, 1) := by decide +kernel
theorem dX3_sawteeth_82 : decode cX3_sawteeth 82 = .ok (.aload_n 0, 1) := by decide +kernel
theorem dX3_sawteeth_83 : decode cX3_sawteeth 83 = .ok (.getfield 10, 3) := by decide +kernel
theorem dX3_sawteeth_86 : decode cX3_sawteeth 86 = .ok (.getfield 58, 3) := by decide +kernel
theorem dX3_sawteeth_89 : decode cX3_sawteeth 89 = .ok (.iconst 0, 1) := by decide +kernel
theorem dX3_sawteeth_90 : decode cX3_sawteeth 90 = .ok (.iaload, 1) := by decide +kernel
theorem dX3_sawteeth_91 : decode cX3_sawteeth 91 = .ok (.i2l, 1) := by decide +kernel
theorem dX3_sawteeth_92 : decode cX3_sawteeth 92 = .ok (.lload 4, 2) := by decide +kernel
theorem dX3_sawteeth_94 : decode cX3_sawteeth 94 = .ok (.lmul, 1) := by decide +kernel
theorem dX3_sawteeth_95 : decode cX3_sawteeth 95 = .ok (.lsub, 1) := by decide +kernel
theorem dX3_sawteeth_96 : decode cX3_sawteeth 96 = .ok (.lstore 6, 2) := by decide +kernel
theorem dX3_sawteeth_98 : decode cX3_sawteeth 98 = .ok (.aload_n 0, 1) := by decide +kernel
theorem dX3_sawteeth_99 : decode cX3_sawteeth 99 = .ok (.getfield 10, 3) := by decide +kernel
theorem dX3_sawteeth_102 : decode cX3_sawteeth 102 = .ok (.invokevirtual 93, 3) := by decide +kernel
theorem dX3_sawteeth_105 : decode cX3_sawteeth 105 = .ok (.i2l, 1) := by decide +kernel
theorem dX3_sawteeth_106 : decode cX3_sawteeth 106 = .ok (.lstore 8, 2) := by decide +kernel
theorem dX3_sawteeth_108 : decode cX3_sawteeth 108 = .ok (.iload_n 1, 1) := by decide +kernel
theorem dX3_sawteeth_109 : decode cX3_sawteeth 109 = .ok (.iconst 2, 1) := by decide +kernel
theorem dX3_sawteeth_110 : decode cX3_sawteeth 110 = .ok (.irem, 1) := by decide +kernel
theorem dX3_sawteeth_111 : decode cX3_sawteeth 111 = .ok (.iconst 1, 1) := by decide +kernel
theorem dX3_sawteeth_112 : decode cX3_sawteeth 112 = .ok (.if_icmp .ne 15, 3) := by decide +kernel
theorem dX3_sawteeth_115 : decode cX3_sawteeth 115 = .ok (.lload 8, 2) := by decide +kernel
theorem dX3_sawteeth_117 : decode cX3_sawteeth 117 = .ok (.ldc2_w 130, 3) := by decide +kernel
theorem dX3_sawteeth_120 : decode cX3_sawteeth 120 = .ok (.lload 4, 2) := by decide +kernel
theorem dX3_sawteeth_122 : decode cX3_sawteeth 122 = .ok (.lmul, 1) := by decide +kernel
theorem dX3_sawteeth_123 : decode cX3_sawteeth 123 = .ok (.lsub, 1) := by decide +kernel
theorem dX3_sawteeth_124 : decode cX3_sawteeth 124 = .ok (.goto 6, 3) := by decide +kernel
theorem dX3_sawteeth_127 : decode cX3_sawteeth 127 = .ok (.lload 8, 2) := by decide +kernel
theorem dX3_sawteeth_129 : decode cX3_sawteeth 129 = .ok (.lneg, 1) := by decide +kernel
theorem dX3_sawteeth_130 : decode cX3_sawteeth 130 = .ok (.lstore 10, 2) := by decide +kernel
theorem dX3_sawteeth_132 : decode cX3_sawteeth 132 = .ok (.lload 6, 2) := by decide +kernel
theorem dX3_sawteeth_134 : decode cX3_sawteeth 134 = .ok (.lload 4, 2) := by decide +kernel
theorem dX3_sawteeth_136 : decode cX3_sawteeth 136 = .ok (.lload_n 2, 1) := by decide +kernel
theorem dX3_sawteeth_137 : decode cX3_sawteeth 137 = .ok (.lmul, 1) := by decide +kernel
theorem dX3_sawteeth_138 : decode cX3_sawteeth 138 = .ok (.ladd, 1) := by decide +kernel
theorem dX3_sawteeth_139 : decode cX3_sawteeth 139 = .ok (.lload 10, 2) := by decide +kernel
theorem dX3_sawteeth_141 : decode cX3_sawteeth 141 = .ok (.ladd, 1) := by decide +kernel
theorem dX3_sawteeth_142 : decode cX3_sawteeth 142 = .ok (.ldc2_w 132, 3) := by decide +kernel
theorem dX3_sawteeth_145 : decode cX3_sawteeth 145 = .ok (.ldiv, 1) := by decide +kernel
theorem dX3_sawteeth_146 : decode cX3_sawteeth 146 = .ok (.lreturn, 1) := by decide +kernel
set_option maxRecDepth 20000 in
theorem ggX3_check_X0_termsMakeIt : GoodIn wsX3_check wsX0_termsMakeIt := goodIn_r _ [6, 7, 8, 9, 10, 11, 5, 12, 13, 14, 15, 16, 17, 18, 42, 43, 44, 45] (by decide +kernel) (by decide +kernel)
set_option maxRecDepth 20000 in
theorem gX3_check_X0_termsMakeIt : GoodIn wsX3_check (wsV RX3 134 RX0 yX0_termsMakeIt wsX0_termsMakeIt) := goodIn_app (goodIn_of _ (by decide +kernel)) ggX3_check_X0_termsMakeIt
set_option maxRecDepth 20000 in
theorem ggX3_check_X0_convergentsAreClose : GoodIn wsX3_check wsX0_convergentsAreClose := goodIn_r _ [22, 7, 13, 18, 23, 42, 43, 44, 45] (by decide +kernel) (by decide +kernel)
set_option maxRecDepth 20000 in
theorem gX3_check_X0_convergentsAreClose : GoodIn wsX3_check (wsV RX3 138 RX0 yX0_convergentsAreClose wsX0_convergentsAreClose) := goodIn_app (goodIn_of _ (by decide +kernel)) ggX3_check_X0_convergentsAreClose
set_option maxRecDepth 20000 in
theorem ggX3_check_X0_wayLeadsToIt : GoodIn wsX3_check wsX0_wayLeadsToIt := goodIn_r _ [27, 9, 10, 11, 5, 12, 13, 7, 28, 29, 30, 31, 14, 15, 16, 17, 18, 32, 33, 34, 35, 8, 36, 37, 38, 39, 42, 43, 44, 45] (by decide +kernel) (by decide +kernel)
set_option maxRecDepth 20000 in
theorem gX3_check_X0_wayLeadsToIt : GoodIn wsX3_check (wsV RX3 141 RX0 yX0_wayLeadsToIt wsX0_wayLeadsToIt) := goodIn_app (goodIn_of _ (by decide +kernel)) ggX3_check_X0_wayLeadsToIt
theorem dX3_check_0 : decode cX3_check 0 = .ok (.aload_n 0, 1) := by decide +kernel
theorem dX3_check_1 : decode cX3_check 1 = .ok (.getfield 10, 3) := by decide +kernel
theorem dX3_check_4 : decode cX3_check 4 = .ok (.invokevirtual 134, 3) := by decide +kernel
theorem dX3_check_7 : decode cX3_check 7 = .ok (.ifCond .eq 27, 3) := by decide +kernel
theorem dX3_check_10 : decode cX3_check 10 = .ok (.aload_n 0, 1) := by decide +kernel
theorem dX3_check_11 : decode cX3_check 11 = .ok (.getfield 10, 3) := by decide +kernel
theorem dX3_check_14 : decode cX3_check 14 = .ok (.invokevirtual 138, 3) := by decide +kernel
theorem dX3_check_17 : decode cX3_check 17 = .ok (.ifCond .eq 17, 3) := by decide +kernel
theorem dX3_check_20 : decode cX3_check 20 = .ok (.aload_n 0, 1) := by decide +kernel
theorem dX3_check_21 : decode cX3_check 21 = .ok (.getfield 10, 3) := by decide +kernel
theorem dX3_check_24 : decode cX3_check 24 = .ok (.invokevirtual 141, 3) := by decide +kernel
theorem dX3_check_27 : decode cX3_check 27 = .ok (.ifCond .eq 7, 3) := by decide +kernel
theorem dX3_check_30 : decode cX3_check 30 = .ok (.iconst 1, 1) := by decide +kernel
theorem dX3_check_31 : decode cX3_check 31 = .ok (.goto 4, 3) := by decide +kernel
theorem dX3_check_34 : decode cX3_check 34 = .ok (.iconst 0, 1) := by decide +kernel
theorem dX3_check_35 : decode cX3_check 35 = .ok (.ireturn, 1) := by decide +kernel
theorem dX3_isWithin_0 : decode cX3_isWithin 0 = .ok (.iload_n 0, 1) := by decide +kernel
theorem dX3_isWithin_1 : decode cX3_isWithin 1 = .ok (.iload_n 1, 1) := by decide +kernel
theorem dX3_isWithin_2 : decode cX3_isWithin 2 = .ok (.if_icmp .lt 12, 3) := by decide +kernel
theorem dX3_isWithin_5 : decode cX3_isWithin 5 = .ok (.iload_n 0, 1) := by decide +kernel
theorem dX3_isWithin_6 : decode cX3_isWithin 6 = .ok (.iload_n 2, 1) := by decide +kernel
theorem dX3_isWithin_7 : decode cX3_isWithin 7 = .ok (.if_icmp .gt 7, 3) := by decide +kernel
theorem dX3_isWithin_10 : decode cX3_isWithin 10 = .ok (.iconst 1, 1) := by decide +kernel
theorem dX3_isWithin_11 : decode cX3_isWithin 11 = .ok (.goto 4, 3) := by decide +kernel
theorem dX3_isWithin_14 : decode cX3_isWithin 14 = .ok (.iconst 0, 1) := by decide +kernel
theorem dX3_isWithin_15 : decode cX3_isWithin 15 = .ok (.ireturn, 1) := by decide +kernel
theorem dX3_topOrBottom_0 : decode cX3_topOrBottom 0 = .ok (.iload_n 0, 1) := by decide +kernel
theorem dX3_topOrBottom_1 : decode cX3_topOrBottom 1 = .ok (.ifCond .ne 5, 3) := by decide +kernel
theorem dX3_topOrBottom_4 : decode cX3_topOrBottom 4 = .ok (.iload_n 1, 1) := by decide +kernel
theorem dX3_topOrBottom_5 : decode cX3_topOrBottom 5 = .ok (.ireturn, 1) := by decide +kernel
theorem dX3_topOrBottom_6 : decode cX3_topOrBottom 6 = .ok (.iload_n 0, 1) := by decide +kernel
theorem dX3_topOrBottom_7 : decode cX3_topOrBottom 7 = .ok (.iconst 1, 1) := by decide +kernel
theorem dX3_topOrBottom_8 : decode cX3_topOrBottom 8 = .ok (.if_icmp .ne 7, 3) := by decide +kernel
theorem dX3_topOrBottom_11 : decode cX3_topOrBottom 11 = .ok (.iload_n 2, 1) := by decide +kernel
theorem dX3_topOrBottom_12 : decode cX3_topOrBottom 12 = .ok (.goto 4, 3) := by decide +kernel
theorem dX3_topOrBottom_15 : decode cX3_topOrBottom 15 = .ok (.iconst (-1), 1) := by decide +kernel
theorem dX3_topOrBottom_16 : decode cX3_topOrBottom 16 = .ok (.ireturn, 1) := by decide +kernel
theorem dX3_isTerm_0 : decode cX3_isTerm 0 = .ok (.iload_n 1, 1) := by decide +kernel
theorem dX3_isTerm_1 : decode cX3_isTerm 1 = .ok (.ifCond .lt 18, 3) := by decide +kernel
theorem dX3_isTerm_4 : decode cX3_isTerm 4 = .ok (.iload_n 1, 1) := by decide +kernel
theorem dX3_isTerm_5 : decode cX3_isTerm 5 = .ok (.aload_n 0, 1) := by decide +kernel
theorem dX3_isTerm_6 : decode cX3_isTerm 6 = .ok (.getfield 10, 3) := by decide +kernel
theorem dX3_isTerm_9 : decode cX3_isTerm 9 = .ok (.getfield 50, 3) := by decide +kernel
theorem dX3_isTerm_12 : decode cX3_isTerm 12 = .ok (.if_icmp .ge 7, 3) := by decide +kernel
theorem dX3_isTerm_15 : decode cX3_isTerm 15 = .ok (.iconst 1, 1) := by decide +kernel
theorem dX3_isTerm_16 : decode cX3_isTerm 16 = .ok (.goto 4, 3) := by decide +kernel
theorem dX3_isTerm_19 : decode cX3_isTerm 19 = .ok (.iconst 0, 1) := by decide +kernel
theorem dX3_isTerm_20 : decode cX3_isTerm 20 = .ok (.ireturn, 1) := by decide +kernel
set_option maxRecDepth 20000 in
theorem ggX3_stepOn_X0_top : GoodIn wsX3_stepOn wsX0_top := goodIn_r _ [6, 7, 8, 43, 44, 45, 46] (by decide +kernel) (by decide +kernel)
set_option maxRecDepth 20000 in
theorem gX3_stepOn_X0_top : GoodIn wsX3_stepOn (wsV RX3 39 RX0 yX0_top wsX0_top) := goodIn_app (goodIn_of _ (by decide +kernel)) ggX3_stepOn_X0_top
set_option maxRecDepth 20000 in
theorem ggX3_stepOn_X0_bottom : GoodIn wsX3_stepOn wsX0_bottom := goodIn_r _ [12, 13, 8, 43, 44, 45, 46] (by decide +kernel) (by decide +kernel)
set_option maxRecDepth 20000 in
theorem gX3_stepOn_X0_bottom : GoodIn wsX3_stepOn (wsV RX3 43 RX0 yX0_bottom wsX0_bottom) := goodIn_app (goodIn_of _ (by decide +kernel)) ggX3_stepOn_X0_bottom
set_option maxRecDepth 20000 in
theorem ggX3_stepOn_X2_bottomBehind : GoodIn wsX3_stepOn wsX2_bottomBehind := goodIn_r _ [17] (by decide +kernel) (by decide +kernel)
set_option maxRecDepth 20000 in
theorem gX3_stepOn_X2_bottomBehind : GoodIn wsX3_stepOn (va_wsS RX3 144 yX2_bottomBehind wsX2_bottomBehind) := goodIn_app (goodIn_of _ (by decide +kernel)) ggX3_stepOn_X2_bottomBehind
set_option maxRecDepth 20000 in
theorem ggX3_stepOn_X0_expand : GoodIn wsX3_stepOn wsX0_expand := goodIn_r _ [21, 22, 23, 24, 5, 25, 8, 7, 13, 26, 27, 28, 29, 30, 31, 3, 4, 6, 32, 33, 34, 35, 36, 10, 11, 12, 37, 38, 39, 40, 43, 44, 45, 46] (by decide +kernel) (by decide +kernel)
set_option maxRecDepth 20000 in
theorem gX3_stepOn_X0_expand : GoodIn wsX3_stepOn (wsV RX3 23 RX0 yX0_expand wsX0_expand) := goodIn_app (goodIn_of _ (by decide +kernel)) ggX3_stepOn_X0_expand
theorem dX3_stepOn_0 : decode cX3_stepOn 0 = .ok (.aload_n 0, 1) := by decide +kernel
theorem dX3_stepOn_1 : decode cX3_stepOn 1 = .ok (.getfield 10, 3) := by decide +kernel
theorem dX3_stepOn_4 : decode cX3_stepOn 4 = .ok (.invokevirtual 39, 3) := by decide +kernel
theorem dX3_stepOn_7 : decode cX3_stepOn 7 = .ok (.istore_n 3, 1) := by decide +kernel
theorem dX3_stepOn_8 : decode cX3_stepOn 8 = .ok (.aload_n 0, 1) := by decide +kernel
theorem dX3_stepOn_9 : decode cX3_stepOn 9 = .ok (.getfield 10, 3) := by decide +kernel
theorem dX3_stepOn_12 : decode cX3_stepOn 12 = .ok (.invokevirtual 43, 3) := by decide +kernel
theorem dX3_stepOn_15 : decode cX3_stepOn 15 = .ok (.istore 4, 2) := by decide +kernel
theorem dX3_stepOn_17 : decode cX3_stepOn 17 = .ok (.iload_n 1, 1) := by decide +kernel
theorem dX3_stepOn_18 : decode cX3_stepOn 18 = .ok (.iload_n 3, 1) := by decide +kernel
theorem dX3_stepOn_19 : decode cX3_stepOn 19 = .ok (.iload 4, 2) := by decide +kernel
theorem dX3_stepOn_21 : decode cX3_stepOn 21 = .ok (.invokestatic 144, 3) := by decide +kernel
theorem dX3_stepOn_24 : decode cX3_stepOn 24 = .ok (.istore 5, 2) := by decide +kernel
theorem dX3_stepOn_26 : decode cX3_stepOn 26 = .ok (.iload_n 3, 1) := by decide +kernel
theorem dX3_stepOn_27 : decode cX3_stepOn 27 = .ok (.iload 5, 2) := by decide +kernel
theorem dX3_stepOn_29 : decode cX3_stepOn 29 = .ok (.imul, 1) := by decide +kernel
theorem dX3_stepOn_30 : decode cX3_stepOn 30 = .ok (.iconst 1, 1) := by decide +kernel
theorem dX3_stepOn_31 : decode cX3_stepOn 31 = .ok (.iadd, 1) := by decide +kernel
theorem dX3_stepOn_32 : decode cX3_stepOn 32 = .ok (.iload 4, 2) := by decide +kernel
theorem dX3_stepOn_34 : decode cX3_stepOn 34 = .ok (.idiv, 1) := by decide +kernel
theorem dX3_stepOn_35 : decode cX3_stepOn 35 = .ok (.istore 6, 2) := by decide +kernel
theorem dX3_stepOn_37 : decode cX3_stepOn 37 = .ok (.iconst 0, 1) := by decide +kernel
theorem dX3_stepOn_38 : decode cX3_stepOn 38 = .ok (.istore 7, 2) := by decide +kernel
theorem dX3_stepOn_40 : decode cX3_stepOn 40 = .ok (.iload 7, 2) := by decide +kernel
theorem dX3_stepOn_42 : decode cX3_stepOn 42 = .ok (.iload_n 2, 1) := by decide +kernel
theorem dX3_stepOn_43 : decode cX3_stepOn 43 = .ok (.if_icmp .ge 57, 3) := by decide +kernel
theorem dX3_stepOn_46 : decode cX3_stepOn 46 = .ok (.iload 5, 2) := by decide +kernel
theorem dX3_stepOn_48 : decode cX3_stepOn 48 = .ok (.ifCond .le 52, 3) := by decide +kernel
theorem dX3_stepOn_51 : decode cX3_stepOn 51 = .ok (.iload_n 1, 1) := by decide +kernel
theorem dX3_stepOn_52 : decode cX3_stepOn 52 = .ok (.iload 4, 2) := by decide +kernel
theorem dX3_stepOn_54 : decode cX3_stepOn 54 = .ok (.iadd, 1) := by decide +kernel
theorem dX3_stepOn_55 : decode cX3_stepOn 55 = .ok (.iload 5, 2) := by decide +kernel
theorem dX3_stepOn_57 : decode cX3_stepOn 57 = .ok (.idiv, 1) := by decide +kernel
theorem dX3_stepOn_58 : decode cX3_stepOn 58 = .ok (.istore 8, 2) := by decide +kernel
theorem dX3_stepOn_60 : decode cX3_stepOn 60 = .ok (.iload 8, 2) := by decide +kernel
theorem dX3_stepOn_62 : decode cX3_stepOn 62 = .ok (.iload 6, 2) := by decide +kernel
theorem dX3_stepOn_64 : decode cX3_stepOn 64 = .ok (.imul, 1) := by decide +kernel
theorem dX3_stepOn_65 : decode cX3_stepOn 65 = .ok (.iload_n 3, 1) := by decide +kernel
theorem dX3_stepOn_66 : decode cX3_stepOn 66 = .ok (.isub, 1) := by decide +kernel
theorem dX3_stepOn_67 : decode cX3_stepOn 67 = .ok (.istore 9, 2) := by decide +kernel
theorem dX3_stepOn_69 : decode cX3_stepOn 69 = .ok (.iload 8, 2) := by decide +kernel
theorem dX3_stepOn_71 : decode cX3_stepOn 71 = .ok (.iload 5, 2) := by decide +kernel
theorem dX3_stepOn_73 : decode cX3_stepOn 73 = .ok (.imul, 1) := by decide +kernel
theorem dX3_stepOn_74 : decode cX3_stepOn 74 = .ok (.iload 4, 2) := by decide +kernel
theorem dX3_stepOn_76 : decode cX3_stepOn 76 = .ok (.isub, 1) := by decide +kernel
theorem dX3_stepOn_77 : decode cX3_stepOn 77 = .ok (.istore 10, 2) := by decide +kernel
theorem dX3_stepOn_79 : decode cX3_stepOn 79 = .ok (.iload 6, 2) := by decide +kernel
theorem dX3_stepOn_81 : decode cX3_stepOn 81 = .ok (.istore_n 3, 1) := by decide +kernel
theorem dX3_stepOn_82 : decode cX3_stepOn 82 = .ok (.iload 5, 2) := by decide +kernel
theorem dX3_stepOn_84 : decode cX3_stepOn 84 = .ok (.istore 4, 2) := by decide +kernel
theorem dX3_stepOn_86 : decode cX3_stepOn 86 = .ok (.iload 9, 2) := by decide +kernel
theorem dX3_stepOn_88 : decode cX3_stepOn 88 = .ok (.istore 6, 2) := by decide +kernel
theorem dX3_stepOn_90 : decode cX3_stepOn 90 = .ok (.iload 10, 2) := by decide +kernel
theorem dX3_stepOn_92 : decode cX3_stepOn 92 = .ok (.istore 5, 2) := by decide +kernel
theorem dX3_stepOn_94 : decode cX3_stepOn 94 = .ok (.iinc 7 1, 3) := by decide +kernel
theorem dX3_stepOn_97 : decode cX3_stepOn 97 = .ok (.goto (-57), 3) := by decide +kernel
theorem dX3_stepOn_100 : decode cX3_stepOn 100 = .ok (.aload_n 0, 1) := by decide +kernel
theorem dX3_stepOn_101 : decode cX3_stepOn 101 = .ok (.getfield 10, 3) := by decide +kernel
theorem dX3_stepOn_104 : decode cX3_stepOn 104 = .ok (.iload_n 3, 1) := by decide +kernel
theorem dX3_stepOn_105 : decode cX3_stepOn 105 = .ok (.iload 4, 2) := by decide +kernel
theorem dX3_stepOn_107 : decode cX3_stepOn 107 = .ok (.invokevirtual 23, 3) := by decide +kernel
theorem dX3_stepOn_110 : decode cX3_stepOn 110 = .ok (.return_, 1) := by decide +kernel
theorem dX3_sumOfFloors_0 : decode cX3_sumOfFloors 0 = .ok (.lconst 0, 1) := by decide +kernel
theorem dX3_sumOfFloors_1 : decode cX3_sumOfFloors 1 = .ok (.lstore 8, 2) := by decide +kernel
theorem dX3_sumOfFloors_3 : decode cX3_sumOfFloors 3 = .ok (.iconst 0, 1) := by decide +kernel
theorem dX3_sumOfFloors_4 : decode cX3_sumOfFloors 4 = .ok (.istore 10, 2) := by decide +kernel
theorem dX3_sumOfFloors_6 : decode cX3_sumOfFloors 6 = .ok (.iload 10, 2) := by decide +kernel
theorem dX3_sumOfFloors_8 : decode cX3_sumOfFloors 8 = .ok (.bipush 64, 2) := by decide +kernel
theorem dX3_sumOfFloors_10 : decode cX3_sumOfFloors 10 = .ok (.if_icmp .ge 96, 3) := by decide +kernel
theorem dX3_sumOfFloors_13 : decode cX3_sumOfFloors 13 = .ok (.lload 6, 2) := by decide +kernel
theorem dX3_sumOfFloors_15 : decode cX3_sumOfFloors 15 = .ok (.lconst 0, 1) := by decide +kernel
theorem dX3_sumOfFloors_16 : decode cX3_sumOfFloors 16 = .ok (.lcmp, 1) := by decide +kernel
theorem dX3_sumOfFloors_17 : decode cX3_sumOfFloors 17 = .ok (.ifCond .le 89, 3) := by decide +kernel
theorem dX3_sumOfFloors_20 : decode cX3_sumOfFloors 20 = .ok (.lload 8, 2) := by decide +kernel
theorem dX3_sumOfFloors_22 : decode cX3_sumOfFloors 22 = .ok (.lload_n 0, 1) := by decide +kernel
theorem dX3_sumOfFloors_23 : decode cX3_sumOfFloors 23 = .ok (.lload_n 0, 1) := by decide +kernel
theorem dX3_sumOfFloors_24 : decode cX3_sumOfFloors 24 = .ok (.lconst 1, 1) := by decide +kernel
theorem dX3_sumOfFloors_25 : decode cX3_sumOfFloors 25 = .ok (.lsub, 1) := by decide +kernel
theorem dX3_sumOfFloors_26 : decode cX3_sumOfFloors 26 = .ok (.lmul, 1) := by decide +kernel
theorem dX3_sumOfFloors_27 : decode cX3_sumOfFloors 27 = .ok (.ldc2_w 132, 3) := by decide +kernel
theorem dX3_sumOfFloors_30 : decode cX3_sumOfFloors 30 = .ok (.ldiv, 1) := by decide +kernel
theorem dX3_sumOfFloors_31 : decode cX3_sumOfFloors 31 = .ok (.lload_n 2, 1) := by decide +kernel
theorem dX3_sumOfFloors_32 : decode cX3_sumOfFloors 32 = .ok (.lload 6, 2) := by decide +kernel
theorem dX3_sumOfFloors_34 : decode cX3_sumOfFloors 34 = .ok (.ldiv, 1) := by decide +kernel
theorem dX3_sumOfFloors_35 : decode cX3_sumOfFloors 35 = .ok (.lmul, 1) := by decide +kernel
theorem dX3_sumOfFloors_36 : decode cX3_sumOfFloors 36 = .ok (.lload_n 0, 1) := by decide +kernel
theorem dX3_sumOfFloors_37 : decode cX3_sumOfFloors 37 = .ok (.lload 4, 2) := by decide +kernel
theorem dX3_sumOfFloors_39 : decode cX3_sumOfFloors 39 = .ok (.lload 6, 2) := by decide +kernel
theorem dX3_sumOfFloors_41 : decode cX3_sumOfFloors 41 = .ok (.ldiv, 1) := by decide +kernel
theorem dX3_sumOfFloors_42 : decode cX3_sumOfFloors 42 = .ok (.lmul, 1) := by decide +kernel
theorem dX3_sumOfFloors_43 : decode cX3_sumOfFloors 43 = .ok (.ladd, 1) := by decide +kernel
theorem dX3_sumOfFloors_44 : decode cX3_sumOfFloors 44 = .ok (.ladd, 1) := by decide +kernel
theorem dX3_sumOfFloors_45 : decode cX3_sumOfFloors 45 = .ok (.lstore 8, 2) := by decide +kernel
theorem dX3_sumOfFloors_47 : decode cX3_sumOfFloors 47 = .ok (.lload_n 2, 1) := by decide +kernel
theorem dX3_sumOfFloors_48 : decode cX3_sumOfFloors 48 = .ok (.lload 6, 2) := by decide +kernel
theorem dX3_sumOfFloors_50 : decode cX3_sumOfFloors 50 = .ok (.lrem, 1) := by decide +kernel
theorem dX3_sumOfFloors_51 : decode cX3_sumOfFloors 51 = .ok (.lstore_n 2, 1) := by decide +kernel
theorem dX3_sumOfFloors_52 : decode cX3_sumOfFloors 52 = .ok (.lload 4, 2) := by decide +kernel
theorem dX3_sumOfFloors_54 : decode cX3_sumOfFloors 54 = .ok (.lload 6, 2) := by decide +kernel
theorem dX3_sumOfFloors_56 : decode cX3_sumOfFloors 56 = .ok (.lrem, 1) := by decide +kernel
theorem dX3_sumOfFloors_57 : decode cX3_sumOfFloors 57 = .ok (.lstore 4, 2) := by decide +kernel
theorem dX3_sumOfFloors_59 : decode cX3_sumOfFloors 59 = .ok (.lload_n 2, 1) := by decide +kernel
theorem dX3_sumOfFloors_60 : decode cX3_sumOfFloors 60 = .ok (.lload_n 0, 1) := by decide +kernel
theorem dX3_sumOfFloors_61 : decode cX3_sumOfFloors 61 = .ok (.lmul, 1) := by decide +kernel
theorem dX3_sumOfFloors_62 : decode cX3_sumOfFloors 62 = .ok (.lload 4, 2) := by decide +kernel
theorem dX3_sumOfFloors_64 : decode cX3_sumOfFloors 64 = .ok (.ladd, 1) := by decide +kernel
theorem dX3_sumOfFloors_65 : decode cX3_sumOfFloors 65 = .ok (.lstore 11, 2) := by decide +kernel
theorem dX3_sumOfFloors_67 : decode cX3_sumOfFloors 67 = .ok (.lload 11, 2) := by decide +kernel
theorem dX3_sumOfFloors_69 : decode cX3_sumOfFloors 69 = .ok (.lload 6, 2) := by decide +kernel
theorem dX3_sumOfFloors_71 : decode cX3_sumOfFloors 71 = .ok (.ldiv, 1) := by decide +kernel
theorem dX3_sumOfFloors_72 : decode cX3_sumOfFloors 72 = .ok (.lstore_n 0, 1) := by decide +kernel
theorem dX3_sumOfFloors_73 : decode cX3_sumOfFloors 73 = .ok (.lload 11, 2) := by decide +kernel
theorem dX3_sumOfFloors_75 : decode cX3_sumOfFloors 75 = .ok (.lload 6, 2) := by decide +kernel
theorem dX3_sumOfFloors_77 : decode cX3_sumOfFloors 77 = .ok (.lrem, 1) := by decide +kernel
theorem dX3_sumOfFloors_78 : decode cX3_sumOfFloors 78 = .ok (.lstore 4, 2) := by decide +kernel
theorem dX3_sumOfFloors_80 : decode cX3_sumOfFloors 80 = .ok (.lload_n 2, 1) := by decide +kernel
theorem dX3_sumOfFloors_81 : decode cX3_sumOfFloors 81 = .ok (.lstore 13, 2) := by decide +kernel
theorem dX3_sumOfFloors_83 : decode cX3_sumOfFloors 83 = .ok (.lload 6, 2) := by decide +kernel
theorem dX3_sumOfFloors_85 : decode cX3_sumOfFloors 85 = .ok (.lstore_n 2, 1) := by decide +kernel
theorem dX3_sumOfFloors_86 : decode cX3_sumOfFloors 86 = .ok (.lload_n 0, 1) := by decide +kernel
theorem dX3_sumOfFloors_87 : decode cX3_sumOfFloors 87 = .ok (.lconst 0, 1) := by decide +kernel
theorem dX3_sumOfFloors_88 : decode cX3_sumOfFloors 88 = .ok (.lcmp, 1) := by decide +kernel
theorem dX3_sumOfFloors_89 : decode cX3_sumOfFloors 89 = .ok (.ifCond .ne 7, 3) := by decide +kernel
theorem dX3_sumOfFloors_92 : decode cX3_sumOfFloors 92 = .ok (.lconst 0, 1) := by decide +kernel
theorem dX3_sumOfFloors_93 : decode cX3_sumOfFloors 93 = .ok (.goto 5, 3) := by decide +kernel
theorem dX3_sumOfFloors_96 : decode cX3_sumOfFloors 96 = .ok (.lload 13, 2) := by decide +kernel
theorem dX3_sumOfFloors_98 : decode cX3_sumOfFloors 98 = .ok (.lstore 6, 2) := by decide +kernel
theorem dX3_sumOfFloors_100 : decode cX3_sumOfFloors 100 = .ok (.iinc 10 1, 3) := by decide +kernel
theorem dX3_sumOfFloors_103 : decode cX3_sumOfFloors 103 = .ok (.goto (-97), 3) := by decide +kernel
theorem dX3_sumOfFloors_106 : decode cX3_sumOfFloors 106 = .ok (.lload 8, 2) := by decide +kernel
theorem dX3_sumOfFloors_108 : decode cX3_sumOfFloors 108 = .ok (.lreturn, 1) := by decide +kernel
end
section
abbrev cX4_init : ByteArray := prog_6_method_1_code
def yX4_init : MethodName := ⟨RX4, "<init>", "()V"⟩
abbrev cX4_thrown : ByteArray := prog_6_method_2_code
def yX4_thrown : MethodName := ⟨RX4, "thrown", "()I"⟩
abbrev cX4_common : ByteArray := prog_6_method_3_code
def yX4_common : MethodName := ⟨RX4, "common", "(JJ)J"⟩
abbrev cX4_in : ByteArray := prog_6_method_4_code
def yX4_in : MethodName := ⟨RX4, "in", "(JJJ)Z"⟩
abbrev cX4_become : ByteArray := prog_6_method_5_code
def yX4_become : MethodName := ⟨RX4, "become", "(JJ)V"⟩
abbrev cX4_take : ByteArray := prog_6_method_6_code
def yX4_take : MethodName := ⟨RX4, "take", "(II)V"⟩
abbrev cX4_part : ByteArray := prog_6_method_7_code
def yX4_part : MethodName := ⟨RX4, "part", "(I)I"⟩
abbrev cX4_findTerms : ByteArray := prog_6_method_8_code
def yX4_findTerms : MethodName := ⟨RX4, "findTerms", "()V"⟩
abbrev cX4_terms : ByteArray := prog_6_method_9_code
def yX4_terms : MethodName := ⟨RX4, "terms", "()I"⟩
abbrev cX4_term : ByteArray := prog_6_method_10_code
def yX4_term : MethodName := ⟨RX4, "term", "(I)I"⟩
abbrev cX4_convergent : ByteArray := prog_6_method_11_code
def yX4_convergent : MethodName := ⟨RX4, "convergent", "(II)I"⟩
abbrev cX4_walk : ByteArray := prog_6_method_12_code
def yX4_walk : MethodName := ⟨RX4, "walk", "()V"⟩
abbrev cX4_steps : ByteArray := prog_6_method_13_code
def yX4_steps : MethodName := ⟨RX4, "steps", "(JJ)J"⟩
abbrev cX4_way : ByteArray := prog_6_method_14_code
def yX4_way : MethodName := ⟨RX4, "way", "(I)I"⟩
abbrev cX4_run : ByteArray := prog_6_method_15_code
def yX4_run : MethodName := ⟨RX4, "run", "(I)I"⟩
abbrev cX4_go : ByteArray := prog_6_method_16_code
def yX4_go : MethodName := ⟨RX4, "go", "(II)I"⟩
abbrev cX4_up : ByteArray := prog_6_method_17_code
def yX4_up : MethodName := ⟨RX4, "up", "()I"⟩
abbrev cX4_near : ByteArray := prog_6_method_18_code
def yX4_near : MethodName := ⟨RX4, "near", "(III)I"⟩
abbrev cX4_between : ByteArray := prog_6_method_19_code
def yX4_between : MethodName := ⟨RX4, "between", "(IIII)I"⟩
abbrev cX4_row : ByteArray := prog_6_method_20_code
def yX4_row : MethodName := ⟨RX4, "row", "(I)I"⟩
abbrev cX4_pick : ByteArray := prog_6_method_21_code
def yX4_pick : MethodName := ⟨RX4, "pick", "(II)I"⟩
abbrev cX4_place : ByteArray := prog_6_method_22_code
def yX4_place : MethodName := ⟨RX4, "place", "(I)I"⟩
abbrev cX4_floors : ByteArray := prog_6_method_23_code
def yX4_floors : MethodName := ⟨RX4, "floors", "(I)J"⟩
abbrev cX4_sawteeth : ByteArray := prog_6_method_24_code
def yX4_sawteeth : MethodName := ⟨RX4, "sawteeth", "()J"⟩
abbrev cX4_check : ByteArray := prog_6_method_25_code
def yX4_check : MethodName := ⟨RX4, "check", "()I"⟩
def wsX4_init : List Cond := .code yX4_init cX4_init 1 none :: ([.methodLink RX4 1 objectInit, .instanceMethod objectInit, .code objectInit ⟨#[0xb1]⟩ 1 none, .fieldLink RX4 7 "SternDeskModel" "top" "I", .fieldLink RX4 13 "SternDeskModel" "bottom" "I", .arrayClass .int, .fieldLink RX4 16 "SternDeskModel" "terms" "[I", .fieldLink RX4 20 "SternDeskModel" "run" "[I"] ++ wsX40)
def wsX4_thrown : List Cond := .code yX4_thrown cX4_thrown 1 (some .int) :: ([.fieldLink RX4 23 "SternDeskModel" "thrown" "I"] ++ wsX40)
def wsX4_common : List Cond := .code yX4_common cX4_common 10 (some .long) :: ([])
def wsX4_in : List Cond := .code yX4_in cX4_in 6 (some .boolean) :: ([])
def wsX4_become : List Cond := .code yX4_become cX4_become 7 none :: ([.fieldLink RX4 7 "SternDeskModel" "top" "I", .fieldLink RX4 13 "SternDeskModel" "bottom" "I", .methodLink RX4 26 yX4_common, .static yX4_common, .initialized RX4, .code yX4_common cX4_common 10 (some .long)] ++ wsX40)
def wsX4_take : List Cond := .code yX4_take cX4_take 3 none :: ([.constantLong RX4 30 (100000), .fieldLink RX4 23 "SternDeskModel" "thrown" "I", .methodLink RX4 32 yX4_in, .static yX4_in, .initialized RX4, .code yX4_in cX4_in 6 (some .boolean), .methodLink RX4 36 yX4_become, .instanceMethod yX4_become, .selects RX4 yX4_become yX4_become, .code yX4_become cX4_become 7 none, .fieldLink RX4 7 "SternDeskModel" "top" "I", .fieldLink RX4 13 "SternDeskModel" "bottom" "I", .methodLink RX4 26 yX4_common, .static yX4_common, .code yX4_common cX4_common 10 (some .long)] ++ wsX40)
def wsX4_part : List Cond := .code yX4_part cX4_part 2 (some .int) :: ([.fieldLink RX4 23 "SternDeskModel" "thrown" "I", .fieldLink RX4 7 "SternDeskModel" "top" "I", .fieldLink RX4 13 "SternDeskModel" "bottom" "I"] ++ wsX40)
def wsX4_findTerms : List Cond := .code yX4_findTerms cX4_findTerms 4 none :: ([.fieldLink RX4 40 "SternDeskModel" "many" "I", .fieldLink RX4 7 "SternDeskModel" "top" "I", .fieldLink RX4 13 "SternDeskModel" "bottom" "I", .fieldLink RX4 16 "SternDeskModel" "terms" "[I"] ++ wsX40)
def wsX4_terms : List Cond := .code yX4_terms cX4_terms 1 (some .int) :: ([.fieldLink RX4 23 "SternDeskModel" "thrown" "I", .fieldLink RX4 40 "SternDeskModel" "many" "I", .methodLink RX4 43 yX4_findTerms, .instanceMethod yX4_findTerms, .selects RX4 yX4_findTerms yX4_findTerms, .initialized RX4, .code yX4_findTerms cX4_findTerms 4 none, .fieldLink RX4 7 "SternDeskModel" "top" "I", .fieldLink RX4 13 "SternDeskModel" "bottom" "I", .fieldLink RX4 16 "SternDeskModel" "terms" "[I"] ++ wsX40)
def wsX4_term : List Cond := .code yX4_term cX4_term 2 (some .int) :: ([.fieldLink RX4 23 "SternDeskModel" "thrown" "I", .fieldLink RX4 40 "SternDeskModel" "many" "I", .fieldLink RX4 16 "SternDeskModel" "terms" "[I", .methodLink RX4 43 yX4_findTerms, .instanceMethod yX4_findTerms, .selects RX4 yX4_findTerms yX4_findTerms, .initialized RX4, .code yX4_findTerms cX4_findTerms 4 none, .fieldLink RX4 7 "SternDeskModel" "top" "I", .fieldLink RX4 13 "SternDeskModel" "bottom" "I"] ++ wsX40)
def wsX4_convergent : List Cond := .code yX4_convergent cX4_convergent 10 (some .int) :: ([.fieldLink RX4 23 "SternDeskModel" "thrown" "I", .fieldLink RX4 40 "SternDeskModel" "many" "I", .fieldLink RX4 16 "SternDeskModel" "terms" "[I", .methodLink RX4 43 yX4_findTerms, .instanceMethod yX4_findTerms, .selects RX4 yX4_findTerms yX4_findTerms, .initialized RX4, .code yX4_findTerms cX4_findTerms 4 none, .fieldLink RX4 7 "SternDeskModel" "top" "I", .fieldLink RX4 13 "SternDeskModel" "bottom" "I", .methodLink RX4 26 yX4_common, .static yX4_common, .code yX4_common cX4_common 10 (some .long)] ++ wsX40)
def wsX4_steps : List Cond := .code yX4_steps cX4_steps 4 (some .long) :: ([])
def wsX4_walk : List Cond := .code yX4_walk cX4_walk 10 none :: ([.fieldLink RX4 46 "SternDeskModel" "runs" "I", .fieldLink RX4 49 "SternDeskModel" "lowTop" "J", .fieldLink RX4 53 "SternDeskModel" "lowBottom" "J", .fieldLink RX4 56 "SternDeskModel" "highTop" "J", .fieldLink RX4 59 "SternDeskModel" "highBottom" "J", .fieldLink RX4 7 "SternDeskModel" "top" "I", .fieldLink RX4 13 "SternDeskModel" "bottom" "I", .fieldLink RX4 20 "SternDeskModel" "run" "[I", .methodLink RX4 62 yX4_steps, .static yX4_steps, .initialized RX4, .code yX4_steps cX4_steps 4 (some .long)] ++ wsX40)
def wsX4_way : List Cond := .code yX4_way cX4_way 4 (some .int) :: ([.fieldLink RX4 23 "SternDeskModel" "thrown" "I", .fieldLink RX4 7 "SternDeskModel" "top" "I", .fieldLink RX4 46 "SternDeskModel" "runs" "I", .fieldLink RX4 20 "SternDeskModel" "run" "[I", .methodLink RX4 65 yX4_walk, .instanceMethod yX4_walk, .selects RX4 yX4_walk yX4_walk, .initialized RX4, .code yX4_walk cX4_walk 10 none, .fieldLink RX4 49 "SternDeskModel" "lowTop" "J", .fieldLink RX4 53 "SternDeskModel" "lowBottom" "J", .fieldLink RX4 56 "SternDeskModel" "highTop" "J", .fieldLink RX4 59 "SternDeskModel" "highBottom" "J", .fieldLink RX4 13 "SternDeskModel" "bottom" "I", .methodLink RX4 62 yX4_steps, .static yX4_steps, .code yX4_steps cX4_steps 4 (some .long)] ++ wsX40)
def wsX4_run : List Cond := .code yX4_run cX4_run 2 (some .int) :: ([.fieldLink RX4 23 "SternDeskModel" "thrown" "I", .fieldLink RX4 7 "SternDeskModel" "top" "I", .fieldLink RX4 46 "SternDeskModel" "runs" "I", .fieldLink RX4 20 "SternDeskModel" "run" "[I", .methodLink RX4 65 yX4_walk, .instanceMethod yX4_walk, .selects RX4 yX4_walk yX4_walk, .initialized RX4, .code yX4_walk cX4_walk 10 none, .fieldLink RX4 49 "SternDeskModel" "lowTop" "J", .fieldLink RX4 53 "SternDeskModel" "lowBottom" "J", .fieldLink RX4 56 "SternDeskModel" "highTop" "J", .fieldLink RX4 59 "SternDeskModel" "highBottom" "J", .fieldLink RX4 13 "SternDeskModel" "bottom" "I", .methodLink RX4 62 yX4_steps, .static yX4_steps, .code yX4_steps cX4_steps 4 (some .long)] ++ wsX40)
def wsX4_go : List Cond := .code yX4_go cX4_go 7 (some .int) :: ([.fieldLink RX4 23 "SternDeskModel" "thrown" "I", .constantLong RX4 30 (100000), .fieldLink RX4 7 "SternDeskModel" "top" "I", .fieldLink RX4 49 "SternDeskModel" "lowTop" "J", .fieldLink RX4 56 "SternDeskModel" "highTop" "J", .fieldLink RX4 13 "SternDeskModel" "bottom" "I", .fieldLink RX4 53 "SternDeskModel" "lowBottom" "J", .fieldLink RX4 59 "SternDeskModel" "highBottom" "J", .methodLink RX4 32 yX4_in, .static yX4_in, .initialized RX4, .code yX4_in cX4_in 6 (some .boolean), .methodLink RX4 65 yX4_walk, .instanceMethod yX4_walk, .selects RX4 yX4_walk yX4_walk, .code yX4_walk cX4_walk 10 none, .fieldLink RX4 46 "SternDeskModel" "runs" "I", .fieldLink RX4 20 "SternDeskModel" "run" "[I", .methodLink RX4 62 yX4_steps, .static yX4_steps, .code yX4_steps cX4_steps 4 (some .long)] ++ wsX40)
def wsX4_up : List Cond := .code yX4_up cX4_up 2 (some .int) :: ([.fieldLink RX4 23 "SternDeskModel" "thrown" "I", .fieldLink RX4 7 "SternDeskModel" "top" "I", .fieldLink RX4 13 "SternDeskModel" "bottom" "I", .fieldLink RX4 49 "SternDeskModel" "lowTop" "J", .fieldLink RX4 53 "SternDeskModel" "lowBottom" "J", .fieldLink RX4 56 "SternDeskModel" "highTop" "J", .fieldLink RX4 59 "SternDeskModel" "highBottom" "J", .methodLink RX4 65 yX4_walk, .instanceMethod yX4_walk, .selects RX4 yX4_walk yX4_walk, .initialized RX4, .code yX4_walk cX4_walk 10 none, .fieldLink RX4 46 "SternDeskModel" "runs" "I", .fieldLink RX4 20 "SternDeskModel" "run" "[I", .methodLink RX4 62 yX4_steps, .static yX4_steps, .code yX4_steps cX4_steps 4 (some .long)] ++ wsX40)
def wsX4_near : List Cond := .code yX4_near cX4_near 18 (some .int) :: ([.constantLong RX4 68 (1000), .constantLong RX4 70 (2), .fieldLink RX4 23 "SternDeskModel" "thrown" "I", .fieldLink RX4 7 "SternDeskModel" "top" "I", .fieldLink RX4 13 "SternDeskModel" "bottom" "I", .methodLink RX4 32 yX4_in, .static yX4_in, .initialized RX4, .code yX4_in cX4_in 6 (some .boolean)] ++ wsX40)
def wsX4_between : List Cond := .code yX4_between cX4_between 7 (some .int) :: ([.constantLong RX4 72 (5000), .fieldLink RX4 23 "SternDeskModel" "thrown" "I", .fieldLink RX4 7 "SternDeskModel" "top" "I", .fieldLink RX4 13 "SternDeskModel" "bottom" "I", .methodLink RX4 32 yX4_in, .static yX4_in, .initialized RX4, .code yX4_in cX4_in 6 (some .boolean)] ++ wsX40)
def wsX4_row : List Cond := .code yX4_row cX4_row 5 (some .int) :: ([.fieldLink RX4 23 "SternDeskModel" "thrown" "I", .constantLong RX4 74 (200), .methodLink RX4 32 yX4_in, .static yX4_in, .initialized RX4, .code yX4_in cX4_in 6 (some .boolean), .methodLink RX4 26 yX4_common, .static yX4_common, .code yX4_common cX4_common 10 (some .long)] ++ wsX40)
def wsX4_pick : List Cond := .code yX4_pick cX4_pick 12 (some .int) :: ([.fieldLink RX4 7 "SternDeskModel" "top" "I", .fieldLink RX4 13 "SternDeskModel" "bottom" "I", .methodLink RX4 76 yX4_row, .instanceMethod yX4_row, .selects RX4 yX4_row yX4_row, .initialized RX4, .code yX4_row cX4_row 5 (some .int), .fieldLink RX4 23 "SternDeskModel" "thrown" "I", .constantLong RX4 74 (200), .methodLink RX4 32 yX4_in, .static yX4_in, .code yX4_in cX4_in 6 (some .boolean), .methodLink RX4 26 yX4_common, .static yX4_common, .code yX4_common cX4_common 10 (some .long)] ++ wsX40)
def wsX4_place : List Cond := .code yX4_place cX4_place 5 (some .int) :: ([.fieldLink RX4 23 "SternDeskModel" "thrown" "I", .constantLong RX4 74 (200), .fieldLink RX4 7 "SternDeskModel" "top" "I", .fieldLink RX4 13 "SternDeskModel" "bottom" "I", .methodLink RX4 32 yX4_in, .static yX4_in, .initialized RX4, .code yX4_in cX4_in 6 (some .boolean), .methodLink RX4 26 yX4_common, .static yX4_common, .code yX4_common cX4_common 10 (some .long)] ++ wsX40)
def wsX4_floors : List Cond := .code yX4_floors cX4_floors 6 (some .long) :: ([.fieldLink RX4 23 "SternDeskModel" "thrown" "I", .constantLong RX4 30 (100000), .constantLong RX4 80 (-1), .fieldLink RX4 7 "SternDeskModel" "top" "I", .fieldLink RX4 13 "SternDeskModel" "bottom" "I", .methodLink RX4 32 yX4_in, .static yX4_in, .initialized RX4, .code yX4_in cX4_in 6 (some .boolean)] ++ wsX40)
def wsX4_sawteeth : List Cond := .code yX4_sawteeth cX4_sawteeth 7 (some .long) :: ([.fieldLink RX4 23 "SternDeskModel" "thrown" "I", .fieldLink RX4 13 "SternDeskModel" "bottom" "I", .fieldLink RX4 7 "SternDeskModel" "top" "I", .constantLong RX4 70 (2), .constantLong RX4 82 (3)] ++ wsX40)
def wsX4_check : List Cond := .code yX4_check cX4_check 1 (some .int) :: ([.fieldLink RX4 23 "SternDeskModel" "thrown" "I"] ++ wsX40)
theorem dX4_init_0 : decode cX4_init 0 = .ok (.aload_n 0, 1) := by decide +kernel
theorem dX4_init_1 : decode cX4_init 1 = .ok (.invokespecial 1, 3) := by decide +kernel
theorem dX4_init_4 : decode cX4_init 4 = .ok (.aload_n 0, 1) := by decide +kernel
theorem dX4_init_5 : decode cX4_init 5 = .ok (.iconst 1, 1) := by decide +kernel
theorem dX4_init_6 : decode cX4_init 6 = .ok (.putfield 7, 3) := by decide +kernel
theorem dX4_init_9 : decode cX4_init 9 = .ok (.aload_n 0, 1) := by decide +kernel
theorem dX4_init_10 : decode cX4_init 10 = .ok (.iconst 1, 1) := by decide +kernel
theorem dX4_init_11 : decode cX4_init 11 = .ok (.putfield 13, 3) := by decide +kernel
theorem dX4_init_14 : decode cX4_init 14 = .ok (.aload_n 0, 1) := by decide +kernel
theorem dX4_init_15 : decode cX4_init 15 = .ok (.bipush 64, 2) := by decide +kernel
theorem dX4_init_17 : decode cX4_init 17 = .ok (.newarray .int, 2) := by decide +kernel
theorem dX4_init_19 : decode cX4_init 19 = .ok (.putfield 16, 3) := by decide +kernel
theorem dX4_init_22 : decode cX4_init 22 = .ok (.aload_n 0, 1) := by decide +kernel
theorem dX4_init_23 : decode cX4_init 23 = .ok (.bipush 64, 2) := by decide +kernel
theorem dX4_init_25 : decode cX4_init 25 = .ok (.newarray .int, 2) := by decide +kernel
theorem dX4_init_27 : decode cX4_init 27 = .ok (.putfield 20, 3) := by decide +kernel
theorem dX4_init_30 : decode cX4_init 30 = .ok (.aload_n 0, 1) := by decide +kernel
theorem dX4_init_31 : decode cX4_init 31 = .ok (.iconst 1, 1) := by decide +kernel
theorem dX4_init_32 : decode cX4_init 32 = .ok (.putfield 7, 3) := by decide +kernel
theorem dX4_init_35 : decode cX4_init 35 = .ok (.return_, 1) := by decide +kernel
theorem dX4_thrown_0 : decode cX4_thrown 0 = .ok (.aload_n 0, 1) := by decide +kernel
theorem dX4_thrown_1 : decode cX4_thrown 1 = .ok (.getfield 23, 3) := by decide +kernel
theorem dX4_thrown_4 : decode cX4_thrown 4 = .ok (.ireturn, 1) := by decide +kernel
theorem dX4_common_0 : decode cX4_common 0 = .ok (.lload_n 0, 1) := by decide +kernel
theorem dX4_common_1 : decode cX4_common 1 = .ok (.lstore 4, 2) := by decide +kernel
theorem dX4_common_3 : decode cX4_common 3 = .ok (.lload_n 2, 1) := by decide +kernel
theorem dX4_common_4 : decode cX4_common 4 = .ok (.lstore 6, 2) := by decide +kernel
theorem dX4_common_6 : decode cX4_common 6 = .ok (.lload 6, 2) := by decide +kernel
theorem dX4_common_8 : decode cX4_common 8 = .ok (.lconst 0, 1) := by decide +kernel
theorem dX4_common_9 : decode cX4_common 9 = .ok (.lcmp, 1) := by decide +kernel
theorem dX4_common_10 : decode cX4_common 10 = .ok (.ifCond .eq 21, 3) := by decide +kernel
theorem dX4_common_13 : decode cX4_common 13 = .ok (.lload 4, 2) := by decide +kernel
theorem dX4_common_15 : decode cX4_common 15 = .ok (.lload 6, 2) := by decide +kernel
theorem dX4_common_17 : decode cX4_common 17 = .ok (.lrem, 1) := by decide +kernel
theorem dX4_common_18 : decode cX4_common 18 = .ok (.lstore 8, 2) := by decide +kernel
theorem dX4_common_20 : decode cX4_common 20 = .ok (.lload 6, 2) := by decide +kernel
theorem dX4_common_22 : decode cX4_common 22 = .ok (.lstore 4, 2) := by decide +kernel
theorem dX4_common_24 : decode cX4_common 24 = .ok (.lload 8, 2) := by decide +kernel
theorem dX4_common_26 : decode cX4_common 26 = .ok (.lstore 6, 2) := by decide +kernel
theorem dX4_common_28 : decode cX4_common 28 = .ok (.goto (-22), 3) := by decide +kernel
theorem dX4_common_31 : decode cX4_common 31 = .ok (.lload 4, 2) := by decide +kernel
theorem dX4_common_33 : decode cX4_common 33 = .ok (.lreturn, 1) := by decide +kernel
theorem dX4_in_0 : decode cX4_in 0 = .ok (.lload_n 0, 1) := by decide +kernel
theorem dX4_in_1 : decode cX4_in 1 = .ok (.lload_n 2, 1) := by decide +kernel
theorem dX4_in_2 : decode cX4_in 2 = .ok (.lcmp, 1) := by decide +kernel
theorem dX4_in_3 : decode cX4_in 3 = .ok (.ifCond .lt 14, 3) := by decide +kernel
theorem dX4_in_6 : decode cX4_in 6 = .ok (.lload_n 0, 1) := by decide +kernel
theorem dX4_in_7 : decode cX4_in 7 = .ok (.lload 4, 2) := by decide +kernel
theorem dX4_in_9 : decode cX4_in 9 = .ok (.lcmp, 1) := by decide +kernel
theorem dX4_in_10 : decode cX4_in 10 = .ok (.ifCond .gt 7, 3) := by decide +kernel
theorem dX4_in_13 : decode cX4_in 13 = .ok (.iconst 1, 1) := by decide +kernel
theorem dX4_in_14 : decode cX4_in 14 = .ok (.goto 4, 3) := by decide +kernel
theorem dX4_in_17 : decode cX4_in 17 = .ok (.iconst 0, 1) := by decide +kernel
theorem dX4_in_18 : decode cX4_in 18 = .ok (.ireturn, 1) := by decide +kernel
set_option maxRecDepth 20000 in
theorem ggX4_become_X4_common : GoodIn wsX4_become wsX4_common := goodIn_r _ [6] (by decide +kernel) (by decide +kernel)
set_option maxRecDepth 20000 in
theorem gX4_become_X4_common : GoodIn wsX4_become (va_wsS RX4 26 yX4_common wsX4_common) := goodIn_app (goodIn_of _ (by decide +kernel)) ggX4_become_X4_common
theorem dX4_become_0 : decode cX4_become 0 = .ok (.lload_n 1, 1) := by decide +kernel
theorem dX4_become_1 : decode cX4_become 1 = .ok (.lload_n 3, 1) := by decide +kernel
theorem dX4_become_2 : decode cX4_become 2 = .ok (.invokestatic 26, 3) := by decide +kernel
theorem dX4_become_5 : decode cX4_become 5 = .ok (.lstore 5, 2) := by decide +kernel
theorem dX4_become_7 : decode cX4_become 7 = .ok (.aload_n 0, 1) := by decide +kernel
theorem dX4_become_8 : decode cX4_become 8 = .ok (.lload_n 1, 1) := by decide +kernel
theorem dX4_become_9 : decode cX4_become 9 = .ok (.lload 5, 2) := by decide +kernel
theorem dX4_become_11 : decode cX4_become 11 = .ok (.ldiv, 1) := by decide +kernel
theorem dX4_become_12 : decode cX4_become 12 = .ok (.l2i, 1) := by decide +kernel
theorem dX4_become_13 : decode cX4_become 13 = .ok (.putfield 7, 3) := by decide +kernel
theorem dX4_become_16 : decode cX4_become 16 = .ok (.aload_n 0, 1) := by decide +kernel
theorem dX4_become_17 : decode cX4_become 17 = .ok (.lload_n 3, 1) := by decide +kernel
theorem dX4_become_18 : decode cX4_become 18 = .ok (.lload 5, 2) := by decide +kernel
theorem dX4_become_20 : decode cX4_become 20 = .ok (.ldiv, 1) := by decide +kernel
theorem dX4_become_21 : decode cX4_become 21 = .ok (.l2i, 1) := by decide +kernel
theorem dX4_become_22 : decode cX4_become 22 = .ok (.putfield 13, 3) := by decide +kernel
theorem dX4_become_25 : decode cX4_become 25 = .ok (.return_, 1) := by decide +kernel
set_option maxRecDepth 20000 in
theorem ggX4_take_X4_in : GoodIn wsX4_take wsX4_in := goodIn_r _ [6] (by decide +kernel) (by decide +kernel)
set_option maxRecDepth 20000 in
theorem gX4_take_X4_in : GoodIn wsX4_take (va_wsS RX4 32 yX4_in wsX4_in) := goodIn_app (goodIn_of _ (by decide +kernel)) ggX4_take_X4_in
set_option maxRecDepth 20000 in
theorem ggX4_take_X4_become : GoodIn wsX4_take wsX4_become := goodIn_r _ [10, 11, 12, 13, 14, 5, 15, 16, 17, 18, 19, 20, 21, 22, 23, 24, 25, 26] (by decide +kernel) (by decide +kernel)
set_option maxRecDepth 20000 in
theorem gX4_take_X4_become : GoodIn wsX4_take (wsV RX4 36 RX4 yX4_become wsX4_become) := goodIn_app (goodIn_of _ (by decide +kernel)) ggX4_take_X4_become
theorem dX4_take_0 : decode cX4_take 0 = .ok (.aload_n 0, 1) := by decide +kernel
theorem dX4_take_1 : decode cX4_take 1 = .ok (.iload_n 1, 1) := by decide +kernel
theorem dX4_take_2 : decode cX4_take 2 = .ok (.i2l, 1) := by decide +kernel
theorem dX4_take_3 : decode cX4_take 3 = .ok (.lconst 0, 1) := by decide +kernel
theorem dX4_take_4 : decode cX4_take 4 = .ok (.ldc2_w 30, 3) := by decide +kernel
theorem dX4_take_7 : decode cX4_take 7 = .ok (.invokestatic 32, 3) := by decide +kernel
theorem dX4_take_10 : decode cX4_take 10 = .ok (.ifCond .eq 19, 3) := by decide +kernel
theorem dX4_take_13 : decode cX4_take 13 = .ok (.iload_n 2, 1) := by decide +kernel
theorem dX4_take_14 : decode cX4_take 14 = .ok (.i2l, 1) := by decide +kernel
theorem dX4_take_15 : decode cX4_take 15 = .ok (.lconst 1, 1) := by decide +kernel
theorem dX4_take_16 : decode cX4_take 16 = .ok (.ldc2_w 30, 3) := by decide +kernel
theorem dX4_take_19 : decode cX4_take 19 = .ok (.invokestatic 32, 3) := by decide +kernel
theorem dX4_take_22 : decode cX4_take 22 = .ok (.ifCond .eq 7, 3) := by decide +kernel
theorem dX4_take_25 : decode cX4_take 25 = .ok (.iconst 0, 1) := by decide +kernel
theorem dX4_take_26 : decode cX4_take 26 = .ok (.goto 4, 3) := by decide +kernel
theorem dX4_take_29 : decode cX4_take 29 = .ok (.iconst 1, 1) := by decide +kernel
theorem dX4_take_30 : decode cX4_take 30 = .ok (.putfield 23, 3) := by decide +kernel
theorem dX4_take_33 : decode cX4_take 33 = .ok (.aload_n 0, 1) := by decide +kernel
theorem dX4_take_34 : decode cX4_take 34 = .ok (.getfield 23, 3) := by decide +kernel
theorem dX4_take_37 : decode cX4_take 37 = .ok (.ifCond .ne 11, 3) := by decide +kernel
theorem dX4_take_40 : decode cX4_take 40 = .ok (.aload_n 0, 1) := by decide +kernel
theorem dX4_take_41 : decode cX4_take 41 = .ok (.iload_n 1, 1) := by decide +kernel
theorem dX4_take_42 : decode cX4_take 42 = .ok (.i2l, 1) := by decide +kernel
theorem dX4_take_43 : decode cX4_take 43 = .ok (.iload_n 2, 1) := by decide +kernel
theorem dX4_take_44 : decode cX4_take 44 = .ok (.i2l, 1) := by decide +kernel
theorem dX4_take_45 : decode cX4_take 45 = .ok (.invokevirtual 36, 3) := by decide +kernel
theorem dX4_take_48 : decode cX4_take 48 = .ok (.return_, 1) := by decide +kernel
theorem dX4_part_0 : decode cX4_part 0 = .ok (.aload_n 0, 1) := by decide +kernel
theorem dX4_part_1 : decode cX4_part 1 = .ok (.iconst 0, 1) := by decide +kernel
theorem dX4_part_2 : decode cX4_part 2 = .ok (.putfield 23, 3) := by decide +kernel
theorem dX4_part_5 : decode cX4_part 5 = .ok (.iload_n 1, 1) := by decide +kernel
theorem dX4_part_6 : decode cX4_part 6 = .ok (.ifCond .ne 10, 3) := by decide +kernel
theorem dX4_part_9 : decode cX4_part 9 = .ok (.aload_n 0, 1) := by decide +kernel
theorem dX4_part_10 : decode cX4_part 10 = .ok (.getfield 7, 3) := by decide +kernel
theorem dX4_part_13 : decode cX4_part 13 = .ok (.goto 16, 3) := by decide +kernel
theorem dX4_part_16 : decode cX4_part 16 = .ok (.iload_n 1, 1) := by decide +kernel
theorem dX4_part_17 : decode cX4_part 17 = .ok (.iconst 1, 1) := by decide +kernel
theorem dX4_part_18 : decode cX4_part 18 = .ok (.if_icmp .ne 10, 3) := by decide +kernel
theorem dX4_part_21 : decode cX4_part 21 = .ok (.aload_n 0, 1) := by decide +kernel
theorem dX4_part_22 : decode cX4_part 22 = .ok (.getfield 13, 3) := by decide +kernel
theorem dX4_part_25 : decode cX4_part 25 = .ok (.goto 4, 3) := by decide +kernel
theorem dX4_part_28 : decode cX4_part 28 = .ok (.iconst (-1), 1) := by decide +kernel
theorem dX4_part_29 : decode cX4_part 29 = .ok (.ireturn, 1) := by decide +kernel
theorem dX4_findTerms_0 : decode cX4_findTerms 0 = .ok (.aload_n 0, 1) := by decide +kernel
theorem dX4_findTerms_1 : decode cX4_findTerms 1 = .ok (.iconst 0, 1) := by decide +kernel
theorem dX4_findTerms_2 : decode cX4_findTerms 2 = .ok (.putfield 40, 3) := by decide +kernel
theorem dX4_findTerms_5 : decode cX4_findTerms 5 = .ok (.aload_n 0, 1) := by decide +kernel
theorem dX4_findTerms_6 : decode cX4_findTerms 6 = .ok (.getfield 7, 3) := by decide +kernel
theorem dX4_findTerms_9 : decode cX4_findTerms 9 = .ok (.istore_n 1, 1) := by decide +kernel
theorem dX4_findTerms_10 : decode cX4_findTerms 10 = .ok (.aload_n 0, 1) := by decide +kernel
theorem dX4_findTerms_11 : decode cX4_findTerms 11 = .ok (.getfield 13, 3) := by decide +kernel
theorem dX4_findTerms_14 : decode cX4_findTerms 14 = .ok (.istore_n 2, 1) := by decide +kernel
theorem dX4_findTerms_15 : decode cX4_findTerms 15 = .ok (.iload_n 2, 1) := by decide +kernel
theorem dX4_findTerms_16 : decode cX4_findTerms 16 = .ok (.ifCond .eq 36, 3) := by decide +kernel
theorem dX4_findTerms_19 : decode cX4_findTerms 19 = .ok (.aload_n 0, 1) := by decide +kernel
theorem dX4_findTerms_20 : decode cX4_findTerms 20 = .ok (.getfield 16, 3) := by decide +kernel
theorem dX4_findTerms_23 : decode cX4_findTerms 23 = .ok (.aload_n 0, 1) := by decide +kernel
theorem dX4_findTerms_24 : decode cX4_findTerms 24 = .ok (.getfield 40, 3) := by decide +kernel
theorem dX4_findTerms_27 : decode cX4_findTerms 27 = .ok (.iload_n 1, 1) := by decide +kernel
theorem dX4_findTerms_28 : decode cX4_findTerms 28 = .ok (.iload_n 2, 1) := by decide +kernel
theorem dX4_findTerms_29 : decode cX4_findTerms 29 = .ok (.idiv, 1) := by decide +kernel
theorem dX4_findTerms_30 : decode cX4_findTerms 30 = .ok (.iastore, 1) := by decide +kernel
theorem dX4_findTerms_31 : decode cX4_findTerms 31 = .ok (.aload_n 0, 1) := by decide +kernel
theorem dX4_findTerms_32 : decode cX4_findTerms 32 = .ok (.dup, 1) := by decide +kernel
theorem dX4_findTerms_33 : decode cX4_findTerms 33 = .ok (.getfield 40, 3) := by decide +kernel
theorem dX4_findTerms_36 : decode cX4_findTerms 36 = .ok (.iconst 1, 1) := by decide +kernel
theorem dX4_findTerms_37 : decode cX4_findTerms 37 = .ok (.iadd, 1) := by decide +kernel
theorem dX4_findTerms_38 : decode cX4_findTerms 38 = .ok (.putfield 40, 3) := by decide +kernel
theorem dX4_findTerms_41 : decode cX4_findTerms 41 = .ok (.iload_n 1, 1) := by decide +kernel
theorem dX4_findTerms_42 : decode cX4_findTerms 42 = .ok (.iload_n 2, 1) := by decide +kernel
theorem dX4_findTerms_43 : decode cX4_findTerms 43 = .ok (.irem, 1) := by decide +kernel
theorem dX4_findTerms_44 : decode cX4_findTerms 44 = .ok (.istore_n 3, 1) := by decide +kernel
theorem dX4_findTerms_45 : decode cX4_findTerms 45 = .ok (.iload_n 2, 1) := by decide +kernel
theorem dX4_findTerms_46 : decode cX4_findTerms 46 = .ok (.istore_n 1, 1) := by decide +kernel
theorem dX4_findTerms_47 : decode cX4_findTerms 47 = .ok (.iload_n 3, 1) := by decide +kernel
theorem dX4_findTerms_48 : decode cX4_findTerms 48 = .ok (.istore_n 2, 1) := by decide +kernel
theorem dX4_findTerms_49 : decode cX4_findTerms 49 = .ok (.goto (-34), 3) := by decide +kernel
theorem dX4_findTerms_52 : decode cX4_findTerms 52 = .ok (.return_, 1) := by decide +kernel
set_option maxRecDepth 20000 in
theorem ggX4_terms_X4_findTerms : GoodIn wsX4_terms wsX4_findTerms := goodIn_r _ [7, 2, 8, 9, 10, 11, 12, 13, 14, 15, 16, 17, 18, 19, 20, 21] (by decide +kernel) (by decide +kernel)
set_option maxRecDepth 20000 in
theorem gX4_terms_X4_findTerms : GoodIn wsX4_terms (wsV RX4 43 RX4 yX4_findTerms wsX4_findTerms) := goodIn_app (goodIn_of _ (by decide +kernel)) ggX4_terms_X4_findTerms
theorem dX4_terms_0 : decode cX4_terms 0 = .ok (.aload_n 0, 1) := by decide +kernel
theorem dX4_terms_1 : decode cX4_terms 1 = .ok (.iconst 0, 1) := by decide +kernel
theorem dX4_terms_2 : decode cX4_terms 2 = .ok (.putfield 23, 3) := by decide +kernel
theorem dX4_terms_5 : decode cX4_terms 5 = .ok (.aload_n 0, 1) := by decide +kernel
theorem dX4_terms_6 : decode cX4_terms 6 = .ok (.invokevirtual 43, 3) := by decide +kernel
theorem dX4_terms_9 : decode cX4_terms 9 = .ok (.aload_n 0, 1) := by decide +kernel
theorem dX4_terms_10 : decode cX4_terms 10 = .ok (.getfield 40, 3) := by decide +kernel
theorem dX4_terms_13 : decode cX4_terms 13 = .ok (.ireturn, 1) := by decide +kernel
set_option maxRecDepth 20000 in
theorem ggX4_term_X4_findTerms : GoodIn wsX4_term wsX4_findTerms := goodIn_r _ [8, 2, 9, 10, 3, 11, 12, 13, 14, 15, 16, 17, 18, 19, 20, 21] (by decide +kernel) (by decide +kernel)
set_option maxRecDepth 20000 in
theorem gX4_term_X4_findTerms : GoodIn wsX4_term (wsV RX4 43 RX4 yX4_findTerms wsX4_findTerms) := goodIn_app (goodIn_of _ (by decide +kernel)) ggX4_term_X4_findTerms
theorem dX4_term_0 : decode cX4_term 0 = .ok (.aload_n 0, 1) := by decide +kernel
theorem dX4_term_1 : decode cX4_term 1 = .ok (.iconst 0, 1) := by decide +kernel
theorem dX4_term_2 : decode cX4_term 2 = .ok (.putfield 23, 3) := by decide +kernel
theorem dX4_term_5 : decode cX4_term 5 = .ok (.aload_n 0, 1) := by decide +kernel
theorem dX4_term_6 : decode cX4_term 6 = .ok (.invokevirtual 43, 3) := by decide +kernel
theorem dX4_term_9 : decode cX4_term 9 = .ok (.iload_n 1, 1) := by decide +kernel
theorem dX4_term_10 : decode cX4_term 10 = .ok (.ifCond .lt 20, 3) := by decide +kernel
theorem dX4_term_13 : decode cX4_term 13 = .ok (.iload_n 1, 1) := by decide +kernel
theorem dX4_term_14 : decode cX4_term 14 = .ok (.aload_n 0, 1) := by decide +kernel
theorem dX4_term_15 : decode cX4_term 15 = .ok (.getfield 40, 3) := by decide +kernel
theorem dX4_term_18 : decode cX4_term 18 = .ok (.if_icmp .ge 12, 3) := by decide +kernel
theorem dX4_term_21 : decode cX4_term 21 = .ok (.aload_n 0, 1) := by decide +kernel
theorem dX4_term_22 : decode cX4_term 22 = .ok (.getfield 16, 3) := by decide +kernel
theorem dX4_term_25 : decode cX4_term 25 = .ok (.iload_n 1, 1) := by decide +kernel
theorem dX4_term_26 : decode cX4_term 26 = .ok (.iaload, 1) := by decide +kernel
theorem dX4_term_27 : decode cX4_term 27 = .ok (.goto 4, 3) := by decide +kernel
theorem dX4_term_30 : decode cX4_term 30 = .ok (.iconst (-1), 1) := by decide +kernel
theorem dX4_term_31 : decode cX4_term 31 = .ok (.ireturn, 1) := by decide +kernel
set_option maxRecDepth 20000 in
theorem ggX4_convergent_X4_findTerms : GoodIn wsX4_convergent wsX4_findTerms := goodIn_r _ [8, 2, 9, 10, 3, 14, 15, 16, 17, 18, 19, 20, 21, 22, 23, 24] (by decide +kernel) (by decide +kernel)
set_option maxRecDepth 20000 in
theorem gX4_convergent_X4_findTerms : GoodIn wsX4_convergent (wsV RX4 43 RX4 yX4_findTerms wsX4_findTerms) := goodIn_app (goodIn_of _ (by decide +kernel)) ggX4_convergent_X4_findTerms
set_option maxRecDepth 20000 in
theorem ggX4_convergent_X4_common : GoodIn wsX4_convergent wsX4_common := goodIn_r _ [13] (by decide +kernel) (by decide +kernel)
set_option maxRecDepth 20000 in
theorem gX4_convergent_X4_common : GoodIn wsX4_convergent (va_wsS RX4 26 yX4_common wsX4_common) := goodIn_app (goodIn_of _ (by decide +kernel)) ggX4_convergent_X4_common
theorem dX4_convergent_0 : decode cX4_convergent 0 = .ok (.aload_n 0, 1) := by decide +kernel
theorem dX4_convergent_1 : decode cX4_convergent 1 = .ok (.iconst 0, 1) := by decide +kernel
theorem dX4_convergent_2 : decode cX4_convergent 2 = .ok (.putfield 23, 3) := by decide +kernel
theorem dX4_convergent_5 : decode cX4_convergent 5 = .ok (.aload_n 0, 1) := by decide +kernel
theorem dX4_convergent_6 : decode cX4_convergent 6 = .ok (.invokevirtual 43, 3) := by decide +kernel
theorem dX4_convergent_9 : decode cX4_convergent 9 = .ok (.iload_n 1, 1) := by decide +kernel
theorem dX4_convergent_10 : decode cX4_convergent 10 = .ok (.ifCond .lt 20, 3) := by decide +kernel
theorem dX4_convergent_13 : decode cX4_convergent 13 = .ok (.iload_n 1, 1) := by decide +kernel
theorem dX4_convergent_14 : decode cX4_convergent 14 = .ok (.aload_n 0, 1) := by decide +kernel
theorem dX4_convergent_15 : decode cX4_convergent 15 = .ok (.getfield 40, 3) := by decide +kernel
theorem dX4_convergent_18 : decode cX4_convergent 18 = .ok (.if_icmp .ge 12, 3) := by decide +kernel
theorem dX4_convergent_21 : decode cX4_convergent 21 = .ok (.iload_n 2, 1) := by decide +kernel
theorem dX4_convergent_22 : decode cX4_convergent 22 = .ok (.ifCond .eq 10, 3) := by decide +kernel
theorem dX4_convergent_25 : decode cX4_convergent 25 = .ok (.iload_n 2, 1) := by decide +kernel
theorem dX4_convergent_26 : decode cX4_convergent 26 = .ok (.iconst 1, 1) := by decide +kernel
theorem dX4_convergent_27 : decode cX4_convergent 27 = .ok (.if_icmp .eq 5, 3) := by decide +kernel
theorem dX4_convergent_30 : decode cX4_convergent 30 = .ok (.iconst (-1), 1) := by decide +kernel
theorem dX4_convergent_31 : decode cX4_convergent 31 = .ok (.ireturn, 1) := by decide +kernel
theorem dX4_convergent_32 : decode cX4_convergent 32 = .ok (.aload_n 0, 1) := by decide +kernel
theorem dX4_convergent_33 : decode cX4_convergent 33 = .ok (.getfield 16, 3) := by decide +kernel
theorem dX4_convergent_36 : decode cX4_convergent 36 = .ok (.iload_n 1, 1) := by decide +kernel
theorem dX4_convergent_37 : decode cX4_convergent 37 = .ok (.iaload, 1) := by decide +kernel
theorem dX4_convergent_38 : decode cX4_convergent 38 = .ok (.i2l, 1) := by decide +kernel
theorem dX4_convergent_39 : decode cX4_convergent 39 = .ok (.lstore_n 3, 1) := by decide +kernel
theorem dX4_convergent_40 : decode cX4_convergent 40 = .ok (.lconst 1, 1) := by decide +kernel
theorem dX4_convergent_41 : decode cX4_convergent 41 = .ok (.lstore 5, 2) := by decide +kernel
theorem dX4_convergent_43 : decode cX4_convergent 43 = .ok (.iload_n 1, 1) := by decide +kernel
theorem dX4_convergent_44 : decode cX4_convergent 44 = .ok (.iconst 1, 1) := by decide +kernel
theorem dX4_convergent_45 : decode cX4_convergent 45 = .ok (.isub, 1) := by decide +kernel
theorem dX4_convergent_46 : decode cX4_convergent 46 = .ok (.istore 7, 2) := by decide +kernel
theorem dX4_convergent_48 : decode cX4_convergent 48 = .ok (.iload 7, 2) := by decide +kernel
theorem dX4_convergent_50 : decode cX4_convergent 50 = .ok (.ifCond .lt 30, 3) := by decide +kernel
theorem dX4_convergent_53 : decode cX4_convergent 53 = .ok (.aload_n 0, 1) := by decide +kernel
theorem dX4_convergent_54 : decode cX4_convergent 54 = .ok (.getfield 16, 3) := by decide +kernel
theorem dX4_convergent_57 : decode cX4_convergent 57 = .ok (.iload 7, 2) := by decide +kernel
theorem dX4_convergent_59 : decode cX4_convergent 59 = .ok (.iaload, 1) := by decide +kernel
theorem dX4_convergent_60 : decode cX4_convergent 60 = .ok (.i2l, 1) := by decide +kernel
theorem dX4_convergent_61 : decode cX4_convergent 61 = .ok (.lload_n 3, 1) := by decide +kernel
theorem dX4_convergent_62 : decode cX4_convergent 62 = .ok (.lmul, 1) := by decide +kernel
theorem dX4_convergent_63 : decode cX4_convergent 63 = .ok (.lload 5, 2) := by decide +kernel
theorem dX4_convergent_65 : decode cX4_convergent 65 = .ok (.ladd, 1) := by decide +kernel
theorem dX4_convergent_66 : decode cX4_convergent 66 = .ok (.lstore 8, 2) := by decide +kernel
theorem dX4_convergent_68 : decode cX4_convergent 68 = .ok (.lload_n 3, 1) := by decide +kernel
theorem dX4_convergent_69 : decode cX4_convergent 69 = .ok (.lstore 5, 2) := by decide +kernel
theorem dX4_convergent_71 : decode cX4_convergent 71 = .ok (.lload 8, 2) := by decide +kernel
theorem dX4_convergent_73 : decode cX4_convergent 73 = .ok (.lstore_n 3, 1) := by decide +kernel
theorem dX4_convergent_74 : decode cX4_convergent 74 = .ok (.iinc 7 (-1), 3) := by decide +kernel
theorem dX4_convergent_77 : decode cX4_convergent 77 = .ok (.goto (-29), 3) := by decide +kernel
theorem dX4_convergent_80 : decode cX4_convergent 80 = .ok (.lload_n 3, 1) := by decide +kernel
theorem dX4_convergent_81 : decode cX4_convergent 81 = .ok (.lload 5, 2) := by decide +kernel
theorem dX4_convergent_83 : decode cX4_convergent 83 = .ok (.invokestatic 26, 3) := by decide +kernel
theorem dX4_convergent_86 : decode cX4_convergent 86 = .ok (.lstore 7, 2) := by decide +kernel
theorem dX4_convergent_88 : decode cX4_convergent 88 = .ok (.iload_n 2, 1) := by decide +kernel
theorem dX4_convergent_89 : decode cX4_convergent 89 = .ok (.ifCond .ne 10, 3) := by decide +kernel
theorem dX4_convergent_92 : decode cX4_convergent 92 = .ok (.lload_n 3, 1) := by decide +kernel
theorem dX4_convergent_93 : decode cX4_convergent 93 = .ok (.lload 7, 2) := by decide +kernel
theorem dX4_convergent_95 : decode cX4_convergent 95 = .ok (.ldiv, 1) := by decide +kernel
theorem dX4_convergent_96 : decode cX4_convergent 96 = .ok (.goto 8, 3) := by decide +kernel
theorem dX4_convergent_99 : decode cX4_convergent 99 = .ok (.lload 5, 2) := by decide +kernel
theorem dX4_convergent_101 : decode cX4_convergent 101 = .ok (.lload 7, 2) := by decide +kernel
theorem dX4_convergent_103 : decode cX4_convergent 103 = .ok (.ldiv, 1) := by decide +kernel
theorem dX4_convergent_104 : decode cX4_convergent 104 = .ok (.l2i, 1) := by decide +kernel
theorem dX4_convergent_105 : decode cX4_convergent 105 = .ok (.ireturn, 1) := by decide +kernel
set_option maxRecDepth 20000 in
theorem ggX4_walk_X4_steps : GoodIn wsX4_walk wsX4_steps := goodIn_r _ [12] (by decide +kernel) (by decide +kernel)
set_option maxRecDepth 20000 in
theorem gX4_walk_X4_steps : GoodIn wsX4_walk (va_wsS RX4 62 yX4_steps wsX4_steps) := goodIn_app (goodIn_of _ (by decide +kernel)) ggX4_walk_X4_steps
theorem dX4_walk_0 : decode cX4_walk 0 = .ok (.aload_n 0, 1) := by decide +kernel
theorem dX4_walk_1 : decode cX4_walk 1 = .ok (.iconst 0, 1) := by decide +kernel
theorem dX4_walk_2 : decode cX4_walk 2 = .ok (.putfield 46, 3) := by decide +kernel
theorem dX4_walk_5 : decode cX4_walk 5 = .ok (.aload_n 0, 1) := by decide +kernel
theorem dX4_walk_6 : decode cX4_walk 6 = .ok (.lconst 0, 1) := by decide +kernel
theorem dX4_walk_7 : decode cX4_walk 7 = .ok (.putfield 49, 3) := by decide +kernel
theorem dX4_walk_10 : decode cX4_walk 10 = .ok (.aload_n 0, 1) := by decide +kernel
theorem dX4_walk_11 : decode cX4_walk 11 = .ok (.lconst 1, 1) := by decide +kernel
theorem dX4_walk_12 : decode cX4_walk 12 = .ok (.putfield 53, 3) := by decide +kernel
theorem dX4_walk_15 : decode cX4_walk 15 = .ok (.aload_n 0, 1) := by decide +kernel
theorem dX4_walk_16 : decode cX4_walk 16 = .ok (.lconst 1, 1) := by decide +kernel
theorem dX4_walk_17 : decode cX4_walk 17 = .ok (.putfield 56, 3) := by decide +kernel
theorem dX4_walk_20 : decode cX4_walk 20 = .ok (.aload_n 0, 1) := by decide +kernel
theorem dX4_walk_21 : decode cX4_walk 21 = .ok (.lconst 0, 1) := by decide +kernel
theorem dX4_walk_22 : decode cX4_walk 22 = .ok (.putfield 59, 3) := by decide +kernel
theorem dX4_walk_25 : decode cX4_walk 25 = .ok (.aload_n 0, 1) := by decide +kernel
theorem dX4_walk_26 : decode cX4_walk 26 = .ok (.getfield 7, 3) := by decide +kernel
theorem dX4_walk_29 : decode cX4_walk 29 = .ok (.ifCond .le 7, 3) := by decide +kernel
theorem dX4_walk_32 : decode cX4_walk 32 = .ok (.iconst 1, 1) := by decide +kernel
theorem dX4_walk_33 : decode cX4_walk 33 = .ok (.goto 4, 3) := by decide +kernel
theorem dX4_walk_36 : decode cX4_walk 36 = .ok (.iconst 0, 1) := by decide +kernel
theorem dX4_walk_37 : decode cX4_walk 37 = .ok (.istore_n 1, 1) := by decide +kernel
theorem dX4_walk_38 : decode cX4_walk 38 = .ok (.iload_n 1, 1) := by decide +kernel
theorem dX4_walk_39 : decode cX4_walk 39 = .ok (.ifCond .eq 278, 3) := by decide +kernel
theorem dX4_walk_42 : decode cX4_walk 42 = .ok (.aload_n 0, 1) := by decide +kernel
theorem dX4_walk_43 : decode cX4_walk 43 = .ok (.getfield 49, 3) := by decide +kernel
theorem dX4_walk_46 : decode cX4_walk 46 = .ok (.aload_n 0, 1) := by decide +kernel
theorem dX4_walk_47 : decode cX4_walk 47 = .ok (.getfield 56, 3) := by decide +kernel
theorem dX4_walk_50 : decode cX4_walk 50 = .ok (.ladd, 1) := by decide +kernel
theorem dX4_walk_51 : decode cX4_walk 51 = .ok (.lstore_n 2, 1) := by decide +kernel
theorem dX4_walk_52 : decode cX4_walk 52 = .ok (.aload_n 0, 1) := by decide +kernel
theorem dX4_walk_53 : decode cX4_walk 53 = .ok (.getfield 53, 3) := by decide +kernel
theorem dX4_walk_56 : decode cX4_walk 56 = .ok (.aload_n 0, 1) := by decide +kernel
theorem dX4_walk_57 : decode cX4_walk 57 = .ok (.getfield 59, 3) := by decide +kernel
theorem dX4_walk_60 : decode cX4_walk 60 = .ok (.ladd, 1) := by decide +kernel
theorem dX4_walk_61 : decode cX4_walk 61 = .ok (.lstore 4, 2) := by decide +kernel
theorem dX4_walk_63 : decode cX4_walk 63 = .ok (.aload_n 0, 1) := by decide +kernel
theorem dX4_walk_64 : decode cX4_walk 64 = .ok (.getfield 7, 3) := by decide +kernel
theorem dX4_walk_67 : decode cX4_walk 67 = .ok (.i2l, 1) := by decide +kernel
theorem dX4_walk_68 : decode cX4_walk 68 = .ok (.lload 4, 2) := by decide +kernel
theorem dX4_walk_70 : decode cX4_walk 70 = .ok (.lmul, 1) := by decide +kernel
theorem dX4_walk_71 : decode cX4_walk 71 = .ok (.lload_n 2, 1) := by decide +kernel
theorem dX4_walk_72 : decode cX4_walk 72 = .ok (.aload_n 0, 1) := by decide +kernel
theorem dX4_walk_73 : decode cX4_walk 73 = .ok (.getfield 13, 3) := by decide +kernel
theorem dX4_walk_76 : decode cX4_walk 76 = .ok (.i2l, 1) := by decide +kernel
theorem dX4_walk_77 : decode cX4_walk 77 = .ok (.lmul, 1) := by decide +kernel
theorem dX4_walk_78 : decode cX4_walk 78 = .ok (.lsub, 1) := by decide +kernel
theorem dX4_walk_79 : decode cX4_walk 79 = .ok (.lstore 6, 2) := by decide +kernel
theorem dX4_walk_81 : decode cX4_walk 81 = .ok (.lload 6, 2) := by decide +kernel
theorem dX4_walk_83 : decode cX4_walk 83 = .ok (.lconst 0, 1) := by decide +kernel
theorem dX4_walk_84 : decode cX4_walk 84 = .ok (.lcmp, 1) := by decide +kernel
theorem dX4_walk_85 : decode cX4_walk 85 = .ok (.ifCond .eq 7, 3) := by decide +kernel
theorem dX4_walk_88 : decode cX4_walk 88 = .ok (.iconst 1, 1) := by decide +kernel
theorem dX4_walk_89 : decode cX4_walk 89 = .ok (.goto 4, 3) := by decide +kernel
theorem dX4_walk_92 : decode cX4_walk 92 = .ok (.iconst 0, 1) := by decide +kernel
theorem dX4_walk_93 : decode cX4_walk 93 = .ok (.istore_n 1, 1) := by decide +kernel
theorem dX4_walk_94 : decode cX4_walk 94 = .ok (.lload 6, 2) := by decide +kernel
theorem dX4_walk_96 : decode cX4_walk 96 = .ok (.lconst 0, 1) := by decide +kernel
theorem dX4_walk_97 : decode cX4_walk 97 = .ok (.lcmp, 1) := by decide +kernel
theorem dX4_walk_98 : decode cX4_walk 98 = .ok (.ifCond .le 107, 3) := by decide +kernel
theorem dX4_walk_101 : decode cX4_walk 101 = .ok (.aload_n 0, 1) := by decide +kernel
theorem dX4_walk_102 : decode cX4_walk 102 = .ok (.getfield 7, 3) := by decide +kernel
theorem dX4_walk_105 : decode cX4_walk 105 = .ok (.i2l, 1) := by decide +kernel
theorem dX4_walk_106 : decode cX4_walk 106 = .ok (.aload_n 0, 1) := by decide +kernel
theorem dX4_walk_107 : decode cX4_walk 107 = .ok (.getfield 53, 3) := by decide +kernel
theorem dX4_walk_110 : decode cX4_walk 110 = .ok (.lmul, 1) := by decide +kernel
theorem dX4_walk_111 : decode cX4_walk 111 = .ok (.aload_n 0, 1) := by decide +kernel
theorem dX4_walk_112 : decode cX4_walk 112 = .ok (.getfield 49, 3) := by decide +kernel
theorem dX4_walk_115 : decode cX4_walk 115 = .ok (.aload_n 0, 1) := by decide +kernel
theorem dX4_walk_116 : decode cX4_walk 116 = .ok (.getfield 13, 3) := by decide +kernel
theorem dX4_walk_119 : decode cX4_walk 119 = .ok (.i2l, 1) := by decide +kernel
theorem dX4_walk_120 : decode cX4_walk 120 = .ok (.lmul, 1) := by decide +kernel
theorem dX4_walk_121 : decode cX4_walk 121 = .ok (.lsub, 1) := by decide +kernel
theorem dX4_walk_122 : decode cX4_walk 122 = .ok (.aload_n 0, 1) := by decide +kernel
theorem dX4_walk_123 : decode cX4_walk 123 = .ok (.getfield 56, 3) := by decide +kernel
theorem dX4_walk_126 : decode cX4_walk 126 = .ok (.aload_n 0, 1) := by decide +kernel
theorem dX4_walk_127 : decode cX4_walk 127 = .ok (.getfield 13, 3) := by decide +kernel
theorem dX4_walk_130 : decode cX4_walk 130 = .ok (.i2l, 1) := by decide +kernel
theorem dX4_walk_131 : decode cX4_walk 131 = .ok (.lmul, 1) := by decide +kernel
theorem dX4_walk_132 : decode cX4_walk 132 = .ok (.aload_n 0, 1) := by decide +kernel
theorem dX4_walk_133 : decode cX4_walk 133 = .ok (.getfield 7, 3) := by decide +kernel
theorem dX4_walk_136 : decode cX4_walk 136 = .ok (.i2l, 1) := by decide +kernel
theorem dX4_walk_137 : decode cX4_walk 137 = .ok (.aload_n 0, 1) := by decide +kernel
theorem dX4_walk_138 : decode cX4_walk 138 = .ok (.getfield 59, 3) := by decide +kernel
theorem dX4_walk_141 : decode cX4_walk 141 = .ok (.lmul, 1) := by decide +kernel
theorem dX4_walk_142 : decode cX4_walk 142 = .ok (.lsub, 1) := by decide +kernel
theorem dX4_walk_143 : decode cX4_walk 143 = .ok (.invokestatic 62, 3) := by decide +kernel
theorem dX4_walk_146 : decode cX4_walk 146 = .ok (.lstore 8, 2) := by decide +kernel
theorem dX4_walk_148 : decode cX4_walk 148 = .ok (.aload_n 0, 1) := by decide +kernel
theorem dX4_walk_149 : decode cX4_walk 149 = .ok (.aload_n 0, 1) := by decide +kernel
theorem dX4_walk_150 : decode cX4_walk 150 = .ok (.getfield 49, 3) := by decide +kernel
theorem dX4_walk_153 : decode cX4_walk 153 = .ok (.lload 8, 2) := by decide +kernel
theorem dX4_walk_155 : decode cX4_walk 155 = .ok (.aload_n 0, 1) := by decide +kernel
theorem dX4_walk_156 : decode cX4_walk 156 = .ok (.getfield 56, 3) := by decide +kernel
theorem dX4_walk_159 : decode cX4_walk 159 = .ok (.lmul, 1) := by decide +kernel
theorem dX4_walk_160 : decode cX4_walk 160 = .ok (.ladd, 1) := by decide +kernel
theorem dX4_walk_161 : decode cX4_walk 161 = .ok (.putfield 49, 3) := by decide +kernel
theorem dX4_walk_164 : decode cX4_walk 164 = .ok (.aload_n 0, 1) := by decide +kernel
theorem dX4_walk_165 : decode cX4_walk 165 = .ok (.aload_n 0, 1) := by decide +kernel
theorem dX4_walk_166 : decode cX4_walk 166 = .ok (.getfield 53, 3) := by decide +kernel
theorem dX4_walk_169 : decode cX4_walk 169 = .ok (.lload 8, 2) := by decide +kernel
theorem dX4_walk_171 : decode cX4_walk 171 = .ok (.aload_n 0, 1) := by decide +kernel
theorem dX4_walk_172 : decode cX4_walk 172 = .ok (.getfield 59, 3) := by decide +kernel
theorem dX4_walk_175 : decode cX4_walk 175 = .ok (.lmul, 1) := by decide +kernel
theorem dX4_walk_176 : decode cX4_walk 176 = .ok (.ladd, 1) := by decide +kernel
theorem dX4_walk_177 : decode cX4_walk 177 = .ok (.putfield 53, 3) := by decide +kernel
theorem dX4_walk_180 : decode cX4_walk 180 = .ok (.aload_n 0, 1) := by decide +kernel
theorem dX4_walk_181 : decode cX4_walk 181 = .ok (.getfield 20, 3) := by decide +kernel
theorem dX4_walk_184 : decode cX4_walk 184 = .ok (.aload_n 0, 1) := by decide +kernel
theorem dX4_walk_185 : decode cX4_walk 185 = .ok (.getfield 46, 3) := by decide +kernel
theorem dX4_walk_188 : decode cX4_walk 188 = .ok (.lload 8, 2) := by decide +kernel
theorem dX4_walk_190 : decode cX4_walk 190 = .ok (.l2i, 1) := by decide +kernel
theorem dX4_walk_191 : decode cX4_walk 191 = .ok (.iastore, 1) := by decide +kernel
theorem dX4_walk_192 : decode cX4_walk 192 = .ok (.aload_n 0, 1) := by decide +kernel
theorem dX4_walk_193 : decode cX4_walk 193 = .ok (.dup, 1) := by decide +kernel
theorem dX4_walk_194 : decode cX4_walk 194 = .ok (.getfield 46, 3) := by decide +kernel
theorem dX4_walk_197 : decode cX4_walk 197 = .ok (.iconst 1, 1) := by decide +kernel
theorem dX4_walk_198 : decode cX4_walk 198 = .ok (.iadd, 1) := by decide +kernel
theorem dX4_walk_199 : decode cX4_walk 199 = .ok (.putfield 46, 3) := by decide +kernel
theorem dX4_walk_202 : decode cX4_walk 202 = .ok (.goto 112, 3) := by decide +kernel
theorem dX4_walk_205 : decode cX4_walk 205 = .ok (.lload 6, 2) := by decide +kernel
theorem dX4_walk_207 : decode cX4_walk 207 = .ok (.lconst 0, 1) := by decide +kernel
theorem dX4_walk_208 : decode cX4_walk 208 = .ok (.lcmp, 1) := by decide +kernel
theorem dX4_walk_209 : decode cX4_walk 209 = .ok (.ifCond .ge 105, 3) := by decide +kernel
theorem dX4_walk_212 : decode cX4_walk 212 = .ok (.aload_n 0, 1) := by decide +kernel
theorem dX4_walk_213 : decode cX4_walk 213 = .ok (.getfield 56, 3) := by decide +kernel
theorem dX4_walk_216 : decode cX4_walk 216 = .ok (.aload_n 0, 1) := by decide +kernel
theorem dX4_walk_217 : decode cX4_walk 217 = .ok (.getfield 13, 3) := by decide +kernel
theorem dX4_walk_220 : decode cX4_walk 220 = .ok (.i2l, 1) := by decide +kernel
theorem dX4_walk_221 : decode cX4_walk 221 = .ok (.lmul, 1) := by decide +kernel
theorem dX4_walk_222 : decode cX4_walk 222 = .ok (.aload_n 0, 1) := by decide +kernel
theorem dX4_walk_223 : decode cX4_walk 223 = .ok (.getfield 7, 3) := by decide +kernel
theorem dX4_walk_226 : decode cX4_walk 226 = .ok (.i2l, 1) := by decide +kernel
theorem dX4_walk_227 : decode cX4_walk 227 = .ok (.aload_n 0, 1) := by decide +kernel
theorem dX4_walk_228 : decode cX4_walk 228 = .ok (.getfield 59, 3) := by decide +kernel
theorem dX4_walk_231 : decode cX4_walk 231 = .ok (.lmul, 1) := by decide +kernel
theorem dX4_walk_232 : decode cX4_walk 232 = .ok (.lsub, 1) := by decide +kernel
theorem dX4_walk_233 : decode cX4_walk 233 = .ok (.aload_n 0, 1) := by decide +kernel
theorem dX4_walk_234 : decode cX4_walk 234 = .ok (.getfield 7, 3) := by decide +kernel
theorem dX4_walk_237 : decode cX4_walk 237 = .ok (.i2l, 1) := by decide +kernel
theorem dX4_walk_238 : decode cX4_walk 238 = .ok (.aload_n 0, 1) := by decide +kernel
theorem dX4_walk_239 : decode cX4_walk 239 = .ok (.getfield 53, 3) := by decide +kernel
theorem dX4_walk_242 : decode cX4_walk 242 = .ok (.lmul, 1) := by decide +kernel
theorem dX4_walk_243 : decode cX4_walk 243 = .ok (.aload_n 0, 1) := by decide +kernel
theorem dX4_walk_244 : decode cX4_walk 244 = .ok (.getfield 49, 3) := by decide +kernel
theorem dX4_walk_247 : decode cX4_walk 247 = .ok (.aload_n 0, 1) := by decide +kernel
theorem dX4_walk_248 : decode cX4_walk 248 = .ok (.getfield 13, 3) := by decide +kernel
theorem dX4_walk_251 : decode cX4_walk 251 = .ok (.i2l, 1) := by decide +kernel
theorem dX4_walk_252 : decode cX4_walk 252 = .ok (.lmul, 1) := by decide +kernel
theorem dX4_walk_253 : decode cX4_walk 253 = .ok (.lsub, 1) := by decide +kernel
theorem dX4_walk_254 : decode cX4_walk 254 = .ok (.invokestatic 62, 3) := by decide +kernel
theorem dX4_walk_257 : decode cX4_walk 257 = .ok (.lstore 8, 2) := by decide +kernel
theorem dX4_walk_259 : decode cX4_walk 259 = .ok (.aload_n 0, 1) := by decide +kernel
theorem dX4_walk_260 : decode cX4_walk 260 = .ok (.aload_n 0, 1) := by decide +kernel
theorem dX4_walk_261 : decode cX4_walk 261 = .ok (.getfield 56, 3) := by decide +kernel
theorem dX4_walk_264 : decode cX4_walk 264 = .ok (.lload 8, 2) := by decide +kernel
theorem dX4_walk_266 : decode cX4_walk 266 = .ok (.aload_n 0, 1) := by decide +kernel
theorem dX4_walk_267 : decode cX4_walk 267 = .ok (.getfield 49, 3) := by decide +kernel
theorem dX4_walk_270 : decode cX4_walk 270 = .ok (.lmul, 1) := by decide +kernel
theorem dX4_walk_271 : decode cX4_walk 271 = .ok (.ladd, 1) := by decide +kernel
theorem dX4_walk_272 : decode cX4_walk 272 = .ok (.putfield 56, 3) := by decide +kernel
theorem dX4_walk_275 : decode cX4_walk 275 = .ok (.aload_n 0, 1) := by decide +kernel
theorem dX4_walk_276 : decode cX4_walk 276 = .ok (.aload_n 0, 1) := by decide +kernel
theorem dX4_walk_277 : decode cX4_walk 277 = .ok (.getfield 59, 3) := by decide +kernel
theorem dX4_walk_280 : decode cX4_walk 280 = .ok (.lload 8, 2) := by decide +kernel
theorem dX4_walk_282 : decode cX4_walk 282 = .ok (.aload_n 0, 1) := by decide +kernel
theorem dX4_walk_283 : decode cX4_walk 283 = .ok (.getfield 53, 3) := by decide +kernel
theorem dX4_walk_286 : decode cX4_walk 286 = .ok (.lmul, 1) := by decide +kernel
theorem dX4_walk_287 : decode cX4_walk 287 = .ok (.ladd, 1) := by decide +kernel
theorem dX4_walk_288 : decode cX4_walk 288 = .ok (.putfield 59, 3) := by decide +kernel
theorem dX4_walk_291 : decode cX4_walk 291 = .ok (.aload_n 0, 1) := by decide +kernel
theorem dX4_walk_292 : decode cX4_walk 292 = .ok (.getfield 20, 3) := by decide +kernel
theorem dX4_walk_295 : decode cX4_walk 295 = .ok (.aload_n 0, 1) := by decide +kernel
theorem dX4_walk_296 : decode cX4_walk 296 = .ok (.getfield 46, 3) := by decide +kernel
theorem dX4_walk_299 : decode cX4_walk 299 = .ok (.lload 8, 2) := by decide +kernel
theorem dX4_walk_301 : decode cX4_walk 301 = .ok (.lneg, 1) := by decide +kernel
theorem dX4_walk_302 : decode cX4_walk 302 = .ok (.l2i, 1) := by decide +kernel
theorem dX4_walk_303 : decode cX4_walk 303 = .ok (.iastore, 1) := by decide +kernel
theorem dX4_walk_304 : decode cX4_walk 304 = .ok (.aload_n 0, 1) := by decide +kernel
theorem dX4_walk_305 : decode cX4_walk 305 = .ok (.dup, 1) := by decide +kernel
theorem dX4_walk_306 : decode cX4_walk 306 = .ok (.getfield 46, 3) := by decide +kernel
theorem dX4_walk_309 : decode cX4_walk 309 = .ok (.iconst 1, 1) := by decide +kernel
theorem dX4_walk_310 : decode cX4_walk 310 = .ok (.iadd, 1) := by decide +kernel
theorem dX4_walk_311 : decode cX4_walk 311 = .ok (.putfield 46, 3) := by decide +kernel
theorem dX4_walk_314 : decode cX4_walk 314 = .ok (.goto (-276), 3) := by decide +kernel
theorem dX4_walk_317 : decode cX4_walk 317 = .ok (.return_, 1) := by decide +kernel
theorem dX4_steps_0 : decode cX4_steps 0 = .ok (.lload_n 0, 1) := by decide +kernel
theorem dX4_steps_1 : decode cX4_steps 1 = .ok (.lconst 1, 1) := by decide +kernel
theorem dX4_steps_2 : decode cX4_steps 2 = .ok (.lsub, 1) := by decide +kernel
theorem dX4_steps_3 : decode cX4_steps 3 = .ok (.lload_n 2, 1) := by decide +kernel
theorem dX4_steps_4 : decode cX4_steps 4 = .ok (.ldiv, 1) := by decide +kernel
theorem dX4_steps_5 : decode cX4_steps 5 = .ok (.lreturn, 1) := by decide +kernel
set_option maxRecDepth 20000 in
theorem ggX4_way_X4_walk : GoodIn wsX4_way wsX4_walk := goodIn_r _ [9, 3, 10, 11, 12, 13, 2, 14, 4, 15, 16, 8, 17, 18, 19, 20, 21, 22, 23, 24, 25, 26, 27, 28] (by decide +kernel) (by decide +kernel)
set_option maxRecDepth 20000 in
theorem gX4_way_X4_walk : GoodIn wsX4_way (wsV RX4 65 RX4 yX4_walk wsX4_walk) := goodIn_app (goodIn_of _ (by decide +kernel)) ggX4_way_X4_walk
theorem dX4_way_0 : decode cX4_way 0 = .ok (.aload_n 0, 1) := by decide +kernel
theorem dX4_way_1 : decode cX4_way 1 = .ok (.iconst 0, 1) := by decide +kernel
theorem dX4_way_2 : decode cX4_way 2 = .ok (.putfield 23, 3) := by decide +kernel
theorem dX4_way_5 : decode cX4_way 5 = .ok (.aload_n 0, 1) := by decide +kernel
theorem dX4_way_6 : decode cX4_way 6 = .ok (.getfield 7, 3) := by decide +kernel
theorem dX4_way_9 : decode cX4_way 9 = .ok (.ifCond .eq 12, 3) := by decide +kernel
theorem dX4_way_12 : decode cX4_way 12 = .ok (.iload_n 1, 1) := by decide +kernel
theorem dX4_way_13 : decode cX4_way 13 = .ok (.ifCond .eq 10, 3) := by decide +kernel
theorem dX4_way_16 : decode cX4_way 16 = .ok (.iload_n 1, 1) := by decide +kernel
theorem dX4_way_17 : decode cX4_way 17 = .ok (.iconst 1, 1) := by decide +kernel
theorem dX4_way_18 : decode cX4_way 18 = .ok (.if_icmp .eq 5, 3) := by decide +kernel
theorem dX4_way_21 : decode cX4_way 21 = .ok (.iconst (-1), 1) := by decide +kernel
theorem dX4_way_22 : decode cX4_way 22 = .ok (.ireturn, 1) := by decide +kernel
theorem dX4_way_23 : decode cX4_way 23 = .ok (.aload_n 0, 1) := by decide +kernel
theorem dX4_way_24 : decode cX4_way 24 = .ok (.invokevirtual 65, 3) := by decide +kernel
theorem dX4_way_27 : decode cX4_way 27 = .ok (.iconst 0, 1) := by decide +kernel
theorem dX4_way_28 : decode cX4_way 28 = .ok (.istore_n 2, 1) := by decide +kernel
theorem dX4_way_29 : decode cX4_way 29 = .ok (.iconst 0, 1) := by decide +kernel
theorem dX4_way_30 : decode cX4_way 30 = .ok (.istore_n 3, 1) := by decide +kernel
theorem dX4_way_31 : decode cX4_way 31 = .ok (.iload_n 3, 1) := by decide +kernel
theorem dX4_way_32 : decode cX4_way 32 = .ok (.aload_n 0, 1) := by decide +kernel
theorem dX4_way_33 : decode cX4_way 33 = .ok (.getfield 46, 3) := by decide +kernel
theorem dX4_way_36 : decode cX4_way 36 = .ok (.if_icmp .ge 37, 3) := by decide +kernel
theorem dX4_way_39 : decode cX4_way 39 = .ok (.iload_n 2, 1) := by decide +kernel
theorem dX4_way_40 : decode cX4_way 40 = .ok (.aload_n 0, 1) := by decide +kernel
theorem dX4_way_41 : decode cX4_way 41 = .ok (.getfield 20, 3) := by decide +kernel
theorem dX4_way_44 : decode cX4_way 44 = .ok (.iload_n 3, 1) := by decide +kernel
theorem dX4_way_45 : decode cX4_way 45 = .ok (.iaload, 1) := by decide +kernel
theorem dX4_way_46 : decode cX4_way 46 = .ok (.ifCond .ge 13, 3) := by decide +kernel
theorem dX4_way_49 : decode cX4_way 49 = .ok (.aload_n 0, 1) := by decide +kernel
theorem dX4_way_50 : decode cX4_way 50 = .ok (.getfield 20, 3) := by decide +kernel
theorem dX4_way_53 : decode cX4_way 53 = .ok (.iload_n 3, 1) := by decide +kernel
theorem dX4_way_54 : decode cX4_way 54 = .ok (.iaload, 1) := by decide +kernel
theorem dX4_way_55 : decode cX4_way 55 = .ok (.ineg, 1) := by decide +kernel
theorem dX4_way_56 : decode cX4_way 56 = .ok (.goto 9, 3) := by decide +kernel
theorem dX4_way_59 : decode cX4_way 59 = .ok (.aload_n 0, 1) := by decide +kernel
theorem dX4_way_60 : decode cX4_way 60 = .ok (.getfield 20, 3) := by decide +kernel
theorem dX4_way_63 : decode cX4_way 63 = .ok (.iload_n 3, 1) := by decide +kernel
theorem dX4_way_64 : decode cX4_way 64 = .ok (.iaload, 1) := by decide +kernel
theorem dX4_way_65 : decode cX4_way 65 = .ok (.iadd, 1) := by decide +kernel
theorem dX4_way_66 : decode cX4_way 66 = .ok (.istore_n 2, 1) := by decide +kernel
theorem dX4_way_67 : decode cX4_way 67 = .ok (.iinc 3 1, 3) := by decide +kernel
theorem dX4_way_70 : decode cX4_way 70 = .ok (.goto (-39), 3) := by decide +kernel
theorem dX4_way_73 : decode cX4_way 73 = .ok (.iload_n 1, 1) := by decide +kernel
theorem dX4_way_74 : decode cX4_way 74 = .ok (.ifCond .ne 7, 3) := by decide +kernel
theorem dX4_way_77 : decode cX4_way 77 = .ok (.iload_n 2, 1) := by decide +kernel
theorem dX4_way_78 : decode cX4_way 78 = .ok (.goto 7, 3) := by decide +kernel
theorem dX4_way_81 : decode cX4_way 81 = .ok (.aload_n 0, 1) := by decide +kernel
theorem dX4_way_82 : decode cX4_way 82 = .ok (.getfield 46, 3) := by decide +kernel
theorem dX4_way_85 : decode cX4_way 85 = .ok (.ireturn, 1) := by decide +kernel
set_option maxRecDepth 20000 in
theorem ggX4_run_X4_walk : GoodIn wsX4_run wsX4_walk := goodIn_r _ [9, 3, 10, 11, 12, 13, 2, 14, 4, 15, 16, 8, 17, 18, 19, 20, 21, 22, 23, 24, 25, 26, 27, 28] (by decide +kernel) (by decide +kernel)
set_option maxRecDepth 20000 in
theorem gX4_run_X4_walk : GoodIn wsX4_run (wsV RX4 65 RX4 yX4_walk wsX4_walk) := goodIn_app (goodIn_of _ (by decide +kernel)) ggX4_run_X4_walk
theorem dX4_run_0 : decode cX4_run 0 = .ok (.aload_n 0, 1) := by decide +kernel
theorem dX4_run_1 : decode cX4_run 1 = .ok (.iconst 0, 1) := by decide +kernel
theorem dX4_run_2 : decode cX4_run 2 = .ok (.putfield 23, 3) := by decide +kernel
theorem dX4_run_5 : decode cX4_run 5 = .ok (.aload_n 0, 1) := by decide +kernel
theorem dX4_run_6 : decode cX4_run 6 = .ok (.getfield 7, 3) := by decide +kernel
theorem dX4_run_9 : decode cX4_run 9 = .ok (.ifCond .ne 5, 3) := by decide +kernel
theorem dX4_run_12 : decode cX4_run 12 = .ok (.iconst 0, 1) := by decide +kernel
theorem dX4_run_13 : decode cX4_run 13 = .ok (.ireturn, 1) := by decide +kernel
theorem dX4_run_14 : decode cX4_run 14 = .ok (.aload_n 0, 1) := by decide +kernel
theorem dX4_run_15 : decode cX4_run 15 = .ok (.invokevirtual 65, 3) := by decide +kernel
theorem dX4_run_18 : decode cX4_run 18 = .ok (.iload_n 1, 1) := by decide +kernel
theorem dX4_run_19 : decode cX4_run 19 = .ok (.ifCond .lt 20, 3) := by decide +kernel
theorem dX4_run_22 : decode cX4_run 22 = .ok (.iload_n 1, 1) := by decide +kernel
theorem dX4_run_23 : decode cX4_run 23 = .ok (.aload_n 0, 1) := by decide +kernel
theorem dX4_run_24 : decode cX4_run 24 = .ok (.getfield 46, 3) := by decide +kernel
theorem dX4_run_27 : decode cX4_run 27 = .ok (.if_icmp .ge 12, 3) := by decide +kernel
theorem dX4_run_30 : decode cX4_run 30 = .ok (.aload_n 0, 1) := by decide +kernel
theorem dX4_run_31 : decode cX4_run 31 = .ok (.getfield 20, 3) := by decide +kernel
theorem dX4_run_34 : decode cX4_run 34 = .ok (.iload_n 1, 1) := by decide +kernel
theorem dX4_run_35 : decode cX4_run 35 = .ok (.iaload, 1) := by decide +kernel
theorem dX4_run_36 : decode cX4_run 36 = .ok (.goto 4, 3) := by decide +kernel
theorem dX4_run_39 : decode cX4_run 39 = .ok (.iconst 0, 1) := by decide +kernel
theorem dX4_run_40 : decode cX4_run 40 = .ok (.ireturn, 1) := by decide +kernel
set_option maxRecDepth 20000 in
theorem ggX4_go_X4_in : GoodIn wsX4_go wsX4_in := goodIn_r _ [12] (by decide +kernel) (by decide +kernel)
set_option maxRecDepth 20000 in
theorem gX4_go_X4_in : GoodIn wsX4_go (va_wsS RX4 32 yX4_in wsX4_in) := goodIn_app (goodIn_of _ (by decide +kernel)) ggX4_go_X4_in
set_option maxRecDepth 20000 in
theorem ggX4_go_X4_walk : GoodIn wsX4_go wsX4_walk := goodIn_r _ [16, 17, 4, 7, 5, 8, 3, 6, 18, 19, 20, 11, 21, 22, 23, 24, 25, 26, 27, 28, 29, 30, 31, 32] (by decide +kernel) (by decide +kernel)
set_option maxRecDepth 20000 in
theorem gX4_go_X4_walk : GoodIn wsX4_go (wsV RX4 65 RX4 yX4_walk wsX4_walk) := goodIn_app (goodIn_of _ (by decide +kernel)) ggX4_go_X4_walk
theorem dX4_go_0 : decode cX4_go 0 = .ok (.aload_n 0, 1) := by decide +kernel
theorem dX4_go_1 : decode cX4_go 1 = .ok (.iconst 0, 1) := by decide +kernel
theorem dX4_go_2 : decode cX4_go 2 = .ok (.putfield 23, 3) := by decide +kernel
theorem dX4_go_5 : decode cX4_go 5 = .ok (.iload_n 1, 1) := by decide +kernel
theorem dX4_go_6 : decode cX4_go 6 = .ok (.ifCond .eq 8, 3) := by decide +kernel
theorem dX4_go_9 : decode cX4_go 9 = .ok (.iload_n 1, 1) := by decide +kernel
theorem dX4_go_10 : decode cX4_go 10 = .ok (.iconst 1, 1) := by decide +kernel
theorem dX4_go_11 : decode cX4_go 11 = .ok (.if_icmp .ne 22, 3) := by decide +kernel
theorem dX4_go_14 : decode cX4_go 14 = .ok (.iload_n 2, 1) := by decide +kernel
theorem dX4_go_15 : decode cX4_go 15 = .ok (.i2l, 1) := by decide +kernel
theorem dX4_go_16 : decode cX4_go 16 = .ok (.lconst 0, 1) := by decide +kernel
theorem dX4_go_17 : decode cX4_go 17 = .ok (.ldc2_w 30, 3) := by decide +kernel
theorem dX4_go_20 : decode cX4_go 20 = .ok (.invokestatic 32, 3) := by decide +kernel
theorem dX4_go_23 : decode cX4_go 23 = .ok (.ifCond .eq 10, 3) := by decide +kernel
theorem dX4_go_26 : decode cX4_go 26 = .ok (.aload_n 0, 1) := by decide +kernel
theorem dX4_go_27 : decode cX4_go 27 = .ok (.getfield 7, 3) := by decide +kernel
theorem dX4_go_30 : decode cX4_go 30 = .ok (.ifCond .ne 5, 3) := by decide +kernel
theorem dX4_go_33 : decode cX4_go 33 = .ok (.iconst 0, 1) := by decide +kernel
theorem dX4_go_34 : decode cX4_go 34 = .ok (.ireturn, 1) := by decide +kernel
theorem dX4_go_35 : decode cX4_go 35 = .ok (.aload_n 0, 1) := by decide +kernel
theorem dX4_go_36 : decode cX4_go 36 = .ok (.invokevirtual 65, 3) := by decide +kernel
theorem dX4_go_39 : decode cX4_go 39 = .ok (.aload_n 0, 1) := by decide +kernel
theorem dX4_go_40 : decode cX4_go 40 = .ok (.getfield 7, 3) := by decide +kernel
theorem dX4_go_43 : decode cX4_go 43 = .ok (.i2l, 1) := by decide +kernel
theorem dX4_go_44 : decode cX4_go 44 = .ok (.iload_n 2, 1) := by decide +kernel
theorem dX4_go_45 : decode cX4_go 45 = .ok (.i2l, 1) := by decide +kernel
theorem dX4_go_46 : decode cX4_go 46 = .ok (.iload_n 1, 1) := by decide +kernel
theorem dX4_go_47 : decode cX4_go 47 = .ok (.ifCond .ne 10, 3) := by decide +kernel
theorem dX4_go_50 : decode cX4_go 50 = .ok (.aload_n 0, 1) := by decide +kernel
theorem dX4_go_51 : decode cX4_go 51 = .ok (.getfield 49, 3) := by decide +kernel
theorem dX4_go_54 : decode cX4_go 54 = .ok (.goto 7, 3) := by decide +kernel
theorem dX4_go_57 : decode cX4_go 57 = .ok (.aload_n 0, 1) := by decide +kernel
theorem dX4_go_58 : decode cX4_go 58 = .ok (.getfield 56, 3) := by decide +kernel
theorem dX4_go_61 : decode cX4_go 61 = .ok (.lmul, 1) := by decide +kernel
theorem dX4_go_62 : decode cX4_go 62 = .ok (.ladd, 1) := by decide +kernel
theorem dX4_go_63 : decode cX4_go 63 = .ok (.lstore_n 3, 1) := by decide +kernel
theorem dX4_go_64 : decode cX4_go 64 = .ok (.aload_n 0, 1) := by decide +kernel
theorem dX4_go_65 : decode cX4_go 65 = .ok (.getfield 13, 3) := by decide +kernel
theorem dX4_go_68 : decode cX4_go 68 = .ok (.i2l, 1) := by decide +kernel
theorem dX4_go_69 : decode cX4_go 69 = .ok (.iload_n 2, 1) := by decide +kernel
theorem dX4_go_70 : decode cX4_go 70 = .ok (.i2l, 1) := by decide +kernel
theorem dX4_go_71 : decode cX4_go 71 = .ok (.iload_n 1, 1) := by decide +kernel
theorem dX4_go_72 : decode cX4_go 72 = .ok (.ifCond .ne 10, 3) := by decide +kernel
theorem dX4_go_75 : decode cX4_go 75 = .ok (.aload_n 0, 1) := by decide +kernel
theorem dX4_go_76 : decode cX4_go 76 = .ok (.getfield 53, 3) := by decide +kernel
theorem dX4_go_79 : decode cX4_go 79 = .ok (.goto 7, 3) := by decide +kernel
theorem dX4_go_82 : decode cX4_go 82 = .ok (.aload_n 0, 1) := by decide +kernel
theorem dX4_go_83 : decode cX4_go 83 = .ok (.getfield 59, 3) := by decide +kernel
theorem dX4_go_86 : decode cX4_go 86 = .ok (.lmul, 1) := by decide +kernel
theorem dX4_go_87 : decode cX4_go 87 = .ok (.ladd, 1) := by decide +kernel
theorem dX4_go_88 : decode cX4_go 88 = .ok (.lstore 5, 2) := by decide +kernel
theorem dX4_go_90 : decode cX4_go 90 = .ok (.lload_n 3, 1) := by decide +kernel
theorem dX4_go_91 : decode cX4_go 91 = .ok (.ldc2_w 30, 3) := by decide +kernel
theorem dX4_go_94 : decode cX4_go 94 = .ok (.lcmp, 1) := by decide +kernel
theorem dX4_go_95 : decode cX4_go 95 = .ok (.ifCond .gt 12, 3) := by decide +kernel
theorem dX4_go_98 : decode cX4_go 98 = .ok (.lload 5, 2) := by decide +kernel
theorem dX4_go_100 : decode cX4_go 100 = .ok (.ldc2_w 30, 3) := by decide +kernel
theorem dX4_go_103 : decode cX4_go 103 = .ok (.lcmp, 1) := by decide +kernel
theorem dX4_go_104 : decode cX4_go 104 = .ok (.ifCond .le 5, 3) := by decide +kernel
theorem dX4_go_107 : decode cX4_go 107 = .ok (.iconst 0, 1) := by decide +kernel
theorem dX4_go_108 : decode cX4_go 108 = .ok (.ireturn, 1) := by decide +kernel
theorem dX4_go_109 : decode cX4_go 109 = .ok (.aload_n 0, 1) := by decide +kernel
theorem dX4_go_110 : decode cX4_go 110 = .ok (.lload_n 3, 1) := by decide +kernel
theorem dX4_go_111 : decode cX4_go 111 = .ok (.l2i, 1) := by decide +kernel
theorem dX4_go_112 : decode cX4_go 112 = .ok (.putfield 7, 3) := by decide +kernel
theorem dX4_go_115 : decode cX4_go 115 = .ok (.aload_n 0, 1) := by decide +kernel
theorem dX4_go_116 : decode cX4_go 116 = .ok (.lload 5, 2) := by decide +kernel
theorem dX4_go_118 : decode cX4_go 118 = .ok (.l2i, 1) := by decide +kernel
theorem dX4_go_119 : decode cX4_go 119 = .ok (.putfield 13, 3) := by decide +kernel
theorem dX4_go_122 : decode cX4_go 122 = .ok (.iconst 1, 1) := by decide +kernel
theorem dX4_go_123 : decode cX4_go 123 = .ok (.ireturn, 1) := by decide +kernel
set_option maxRecDepth 20000 in
theorem ggX4_up_X4_walk : GoodIn wsX4_up wsX4_walk := goodIn_r _ [12, 13, 4, 5, 6, 7, 2, 3, 14, 15, 16, 11, 17, 18, 19, 20, 21, 22, 23, 24, 25, 26, 27, 28] (by decide +kernel) (by decide +kernel)
set_option maxRecDepth 20000 in
theorem gX4_up_X4_walk : GoodIn wsX4_up (wsV RX4 65 RX4 yX4_walk wsX4_walk) := goodIn_app (goodIn_of _ (by decide +kernel)) ggX4_up_X4_walk
theorem dX4_up_0 : decode cX4_up 0 = .ok (.aload_n 0, 1) := by decide +kernel
theorem dX4_up_1 : decode cX4_up 1 = .ok (.iconst 0, 1) := by decide +kernel
theorem dX4_up_2 : decode cX4_up 2 = .ok (.putfield 23, 3) := by decide +kernel
theorem dX4_up_5 : decode cX4_up 5 = .ok (.aload_n 0, 1) := by decide +kernel
theorem dX4_up_6 : decode cX4_up 6 = .ok (.getfield 7, 3) := by decide +kernel
theorem dX4_up_9 : decode cX4_up 9 = .ok (.ifCond .eq 19, 3) := by decide +kernel
theorem dX4_up_12 : decode cX4_up 12 = .ok (.aload_n 0, 1) := by decide +kernel
theorem dX4_up_13 : decode cX4_up 13 = .ok (.getfield 7, 3) := by decide +kernel
theorem dX4_up_16 : decode cX4_up 16 = .ok (.iconst 1, 1) := by decide +kernel
theorem dX4_up_17 : decode cX4_up 17 = .ok (.if_icmp .ne 13, 3) := by decide +kernel
theorem dX4_up_20 : decode cX4_up 20 = .ok (.aload_n 0, 1) := by decide +kernel
theorem dX4_up_21 : decode cX4_up 21 = .ok (.getfield 13, 3) := by decide +kernel
theorem dX4_up_24 : decode cX4_up 24 = .ok (.iconst 1, 1) := by decide +kernel
theorem dX4_up_25 : decode cX4_up 25 = .ok (.if_icmp .ne 5, 3) := by decide +kernel
theorem dX4_up_28 : decode cX4_up 28 = .ok (.iconst 0, 1) := by decide +kernel
theorem dX4_up_29 : decode cX4_up 29 = .ok (.ireturn, 1) := by decide +kernel
theorem dX4_up_30 : decode cX4_up 30 = .ok (.aload_n 0, 1) := by decide +kernel
theorem dX4_up_31 : decode cX4_up 31 = .ok (.invokevirtual 65, 3) := by decide +kernel
theorem dX4_up_34 : decode cX4_up 34 = .ok (.aload_n 0, 1) := by decide +kernel
theorem dX4_up_35 : decode cX4_up 35 = .ok (.getfield 49, 3) := by decide +kernel
theorem dX4_up_38 : decode cX4_up 38 = .ok (.aload_n 0, 1) := by decide +kernel
theorem dX4_up_39 : decode cX4_up 39 = .ok (.getfield 53, 3) := by decide +kernel
theorem dX4_up_42 : decode cX4_up 42 = .ok (.ladd, 1) := by decide +kernel
theorem dX4_up_43 : decode cX4_up 43 = .ok (.aload_n 0, 1) := by decide +kernel
theorem dX4_up_44 : decode cX4_up 44 = .ok (.getfield 56, 3) := by decide +kernel
theorem dX4_up_47 : decode cX4_up 47 = .ok (.aload_n 0, 1) := by decide +kernel
theorem dX4_up_48 : decode cX4_up 48 = .ok (.getfield 59, 3) := by decide +kernel
theorem dX4_up_51 : decode cX4_up 51 = .ok (.ladd, 1) := by decide +kernel
theorem dX4_up_52 : decode cX4_up 52 = .ok (.lcmp, 1) := by decide +kernel
theorem dX4_up_53 : decode cX4_up 53 = .ok (.ifCond .le 7, 3) := by decide +kernel
theorem dX4_up_56 : decode cX4_up 56 = .ok (.iconst 1, 1) := by decide +kernel
theorem dX4_up_57 : decode cX4_up 57 = .ok (.goto 4, 3) := by decide +kernel
theorem dX4_up_60 : decode cX4_up 60 = .ok (.iconst 0, 1) := by decide +kernel
theorem dX4_up_61 : decode cX4_up 61 = .ok (.istore_n 1, 1) := by decide +kernel
theorem dX4_up_62 : decode cX4_up 62 = .ok (.aload_n 0, 1) := by decide +kernel
theorem dX4_up_63 : decode cX4_up 63 = .ok (.iload_n 1, 1) := by decide +kernel
theorem dX4_up_64 : decode cX4_up 64 = .ok (.ifCond .eq 10, 3) := by decide +kernel
theorem dX4_up_67 : decode cX4_up 67 = .ok (.aload_n 0, 1) := by decide +kernel
theorem dX4_up_68 : decode cX4_up 68 = .ok (.getfield 49, 3) := by decide +kernel
theorem dX4_up_71 : decode cX4_up 71 = .ok (.goto 7, 3) := by decide +kernel
theorem dX4_up_74 : decode cX4_up 74 = .ok (.aload_n 0, 1) := by decide +kernel
theorem dX4_up_75 : decode cX4_up 75 = .ok (.getfield 56, 3) := by decide +kernel
theorem dX4_up_78 : decode cX4_up 78 = .ok (.l2i, 1) := by decide +kernel
theorem dX4_up_79 : decode cX4_up 79 = .ok (.putfield 7, 3) := by decide +kernel
theorem dX4_up_82 : decode cX4_up 82 = .ok (.aload_n 0, 1) := by decide +kernel
theorem dX4_up_83 : decode cX4_up 83 = .ok (.iload_n 1, 1) := by decide +kernel
theorem dX4_up_84 : decode cX4_up 84 = .ok (.ifCond .eq 10, 3) := by decide +kernel
theorem dX4_up_87 : decode cX4_up 87 = .ok (.aload_n 0, 1) := by decide +kernel
theorem dX4_up_88 : decode cX4_up 88 = .ok (.getfield 53, 3) := by decide +kernel
theorem dX4_up_91 : decode cX4_up 91 = .ok (.goto 7, 3) := by decide +kernel
theorem dX4_up_94 : decode cX4_up 94 = .ok (.aload_n 0, 1) := by decide +kernel
theorem dX4_up_95 : decode cX4_up 95 = .ok (.getfield 59, 3) := by decide +kernel
theorem dX4_up_98 : decode cX4_up 98 = .ok (.l2i, 1) := by decide +kernel
theorem dX4_up_99 : decode cX4_up 99 = .ok (.putfield 13, 3) := by decide +kernel
theorem dX4_up_102 : decode cX4_up 102 = .ok (.iconst 1, 1) := by decide +kernel
theorem dX4_up_103 : decode cX4_up 103 = .ok (.ireturn, 1) := by decide +kernel
set_option maxRecDepth 20000 in
theorem ggX4_near_X4_in : GoodIn wsX4_near wsX4_in := goodIn_r _ [9] (by decide +kernel) (by decide +kernel)
set_option maxRecDepth 20000 in
theorem gX4_near_X4_in : GoodIn wsX4_near (va_wsS RX4 32 yX4_in wsX4_in) := goodIn_app (goodIn_of _ (by decide +kernel)) ggX4_near_X4_in
theorem dX4_near_0 : decode cX4_near 0 = .ok (.aload_n 0, 1) := by decide +kernel
theorem dX4_near_1 : decode cX4_near 1 = .ok (.iload_n 1, 1) := by decide +kernel
theorem dX4_near_2 : decode cX4_near 2 = .ok (.i2l, 1) := by decide +kernel
theorem dX4_near_3 : decode cX4_near 3 = .ok (.lconst 1, 1) := by decide +kernel
theorem dX4_near_4 : decode cX4_near 4 = .ok (.ldc2_w 68, 3) := by decide +kernel
theorem dX4_near_7 : decode cX4_near 7 = .ok (.invokestatic 32, 3) := by decide +kernel
theorem dX4_near_10 : decode cX4_near 10 = .ok (.ifCond .eq 29, 3) := by decide +kernel
theorem dX4_near_13 : decode cX4_near 13 = .ok (.iload_n 2, 1) := by decide +kernel
theorem dX4_near_14 : decode cX4_near 14 = .ok (.i2l, 1) := by decide +kernel
theorem dX4_near_15 : decode cX4_near 15 = .ok (.lconst 0, 1) := by decide +kernel
theorem dX4_near_16 : decode cX4_near 16 = .ok (.ldc2_w 70, 3) := by decide +kernel
theorem dX4_near_19 : decode cX4_near 19 = .ok (.invokestatic 32, 3) := by decide +kernel
theorem dX4_near_22 : decode cX4_near 22 = .ok (.ifCond .eq 17, 3) := by decide +kernel
theorem dX4_near_25 : decode cX4_near 25 = .ok (.iload_n 3, 1) := by decide +kernel
theorem dX4_near_26 : decode cX4_near 26 = .ok (.i2l, 1) := by decide +kernel
theorem dX4_near_27 : decode cX4_near 27 = .ok (.lconst 0, 1) := by decide +kernel
theorem dX4_near_28 : decode cX4_near 28 = .ok (.lconst 1, 1) := by decide +kernel
theorem dX4_near_29 : decode cX4_near 29 = .ok (.invokestatic 32, 3) := by decide +kernel
theorem dX4_near_32 : decode cX4_near 32 = .ok (.ifCond .eq 7, 3) := by decide +kernel
theorem dX4_near_35 : decode cX4_near 35 = .ok (.iconst 0, 1) := by decide +kernel
theorem dX4_near_36 : decode cX4_near 36 = .ok (.goto 4, 3) := by decide +kernel
theorem dX4_near_39 : decode cX4_near 39 = .ok (.iconst 1, 1) := by decide +kernel
theorem dX4_near_40 : decode cX4_near 40 = .ok (.putfield 23, 3) := by decide +kernel
theorem dX4_near_43 : decode cX4_near 43 = .ok (.aload_n 0, 1) := by decide +kernel
theorem dX4_near_44 : decode cX4_near 44 = .ok (.getfield 23, 3) := by decide +kernel
theorem dX4_near_47 : decode cX4_near 47 = .ok (.ifCond .le 5, 3) := by decide +kernel
theorem dX4_near_50 : decode cX4_near 50 = .ok (.iconst 0, 1) := by decide +kernel
theorem dX4_near_51 : decode cX4_near 51 = .ok (.ireturn, 1) := by decide +kernel
theorem dX4_near_52 : decode cX4_near 52 = .ok (.lconst 0, 1) := by decide +kernel
theorem dX4_near_53 : decode cX4_near 53 = .ok (.lstore 4, 2) := by decide +kernel
theorem dX4_near_55 : decode cX4_near 55 = .ok (.lconst 0, 1) := by decide +kernel
theorem dX4_near_56 : decode cX4_near 56 = .ok (.lstore 6, 2) := by decide +kernel
theorem dX4_near_58 : decode cX4_near 58 = .ok (.lconst 0, 1) := by decide +kernel
theorem dX4_near_59 : decode cX4_near 59 = .ok (.lstore 8, 2) := by decide +kernel
theorem dX4_near_61 : decode cX4_near 61 = .ok (.lconst 0, 1) := by decide +kernel
theorem dX4_near_62 : decode cX4_near 62 = .ok (.lstore 10, 2) := by decide +kernel
theorem dX4_near_64 : decode cX4_near 64 = .ok (.lconst 1, 1) := by decide +kernel
theorem dX4_near_65 : decode cX4_near 65 = .ok (.lstore 12, 2) := by decide +kernel
theorem dX4_near_67 : decode cX4_near 67 = .ok (.lload 12, 2) := by decide +kernel
theorem dX4_near_69 : decode cX4_near 69 = .ok (.iload_n 1, 1) := by decide +kernel
theorem dX4_near_70 : decode cX4_near 70 = .ok (.i2l, 1) := by decide +kernel
theorem dX4_near_71 : decode cX4_near 71 = .ok (.lcmp, 1) := by decide +kernel
theorem dX4_near_72 : decode cX4_near 72 = .ok (.ifCond .gt 117, 3) := by decide +kernel
theorem dX4_near_75 : decode cX4_near 75 = .ok (.aload_n 0, 1) := by decide +kernel
theorem dX4_near_76 : decode cX4_near 76 = .ok (.getfield 7, 3) := by decide +kernel
theorem dX4_near_79 : decode cX4_near 79 = .ok (.i2l, 1) := by decide +kernel
theorem dX4_near_80 : decode cX4_near 80 = .ok (.lload 12, 2) := by decide +kernel
theorem dX4_near_82 : decode cX4_near 82 = .ok (.lmul, 1) := by decide +kernel
theorem dX4_near_83 : decode cX4_near 83 = .ok (.aload_n 0, 1) := by decide +kernel
theorem dX4_near_84 : decode cX4_near 84 = .ok (.getfield 13, 3) := by decide +kernel
theorem dX4_near_87 : decode cX4_near 87 = .ok (.i2l, 1) := by decide +kernel
theorem dX4_near_88 : decode cX4_near 88 = .ok (.ldiv, 1) := by decide +kernel
theorem dX4_near_89 : decode cX4_near 89 = .ok (.lstore 14, 2) := by decide +kernel
theorem dX4_near_91 : decode cX4_near 91 = .ok (.lload 6, 2) := by decide +kernel
theorem dX4_near_93 : decode cX4_near 93 = .ok (.lconst 0, 1) := by decide +kernel
theorem dX4_near_94 : decode cX4_near 94 = .ok (.lcmp, 1) := by decide +kernel
theorem dX4_near_95 : decode cX4_near 95 = .ok (.ifCond .eq 17, 3) := by decide +kernel
theorem dX4_near_98 : decode cX4_near 98 = .ok (.lload 14, 2) := by decide +kernel
theorem dX4_near_100 : decode cX4_near 100 = .ok (.lload 6, 2) := by decide +kernel
theorem dX4_near_102 : decode cX4_near 102 = .ok (.lmul, 1) := by decide +kernel
theorem dX4_near_103 : decode cX4_near 103 = .ok (.lload 4, 2) := by decide +kernel
theorem dX4_near_105 : decode cX4_near 105 = .ok (.lload 12, 2) := by decide +kernel
theorem dX4_near_107 : decode cX4_near 107 = .ok (.lmul, 1) := by decide +kernel
theorem dX4_near_108 : decode cX4_near 108 = .ok (.lcmp, 1) := by decide +kernel
theorem dX4_near_109 : decode cX4_near 109 = .ok (.ifCond .le 11, 3) := by decide +kernel
theorem dX4_near_112 : decode cX4_near 112 = .ok (.lload 14, 2) := by decide +kernel
theorem dX4_near_114 : decode cX4_near 114 = .ok (.lstore 4, 2) := by decide +kernel
theorem dX4_near_116 : decode cX4_near 116 = .ok (.lload 12, 2) := by decide +kernel
theorem dX4_near_118 : decode cX4_near 118 = .ok (.lstore 6, 2) := by decide +kernel
theorem dX4_near_120 : decode cX4_near 120 = .ok (.lload 14, 2) := by decide +kernel
theorem dX4_near_122 : decode cX4_near 122 = .ok (.aload_n 0, 1) := by decide +kernel
theorem dX4_near_123 : decode cX4_near 123 = .ok (.getfield 13, 3) := by decide +kernel
theorem dX4_near_126 : decode cX4_near 126 = .ok (.i2l, 1) := by decide +kernel
theorem dX4_near_127 : decode cX4_near 127 = .ok (.lmul, 1) := by decide +kernel
theorem dX4_near_128 : decode cX4_near 128 = .ok (.aload_n 0, 1) := by decide +kernel
theorem dX4_near_129 : decode cX4_near 129 = .ok (.getfield 7, 3) := by decide +kernel
theorem dX4_near_132 : decode cX4_near 132 = .ok (.i2l, 1) := by decide +kernel
theorem dX4_near_133 : decode cX4_near 133 = .ok (.lload 12, 2) := by decide +kernel
theorem dX4_near_135 : decode cX4_near 135 = .ok (.lmul, 1) := by decide +kernel
theorem dX4_near_136 : decode cX4_near 136 = .ok (.lcmp, 1) := by decide +kernel
theorem dX4_near_137 : decode cX4_near 137 = .ok (.ifCond .ne 8, 3) := by decide +kernel
theorem dX4_near_140 : decode cX4_near 140 = .ok (.lload 14, 2) := by decide +kernel
theorem dX4_near_142 : decode cX4_near 142 = .ok (.goto 7, 3) := by decide +kernel
theorem dX4_near_145 : decode cX4_near 145 = .ok (.lload 14, 2) := by decide +kernel
theorem dX4_near_147 : decode cX4_near 147 = .ok (.lconst 1, 1) := by decide +kernel
theorem dX4_near_148 : decode cX4_near 148 = .ok (.ladd, 1) := by decide +kernel
theorem dX4_near_149 : decode cX4_near 149 = .ok (.lstore 16, 2) := by decide +kernel
theorem dX4_near_151 : decode cX4_near 151 = .ok (.lload 10, 2) := by decide +kernel
theorem dX4_near_153 : decode cX4_near 153 = .ok (.lconst 0, 1) := by decide +kernel
theorem dX4_near_154 : decode cX4_near 154 = .ok (.lcmp, 1) := by decide +kernel
theorem dX4_near_155 : decode cX4_near 155 = .ok (.ifCond .eq 17, 3) := by decide +kernel
theorem dX4_near_158 : decode cX4_near 158 = .ok (.lload 16, 2) := by decide +kernel
theorem dX4_near_160 : decode cX4_near 160 = .ok (.lload 10, 2) := by decide +kernel
theorem dX4_near_162 : decode cX4_near 162 = .ok (.lmul, 1) := by decide +kernel
theorem dX4_near_163 : decode cX4_near 163 = .ok (.lload 8, 2) := by decide +kernel
theorem dX4_near_165 : decode cX4_near 165 = .ok (.lload 12, 2) := by decide +kernel
theorem dX4_near_167 : decode cX4_near 167 = .ok (.lmul, 1) := by decide +kernel
theorem dX4_near_168 : decode cX4_near 168 = .ok (.lcmp, 1) := by decide +kernel
theorem dX4_near_169 : decode cX4_near 169 = .ok (.ifCond .ge 11, 3) := by decide +kernel
theorem dX4_near_172 : decode cX4_near 172 = .ok (.lload 16, 2) := by decide +kernel
theorem dX4_near_174 : decode cX4_near 174 = .ok (.lstore 8, 2) := by decide +kernel
theorem dX4_near_176 : decode cX4_near 176 = .ok (.lload 12, 2) := by decide +kernel
theorem dX4_near_178 : decode cX4_near 178 = .ok (.lstore 10, 2) := by decide +kernel
theorem dX4_near_180 : decode cX4_near 180 = .ok (.lload 12, 2) := by decide +kernel
theorem dX4_near_182 : decode cX4_near 182 = .ok (.lconst 1, 1) := by decide +kernel
theorem dX4_near_183 : decode cX4_near 183 = .ok (.ladd, 1) := by decide +kernel
theorem dX4_near_184 : decode cX4_near 184 = .ok (.lstore 12, 2) := by decide +kernel
theorem dX4_near_186 : decode cX4_near 186 = .ok (.goto (-119), 3) := by decide +kernel
theorem dX4_near_189 : decode cX4_near 189 = .ok (.aload_n 0, 1) := by decide +kernel
theorem dX4_near_190 : decode cX4_near 190 = .ok (.getfield 7, 3) := by decide +kernel
theorem dX4_near_193 : decode cX4_near 193 = .ok (.i2l, 1) := by decide +kernel
theorem dX4_near_194 : decode cX4_near 194 = .ok (.lload 6, 2) := by decide +kernel
theorem dX4_near_196 : decode cX4_near 196 = .ok (.lmul, 1) := by decide +kernel
theorem dX4_near_197 : decode cX4_near 197 = .ok (.lload 4, 2) := by decide +kernel
theorem dX4_near_199 : decode cX4_near 199 = .ok (.aload_n 0, 1) := by decide +kernel
theorem dX4_near_200 : decode cX4_near 200 = .ok (.getfield 13, 3) := by decide +kernel
theorem dX4_near_203 : decode cX4_near 203 = .ok (.i2l, 1) := by decide +kernel
theorem dX4_near_204 : decode cX4_near 204 = .ok (.lmul, 1) := by decide +kernel
theorem dX4_near_205 : decode cX4_near 205 = .ok (.lsub, 1) := by decide +kernel
theorem dX4_near_206 : decode cX4_near 206 = .ok (.lload 10, 2) := by decide +kernel
theorem dX4_near_208 : decode cX4_near 208 = .ok (.lmul, 1) := by decide +kernel
theorem dX4_near_209 : decode cX4_near 209 = .ok (.lstore 12, 2) := by decide +kernel
theorem dX4_near_211 : decode cX4_near 211 = .ok (.lload 8, 2) := by decide +kernel
theorem dX4_near_213 : decode cX4_near 213 = .ok (.aload_n 0, 1) := by decide +kernel
theorem dX4_near_214 : decode cX4_near 214 = .ok (.getfield 13, 3) := by decide +kernel
theorem dX4_near_217 : decode cX4_near 217 = .ok (.i2l, 1) := by decide +kernel
theorem dX4_near_218 : decode cX4_near 218 = .ok (.lmul, 1) := by decide +kernel
theorem dX4_near_219 : decode cX4_near 219 = .ok (.aload_n 0, 1) := by decide +kernel
theorem dX4_near_220 : decode cX4_near 220 = .ok (.getfield 7, 3) := by decide +kernel
theorem dX4_near_223 : decode cX4_near 223 = .ok (.i2l, 1) := by decide +kernel
theorem dX4_near_224 : decode cX4_near 224 = .ok (.lload 10, 2) := by decide +kernel
theorem dX4_near_226 : decode cX4_near 226 = .ok (.lmul, 1) := by decide +kernel
theorem dX4_near_227 : decode cX4_near 227 = .ok (.lsub, 1) := by decide +kernel
theorem dX4_near_228 : decode cX4_near 228 = .ok (.lload 6, 2) := by decide +kernel
theorem dX4_near_230 : decode cX4_near 230 = .ok (.lmul, 1) := by decide +kernel
theorem dX4_near_231 : decode cX4_near 231 = .ok (.lstore 14, 2) := by decide +kernel
theorem dX4_near_233 : decode cX4_near 233 = .ok (.iload_n 2, 1) := by decide +kernel
theorem dX4_near_234 : decode cX4_near 234 = .ok (.ifCond .eq 32, 3) := by decide +kernel
theorem dX4_near_237 : decode cX4_near 237 = .ok (.iload_n 2, 1) := by decide +kernel
theorem dX4_near_238 : decode cX4_near 238 = .ok (.iconst 2, 1) := by decide +kernel
theorem dX4_near_239 : decode cX4_near 239 = .ok (.if_icmp .ne 31, 3) := by decide +kernel
theorem dX4_near_242 : decode cX4_near 242 = .ok (.lload 12, 2) := by decide +kernel
theorem dX4_near_244 : decode cX4_near 244 = .ok (.lload 14, 2) := by decide +kernel
theorem dX4_near_246 : decode cX4_near 246 = .ok (.lcmp, 1) := by decide +kernel
theorem dX4_near_247 : decode cX4_near 247 = .ok (.ifCond .lt 19, 3) := by decide +kernel
theorem dX4_near_250 : decode cX4_near 250 = .ok (.lload 12, 2) := by decide +kernel
theorem dX4_near_252 : decode cX4_near 252 = .ok (.lload 14, 2) := by decide +kernel
theorem dX4_near_254 : decode cX4_near 254 = .ok (.lcmp, 1) := by decide +kernel
theorem dX4_near_255 : decode cX4_near 255 = .ok (.ifCond .ne 15, 3) := by decide +kernel
theorem dX4_near_258 : decode cX4_near 258 = .ok (.lload 6, 2) := by decide +kernel
theorem dX4_near_260 : decode cX4_near 260 = .ok (.lload 10, 2) := by decide +kernel
theorem dX4_near_262 : decode cX4_near 262 = .ok (.lcmp, 1) := by decide +kernel
theorem dX4_near_263 : decode cX4_near 263 = .ok (.ifCond .gt 7, 3) := by decide +kernel
theorem dX4_near_266 : decode cX4_near 266 = .ok (.iconst 1, 1) := by decide +kernel
theorem dX4_near_267 : decode cX4_near 267 = .ok (.goto 4, 3) := by decide +kernel
theorem dX4_near_270 : decode cX4_near 270 = .ok (.iconst 0, 1) := by decide +kernel
theorem dX4_near_271 : decode cX4_near 271 = .ok (.istore 16, 2) := by decide +kernel
theorem dX4_near_273 : decode cX4_near 273 = .ok (.iload_n 3, 1) := by decide +kernel
theorem dX4_near_274 : decode cX4_near 274 = .ok (.ifCond .ne 18, 3) := by decide +kernel
theorem dX4_near_277 : decode cX4_near 277 = .ok (.iload 16, 2) := by decide +kernel
theorem dX4_near_279 : decode cX4_near 279 = .ok (.ifCond .eq 8, 3) := by decide +kernel
theorem dX4_near_282 : decode cX4_near 282 = .ok (.lload 4, 2) := by decide +kernel
theorem dX4_near_284 : decode cX4_near 284 = .ok (.goto 20, 3) := by decide +kernel
theorem dX4_near_287 : decode cX4_near 287 = .ok (.lload 8, 2) := by decide +kernel
theorem dX4_near_289 : decode cX4_near 289 = .ok (.goto 15, 3) := by decide +kernel
theorem dX4_near_292 : decode cX4_near 292 = .ok (.iload 16, 2) := by decide +kernel
theorem dX4_near_294 : decode cX4_near 294 = .ok (.ifCond .eq 8, 3) := by decide +kernel
theorem dX4_near_297 : decode cX4_near 297 = .ok (.lload 6, 2) := by decide +kernel
theorem dX4_near_299 : decode cX4_near 299 = .ok (.goto 5, 3) := by decide +kernel
theorem dX4_near_302 : decode cX4_near 302 = .ok (.lload 10, 2) := by decide +kernel
theorem dX4_near_304 : decode cX4_near 304 = .ok (.l2i, 1) := by decide +kernel
theorem dX4_near_305 : decode cX4_near 305 = .ok (.ireturn, 1) := by decide +kernel
set_option maxRecDepth 20000 in
theorem ggX4_between_X4_in : GoodIn wsX4_between wsX4_in := goodIn_r _ [8] (by decide +kernel) (by decide +kernel)
set_option maxRecDepth 20000 in
theorem gX4_between_X4_in : GoodIn wsX4_between (va_wsS RX4 32 yX4_in wsX4_in) := goodIn_app (goodIn_of _ (by decide +kernel)) ggX4_between_X4_in
theorem dX4_between_0 : decode cX4_between 0 = .ok (.iload_n 1, 1) := by decide +kernel
theorem dX4_between_1 : decode cX4_between 1 = .ok (.i2l, 1) := by decide +kernel
theorem dX4_between_2 : decode cX4_between 2 = .ok (.lconst 0, 1) := by decide +kernel
theorem dX4_between_3 : decode cX4_between 3 = .ok (.ldc2_w 72, 3) := by decide +kernel
theorem dX4_between_6 : decode cX4_between 6 = .ok (.invokestatic 32, 3) := by decide +kernel
theorem dX4_between_9 : decode cX4_between 9 = .ok (.ifCond .eq 44, 3) := by decide +kernel
theorem dX4_between_12 : decode cX4_between 12 = .ok (.iload_n 2, 1) := by decide +kernel
theorem dX4_between_13 : decode cX4_between 13 = .ok (.i2l, 1) := by decide +kernel
theorem dX4_between_14 : decode cX4_between 14 = .ok (.lconst 1, 1) := by decide +kernel
theorem dX4_between_15 : decode cX4_between 15 = .ok (.ldc2_w 72, 3) := by decide +kernel
theorem dX4_between_18 : decode cX4_between 18 = .ok (.invokestatic 32, 3) := by decide +kernel
theorem dX4_between_21 : decode cX4_between 21 = .ok (.ifCond .eq 32, 3) := by decide +kernel
theorem dX4_between_24 : decode cX4_between 24 = .ok (.iload_n 3, 1) := by decide +kernel
theorem dX4_between_25 : decode cX4_between 25 = .ok (.i2l, 1) := by decide +kernel
theorem dX4_between_26 : decode cX4_between 26 = .ok (.lconst 0, 1) := by decide +kernel
theorem dX4_between_27 : decode cX4_between 27 = .ok (.ldc2_w 72, 3) := by decide +kernel
theorem dX4_between_30 : decode cX4_between 30 = .ok (.invokestatic 32, 3) := by decide +kernel
theorem dX4_between_33 : decode cX4_between 33 = .ok (.ifCond .eq 20, 3) := by decide +kernel
theorem dX4_between_36 : decode cX4_between 36 = .ok (.iload 4, 2) := by decide +kernel
theorem dX4_between_38 : decode cX4_between 38 = .ok (.i2l, 1) := by decide +kernel
theorem dX4_between_39 : decode cX4_between 39 = .ok (.lconst 1, 1) := by decide +kernel
theorem dX4_between_40 : decode cX4_between 40 = .ok (.ldc2_w 72, 3) := by decide +kernel
theorem dX4_between_43 : decode cX4_between 43 = .ok (.invokestatic 32, 3) := by decide +kernel
theorem dX4_between_46 : decode cX4_between 46 = .ok (.ifCond .eq 7, 3) := by decide +kernel
theorem dX4_between_49 : decode cX4_between 49 = .ok (.iconst 1, 1) := by decide +kernel
theorem dX4_between_50 : decode cX4_between 50 = .ok (.goto 4, 3) := by decide +kernel
theorem dX4_between_53 : decode cX4_between 53 = .ok (.iconst 0, 1) := by decide +kernel
theorem dX4_between_54 : decode cX4_between 54 = .ok (.istore 5, 2) := by decide +kernel
theorem dX4_between_56 : decode cX4_between 56 = .ok (.aload_n 0, 1) := by decide +kernel
theorem dX4_between_57 : decode cX4_between 57 = .ok (.iload 5, 2) := by decide +kernel
theorem dX4_between_59 : decode cX4_between 59 = .ok (.ifCond .eq 7, 3) := by decide +kernel
theorem dX4_between_62 : decode cX4_between 62 = .ok (.iconst 0, 1) := by decide +kernel
theorem dX4_between_63 : decode cX4_between 63 = .ok (.goto 4, 3) := by decide +kernel
theorem dX4_between_66 : decode cX4_between 66 = .ok (.iconst 1, 1) := by decide +kernel
theorem dX4_between_67 : decode cX4_between 67 = .ok (.putfield 23, 3) := by decide +kernel
theorem dX4_between_70 : decode cX4_between 70 = .ok (.aload_n 0, 1) := by decide +kernel
theorem dX4_between_71 : decode cX4_between 71 = .ok (.getfield 23, 3) := by decide +kernel
theorem dX4_between_74 : decode cX4_between 74 = .ok (.ifCond .gt 13, 3) := by decide +kernel
theorem dX4_between_77 : decode cX4_between 77 = .ok (.iload_n 1, 1) := by decide +kernel
theorem dX4_between_78 : decode cX4_between 78 = .ok (.iload 4, 2) := by decide +kernel
theorem dX4_between_80 : decode cX4_between 80 = .ok (.imul, 1) := by decide +kernel
theorem dX4_between_81 : decode cX4_between 81 = .ok (.iload_n 3, 1) := by decide +kernel
theorem dX4_between_82 : decode cX4_between 82 = .ok (.iload_n 2, 1) := by decide +kernel
theorem dX4_between_83 : decode cX4_between 83 = .ok (.imul, 1) := by decide +kernel
theorem dX4_between_84 : decode cX4_between 84 = .ok (.if_icmp .lt 5, 3) := by decide +kernel
theorem dX4_between_87 : decode cX4_between 87 = .ok (.iconst 0, 1) := by decide +kernel
theorem dX4_between_88 : decode cX4_between 88 = .ok (.ireturn, 1) := by decide +kernel
theorem dX4_between_89 : decode cX4_between 89 = .ok (.iconst 1, 1) := by decide +kernel
theorem dX4_between_90 : decode cX4_between 90 = .ok (.istore 6, 2) := by decide +kernel
theorem dX4_between_92 : decode cX4_between 92 = .ok (.iload_n 1, 1) := by decide +kernel
theorem dX4_between_93 : decode cX4_between 93 = .ok (.iload 6, 2) := by decide +kernel
theorem dX4_between_95 : decode cX4_between 95 = .ok (.imul, 1) := by decide +kernel
theorem dX4_between_96 : decode cX4_between 96 = .ok (.iload_n 2, 1) := by decide +kernel
theorem dX4_between_97 : decode cX4_between 97 = .ok (.idiv, 1) := by decide +kernel
theorem dX4_between_98 : decode cX4_between 98 = .ok (.iconst 1, 1) := by decide +kernel
theorem dX4_between_99 : decode cX4_between 99 = .ok (.iadd, 1) := by decide +kernel
theorem dX4_between_100 : decode cX4_between 100 = .ok (.iload 4, 2) := by decide +kernel
theorem dX4_between_102 : decode cX4_between 102 = .ok (.imul, 1) := by decide +kernel
theorem dX4_between_103 : decode cX4_between 103 = .ok (.iload_n 3, 1) := by decide +kernel
theorem dX4_between_104 : decode cX4_between 104 = .ok (.iload 6, 2) := by decide +kernel
theorem dX4_between_106 : decode cX4_between 106 = .ok (.imul, 1) := by decide +kernel
theorem dX4_between_107 : decode cX4_between 107 = .ok (.if_icmp .lt 9, 3) := by decide +kernel
theorem dX4_between_110 : decode cX4_between 110 = .ok (.iinc 6 1, 3) := by decide +kernel
theorem dX4_between_113 : decode cX4_between 113 = .ok (.goto (-21), 3) := by decide +kernel
theorem dX4_between_116 : decode cX4_between 116 = .ok (.aload_n 0, 1) := by decide +kernel
theorem dX4_between_117 : decode cX4_between 117 = .ok (.iload_n 1, 1) := by decide +kernel
theorem dX4_between_118 : decode cX4_between 118 = .ok (.iload 6, 2) := by decide +kernel
theorem dX4_between_120 : decode cX4_between 120 = .ok (.imul, 1) := by decide +kernel
theorem dX4_between_121 : decode cX4_between 121 = .ok (.iload_n 2, 1) := by decide +kernel
theorem dX4_between_122 : decode cX4_between 122 = .ok (.idiv, 1) := by decide +kernel
theorem dX4_between_123 : decode cX4_between 123 = .ok (.iconst 1, 1) := by decide +kernel
theorem dX4_between_124 : decode cX4_between 124 = .ok (.iadd, 1) := by decide +kernel
theorem dX4_between_125 : decode cX4_between 125 = .ok (.putfield 7, 3) := by decide +kernel
theorem dX4_between_128 : decode cX4_between 128 = .ok (.aload_n 0, 1) := by decide +kernel
theorem dX4_between_129 : decode cX4_between 129 = .ok (.iload 6, 2) := by decide +kernel
theorem dX4_between_131 : decode cX4_between 131 = .ok (.putfield 13, 3) := by decide +kernel
theorem dX4_between_134 : decode cX4_between 134 = .ok (.iconst 1, 1) := by decide +kernel
theorem dX4_between_135 : decode cX4_between 135 = .ok (.ireturn, 1) := by decide +kernel
set_option maxRecDepth 20000 in
theorem ggX4_row_X4_in : GoodIn wsX4_row wsX4_in := goodIn_r _ [6] (by decide +kernel) (by decide +kernel)
set_option maxRecDepth 20000 in
theorem gX4_row_X4_in : GoodIn wsX4_row (va_wsS RX4 32 yX4_in wsX4_in) := goodIn_app (goodIn_of _ (by decide +kernel)) ggX4_row_X4_in
set_option maxRecDepth 20000 in
theorem ggX4_row_X4_common : GoodIn wsX4_row wsX4_common := goodIn_r _ [9] (by decide +kernel) (by decide +kernel)
set_option maxRecDepth 20000 in
theorem gX4_row_X4_common : GoodIn wsX4_row (va_wsS RX4 26 yX4_common wsX4_common) := goodIn_app (goodIn_of _ (by decide +kernel)) ggX4_row_X4_common
theorem dX4_row_0 : decode cX4_row 0 = .ok (.aload_n 0, 1) := by decide +kernel
theorem dX4_row_1 : decode cX4_row 1 = .ok (.iconst 0, 1) := by decide +kernel
theorem dX4_row_2 : decode cX4_row 2 = .ok (.putfield 23, 3) := by decide +kernel
theorem dX4_row_5 : decode cX4_row 5 = .ok (.iload_n 1, 1) := by decide +kernel
theorem dX4_row_6 : decode cX4_row 6 = .ok (.i2l, 1) := by decide +kernel
theorem dX4_row_7 : decode cX4_row 7 = .ok (.lconst 1, 1) := by decide +kernel
theorem dX4_row_8 : decode cX4_row 8 = .ok (.ldc2_w 74, 3) := by decide +kernel
theorem dX4_row_11 : decode cX4_row 11 = .ok (.invokestatic 32, 3) := by decide +kernel
theorem dX4_row_14 : decode cX4_row 14 = .ok (.ifCond .ne 5, 3) := by decide +kernel
theorem dX4_row_17 : decode cX4_row 17 = .ok (.iconst (-1), 1) := by decide +kernel
theorem dX4_row_18 : decode cX4_row 18 = .ok (.ireturn, 1) := by decide +kernel
theorem dX4_row_19 : decode cX4_row 19 = .ok (.iconst 1, 1) := by decide +kernel
theorem dX4_row_20 : decode cX4_row 20 = .ok (.istore_n 2, 1) := by decide +kernel
theorem dX4_row_21 : decode cX4_row 21 = .ok (.iconst 1, 1) := by decide +kernel
theorem dX4_row_22 : decode cX4_row 22 = .ok (.istore_n 3, 1) := by decide +kernel
theorem dX4_row_23 : decode cX4_row 23 = .ok (.iload_n 3, 1) := by decide +kernel
theorem dX4_row_24 : decode cX4_row 24 = .ok (.iload_n 1, 1) := by decide +kernel
theorem dX4_row_25 : decode cX4_row 25 = .ok (.if_icmp .gt 45, 3) := by decide +kernel
theorem dX4_row_28 : decode cX4_row 28 = .ok (.iconst 1, 1) := by decide +kernel
theorem dX4_row_29 : decode cX4_row 29 = .ok (.istore 4, 2) := by decide +kernel
theorem dX4_row_31 : decode cX4_row 31 = .ok (.iload 4, 2) := by decide +kernel
theorem dX4_row_33 : decode cX4_row 33 = .ok (.iload_n 3, 1) := by decide +kernel
theorem dX4_row_34 : decode cX4_row 34 = .ok (.if_icmp .gt 30, 3) := by decide +kernel
theorem dX4_row_37 : decode cX4_row 37 = .ok (.iload 4, 2) := by decide +kernel
theorem dX4_row_39 : decode cX4_row 39 = .ok (.i2l, 1) := by decide +kernel
theorem dX4_row_40 : decode cX4_row 40 = .ok (.iload_n 3, 1) := by decide +kernel
theorem dX4_row_41 : decode cX4_row 41 = .ok (.i2l, 1) := by decide +kernel
theorem dX4_row_42 : decode cX4_row 42 = .ok (.invokestatic 26, 3) := by decide +kernel
theorem dX4_row_45 : decode cX4_row 45 = .ok (.lconst 1, 1) := by decide +kernel
theorem dX4_row_46 : decode cX4_row 46 = .ok (.lcmp, 1) := by decide +kernel
theorem dX4_row_47 : decode cX4_row 47 = .ok (.ifCond .ne 9, 3) := by decide +kernel
theorem dX4_row_50 : decode cX4_row 50 = .ok (.iload_n 2, 1) := by decide +kernel
theorem dX4_row_51 : decode cX4_row 51 = .ok (.iconst 1, 1) := by decide +kernel
theorem dX4_row_52 : decode cX4_row 52 = .ok (.iadd, 1) := by decide +kernel
theorem dX4_row_53 : decode cX4_row 53 = .ok (.goto 4, 3) := by decide +kernel
theorem dX4_row_56 : decode cX4_row 56 = .ok (.iload_n 2, 1) := by decide +kernel
theorem dX4_row_57 : decode cX4_row 57 = .ok (.istore_n 2, 1) := by decide +kernel
theorem dX4_row_58 : decode cX4_row 58 = .ok (.iinc 4 1, 3) := by decide +kernel
theorem dX4_row_61 : decode cX4_row 61 = .ok (.goto (-30), 3) := by decide +kernel
theorem dX4_row_64 : decode cX4_row 64 = .ok (.iinc 3 1, 3) := by decide +kernel
theorem dX4_row_67 : decode cX4_row 67 = .ok (.goto (-44), 3) := by decide +kernel
theorem dX4_row_70 : decode cX4_row 70 = .ok (.iload_n 2, 1) := by decide +kernel
theorem dX4_row_71 : decode cX4_row 71 = .ok (.ireturn, 1) := by decide +kernel
set_option maxRecDepth 20000 in
theorem ggX4_pick_X4_row : GoodIn wsX4_pick wsX4_row := goodIn_r _ [7, 8, 9, 10, 11, 6, 12, 13, 14, 15, 16, 17, 18, 19, 20, 21, 22, 23, 24, 25, 26] (by decide +kernel) (by decide +kernel)
set_option maxRecDepth 20000 in
theorem gX4_pick_X4_row : GoodIn wsX4_pick (wsV RX4 76 RX4 yX4_row wsX4_row) := goodIn_app (goodIn_of _ (by decide +kernel)) ggX4_pick_X4_row
theorem dX4_pick_0 : decode cX4_pick 0 = .ok (.aload_n 0, 1) := by decide +kernel
theorem dX4_pick_1 : decode cX4_pick 1 = .ok (.iload_n 1, 1) := by decide +kernel
theorem dX4_pick_2 : decode cX4_pick 2 = .ok (.invokevirtual 76, 3) := by decide +kernel
theorem dX4_pick_5 : decode cX4_pick 5 = .ok (.istore_n 3, 1) := by decide +kernel
theorem dX4_pick_6 : decode cX4_pick 6 = .ok (.iload_n 2, 1) := by decide +kernel
theorem dX4_pick_7 : decode cX4_pick 7 = .ok (.ifCond .lt 8, 3) := by decide +kernel
theorem dX4_pick_10 : decode cX4_pick 10 = .ok (.iload_n 2, 1) := by decide +kernel
theorem dX4_pick_11 : decode cX4_pick 11 = .ok (.iload_n 3, 1) := by decide +kernel
theorem dX4_pick_12 : decode cX4_pick 12 = .ok (.if_icmp .lt 5, 3) := by decide +kernel
theorem dX4_pick_15 : decode cX4_pick 15 = .ok (.iconst 0, 1) := by decide +kernel
theorem dX4_pick_16 : decode cX4_pick 16 = .ok (.ireturn, 1) := by decide +kernel
theorem dX4_pick_17 : decode cX4_pick 17 = .ok (.iconst 0, 1) := by decide +kernel
theorem dX4_pick_18 : decode cX4_pick 18 = .ok (.istore 4, 2) := by decide +kernel
theorem dX4_pick_20 : decode cX4_pick 20 = .ok (.iconst 1, 1) := by decide +kernel
theorem dX4_pick_21 : decode cX4_pick 21 = .ok (.istore 5, 2) := by decide +kernel
theorem dX4_pick_23 : decode cX4_pick 23 = .ok (.iconst 1, 1) := by decide +kernel
theorem dX4_pick_24 : decode cX4_pick 24 = .ok (.istore 6, 2) := by decide +kernel
theorem dX4_pick_26 : decode cX4_pick 26 = .ok (.iload_n 1, 1) := by decide +kernel
theorem dX4_pick_27 : decode cX4_pick 27 = .ok (.istore 7, 2) := by decide +kernel
theorem dX4_pick_29 : decode cX4_pick 29 = .ok (.iconst 0, 1) := by decide +kernel
theorem dX4_pick_30 : decode cX4_pick 30 = .ok (.istore 8, 2) := by decide +kernel
theorem dX4_pick_32 : decode cX4_pick 32 = .ok (.iload 8, 2) := by decide +kernel
theorem dX4_pick_34 : decode cX4_pick 34 = .ok (.iload_n 2, 1) := by decide +kernel
theorem dX4_pick_35 : decode cX4_pick 35 = .ok (.if_icmp .ge 54, 3) := by decide +kernel
theorem dX4_pick_38 : decode cX4_pick 38 = .ok (.iload_n 1, 1) := by decide +kernel
theorem dX4_pick_39 : decode cX4_pick 39 = .ok (.iload 5, 2) := by decide +kernel
theorem dX4_pick_41 : decode cX4_pick 41 = .ok (.iadd, 1) := by decide +kernel
theorem dX4_pick_42 : decode cX4_pick 42 = .ok (.iload 7, 2) := by decide +kernel
theorem dX4_pick_44 : decode cX4_pick 44 = .ok (.idiv, 1) := by decide +kernel
theorem dX4_pick_45 : decode cX4_pick 45 = .ok (.istore 9, 2) := by decide +kernel
theorem dX4_pick_47 : decode cX4_pick 47 = .ok (.iload 9, 2) := by decide +kernel
theorem dX4_pick_49 : decode cX4_pick 49 = .ok (.iload 6, 2) := by decide +kernel
theorem dX4_pick_51 : decode cX4_pick 51 = .ok (.imul, 1) := by decide +kernel
theorem dX4_pick_52 : decode cX4_pick 52 = .ok (.iload 4, 2) := by decide +kernel
theorem dX4_pick_54 : decode cX4_pick 54 = .ok (.isub, 1) := by decide +kernel
theorem dX4_pick_55 : decode cX4_pick 55 = .ok (.istore 10, 2) := by decide +kernel
theorem dX4_pick_57 : decode cX4_pick 57 = .ok (.iload 9, 2) := by decide +kernel
theorem dX4_pick_59 : decode cX4_pick 59 = .ok (.iload 7, 2) := by decide +kernel
theorem dX4_pick_61 : decode cX4_pick 61 = .ok (.imul, 1) := by decide +kernel
theorem dX4_pick_62 : decode cX4_pick 62 = .ok (.iload 5, 2) := by decide +kernel
theorem dX4_pick_64 : decode cX4_pick 64 = .ok (.isub, 1) := by decide +kernel
theorem dX4_pick_65 : decode cX4_pick 65 = .ok (.istore 11, 2) := by decide +kernel
theorem dX4_pick_67 : decode cX4_pick 67 = .ok (.iload 6, 2) := by decide +kernel
theorem dX4_pick_69 : decode cX4_pick 69 = .ok (.istore 4, 2) := by decide +kernel
theorem dX4_pick_71 : decode cX4_pick 71 = .ok (.iload 7, 2) := by decide +kernel
theorem dX4_pick_73 : decode cX4_pick 73 = .ok (.istore 5, 2) := by decide +kernel
theorem dX4_pick_75 : decode cX4_pick 75 = .ok (.iload 10, 2) := by decide +kernel
theorem dX4_pick_77 : decode cX4_pick 77 = .ok (.istore 6, 2) := by decide +kernel
theorem dX4_pick_79 : decode cX4_pick 79 = .ok (.iload 11, 2) := by decide +kernel
theorem dX4_pick_81 : decode cX4_pick 81 = .ok (.istore 7, 2) := by decide +kernel
theorem dX4_pick_83 : decode cX4_pick 83 = .ok (.iinc 8 1, 3) := by decide +kernel
theorem dX4_pick_86 : decode cX4_pick 86 = .ok (.goto (-54), 3) := by decide +kernel
theorem dX4_pick_89 : decode cX4_pick 89 = .ok (.aload_n 0, 1) := by decide +kernel
theorem dX4_pick_90 : decode cX4_pick 90 = .ok (.iload 4, 2) := by decide +kernel
theorem dX4_pick_92 : decode cX4_pick 92 = .ok (.putfield 7, 3) := by decide +kernel
theorem dX4_pick_95 : decode cX4_pick 95 = .ok (.aload_n 0, 1) := by decide +kernel
theorem dX4_pick_96 : decode cX4_pick 96 = .ok (.iload 5, 2) := by decide +kernel
theorem dX4_pick_98 : decode cX4_pick 98 = .ok (.putfield 13, 3) := by decide +kernel
theorem dX4_pick_101 : decode cX4_pick 101 = .ok (.iconst 1, 1) := by decide +kernel
theorem dX4_pick_102 : decode cX4_pick 102 = .ok (.ireturn, 1) := by decide +kernel
set_option maxRecDepth 20000 in
theorem ggX4_place_X4_in : GoodIn wsX4_place wsX4_in := goodIn_r _ [8] (by decide +kernel) (by decide +kernel)
set_option maxRecDepth 20000 in
theorem gX4_place_X4_in : GoodIn wsX4_place (va_wsS RX4 32 yX4_in wsX4_in) := goodIn_app (goodIn_of _ (by decide +kernel)) ggX4_place_X4_in
set_option maxRecDepth 20000 in
theorem ggX4_place_X4_common : GoodIn wsX4_place wsX4_common := goodIn_r _ [11] (by decide +kernel) (by decide +kernel)
set_option maxRecDepth 20000 in
theorem gX4_place_X4_common : GoodIn wsX4_place (va_wsS RX4 26 yX4_common wsX4_common) := goodIn_app (goodIn_of _ (by decide +kernel)) ggX4_place_X4_common
theorem dX4_place_0 : decode cX4_place 0 = .ok (.aload_n 0, 1) := by decide +kernel
theorem dX4_place_1 : decode cX4_place 1 = .ok (.iconst 0, 1) := by decide +kernel
theorem dX4_place_2 : decode cX4_place 2 = .ok (.putfield 23, 3) := by decide +kernel
theorem dX4_place_5 : decode cX4_place 5 = .ok (.iload_n 1, 1) := by decide +kernel
theorem dX4_place_6 : decode cX4_place 6 = .ok (.i2l, 1) := by decide +kernel
theorem dX4_place_7 : decode cX4_place 7 = .ok (.lconst 1, 1) := by decide +kernel
theorem dX4_place_8 : decode cX4_place 8 = .ok (.ldc2_w 74, 3) := by decide +kernel
theorem dX4_place_11 : decode cX4_place 11 = .ok (.invokestatic 32, 3) := by decide +kernel
theorem dX4_place_14 : decode cX4_place 14 = .ok (.ifCond .ne 5, 3) := by decide +kernel
theorem dX4_place_17 : decode cX4_place 17 = .ok (.iconst (-1), 1) := by decide +kernel
theorem dX4_place_18 : decode cX4_place 18 = .ok (.ireturn, 1) := by decide +kernel
theorem dX4_place_19 : decode cX4_place 19 = .ok (.aload_n 0, 1) := by decide +kernel
theorem dX4_place_20 : decode cX4_place 20 = .ok (.getfield 7, 3) := by decide +kernel
theorem dX4_place_23 : decode cX4_place 23 = .ok (.ifCond .le 7, 3) := by decide +kernel
theorem dX4_place_26 : decode cX4_place 26 = .ok (.iconst 1, 1) := by decide +kernel
theorem dX4_place_27 : decode cX4_place 27 = .ok (.goto 4, 3) := by decide +kernel
theorem dX4_place_30 : decode cX4_place 30 = .ok (.iconst 0, 1) := by decide +kernel
theorem dX4_place_31 : decode cX4_place 31 = .ok (.istore_n 2, 1) := by decide +kernel
theorem dX4_place_32 : decode cX4_place 32 = .ok (.iconst 1, 1) := by decide +kernel
theorem dX4_place_33 : decode cX4_place 33 = .ok (.istore_n 3, 1) := by decide +kernel
theorem dX4_place_34 : decode cX4_place 34 = .ok (.iload_n 3, 1) := by decide +kernel
theorem dX4_place_35 : decode cX4_place 35 = .ok (.iload_n 1, 1) := by decide +kernel
theorem dX4_place_36 : decode cX4_place 36 = .ok (.if_icmp .gt 66, 3) := by decide +kernel
theorem dX4_place_39 : decode cX4_place 39 = .ok (.iconst 1, 1) := by decide +kernel
theorem dX4_place_40 : decode cX4_place 40 = .ok (.istore 4, 2) := by decide +kernel
theorem dX4_place_42 : decode cX4_place 42 = .ok (.iload 4, 2) := by decide +kernel
theorem dX4_place_44 : decode cX4_place 44 = .ok (.iload_n 3, 1) := by decide +kernel
theorem dX4_place_45 : decode cX4_place 45 = .ok (.if_icmp .gt 51, 3) := by decide +kernel
theorem dX4_place_48 : decode cX4_place 48 = .ok (.iload 4, 2) := by decide +kernel
theorem dX4_place_50 : decode cX4_place 50 = .ok (.i2l, 1) := by decide +kernel
theorem dX4_place_51 : decode cX4_place 51 = .ok (.aload_n 0, 1) := by decide +kernel
theorem dX4_place_52 : decode cX4_place 52 = .ok (.getfield 13, 3) := by decide +kernel
theorem dX4_place_55 : decode cX4_place 55 = .ok (.i2l, 1) := by decide +kernel
theorem dX4_place_56 : decode cX4_place 56 = .ok (.lmul, 1) := by decide +kernel
theorem dX4_place_57 : decode cX4_place 57 = .ok (.aload_n 0, 1) := by decide +kernel
theorem dX4_place_58 : decode cX4_place 58 = .ok (.getfield 7, 3) := by decide +kernel
theorem dX4_place_61 : decode cX4_place 61 = .ok (.i2l, 1) := by decide +kernel
theorem dX4_place_62 : decode cX4_place 62 = .ok (.iload_n 3, 1) := by decide +kernel
theorem dX4_place_63 : decode cX4_place 63 = .ok (.i2l, 1) := by decide +kernel
theorem dX4_place_64 : decode cX4_place 64 = .ok (.lmul, 1) := by decide +kernel
theorem dX4_place_65 : decode cX4_place 65 = .ok (.lcmp, 1) := by decide +kernel
theorem dX4_place_66 : decode cX4_place 66 = .ok (.ifCond .ge 22, 3) := by decide +kernel
theorem dX4_place_69 : decode cX4_place 69 = .ok (.iload 4, 2) := by decide +kernel
theorem dX4_place_71 : decode cX4_place 71 = .ok (.i2l, 1) := by decide +kernel
theorem dX4_place_72 : decode cX4_place 72 = .ok (.iload_n 3, 1) := by decide +kernel
theorem dX4_place_73 : decode cX4_place 73 = .ok (.i2l, 1) := by decide +kernel
theorem dX4_place_74 : decode cX4_place 74 = .ok (.invokestatic 26, 3) := by decide +kernel
theorem dX4_place_77 : decode cX4_place 77 = .ok (.lconst 1, 1) := by decide +kernel
theorem dX4_place_78 : decode cX4_place 78 = .ok (.lcmp, 1) := by decide +kernel
theorem dX4_place_79 : decode cX4_place 79 = .ok (.ifCond .ne 9, 3) := by decide +kernel
theorem dX4_place_82 : decode cX4_place 82 = .ok (.iload_n 2, 1) := by decide +kernel
theorem dX4_place_83 : decode cX4_place 83 = .ok (.iconst 1, 1) := by decide +kernel
theorem dX4_place_84 : decode cX4_place 84 = .ok (.iadd, 1) := by decide +kernel
theorem dX4_place_85 : decode cX4_place 85 = .ok (.goto 4, 3) := by decide +kernel
theorem dX4_place_88 : decode cX4_place 88 = .ok (.iload_n 2, 1) := by decide +kernel
theorem dX4_place_89 : decode cX4_place 89 = .ok (.istore_n 2, 1) := by decide +kernel
theorem dX4_place_90 : decode cX4_place 90 = .ok (.iinc 4 1, 3) := by decide +kernel
theorem dX4_place_93 : decode cX4_place 93 = .ok (.goto (-51), 3) := by decide +kernel
theorem dX4_place_96 : decode cX4_place 96 = .ok (.iinc 3 1, 3) := by decide +kernel
theorem dX4_place_99 : decode cX4_place 99 = .ok (.goto (-65), 3) := by decide +kernel
theorem dX4_place_102 : decode cX4_place 102 = .ok (.iload_n 2, 1) := by decide +kernel
theorem dX4_place_103 : decode cX4_place 103 = .ok (.ireturn, 1) := by decide +kernel
set_option maxRecDepth 20000 in
theorem ggX4_floors_X4_in : GoodIn wsX4_floors wsX4_in := goodIn_r _ [9] (by decide +kernel) (by decide +kernel)
set_option maxRecDepth 20000 in
theorem gX4_floors_X4_in : GoodIn wsX4_floors (va_wsS RX4 32 yX4_in wsX4_in) := goodIn_app (goodIn_of _ (by decide +kernel)) ggX4_floors_X4_in
theorem dX4_floors_0 : decode cX4_floors 0 = .ok (.aload_n 0, 1) := by decide +kernel
theorem dX4_floors_1 : decode cX4_floors 1 = .ok (.iconst 0, 1) := by decide +kernel
theorem dX4_floors_2 : decode cX4_floors 2 = .ok (.putfield 23, 3) := by decide +kernel
theorem dX4_floors_5 : decode cX4_floors 5 = .ok (.iload_n 1, 1) := by decide +kernel
theorem dX4_floors_6 : decode cX4_floors 6 = .ok (.i2l, 1) := by decide +kernel
theorem dX4_floors_7 : decode cX4_floors 7 = .ok (.lconst 0, 1) := by decide +kernel
theorem dX4_floors_8 : decode cX4_floors 8 = .ok (.ldc2_w 30, 3) := by decide +kernel
theorem dX4_floors_11 : decode cX4_floors 11 = .ok (.invokestatic 32, 3) := by decide +kernel
theorem dX4_floors_14 : decode cX4_floors 14 = .ok (.ifCond .ne 7, 3) := by decide +kernel
theorem dX4_floors_17 : decode cX4_floors 17 = .ok (.ldc2_w 80, 3) := by decide +kernel
theorem dX4_floors_20 : decode cX4_floors 20 = .ok (.lreturn, 1) := by decide +kernel
theorem dX4_floors_21 : decode cX4_floors 21 = .ok (.lconst 0, 1) := by decide +kernel
theorem dX4_floors_22 : decode cX4_floors 22 = .ok (.lstore_n 2, 1) := by decide +kernel
theorem dX4_floors_23 : decode cX4_floors 23 = .ok (.lconst 0, 1) := by decide +kernel
theorem dX4_floors_24 : decode cX4_floors 24 = .ok (.lstore 4, 2) := by decide +kernel
theorem dX4_floors_26 : decode cX4_floors 26 = .ok (.lload 4, 2) := by decide +kernel
theorem dX4_floors_28 : decode cX4_floors 28 = .ok (.iload_n 1, 1) := by decide +kernel
theorem dX4_floors_29 : decode cX4_floors 29 = .ok (.i2l, 1) := by decide +kernel
theorem dX4_floors_30 : decode cX4_floors 30 = .ok (.lcmp, 1) := by decide +kernel
theorem dX4_floors_31 : decode cX4_floors 31 = .ok (.ifCond .ge 29, 3) := by decide +kernel
theorem dX4_floors_34 : decode cX4_floors 34 = .ok (.lload_n 2, 1) := by decide +kernel
theorem dX4_floors_35 : decode cX4_floors 35 = .ok (.lload 4, 2) := by decide +kernel
theorem dX4_floors_37 : decode cX4_floors 37 = .ok (.aload_n 0, 1) := by decide +kernel
theorem dX4_floors_38 : decode cX4_floors 38 = .ok (.getfield 7, 3) := by decide +kernel
theorem dX4_floors_41 : decode cX4_floors 41 = .ok (.i2l, 1) := by decide +kernel
theorem dX4_floors_42 : decode cX4_floors 42 = .ok (.lmul, 1) := by decide +kernel
theorem dX4_floors_43 : decode cX4_floors 43 = .ok (.aload_n 0, 1) := by decide +kernel
theorem dX4_floors_44 : decode cX4_floors 44 = .ok (.getfield 13, 3) := by decide +kernel
theorem dX4_floors_47 : decode cX4_floors 47 = .ok (.i2l, 1) := by decide +kernel
theorem dX4_floors_48 : decode cX4_floors 48 = .ok (.ldiv, 1) := by decide +kernel
theorem dX4_floors_49 : decode cX4_floors 49 = .ok (.ladd, 1) := by decide +kernel
theorem dX4_floors_50 : decode cX4_floors 50 = .ok (.lstore_n 2, 1) := by decide +kernel
theorem dX4_floors_51 : decode cX4_floors 51 = .ok (.lload 4, 2) := by decide +kernel
theorem dX4_floors_53 : decode cX4_floors 53 = .ok (.lconst 1, 1) := by decide +kernel
theorem dX4_floors_54 : decode cX4_floors 54 = .ok (.ladd, 1) := by decide +kernel
theorem dX4_floors_55 : decode cX4_floors 55 = .ok (.lstore 4, 2) := by decide +kernel
theorem dX4_floors_57 : decode cX4_floors 57 = .ok (.goto (-31), 3) := by decide +kernel
theorem dX4_floors_60 : decode cX4_floors 60 = .ok (.lload_n 2, 1) := by decide +kernel
theorem dX4_floors_61 : decode cX4_floors 61 = .ok (.lreturn, 1) := by decide +kernel
theorem dX4_sawteeth_0 : decode cX4_sawteeth 0 = .ok (.aload_n 0, 1) := by decide +kernel
theorem dX4_sawteeth_1 : decode cX4_sawteeth 1 = .ok (.iconst 0, 1) := by decide +kernel
theorem dX4_sawteeth_2 : decode cX4_sawteeth 2 = .ok (.putfield 23, 3) := by decide +kernel
theorem dX4_sawteeth_5 : decode cX4_sawteeth 5 = .ok (.lconst 0, 1) := by decide +kernel
theorem dX4_sawteeth_6 : decode cX4_sawteeth 6 = .ok (.lstore_n 1, 1) := by decide +kernel
theorem dX4_sawteeth_7 : decode cX4_sawteeth 7 = .ok (.lconst 0, 1) := by decide +kernel
theorem dX4_sawteeth_8 : decode cX4_sawteeth 8 = .ok (.lstore_n 3, 1) := by decide +kernel
theorem dX4_sawteeth_9 : decode cX4_sawteeth 9 = .ok (.lconst 1, 1) := by decide +kernel
theorem dX4_sawteeth_10 : decode cX4_sawteeth 10 = .ok (.lstore 5, 2) := by decide +kernel
theorem dX4_sawteeth_12 : decode cX4_sawteeth 12 = .ok (.lload 5, 2) := by decide +kernel
theorem dX4_sawteeth_14 : decode cX4_sawteeth 14 = .ok (.aload_n 0, 1) := by decide +kernel
theorem dX4_sawteeth_15 : decode cX4_sawteeth 15 = .ok (.getfield 13, 3) := by decide +kernel
theorem dX4_sawteeth_18 : decode cX4_sawteeth 18 = .ok (.i2l, 1) := by decide +kernel
theorem dX4_sawteeth_19 : decode cX4_sawteeth 19 = .ok (.lcmp, 1) := by decide +kernel
theorem dX4_sawteeth_20 : decode cX4_sawteeth 20 = .ok (.ifCond .ge 53, 3) := by decide +kernel
theorem dX4_sawteeth_23 : decode cX4_sawteeth 23 = .ok (.lload_n 3, 1) := by decide +kernel
theorem dX4_sawteeth_24 : decode cX4_sawteeth 24 = .ok (.aload_n 0, 1) := by decide +kernel
theorem dX4_sawteeth_25 : decode cX4_sawteeth 25 = .ok (.getfield 7, 3) := by decide +kernel
theorem dX4_sawteeth_28 : decode cX4_sawteeth 28 = .ok (.i2l, 1) := by decide +kernel
theorem dX4_sawteeth_29 : decode cX4_sawteeth 29 = .ok (.ladd, 1) := by decide +kernel
theorem dX4_sawteeth_30 : decode cX4_sawteeth 30 = .ok (.aload_n 0, 1) := by decide +kernel
theorem dX4_sawteeth_31 : decode cX4_sawteeth 31 = .ok (.getfield 13, 3) := by decide +kernel
theorem dX4_sawteeth_34 : decode cX4_sawteeth 34 = .ok (.i2l, 1) := by decide +kernel
theorem dX4_sawteeth_35 : decode cX4_sawteeth 35 = .ok (.lrem, 1) := by decide +kernel
theorem dX4_sawteeth_36 : decode cX4_sawteeth 36 = .ok (.lstore_n 3, 1) := by decide +kernel
theorem dX4_sawteeth_37 : decode cX4_sawteeth 37 = .ok (.lload_n 1, 1) := by decide +kernel
theorem dX4_sawteeth_38 : decode cX4_sawteeth 38 = .ok (.ldc2_w 70, 3) := by decide +kernel
theorem dX4_sawteeth_41 : decode cX4_sawteeth 41 = .ok (.lload 5, 2) := by decide +kernel
theorem dX4_sawteeth_43 : decode cX4_sawteeth 43 = .ok (.lmul, 1) := by decide +kernel
theorem dX4_sawteeth_44 : decode cX4_sawteeth 44 = .ok (.aload_n 0, 1) := by decide +kernel
theorem dX4_sawteeth_45 : decode cX4_sawteeth 45 = .ok (.getfield 13, 3) := by decide +kernel
theorem dX4_sawteeth_48 : decode cX4_sawteeth 48 = .ok (.i2l, 1) := by decide +kernel
theorem dX4_sawteeth_49 : decode cX4_sawteeth 49 = .ok (.lsub, 1) := by decide +kernel
theorem dX4_sawteeth_50 : decode cX4_sawteeth 50 = .ok (.ldc2_w 70, 3) := by decide +kernel
theorem dX4_sawteeth_53 : decode cX4_sawteeth 53 = .ok (.lload_n 3, 1) := by decide +kernel
theorem dX4_sawteeth_54 : decode cX4_sawteeth 54 = .ok (.lmul, 1) := by decide +kernel
theorem dX4_sawteeth_55 : decode cX4_sawteeth 55 = .ok (.aload_n 0, 1) := by decide +kernel
theorem dX4_sawteeth_56 : decode cX4_sawteeth 56 = .ok (.getfield 13, 3) := by decide +kernel
theorem dX4_sawteeth_59 : decode cX4_sawteeth 59 = .ok (.i2l, 1) := by decide +kernel
theorem dX4_sawteeth_60 : decode cX4_sawteeth 60 = .ok (.lsub, 1) := by decide +kernel
theorem dX4_sawteeth_61 : decode cX4_sawteeth 61 = .ok (.lmul, 1) := by decide +kernel
theorem dX4_sawteeth_62 : decode cX4_sawteeth 62 = .ok (.ladd, 1) := by decide +kernel
theorem dX4_sawteeth_63 : decode cX4_sawteeth 63 = .ok (.lstore_n 1, 1) := by decide +kernel
theorem dX4_sawteeth_64 : decode cX4_sawteeth 64 = .ok (.lload 5, 2) := by decide +kernel
theorem dX4_sawteeth_66 : decode cX4_sawteeth 66 = .ok (.lconst 1, 1) := by decide +kernel
theorem dX4_sawteeth_67 : decode cX4_sawteeth 67 = .ok (.ladd, 1) := by decide +kernel
theorem dX4_sawteeth_68 : decode cX4_sawteeth 68 = .ok (.lstore 5, 2) := by decide +kernel
theorem dX4_sawteeth_70 : decode cX4_sawteeth 70 = .ok (.goto (-58), 3) := by decide +kernel
theorem dX4_sawteeth_73 : decode cX4_sawteeth 73 = .ok (.ldc2_w 82, 3) := by decide +kernel
theorem dX4_sawteeth_76 : decode cX4_sawteeth 76 = .ok (.lload_n 1, 1) := by decide +kernel
theorem dX4_sawteeth_77 : decode cX4_sawteeth 77 = .ok (.lmul, 1) := by decide +kernel
theorem dX4_sawteeth_78 : decode cX4_sawteeth 78 = .ok (.ldc2_w 70, 3) := by decide +kernel
theorem dX4_sawteeth_81 : decode cX4_sawteeth 81 = .ok (.aload_n 0, 1) := by decide +kernel
theorem dX4_sawteeth_82 : decode cX4_sawteeth 82 = .ok (.getfield 13, 3) := by decide +kernel
theorem dX4_sawteeth_85 : decode cX4_sawteeth 85 = .ok (.i2l, 1) := by decide +kernel
theorem dX4_sawteeth_86 : decode cX4_sawteeth 86 = .ok (.lmul, 1) := by decide +kernel
theorem dX4_sawteeth_87 : decode cX4_sawteeth 87 = .ok (.ldiv, 1) := by decide +kernel
theorem dX4_sawteeth_88 : decode cX4_sawteeth 88 = .ok (.lreturn, 1) := by decide +kernel
theorem dX4_check_0 : decode cX4_check 0 = .ok (.aload_n 0, 1) := by decide +kernel
theorem dX4_check_1 : decode cX4_check 1 = .ok (.iconst 0, 1) := by decide +kernel
theorem dX4_check_2 : decode cX4_check 2 = .ok (.putfield 23, 3) := by decide +kernel
theorem dX4_check_5 : decode cX4_check 5 = .ok (.iconst 1, 1) := by decide +kernel
theorem dX4_check_6 : decode cX4_check 6 = .ok (.ireturn, 1) := by decide +kernel
end
section
/-! base: the worlds' premises, calls by kind (a callee that changes nothing, one that changes its cells, one that makes an object), small steps of the pure texts -/
def nw_ok (U : State) : Prop := va_Nw (.methodLinkNest RX2 23 yX3_sumOfFloors "SternDesk") U ∧ va_Nw (.methodLinkNest RX3 9 yX0_init "SternDesk") U
def gK (G : va_G) (cI : ClassId) (U : State) : Prop := va_K G vwCl [(cI, .int)] U ∧ nw_ok U
theorem gK.moved {G : va_G} {cI : ClassId} {s U : State} (hW : s.WarmedH U.vm) (h : gK G cI s) : gK G cI U := ⟨va_K.moved hW.alike h.1, va_Nw.warmM hW h.2.1, va_Nw.warmM hW h.2.2⟩
def gR (G : va_G) (cI : ClassId) (ws : va_W) (sz : Nat) (U : State) : Prop := U.heap.size = sz ∧ va_P G vwCl ws U.heap ∧ gK G cI U
def gM (G : va_G) (cI : ClassId) (ws : va_W) (sz : Nat) (U : State) : Prop := U.heap.size = sz ∧ va_P G vwCl ws U.heap ∧ gK G cI U ∧ va_D (fun _ => True) ws
theorem gK.calling {G : va_G} {cI : ClassId} {U : State} {g : JFrame} {mk : MethodId} {a : Array Value} (h : gK G cI U) : gK G cI (U.calling g mk a) := ⟨va_K.moved (u := U) (U := U.calling g mk a) (Vm.Alike.refl U.vm) h.1, va_Nw.same rfl (show U.vm = (U.calling g mk a).vm from rfl) h.2.1, va_Nw.same rfl (show U.vm = (U.calling g mk a).vm from rfl) h.2.2⟩
theorem gR.blind {G : va_G} {cI : ClassId} {ws : va_W} {sz : Nat} {av : List Value} : FrameBlind (va_Pc av (gR G cI ws sz)) := fun _ _ _ _ q => ⟨q.1, q.2.1, q.2.2.1, q.2.2.2.calling⟩
theorem gM.blind {G : va_G} {cI : ClassId} {ws : va_W} {sz : Nat} {av : List Value} : FrameBlind (va_Pc av (gM G cI ws sz)) := fun _ _ _ _ q => ⟨q.1, q.2.1, q.2.2.1, q.2.2.2.1.calling, q.2.2.2.2⟩
/-- contracts: nothing old changes, the answer is v -/
abbrev mRi (l : Launch) (y : MethodName) (ws : List Cond) (rm : Room) (av : List Value) (G : va_G) (cI : ClassId) (wc : va_W) (sz : Nat) (v : Int32) : Prop := Met l y ws rm (va_Pc av (gR G cI wc sz)) (va_Qi (fun (r : Int32) (_ : Unit) => r = v) (fun _ _ => True) (va_A [] sz)) 0 0 (va_A [] sz)
abbrev mRl (l : Launch) (y : MethodName) (ws : List Cond) (rm : Room) (av : List Value) (G : va_G) (cI : ClassId) (wc : va_W) (sz : Nat) (v : Int64) : Prop := Met l y ws rm (va_Pc av (gR G cI wc sz)) (va_Ql (fun (r : Int64) (_ : Unit) => r = v) (fun _ _ => True) (va_A [] sz)) 0 0 (va_A [] sz)
/-- .. a new object comes back, nothing old changes -/
abbrev mNr (l : Launch) (y : MethodName) (ws : List Cond) (rm : Room) (av : List Value) (G : va_G) (cI : ClassId) (wc : va_W) (sz : Nat) (ce : va_E) (mc ms : Nat) : Prop := Met l y ws rm (va_Pc av (gM G cI wc sz)) (va_Qr (fun (_ : Unit) => True) (fun _ a t => va_P G vwCl (wc ++ [(a, ce)]) t.heap ∧ va_D (va_A wc sz) (wc ++ [(a, ce)])) (va_A wc sz)) mc ms (va_A wc sz)
/-- .. the cells wc become w1 -/
abbrev mMv (l : Launch) (y : MethodName) (ws : List Cond) (rm : Room) (av : List Value) (G : va_G) (cI : ClassId) (wc : va_W) (sz : Nat) (w1 : va_W) (mc ms : Nat) : Prop := Met l y ws rm (va_Pc av (gM G cI wc sz)) (va_Qv (fun (_ : Unit) => True) (fun _ t => va_P G vwCl w1 t.heap ∧ va_D (va_A wc sz) w1) (va_A wc sz)) mc ms (va_A wc sz)
abbrev mMi (l : Launch) (y : MethodName) (ws : List Cond) (rm : Room) (av : List Value) (G : va_G) (cI : ClassId) (wc : va_W) (sz : Nat) (v : Int32) (w1 : va_W) (mc ms : Nat) : Prop := Met l y ws rm (va_Pc av (gM G cI wc sz)) (va_Qi (fun (r : Int32) (_ : Unit) => r = v) (fun _ t => va_P G vwCl w1 t.heap ∧ va_D (va_A wc sz) w1) (va_A wc sz)) mc ms (va_A wc sz)
abbrev mMl (l : Launch) (y : MethodName) (ws : List Cond) (rm : Room) (av : List Value) (G : va_G) (cI : ClassId) (wc : va_W) (sz : Nat) (v : Int64) (w1 : va_W) (mc ms : Nat) : Prop := Met l y ws rm (va_Pc av (gM G cI wc sz)) (va_Ql (fun (r : Int64) (_ : Unit) => r = v) (fun _ t => va_P G vwCl w1 t.heap ∧ va_D (va_A wc sz) w1) (va_A wc sz)) mc ms (va_A wc sz)
theorem nA {sz q : Nat} (h : va_A [] sz q) : sz ≤ q := h.elim (fun ⟨_, _, hh⟩ => by simp at hh) id
theorem keptP {G : va_G} {wA : va_W} {H H1 : Heap} (hP : va_P G vwCl wA H) (hk : ∀ q : Nat, q < H.size → ¬ va_A [] H.size q → H1[q]? = H[q]?) : va_P G vwCl wA H1 := hP.kept (fun k q hq => hk _ (hP k q hq).lt (fun h => absurd (hP k q hq).lt (Nat.not_lt.mpr (nA h))))
theorem va_rng (w : va_W) : (List.range w.length).map (fun i => w[i]?) = w.map some := by
  apply List.ext_getElem
  · simp
  · intro i h1 h2
    simp at h1
    simp [h1]
theorem va_nd_of : ∀ l : List Nat, l.Nodup → va_nd l = true
  | [], _ => rfl
  | a :: l, h => by
    simp only [va_nd, Bool.and_eq_true, decide_eq_true_eq]
    exact ⟨(List.nodup_cons.mp h).1, va_nd_of l (List.nodup_cons.mp h).2⟩
theorem va_ndrng (n : Nat) : va_nd (List.range n) = true := va_nd_of _ List.nodup_range
section CallsG
variable {p : Program} {l : Launch} {e : Env} {R : Room} {s : State} {m : MethodId} {args : Array Value} {below : List Frame} {meth : Method} {c : Code} {H H0 : Heap} {locs : List Loc} {cells slots : Nat} {Q : State → Prop} {A0 : Nat → Prop} {pc : Nat} {ls : Array Slot} {cc : ByteArray} {nL : Nat} {Ts : List Cond} {own C : String} {G : va_G} {cI : ClassId} {wA wc wr w1 : va_W} {b : Nat} {As rest st0 : List Value} {index maxL n mc ms : Nat} {y : MethodName} {bytes : ByteArray} {ret : Option FieldType} {ws : List Cond} {rm : Room} {ci : Nat} {fs : List Value} {T : u_T} {N : Nat}
theorem roA (hS : va_S A0 H0 H locs) (hA : ∀ q, H0.size ≤ q → A0 q) : ∀ q, va_A [] H.size q → A0 q := fun q h => hA q (Nat.le_trans hS.1 (nA h))
theorem roVi {v : Int32} (S : CallFix p m c cc nL s args Ts own) (hM : mRi l y ws rm (.ref b :: As) G cI wc H.size v) (cw : CallW R s args own C index y bytes maxL ret ws rm 0 0 n) (hK : gK G cI s) (hP : va_P G vwCl wA H) (hPc : va_P G vwCl wc H) (he : wc[0]? = some (b, .inr (ci, fs))) (hc : vwCl[ci]? = some (C, T, N)) (hn : As.length = n) (hsize : ls.size = nL) (hst : st0 = As.reverse ++ .ref b :: rest) (hW : (rest.map fun v => v.category).sum ≤ 8) (hdg : decode cc pc = .ok (.invokevirtual index, 3)) (hf : cells ≤ R.cells ∧ slots ≤ R.slots) (hS : va_S A0 H0 H locs) (hA : ∀ q, H0.size ≤ q → A0 q)
    (kk : ∀ (H1 : Heap) (locs1 : List Loc), va_P G vwCl wA H1 → H.size ≤ H1.size → va_S A0 H0 H1 locs1 → W p l e R s m args below meth c H1 locs1 cells slots Q (F0 m (pc + 3) ls (.int v :: rest))) : W p l e R s m args below meth c H locs cells slots Q (F0 m pc ls st0) := by
  refine va_calli (va_runV (As := As) (rest := rest) S hM cw ⟨gR.blind, va_recv hK.1 hPc hc he, fun U hU hW => ⟨rfl, by rw [hU], by rw [hU]; exact hPc, hK.moved hW⟩⟩ rfl hn hsize hst (lv_room hW) hdg hf) hS (fun q _ h => roA hS hA q h) (roA hS hA) (fun r u t H1 locs1 ht hvm hw hB hz hk hS1 => ?_)
  subst hw
  exact kk H1 locs1 (keptP hP hk) hz hS1
theorem roVl {v : Int64} (S : CallFix p m c cc nL s args Ts own) (hM : mRl l y ws rm (.ref b :: As) G cI wc H.size v) (cw : CallW R s args own C index y bytes maxL ret ws rm 0 0 n) (hK : gK G cI s) (hP : va_P G vwCl wA H) (hPc : va_P G vwCl wc H) (he : wc[0]? = some (b, .inr (ci, fs))) (hc : vwCl[ci]? = some (C, T, N)) (hn : As.length = n) (hsize : ls.size = nL) (hst : st0 = As.reverse ++ .ref b :: rest) (hW : (rest.map fun v => v.category).sum ≤ 8) (hdg : decode cc pc = .ok (.invokevirtual index, 3)) (hf : cells ≤ R.cells ∧ slots ≤ R.slots) (hS : va_S A0 H0 H locs) (hA : ∀ q, H0.size ≤ q → A0 q)
    (kk : ∀ (H1 : Heap) (locs1 : List Loc), va_P G vwCl wA H1 → H.size ≤ H1.size → va_S A0 H0 H1 locs1 → W p l e R s m args below meth c H1 locs1 cells slots Q (F0 m (pc + 3) ls (.long v :: rest))) : W p l e R s m args below meth c H locs cells slots Q (F0 m pc ls st0) := by
  refine va_calll (va_runV (As := As) (rest := rest) S hM cw ⟨gR.blind, va_recv hK.1 hPc hc he, fun U hU hW => ⟨rfl, by rw [hU], by rw [hU]; exact hPc, hK.moved hW⟩⟩ rfl hn hsize hst (lv_room hW) hdg hf) hS (fun q _ h => roA hS hA q h) (roA hS hA) (fun r u t H1 locs1 ht hvm hw hB hz hk hS1 => ?_)
  subst hw
  exact kk H1 locs1 (keptP hP hk) hz hS1
theorem roSi {v : Int32} (S : CallFix p m c cc nL s args Ts own) (hM : mRi l y ws rm As G cI [] H.size v) (cw : CallB R s args own index y bytes maxL ret ws rm 0 0 n ∧ (Cond.static y).before args s = true) (hK : gK G cI s) (hP : va_P G vwCl wA H) (hn : As.length = n) (hsize : ls.size = nL) (hst : st0 = As.reverse ++ rest) (hW : (rest.map fun v => v.category).sum ≤ 8) (hdg : decode cc pc = .ok (.invokestatic index, 3)) (hf : cells ≤ R.cells ∧ slots ≤ R.slots) (hS : va_S A0 H0 H locs) (hA : ∀ q, H0.size ≤ q → A0 q)
    (kk : ∀ (H1 : Heap) (locs1 : List Loc), va_P G vwCl wA H1 → H.size ≤ H1.size → va_S A0 H0 H1 locs1 → W p l e R s m args below meth c H1 locs1 cells slots Q (F0 m (pc + 3) ls (.int v :: rest))) : W p l e R s m args below meth c H locs cells slots Q (F0 m pc ls st0) := by
  refine va_calli (va_runS (As := As) (rest := rest) S hM cw ⟨gR.blind, fun U hU hW => ⟨rfl, by rw [hU], fun k q h => by simp at h, hK.moved hW⟩⟩ rfl hn hsize hst (lv_room hW) hdg hf) hS (fun q _ h => roA hS hA q h) (roA hS hA) (fun r u t H1 locs1 ht hvm hw hB hz hk hS1 => ?_)
  subst hw
  exact kk H1 locs1 (keptP hP hk) hz hS1
theorem roSl {v : Int64} (S : CallFix p m c cc nL s args Ts own) (hM : mRl l y ws rm As G cI [] H.size v) (cw : CallB R s args own index y bytes maxL ret ws rm 0 0 n ∧ (Cond.static y).before args s = true) (hK : gK G cI s) (hP : va_P G vwCl wA H) (hn : As.length = n) (hsize : ls.size = nL) (hst : st0 = As.reverse ++ rest) (hW : (rest.map fun v => v.category).sum ≤ 8) (hdg : decode cc pc = .ok (.invokestatic index, 3)) (hf : cells ≤ R.cells ∧ slots ≤ R.slots) (hS : va_S A0 H0 H locs) (hA : ∀ q, H0.size ≤ q → A0 q)
    (kk : ∀ (H1 : Heap) (locs1 : List Loc), va_P G vwCl wA H1 → H.size ≤ H1.size → va_S A0 H0 H1 locs1 → W p l e R s m args below meth c H1 locs1 cells slots Q (F0 m (pc + 3) ls (.long v :: rest))) : W p l e R s m args below meth c H locs cells slots Q (F0 m pc ls st0) := by
  refine va_calll (va_runS (As := As) (rest := rest) S hM cw ⟨gR.blind, fun U hU hW => ⟨rfl, by rw [hU], fun k q h => by simp at h, hK.moved hW⟩⟩ rfl hn hsize hst (lv_room hW) hdg hf) hS (fun q _ h => roA hS hA q h) (roA hS hA) (fun r u t H1 locs1 ht hvm hw hB hz hk hS1 => ?_)
  subst hw
  exact kk H1 locs1 (keptP hP hk) hz hS1
/-- a nest mate's static method -/
theorem roNl {v : Int64} {host : String} (S : CallFix p m c cc nL s args Ts own) (hM : mRl l y ws rm As G cI [] H.size v) (cw : va_CN R s args own index y host bytes maxL ret ws rm 0 0 n ∧ (Cond.static y).before args s = true ∧ True) (hK : gK G cI s) (hP : va_P G vwCl wA H) (hn : As.length = n) (hsize : ls.size = nL) (hst : st0 = As.reverse ++ rest) (hW : (rest.map fun v => v.category).sum ≤ 8) (hdg : decode cc pc = .ok (.invokestatic index, 3)) (hf : cells ≤ R.cells ∧ slots ≤ R.slots) (hS : va_S A0 H0 H locs) (hA : ∀ q, H0.size ≤ q → A0 q)
    (kk : ∀ (H1 : Heap) (locs1 : List Loc), va_P G vwCl wA H1 → H.size ≤ H1.size → va_S A0 H0 H1 locs1 → W p l e R s m args below meth c H1 locs1 cells slots Q (F0 m (pc + 3) ls (.long v :: rest))) : W p l e R s m args below meth c H locs cells slots Q (F0 m pc ls st0) := by
  refine va_calll (va_runSN (As := As) (rest := rest) S hM cw ⟨gR.blind, fun U hU hW => ⟨rfl, by rw [hU], fun k q h => by simp at h, hK.moved hW⟩⟩ rfl hn hsize hst (lv_room hW) hdg hf) hS (fun q _ h => roA hS hA q h) (roA hS hA) (fun r u t H1 locs1 ht hvm hw hB hz hk hS1 => ?_)
  subst hw
  exact kk H1 locs1 (keptP hP hk) hz hS1
theorem mcVi {v : Int32} (S : CallFix p m c cc nL s args Ts own) (hM : mMi l y ws rm (.ref b :: As) G cI wc H.size v w1 mc ms) (cw : CallW R s args own C index y bytes maxL ret ws rm mc ms n) (hK : gK G cI s) (hP : va_P G vwCl wA H) (hD : va_D A0 wA) (isC isR : List Nat) (hCf : isC.filterMap (fun i => wA[i]?) = wc) (hC : isC.map (fun i => wA[i]?) = wc.map some) (hR : isR.map (fun i => wA[i]?) = wr.map some) (hnC : va_nd isC = true) (hnR : va_nd isR = true) (hdis : ∀ i ∈ isR, i ∉ isC) (he : wc[0]? = some (b, .inr (ci, fs))) (hc : vwCl[ci]? = some (C, T, N)) (hn : As.length = n) (hsize : ls.size = nL) (hst : st0 = As.reverse ++ .ref b :: rest) (hW : (rest.map fun v => v.category).sum ≤ 8) (hdg : decode cc pc = .ok (.invokevirtual index, 3)) (hf : cells + mc ≤ R.cells ∧ slots + ms ≤ R.slots) (hS : va_S A0 H0 H locs) (hA : ∀ q, H0.size ≤ q → A0 q)
    (kk : ∀ (H1 : Heap) (locs1 : List Loc), va_P G vwCl (wr ++ w1) H1 → va_D A0 (wr ++ w1) → H.size ≤ H1.size → va_S A0 H0 H1 locs1 → W p l e R s m args below meth c H1 locs1 (cells + mc) (slots + ms) Q (F0 m (pc + 3) ls (.int v :: rest))) : W p l e R s m args below meth c H locs cells slots Q (F0 m pc ls st0) := by
  have hPc := hP.sub isC hCf
  have hDc := hD.sub isC hnC hC
  have hFc := va_free (wc := wc) hD hS hA isC hC
  refine va_calli (va_runV (As := As) (rest := rest) S hM cw ⟨gM.blind, va_recv hK.1 hPc hc he, fun U hU hW => ⟨rfl, by rw [hU], by rw [hU]; exact hPc, hK.moved hW, hDc.weaken (fun _ _ _ _ => trivial)⟩⟩ rfl hn hsize hst (lv_room hW) hdg hf) hS (fun q _ h => hFc q h) hFc (fun r u t H1 locs1 ht hvm hw hB hz hk hS1 => ?_)
  subst hw
  obtain ⟨hP1, hD1⟩ := hB
  rw [ht] at hP1
  obtain ⟨hP2, hD2⟩ := va_join (wr := wr) (w1 := w1) hP hD isC isR hC hR hnR hdis hk hFc hP1 hD1
  exact kk H1 locs1 hP2 hD2 hz hS1
theorem mcVv (S : CallFix p m c cc nL s args Ts own) (hM : mMv l y ws rm (.ref b :: As) G cI wc H.size w1 mc ms) (cw : CallW R s args own C index y bytes maxL ret ws rm mc ms n) (hK : gK G cI s) (hP : va_P G vwCl wA H) (hD : va_D A0 wA) (isC isR : List Nat) (hCf : isC.filterMap (fun i => wA[i]?) = wc) (hC : isC.map (fun i => wA[i]?) = wc.map some) (hR : isR.map (fun i => wA[i]?) = wr.map some) (hnC : va_nd isC = true) (hnR : va_nd isR = true) (hdis : ∀ i ∈ isR, i ∉ isC) (he : wc[0]? = some (b, .inr (ci, fs))) (hc : vwCl[ci]? = some (C, T, N)) (hn : As.length = n) (hsize : ls.size = nL) (hst : st0 = As.reverse ++ .ref b :: rest) (hW : (rest.map fun v => v.category).sum ≤ 8) (hdg : decode cc pc = .ok (.invokevirtual index, 3)) (hf : cells + mc ≤ R.cells ∧ slots + ms ≤ R.slots) (hS : va_S A0 H0 H locs) (hA : ∀ q, H0.size ≤ q → A0 q)
    (kk : ∀ (H1 : Heap) (locs1 : List Loc), va_P G vwCl (wr ++ w1) H1 → va_D A0 (wr ++ w1) → H.size ≤ H1.size → va_S A0 H0 H1 locs1 → W p l e R s m args below meth c H1 locs1 (cells + mc) (slots + ms) Q (F0 m (pc + 3) ls (rest))) : W p l e R s m args below meth c H locs cells slots Q (F0 m pc ls st0) := by
  have hPc := hP.sub isC hCf
  have hDc := hD.sub isC hnC hC
  have hFc := va_free (wc := wc) hD hS hA isC hC
  refine va_callv (va_runV (As := As) (rest := rest) S hM cw ⟨gM.blind, va_recv hK.1 hPc hc he, fun U hU hW => ⟨rfl, by rw [hU], by rw [hU]; exact hPc, hK.moved hW, hDc.weaken (fun _ _ _ _ => trivial)⟩⟩ rfl hn hsize hst (lv_room hW) hdg hf) hS (fun q _ h => hFc q h) hFc (fun u t H1 locs1 ht hvm hw hB hz hk hS1 => ?_)
  obtain ⟨hP1, hD1⟩ := hB
  rw [ht] at hP1
  obtain ⟨hP2, hD2⟩ := va_join (wr := wr) (w1 := w1) hP hD isC isR hC hR hnR hdis hk hFc hP1 hD1
  exact kk H1 locs1 hP2 hD2 hz hS1
theorem mcVl {v : Int64} (S : CallFix p m c cc nL s args Ts own) (hM : mMl l y ws rm (.ref b :: As) G cI wc H.size v w1 mc ms) (cw : CallW R s args own C index y bytes maxL ret ws rm mc ms n) (hK : gK G cI s) (hP : va_P G vwCl wA H) (hD : va_D A0 wA) (isC isR : List Nat) (hCf : isC.filterMap (fun i => wA[i]?) = wc) (hC : isC.map (fun i => wA[i]?) = wc.map some) (hR : isR.map (fun i => wA[i]?) = wr.map some) (hnC : va_nd isC = true) (hnR : va_nd isR = true) (hdis : ∀ i ∈ isR, i ∉ isC) (he : wc[0]? = some (b, .inr (ci, fs))) (hc : vwCl[ci]? = some (C, T, N)) (hn : As.length = n) (hsize : ls.size = nL) (hst : st0 = As.reverse ++ .ref b :: rest) (hW : (rest.map fun v => v.category).sum ≤ 8) (hdg : decode cc pc = .ok (.invokevirtual index, 3)) (hf : cells + mc ≤ R.cells ∧ slots + ms ≤ R.slots) (hS : va_S A0 H0 H locs) (hA : ∀ q, H0.size ≤ q → A0 q)
    (kk : ∀ (H1 : Heap) (locs1 : List Loc), va_P G vwCl (wr ++ w1) H1 → va_D A0 (wr ++ w1) → H.size ≤ H1.size → va_S A0 H0 H1 locs1 → W p l e R s m args below meth c H1 locs1 (cells + mc) (slots + ms) Q (F0 m (pc + 3) ls (.long v :: rest))) : W p l e R s m args below meth c H locs cells slots Q (F0 m pc ls st0) := by
  have hPc := hP.sub isC hCf
  have hDc := hD.sub isC hnC hC
  have hFc := va_free (wc := wc) hD hS hA isC hC
  refine va_calll (va_runV (As := As) (rest := rest) S hM cw ⟨gM.blind, va_recv hK.1 hPc hc he, fun U hU hW => ⟨rfl, by rw [hU], by rw [hU]; exact hPc, hK.moved hW, hDc.weaken (fun _ _ _ _ => trivial)⟩⟩ rfl hn hsize hst (lv_room hW) hdg hf) hS (fun q _ h => hFc q h) hFc (fun r u t H1 locs1 ht hvm hw hB hz hk hS1 => ?_)
  subst hw
  obtain ⟨hP1, hD1⟩ := hB
  rw [ht] at hP1
  obtain ⟨hP2, hD2⟩ := va_join (wr := wr) (w1 := w1) hP hD isC isR hC hR hnR hdis hk hFc hP1 hD1
  exact kk H1 locs1 hP2 hD2 hz hS1
theorem mcIv (S : CallFix p m c cc nL s args Ts own) (hM : mMv l y ws rm (.ref b :: As) G cI wc H.size w1 mc ms) (cw : CallB R s args own index y bytes maxL none ws rm mc ms n ∧ y.name = "<init>" ∧ (Cond.instanceMethod y).before args s = true) (hK : gK G cI s) (hP : va_P G vwCl wA H) (hD : va_D A0 wA) (isC isR : List Nat) (hCf : isC.filterMap (fun i => wA[i]?) = wc) (hC : isC.map (fun i => wA[i]?) = wc.map some) (hR : isR.map (fun i => wA[i]?) = wr.map some) (hnC : va_nd isC = true) (hnR : va_nd isR = true) (hdis : ∀ i ∈ isR, i ∉ isC) (hn : As.length = n) (hsize : ls.size = nL) (hst : st0 = As.reverse ++ .ref b :: rest) (hW : (rest.map fun v => v.category).sum ≤ 8) (hdg : decode cc pc = .ok (.invokespecial index, 3)) (hf : cells + mc ≤ R.cells ∧ slots + ms ≤ R.slots) (hS : va_S A0 H0 H locs) (hA : ∀ q, H0.size ≤ q → A0 q)
    (kk : ∀ (H1 : Heap) (locs1 : List Loc), va_P G vwCl (wr ++ w1) H1 → va_D A0 (wr ++ w1) → H.size ≤ H1.size → va_S A0 H0 H1 locs1 → W p l e R s m args below meth c H1 locs1 (cells + mc) (slots + ms) Q (F0 m (pc + 3) ls (rest))) : W p l e R s m args below meth c H locs cells slots Q (F0 m pc ls st0) := by
  have hPc := hP.sub isC hCf
  have hDc := hD.sub isC hnC hC
  have hFc := va_free (wc := wc) hD hS hA isC hC
  refine va_callv (va_runI (As := As) (rest := rest) S hM cw ⟨gM.blind, fun U hU hW => ⟨rfl, by rw [hU], by rw [hU]; exact hPc, hK.moved hW, hDc.weaken (fun _ _ _ _ => trivial)⟩⟩ rfl hn hsize hst (lv_room hW) hdg hf) hS (fun q _ h => hFc q h) hFc (fun u t H1 locs1 ht hvm hw hB hz hk hS1 => ?_)
  obtain ⟨hP1, hD1⟩ := hB
  rw [ht] at hP1
  obtain ⟨hP2, hD2⟩ := va_join (wr := wr) (w1 := w1) hP hD isC isR hC hR hnR hdis hk hFc hP1 hD1
  exact kk H1 locs1 hP2 hD2 hz hS1
theorem mcNv {host : String} (S : CallFix p m c cc nL s args Ts own) (hM : mMv l y ws rm (.ref b :: As) G cI wc H.size w1 mc ms) (cw : va_CN R s args own index y host bytes maxL none ws rm mc ms n ∧ y.name = "<init>" ∧ (Cond.instanceMethod y).before args s = true) (hK : gK G cI s) (hP : va_P G vwCl wA H) (hD : va_D A0 wA) (isC isR : List Nat) (hCf : isC.filterMap (fun i => wA[i]?) = wc) (hC : isC.map (fun i => wA[i]?) = wc.map some) (hR : isR.map (fun i => wA[i]?) = wr.map some) (hnC : va_nd isC = true) (hnR : va_nd isR = true) (hdis : ∀ i ∈ isR, i ∉ isC) (hn : As.length = n) (hsize : ls.size = nL) (hst : st0 = As.reverse ++ .ref b :: rest) (hW : (rest.map fun v => v.category).sum ≤ 8) (hdg : decode cc pc = .ok (.invokespecial index, 3)) (hf : cells + mc ≤ R.cells ∧ slots + ms ≤ R.slots) (hS : va_S A0 H0 H locs) (hA : ∀ q, H0.size ≤ q → A0 q)
    (kk : ∀ (H1 : Heap) (locs1 : List Loc), va_P G vwCl (wr ++ w1) H1 → va_D A0 (wr ++ w1) → H.size ≤ H1.size → va_S A0 H0 H1 locs1 → W p l e R s m args below meth c H1 locs1 (cells + mc) (slots + ms) Q (F0 m (pc + 3) ls (rest))) : W p l e R s m args below meth c H locs cells slots Q (F0 m pc ls st0) := by
  have hPc := hP.sub isC hCf
  have hDc := hD.sub isC hnC hC
  have hFc := va_free (wc := wc) hD hS hA isC hC
  refine va_callv (va_runIN (As := As) (rest := rest) S hM cw ⟨gM.blind, fun U hU hW => ⟨rfl, by rw [hU], by rw [hU]; exact hPc, hK.moved hW, hDc.weaken (fun _ _ _ _ => trivial)⟩⟩ rfl hn hsize hst (lv_room hW) hdg hf) hS (fun q _ h => hFc q h) hFc (fun u t H1 locs1 ht hvm hw hB hz hk hS1 => ?_)
  obtain ⟨hP1, hD1⟩ := hB
  rw [ht] at hP1
  obtain ⟨hP2, hD2⟩ := va_join (wr := wr) (w1 := w1) hP hD isC isR hC hR hnR hdis hk hFc hP1 hD1
  exact kk H1 locs1 hP2 hD2 hz hS1
/-- a callee that makes an object and gives it back: it comes behind the world -/
theorem ncVr {ce : va_E} (S : CallFix p m c cc nL s args Ts own) (hM : mNr l y ws rm (.ref b :: As) G cI wc H.size ce mc ms) (cw : CallW R s args own C index y bytes maxL ret ws rm mc ms n) (hK : gK G cI s) (hP : va_P G vwCl wA H) (hD : va_D A0 wA) (isC isR : List Nat) (hCf : isC.filterMap (fun i => wA[i]?) = wc) (hC : isC.map (fun i => wA[i]?) = wc.map some) (hR : isR.map (fun i => wA[i]?) = wr.map some) (hnC : va_nd isC = true) (hnR : va_nd isR = true) (hdis : ∀ i ∈ isR, i ∉ isC) (he : wc[0]? = some (b, .inr (ci, fs))) (hc : vwCl[ci]? = some (C, T, N)) (hn : As.length = n) (hsize : ls.size = nL) (hst : st0 = As.reverse ++ .ref b :: rest) (hW : (rest.map fun v => v.category).sum ≤ 8) (hdg : decode cc pc = .ok (.invokevirtual index, 3)) (hf : cells + mc ≤ R.cells ∧ slots + ms ≤ R.slots) (hS : va_S A0 H0 H locs) (hA : ∀ q, H0.size ≤ q → A0 q)
    (kk : ∀ (q : Nat) (H1 : Heap) (locs1 : List Loc), va_P G vwCl (wr ++ (wc ++ [(q, ce)])) H1 → va_D A0 (wr ++ (wc ++ [(q, ce)])) → H.size ≤ H1.size → va_S A0 H0 H1 locs1 → W p l e R s m args below meth c H1 locs1 (cells + mc) (slots + ms) Q (F0 m (pc + 3) ls (.ref q :: rest))) : W p l e R s m args below meth c H locs cells slots Q (F0 m pc ls st0) := by
  have hPc := hP.sub isC hCf
  have hDc := hD.sub isC hnC hC
  have hFc := va_free (wc := wc) hD hS hA isC hC
  refine va_callr (va_runV (As := As) (rest := rest) S hM cw ⟨gM.blind, va_recv hK.1 hPc hc he, fun U hU hW => ⟨rfl, by rw [hU], by rw [hU]; exact hPc, hK.moved hW, hDc.weaken (fun _ _ _ _ => trivial)⟩⟩ rfl hn hsize hst (lv_room hW) hdg hf) hS (fun q _ h => hFc q h) hFc (fun u ra t H1 locs1 ht hvm hw hB hz hk hS1 => ?_)
  obtain ⟨hP1, hD1⟩ := hB
  rw [ht] at hP1
  obtain ⟨hP2, hD2⟩ := va_join (wr := wr) hP hD isC isR hC hR hnR hdis hk hFc hP1 hD1
  exact kk ra H1 locs1 hP2 hD2 hz hS1
end CallsG
/-! small steps of the pure texts -/
def ckI {α : Type} (i : Int32) (n : Nat) (k : Option α) : Option α := if i < 0 ∨ n ≤ i.toNatClampNeg then none else k
theorem ckI_s {α : Type} {i : Int32} {n : Nat} {k : Option α} {r : α} (h : ckI i n k = some r) : vp_in i n ∧ k = some r := by
  unfold ckI at h
  by_cases hc : i < 0 ∨ n ≤ i.toNatClampNeg
  · rw [if_pos hc] at h; cases h
  · rw [if_neg hc] at h; exact ⟨hc, h⟩
def ckZ {α : Type} (y : Int32) (k : Option α) : Option α := if y = 0 then none else k
theorem ckZ_s {α : Type} {y : Int32} {k : Option α} {r : α} (h : ckZ y k = some r) : ¬ y = 0 ∧ k = some r := by
  unfold ckZ at h
  by_cases hc : y = 0
  · rw [if_pos hc] at h; cases h
  · rw [if_neg hc] at h; exact ⟨hc, h⟩
def ckL {α : Type} (y : Int64) (k : Option α) : Option α := if y = 0 then none else k
theorem ckL_s {α : Type} {y : Int64} {k : Option α} {r : α} (h : ckL y k = some r) : ¬ y = 0 ∧ k = some r := by
  unfold ckL at h
  by_cases hc : y = 0
  · rw [if_pos hc] at h; cases h
  · rw [if_neg hc] at h; exact ⟨hc, h⟩
def nm {α β : Type} (e : α) (k : α → β) : β := k e
theorem nm_s {α β : Type} {e x : α} {k : α → Option β} {r : β} (hx : x = e) (h : nm e k = some r) : k x = some r := by subst hx; exact h
theorem it_t {α : Type} {c : Prop} [Decidable c] {a b : Option α} {r : α} (hc : c) (h : (if c then a else b) = some r) : a = some r := by rw [if_pos hc] at h; exact h
theorem it_f {α : Type} {c : Prop} [Decidable c] {a b : Option α} {r : α} (hc : ¬ c) (h : (if c then a else b) = some r) : b = some r := by rw [if_neg hc] at h; exact h
def bd1 {A R : Type} (x : Option A) (k : A → Option R) : Option R := match x with | none => none | some a => k a
theorem bd1_s {A R : Type} {x : Option A} {k : A → Option R} {r : R} (h : bd1 x k = some r) : ∃ a, x = some a ∧ k a = some r := by
  cases x with
  | none => cases h
  | some a => exact ⟨a, rfl, h⟩
def bd2 {A B R : Type} (x : Option (A × B)) (k : A → B → Option R) : Option R := match x with | none => none | some (a1, b1) => k a1 b1
theorem bd2_s {A B R : Type} {x : Option (A × B)} {k : A → B → Option R} {r : R} (h : bd2 x k = some r) : ∃ a1 b1, x = some (a1, b1) ∧ k a1 b1 = some r := by
  cases x with
  | none => cases h
  | some a => exact ⟨a.1, a.2, rfl, h⟩
def bd3 {A B C R : Type} (x : Option (A × B × C)) (k : A → B → C → Option R) : Option R := match x with | none => none | some (a1, b1, c1) => k a1 b1 c1
theorem bd3_s {A B C R : Type} {x : Option (A × B × C)} {k : A → B → C → Option R} {r : R} (h : bd3 x k = some r) : ∃ a1 b1 c1, x = some (a1, b1, c1) ∧ k a1 b1 c1 = some r := by
  cases x with
  | none => cases h
  | some a => exact ⟨a.1, a.2.1, a.2.2, rfl, h⟩
def bd4 {A B C D R : Type} (x : Option (A × B × C × D)) (k : A → B → C → D → Option R) : Option R := match x with | none => none | some (a1, b1, c1, d1) => k a1 b1 c1 d1
theorem bd4_s {A B C D R : Type} {x : Option (A × B × C × D)} {k : A → B → C → D → Option R} {r : R} (h : bd4 x k = some r) : ∃ a1 b1 c1 d1, x = some (a1, b1, c1, d1) ∧ k a1 b1 c1 d1 = some r := by
  cases x with
  | none => cases h
  | some a => exact ⟨a.1, a.2.1, a.2.2.1, a.2.2.2, rfl, h⟩
def bd5 {A B C D E R : Type} (x : Option (A × B × C × D × E)) (k : A → B → C → D → E → Option R) : Option R := match x with | none => none | some (a1, b1, c1, d1, e1) => k a1 b1 c1 d1 e1
theorem bd5_s {A B C D E R : Type} {x : Option (A × B × C × D × E)} {k : A → B → C → D → E → Option R} {r : R} (h : bd5 x k = some r) : ∃ a1 b1 c1 d1 e1, x = some (a1, b1, c1, d1, e1) ∧ k a1 b1 c1 d1 e1 = some r := by
  cases x with
  | none => cases h
  | some a => exact ⟨a.1, a.2.1, a.2.2.1, a.2.2.2.1, a.2.2.2.2, rfl, h⟩
def bd6 {A B C D E F R : Type} (x : Option (A × B × C × D × E × F)) (k : A → B → C → D → E → F → Option R) : Option R := match x with | none => none | some (a1, b1, c1, d1, e1, f1) => k a1 b1 c1 d1 e1 f1
theorem bd6_s {A B C D E F R : Type} {x : Option (A × B × C × D × E × F)} {k : A → B → C → D → E → F → Option R} {r : R} (h : bd6 x k = some r) : ∃ a1 b1 c1 d1 e1 f1, x = some (a1, b1, c1, d1, e1, f1) ∧ k a1 b1 c1 d1 e1 f1 = some r := by
  cases x with
  | none => cases h
  | some a => exact ⟨a.1, a.2.1, a.2.2.1, a.2.2.2.1, a.2.2.2.2.1, a.2.2.2.2.2, rfl, h⟩
def bd7 {A B C D E F G R : Type} (x : Option (A × B × C × D × E × F × G)) (k : A → B → C → D → E → F → G → Option R) : Option R := match x with | none => none | some (a1, b1, c1, d1, e1, f1, g1) => k a1 b1 c1 d1 e1 f1 g1
theorem bd7_s {A B C D E F G R : Type} {x : Option (A × B × C × D × E × F × G)} {k : A → B → C → D → E → F → G → Option R} {r : R} (h : bd7 x k = some r) : ∃ a1 b1 c1 d1 e1 f1 g1, x = some (a1, b1, c1, d1, e1, f1, g1) ∧ k a1 b1 c1 d1 e1 f1 g1 = some r := by
  cases x with
  | none => cases h
  | some a => exact ⟨a.1, a.2.1, a.2.2.1, a.2.2.2.1, a.2.2.2.2.1, a.2.2.2.2.2.1, a.2.2.2.2.2.2, rfl, h⟩
def bd8 {A B C D E F G H R : Type} (x : Option (A × B × C × D × E × F × G × H)) (k : A → B → C → D → E → F → G → H → Option R) : Option R := match x with | none => none | some (a1, b1, c1, d1, e1, f1, g1, h1) => k a1 b1 c1 d1 e1 f1 g1 h1
theorem bd8_s {A B C D E F G H R : Type} {x : Option (A × B × C × D × E × F × G × H)} {k : A → B → C → D → E → F → G → H → Option R} {r : R} (h : bd8 x k = some r) : ∃ a1 b1 c1 d1 e1 f1 g1 h1, x = some (a1, b1, c1, d1, e1, f1, g1, h1) ∧ k a1 b1 c1 d1 e1 f1 g1 h1 = some r := by
  cases x with
  | none => cases h
  | some a => exact ⟨a.1, a.2.1, a.2.2.1, a.2.2.2.1, a.2.2.2.2.1, a.2.2.2.2.2.1, a.2.2.2.2.2.2.1, a.2.2.2.2.2.2.2, rfl, h⟩
def bd9 {A B C D E F G H I R : Type} (x : Option (A × B × C × D × E × F × G × H × I)) (k : A → B → C → D → E → F → G → H → I → Option R) : Option R := match x with | none => none | some (a1, b1, c1, d1, e1, f1, g1, h1, i1) => k a1 b1 c1 d1 e1 f1 g1 h1 i1
theorem bd9_s {A B C D E F G H I R : Type} {x : Option (A × B × C × D × E × F × G × H × I)} {k : A → B → C → D → E → F → G → H → I → Option R} {r : R} (h : bd9 x k = some r) : ∃ a1 b1 c1 d1 e1 f1 g1 h1 i1, x = some (a1, b1, c1, d1, e1, f1, g1, h1, i1) ∧ k a1 b1 c1 d1 e1 f1 g1 h1 i1 = some r := by
  cases x with
  | none => cases h
  | some a => exact ⟨a.1, a.2.1, a.2.2.1, a.2.2.2.1, a.2.2.2.2.1, a.2.2.2.2.2.1, a.2.2.2.2.2.2.1, a.2.2.2.2.2.2.2.1, a.2.2.2.2.2.2.2.2, rfl, h⟩
def FU : Nat := 1000000000
theorem qf_s {α : Type} {p : Program} {l : Launch} {e : Env} {R : Room} {s : State} {m : MethodId} {args : Array Value} {below : List Frame} {meth : Method} {c : Code} {H : Heap} {locs : List Loc} {cells slots : Nat} {g : JFrame} {Qf : α → State → Prop} {x y : α} (h : some x = some y) (k : W p l e R s m args below meth c H locs cells slots (Qf x) g) : W p l e R s m args below meth c H locs cells slots (Qf y) g := by
  cases h
  exact k
end
section
def fX0_top (ts : Nat → Int32) (cn : Int32) : Option (Int32) :=
  ckI cn 33 <|
  some (ts (Int32.toNatClampNeg cn))
set_option maxHeartbeats 4000000 in
set_option maxRecDepth 100000 in
theorem zX0_top (l : Launch) (G : va_G) (cI : ClassId) (sz : Nat) (h a1 a2 a3 : Nat) (qs : Nat → Int32) (ts : Nat → Int32) (bs : Nat → Int32) (cn : Int32) {rv : Int32} (hf : fX0_top ts cn = some rv) : mRi l yX0_top wsX0_top ({ frames := 0, cells := 0, slots := 0, locals := 0 }) [.ref h] G cI [(h, .inr (0, [.ref a1, .ref a2, .ref a3, .int cn])), (a1, .inl (cI, 32, .inl qs)), (a2, .inl (cI, 33, .inl ts)), (a3, .inl (cI, 33, .inl bs))] sz rv := by
  refine Met.ofW (cc := cX0_top) (maxL := 1) (ret := (some .int)) (by decide) rfl ?_
  intro p e s m args below meth c s₁ B hml hv
  obtain ⟨rfl, hsz, hP, hK⟩ := hv
  have hx := B.exec
  have hb := B.bytes
  have hr := B.returns
  have hts := atoms_spec (ws := wsX0_top) B.pre
  have hown : s.vm.findClass RX0 = some m.cls := findClass_of_methodNamed B.named
  have hlocks := B.notSynchronized
  subst hsz
  generalize hAe : va_A [] s.heap.size = A
  have hA : ∀ q : Nat, s.heap.size ≤ q → A q := fun q h => by rw [← hAe]; exact Or.inr h
  have hS : va_S A s.heap s.heap [] := va_S.rf
  have w0 := hts (.fieldLink RX0 15 "SternDesk$Expansion" "tops" "[I") (by decide +kernel)
  have hinX0 : ∀ w ∈ u_ws RX0 TX0 4, w ∈ wsX0_top := by decide +kernel
  have w2 := hts (.fieldLink RX0 21 "SternDesk$Expansion" "count" "I") (by decide +kernel)
  obtain ⟨Qf, hQf⟩ : ∃ f : Int32 → State → Prop, f = fun z => MQ below (va_Qi (fun (r : Int32) (_ : Unit) => r = z) (fun _ _ => True) A) ([.ref h].toArray) s 0 0 A := ⟨_, rfl⟩
  suffices hgo : W p l e (headSpec wsX0_top ({ frames := 0, cells := 0, slots := 0, locals := 0 })).room s m ([.ref h].toArray) below meth c s.heap [] 0 0 (Qf rv) (entryFrame m ([.ref h].toArray) 1) by rw [hQf] at hgo; exact hgo
  have hl := lv_entry ([.ref h]) (n := 1) (Nat.le_of_ble_eq_true rfl)
  rw [lg_entry_eq]
  generalize (lg_sl ([.ref h]) ++ List.replicate (1 - (lg_sl ([.ref h])).length) Slot.unset).toArray = ls at hl ⊢
  have hl : lv_has ls 1 [(0, .ref h)] := hl
  unfold fX0_top at hf
  refine lv_aload_n hx hb dX0_top_0 rfl (lv_at hl 0 rfl) ?_
  refine va_get (D := G) (ci := 0) (v := .ref a2) (C := RX0) (T := TX0) (N := 4) hx hb hts hinX0 hown hK.1 hP 0 rfl rfl 1 (by decide) w0 (fun _ h9 => h9) rfl dX0_top_1 ?_
  refine lv_aload_n hx hb dX0_top_4 rfl (lv_at hl 0 rfl) ?_
  refine va_get (D := G) (ci := 0) (v := .int cn) (C := RX0) (T := TX0) (N := 4) hx hb hts hinX0 hown hK.1 hP 0 rfl rfl 3 (by decide) w2 (fun _ h9 => h9) rfl dX0_top_5 ?_
  obtain ⟨hi8, hf⟩ := ckI_s hf
  refine va_iald hx hb hK.1 hP 2 0 rfl rfl hi8 dX0_top_8 ?_
  refine qf_s (Qf := Qf) hf ?_
  rw [hQf]
  exact W.iret hx hb hr (fun t ht hW => ⟨⟨_, (), rfl, rfl, trivial⟩, hS.F ht⟩) hS.2.2 dX0_top_9
def fX0_bottom (bs : Nat → Int32) (cn : Int32) : Option (Int32) :=
  ckI cn 33 <|
  some (bs (Int32.toNatClampNeg cn))
set_option maxHeartbeats 4000000 in
set_option maxRecDepth 100000 in
theorem zX0_bottom (l : Launch) (G : va_G) (cI : ClassId) (sz : Nat) (h a1 a2 a3 : Nat) (qs : Nat → Int32) (ts : Nat → Int32) (bs : Nat → Int32) (cn : Int32) {rv : Int32} (hf : fX0_bottom bs cn = some rv) : mRi l yX0_bottom wsX0_bottom ({ frames := 0, cells := 0, slots := 0, locals := 0 }) [.ref h] G cI [(h, .inr (0, [.ref a1, .ref a2, .ref a3, .int cn])), (a1, .inl (cI, 32, .inl qs)), (a2, .inl (cI, 33, .inl ts)), (a3, .inl (cI, 33, .inl bs))] sz rv := by
  refine Met.ofW (cc := cX0_bottom) (maxL := 1) (ret := (some .int)) (by decide) rfl ?_
  intro p e s m args below meth c s₁ B hml hv
  obtain ⟨rfl, hsz, hP, hK⟩ := hv
  have hx := B.exec
  have hb := B.bytes
  have hr := B.returns
  have hts := atoms_spec (ws := wsX0_bottom) B.pre
  have hown : s.vm.findClass RX0 = some m.cls := findClass_of_methodNamed B.named
  have hlocks := B.notSynchronized
  subst hsz
  generalize hAe : va_A [] s.heap.size = A
  have hA : ∀ q : Nat, s.heap.size ≤ q → A q := fun q h => by rw [← hAe]; exact Or.inr h
  have hS : va_S A s.heap s.heap [] := va_S.rf
  have w0 := hts (.fieldLink RX0 18 "SternDesk$Expansion" "bottoms" "[I") (by decide +kernel)
  have hinX0 : ∀ w ∈ u_ws RX0 TX0 4, w ∈ wsX0_bottom := by decide +kernel
  have w2 := hts (.fieldLink RX0 21 "SternDesk$Expansion" "count" "I") (by decide +kernel)
  obtain ⟨Qf, hQf⟩ : ∃ f : Int32 → State → Prop, f = fun z => MQ below (va_Qi (fun (r : Int32) (_ : Unit) => r = z) (fun _ _ => True) A) ([.ref h].toArray) s 0 0 A := ⟨_, rfl⟩
  suffices hgo : W p l e (headSpec wsX0_bottom ({ frames := 0, cells := 0, slots := 0, locals := 0 })).room s m ([.ref h].toArray) below meth c s.heap [] 0 0 (Qf rv) (entryFrame m ([.ref h].toArray) 1) by rw [hQf] at hgo; exact hgo
  have hl := lv_entry ([.ref h]) (n := 1) (Nat.le_of_ble_eq_true rfl)
  rw [lg_entry_eq]
  generalize (lg_sl ([.ref h]) ++ List.replicate (1 - (lg_sl ([.ref h])).length) Slot.unset).toArray = ls at hl ⊢
  have hl : lv_has ls 1 [(0, .ref h)] := hl
  unfold fX0_bottom at hf
  refine lv_aload_n hx hb dX0_bottom_0 rfl (lv_at hl 0 rfl) ?_
  refine va_get (D := G) (ci := 0) (v := .ref a3) (C := RX0) (T := TX0) (N := 4) hx hb hts hinX0 hown hK.1 hP 0 rfl rfl 2 (by decide) w0 (fun _ h9 => h9) rfl dX0_bottom_1 ?_
  refine lv_aload_n hx hb dX0_bottom_4 rfl (lv_at hl 0 rfl) ?_
  refine va_get (D := G) (ci := 0) (v := .int cn) (C := RX0) (T := TX0) (N := 4) hx hb hts hinX0 hown hK.1 hP 0 rfl rfl 3 (by decide) w2 (fun _ h9 => h9) rfl dX0_bottom_5 ?_
  obtain ⟨hi8, hf⟩ := ckI_s hf
  refine va_iald hx hb hK.1 hP 3 0 rfl rfl hi8 dX0_bottom_8 ?_
  refine qf_s (Qf := Qf) hf ?_
  rw [hQf]
  exact W.iret hx hb hr (fun t ht hW => ⟨⟨_, (), rfl, rfl, trivial⟩, hS.F ht⟩) hS.2.2 dX0_bottom_9
def fX0_topBefore (ts : Nat → Int32) (cn : Int32) : Option (Int32) :=
  if cn ≤ 0 then
    some 0
  else
    ckI (cn - 1) 33 <|
    some (ts (Int32.toNatClampNeg (cn - 1)))
set_option maxHeartbeats 4000000 in
set_option maxRecDepth 100000 in
theorem zX0_topBefore (l : Launch) (G : va_G) (cI : ClassId) (sz : Nat) (h a1 a2 a3 : Nat) (qs : Nat → Int32) (ts : Nat → Int32) (bs : Nat → Int32) (cn : Int32) {rv : Int32} (hf : fX0_topBefore ts cn = some rv) : mRi l yX0_topBefore wsX0_topBefore ({ frames := 0, cells := 0, slots := 0, locals := 0 }) [.ref h] G cI [(h, .inr (0, [.ref a1, .ref a2, .ref a3, .int cn])), (a1, .inl (cI, 32, .inl qs)), (a2, .inl (cI, 33, .inl ts)), (a3, .inl (cI, 33, .inl bs))] sz rv := by
  refine Met.ofW (cc := cX0_topBefore) (maxL := 1) (ret := (some .int)) (by decide) rfl ?_
  intro p e s m args below meth c s₁ B hml hv
  obtain ⟨rfl, hsz, hP, hK⟩ := hv
  have hx := B.exec
  have hb := B.bytes
  have hr := B.returns
  have hts := atoms_spec (ws := wsX0_topBefore) B.pre
  have hown : s.vm.findClass RX0 = some m.cls := findClass_of_methodNamed B.named
  have hlocks := B.notSynchronized
  subst hsz
  generalize hAe : va_A [] s.heap.size = A
  have hA : ∀ q : Nat, s.heap.size ≤ q → A q := fun q h => by rw [← hAe]; exact Or.inr h
  have hS : va_S A s.heap s.heap [] := va_S.rf
  have w0 := hts (.fieldLink RX0 21 "SternDesk$Expansion" "count" "I") (by decide +kernel)
  have hinX0 : ∀ w ∈ u_ws RX0 TX0 4, w ∈ wsX0_topBefore := by decide +kernel
  have w2 := hts (.fieldLink RX0 15 "SternDesk$Expansion" "tops" "[I") (by decide +kernel)
  obtain ⟨Qf, hQf⟩ : ∃ f : Int32 → State → Prop, f = fun z => MQ below (va_Qi (fun (r : Int32) (_ : Unit) => r = z) (fun _ _ => True) A) ([.ref h].toArray) s 0 0 A := ⟨_, rfl⟩
  suffices hgo : W p l e (headSpec wsX0_topBefore ({ frames := 0, cells := 0, slots := 0, locals := 0 })).room s m ([.ref h].toArray) below meth c s.heap [] 0 0 (Qf rv) (entryFrame m ([.ref h].toArray) 1) by rw [hQf] at hgo; exact hgo
  have hl := lv_entry ([.ref h]) (n := 1) (Nat.le_of_ble_eq_true rfl)
  rw [lg_entry_eq]
  generalize (lg_sl ([.ref h]) ++ List.replicate (1 - (lg_sl ([.ref h])).length) Slot.unset).toArray = ls at hl ⊢
  have hl : lv_has ls 1 [(0, .ref h)] := hl
  unfold fX0_topBefore at hf
  refine lv_aload_n hx hb dX0_topBefore_0 rfl (lv_at hl 0 rfl) ?_
  refine va_get (D := G) (ci := 0) (v := .int cn) (C := RX0) (T := TX0) (N := 4) hx hb hts hinX0 hown hK.1 hP 0 rfl rfl 3 (by decide) w0 (fun _ h9 => h9) rfl dX0_topBefore_1 ?_
  refine lv_if_le (tgt := 21) hx hb dX0_topBefore_4 (by decide) (fun c4 => ?_) (fun c4 => ?_)
  · have hf := it_t c4 hf
    refine lv_iconst (v := 0) hx hb dX0_topBefore_21 (by decide) ?_
    refine qf_s (Qf := Qf) hf ?_
    rw [hQf]
    exact W.iret hx hb hr (fun t ht hW => ⟨⟨_, (), rfl, rfl, trivial⟩, hS.F ht⟩) hS.2.2 dX0_topBefore_22
  · have hf := it_f c4 hf
    refine lv_aload_n hx hb dX0_topBefore_7 rfl (lv_at hl 0 rfl) ?_
    refine va_get (D := G) (ci := 0) (v := .ref a2) (C := RX0) (T := TX0) (N := 4) hx hb hts hinX0 hown hK.1 hP 0 rfl rfl 1 (by decide) w2 (fun _ h9 => h9) rfl dX0_topBefore_8 ?_
    refine lv_aload_n hx hb dX0_topBefore_11 rfl (lv_at hl 0 rfl) ?_
    refine va_get (D := G) (ci := 0) (v := .int cn) (C := RX0) (T := TX0) (N := 4) hx hb hts hinX0 hown hK.1 hP 0 rfl rfl 3 (by decide) w0 (fun _ h9 => h9) rfl dX0_topBefore_12 ?_
    refine lv_iconst (v := 1) hx hb dX0_topBefore_15 (by decide) ?_
    refine lv_isub hx hb dX0_topBefore_16 ?_
    obtain ⟨hi17, hf⟩ := ckI_s hf
    refine va_iald hx hb hK.1 hP 2 0 rfl rfl hi17 dX0_topBefore_17 ?_
    refine lv_goto (tgt := 22) hx hb dX0_topBefore_18 (by decide) ?_
    refine qf_s (Qf := Qf) hf ?_
    rw [hQf]
    exact W.iret hx hb hr (fun t ht hW => ⟨⟨_, (), rfl, rfl, trivial⟩, hS.F ht⟩) hS.2.2 dX0_topBefore_22
def fX0_bottomBefore (bs : Nat → Int32) (cn : Int32) : Option (Int32) :=
  if cn ≤ 0 then
    some 1
  else
    ckI (cn - 1) 33 <|
    some (bs (Int32.toNatClampNeg (cn - 1)))
set_option maxHeartbeats 4000000 in
set_option maxRecDepth 100000 in
theorem zX0_bottomBefore (l : Launch) (G : va_G) (cI : ClassId) (sz : Nat) (h a1 a2 a3 : Nat) (qs : Nat → Int32) (ts : Nat → Int32) (bs : Nat → Int32) (cn : Int32) {rv : Int32} (hf : fX0_bottomBefore bs cn = some rv) : mRi l yX0_bottomBefore wsX0_bottomBefore ({ frames := 0, cells := 0, slots := 0, locals := 0 }) [.ref h] G cI [(h, .inr (0, [.ref a1, .ref a2, .ref a3, .int cn])), (a1, .inl (cI, 32, .inl qs)), (a2, .inl (cI, 33, .inl ts)), (a3, .inl (cI, 33, .inl bs))] sz rv := by
  refine Met.ofW (cc := cX0_bottomBefore) (maxL := 1) (ret := (some .int)) (by decide) rfl ?_
  intro p e s m args below meth c s₁ B hml hv
  obtain ⟨rfl, hsz, hP, hK⟩ := hv
  have hx := B.exec
  have hb := B.bytes
  have hr := B.returns
  have hts := atoms_spec (ws := wsX0_bottomBefore) B.pre
  have hown : s.vm.findClass RX0 = some m.cls := findClass_of_methodNamed B.named
  have hlocks := B.notSynchronized
  subst hsz
  generalize hAe : va_A [] s.heap.size = A
  have hA : ∀ q : Nat, s.heap.size ≤ q → A q := fun q h => by rw [← hAe]; exact Or.inr h
  have hS : va_S A s.heap s.heap [] := va_S.rf
  have w0 := hts (.fieldLink RX0 21 "SternDesk$Expansion" "count" "I") (by decide +kernel)
  have hinX0 : ∀ w ∈ u_ws RX0 TX0 4, w ∈ wsX0_bottomBefore := by decide +kernel
  have w2 := hts (.fieldLink RX0 18 "SternDesk$Expansion" "bottoms" "[I") (by decide +kernel)
  obtain ⟨Qf, hQf⟩ : ∃ f : Int32 → State → Prop, f = fun z => MQ below (va_Qi (fun (r : Int32) (_ : Unit) => r = z) (fun _ _ => True) A) ([.ref h].toArray) s 0 0 A := ⟨_, rfl⟩
  suffices hgo : W p l e (headSpec wsX0_bottomBefore ({ frames := 0, cells := 0, slots := 0, locals := 0 })).room s m ([.ref h].toArray) below meth c s.heap [] 0 0 (Qf rv) (entryFrame m ([.ref h].toArray) 1) by rw [hQf] at hgo; exact hgo
  have hl := lv_entry ([.ref h]) (n := 1) (Nat.le_of_ble_eq_true rfl)
  rw [lg_entry_eq]
  generalize (lg_sl ([.ref h]) ++ List.replicate (1 - (lg_sl ([.ref h])).length) Slot.unset).toArray = ls at hl ⊢
  have hl : lv_has ls 1 [(0, .ref h)] := hl
  unfold fX0_bottomBefore at hf
  refine lv_aload_n hx hb dX0_bottomBefore_0 rfl (lv_at hl 0 rfl) ?_
  refine va_get (D := G) (ci := 0) (v := .int cn) (C := RX0) (T := TX0) (N := 4) hx hb hts hinX0 hown hK.1 hP 0 rfl rfl 3 (by decide) w0 (fun _ h9 => h9) rfl dX0_bottomBefore_1 ?_
  refine lv_if_le (tgt := 21) hx hb dX0_bottomBefore_4 (by decide) (fun c4 => ?_) (fun c4 => ?_)
  · have hf := it_t c4 hf
    refine lv_iconst (v := 1) hx hb dX0_bottomBefore_21 (by decide) ?_
    refine qf_s (Qf := Qf) hf ?_
    rw [hQf]
    exact W.iret hx hb hr (fun t ht hW => ⟨⟨_, (), rfl, rfl, trivial⟩, hS.F ht⟩) hS.2.2 dX0_bottomBefore_22
  · have hf := it_f c4 hf
    refine lv_aload_n hx hb dX0_bottomBefore_7 rfl (lv_at hl 0 rfl) ?_
    refine va_get (D := G) (ci := 0) (v := .ref a3) (C := RX0) (T := TX0) (N := 4) hx hb hts hinX0 hown hK.1 hP 0 rfl rfl 2 (by decide) w2 (fun _ h9 => h9) rfl dX0_bottomBefore_8 ?_
    refine lv_aload_n hx hb dX0_bottomBefore_11 rfl (lv_at hl 0 rfl) ?_
    refine va_get (D := G) (ci := 0) (v := .int cn) (C := RX0) (T := TX0) (N := 4) hx hb hts hinX0 hown hK.1 hP 0 rfl rfl 3 (by decide) w0 (fun _ h9 => h9) rfl dX0_bottomBefore_12 ?_
    refine lv_iconst (v := 1) hx hb dX0_bottomBefore_15 (by decide) ?_
    refine lv_isub hx hb dX0_bottomBefore_16 ?_
    obtain ⟨hi17, hf⟩ := ckI_s hf
    refine va_iald hx hb hK.1 hP 3 0 rfl rfl hi17 dX0_bottomBefore_17 ?_
    refine lv_goto (tgt := 22) hx hb dX0_bottomBefore_18 (by decide) ?_
    refine qf_s (Qf := Qf) hf ?_
    rw [hQf]
    exact W.iret hx hb hr (fun t ht hW => ⟨⟨_, (), rfl, rfl, trivial⟩, hS.F ht⟩) hS.2.2 dX0_bottomBefore_22
def fX0_startAnew (ts : Nat → Int32) (bs : Nat → Int32) (cn : Int32) : Option ((Nat → Int32) × (Nat → Int32) × Int32) :=
  ckI 0 33 <|
  nm (upd ts (Int32.toNatClampNeg 0) 1) fun ts11 =>
  ckI 0 33 <|
  nm (upd bs (Int32.toNatClampNeg 0) 0) fun bs18 =>
  some (ts11, bs18, 0)
set_option maxHeartbeats 4000000 in
set_option maxRecDepth 100000 in
theorem zX0_startAnew (l : Launch) (G : va_G) (cI : ClassId) (sz : Nat) (h a1 a2 a3 : Nat) (qs : Nat → Int32) (ts : Nat → Int32) (bs : Nat → Int32) (cn : Int32) {o_ts : Nat → Int32} {o_bs : Nat → Int32} {o_cn : Int32} (hf : fX0_startAnew ts bs cn = some (o_ts, o_bs, o_cn)) : mMv l yX0_startAnew wsX0_startAnew ({ frames := 0, cells := 0, slots := 0, locals := 0 }) [.ref h] G cI [(h, .inr (0, [.ref a1, .ref a2, .ref a3, .int cn])), (a1, .inl (cI, 32, .inl qs)), (a2, .inl (cI, 33, .inl ts)), (a3, .inl (cI, 33, .inl bs))] sz [(h, .inr (0, [.ref a1, .ref a2, .ref a3, .int o_cn])), (a1, .inl (cI, 32, .inl qs)), (a2, .inl (cI, 33, .inl o_ts)), (a3, .inl (cI, 33, .inl o_bs))] 0 0 := by
  refine Met.ofW (cc := cX0_startAnew) (maxL := 1) (ret := none) (by decide) rfl ?_
  intro p e s m args below meth c s₁ B hml hv
  obtain ⟨rfl, hsz, hP, hK, hD0⟩ := hv
  have hx := B.exec
  have hb := B.bytes
  have hr := B.returns
  have hts := atoms_spec (ws := wsX0_startAnew) B.pre
  have hown : s.vm.findClass RX0 = some m.cls := findClass_of_methodNamed B.named
  have hlocks := B.notSynchronized
  subst hsz
  have hD := hD0.self (sz := s.heap.size)
  generalize hAe : va_A [(h, .inr (0, [.ref a1, .ref a2, .ref a3, .int cn])), (a1, .inl (cI, 32, .inl qs)), (a2, .inl (cI, 33, .inl ts)), (a3, .inl (cI, 33, .inl bs))] s.heap.size = A at hD ⊢
  have hA : ∀ q : Nat, s.heap.size ≤ q → A q := fun q h => by rw [← hAe]; exact Or.inr h
  have hS : va_S A s.heap s.heap [] := va_S.rf
  have w0 := hts (.fieldLink RX0 21 "SternDesk$Expansion" "count" "I") (by decide +kernel)
  have hinX0 : ∀ w ∈ u_ws RX0 TX0 4, w ∈ wsX0_startAnew := by decide +kernel
  have w2 := hts (.fieldLink RX0 15 "SternDesk$Expansion" "tops" "[I") (by decide +kernel)
  have w3 := hts (.fieldLink RX0 18 "SternDesk$Expansion" "bottoms" "[I") (by decide +kernel)
  obtain ⟨Qf, hQf⟩ : ∃ f : ((Nat → Int32) × (Nat → Int32) × Int32) → State → Prop, f = fun z => MQ below (va_Qv (fun (_ : Unit) => True) (fun _ t => va_P G vwCl [(h, .inr (0, [.ref a1, .ref a2, .ref a3, .int z.2.2])), (a1, .inl (cI, 32, .inl qs)), (a2, .inl (cI, 33, .inl z.1)), (a3, .inl (cI, 33, .inl z.2.1))] t.heap ∧ va_D A [(h, .inr (0, [.ref a1, .ref a2, .ref a3, .int z.2.2])), (a1, .inl (cI, 32, .inl qs)), (a2, .inl (cI, 33, .inl z.1)), (a3, .inl (cI, 33, .inl z.2.1))]) A) ([.ref h].toArray) s 0 0 A := ⟨_, rfl⟩
  suffices hgo : W p l e (headSpec wsX0_startAnew ({ frames := 0, cells := 0, slots := 0, locals := 0 })).room s m ([.ref h].toArray) below meth c s.heap [] 0 0 (Qf (o_ts, o_bs, o_cn)) (entryFrame m ([.ref h].toArray) 1) by rw [hQf] at hgo; exact hgo
  have hl := lv_entry ([.ref h]) (n := 1) (Nat.le_of_ble_eq_true rfl)
  rw [lg_entry_eq]
  generalize (lg_sl ([.ref h]) ++ List.replicate (1 - (lg_sl ([.ref h])).length) Slot.unset).toArray = ls at hl ⊢
  have hl : lv_has ls 1 [(0, .ref h)] := hl
  unfold fX0_startAnew at hf
  refine lv_aload_n hx hb dX0_startAnew_0 rfl (lv_at hl 0 rfl) ?_
  refine lv_iconst (v := 0) hx hb dX0_startAnew_1 (by decide) ?_
  refine va_put (D := G) (ci := 0) (v := .int 0) (ty := .int) (C := RX0) (T := TX0) (N := 4) hx hb hts hinX0 tyX0 tyX0_ok nmX0 hown hK.1 hP hD hS 0 rfl rfl 3 (by decide) w0 (fun _ h9 => h9) rfl (by decide +kernel) rfl rfl (Nat.le_of_ble_eq_true rfl) dX0_startAnew_2 (fun H locs hP hD hS => ?_)
  have hP : va_P G vwCl [(h, .inr (0, [.ref a1, .ref a2, .ref a3, .int 0])), (a1, .inl (cI, 32, .inl qs)), (a2, .inl (cI, 33, .inl ts)), (a3, .inl (cI, 33, .inl bs))] H := hP
  have hD : va_D A [(h, .inr (0, [.ref a1, .ref a2, .ref a3, .int 0])), (a1, .inl (cI, 32, .inl qs)), (a2, .inl (cI, 33, .inl ts)), (a3, .inl (cI, 33, .inl bs))] := hD
  refine lv_aload_n hx hb dX0_startAnew_5 rfl (lv_at hl 0 rfl) ?_
  refine va_get (D := G) (ci := 0) (v := .ref a2) (C := RX0) (T := TX0) (N := 4) hx hb hts hinX0 hown hK.1 hP 0 rfl rfl 1 (by decide) w2 (fun _ h9 => h9) rfl dX0_startAnew_6 ?_
  refine lv_iconst (v := 0) hx hb dX0_startAnew_9 (by decide) ?_
  refine lv_iconst (v := 1) hx hb dX0_startAnew_10 (by decide) ?_
  obtain ⟨hi11, hf⟩ := ckI_s hf
  refine va_iast hx hb hK.1 hP hD hS 2 0 rfl rfl hi11 dX0_startAnew_11 (fun H locs hP hD hS => ?_)
  obtain ⟨ts11, ets11⟩ : ∃ z : Nat → Int32, z = upd ts (Int32.toNatClampNeg 0) 1 := ⟨_, rfl⟩
  have hf := nm_s ets11 hf
  rw [← ets11] at hP hD
  have hP : va_P G vwCl [(h, .inr (0, [.ref a1, .ref a2, .ref a3, .int 0])), (a1, .inl (cI, 32, .inl qs)), (a2, .inl (cI, 33, .inl ts11)), (a3, .inl (cI, 33, .inl bs))] H := hP
  have hD : va_D A [(h, .inr (0, [.ref a1, .ref a2, .ref a3, .int 0])), (a1, .inl (cI, 32, .inl qs)), (a2, .inl (cI, 33, .inl ts11)), (a3, .inl (cI, 33, .inl bs))] := hD
  refine lv_aload_n hx hb dX0_startAnew_12 rfl (lv_at hl 0 rfl) ?_
  refine va_get (D := G) (ci := 0) (v := .ref a3) (C := RX0) (T := TX0) (N := 4) hx hb hts hinX0 hown hK.1 hP 0 rfl rfl 2 (by decide) w3 (fun _ h9 => h9) rfl dX0_startAnew_13 ?_
  refine lv_iconst (v := 0) hx hb dX0_startAnew_16 (by decide) ?_
  refine lv_iconst (v := 0) hx hb dX0_startAnew_17 (by decide) ?_
  obtain ⟨hi18, hf⟩ := ckI_s hf
  refine va_iast hx hb hK.1 hP hD hS 3 0 rfl rfl hi18 dX0_startAnew_18 (fun H locs hP hD hS => ?_)
  obtain ⟨bs18, ebs18⟩ : ∃ z : Nat → Int32, z = upd bs (Int32.toNatClampNeg 0) 0 := ⟨_, rfl⟩
  have hf := nm_s ebs18 hf
  rw [← ebs18] at hP hD
  have hP : va_P G vwCl [(h, .inr (0, [.ref a1, .ref a2, .ref a3, .int 0])), (a1, .inl (cI, 32, .inl qs)), (a2, .inl (cI, 33, .inl ts11)), (a3, .inl (cI, 33, .inl bs18))] H := hP
  have hD : va_D A [(h, .inr (0, [.ref a1, .ref a2, .ref a3, .int 0])), (a1, .inl (cI, 32, .inl qs)), (a2, .inl (cI, 33, .inl ts11)), (a3, .inl (cI, 33, .inl bs18))] := hD
  refine qf_s (Qf := Qf) hf ?_
  have hP9 : va_P G vwCl [(h, .inr (0, [.ref a1, .ref a2, .ref a3, .int 0])), (a1, .inl (cI, 32, .inl qs)), (a2, .inl (cI, 33, .inl ts11)), (a3, .inl (cI, 33, .inl bs18))] _ := hP.sub [0, 1, 2, 3] rfl
  have hD9 : va_D A [(h, .inr (0, [.ref a1, .ref a2, .ref a3, .int 0])), (a1, .inl (cI, 32, .inl qs)), (a2, .inl (cI, 33, .inl ts11)), (a3, .inl (cI, 33, .inl bs18))] := hD.sub [0, 1, 2, 3] (by decide) rfl
  rw [hQf]
  exact W.vret hx hb hr (fun t ht hW => ⟨⟨(), rfl, trivial, by rw [ht]; exact hP9, hD9⟩, hS.F ht⟩) hS.2.2 dX0_startAnew_19
def fX0_addTerm (qs : Nat → Int32) (ts : Nat → Int32) (bs : Nat → Int32) (cn : Int32) (p1 : Int32) : Option ((Nat → Int32) × (Nat → Int32) × (Nat → Int32) × Int32) :=
  if cn < 32 then
    bd1 (fX0_top ts cn) fun r12 =>
    bd1 (fX0_topBefore ts cn) fun r17 =>
    nm ((p1 * r12) + r17) fun v21 =>
    bd1 (fX0_bottom bs cn) fun r24 =>
    bd1 (fX0_bottomBefore bs cn) fun r29 =>
    nm ((p1 * r24) + r29) fun v33 =>
    ckI cn 32 <|
    nm (upd qs (Int32.toNatClampNeg cn) p1) fun qs43 =>
    nm (cn + 1) fun v51 =>
    ckI v51 33 <|
    nm (upd ts (Int32.toNatClampNeg v51) v21) fun ts63 =>
    ckI v51 33 <|
    nm (upd bs (Int32.toNatClampNeg v51) v33) fun bs73 =>
    some (qs43, ts63, bs73, v51)
  else
    some (qs, ts, bs, cn)
set_option maxHeartbeats 4000000 in
set_option maxRecDepth 100000 in
theorem zX0_addTerm (l : Launch) (G : va_G) (cI : ClassId) (sz : Nat) (h a1 a2 a3 : Nat) (qs : Nat → Int32) (ts : Nat → Int32) (bs : Nat → Int32) (cn : Int32) (p1 : Int32) {o_qs : Nat → Int32} {o_ts : Nat → Int32} {o_bs : Nat → Int32} {o_cn : Int32} (hf : fX0_addTerm qs ts bs cn p1 = some (o_qs, o_ts, o_bs, o_cn)) : mMv l yX0_addTerm wsX0_addTerm ({ frames := 1, cells := 0, slots := 0, locals := 20 }) [.ref h, .int p1] G cI [(h, .inr (0, [.ref a1, .ref a2, .ref a3, .int cn])), (a1, .inl (cI, 32, .inl qs)), (a2, .inl (cI, 33, .inl ts)), (a3, .inl (cI, 33, .inl bs))] sz [(h, .inr (0, [.ref a1, .ref a2, .ref a3, .int o_cn])), (a1, .inl (cI, 32, .inl o_qs)), (a2, .inl (cI, 33, .inl o_ts)), (a3, .inl (cI, 33, .inl o_bs))] 0 0 := by
  refine Met.ofW (cc := cX0_addTerm) (maxL := 4) (ret := none) (by decide) rfl ?_
  intro p e s m args below meth c s₁ B hml hv
  obtain ⟨rfl, hsz, hP, hK, hD0⟩ := hv
  have hx := B.exec
  have hb := B.bytes
  have hr := B.returns
  have hts := atoms_spec (ws := wsX0_addTerm) B.pre
  have hown : s.vm.findClass RX0 = some m.cls := findClass_of_methodNamed B.named
  have hlocks := B.notSynchronized
  subst hsz
  have hD := hD0.self (sz := s.heap.size)
  generalize hAe : va_A [(h, .inr (0, [.ref a1, .ref a2, .ref a3, .int cn])), (a1, .inl (cI, 32, .inl qs)), (a2, .inl (cI, 33, .inl ts)), (a3, .inl (cI, 33, .inl bs))] s.heap.size = A at hD ⊢
  have hA : ∀ q : Nat, s.heap.size ≤ q → A q := fun q h => by rw [← hAe]; exact Or.inr h
  have hS : va_S A s.heap s.heap [] := va_S.rf
  have w0 := hts (.fieldLink RX0 21 "SternDesk$Expansion" "count" "I") (by decide +kernel)
  have hinX0 : ∀ w ∈ u_ws RX0 TX0 4, w ∈ wsX0_addTerm := by decide +kernel
  have w2 := hts (.fieldLink RX0 9 "SternDesk$Expansion" "quotients" "[I") (by decide +kernel)
  have w3 := hts (.fieldLink RX0 15 "SternDesk$Expansion" "tops" "[I") (by decide +kernel)
  have w4 := hts (.fieldLink RX0 18 "SternDesk$Expansion" "bottoms" "[I") (by decide +kernel)
  obtain ⟨Qf, hQf⟩ : ∃ f : ((Nat → Int32) × (Nat → Int32) × (Nat → Int32) × Int32) → State → Prop, f = fun z => MQ below (va_Qv (fun (_ : Unit) => True) (fun _ t => va_P G vwCl [(h, .inr (0, [.ref a1, .ref a2, .ref a3, .int z.2.2.2])), (a1, .inl (cI, 32, .inl z.1)), (a2, .inl (cI, 33, .inl z.2.1)), (a3, .inl (cI, 33, .inl z.2.2.1))] t.heap ∧ va_D A [(h, .inr (0, [.ref a1, .ref a2, .ref a3, .int z.2.2.2])), (a1, .inl (cI, 32, .inl z.1)), (a2, .inl (cI, 33, .inl z.2.1)), (a3, .inl (cI, 33, .inl z.2.2.1))]) A) ([.ref h, .int p1].toArray) s 0 0 A := ⟨_, rfl⟩
  suffices hgo : W p l e (headSpec wsX0_addTerm ({ frames := 1, cells := 0, slots := 0, locals := 20 })).room s m ([.ref h, .int p1].toArray) below meth c s.heap [] 0 0 (Qf (o_qs, o_ts, o_bs, o_cn)) (entryFrame m ([.ref h, .int p1].toArray) 4) by rw [hQf] at hgo; exact hgo
  have hl := lv_entry ([.ref h, .int p1]) (n := 4) (Nat.le_of_ble_eq_true rfl)
  rw [lg_entry_eq]
  generalize (lg_sl ([.ref h, .int p1]) ++ List.replicate (4 - (lg_sl ([.ref h, .int p1])).length) Slot.unset).toArray = ls at hl ⊢
  have hl : lv_has ls 4 [(0, .ref h), (1, .int p1)] := hl
  unfold fX0_addTerm at hf
  refine lv_aload_n hx hb dX0_addTerm_0 rfl (lv_at hl 0 rfl) ?_
  refine va_get (D := G) (ci := 0) (v := .int cn) (C := RX0) (T := TX0) (N := 4) hx hb hts hinX0 hown hK.1 hP 0 rfl rfl 3 (by decide) w0 (fun _ h9 => h9) rfl dX0_addTerm_1 ?_
  refine lv_bipush (v := 32) hx hb dX0_addTerm_4 (by decide) ?_
  refine lv_icmp_lt (tgt := 10) hx hb dX0_addTerm_6 (by decide) (fun c6 => ?_) (fun c6 => ?_)
  · have hf := it_t c6 hf
    refine lv_iload_n hx hb dX0_addTerm_10 rfl (lv_at hl 1 rfl) ?_
    refine lv_aload_n hx hb dX0_addTerm_11 rfl (lv_at hl 0 rfl) ?_
    obtain ⟨r12, hv12, hf⟩ := bd1_s hf
    refine roVi (As := []) (rest := [.int p1]) ⟨hx, hb, hml, hown, hts⟩ (zX0_top l G cI _ h a1 a2 a3 qs ts bs cn  hv12) (cwV 0 hts gX0_addTerm_X0_top rfl rfl rfl (by decide +kernel) ⟨Nat.le_of_ble_eq_true rfl, Nat.le_of_ble_eq_true rfl⟩) hK hP (hP.sub [0, 1, 2, 3] rfl) rfl rfl rfl hl.1 rfl (Nat.le_of_ble_eq_true rfl) dX0_addTerm_12 ⟨Nat.le_of_ble_eq_true rfl, Nat.le_of_ble_eq_true rfl⟩ hS hA (fun H locs hP hz12 hS => ?_)
    refine lv_imul hx hb dX0_addTerm_15 ?_
    refine lv_aload_n hx hb dX0_addTerm_16 rfl (lv_at hl 0 rfl) ?_
    obtain ⟨r17, hv17, hf⟩ := bd1_s hf
    refine roVi (As := []) (rest := [.int (p1 * r12)]) ⟨hx, hb, hml, hown, hts⟩ (zX0_topBefore l G cI _ h a1 a2 a3 qs ts bs cn  hv17) (cwV 0 hts gX0_addTerm_X0_topBefore rfl rfl rfl (by decide +kernel) ⟨Nat.le_of_ble_eq_true rfl, Nat.le_of_ble_eq_true rfl⟩) hK hP (hP.sub [0, 1, 2, 3] rfl) rfl rfl rfl hl.1 rfl (Nat.le_of_ble_eq_true rfl) dX0_addTerm_17 ⟨Nat.le_of_ble_eq_true rfl, Nat.le_of_ble_eq_true rfl⟩ hS hA (fun H locs hP hz17 hS => ?_)
    refine lv_iadd hx hb dX0_addTerm_20 ?_
    refine lv_topi (fun v21 ev21 => ?_)
    have hf := nm_s ev21 hf
    refine lv_istore_n (lv' := [(2, .int v21), (0, .ref h), (1, .int p1)]) hx hb dX0_addTerm_21 rfl hl (by decide) rfl (fun ls hl => ?_)
    refine lv_iload_n hx hb dX0_addTerm_22 rfl (lv_at hl 2 rfl) ?_
    refine lv_aload_n hx hb dX0_addTerm_23 rfl (lv_at hl 1 rfl) ?_
    obtain ⟨r24, hv24, hf⟩ := bd1_s hf
    refine roVi (As := []) (rest := [.int p1]) ⟨hx, hb, hml, hown, hts⟩ (zX0_bottom l G cI _ h a1 a2 a3 qs ts bs cn  hv24) (cwV 0 hts gX0_addTerm_X0_bottom rfl rfl rfl (by decide +kernel) ⟨Nat.le_of_ble_eq_true rfl, Nat.le_of_ble_eq_true rfl⟩) hK hP (hP.sub [0, 1, 2, 3] rfl) rfl rfl rfl hl.1 rfl (Nat.le_of_ble_eq_true rfl) dX0_addTerm_24 ⟨Nat.le_of_ble_eq_true rfl, Nat.le_of_ble_eq_true rfl⟩ hS hA (fun H locs hP hz24 hS => ?_)
    refine lv_imul hx hb dX0_addTerm_27 ?_
    refine lv_aload_n hx hb dX0_addTerm_28 rfl (lv_at hl 1 rfl) ?_
    obtain ⟨r29, hv29, hf⟩ := bd1_s hf
    refine roVi (As := []) (rest := [.int (p1 * r24)]) ⟨hx, hb, hml, hown, hts⟩ (zX0_bottomBefore l G cI _ h a1 a2 a3 qs ts bs cn  hv29) (cwV 0 hts gX0_addTerm_X0_bottomBefore rfl rfl rfl (by decide +kernel) ⟨Nat.le_of_ble_eq_true rfl, Nat.le_of_ble_eq_true rfl⟩) hK hP (hP.sub [0, 1, 2, 3] rfl) rfl rfl rfl hl.1 rfl (Nat.le_of_ble_eq_true rfl) dX0_addTerm_29 ⟨Nat.le_of_ble_eq_true rfl, Nat.le_of_ble_eq_true rfl⟩ hS hA (fun H locs hP hz29 hS => ?_)
    refine lv_iadd hx hb dX0_addTerm_32 ?_
    refine lv_topi (fun v33 ev33 => ?_)
    have hf := nm_s ev33 hf
    refine lv_istore_n (lv' := [(3, .int v33), (2, .int v21), (0, .ref h), (1, .int p1)]) hx hb dX0_addTerm_33 rfl hl (by decide) rfl (fun ls hl => ?_)
    refine lv_aload_n hx hb dX0_addTerm_34 rfl (lv_at hl 2 rfl) ?_
    refine va_get (D := G) (ci := 0) (v := .ref a1) (C := RX0) (T := TX0) (N := 4) hx hb hts hinX0 hown hK.1 hP 0 rfl rfl 0 (by decide) w2 (fun _ h9 => h9) rfl dX0_addTerm_35 ?_
    refine lv_aload_n hx hb dX0_addTerm_38 rfl (lv_at hl 2 rfl) ?_
    refine va_get (D := G) (ci := 0) (v := .int cn) (C := RX0) (T := TX0) (N := 4) hx hb hts hinX0 hown hK.1 hP 0 rfl rfl 3 (by decide) w0 (fun _ h9 => h9) rfl dX0_addTerm_39 ?_
    refine lv_iload_n hx hb dX0_addTerm_42 rfl (lv_at hl 3 rfl) ?_
    obtain ⟨hi43, hf⟩ := ckI_s hf
    refine va_iast hx hb hK.1 hP hD hS 1 0 rfl rfl hi43 dX0_addTerm_43 (fun H locs hP hD hS => ?_)
    obtain ⟨qs43, eqs43⟩ : ∃ z : Nat → Int32, z = upd qs (Int32.toNatClampNeg cn) p1 := ⟨_, rfl⟩
    have hf := nm_s eqs43 hf
    rw [← eqs43] at hP hD
    have hP : va_P G vwCl [(h, .inr (0, [.ref a1, .ref a2, .ref a3, .int cn])), (a1, .inl (cI, 32, .inl qs43)), (a2, .inl (cI, 33, .inl ts)), (a3, .inl (cI, 33, .inl bs))] H := hP
    have hD : va_D A [(h, .inr (0, [.ref a1, .ref a2, .ref a3, .int cn])), (a1, .inl (cI, 32, .inl qs43)), (a2, .inl (cI, 33, .inl ts)), (a3, .inl (cI, 33, .inl bs))] := hD
    refine lv_aload_n hx hb dX0_addTerm_44 rfl (lv_at hl 2 rfl) ?_
    refine lv_dup hx hb dX0_addTerm_45 rfl ?_
    refine va_get (D := G) (ci := 0) (v := .int cn) (C := RX0) (T := TX0) (N := 4) hx hb hts hinX0 hown hK.1 hP 0 rfl rfl 3 (by decide) w0 (fun _ h9 => h9) rfl dX0_addTerm_46 ?_
    refine lv_iconst (v := 1) hx hb dX0_addTerm_49 (by decide) ?_
    refine lv_iadd hx hb dX0_addTerm_50 ?_
    refine lv_topi (fun v51 ev51 => ?_)
    have hf := nm_s ev51 hf
    refine va_put (D := G) (ci := 0) (v := .int v51) (ty := .int) (C := RX0) (T := TX0) (N := 4) hx hb hts hinX0 tyX0 tyX0_ok nmX0 hown hK.1 hP hD hS 0 rfl rfl 3 (by decide) w0 (fun _ h9 => h9) rfl (by decide +kernel) rfl rfl (Nat.le_of_ble_eq_true rfl) dX0_addTerm_51 (fun H locs hP hD hS => ?_)
    have hP : va_P G vwCl [(h, .inr (0, [.ref a1, .ref a2, .ref a3, .int v51])), (a1, .inl (cI, 32, .inl qs43)), (a2, .inl (cI, 33, .inl ts)), (a3, .inl (cI, 33, .inl bs))] H := hP
    have hD : va_D A [(h, .inr (0, [.ref a1, .ref a2, .ref a3, .int v51])), (a1, .inl (cI, 32, .inl qs43)), (a2, .inl (cI, 33, .inl ts)), (a3, .inl (cI, 33, .inl bs))] := hD
    refine lv_aload_n hx hb dX0_addTerm_54 rfl (lv_at hl 2 rfl) ?_
    refine va_get (D := G) (ci := 0) (v := .ref a2) (C := RX0) (T := TX0) (N := 4) hx hb hts hinX0 hown hK.1 hP 0 rfl rfl 1 (by decide) w3 (fun _ h9 => h9) rfl dX0_addTerm_55 ?_
    refine lv_aload_n hx hb dX0_addTerm_58 rfl (lv_at hl 2 rfl) ?_
    refine va_get (D := G) (ci := 0) (v := .int v51) (C := RX0) (T := TX0) (N := 4) hx hb hts hinX0 hown hK.1 hP 0 rfl rfl 3 (by decide) w0 (fun _ h9 => h9) rfl dX0_addTerm_59 ?_
    refine lv_iload_n hx hb dX0_addTerm_62 rfl (lv_at hl 1 rfl) ?_
    obtain ⟨hi63, hf⟩ := ckI_s hf
    refine va_iast hx hb hK.1 hP hD hS 2 0 rfl rfl hi63 dX0_addTerm_63 (fun H locs hP hD hS => ?_)
    obtain ⟨ts63, ets63⟩ : ∃ z : Nat → Int32, z = upd ts (Int32.toNatClampNeg v51) v21 := ⟨_, rfl⟩
    have hf := nm_s ets63 hf
    rw [← ets63] at hP hD
    have hP : va_P G vwCl [(h, .inr (0, [.ref a1, .ref a2, .ref a3, .int v51])), (a1, .inl (cI, 32, .inl qs43)), (a2, .inl (cI, 33, .inl ts63)), (a3, .inl (cI, 33, .inl bs))] H := hP
    have hD : va_D A [(h, .inr (0, [.ref a1, .ref a2, .ref a3, .int v51])), (a1, .inl (cI, 32, .inl qs43)), (a2, .inl (cI, 33, .inl ts63)), (a3, .inl (cI, 33, .inl bs))] := hD
    refine lv_aload_n hx hb dX0_addTerm_64 rfl (lv_at hl 2 rfl) ?_
    refine va_get (D := G) (ci := 0) (v := .ref a3) (C := RX0) (T := TX0) (N := 4) hx hb hts hinX0 hown hK.1 hP 0 rfl rfl 2 (by decide) w4 (fun _ h9 => h9) rfl dX0_addTerm_65 ?_
    refine lv_aload_n hx hb dX0_addTerm_68 rfl (lv_at hl 2 rfl) ?_
    refine va_get (D := G) (ci := 0) (v := .int v51) (C := RX0) (T := TX0) (N := 4) hx hb hts hinX0 hown hK.1 hP 0 rfl rfl 3 (by decide) w0 (fun _ h9 => h9) rfl dX0_addTerm_69 ?_
    refine lv_iload_n hx hb dX0_addTerm_72 rfl (lv_at hl 0 rfl) ?_
    obtain ⟨hi73, hf⟩ := ckI_s hf
    refine va_iast hx hb hK.1 hP hD hS 3 0 rfl rfl hi73 dX0_addTerm_73 (fun H locs hP hD hS => ?_)
    obtain ⟨bs73, ebs73⟩ : ∃ z : Nat → Int32, z = upd bs (Int32.toNatClampNeg v51) v33 := ⟨_, rfl⟩
    have hf := nm_s ebs73 hf
    rw [← ebs73] at hP hD
    have hP : va_P G vwCl [(h, .inr (0, [.ref a1, .ref a2, .ref a3, .int v51])), (a1, .inl (cI, 32, .inl qs43)), (a2, .inl (cI, 33, .inl ts63)), (a3, .inl (cI, 33, .inl bs73))] H := hP
    have hD : va_D A [(h, .inr (0, [.ref a1, .ref a2, .ref a3, .int v51])), (a1, .inl (cI, 32, .inl qs43)), (a2, .inl (cI, 33, .inl ts63)), (a3, .inl (cI, 33, .inl bs73))] := hD
    refine qf_s (Qf := Qf) hf ?_
    have hP9 : va_P G vwCl [(h, .inr (0, [.ref a1, .ref a2, .ref a3, .int v51])), (a1, .inl (cI, 32, .inl qs43)), (a2, .inl (cI, 33, .inl ts63)), (a3, .inl (cI, 33, .inl bs73))] _ := hP.sub [0, 1, 2, 3] rfl
    have hD9 : va_D A [(h, .inr (0, [.ref a1, .ref a2, .ref a3, .int v51])), (a1, .inl (cI, 32, .inl qs43)), (a2, .inl (cI, 33, .inl ts63)), (a3, .inl (cI, 33, .inl bs73))] := hD.sub [0, 1, 2, 3] (by decide) rfl
    rw [hQf]
    exact W.vret hx hb hr (fun t ht hW => ⟨⟨(), rfl, trivial, by rw [ht]; exact hP9, hD9⟩, hS.F ht⟩) hS.2.2 dX0_addTerm_74
  · have hf := it_f c6 hf
    refine qf_s (Qf := Qf) hf ?_
    have hP9 : va_P G vwCl [(h, .inr (0, [.ref a1, .ref a2, .ref a3, .int cn])), (a1, .inl (cI, 32, .inl qs)), (a2, .inl (cI, 33, .inl ts)), (a3, .inl (cI, 33, .inl bs))] _ := hP.sub [0, 1, 2, 3] rfl
    have hD9 : va_D A [(h, .inr (0, [.ref a1, .ref a2, .ref a3, .int cn])), (a1, .inl (cI, 32, .inl qs)), (a2, .inl (cI, 33, .inl ts)), (a3, .inl (cI, 33, .inl bs))] := hD.sub [0, 1, 2, 3] (by decide) rfl
    rw [hQf]
    exact W.vret hx hb hr (fun t ht hW => ⟨⟨(), rfl, trivial, by rw [ht]; exact hP9, hD9⟩, hS.F ht⟩) hS.2.2 dX0_addTerm_9
def fX0_expand_B12 (k12 : (Nat → Int32) → (Nat → Int32) → (Nat → Int32) → Int32 → Int32 → Int32 → Int32 → Option ((Nat → Int32) × (Nat → Int32) × (Nat → Int32) × Int32)) (qs : Nat → Int32) (ts : Nat → Int32) (bs : Nat → Int32) (cn : Int32) (x3 : Int32) (x4 : Int32) (x5 : Int32) : Option ((Nat → Int32) × (Nat → Int32) × (Nat → Int32) × Int32) :=
  if 32 ≤ x5 then
    some (qs, ts, bs, cn)
  else
    if x4 ≤ 0 then
      some (qs, ts, bs, cn)
    else
      ckZ x4 <|
      nm (x3 / x4) fun v28 =>
      nm (x3 - (v28 * x4)) fun v37 =>
      bd4 (fX0_addTerm qs ts bs cn v28) fun qs_42 ts_42 bs_42 cn_42 =>
      nm (x5 + 1) fun v52 =>
      k12 qs_42 ts_42 bs_42 cn_42 x4 v37 v52
def fX0_expand_L12 : Nat → (Nat → Int32) → (Nat → Int32) → (Nat → Int32) → Int32 → Int32 → Int32 → Int32 → Option ((Nat → Int32) × (Nat → Int32) × (Nat → Int32) × Int32)
  | 0, _, _, _, _, _, _, _ => none
  | n + 1, qs, ts, bs, cn, x3, x4, x5 => fX0_expand_B12 (fX0_expand_L12   n)  qs ts bs cn x3 x4 x5
def fX0_expand (qs : Nat → Int32) (ts : Nat → Int32) (bs : Nat → Int32) (cn : Int32) (p1 : Int32) (p2 : Int32) : Option ((Nat → Int32) × (Nat → Int32) × (Nat → Int32) × Int32) :=
  bd3 (fX0_startAnew ts bs cn) fun ts_1 bs_1 cn_1 =>
  fX0_expand_L12   FU qs ts_1 bs_1 cn_1 p1 p2 0
set_option maxHeartbeats 4000000 in
set_option maxRecDepth 100000 in
theorem zX0_expand (l : Launch) (G : va_G) (cI : ClassId) (sz : Nat) (h a1 a2 a3 : Nat) (qs : Nat → Int32) (ts : Nat → Int32) (bs : Nat → Int32) (cn : Int32) (p1 : Int32) (p2 : Int32) {o_qs : Nat → Int32} {o_ts : Nat → Int32} {o_bs : Nat → Int32} {o_cn : Int32} (hf : fX0_expand qs ts bs cn p1 p2 = some (o_qs, o_ts, o_bs, o_cn)) : mMv l yX0_expand wsX0_expand ({ frames := 2, cells := 0, slots := 0, locals := 43 }) [.ref h, .int p1, .int p2] G cI [(h, .inr (0, [.ref a1, .ref a2, .ref a3, .int cn])), (a1, .inl (cI, 32, .inl qs)), (a2, .inl (cI, 33, .inl ts)), (a3, .inl (cI, 33, .inl bs))] sz [(h, .inr (0, [.ref a1, .ref a2, .ref a3, .int o_cn])), (a1, .inl (cI, 32, .inl o_qs)), (a2, .inl (cI, 33, .inl o_ts)), (a3, .inl (cI, 33, .inl o_bs))] 0 0 := by
  refine Met.ofW (cc := cX0_expand) (maxL := 8) (ret := none) (by decide) rfl ?_
  intro p e s m args below meth c s₁ B hml hv
  obtain ⟨rfl, hsz, hP, hK, hD0⟩ := hv
  have hx := B.exec
  have hb := B.bytes
  have hr := B.returns
  have hts := atoms_spec (ws := wsX0_expand) B.pre
  have hown : s.vm.findClass RX0 = some m.cls := findClass_of_methodNamed B.named
  have hlocks := B.notSynchronized
  subst hsz
  have hD := hD0.self (sz := s.heap.size)
  generalize hAe : va_A [(h, .inr (0, [.ref a1, .ref a2, .ref a3, .int cn])), (a1, .inl (cI, 32, .inl qs)), (a2, .inl (cI, 33, .inl ts)), (a3, .inl (cI, 33, .inl bs))] s.heap.size = A at hD ⊢
  have hA : ∀ q : Nat, s.heap.size ≤ q → A q := fun q h => by rw [← hAe]; exact Or.inr h
  have hS : va_S A s.heap s.heap [] := va_S.rf
  obtain ⟨Qf, hQf⟩ : ∃ f : ((Nat → Int32) × (Nat → Int32) × (Nat → Int32) × Int32) → State → Prop, f = fun z => MQ below (va_Qv (fun (_ : Unit) => True) (fun _ t => va_P G vwCl [(h, .inr (0, [.ref a1, .ref a2, .ref a3, .int z.2.2.2])), (a1, .inl (cI, 32, .inl z.1)), (a2, .inl (cI, 33, .inl z.2.1)), (a3, .inl (cI, 33, .inl z.2.2.1))] t.heap ∧ va_D A [(h, .inr (0, [.ref a1, .ref a2, .ref a3, .int z.2.2.2])), (a1, .inl (cI, 32, .inl z.1)), (a2, .inl (cI, 33, .inl z.2.1)), (a3, .inl (cI, 33, .inl z.2.2.1))]) A) ([.ref h, .int p1, .int p2].toArray) s 0 0 A := ⟨_, rfl⟩
  suffices hgo : W p l e (headSpec wsX0_expand ({ frames := 2, cells := 0, slots := 0, locals := 43 })).room s m ([.ref h, .int p1, .int p2].toArray) below meth c s.heap [] 0 0 (Qf (o_qs, o_ts, o_bs, o_cn)) (entryFrame m ([.ref h, .int p1, .int p2].toArray) 8) by rw [hQf] at hgo; exact hgo
  have B12 : ∀ (k12 : (Nat → Int32) → (Nat → Int32) → (Nat → Int32) → Int32 → Int32 → Int32 → Int32 → Option ((Nat → Int32) × (Nat → Int32) × (Nat → Int32) × Int32)) (hk12 : ∀ (qs : Nat → Int32) (ts : Nat → Int32) (bs : Nat → Int32) (cn : Int32) (x3 : Int32) (x4 : Int32) (x5 : Int32) (H : Heap) (locs : List Loc) (ls : Array Slot), k12 qs ts bs cn x3 x4 x5 = some (o_qs, o_ts, o_bs, o_cn) → va_P G vwCl [(h, .inr (0, [.ref a1, .ref a2, .ref a3, .int cn])), (a1, .inl (cI, 32, .inl qs)), (a2, .inl (cI, 33, .inl ts)), (a3, .inl (cI, 33, .inl bs))] H → va_D A [(h, .inr (0, [.ref a1, .ref a2, .ref a3, .int cn])), (a1, .inl (cI, 32, .inl qs)), (a2, .inl (cI, 33, .inl ts)), (a3, .inl (cI, 33, .inl bs))] → va_S A s.heap H locs → lv_has ls 8 [(0, .ref h), (3, .int x3), (4, .int x4), (5, .int x5)] → W p l e (headSpec wsX0_expand ({ frames := 2, cells := 0, slots := 0, locals := 43 })).room s m ([.ref h, .int p1, .int p2].toArray) below meth c H locs 0 0 (Qf (o_qs, o_ts, o_bs, o_cn)) (F0 m 12 ls [])) (qs : Nat → Int32) (ts : Nat → Int32) (bs : Nat → Int32) (cn : Int32) (x3 : Int32) (x4 : Int32) (x5 : Int32) (H : Heap) (locs : List Loc) (ls : Array Slot), fX0_expand_B12 k12  qs ts bs cn x3 x4 x5 = some (o_qs, o_ts, o_bs, o_cn) → va_P G vwCl [(h, .inr (0, [.ref a1, .ref a2, .ref a3, .int cn])), (a1, .inl (cI, 32, .inl qs)), (a2, .inl (cI, 33, .inl ts)), (a3, .inl (cI, 33, .inl bs))] H → va_D A [(h, .inr (0, [.ref a1, .ref a2, .ref a3, .int cn])), (a1, .inl (cI, 32, .inl qs)), (a2, .inl (cI, 33, .inl ts)), (a3, .inl (cI, 33, .inl bs))] → va_S A s.heap H locs → lv_has ls 8 [(0, .ref h), (3, .int x3), (4, .int x4), (5, .int x5)] → W p l e (headSpec wsX0_expand ({ frames := 2, cells := 0, slots := 0, locals := 43 })).room s m ([.ref h, .int p1, .int p2].toArray) below meth c H locs 0 0 (Qf (o_qs, o_ts, o_bs, o_cn)) (F0 m 12 ls []) := by
    intro k12 hk12  qs ts bs cn x3 x4 x5 H locs ls hf hP hD hS hl
    unfold fX0_expand_B12 at hf
    refine lv_iload hx hb dX0_expand_12 (lv_at hl 3 rfl) ?_
    refine lv_bipush (v := 32) hx hb dX0_expand_14 (by decide) ?_
    refine lv_icmp_ge (tgt := 58) hx hb dX0_expand_16 (by decide) (fun c16 => ?_) (fun c16 => ?_)
    · have hf := it_t c16 hf
      refine qf_s (Qf := Qf) hf ?_
      have hP9 : va_P G vwCl [(h, .inr (0, [.ref a1, .ref a2, .ref a3, .int cn])), (a1, .inl (cI, 32, .inl qs)), (a2, .inl (cI, 33, .inl ts)), (a3, .inl (cI, 33, .inl bs))] _ := hP.sub [0, 1, 2, 3] rfl
      have hD9 : va_D A [(h, .inr (0, [.ref a1, .ref a2, .ref a3, .int cn])), (a1, .inl (cI, 32, .inl qs)), (a2, .inl (cI, 33, .inl ts)), (a3, .inl (cI, 33, .inl bs))] := hD.sub [0, 1, 2, 3] (by decide) rfl
      rw [hQf]
      exact W.vret hx hb hr (fun t ht hW => ⟨⟨(), rfl, trivial, by rw [ht]; exact hP9, hD9⟩, hS.F ht⟩) hS.2.2 dX0_expand_58
    · have hf := it_f c16 hf
      refine lv_iload hx hb dX0_expand_19 (lv_at hl 2 rfl) ?_
      refine lv_if_le (tgt := 58) hx hb dX0_expand_21 (by decide) (fun c21 => ?_) (fun c21 => ?_)
      · have hf := it_t c21 hf
        refine qf_s (Qf := Qf) hf ?_
        have hP9 : va_P G vwCl [(h, .inr (0, [.ref a1, .ref a2, .ref a3, .int cn])), (a1, .inl (cI, 32, .inl qs)), (a2, .inl (cI, 33, .inl ts)), (a3, .inl (cI, 33, .inl bs))] _ := hP.sub [0, 1, 2, 3] rfl
        have hD9 : va_D A [(h, .inr (0, [.ref a1, .ref a2, .ref a3, .int cn])), (a1, .inl (cI, 32, .inl qs)), (a2, .inl (cI, 33, .inl ts)), (a3, .inl (cI, 33, .inl bs))] := hD.sub [0, 1, 2, 3] (by decide) rfl
        rw [hQf]
        exact W.vret hx hb hr (fun t ht hW => ⟨⟨(), rfl, trivial, by rw [ht]; exact hP9, hD9⟩, hS.F ht⟩) hS.2.2 dX0_expand_58
      · have hf := it_f c21 hf
        refine lv_iload_n hx hb dX0_expand_24 rfl (lv_at hl 1 rfl) ?_
        refine lv_iload hx hb dX0_expand_25 (lv_at hl 2 rfl) ?_
        obtain ⟨hz27, hf⟩ := ckZ_s hf
        refine lv_idiv hx hb dX0_expand_27 hz27 ?_
        refine lv_topi (fun v28 ev28 => ?_)
        have hf := nm_s ev28 hf
        refine lv_istore (lv' := [(6, .int v28), (0, .ref h), (3, .int x3), (4, .int x4), (5, .int x5)]) hx hb dX0_expand_28 hl (by decide) rfl (fun ls hl => ?_)
        refine lv_iload_n hx hb dX0_expand_30 rfl (lv_at hl 2 rfl) ?_
        refine lv_iload hx hb dX0_expand_31 (lv_at hl 0 rfl) ?_
        refine lv_iload hx hb dX0_expand_33 (lv_at hl 3 rfl) ?_
        refine lv_imul hx hb dX0_expand_35 ?_
        refine lv_isub hx hb dX0_expand_36 ?_
        refine lv_topi (fun v37 ev37 => ?_)
        have hf := nm_s ev37 hf
        refine lv_istore (lv' := [(7, .int v37), (6, .int v28), (0, .ref h), (3, .int x3), (4, .int x4), (5, .int x5)]) hx hb dX0_expand_37 hl (by decide) rfl (fun ls hl => ?_)
        refine lv_aload_n hx hb dX0_expand_39 rfl (lv_at hl 2 rfl) ?_
        refine lv_iload hx hb dX0_expand_40 (lv_at hl 1 rfl) ?_
        obtain ⟨qs_42, ts_42, bs_42, cn_42, hv42, hf⟩ := bd4_s hf
        refine mcVv (As := [.int v28]) (rest := []) (wr := []) (wc := [(h, .inr (0, [.ref a1, .ref a2, .ref a3, .int cn])), (a1, .inl (cI, 32, .inl qs)), (a2, .inl (cI, 33, .inl ts)), (a3, .inl (cI, 33, .inl bs))]) ⟨hx, hb, hml, hown, hts⟩ (zX0_addTerm l G cI _ h a1 a2 a3 qs ts bs cn v28 hv42) (cwV 1 hts gX0_expand_X0_addTerm rfl rfl rfl (by decide +kernel) ⟨Nat.le_of_ble_eq_true rfl, Nat.le_of_ble_eq_true rfl⟩) hK hP hD [0, 1, 2, 3] [] rfl rfl rfl (by decide) (by decide) (by decide) rfl rfl rfl hl.1 rfl (Nat.le_of_ble_eq_true rfl) dX0_expand_42 ⟨Nat.le_of_ble_eq_true rfl, Nat.le_of_ble_eq_true rfl⟩ hS hA (fun H locs hP hD hz42 hS => ?_)
        have hP : va_P G vwCl [(h, .inr (0, [.ref a1, .ref a2, .ref a3, .int cn_42])), (a1, .inl (cI, 32, .inl qs_42)), (a2, .inl (cI, 33, .inl ts_42)), (a3, .inl (cI, 33, .inl bs_42))] H := hP
        have hD : va_D A [(h, .inr (0, [.ref a1, .ref a2, .ref a3, .int cn_42])), (a1, .inl (cI, 32, .inl qs_42)), (a2, .inl (cI, 33, .inl ts_42)), (a3, .inl (cI, 33, .inl bs_42))] := hD
        refine lv_iload hx hb dX0_expand_45 (lv_at hl 4 rfl) ?_
        refine lv_istore_n (lv' := [(3, .int x4), (7, .int v37), (6, .int v28), (0, .ref h), (4, .int x4), (5, .int x5)]) hx hb dX0_expand_47 rfl hl (by decide) rfl (fun ls hl => ?_)
        refine lv_iload hx hb dX0_expand_48 (lv_at hl 1 rfl) ?_
        refine lv_istore (lv' := [(4, .int v37), (3, .int x4), (7, .int v37), (6, .int v28), (0, .ref h), (5, .int x5)]) hx hb dX0_expand_50 hl (by decide) rfl (fun ls hl => ?_)
        obtain ⟨v52, ev52⟩ : ∃ y : Int32, y = x5 + 1 := ⟨_, rfl⟩
        have hf := nm_s ev52 hf
        refine lv_iinc (v := v52) (lv' := [(5, .int v52), (4, .int v37), (3, .int x4), (7, .int v37), (6, .int v28), (0, .ref h)]) hx hb dX0_expand_52 hl (k := 5) rfl (by rw [ev52]; rfl) (by decide) rfl (fun ls hl => ?_)
        refine lv_goto (tgt := 12) hx hb dX0_expand_55 (by decide) ?_
        exact hk12  qs_42 ts_42 bs_42 cn_42 x4 v37 v52 _ _ _ hf hP hD hS (lv_sub hl [5, 2, 1, 0] rfl)
  have L12 : ∀ (fu : Nat) (qs : Nat → Int32) (ts : Nat → Int32) (bs : Nat → Int32) (cn : Int32) (x3 : Int32) (x4 : Int32) (x5 : Int32) (H : Heap) (locs : List Loc) (ls : Array Slot), fX0_expand_L12   fu qs ts bs cn x3 x4 x5 = some (o_qs, o_ts, o_bs, o_cn) → va_P G vwCl [(h, .inr (0, [.ref a1, .ref a2, .ref a3, .int cn])), (a1, .inl (cI, 32, .inl qs)), (a2, .inl (cI, 33, .inl ts)), (a3, .inl (cI, 33, .inl bs))] H → va_D A [(h, .inr (0, [.ref a1, .ref a2, .ref a3, .int cn])), (a1, .inl (cI, 32, .inl qs)), (a2, .inl (cI, 33, .inl ts)), (a3, .inl (cI, 33, .inl bs))] → va_S A s.heap H locs → lv_has ls 8 [(0, .ref h), (3, .int x3), (4, .int x4), (5, .int x5)] → W p l e (headSpec wsX0_expand ({ frames := 2, cells := 0, slots := 0, locals := 43 })).room s m ([.ref h, .int p1, .int p2].toArray) below meth c H locs 0 0 (Qf (o_qs, o_ts, o_bs, o_cn)) (F0 m 12 ls []) := by
    intro  fu
    induction fu with
    | zero => intro qs ts bs cn x3 x4 x5 H locs ls hf; cases hf
    | succ fu ih => intro qs ts bs cn x3 x4 x5 H locs ls hf hP hD hS hl; exact B12 (fX0_expand_L12   fu) ih qs ts bs cn x3 x4 x5 _ _ _ hf hP hD hS hl
  have hl := lv_entry ([.ref h, .int p1, .int p2]) (n := 8) (Nat.le_of_ble_eq_true rfl)
  rw [lg_entry_eq]
  generalize (lg_sl ([.ref h, .int p1, .int p2]) ++ List.replicate (8 - (lg_sl ([.ref h, .int p1, .int p2])).length) Slot.unset).toArray = ls at hl ⊢
  have hl : lv_has ls 8 [(0, .ref h), (1, .int p1), (2, .int p2)] := hl
  unfold fX0_expand at hf
  refine lv_aload_n hx hb dX0_expand_0 rfl (lv_at hl 0 rfl) ?_
  obtain ⟨ts_1, bs_1, cn_1, hv1, hf⟩ := bd3_s hf
  refine mcVv (As := []) (rest := []) (wr := []) (wc := [(h, .inr (0, [.ref a1, .ref a2, .ref a3, .int cn])), (a1, .inl (cI, 32, .inl qs)), (a2, .inl (cI, 33, .inl ts)), (a3, .inl (cI, 33, .inl bs))]) ⟨hx, hb, hml, hown, hts⟩ (zX0_startAnew l G cI _ h a1 a2 a3 qs ts bs cn  hv1) (cwV 0 hts gX0_expand_X0_startAnew rfl rfl rfl (by decide +kernel) ⟨Nat.le_of_ble_eq_true rfl, Nat.le_of_ble_eq_true rfl⟩) hK hP hD [0, 1, 2, 3] [] rfl rfl rfl (by decide) (by decide) (by decide) rfl rfl rfl hl.1 rfl (Nat.le_of_ble_eq_true rfl) dX0_expand_1 ⟨Nat.le_of_ble_eq_true rfl, Nat.le_of_ble_eq_true rfl⟩ hS hA (fun H locs hP hD hz1 hS => ?_)
  have hP : va_P G vwCl [(h, .inr (0, [.ref a1, .ref a2, .ref a3, .int cn_1])), (a1, .inl (cI, 32, .inl qs)), (a2, .inl (cI, 33, .inl ts_1)), (a3, .inl (cI, 33, .inl bs_1))] H := hP
  have hD : va_D A [(h, .inr (0, [.ref a1, .ref a2, .ref a3, .int cn_1])), (a1, .inl (cI, 32, .inl qs)), (a2, .inl (cI, 33, .inl ts_1)), (a3, .inl (cI, 33, .inl bs_1))] := hD
  refine lv_iload_n hx hb dX0_expand_4 rfl (lv_at hl 1 rfl) ?_
  refine lv_istore_n (lv' := [(3, .int p1), (0, .ref h), (1, .int p1), (2, .int p2)]) hx hb dX0_expand_5 rfl hl (by decide) rfl (fun ls hl => ?_)
  refine lv_iload_n hx hb dX0_expand_6 rfl (lv_at hl 3 rfl) ?_
  refine lv_istore (lv' := [(4, .int p2), (3, .int p1), (0, .ref h), (1, .int p1), (2, .int p2)]) hx hb dX0_expand_7 hl (by decide) rfl (fun ls hl => ?_)
  refine lv_iconst (v := 0) hx hb dX0_expand_9 (by decide) ?_
  refine lv_istore (lv' := [(5, .int 0), (4, .int p2), (3, .int p1), (0, .ref h), (1, .int p1), (2, .int p2)]) hx hb dX0_expand_10 hl (by decide) rfl (fun ls hl => ?_)
  exact L12  FU  qs ts_1 bs_1 cn_1 p1 p2 0 _ _ _ hf hP hD hS (lv_sub hl [3, 2, 1, 0] rfl)
end
section
def fX0_expandSimplest_J64 (k10 : (Nat → Int32) → (Nat → Int32) → (Nat → Int32) → Int32 → Int32 → Int32 → Int32 → Int32 → Int32 → Int32 → Option ((Nat → Int32) × (Nat → Int32) × (Nat → Int32) × Int32)) (qs : Nat → Int32) (ts : Nat → Int32) (bs : Nat → Int32) (cn : Int32) (x1 : Int32) (x2 : Int32) (x3 : Int32) (x4 : Int32) (x5 : Int32) (x6 : Int32) (x7 : Int32) (y1 : Int32) : Option ((Nat → Int32) × (Nat → Int32) × (Nat → Int32) × Int32) :=
  bd4 (fX0_addTerm qs ts bs cn y1) fun qs_64 ts_64 bs_64 cn_64 =>
  nm (x1 - (x7 * x2)) fun v73 =>
  nm (x3 - (x7 * x4)) fun v82 =>
  nm (x6 + 1) fun v96 =>
  k10 qs_64 ts_64 bs_64 cn_64 x4 v82 x2 v73 x5 v96
def fX0_expandSimplest_J47 (k10 : (Nat → Int32) → (Nat → Int32) → (Nat → Int32) → Int32 → Int32 → Int32 → Int32 → Int32 → Int32 → Int32 → Option ((Nat → Int32) × (Nat → Int32) × (Nat → Int32) × Int32)) (qs : Nat → Int32) (ts : Nat → Int32) (bs : Nat → Int32) (cn : Int32) (x1 : Int32) (x2 : Int32) (x3 : Int32) (x4 : Int32) (x6 : Int32) (x7 : Int32) (y0 : Int32) : Option ((Nat → Int32) × (Nat → Int32) × (Nat → Int32) × Int32) :=
  if y0 = 0 then
    fX0_expandSimplest_J64 k10  qs ts bs cn x1 x2 x3 x4 y0 x6 x7 x7
  else
    fX0_expandSimplest_J64 k10  qs ts bs cn x1 x2 x3 x4 y0 x6 x7 (x7 + 1)
def fX0_expandSimplest_B10 (k10 : (Nat → Int32) → (Nat → Int32) → (Nat → Int32) → Int32 → Int32 → Int32 → Int32 → Int32 → Int32 → Int32 → Option ((Nat → Int32) × (Nat → Int32) × (Nat → Int32) × Int32)) (qs : Nat → Int32) (ts : Nat → Int32) (bs : Nat → Int32) (cn : Int32) (x1 : Int32) (x2 : Int32) (x3 : Int32) (x4 : Int32) (x5 : Int32) (x6 : Int32) : Option ((Nat → Int32) × (Nat → Int32) × (Nat → Int32) × Int32) :=
  if 32 ≤ x6 then
    some (qs, ts, bs, cn)
  else
    if x2 ≤ 0 then
      some (qs, ts, bs, cn)
    else
      if x5 = 0 then
        ckZ x2 <|
        nm (x1 / x2) fun v29 =>
        if x3 ≤ ((v29 + 1) * x4) then
          fX0_expandSimplest_J47 k10  qs ts bs cn x1 x2 x3 x4 x6 v29 0
        else
          fX0_expandSimplest_J47 k10  qs ts bs cn x1 x2 x3 x4 x6 v29 1
      else
        some (qs, ts, bs, cn)
def fX0_expandSimplest_L10 : Nat → (Nat → Int32) → (Nat → Int32) → (Nat → Int32) → Int32 → Int32 → Int32 → Int32 → Int32 → Int32 → Int32 → Option ((Nat → Int32) × (Nat → Int32) × (Nat → Int32) × Int32)
  | 0, _, _, _, _, _, _, _, _, _, _ => none
  | n + 1, qs, ts, bs, cn, x1, x2, x3, x4, x5, x6 => fX0_expandSimplest_B10 (fX0_expandSimplest_L10   n)  qs ts bs cn x1 x2 x3 x4 x5 x6
def fX0_expandSimplest (qs : Nat → Int32) (ts : Nat → Int32) (bs : Nat → Int32) (cn : Int32) (p1 : Int32) (p2 : Int32) (p3 : Int32) (p4 : Int32) : Option ((Nat → Int32) × (Nat → Int32) × (Nat → Int32) × Int32) :=
  bd3 (fX0_startAnew ts bs cn) fun ts_1 bs_1 cn_1 =>
  fX0_expandSimplest_L10   FU qs ts_1 bs_1 cn_1 p1 p2 p3 p4 0 0
set_option maxHeartbeats 4000000 in
set_option maxRecDepth 100000 in
theorem zX0_expandSimplest (l : Launch) (G : va_G) (cI : ClassId) (sz : Nat) (h a1 a2 a3 : Nat) (qs : Nat → Int32) (ts : Nat → Int32) (bs : Nat → Int32) (cn : Int32) (p1 : Int32) (p2 : Int32) (p3 : Int32) (p4 : Int32) {o_qs : Nat → Int32} {o_ts : Nat → Int32} {o_bs : Nat → Int32} {o_cn : Int32} (hf : fX0_expandSimplest qs ts bs cn p1 p2 p3 p4 = some (o_qs, o_ts, o_bs, o_cn)) : mMv l yX0_expandSimplest wsX0_expandSimplest ({ frames := 2, cells := 0, slots := 0, locals := 43 }) [.ref h, .int p1, .int p2, .int p3, .int p4] G cI [(h, .inr (0, [.ref a1, .ref a2, .ref a3, .int cn])), (a1, .inl (cI, 32, .inl qs)), (a2, .inl (cI, 33, .inl ts)), (a3, .inl (cI, 33, .inl bs))] sz [(h, .inr (0, [.ref a1, .ref a2, .ref a3, .int o_cn])), (a1, .inl (cI, 32, .inl o_qs)), (a2, .inl (cI, 33, .inl o_ts)), (a3, .inl (cI, 33, .inl o_bs))] 0 0 := by
  refine Met.ofW (cc := cX0_expandSimplest) (maxL := 10) (ret := none) (by decide) rfl ?_
  intro p e s m args below meth c s₁ B hml hv
  obtain ⟨rfl, hsz, hP, hK, hD0⟩ := hv
  have hx := B.exec
  have hb := B.bytes
  have hr := B.returns
  have hts := atoms_spec (ws := wsX0_expandSimplest) B.pre
  have hown : s.vm.findClass RX0 = some m.cls := findClass_of_methodNamed B.named
  have hlocks := B.notSynchronized
  subst hsz
  have hD := hD0.self (sz := s.heap.size)
  generalize hAe : va_A [(h, .inr (0, [.ref a1, .ref a2, .ref a3, .int cn])), (a1, .inl (cI, 32, .inl qs)), (a2, .inl (cI, 33, .inl ts)), (a3, .inl (cI, 33, .inl bs))] s.heap.size = A at hD ⊢
  have hA : ∀ q : Nat, s.heap.size ≤ q → A q := fun q h => by rw [← hAe]; exact Or.inr h
  have hS : va_S A s.heap s.heap [] := va_S.rf
  obtain ⟨Qf, hQf⟩ : ∃ f : ((Nat → Int32) × (Nat → Int32) × (Nat → Int32) × Int32) → State → Prop, f = fun z => MQ below (va_Qv (fun (_ : Unit) => True) (fun _ t => va_P G vwCl [(h, .inr (0, [.ref a1, .ref a2, .ref a3, .int z.2.2.2])), (a1, .inl (cI, 32, .inl z.1)), (a2, .inl (cI, 33, .inl z.2.1)), (a3, .inl (cI, 33, .inl z.2.2.1))] t.heap ∧ va_D A [(h, .inr (0, [.ref a1, .ref a2, .ref a3, .int z.2.2.2])), (a1, .inl (cI, 32, .inl z.1)), (a2, .inl (cI, 33, .inl z.2.1)), (a3, .inl (cI, 33, .inl z.2.2.1))]) A) ([.ref h, .int p1, .int p2, .int p3, .int p4].toArray) s 0 0 A := ⟨_, rfl⟩
  suffices hgo : W p l e (headSpec wsX0_expandSimplest ({ frames := 2, cells := 0, slots := 0, locals := 43 })).room s m ([.ref h, .int p1, .int p2, .int p3, .int p4].toArray) below meth c s.heap [] 0 0 (Qf (o_qs, o_ts, o_bs, o_cn)) (entryFrame m ([.ref h, .int p1, .int p2, .int p3, .int p4].toArray) 10) by rw [hQf] at hgo; exact hgo
  have J64 : ∀ (k10 : (Nat → Int32) → (Nat → Int32) → (Nat → Int32) → Int32 → Int32 → Int32 → Int32 → Int32 → Int32 → Int32 → Option ((Nat → Int32) × (Nat → Int32) × (Nat → Int32) × Int32)) (hk10 : ∀ (qs : Nat → Int32) (ts : Nat → Int32) (bs : Nat → Int32) (cn : Int32) (x1 : Int32) (x2 : Int32) (x3 : Int32) (x4 : Int32) (x5 : Int32) (x6 : Int32) (H : Heap) (locs : List Loc) (ls : Array Slot), k10 qs ts bs cn x1 x2 x3 x4 x5 x6 = some (o_qs, o_ts, o_bs, o_cn) → va_P G vwCl [(h, .inr (0, [.ref a1, .ref a2, .ref a3, .int cn])), (a1, .inl (cI, 32, .inl qs)), (a2, .inl (cI, 33, .inl ts)), (a3, .inl (cI, 33, .inl bs))] H → va_D A [(h, .inr (0, [.ref a1, .ref a2, .ref a3, .int cn])), (a1, .inl (cI, 32, .inl qs)), (a2, .inl (cI, 33, .inl ts)), (a3, .inl (cI, 33, .inl bs))] → va_S A s.heap H locs → lv_has ls 10 [(0, .ref h), (1, .int x1), (2, .int x2), (3, .int x3), (4, .int x4), (5, .int x5), (6, .int x6)] → W p l e (headSpec wsX0_expandSimplest ({ frames := 2, cells := 0, slots := 0, locals := 43 })).room s m ([.ref h, .int p1, .int p2, .int p3, .int p4].toArray) below meth c H locs 0 0 (Qf (o_qs, o_ts, o_bs, o_cn)) (F0 m 10 ls [])) (qs : Nat → Int32) (ts : Nat → Int32) (bs : Nat → Int32) (cn : Int32) (x1 : Int32) (x2 : Int32) (x3 : Int32) (x4 : Int32) (x5 : Int32) (x6 : Int32) (x7 : Int32) (y1 : Int32) (H : Heap) (locs : List Loc) (ls : Array Slot), fX0_expandSimplest_J64 k10  qs ts bs cn x1 x2 x3 x4 x5 x6 x7 y1 = some (o_qs, o_ts, o_bs, o_cn) → va_P G vwCl [(h, .inr (0, [.ref a1, .ref a2, .ref a3, .int cn])), (a1, .inl (cI, 32, .inl qs)), (a2, .inl (cI, 33, .inl ts)), (a3, .inl (cI, 33, .inl bs))] H → va_D A [(h, .inr (0, [.ref a1, .ref a2, .ref a3, .int cn])), (a1, .inl (cI, 32, .inl qs)), (a2, .inl (cI, 33, .inl ts)), (a3, .inl (cI, 33, .inl bs))] → va_S A s.heap H locs → lv_has ls 10 [(0, .ref h), (1, .int x1), (2, .int x2), (3, .int x3), (4, .int x4), (5, .int x5), (6, .int x6), (7, .int x7)] → W p l e (headSpec wsX0_expandSimplest ({ frames := 2, cells := 0, slots := 0, locals := 43 })).room s m ([.ref h, .int p1, .int p2, .int p3, .int p4].toArray) below meth c H locs 0 0 (Qf (o_qs, o_ts, o_bs, o_cn)) (F0 m 64 ls [.int y1, .ref h]) := by
    intro k10 hk10  qs ts bs cn x1 x2 x3 x4 x5 x6 x7 y1 H locs ls hf hP hD hS hl
    unfold fX0_expandSimplest_J64 at hf
    obtain ⟨qs_64, ts_64, bs_64, cn_64, hv64, hf⟩ := bd4_s hf
    refine mcVv (As := [.int y1]) (rest := []) (wr := []) (wc := [(h, .inr (0, [.ref a1, .ref a2, .ref a3, .int cn])), (a1, .inl (cI, 32, .inl qs)), (a2, .inl (cI, 33, .inl ts)), (a3, .inl (cI, 33, .inl bs))]) ⟨hx, hb, hml, hown, hts⟩ (zX0_addTerm l G cI _ h a1 a2 a3 qs ts bs cn y1 hv64) (cwV 1 hts gX0_expandSimplest_X0_addTerm rfl rfl rfl (by decide +kernel) ⟨Nat.le_of_ble_eq_true rfl, Nat.le_of_ble_eq_true rfl⟩) hK hP hD [0, 1, 2, 3] [] rfl rfl rfl (by decide) (by decide) (by decide) rfl rfl rfl hl.1 rfl (Nat.le_of_ble_eq_true rfl) dX0_expandSimplest_64 ⟨Nat.le_of_ble_eq_true rfl, Nat.le_of_ble_eq_true rfl⟩ hS hA (fun H locs hP hD hz64 hS => ?_)
    have hP : va_P G vwCl [(h, .inr (0, [.ref a1, .ref a2, .ref a3, .int cn_64])), (a1, .inl (cI, 32, .inl qs_64)), (a2, .inl (cI, 33, .inl ts_64)), (a3, .inl (cI, 33, .inl bs_64))] H := hP
    have hD : va_D A [(h, .inr (0, [.ref a1, .ref a2, .ref a3, .int cn_64])), (a1, .inl (cI, 32, .inl qs_64)), (a2, .inl (cI, 33, .inl ts_64)), (a3, .inl (cI, 33, .inl bs_64))] := hD
    refine lv_iload_n hx hb dX0_expandSimplest_67 rfl (lv_at hl 1 rfl) ?_
    refine lv_iload hx hb dX0_expandSimplest_68 (lv_at hl 7 rfl) ?_
    refine lv_iload_n hx hb dX0_expandSimplest_70 rfl (lv_at hl 2 rfl) ?_
    refine lv_imul hx hb dX0_expandSimplest_71 ?_
    refine lv_isub hx hb dX0_expandSimplest_72 ?_
    refine lv_topi (fun v73 ev73 => ?_)
    have hf := nm_s ev73 hf
    refine lv_istore (lv' := [(8, .int v73), (0, .ref h), (1, .int x1), (2, .int x2), (3, .int x3), (4, .int x4), (5, .int x5), (6, .int x6), (7, .int x7)]) hx hb dX0_expandSimplest_73 hl (by decide) rfl (fun ls hl => ?_)
    refine lv_iload_n hx hb dX0_expandSimplest_75 rfl (lv_at hl 4 rfl) ?_
    refine lv_iload hx hb dX0_expandSimplest_76 (lv_at hl 8 rfl) ?_
    refine lv_iload hx hb dX0_expandSimplest_78 (lv_at hl 5 rfl) ?_
    refine lv_imul hx hb dX0_expandSimplest_80 ?_
    refine lv_isub hx hb dX0_expandSimplest_81 ?_
    refine lv_topi (fun v82 ev82 => ?_)
    have hf := nm_s ev82 hf
    refine lv_istore (lv' := [(9, .int v82), (8, .int v73), (0, .ref h), (1, .int x1), (2, .int x2), (3, .int x3), (4, .int x4), (5, .int x5), (6, .int x6), (7, .int x7)]) hx hb dX0_expandSimplest_82 hl (by decide) rfl (fun ls hl => ?_)
    refine lv_iload hx hb dX0_expandSimplest_84 (lv_at hl 6 rfl) ?_
    refine lv_istore_n (lv' := [(1, .int x4), (9, .int v82), (8, .int v73), (0, .ref h), (2, .int x2), (3, .int x3), (4, .int x4), (5, .int x5), (6, .int x6), (7, .int x7)]) hx hb dX0_expandSimplest_86 rfl hl (by decide) rfl (fun ls hl => ?_)
    refine lv_iload_n hx hb dX0_expandSimplest_87 rfl (lv_at hl 4 rfl) ?_
    refine lv_istore_n (lv' := [(3, .int x2), (1, .int x4), (9, .int v82), (8, .int v73), (0, .ref h), (2, .int x2), (4, .int x4), (5, .int x5), (6, .int x6), (7, .int x7)]) hx hb dX0_expandSimplest_88 rfl hl (by decide) rfl (fun ls hl => ?_)
    refine lv_iload hx hb dX0_expandSimplest_89 (lv_at hl 2 rfl) ?_
    refine lv_istore_n (lv' := [(2, .int v82), (3, .int x2), (1, .int x4), (9, .int v82), (8, .int v73), (0, .ref h), (4, .int x4), (5, .int x5), (6, .int x6), (7, .int x7)]) hx hb dX0_expandSimplest_91 rfl hl (by decide) rfl (fun ls hl => ?_)
    refine lv_iload hx hb dX0_expandSimplest_92 (lv_at hl 4 rfl) ?_
    refine lv_istore (lv' := [(4, .int v73), (2, .int v82), (3, .int x2), (1, .int x4), (9, .int v82), (8, .int v73), (0, .ref h), (5, .int x5), (6, .int x6), (7, .int x7)]) hx hb dX0_expandSimplest_94 hl (by decide) rfl (fun ls hl => ?_)
    obtain ⟨v96, ev96⟩ : ∃ y : Int32, y = x6 + 1 := ⟨_, rfl⟩
    have hf := nm_s ev96 hf
    refine lv_iinc (v := v96) (lv' := [(6, .int v96), (4, .int v73), (2, .int v82), (3, .int x2), (1, .int x4), (9, .int v82), (8, .int v73), (0, .ref h), (5, .int x5), (7, .int x7)]) hx hb dX0_expandSimplest_96 hl (k := 8) rfl (by rw [ev96]; rfl) (by decide) rfl (fun ls hl => ?_)
    refine lv_goto (tgt := 10) hx hb dX0_expandSimplest_99 (by decide) ?_
    exact hk10  qs_64 ts_64 bs_64 cn_64 x4 v82 x2 v73 x5 v96 _ _ _ hf hP hD hS (lv_sub hl [7, 4, 2, 3, 1, 8, 0] rfl)
  have J47 : ∀ (k10 : (Nat → Int32) → (Nat → Int32) → (Nat → Int32) → Int32 → Int32 → Int32 → Int32 → Int32 → Int32 → Int32 → Option ((Nat → Int32) × (Nat → Int32) × (Nat → Int32) × Int32)) (hk10 : ∀ (qs : Nat → Int32) (ts : Nat → Int32) (bs : Nat → Int32) (cn : Int32) (x1 : Int32) (x2 : Int32) (x3 : Int32) (x4 : Int32) (x5 : Int32) (x6 : Int32) (H : Heap) (locs : List Loc) (ls : Array Slot), k10 qs ts bs cn x1 x2 x3 x4 x5 x6 = some (o_qs, o_ts, o_bs, o_cn) → va_P G vwCl [(h, .inr (0, [.ref a1, .ref a2, .ref a3, .int cn])), (a1, .inl (cI, 32, .inl qs)), (a2, .inl (cI, 33, .inl ts)), (a3, .inl (cI, 33, .inl bs))] H → va_D A [(h, .inr (0, [.ref a1, .ref a2, .ref a3, .int cn])), (a1, .inl (cI, 32, .inl qs)), (a2, .inl (cI, 33, .inl ts)), (a3, .inl (cI, 33, .inl bs))] → va_S A s.heap H locs → lv_has ls 10 [(0, .ref h), (1, .int x1), (2, .int x2), (3, .int x3), (4, .int x4), (5, .int x5), (6, .int x6)] → W p l e (headSpec wsX0_expandSimplest ({ frames := 2, cells := 0, slots := 0, locals := 43 })).room s m ([.ref h, .int p1, .int p2, .int p3, .int p4].toArray) below meth c H locs 0 0 (Qf (o_qs, o_ts, o_bs, o_cn)) (F0 m 10 ls [])) (qs : Nat → Int32) (ts : Nat → Int32) (bs : Nat → Int32) (cn : Int32) (x1 : Int32) (x2 : Int32) (x3 : Int32) (x4 : Int32) (x6 : Int32) (x7 : Int32) (y0 : Int32) (H : Heap) (locs : List Loc) (ls : Array Slot), fX0_expandSimplest_J47 k10  qs ts bs cn x1 x2 x3 x4 x6 x7 y0 = some (o_qs, o_ts, o_bs, o_cn) → va_P G vwCl [(h, .inr (0, [.ref a1, .ref a2, .ref a3, .int cn])), (a1, .inl (cI, 32, .inl qs)), (a2, .inl (cI, 33, .inl ts)), (a3, .inl (cI, 33, .inl bs))] H → va_D A [(h, .inr (0, [.ref a1, .ref a2, .ref a3, .int cn])), (a1, .inl (cI, 32, .inl qs)), (a2, .inl (cI, 33, .inl ts)), (a3, .inl (cI, 33, .inl bs))] → va_S A s.heap H locs → lv_has ls 10 [(0, .ref h), (1, .int x1), (2, .int x2), (3, .int x3), (4, .int x4), (6, .int x6), (7, .int x7)] → W p l e (headSpec wsX0_expandSimplest ({ frames := 2, cells := 0, slots := 0, locals := 43 })).room s m ([.ref h, .int p1, .int p2, .int p3, .int p4].toArray) below meth c H locs 0 0 (Qf (o_qs, o_ts, o_bs, o_cn)) (F0 m 47 ls [.int y0]) := by
    intro k10 hk10  qs ts bs cn x1 x2 x3 x4 x6 x7 y0 H locs ls hf hP hD hS hl
    unfold fX0_expandSimplest_J47 at hf
    refine lv_istore (lv' := [(5, .int y0), (0, .ref h), (1, .int x1), (2, .int x2), (3, .int x3), (4, .int x4), (6, .int x6), (7, .int x7)]) hx hb dX0_expandSimplest_47 hl (by decide) rfl (fun ls hl => ?_)
    refine lv_aload_n hx hb dX0_expandSimplest_49 rfl (lv_at hl 1 rfl) ?_
    refine lv_iload hx hb dX0_expandSimplest_50 (lv_at hl 0 rfl) ?_
    refine lv_if_eq (tgt := 62) hx hb dX0_expandSimplest_52 (by decide) (fun c52 => ?_) (fun c52 => ?_)
    · have hf := it_t c52 hf
      refine lv_iload hx hb dX0_expandSimplest_62 (lv_at hl 7 rfl) ?_
      exact J64 k10 hk10  qs ts bs cn x1 x2 x3 x4 y0 x6 x7 x7 _ _ _ hf hP hD hS (lv_sub hl [1, 2, 3, 4, 5, 0, 6, 7] rfl)
    · have hf := it_f c52 hf
      refine lv_iload hx hb dX0_expandSimplest_55 (lv_at hl 7 rfl) ?_
      refine lv_iconst (v := 1) hx hb dX0_expandSimplest_57 (by decide) ?_
      refine lv_iadd hx hb dX0_expandSimplest_58 ?_
      refine lv_goto (tgt := 64) hx hb dX0_expandSimplest_59 (by decide) ?_
      exact J64 k10 hk10  qs ts bs cn x1 x2 x3 x4 y0 x6 x7 (x7 + 1) _ _ _ hf hP hD hS (lv_sub hl [1, 2, 3, 4, 5, 0, 6, 7] rfl)
  have B10 : ∀ (k10 : (Nat → Int32) → (Nat → Int32) → (Nat → Int32) → Int32 → Int32 → Int32 → Int32 → Int32 → Int32 → Int32 → Option ((Nat → Int32) × (Nat → Int32) × (Nat → Int32) × Int32)) (hk10 : ∀ (qs : Nat → Int32) (ts : Nat → Int32) (bs : Nat → Int32) (cn : Int32) (x1 : Int32) (x2 : Int32) (x3 : Int32) (x4 : Int32) (x5 : Int32) (x6 : Int32) (H : Heap) (locs : List Loc) (ls : Array Slot), k10 qs ts bs cn x1 x2 x3 x4 x5 x6 = some (o_qs, o_ts, o_bs, o_cn) → va_P G vwCl [(h, .inr (0, [.ref a1, .ref a2, .ref a3, .int cn])), (a1, .inl (cI, 32, .inl qs)), (a2, .inl (cI, 33, .inl ts)), (a3, .inl (cI, 33, .inl bs))] H → va_D A [(h, .inr (0, [.ref a1, .ref a2, .ref a3, .int cn])), (a1, .inl (cI, 32, .inl qs)), (a2, .inl (cI, 33, .inl ts)), (a3, .inl (cI, 33, .inl bs))] → va_S A s.heap H locs → lv_has ls 10 [(0, .ref h), (1, .int x1), (2, .int x2), (3, .int x3), (4, .int x4), (5, .int x5), (6, .int x6)] → W p l e (headSpec wsX0_expandSimplest ({ frames := 2, cells := 0, slots := 0, locals := 43 })).room s m ([.ref h, .int p1, .int p2, .int p3, .int p4].toArray) below meth c H locs 0 0 (Qf (o_qs, o_ts, o_bs, o_cn)) (F0 m 10 ls [])) (qs : Nat → Int32) (ts : Nat → Int32) (bs : Nat → Int32) (cn : Int32) (x1 : Int32) (x2 : Int32) (x3 : Int32) (x4 : Int32) (x5 : Int32) (x6 : Int32) (H : Heap) (locs : List Loc) (ls : Array Slot), fX0_expandSimplest_B10 k10  qs ts bs cn x1 x2 x3 x4 x5 x6 = some (o_qs, o_ts, o_bs, o_cn) → va_P G vwCl [(h, .inr (0, [.ref a1, .ref a2, .ref a3, .int cn])), (a1, .inl (cI, 32, .inl qs)), (a2, .inl (cI, 33, .inl ts)), (a3, .inl (cI, 33, .inl bs))] H → va_D A [(h, .inr (0, [.ref a1, .ref a2, .ref a3, .int cn])), (a1, .inl (cI, 32, .inl qs)), (a2, .inl (cI, 33, .inl ts)), (a3, .inl (cI, 33, .inl bs))] → va_S A s.heap H locs → lv_has ls 10 [(0, .ref h), (1, .int x1), (2, .int x2), (3, .int x3), (4, .int x4), (5, .int x5), (6, .int x6)] → W p l e (headSpec wsX0_expandSimplest ({ frames := 2, cells := 0, slots := 0, locals := 43 })).room s m ([.ref h, .int p1, .int p2, .int p3, .int p4].toArray) below meth c H locs 0 0 (Qf (o_qs, o_ts, o_bs, o_cn)) (F0 m 10 ls []) := by
    intro k10 hk10  qs ts bs cn x1 x2 x3 x4 x5 x6 H locs ls hf hP hD hS hl
    unfold fX0_expandSimplest_B10 at hf
    refine lv_iload hx hb dX0_expandSimplest_10 (lv_at hl 6 rfl) ?_
    refine lv_bipush (v := 32) hx hb dX0_expandSimplest_12 (by decide) ?_
    refine lv_icmp_ge (tgt := 102) hx hb dX0_expandSimplest_14 (by decide) (fun c14 => ?_) (fun c14 => ?_)
    · have hf := it_t c14 hf
      refine qf_s (Qf := Qf) hf ?_
      have hP9 : va_P G vwCl [(h, .inr (0, [.ref a1, .ref a2, .ref a3, .int cn])), (a1, .inl (cI, 32, .inl qs)), (a2, .inl (cI, 33, .inl ts)), (a3, .inl (cI, 33, .inl bs))] _ := hP.sub [0, 1, 2, 3] rfl
      have hD9 : va_D A [(h, .inr (0, [.ref a1, .ref a2, .ref a3, .int cn])), (a1, .inl (cI, 32, .inl qs)), (a2, .inl (cI, 33, .inl ts)), (a3, .inl (cI, 33, .inl bs))] := hD.sub [0, 1, 2, 3] (by decide) rfl
      rw [hQf]
      exact W.vret hx hb hr (fun t ht hW => ⟨⟨(), rfl, trivial, by rw [ht]; exact hP9, hD9⟩, hS.F ht⟩) hS.2.2 dX0_expandSimplest_102
    · have hf := it_f c14 hf
      refine lv_iload_n hx hb dX0_expandSimplest_17 rfl (lv_at hl 2 rfl) ?_
      refine lv_if_le (tgt := 102) hx hb dX0_expandSimplest_18 (by decide) (fun c18 => ?_) (fun c18 => ?_)
      · have hf := it_t c18 hf
        refine qf_s (Qf := Qf) hf ?_
        have hP9 : va_P G vwCl [(h, .inr (0, [.ref a1, .ref a2, .ref a3, .int cn])), (a1, .inl (cI, 32, .inl qs)), (a2, .inl (cI, 33, .inl ts)), (a3, .inl (cI, 33, .inl bs))] _ := hP.sub [0, 1, 2, 3] rfl
        have hD9 : va_D A [(h, .inr (0, [.ref a1, .ref a2, .ref a3, .int cn])), (a1, .inl (cI, 32, .inl qs)), (a2, .inl (cI, 33, .inl ts)), (a3, .inl (cI, 33, .inl bs))] := hD.sub [0, 1, 2, 3] (by decide) rfl
        rw [hQf]
        exact W.vret hx hb hr (fun t ht hW => ⟨⟨(), rfl, trivial, by rw [ht]; exact hP9, hD9⟩, hS.F ht⟩) hS.2.2 dX0_expandSimplest_102
      · have hf := it_f c18 hf
        refine lv_iload hx hb dX0_expandSimplest_21 (lv_at hl 5 rfl) ?_
        refine lv_if_ne (tgt := 102) hx hb dX0_expandSimplest_23 (by decide) (fun c23 => ?_) (fun c23 => ?_)
        · have hf := it_f c23 hf
          refine qf_s (Qf := Qf) hf ?_
          have hP9 : va_P G vwCl [(h, .inr (0, [.ref a1, .ref a2, .ref a3, .int cn])), (a1, .inl (cI, 32, .inl qs)), (a2, .inl (cI, 33, .inl ts)), (a3, .inl (cI, 33, .inl bs))] _ := hP.sub [0, 1, 2, 3] rfl
          have hD9 : va_D A [(h, .inr (0, [.ref a1, .ref a2, .ref a3, .int cn])), (a1, .inl (cI, 32, .inl qs)), (a2, .inl (cI, 33, .inl ts)), (a3, .inl (cI, 33, .inl bs))] := hD.sub [0, 1, 2, 3] (by decide) rfl
          rw [hQf]
          exact W.vret hx hb hr (fun t ht hW => ⟨⟨(), rfl, trivial, by rw [ht]; exact hP9, hD9⟩, hS.F ht⟩) hS.2.2 dX0_expandSimplest_102
        · have hf := it_t c23 hf
          refine lv_iload_n hx hb dX0_expandSimplest_26 rfl (lv_at hl 1 rfl) ?_
          refine lv_iload_n hx hb dX0_expandSimplest_27 rfl (lv_at hl 2 rfl) ?_
          obtain ⟨hz28, hf⟩ := ckZ_s hf
          refine lv_idiv hx hb dX0_expandSimplest_28 hz28 ?_
          refine lv_topi (fun v29 ev29 => ?_)
          have hf := nm_s ev29 hf
          refine lv_istore (lv' := [(7, .int v29), (0, .ref h), (1, .int x1), (2, .int x2), (3, .int x3), (4, .int x4), (5, .int x5), (6, .int x6)]) hx hb dX0_expandSimplest_29 hl (by decide) rfl (fun ls hl => ?_)
          refine lv_iload hx hb dX0_expandSimplest_31 (lv_at hl 0 rfl) ?_
          refine lv_iconst (v := 1) hx hb dX0_expandSimplest_33 (by decide) ?_
          refine lv_iadd hx hb dX0_expandSimplest_34 ?_
          refine lv_iload hx hb dX0_expandSimplest_35 (lv_at hl 5 rfl) ?_
          refine lv_imul hx hb dX0_expandSimplest_37 ?_
          refine lv_iload_n hx hb dX0_expandSimplest_38 rfl (lv_at hl 4 rfl) ?_
          refine lv_icmp_ge (tgt := 46) hx hb dX0_expandSimplest_39 (by decide) (fun c39 => ?_) (fun c39 => ?_)
          · have hf := it_t c39 hf
            refine lv_iconst (v := 0) hx hb dX0_expandSimplest_46 (by decide) ?_
            exact J47 k10 hk10  qs ts bs cn x1 x2 x3 x4 x6 v29 0 _ _ _ hf hP hD hS (lv_sub hl [1, 2, 3, 4, 5, 7, 0] rfl)
          · have hf := it_f c39 hf
            refine lv_iconst (v := 1) hx hb dX0_expandSimplest_42 (by decide) ?_
            refine lv_goto (tgt := 47) hx hb dX0_expandSimplest_43 (by decide) ?_
            exact J47 k10 hk10  qs ts bs cn x1 x2 x3 x4 x6 v29 1 _ _ _ hf hP hD hS (lv_sub hl [1, 2, 3, 4, 5, 7, 0] rfl)
  have L10 : ∀ (fu : Nat) (qs : Nat → Int32) (ts : Nat → Int32) (bs : Nat → Int32) (cn : Int32) (x1 : Int32) (x2 : Int32) (x3 : Int32) (x4 : Int32) (x5 : Int32) (x6 : Int32) (H : Heap) (locs : List Loc) (ls : Array Slot), fX0_expandSimplest_L10   fu qs ts bs cn x1 x2 x3 x4 x5 x6 = some (o_qs, o_ts, o_bs, o_cn) → va_P G vwCl [(h, .inr (0, [.ref a1, .ref a2, .ref a3, .int cn])), (a1, .inl (cI, 32, .inl qs)), (a2, .inl (cI, 33, .inl ts)), (a3, .inl (cI, 33, .inl bs))] H → va_D A [(h, .inr (0, [.ref a1, .ref a2, .ref a3, .int cn])), (a1, .inl (cI, 32, .inl qs)), (a2, .inl (cI, 33, .inl ts)), (a3, .inl (cI, 33, .inl bs))] → va_S A s.heap H locs → lv_has ls 10 [(0, .ref h), (1, .int x1), (2, .int x2), (3, .int x3), (4, .int x4), (5, .int x5), (6, .int x6)] → W p l e (headSpec wsX0_expandSimplest ({ frames := 2, cells := 0, slots := 0, locals := 43 })).room s m ([.ref h, .int p1, .int p2, .int p3, .int p4].toArray) below meth c H locs 0 0 (Qf (o_qs, o_ts, o_bs, o_cn)) (F0 m 10 ls []) := by
    intro  fu
    induction fu with
    | zero => intro qs ts bs cn x1 x2 x3 x4 x5 x6 H locs ls hf; cases hf
    | succ fu ih => intro qs ts bs cn x1 x2 x3 x4 x5 x6 H locs ls hf hP hD hS hl; exact B10 (fX0_expandSimplest_L10   fu) ih qs ts bs cn x1 x2 x3 x4 x5 x6 _ _ _ hf hP hD hS hl
  have hl := lv_entry ([.ref h, .int p1, .int p2, .int p3, .int p4]) (n := 10) (Nat.le_of_ble_eq_true rfl)
  rw [lg_entry_eq]
  generalize (lg_sl ([.ref h, .int p1, .int p2, .int p3, .int p4]) ++ List.replicate (10 - (lg_sl ([.ref h, .int p1, .int p2, .int p3, .int p4])).length) Slot.unset).toArray = ls at hl ⊢
  have hl : lv_has ls 10 [(0, .ref h), (1, .int p1), (2, .int p2), (3, .int p3), (4, .int p4)] := hl
  unfold fX0_expandSimplest at hf
  refine lv_aload_n hx hb dX0_expandSimplest_0 rfl (lv_at hl 0 rfl) ?_
  obtain ⟨ts_1, bs_1, cn_1, hv1, hf⟩ := bd3_s hf
  refine mcVv (As := []) (rest := []) (wr := []) (wc := [(h, .inr (0, [.ref a1, .ref a2, .ref a3, .int cn])), (a1, .inl (cI, 32, .inl qs)), (a2, .inl (cI, 33, .inl ts)), (a3, .inl (cI, 33, .inl bs))]) ⟨hx, hb, hml, hown, hts⟩ (zX0_startAnew l G cI _ h a1 a2 a3 qs ts bs cn  hv1) (cwV 0 hts gX0_expandSimplest_X0_startAnew rfl rfl rfl (by decide +kernel) ⟨Nat.le_of_ble_eq_true rfl, Nat.le_of_ble_eq_true rfl⟩) hK hP hD [0, 1, 2, 3] [] rfl rfl rfl (by decide) (by decide) (by decide) rfl rfl rfl hl.1 rfl (Nat.le_of_ble_eq_true rfl) dX0_expandSimplest_1 ⟨Nat.le_of_ble_eq_true rfl, Nat.le_of_ble_eq_true rfl⟩ hS hA (fun H locs hP hD hz1 hS => ?_)
  have hP : va_P G vwCl [(h, .inr (0, [.ref a1, .ref a2, .ref a3, .int cn_1])), (a1, .inl (cI, 32, .inl qs)), (a2, .inl (cI, 33, .inl ts_1)), (a3, .inl (cI, 33, .inl bs_1))] H := hP
  have hD : va_D A [(h, .inr (0, [.ref a1, .ref a2, .ref a3, .int cn_1])), (a1, .inl (cI, 32, .inl qs)), (a2, .inl (cI, 33, .inl ts_1)), (a3, .inl (cI, 33, .inl bs_1))] := hD
  refine lv_iconst (v := 0) hx hb dX0_expandSimplest_4 (by decide) ?_
  refine lv_istore (lv' := [(5, .int 0), (0, .ref h), (1, .int p1), (2, .int p2), (3, .int p3), (4, .int p4)]) hx hb dX0_expandSimplest_5 hl (by decide) rfl (fun ls hl => ?_)
  refine lv_iconst (v := 0) hx hb dX0_expandSimplest_7 (by decide) ?_
  refine lv_istore (lv' := [(6, .int 0), (5, .int 0), (0, .ref h), (1, .int p1), (2, .int p2), (3, .int p3), (4, .int p4)]) hx hb dX0_expandSimplest_8 hl (by decide) rfl (fun ls hl => ?_)
  exact L10  FU  qs ts_1 bs_1 cn_1 p1 p2 p3 p4 0 0 _ _ _ hf hP hD hS (lv_sub hl [2, 3, 4, 5, 6, 1, 0] rfl)
def fX0_countSteps_B4 (k4 : Int32 → Int32 → Option (Int32)) (qs : Nat → Int32) (cn : Int32) (x1 : Int32) (x2 : Int32) : Option (Int32) :=
  if cn ≤ x2 then
    some x1
  else
    ckI x2 32 <|
    nm (x1 + (qs (Int32.toNatClampNeg x2))) fun v20 =>
    nm (x2 + 1) fun v21 =>
    k4 v20 v21
def fX0_countSteps_L4 (qs : Nat → Int32) (cn : Int32) : Nat → Int32 → Int32 → Option (Int32)
  | 0, _, _ => none
  | n + 1, x1, x2 => fX0_countSteps_B4 (fX0_countSteps_L4  qs cn n) qs cn x1 x2
def fX0_countSteps (qs : Nat → Int32) (cn : Int32) : Option (Int32) :=
  fX0_countSteps_L4  qs cn FU (-1) 0
set_option maxHeartbeats 4000000 in
set_option maxRecDepth 100000 in
theorem zX0_countSteps (l : Launch) (G : va_G) (cI : ClassId) (sz : Nat) (h a1 a2 a3 : Nat) (qs : Nat → Int32) (ts : Nat → Int32) (bs : Nat → Int32) (cn : Int32) {rv : Int32} (hf : fX0_countSteps qs cn = some rv) : mRi l yX0_countSteps wsX0_countSteps ({ frames := 0, cells := 0, slots := 0, locals := 0 }) [.ref h] G cI [(h, .inr (0, [.ref a1, .ref a2, .ref a3, .int cn])), (a1, .inl (cI, 32, .inl qs)), (a2, .inl (cI, 33, .inl ts)), (a3, .inl (cI, 33, .inl bs))] sz rv := by
  refine Met.ofW (cc := cX0_countSteps) (maxL := 3) (ret := (some .int)) (by decide) rfl ?_
  intro p e s m args below meth c s₁ B hml hv
  obtain ⟨rfl, hsz, hP, hK⟩ := hv
  have hx := B.exec
  have hb := B.bytes
  have hr := B.returns
  have hts := atoms_spec (ws := wsX0_countSteps) B.pre
  have hown : s.vm.findClass RX0 = some m.cls := findClass_of_methodNamed B.named
  have hlocks := B.notSynchronized
  subst hsz
  generalize hAe : va_A [] s.heap.size = A
  have hA : ∀ q : Nat, s.heap.size ≤ q → A q := fun q h => by rw [← hAe]; exact Or.inr h
  have hS : va_S A s.heap s.heap [] := va_S.rf
  have w0 := hts (.fieldLink RX0 21 "SternDesk$Expansion" "count" "I") (by decide +kernel)
  have hinX0 : ∀ w ∈ u_ws RX0 TX0 4, w ∈ wsX0_countSteps := by decide +kernel
  have w2 := hts (.fieldLink RX0 9 "SternDesk$Expansion" "quotients" "[I") (by decide +kernel)
  obtain ⟨Qf, hQf⟩ : ∃ f : Int32 → State → Prop, f = fun z => MQ below (va_Qi (fun (r : Int32) (_ : Unit) => r = z) (fun _ _ => True) A) ([.ref h].toArray) s 0 0 A := ⟨_, rfl⟩
  suffices hgo : W p l e (headSpec wsX0_countSteps ({ frames := 0, cells := 0, slots := 0, locals := 0 })).room s m ([.ref h].toArray) below meth c s.heap [] 0 0 (Qf rv) (entryFrame m ([.ref h].toArray) 3) by rw [hQf] at hgo; exact hgo
  have B4 : ∀ (k4 : Int32 → Int32 → Option (Int32)) (hk4 : ∀ (x1 : Int32) (x2 : Int32) (H : Heap) (locs : List Loc) (ls : Array Slot), k4 x1 x2 = some rv → va_P G vwCl [(h, .inr (0, [.ref a1, .ref a2, .ref a3, .int cn])), (a1, .inl (cI, 32, .inl qs)), (a2, .inl (cI, 33, .inl ts)), (a3, .inl (cI, 33, .inl bs))] H → va_S A s.heap H locs → lv_has ls 3 [(0, .ref h), (1, .int x1), (2, .int x2)] → W p l e (headSpec wsX0_countSteps ({ frames := 0, cells := 0, slots := 0, locals := 0 })).room s m ([.ref h].toArray) below meth c H locs 0 0 (Qf rv) (F0 m 4 ls [])) (x1 : Int32) (x2 : Int32) (H : Heap) (locs : List Loc) (ls : Array Slot), fX0_countSteps_B4 k4 qs cn x1 x2 = some rv → va_P G vwCl [(h, .inr (0, [.ref a1, .ref a2, .ref a3, .int cn])), (a1, .inl (cI, 32, .inl qs)), (a2, .inl (cI, 33, .inl ts)), (a3, .inl (cI, 33, .inl bs))] H → va_S A s.heap H locs → lv_has ls 3 [(0, .ref h), (1, .int x1), (2, .int x2)] → W p l e (headSpec wsX0_countSteps ({ frames := 0, cells := 0, slots := 0, locals := 0 })).room s m ([.ref h].toArray) below meth c H locs 0 0 (Qf rv) (F0 m 4 ls []) := by
    intro k4 hk4  x1 x2 H locs ls hf hP hS hl
    unfold fX0_countSteps_B4 at hf
    refine lv_iload_n hx hb dX0_countSteps_4 rfl (lv_at hl 2 rfl) ?_
    refine lv_aload_n hx hb dX0_countSteps_5 rfl (lv_at hl 0 rfl) ?_
    refine va_get (D := G) (ci := 0) (v := .int cn) (C := RX0) (T := TX0) (N := 4) hx hb hts hinX0 hown hK.1 hP 0 rfl rfl 3 (by decide) w0 (fun _ h9 => h9) rfl dX0_countSteps_6 ?_
    refine lv_icmp_ge (tgt := 27) hx hb dX0_countSteps_9 (by decide) (fun c9 => ?_) (fun c9 => ?_)
    · have hf := it_t c9 hf
      refine lv_iload_n hx hb dX0_countSteps_27 rfl (lv_at hl 1 rfl) ?_
      refine qf_s (Qf := Qf) hf ?_
      rw [hQf]
      exact W.iret hx hb hr (fun t ht hW => ⟨⟨_, (), rfl, rfl, trivial⟩, hS.F ht⟩) hS.2.2 dX0_countSteps_28
    · have hf := it_f c9 hf
      refine lv_iload_n hx hb dX0_countSteps_12 rfl (lv_at hl 1 rfl) ?_
      refine lv_aload_n hx hb dX0_countSteps_13 rfl (lv_at hl 0 rfl) ?_
      refine va_get (D := G) (ci := 0) (v := .ref a1) (C := RX0) (T := TX0) (N := 4) hx hb hts hinX0 hown hK.1 hP 0 rfl rfl 0 (by decide) w2 (fun _ h9 => h9) rfl dX0_countSteps_14 ?_
      refine lv_iload_n hx hb dX0_countSteps_17 rfl (lv_at hl 2 rfl) ?_
      obtain ⟨hi18, hf⟩ := ckI_s hf
      refine va_iald hx hb hK.1 hP 1 0 rfl rfl hi18 dX0_countSteps_18 ?_
      refine lv_iadd hx hb dX0_countSteps_19 ?_
      refine lv_topi (fun v20 ev20 => ?_)
      have hf := nm_s ev20 hf
      refine lv_istore_n (lv' := [(1, .int v20), (0, .ref h), (2, .int x2)]) hx hb dX0_countSteps_20 rfl hl (by decide) rfl (fun ls hl => ?_)
      obtain ⟨v21, ev21⟩ : ∃ y : Int32, y = x2 + 1 := ⟨_, rfl⟩
      have hf := nm_s ev21 hf
      refine lv_iinc (v := v21) (lv' := [(2, .int v21), (1, .int v20), (0, .ref h)]) hx hb dX0_countSteps_21 hl (k := 2) rfl (by rw [ev21]; rfl) (by decide) rfl (fun ls hl => ?_)
      refine lv_goto (tgt := 4) hx hb dX0_countSteps_24 (by decide) ?_
      exact hk4  v20 v21 _ _ _ hf hP hS (lv_sub hl [2, 1, 0] rfl)
  have L4 : ∀ (fu : Nat) (x1 : Int32) (x2 : Int32) (H : Heap) (locs : List Loc) (ls : Array Slot), fX0_countSteps_L4  qs cn fu x1 x2 = some rv → va_P G vwCl [(h, .inr (0, [.ref a1, .ref a2, .ref a3, .int cn])), (a1, .inl (cI, 32, .inl qs)), (a2, .inl (cI, 33, .inl ts)), (a3, .inl (cI, 33, .inl bs))] H → va_S A s.heap H locs → lv_has ls 3 [(0, .ref h), (1, .int x1), (2, .int x2)] → W p l e (headSpec wsX0_countSteps ({ frames := 0, cells := 0, slots := 0, locals := 0 })).room s m ([.ref h].toArray) below meth c H locs 0 0 (Qf rv) (F0 m 4 ls []) := by
    intro  fu
    induction fu with
    | zero => intro x1 x2 H locs ls hf; cases hf
    | succ fu ih => intro x1 x2 H locs ls hf hP hS hl; exact B4 (fX0_countSteps_L4  qs cn fu) ih x1 x2 _ _ _ hf hP hS hl
  have hl := lv_entry ([.ref h]) (n := 3) (Nat.le_of_ble_eq_true rfl)
  rw [lg_entry_eq]
  generalize (lg_sl ([.ref h]) ++ List.replicate (3 - (lg_sl ([.ref h])).length) Slot.unset).toArray = ls at hl ⊢
  have hl : lv_has ls 3 [(0, .ref h)] := hl
  unfold fX0_countSteps at hf
  refine lv_iconst (v := (-1)) hx hb dX0_countSteps_0 (by decide) ?_
  refine lv_istore_n (lv' := [(1, .int (-1)), (0, .ref h)]) hx hb dX0_countSteps_1 rfl hl (by decide) rfl (fun ls hl => ?_)
  refine lv_iconst (v := 0) hx hb dX0_countSteps_2 (by decide) ?_
  refine lv_istore_n (lv' := [(2, .int 0), (1, .int (-1)), (0, .ref h)]) hx hb dX0_countSteps_3 rfl hl (by decide) rfl (fun ls hl => ?_)
  exact L4  FU  (-1) 0 _ _ _ hf hP hS (lv_sub hl [2, 1, 0] rfl)
def fX0_firstTermWithSteps (qs : Nat → Int32) : Option (Int32) :=
  ckI 0 32 <|
  if (qs (Int32.toNatClampNeg 0)) = 0 then
    some 1
  else
    some 0
set_option maxHeartbeats 4000000 in
set_option maxRecDepth 100000 in
theorem zX0_firstTermWithSteps (l : Launch) (G : va_G) (cI : ClassId) (sz : Nat) (h a1 a2 a3 : Nat) (qs : Nat → Int32) (ts : Nat → Int32) (bs : Nat → Int32) (cn : Int32) {rv : Int32} (hf : fX0_firstTermWithSteps qs = some rv) : mRi l yX0_firstTermWithSteps wsX0_firstTermWithSteps ({ frames := 0, cells := 0, slots := 0, locals := 0 }) [.ref h] G cI [(h, .inr (0, [.ref a1, .ref a2, .ref a3, .int cn])), (a1, .inl (cI, 32, .inl qs)), (a2, .inl (cI, 33, .inl ts)), (a3, .inl (cI, 33, .inl bs))] sz rv := by
  refine Met.ofW (cc := cX0_firstTermWithSteps) (maxL := 1) (ret := (some .int)) (by decide) rfl ?_
  intro p e s m args below meth c s₁ B hml hv
  obtain ⟨rfl, hsz, hP, hK⟩ := hv
  have hx := B.exec
  have hb := B.bytes
  have hr := B.returns
  have hts := atoms_spec (ws := wsX0_firstTermWithSteps) B.pre
  have hown : s.vm.findClass RX0 = some m.cls := findClass_of_methodNamed B.named
  have hlocks := B.notSynchronized
  subst hsz
  generalize hAe : va_A [] s.heap.size = A
  have hA : ∀ q : Nat, s.heap.size ≤ q → A q := fun q h => by rw [← hAe]; exact Or.inr h
  have hS : va_S A s.heap s.heap [] := va_S.rf
  have w0 := hts (.fieldLink RX0 9 "SternDesk$Expansion" "quotients" "[I") (by decide +kernel)
  have hinX0 : ∀ w ∈ u_ws RX0 TX0 4, w ∈ wsX0_firstTermWithSteps := by decide +kernel
  obtain ⟨Qf, hQf⟩ : ∃ f : Int32 → State → Prop, f = fun z => MQ below (va_Qi (fun (r : Int32) (_ : Unit) => r = z) (fun _ _ => True) A) ([.ref h].toArray) s 0 0 A := ⟨_, rfl⟩
  suffices hgo : W p l e (headSpec wsX0_firstTermWithSteps ({ frames := 0, cells := 0, slots := 0, locals := 0 })).room s m ([.ref h].toArray) below meth c s.heap [] 0 0 (Qf rv) (entryFrame m ([.ref h].toArray) 1) by rw [hQf] at hgo; exact hgo
  have hl := lv_entry ([.ref h]) (n := 1) (Nat.le_of_ble_eq_true rfl)
  rw [lg_entry_eq]
  generalize (lg_sl ([.ref h]) ++ List.replicate (1 - (lg_sl ([.ref h])).length) Slot.unset).toArray = ls at hl ⊢
  have hl : lv_has ls 1 [(0, .ref h)] := hl
  unfold fX0_firstTermWithSteps at hf
  refine lv_aload_n hx hb dX0_firstTermWithSteps_0 rfl (lv_at hl 0 rfl) ?_
  refine va_get (D := G) (ci := 0) (v := .ref a1) (C := RX0) (T := TX0) (N := 4) hx hb hts hinX0 hown hK.1 hP 0 rfl rfl 0 (by decide) w0 (fun _ h9 => h9) rfl dX0_firstTermWithSteps_1 ?_
  refine lv_iconst (v := 0) hx hb dX0_firstTermWithSteps_4 (by decide) ?_
  obtain ⟨hi5, hf⟩ := ckI_s hf
  refine va_iald hx hb hK.1 hP 1 0 rfl rfl hi5 dX0_firstTermWithSteps_5 ?_
  refine lv_if_ne (tgt := 13) hx hb dX0_firstTermWithSteps_6 (by decide) (fun c6 => ?_) (fun c6 => ?_)
  · have hf := it_f c6 hf
    refine lv_iconst (v := 0) hx hb dX0_firstTermWithSteps_13 (by decide) ?_
    refine qf_s (Qf := Qf) hf ?_
    rw [hQf]
    exact W.iret hx hb hr (fun t ht hW => ⟨⟨_, (), rfl, rfl, trivial⟩, hS.F ht⟩) hS.2.2 dX0_firstTermWithSteps_14
  · have hf := it_t c6 hf
    refine lv_iconst (v := 1) hx hb dX0_firstTermWithSteps_9 (by decide) ?_
    refine lv_goto (tgt := 14) hx hb dX0_firstTermWithSteps_10 (by decide) ?_
    refine qf_s (Qf := Qf) hf ?_
    rw [hQf]
    exact W.iret hx hb hr (fun t ht hW => ⟨⟨_, (), rfl, rfl, trivial⟩, hS.F ht⟩) hS.2.2 dX0_firstTermWithSteps_14
def fX0_countRuns (qs : Nat → Int32) (ts : Nat → Int32) (bs : Nat → Int32) (cn : Int32) : Option (Int32) :=
  bd1 (fX0_top ts cn) fun r1 =>
  if r1 = 0 then
    some 0
  else
    bd1 (fX0_top ts cn) fun r8 =>
    bd1 (fX0_bottom bs cn) fun r12 =>
    if r8 = r12 then
      some 0
    else
      bd1 (fX0_firstTermWithSteps qs) fun r27 =>
      some (cn - r27)
set_option maxHeartbeats 4000000 in
set_option maxRecDepth 100000 in
theorem zX0_countRuns (l : Launch) (G : va_G) (cI : ClassId) (sz : Nat) (h a1 a2 a3 : Nat) (qs : Nat → Int32) (ts : Nat → Int32) (bs : Nat → Int32) (cn : Int32) {rv : Int32} (hf : fX0_countRuns qs ts bs cn = some rv) : mRi l yX0_countRuns wsX0_countRuns ({ frames := 1, cells := 0, slots := 0, locals := 20 }) [.ref h] G cI [(h, .inr (0, [.ref a1, .ref a2, .ref a3, .int cn])), (a1, .inl (cI, 32, .inl qs)), (a2, .inl (cI, 33, .inl ts)), (a3, .inl (cI, 33, .inl bs))] sz rv := by
  refine Met.ofW (cc := cX0_countRuns) (maxL := 1) (ret := (some .int)) (by decide) rfl ?_
  intro p e s m args below meth c s₁ B hml hv
  obtain ⟨rfl, hsz, hP, hK⟩ := hv
  have hx := B.exec
  have hb := B.bytes
  have hr := B.returns
  have hts := atoms_spec (ws := wsX0_countRuns) B.pre
  have hown : s.vm.findClass RX0 = some m.cls := findClass_of_methodNamed B.named
  have hlocks := B.notSynchronized
  subst hsz
  generalize hAe : va_A [] s.heap.size = A
  have hA : ∀ q : Nat, s.heap.size ≤ q → A q := fun q h => by rw [← hAe]; exact Or.inr h
  have hS : va_S A s.heap s.heap [] := va_S.rf
  have w0 := hts (.fieldLink RX0 21 "SternDesk$Expansion" "count" "I") (by decide +kernel)
  have hinX0 : ∀ w ∈ u_ws RX0 TX0 4, w ∈ wsX0_countRuns := by decide +kernel
  obtain ⟨Qf, hQf⟩ : ∃ f : Int32 → State → Prop, f = fun z => MQ below (va_Qi (fun (r : Int32) (_ : Unit) => r = z) (fun _ _ => True) A) ([.ref h].toArray) s 0 0 A := ⟨_, rfl⟩
  suffices hgo : W p l e (headSpec wsX0_countRuns ({ frames := 1, cells := 0, slots := 0, locals := 20 })).room s m ([.ref h].toArray) below meth c s.heap [] 0 0 (Qf rv) (entryFrame m ([.ref h].toArray) 1) by rw [hQf] at hgo; exact hgo
  have hl := lv_entry ([.ref h]) (n := 1) (Nat.le_of_ble_eq_true rfl)
  rw [lg_entry_eq]
  generalize (lg_sl ([.ref h]) ++ List.replicate (1 - (lg_sl ([.ref h])).length) Slot.unset).toArray = ls at hl ⊢
  have hl : lv_has ls 1 [(0, .ref h)] := hl
  unfold fX0_countRuns at hf
  refine lv_aload_n hx hb dX0_countRuns_0 rfl (lv_at hl 0 rfl) ?_
  obtain ⟨r1, hv1, hf⟩ := bd1_s hf
  refine roVi (As := []) (rest := []) ⟨hx, hb, hml, hown, hts⟩ (zX0_top l G cI _ h a1 a2 a3 qs ts bs cn  hv1) (cwV 0 hts gX0_countRuns_X0_top rfl rfl rfl (by decide +kernel) ⟨Nat.le_of_ble_eq_true rfl, Nat.le_of_ble_eq_true rfl⟩) hK hP (hP.sub [0, 1, 2, 3] rfl) rfl rfl rfl hl.1 rfl (Nat.le_of_ble_eq_true rfl) dX0_countRuns_1 ⟨Nat.le_of_ble_eq_true rfl, Nat.le_of_ble_eq_true rfl⟩ hS hA (fun H locs hP hz1 hS => ?_)
  refine lv_if_eq (tgt := 18) hx hb dX0_countRuns_4 (by decide) (fun c4 => ?_) (fun c4 => ?_)
  · have hf := it_t c4 hf
    refine lv_iconst (v := 0) hx hb dX0_countRuns_18 (by decide) ?_
    refine lv_goto (tgt := 31) hx hb dX0_countRuns_19 (by decide) ?_
    refine qf_s (Qf := Qf) hf ?_
    rw [hQf]
    exact W.iret hx hb hr (fun t ht hW => ⟨⟨_, (), rfl, rfl, trivial⟩, hS.F ht⟩) hS.2.2 dX0_countRuns_31
  · have hf := it_f c4 hf
    refine lv_aload_n hx hb dX0_countRuns_7 rfl (lv_at hl 0 rfl) ?_
    obtain ⟨r8, hv8, hf⟩ := bd1_s hf
    refine roVi (As := []) (rest := []) ⟨hx, hb, hml, hown, hts⟩ (zX0_top l G cI _ h a1 a2 a3 qs ts bs cn  hv8) (cwV 0 hts gX0_countRuns_X0_top rfl rfl rfl (by decide +kernel) ⟨Nat.le_of_ble_eq_true rfl, Nat.le_of_ble_eq_true rfl⟩) hK hP (hP.sub [0, 1, 2, 3] rfl) rfl rfl rfl hl.1 rfl (Nat.le_of_ble_eq_true rfl) dX0_countRuns_8 ⟨Nat.le_of_ble_eq_true rfl, Nat.le_of_ble_eq_true rfl⟩ hS hA (fun H locs hP hz8 hS => ?_)
    refine lv_aload_n hx hb dX0_countRuns_11 rfl (lv_at hl 0 rfl) ?_
    obtain ⟨r12, hv12, hf⟩ := bd1_s hf
    refine roVi (As := []) (rest := [.int r8]) ⟨hx, hb, hml, hown, hts⟩ (zX0_bottom l G cI _ h a1 a2 a3 qs ts bs cn  hv12) (cwV 0 hts gX0_countRuns_X0_bottom rfl rfl rfl (by decide +kernel) ⟨Nat.le_of_ble_eq_true rfl, Nat.le_of_ble_eq_true rfl⟩) hK hP (hP.sub [0, 1, 2, 3] rfl) rfl rfl rfl hl.1 rfl (Nat.le_of_ble_eq_true rfl) dX0_countRuns_12 ⟨Nat.le_of_ble_eq_true rfl, Nat.le_of_ble_eq_true rfl⟩ hS hA (fun H locs hP hz12 hS => ?_)
    refine lv_icmp_ne (tgt := 22) hx hb dX0_countRuns_15 (by decide) (fun c15 => ?_) (fun c15 => ?_)
    · have hf := it_f c15 hf
      refine lv_aload_n hx hb dX0_countRuns_22 rfl (lv_at hl 0 rfl) ?_
      refine va_get (D := G) (ci := 0) (v := .int cn) (C := RX0) (T := TX0) (N := 4) hx hb hts hinX0 hown hK.1 hP 0 rfl rfl 3 (by decide) w0 (fun _ h9 => h9) rfl dX0_countRuns_23 ?_
      refine lv_aload_n hx hb dX0_countRuns_26 rfl (lv_at hl 0 rfl) ?_
      obtain ⟨r27, hv27, hf⟩ := bd1_s hf
      refine roVi (As := []) (rest := [.int cn]) ⟨hx, hb, hml, hown, hts⟩ (zX0_firstTermWithSteps l G cI _ h a1 a2 a3 qs ts bs cn  hv27) (cwV 0 hts gX0_countRuns_X0_firstTermWithSteps rfl rfl rfl (by decide +kernel) ⟨Nat.le_of_ble_eq_true rfl, Nat.le_of_ble_eq_true rfl⟩) hK hP (hP.sub [0, 1, 2, 3] rfl) rfl rfl rfl hl.1 rfl (Nat.le_of_ble_eq_true rfl) dX0_countRuns_27 ⟨Nat.le_of_ble_eq_true rfl, Nat.le_of_ble_eq_true rfl⟩ hS hA (fun H locs hP hz27 hS => ?_)
      refine lv_isub hx hb dX0_countRuns_30 ?_
      refine qf_s (Qf := Qf) hf ?_
      rw [hQf]
      exact W.iret hx hb hr (fun t ht hW => ⟨⟨_, (), rfl, rfl, trivial⟩, hS.F ht⟩) hS.2.2 dX0_countRuns_31
    · have hf := it_t c15 hf
      refine lv_iconst (v := 0) hx hb dX0_countRuns_18 (by decide) ?_
      refine lv_goto (tgt := 31) hx hb dX0_countRuns_19 (by decide) ?_
      refine qf_s (Qf := Qf) hf ?_
      rw [hQf]
      exact W.iret hx hb hr (fun t ht hW => ⟨⟨_, (), rfl, rfl, trivial⟩, hS.F ht⟩) hS.2.2 dX0_countRuns_31
def fX0_stepsOfRun_J34 (qs : Nat → Int32) (cn : Int32) (x2 : Int32) (y0 : Int32) : Option (Int32) :=
  ckZ 2 <|
  if (x2 - x2 / 2 * 2) = 0 then
    some y0
  else
    some (-y0)
def fX0_stepsOfRun (qs : Nat → Int32) (cn : Int32) (p1 : Int32) : Option (Int32) :=
  bd1 (fX0_firstTermWithSteps qs) fun r2 =>
  nm (p1 + r2) fun v6 =>
  if v6 = (cn - 1) then
    ckI v6 32 <|
    fX0_stepsOfRun_J34  qs cn v6 ((qs (Int32.toNatClampNeg v6)) - 1)
  else
    ckI v6 32 <|
    fX0_stepsOfRun_J34  qs cn v6 (qs (Int32.toNatClampNeg v6))
set_option maxHeartbeats 4000000 in
set_option maxRecDepth 100000 in
theorem zX0_stepsOfRun (l : Launch) (G : va_G) (cI : ClassId) (sz : Nat) (h a1 a2 a3 : Nat) (qs : Nat → Int32) (ts : Nat → Int32) (bs : Nat → Int32) (cn : Int32) (p1 : Int32) {rv : Int32} (hf : fX0_stepsOfRun qs cn p1 = some rv) : mRi l yX0_stepsOfRun wsX0_stepsOfRun ({ frames := 1, cells := 0, slots := 0, locals := 20 }) [.ref h, .int p1] G cI [(h, .inr (0, [.ref a1, .ref a2, .ref a3, .int cn])), (a1, .inl (cI, 32, .inl qs)), (a2, .inl (cI, 33, .inl ts)), (a3, .inl (cI, 33, .inl bs))] sz rv := by
  refine Met.ofW (cc := cX0_stepsOfRun) (maxL := 4) (ret := (some .int)) (by decide) rfl ?_
  intro p e s m args below meth c s₁ B hml hv
  obtain ⟨rfl, hsz, hP, hK⟩ := hv
  have hx := B.exec
  have hb := B.bytes
  have hr := B.returns
  have hts := atoms_spec (ws := wsX0_stepsOfRun) B.pre
  have hown : s.vm.findClass RX0 = some m.cls := findClass_of_methodNamed B.named
  have hlocks := B.notSynchronized
  subst hsz
  generalize hAe : va_A [] s.heap.size = A
  have hA : ∀ q : Nat, s.heap.size ≤ q → A q := fun q h => by rw [← hAe]; exact Or.inr h
  have hS : va_S A s.heap s.heap [] := va_S.rf
  have w0 := hts (.fieldLink RX0 21 "SternDesk$Expansion" "count" "I") (by decide +kernel)
  have hinX0 : ∀ w ∈ u_ws RX0 TX0 4, w ∈ wsX0_stepsOfRun := by decide +kernel
  have w2 := hts (.fieldLink RX0 9 "SternDesk$Expansion" "quotients" "[I") (by decide +kernel)
  obtain ⟨Qf, hQf⟩ : ∃ f : Int32 → State → Prop, f = fun z => MQ below (va_Qi (fun (r : Int32) (_ : Unit) => r = z) (fun _ _ => True) A) ([.ref h, .int p1].toArray) s 0 0 A := ⟨_, rfl⟩
  suffices hgo : W p l e (headSpec wsX0_stepsOfRun ({ frames := 1, cells := 0, slots := 0, locals := 20 })).room s m ([.ref h, .int p1].toArray) below meth c s.heap [] 0 0 (Qf rv) (entryFrame m ([.ref h, .int p1].toArray) 4) by rw [hQf] at hgo; exact hgo
  have J34 : ∀ (x2 : Int32) (y0 : Int32) (H : Heap) (locs : List Loc) (ls : Array Slot), fX0_stepsOfRun_J34  qs cn x2 y0 = some rv → va_P G vwCl [(h, .inr (0, [.ref a1, .ref a2, .ref a3, .int cn])), (a1, .inl (cI, 32, .inl qs)), (a2, .inl (cI, 33, .inl ts)), (a3, .inl (cI, 33, .inl bs))] H → va_S A s.heap H locs → lv_has ls 4 [(2, .int x2)] → W p l e (headSpec wsX0_stepsOfRun ({ frames := 1, cells := 0, slots := 0, locals := 20 })).room s m ([.ref h, .int p1].toArray) below meth c H locs 0 0 (Qf rv) (F0 m 34 ls [.int y0]) := by
    intro   x2 y0 H locs ls hf hP hS hl
    unfold fX0_stepsOfRun_J34 at hf
    refine lv_istore_n (lv' := [(3, .int y0), (2, .int x2)]) hx hb dX0_stepsOfRun_34 rfl hl (by decide) rfl (fun ls hl => ?_)
    refine lv_iload_n hx hb dX0_stepsOfRun_35 rfl (lv_at hl 1 rfl) ?_
    refine lv_iconst (v := 2) hx hb dX0_stepsOfRun_36 (by decide) ?_
    obtain ⟨hz37, hf⟩ := ckZ_s hf
    refine lv_irem hx hb dX0_stepsOfRun_37 hz37 ?_
    refine lv_if_ne (tgt := 45) hx hb dX0_stepsOfRun_38 (by decide) (fun c38 => ?_) (fun c38 => ?_)
    · have hf := it_f c38 hf
      refine lv_iload_n hx hb dX0_stepsOfRun_45 rfl (lv_at hl 0 rfl) ?_
      refine lv_ineg hx hb dX0_stepsOfRun_46 ?_
      refine qf_s (Qf := Qf) hf ?_
      rw [hQf]
      exact W.iret hx hb hr (fun t ht hW => ⟨⟨_, (), rfl, rfl, trivial⟩, hS.F ht⟩) hS.2.2 dX0_stepsOfRun_47
    · have hf := it_t c38 hf
      refine lv_iload_n hx hb dX0_stepsOfRun_41 rfl (lv_at hl 0 rfl) ?_
      refine lv_goto (tgt := 47) hx hb dX0_stepsOfRun_42 (by decide) ?_
      refine qf_s (Qf := Qf) hf ?_
      rw [hQf]
      exact W.iret hx hb hr (fun t ht hW => ⟨⟨_, (), rfl, rfl, trivial⟩, hS.F ht⟩) hS.2.2 dX0_stepsOfRun_47
  have hl := lv_entry ([.ref h, .int p1]) (n := 4) (Nat.le_of_ble_eq_true rfl)
  rw [lg_entry_eq]
  generalize (lg_sl ([.ref h, .int p1]) ++ List.replicate (4 - (lg_sl ([.ref h, .int p1])).length) Slot.unset).toArray = ls at hl ⊢
  have hl : lv_has ls 4 [(0, .ref h), (1, .int p1)] := hl
  unfold fX0_stepsOfRun at hf
  refine lv_iload_n hx hb dX0_stepsOfRun_0 rfl (lv_at hl 1 rfl) ?_
  refine lv_aload_n hx hb dX0_stepsOfRun_1 rfl (lv_at hl 0 rfl) ?_
  obtain ⟨r2, hv2, hf⟩ := bd1_s hf
  refine roVi (As := []) (rest := [.int p1]) ⟨hx, hb, hml, hown, hts⟩ (zX0_firstTermWithSteps l G cI _ h a1 a2 a3 qs ts bs cn  hv2) (cwV 0 hts gX0_stepsOfRun_X0_firstTermWithSteps rfl rfl rfl (by decide +kernel) ⟨Nat.le_of_ble_eq_true rfl, Nat.le_of_ble_eq_true rfl⟩) hK hP (hP.sub [0, 1, 2, 3] rfl) rfl rfl rfl hl.1 rfl (Nat.le_of_ble_eq_true rfl) dX0_stepsOfRun_2 ⟨Nat.le_of_ble_eq_true rfl, Nat.le_of_ble_eq_true rfl⟩ hS hA (fun H locs hP hz2 hS => ?_)
  refine lv_iadd hx hb dX0_stepsOfRun_5 ?_
  refine lv_topi (fun v6 ev6 => ?_)
  have hf := nm_s ev6 hf
  refine lv_istore_n (lv' := [(2, .int v6), (0, .ref h), (1, .int p1)]) hx hb dX0_stepsOfRun_6 rfl hl (by decide) rfl (fun ls hl => ?_)
  refine lv_iload_n hx hb dX0_stepsOfRun_7 rfl (lv_at hl 0 rfl) ?_
  refine lv_aload_n hx hb dX0_stepsOfRun_8 rfl (lv_at hl 1 rfl) ?_
  refine va_get (D := G) (ci := 0) (v := .int cn) (C := RX0) (T := TX0) (N := 4) hx hb hts hinX0 hown hK.1 hP 0 rfl rfl 3 (by decide) w0 (fun _ h9 => h9) rfl dX0_stepsOfRun_9 ?_
  refine lv_iconst (v := 1) hx hb dX0_stepsOfRun_12 (by decide) ?_
  refine lv_isub hx hb dX0_stepsOfRun_13 ?_
  refine lv_icmp_ne (tgt := 28) hx hb dX0_stepsOfRun_14 (by decide) (fun c14 => ?_) (fun c14 => ?_)
  · have hf := it_f c14 hf
    refine lv_aload_n hx hb dX0_stepsOfRun_28 rfl (lv_at hl 1 rfl) ?_
    refine va_get (D := G) (ci := 0) (v := .ref a1) (C := RX0) (T := TX0) (N := 4) hx hb hts hinX0 hown hK.1 hP 0 rfl rfl 0 (by decide) w2 (fun _ h9 => h9) rfl dX0_stepsOfRun_29 ?_
    refine lv_iload_n hx hb dX0_stepsOfRun_32 rfl (lv_at hl 0 rfl) ?_
    obtain ⟨hi33, hf⟩ := ckI_s hf
    refine va_iald hx hb hK.1 hP 1 0 rfl rfl hi33 dX0_stepsOfRun_33 ?_
    exact J34   v6 (qs (Int32.toNatClampNeg v6)) _ _ _ hf hP hS (lv_sub hl [0] rfl)
  · have hf := it_t c14 hf
    refine lv_aload_n hx hb dX0_stepsOfRun_17 rfl (lv_at hl 1 rfl) ?_
    refine va_get (D := G) (ci := 0) (v := .ref a1) (C := RX0) (T := TX0) (N := 4) hx hb hts hinX0 hown hK.1 hP 0 rfl rfl 0 (by decide) w2 (fun _ h9 => h9) rfl dX0_stepsOfRun_18 ?_
    refine lv_iload_n hx hb dX0_stepsOfRun_21 rfl (lv_at hl 0 rfl) ?_
    obtain ⟨hi22, hf⟩ := ckI_s hf
    refine va_iald hx hb hK.1 hP 1 0 rfl rfl hi22 dX0_stepsOfRun_22 ?_
    refine lv_iconst (v := 1) hx hb dX0_stepsOfRun_23 (by decide) ?_
    refine lv_isub hx hb dX0_stepsOfRun_24 ?_
    refine lv_goto (tgt := 34) hx hb dX0_stepsOfRun_25 (by decide) ?_
    exact J34   v6 ((qs (Int32.toNatClampNeg v6)) - 1) _ _ _ hf hP hS (lv_sub hl [0] rfl)
def fX1_init (ft : Int32) (fb : Int32) (p1 : Int32) (p2 : Int32) : Option (Int32 × Int32) :=
  some (p1, p2)
set_option maxHeartbeats 4000000 in
set_option maxRecDepth 100000 in
theorem zX1_init (l : Launch) (G : va_G) (cI : ClassId) (sz : Nat) (h : Nat) (ft : Int32) (fb : Int32) (p1 : Int32) (p2 : Int32) {o_ft : Int32} {o_fb : Int32} (hf : fX1_init ft fb p1 p2 = some (o_ft, o_fb)) : mMv l yX1_init wsX1_init ({ frames := 1, cells := 0, slots := 0, locals := 12 }) [.ref h, .int p1, .int p2] G cI [(h, .inr (1, [.int ft, .int fb]))] sz [(h, .inr (1, [.int o_ft, .int o_fb]))] 0 0 := by
  refine Met.ofW (cc := cX1_init) (maxL := 3) (ret := none) (by decide) rfl ?_
  intro p e s m args below meth c s₁ B hml hv
  obtain ⟨rfl, hsz, hP, hK, hD0⟩ := hv
  have hx := B.exec
  have hb := B.bytes
  have hr := B.returns
  have hts := atoms_spec (ws := wsX1_init) B.pre
  have hown : s.vm.findClass RX1 = some m.cls := findClass_of_methodNamed B.named
  have hlocks := B.notSynchronized
  have hin : meth.name = "<init>" := (name_of_methodNamed B.named B.method).1
  subst hsz
  have hD := hD0.self (sz := s.heap.size)
  generalize hAe : va_A [(h, .inr (1, [.int ft, .int fb]))] s.heap.size = A at hD ⊢
  have hA : ∀ q : Nat, s.heap.size ≤ q → A q := fun q h => by rw [← hAe]; exact Or.inr h
  have hS : va_S A s.heap s.heap [] := va_S.rf
  have w0 := hts (.methodLink RX1 1 objectInit) (by decide +kernel)
  have w1 := hts (.instanceMethod objectInit) (by decide +kernel)
  have w2 := hts (.code objectInit ⟨#[0xb1]⟩ 1 none) (by decide +kernel)
  have w3 := hts (.fieldLink RX1 7 "SternDesk$Fraction" "top" "I") (by decide +kernel)
  have hinX1 : ∀ w ∈ u_ws RX1 TX1 2, w ∈ wsX1_init := by decide +kernel
  have w5 := hts (.fieldLink RX1 13 "SternDesk$Fraction" "bottom" "I") (by decide +kernel)
  obtain ⟨Qf, hQf⟩ : ∃ f : (Int32 × Int32) → State → Prop, f = fun z => MQ below (va_Qv (fun (_ : Unit) => True) (fun _ t => va_P G vwCl [(h, .inr (1, [.int z.1, .int z.2]))] t.heap ∧ va_D A [(h, .inr (1, [.int z.1, .int z.2]))]) A) ([.ref h, .int p1, .int p2].toArray) s 0 0 A := ⟨_, rfl⟩
  suffices hgo : W p l e (headSpec wsX1_init ({ frames := 1, cells := 0, slots := 0, locals := 12 })).room s m ([.ref h, .int p1, .int p2].toArray) below meth c s.heap [] 0 0 (Qf (o_ft, o_fb)) (entryFrame m ([.ref h, .int p1, .int p2].toArray) 3) by rw [hQf] at hgo; exact hgo
  have hl := lv_entry ([.ref h, .int p1, .int p2]) (n := 3) (Nat.le_of_ble_eq_true rfl)
  rw [lg_entry_eq]
  generalize (lg_sl ([.ref h, .int p1, .int p2]) ++ List.replicate (3 - (lg_sl ([.ref h, .int p1, .int p2])).length) Slot.unset).toArray = ls at hl ⊢
  have hl : lv_has ls 3 [(0, .ref h), (1, .int p1), (2, .int p2)] := hl
  unfold fX1_init at hf
  refine lv_aload_n hx hb dX1_init_0 rfl (lv_at hl 0 rfl) ?_
  refine W.objInit hx hb hown w0 w1 w2 rfl (by rw [hml]; exact hl.1) rfl dX1_init_1 (Nat.le_of_ble_eq_true rfl) (Nat.le_of_ble_eq_true rfl) ?_
  refine W.eq (g2 := F0 m 4 ls []) rfl ?_
  refine lv_aload_n hx hb dX1_init_4 rfl (lv_at hl 0 rfl) ?_
  refine lv_iload_n hx hb dX1_init_5 rfl (lv_at hl 1 rfl) ?_
  refine va_putF (D := G) (ci := 1) (v := .int p1) (ty := .int) (C := RX1) (T := TX1) (N := 2) hx hb hts hinX1 tyX1 tyX1_ok nmX1 hown hK.1 hP hD hS 0 rfl rfl 0 (by decide) w3 (fun _ h9 => h9) rfl hin rfl (by decide +kernel) rfl rfl (Nat.le_of_ble_eq_true rfl) dX1_init_6 (fun H locs hP hD hS => ?_)
  have hP : va_P G vwCl [(h, .inr (1, [.int p1, .int fb]))] H := hP
  have hD : va_D A [(h, .inr (1, [.int p1, .int fb]))] := hD
  refine lv_aload_n hx hb dX1_init_9 rfl (lv_at hl 0 rfl) ?_
  refine lv_iload_n hx hb dX1_init_10 rfl (lv_at hl 2 rfl) ?_
  refine va_putF (D := G) (ci := 1) (v := .int p2) (ty := .int) (C := RX1) (T := TX1) (N := 2) hx hb hts hinX1 tyX1 tyX1_ok nmX1 hown hK.1 hP hD hS 0 rfl rfl 1 (by decide) w5 (fun _ h9 => h9) rfl hin rfl (by decide +kernel) rfl rfl (Nat.le_of_ble_eq_true rfl) dX1_init_11 (fun H locs hP hD hS => ?_)
  have hP : va_P G vwCl [(h, .inr (1, [.int p1, .int p2]))] H := hP
  have hD : va_D A [(h, .inr (1, [.int p1, .int p2]))] := hD
  refine qf_s (Qf := Qf) hf ?_
  have hP9 : va_P G vwCl [(h, .inr (1, [.int p1, .int p2]))] _ := hP.sub [0] rfl
  have hD9 : va_D A [(h, .inr (1, [.int p1, .int p2]))] := hD.sub [0] (by decide) rfl
  rw [hQf]
  exact W.vret hx hb hr (fun t ht hW => ⟨⟨(), rfl, trivial, by rw [ht]; exact hP9, hD9⟩, hS.F ht⟩) hS.2.2 dX1_init_14
def fX0_lastWithin_J24 (k4 : Int32 → Int32 → Int32 → Option (Int32)) (bs : Nat → Int32) (cn : Int32) (x1 : Int32) (x2 : Int32) (x3 : Int32) : Option (Int32) :=
  nm (x3 + 1) fun v24 =>
  k4 x1 x2 v24
def fX0_lastWithin_B4 (k4 : Int32 → Int32 → Int32 → Option (Int32)) (bs : Nat → Int32) (cn : Int32) (x1 : Int32) (x2 : Int32) (x3 : Int32) : Option (Int32) :=
  if cn < x3 then
    some x2
  else
    ckI x3 33 <|
    if x1 < (bs (Int32.toNatClampNeg x3)) then
      fX0_lastWithin_J24 k4 bs cn x1 x2 x3
    else
      fX0_lastWithin_J24 k4 bs cn x1 x3 x3
def fX0_lastWithin_L4 (bs : Nat → Int32) (cn : Int32) : Nat → Int32 → Int32 → Int32 → Option (Int32)
  | 0, _, _, _ => none
  | n + 1, x1, x2, x3 => fX0_lastWithin_B4 (fX0_lastWithin_L4  bs cn n) bs cn x1 x2 x3
def fX0_lastWithin (bs : Nat → Int32) (cn : Int32) (p1 : Int32) : Option (Int32) :=
  fX0_lastWithin_L4  bs cn FU p1 1 2
set_option maxHeartbeats 4000000 in
set_option maxRecDepth 100000 in
theorem zX0_lastWithin (l : Launch) (G : va_G) (cI : ClassId) (sz : Nat) (h a1 a2 a3 : Nat) (qs : Nat → Int32) (ts : Nat → Int32) (bs : Nat → Int32) (cn : Int32) (p1 : Int32) {rv : Int32} (hf : fX0_lastWithin bs cn p1 = some rv) : mRi l yX0_lastWithin wsX0_lastWithin ({ frames := 0, cells := 0, slots := 0, locals := 0 }) [.ref h, .int p1] G cI [(h, .inr (0, [.ref a1, .ref a2, .ref a3, .int cn])), (a1, .inl (cI, 32, .inl qs)), (a2, .inl (cI, 33, .inl ts)), (a3, .inl (cI, 33, .inl bs))] sz rv := by
  refine Met.ofW (cc := cX0_lastWithin) (maxL := 4) (ret := (some .int)) (by decide) rfl ?_
  intro p e s m args below meth c s₁ B hml hv
  obtain ⟨rfl, hsz, hP, hK⟩ := hv
  have hx := B.exec
  have hb := B.bytes
  have hr := B.returns
  have hts := atoms_spec (ws := wsX0_lastWithin) B.pre
  have hown : s.vm.findClass RX0 = some m.cls := findClass_of_methodNamed B.named
  have hlocks := B.notSynchronized
  subst hsz
  generalize hAe : va_A [] s.heap.size = A
  have hA : ∀ q : Nat, s.heap.size ≤ q → A q := fun q h => by rw [← hAe]; exact Or.inr h
  have hS : va_S A s.heap s.heap [] := va_S.rf
  have w0 := hts (.fieldLink RX0 21 "SternDesk$Expansion" "count" "I") (by decide +kernel)
  have hinX0 : ∀ w ∈ u_ws RX0 TX0 4, w ∈ wsX0_lastWithin := by decide +kernel
  have w2 := hts (.fieldLink RX0 18 "SternDesk$Expansion" "bottoms" "[I") (by decide +kernel)
  obtain ⟨Qf, hQf⟩ : ∃ f : Int32 → State → Prop, f = fun z => MQ below (va_Qi (fun (r : Int32) (_ : Unit) => r = z) (fun _ _ => True) A) ([.ref h, .int p1].toArray) s 0 0 A := ⟨_, rfl⟩
  suffices hgo : W p l e (headSpec wsX0_lastWithin ({ frames := 0, cells := 0, slots := 0, locals := 0 })).room s m ([.ref h, .int p1].toArray) below meth c s.heap [] 0 0 (Qf rv) (entryFrame m ([.ref h, .int p1].toArray) 4) by rw [hQf] at hgo; exact hgo
  have J24 : ∀ (k4 : Int32 → Int32 → Int32 → Option (Int32)) (hk4 : ∀ (x1 : Int32) (x2 : Int32) (x3 : Int32) (H : Heap) (locs : List Loc) (ls : Array Slot), k4 x1 x2 x3 = some rv → va_P G vwCl [(h, .inr (0, [.ref a1, .ref a2, .ref a3, .int cn])), (a1, .inl (cI, 32, .inl qs)), (a2, .inl (cI, 33, .inl ts)), (a3, .inl (cI, 33, .inl bs))] H → va_S A s.heap H locs → lv_has ls 4 [(0, .ref h), (1, .int x1), (2, .int x2), (3, .int x3)] → W p l e (headSpec wsX0_lastWithin ({ frames := 0, cells := 0, slots := 0, locals := 0 })).room s m ([.ref h, .int p1].toArray) below meth c H locs 0 0 (Qf rv) (F0 m 4 ls [])) (x1 : Int32) (x2 : Int32) (x3 : Int32) (H : Heap) (locs : List Loc) (ls : Array Slot), fX0_lastWithin_J24 k4 bs cn x1 x2 x3 = some rv → va_P G vwCl [(h, .inr (0, [.ref a1, .ref a2, .ref a3, .int cn])), (a1, .inl (cI, 32, .inl qs)), (a2, .inl (cI, 33, .inl ts)), (a3, .inl (cI, 33, .inl bs))] H → va_S A s.heap H locs → lv_has ls 4 [(0, .ref h), (1, .int x1), (2, .int x2), (3, .int x3)] → W p l e (headSpec wsX0_lastWithin ({ frames := 0, cells := 0, slots := 0, locals := 0 })).room s m ([.ref h, .int p1].toArray) below meth c H locs 0 0 (Qf rv) (F0 m 24 ls []) := by
    intro k4 hk4  x1 x2 x3 H locs ls hf hP hS hl
    unfold fX0_lastWithin_J24 at hf
    obtain ⟨v24, ev24⟩ : ∃ y : Int32, y = x3 + 1 := ⟨_, rfl⟩
    have hf := nm_s ev24 hf
    refine lv_iinc (v := v24) (lv' := [(3, .int v24), (0, .ref h), (1, .int x1), (2, .int x2)]) hx hb dX0_lastWithin_24 hl (k := 3) rfl (by rw [ev24]; rfl) (by decide) rfl (fun ls hl => ?_)
    refine lv_goto (tgt := 4) hx hb dX0_lastWithin_27 (by decide) ?_
    exact hk4  x1 x2 v24 _ _ _ hf hP hS (lv_sub hl [1, 2, 3, 0] rfl)
  have B4 : ∀ (k4 : Int32 → Int32 → Int32 → Option (Int32)) (hk4 : ∀ (x1 : Int32) (x2 : Int32) (x3 : Int32) (H : Heap) (locs : List Loc) (ls : Array Slot), k4 x1 x2 x3 = some rv → va_P G vwCl [(h, .inr (0, [.ref a1, .ref a2, .ref a3, .int cn])), (a1, .inl (cI, 32, .inl qs)), (a2, .inl (cI, 33, .inl ts)), (a3, .inl (cI, 33, .inl bs))] H → va_S A s.heap H locs → lv_has ls 4 [(0, .ref h), (1, .int x1), (2, .int x2), (3, .int x3)] → W p l e (headSpec wsX0_lastWithin ({ frames := 0, cells := 0, slots := 0, locals := 0 })).room s m ([.ref h, .int p1].toArray) below meth c H locs 0 0 (Qf rv) (F0 m 4 ls [])) (x1 : Int32) (x2 : Int32) (x3 : Int32) (H : Heap) (locs : List Loc) (ls : Array Slot), fX0_lastWithin_B4 k4 bs cn x1 x2 x3 = some rv → va_P G vwCl [(h, .inr (0, [.ref a1, .ref a2, .ref a3, .int cn])), (a1, .inl (cI, 32, .inl qs)), (a2, .inl (cI, 33, .inl ts)), (a3, .inl (cI, 33, .inl bs))] H → va_S A s.heap H locs → lv_has ls 4 [(0, .ref h), (1, .int x1), (2, .int x2), (3, .int x3)] → W p l e (headSpec wsX0_lastWithin ({ frames := 0, cells := 0, slots := 0, locals := 0 })).room s m ([.ref h, .int p1].toArray) below meth c H locs 0 0 (Qf rv) (F0 m 4 ls []) := by
    intro k4 hk4  x1 x2 x3 H locs ls hf hP hS hl
    unfold fX0_lastWithin_B4 at hf
    refine lv_iload_n hx hb dX0_lastWithin_4 rfl (lv_at hl 3 rfl) ?_
    refine lv_aload_n hx hb dX0_lastWithin_5 rfl (lv_at hl 0 rfl) ?_
    refine va_get (D := G) (ci := 0) (v := .int cn) (C := RX0) (T := TX0) (N := 4) hx hb hts hinX0 hown hK.1 hP 0 rfl rfl 3 (by decide) w0 (fun _ h9 => h9) rfl dX0_lastWithin_6 ?_
    refine lv_icmp_gt (tgt := 30) hx hb dX0_lastWithin_9 (by decide) (fun c9 => ?_) (fun c9 => ?_)
    · have hf := it_t c9 hf
      refine lv_iload_n hx hb dX0_lastWithin_30 rfl (lv_at hl 2 rfl) ?_
      refine qf_s (Qf := Qf) hf ?_
      rw [hQf]
      exact W.iret hx hb hr (fun t ht hW => ⟨⟨_, (), rfl, rfl, trivial⟩, hS.F ht⟩) hS.2.2 dX0_lastWithin_31
    · have hf := it_f c9 hf
      refine lv_aload_n hx hb dX0_lastWithin_12 rfl (lv_at hl 0 rfl) ?_
      refine va_get (D := G) (ci := 0) (v := .ref a3) (C := RX0) (T := TX0) (N := 4) hx hb hts hinX0 hown hK.1 hP 0 rfl rfl 2 (by decide) w2 (fun _ h9 => h9) rfl dX0_lastWithin_13 ?_
      refine lv_iload_n hx hb dX0_lastWithin_16 rfl (lv_at hl 3 rfl) ?_
      obtain ⟨hi17, hf⟩ := ckI_s hf
      refine va_iald hx hb hK.1 hP 3 0 rfl rfl hi17 dX0_lastWithin_17 ?_
      refine lv_iload_n hx hb dX0_lastWithin_18 rfl (lv_at hl 1 rfl) ?_
      refine lv_icmp_gt (tgt := 24) hx hb dX0_lastWithin_19 (by decide) (fun c19 => ?_) (fun c19 => ?_)
      · have hf := it_t c19 hf
        exact J24 k4 hk4  x1 x2 x3 _ _ _ hf hP hS (lv_sub hl [0, 1, 2, 3] rfl)
      · have hf := it_f c19 hf
        refine lv_iload_n hx hb dX0_lastWithin_22 rfl (lv_at hl 3 rfl) ?_
        refine lv_istore_n (lv' := [(2, .int x3), (0, .ref h), (1, .int x1), (3, .int x3)]) hx hb dX0_lastWithin_23 rfl hl (by decide) rfl (fun ls hl => ?_)
        exact J24 k4 hk4  x1 x3 x3 _ _ _ hf hP hS (lv_sub hl [1, 2, 0, 3] rfl)
  have L4 : ∀ (fu : Nat) (x1 : Int32) (x2 : Int32) (x3 : Int32) (H : Heap) (locs : List Loc) (ls : Array Slot), fX0_lastWithin_L4  bs cn fu x1 x2 x3 = some rv → va_P G vwCl [(h, .inr (0, [.ref a1, .ref a2, .ref a3, .int cn])), (a1, .inl (cI, 32, .inl qs)), (a2, .inl (cI, 33, .inl ts)), (a3, .inl (cI, 33, .inl bs))] H → va_S A s.heap H locs → lv_has ls 4 [(0, .ref h), (1, .int x1), (2, .int x2), (3, .int x3)] → W p l e (headSpec wsX0_lastWithin ({ frames := 0, cells := 0, slots := 0, locals := 0 })).room s m ([.ref h, .int p1].toArray) below meth c H locs 0 0 (Qf rv) (F0 m 4 ls []) := by
    intro  fu
    induction fu with
    | zero => intro x1 x2 x3 H locs ls hf; cases hf
    | succ fu ih => intro x1 x2 x3 H locs ls hf hP hS hl; exact B4 (fX0_lastWithin_L4  bs cn fu) ih x1 x2 x3 _ _ _ hf hP hS hl
  have hl := lv_entry ([.ref h, .int p1]) (n := 4) (Nat.le_of_ble_eq_true rfl)
  rw [lg_entry_eq]
  generalize (lg_sl ([.ref h, .int p1]) ++ List.replicate (4 - (lg_sl ([.ref h, .int p1])).length) Slot.unset).toArray = ls at hl ⊢
  have hl : lv_has ls 4 [(0, .ref h), (1, .int p1)] := hl
  unfold fX0_lastWithin at hf
  refine lv_iconst (v := 1) hx hb dX0_lastWithin_0 (by decide) ?_
  refine lv_istore_n (lv' := [(2, .int 1), (0, .ref h), (1, .int p1)]) hx hb dX0_lastWithin_1 rfl hl (by decide) rfl (fun ls hl => ?_)
  refine lv_iconst (v := 2) hx hb dX0_lastWithin_2 (by decide) ?_
  refine lv_istore_n (lv' := [(3, .int 2), (2, .int 1), (0, .ref h), (1, .int p1)]) hx hb dX0_lastWithin_3 rfl hl (by decide) rfl (fun ls hl => ?_)
  exact L4  FU  p1 1 2 _ _ _ hf hP hS (lv_sub hl [2, 3, 1, 0] rfl)
end
