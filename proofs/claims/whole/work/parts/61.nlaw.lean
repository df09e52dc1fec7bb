def RJ0 : String := "java/lang/String"
def TJ0 : u_T := fun k => match k with
  | _ => ("", "", "", false)
def tyJ0 : Nat → FieldType := fun k => match k with
  | _ => .int
abbrev wsJ00 : List Cond := u_ws RJ0 TJ0 0
theorem nmJ0 : ∀ a, a < 0 → ∀ b, b < 0 → a ≠ b → (TJ0 a).2.1 ≠ (TJ0 b).2.1 := by decide +kernel
theorem tyJ0_ok : ∀ k, k < 0 → parseFieldDescriptor (TJ0 k).2.2.1 = some (tyJ0 k) := by decide +kernel
def RL : String := "SternDeskLaw"
abbrev cL_take : ByteArray := method_3_code
def yL_take : MethodName := ⟨RL, "take", "(LSternDesk;II)I"⟩
abbrev cL_near : ByteArray := method_4_code
def yL_near : MethodName := ⟨RL, "near", "(LSternDesk;III[J)I"⟩
abbrev cL_between : ByteArray := method_5_code
def yL_between : MethodName := ⟨RL, "between", "(LSternDesk;IIII[J)I"⟩
abbrev cL_law : ByteArray := code
def yL_law : MethodName := ⟨RL, "law", "([I)Z"⟩
def wsX3_take_r1 : List Cond := [Cond.classLink RX3 32 "java/lang/IllegalArgumentException", Cond.initialized "java/lang/IllegalArgumentException", Cond.constant RX3 27 (100000), Cond.fieldLink RX3 10 "SternDesk" "hand" "LSternDesk$Expansion;", Cond.methodLink RX3 28 yX3_isWithin, Cond.static yX3_isWithin, Cond.initialized RX3, Cond.code yX3_isWithin cX3_isWithin 3 (some .boolean), Cond.methodLink RX3 23 yX0_expand, Cond.instanceMethod yX0_expand, Cond.selects RX0 yX0_expand yX0_expand, Cond.initialized RX0, Cond.code yX0_expand cX0_expand 8 none, Cond.methodLink RX0 38 yX0_startAnew, Cond.instanceMethod yX0_startAnew, Cond.selects RX0 yX0_startAnew yX0_startAnew, Cond.code yX0_startAnew cX0_startAnew 1 none, Cond.fieldLink RX0 21 "SternDesk$Expansion" "count" "I", Cond.fieldLink RX0 15 "SternDesk$Expansion" "tops" "[I", Cond.fieldLink RX0 18 "SternDesk$Expansion" "bottoms" "[I", Cond.methodLink RX0 41 yX0_addTerm, Cond.instanceMethod yX0_addTerm, Cond.selects RX0 yX0_addTerm yX0_addTerm, Cond.code yX0_addTerm cX0_addTerm 4 none]
def wsX3_take_r2 : List Cond := [Cond.fieldLink RX0 9 "SternDesk$Expansion" "quotients" "[I", Cond.methodLink RX0 25 yX0_top, Cond.instanceMethod yX0_top, Cond.selects RX0 yX0_top yX0_top, Cond.code yX0_top cX0_top 1 (some .int), Cond.methodLink RX0 29 yX0_topBefore, Cond.instanceMethod yX0_topBefore, Cond.selects RX0 yX0_topBefore yX0_topBefore, Cond.code yX0_topBefore cX0_topBefore 1 (some .int), Cond.methodLink RX0 32 yX0_bottom, Cond.instanceMethod yX0_bottom, Cond.selects RX0 yX0_bottom yX0_bottom, Cond.code yX0_bottom cX0_bottom 1 (some .int), Cond.methodLink RX0 35 yX0_bottomBefore, Cond.instanceMethod yX0_bottomBefore, Cond.selects RX0 yX0_bottomBefore yX0_bottomBefore, Cond.code yX0_bottomBefore cX0_bottomBefore 1 (some .int)]
def wsX3_take : List Cond := .code yX3_take cX3_take 3 none :: ((wsX3_take_r1 ++ wsX3_take_r2) ++ wsX30 ++ wsX00 ++ (vx_atS RX3 36 "java/lang/IllegalArgumentException" ["java/lang/RuntimeException", "java/lang/Exception"]).filter goodWord)
def wsX3_near_r1 : List Cond := [Cond.classLink RX3 32 "java/lang/IllegalArgumentException", Cond.initialized "java/lang/IllegalArgumentException", Cond.fieldLink RX3 10 "SternDesk" "hand" "LSternDesk$Expansion;", Cond.fieldLink RX3 82 "SternDesk$Fraction" "top" "I", Cond.fieldLink RX3 86 "SternDesk$Fraction" "bottom" "I", Cond.methodLink RX3 28 yX3_isWithin, Cond.static yX3_isWithin, Cond.initialized RX3, Cond.code yX3_isWithin cX3_isWithin 3 (some .boolean), Cond.methodLink RX3 43 yX0_bottom, Cond.instanceMethod yX0_bottom, Cond.selects RX0 yX0_bottom yX0_bottom, Cond.initialized RX0, Cond.code yX0_bottom cX0_bottom 1 (some .int), Cond.fieldLink RX0 18 "SternDesk$Expansion" "bottoms" "[I", Cond.fieldLink RX0 21 "SternDesk$Expansion" "count" "I", Cond.methodLink RX3 98 yX3_part, Cond.instanceMethod yX3_part, Cond.selects RX3 yX3_part yX3_part, Cond.code yX3_part cX3_part 2 (some .int), Cond.methodLink RX3 39 yX0_top, Cond.instanceMethod yX0_top, Cond.selects RX0 yX0_top yX0_top, Cond.code yX0_top cX0_top 1 (some .int)]
def wsX3_near_r2 : List Cond := [Cond.fieldLink RX0 15 "SternDesk$Expansion" "tops" "[I", Cond.methodLink RX3 46 yX3_topOrBottom, Cond.static yX3_topOrBottom, Cond.code yX3_topOrBottom cX3_topOrBottom 3 (some .int), Cond.methodLink RX3 101 yX0_nearWithin, Cond.instanceMethod yX0_nearWithin, Cond.selects RX0 yX0_nearWithin yX0_nearWithin, Cond.code yX0_nearWithin cX0_nearWithin 10 (some (.object "SternDesk$Fraction")), Cond.classLink RX0 48 RX1, Cond.instantiable RX1 2, Cond.initialized RX1, Cond.fieldLink RX0 57 "SternDesk$Fraction" "bottom" "I", Cond.fieldLink RX0 59 "SternDesk$Fraction" "top" "I", Cond.methodLink RX0 53 yX0_lastWithin, Cond.instanceMethod yX0_lastWithin, Cond.selects RX0 yX0_lastWithin yX0_lastWithin, Cond.code yX0_lastWithin cX0_lastWithin 4 (some .int), Cond.methodLink RX0 50 yX1_init, Cond.instanceMethod yX1_init, Cond.code yX1_init cX1_init 3 none, Cond.methodLink RX1 1 objectInit, Cond.instanceMethod objectInit, Cond.code objectInit ⟨#[0xb1]⟩ 1 none, Cond.fieldLink RX1 7 "SternDesk$Fraction" "top" "I"]
def wsX3_near_r3 : List Cond := [Cond.fieldLink RX1 13 "SternDesk$Fraction" "bottom" "I", Cond.methodLink RX0 61 yX0_isLowerNearer, Cond.instanceMethod yX0_isLowerNearer, Cond.selects RX0 yX0_isLowerNearer yX0_isLowerNearer, Cond.code yX0_isLowerNearer cX0_isLowerNearer 7 (some .boolean), Cond.methodLink RX0 25 yX0_top, Cond.methodLink RX0 32 yX0_bottom]
def wsX3_near : List Cond := .code yX3_near cX3_near 5 (some .int) :: ((wsX3_near_r1 ++ (wsX3_near_r2 ++ wsX3_near_r3)) ++ wsX30 ++ wsX10 ++ wsX00 ++ (vx_atS RX3 36 "java/lang/IllegalArgumentException" ["java/lang/RuntimeException", "java/lang/Exception"]).filter goodWord)
def wsX3_between_r1 : List Cond := [Cond.classLink RX3 32 "java/lang/IllegalArgumentException", Cond.initialized "java/lang/IllegalArgumentException", Cond.fieldLink RX3 10 "SternDesk" "hand" "LSternDesk$Expansion;", Cond.methodLink RX3 28 yX3_isWithin, Cond.static yX3_isWithin, Cond.initialized RX3, Cond.code yX3_isWithin cX3_isWithin 3 (some .boolean), Cond.methodLink RX3 107 yX0_expandSimplest, Cond.instanceMethod yX0_expandSimplest, Cond.selects RX0 yX0_expandSimplest yX0_expandSimplest, Cond.initialized RX0, Cond.code yX0_expandSimplest cX0_expandSimplest 10 none, Cond.methodLink RX0 38 yX0_startAnew, Cond.instanceMethod yX0_startAnew, Cond.selects RX0 yX0_startAnew yX0_startAnew, Cond.code yX0_startAnew cX0_startAnew 1 none, Cond.fieldLink RX0 21 "SternDesk$Expansion" "count" "I", Cond.fieldLink RX0 15 "SternDesk$Expansion" "tops" "[I", Cond.fieldLink RX0 18 "SternDesk$Expansion" "bottoms" "[I", Cond.methodLink RX0 41 yX0_addTerm, Cond.instanceMethod yX0_addTerm, Cond.selects RX0 yX0_addTerm yX0_addTerm, Cond.code yX0_addTerm cX0_addTerm 4 none, Cond.fieldLink RX0 9 "SternDesk$Expansion" "quotients" "[I"]
def wsX3_between_r2 : List Cond := [Cond.methodLink RX0 25 yX0_top, Cond.instanceMethod yX0_top, Cond.selects RX0 yX0_top yX0_top, Cond.code yX0_top cX0_top 1 (some .int), Cond.methodLink RX0 29 yX0_topBefore, Cond.instanceMethod yX0_topBefore, Cond.selects RX0 yX0_topBefore yX0_topBefore, Cond.code yX0_topBefore cX0_topBefore 1 (some .int), Cond.methodLink RX0 32 yX0_bottom, Cond.instanceMethod yX0_bottom, Cond.selects RX0 yX0_bottom yX0_bottom, Cond.code yX0_bottom cX0_bottom 1 (some .int), Cond.methodLink RX0 35 yX0_bottomBefore, Cond.instanceMethod yX0_bottomBefore, Cond.selects RX0 yX0_bottomBefore yX0_bottomBefore, Cond.code yX0_bottomBefore cX0_bottomBefore 1 (some .int)]
def wsX3_between : List Cond := .code yX3_between cX3_between 5 (some .int) :: ((wsX3_between_r1 ++ wsX3_between_r2) ++ wsX30 ++ wsX00 ++ (vx_atS RX3 36 "java/lang/IllegalArgumentException" ["java/lang/RuntimeException", "java/lang/Exception"]).filter goodWord)
def wsL_take_r1 : List Cond := [Cond.classLink RL 13 "java/lang/IllegalArgumentException", Cond.methodLink RL 7 yX3_take, Cond.instanceMethod yX3_take, Cond.selects RX3 yX3_take yX3_take, Cond.initialized RX3, Cond.code yX3_take cX3_take 3 none, Cond.classLink RX3 32 "java/lang/IllegalArgumentException", Cond.initialized "java/lang/IllegalArgumentException", Cond.constant RX3 27 (100000), Cond.fieldLink RX3 10 "SternDesk" "hand" "LSternDesk$Expansion;", Cond.methodLink RX3 28 yX3_isWithin, Cond.static yX3_isWithin, Cond.code yX3_isWithin cX3_isWithin 3 (some .boolean), Cond.methodLink RX3 23 yX0_expand, Cond.instanceMethod yX0_expand, Cond.selects RX0 yX0_expand yX0_expand, Cond.initialized RX0, Cond.code yX0_expand cX0_expand 8 none, Cond.methodLink RX0 38 yX0_startAnew, Cond.instanceMethod yX0_startAnew, Cond.selects RX0 yX0_startAnew yX0_startAnew, Cond.code yX0_startAnew cX0_startAnew 1 none, Cond.fieldLink RX0 21 "SternDesk$Expansion" "count" "I", Cond.fieldLink RX0 15 "SternDesk$Expansion" "tops" "[I"]
def wsL_take_r2 : List Cond := [Cond.fieldLink RX0 18 "SternDesk$Expansion" "bottoms" "[I", Cond.methodLink RX0 41 yX0_addTerm, Cond.instanceMethod yX0_addTerm, Cond.selects RX0 yX0_addTerm yX0_addTerm, Cond.code yX0_addTerm cX0_addTerm 4 none, Cond.fieldLink RX0 9 "SternDesk$Expansion" "quotients" "[I", Cond.methodLink RX0 25 yX0_top, Cond.instanceMethod yX0_top, Cond.selects RX0 yX0_top yX0_top, Cond.code yX0_top cX0_top 1 (some .int), Cond.methodLink RX0 29 yX0_topBefore, Cond.instanceMethod yX0_topBefore, Cond.selects RX0 yX0_topBefore yX0_topBefore, Cond.code yX0_topBefore cX0_topBefore 1 (some .int), Cond.methodLink RX0 32 yX0_bottom, Cond.instanceMethod yX0_bottom, Cond.selects RX0 yX0_bottom yX0_bottom, Cond.code yX0_bottom cX0_bottom 1 (some .int), Cond.methodLink RX0 35 yX0_bottomBefore, Cond.instanceMethod yX0_bottomBefore, Cond.selects RX0 yX0_bottomBefore yX0_bottomBefore, Cond.code yX0_bottomBefore cX0_bottomBefore 1 (some .int)]
def wsL_take : List Cond := .codeWith yL_take cL_take 4 (some .int) [(0, 6, 9, 13)] :: ((wsL_take_r1 ++ wsL_take_r2) ++ wsX30 ++ wsX00 ++ (vx_atS RX3 36 "java/lang/IllegalArgumentException" ["java/lang/RuntimeException", "java/lang/Exception"]).filter goodWord)
def wsL_near_r1 : List Cond := [Cond.classLink RL 13 "java/lang/IllegalArgumentException", Cond.methodLink RL 15 yX3_near, Cond.instanceMethod yX3_near, Cond.selects RX3 yX3_near yX3_near, Cond.initialized RX3, Cond.code yX3_near cX3_near 5 (some .int), Cond.classLink RX3 32 "java/lang/IllegalArgumentException", Cond.initialized "java/lang/IllegalArgumentException", Cond.fieldLink RX3 10 "SternDesk" "hand" "LSternDesk$Expansion;", Cond.fieldLink RX3 82 "SternDesk$Fraction" "top" "I", Cond.fieldLink RX3 86 "SternDesk$Fraction" "bottom" "I", Cond.methodLink RX3 28 yX3_isWithin, Cond.static yX3_isWithin, Cond.code yX3_isWithin cX3_isWithin 3 (some .boolean), Cond.methodLink RX3 43 yX0_bottom, Cond.instanceMethod yX0_bottom, Cond.selects RX0 yX0_bottom yX0_bottom, Cond.initialized RX0, Cond.code yX0_bottom cX0_bottom 1 (some .int), Cond.fieldLink RX0 18 "SternDesk$Expansion" "bottoms" "[I", Cond.fieldLink RX0 21 "SternDesk$Expansion" "count" "I", Cond.methodLink RX3 98 yX3_part, Cond.instanceMethod yX3_part, Cond.selects RX3 yX3_part yX3_part]
def wsL_near_r2 : List Cond := [Cond.code yX3_part cX3_part 2 (some .int), Cond.methodLink RX3 39 yX0_top, Cond.instanceMethod yX0_top, Cond.selects RX0 yX0_top yX0_top, Cond.code yX0_top cX0_top 1 (some .int), Cond.fieldLink RX0 15 "SternDesk$Expansion" "tops" "[I", Cond.methodLink RX3 46 yX3_topOrBottom, Cond.static yX3_topOrBottom, Cond.code yX3_topOrBottom cX3_topOrBottom 3 (some .int), Cond.methodLink RX3 101 yX0_nearWithin, Cond.instanceMethod yX0_nearWithin, Cond.selects RX0 yX0_nearWithin yX0_nearWithin, Cond.code yX0_nearWithin cX0_nearWithin 10 (some (.object "SternDesk$Fraction")), Cond.classLink RX0 48 RX1, Cond.instantiable RX1 2, Cond.initialized RX1, Cond.fieldLink RX0 57 "SternDesk$Fraction" "bottom" "I", Cond.fieldLink RX0 59 "SternDesk$Fraction" "top" "I", Cond.methodLink RX0 53 yX0_lastWithin, Cond.instanceMethod yX0_lastWithin, Cond.selects RX0 yX0_lastWithin yX0_lastWithin, Cond.code yX0_lastWithin cX0_lastWithin 4 (some .int), Cond.methodLink RX0 50 yX1_init, Cond.instanceMethod yX1_init]
def wsL_near_r3 : List Cond := [Cond.code yX1_init cX1_init 3 none, Cond.methodLink RX1 1 objectInit, Cond.instanceMethod objectInit, Cond.code objectInit ⟨#[0xb1]⟩ 1 none, Cond.fieldLink RX1 7 "SternDesk$Fraction" "top" "I", Cond.fieldLink RX1 13 "SternDesk$Fraction" "bottom" "I", Cond.methodLink RX0 61 yX0_isLowerNearer, Cond.instanceMethod yX0_isLowerNearer, Cond.selects RX0 yX0_isLowerNearer yX0_isLowerNearer, Cond.code yX0_isLowerNearer cX0_isLowerNearer 7 (some .boolean), Cond.methodLink RX0 25 yX0_top, Cond.methodLink RX0 32 yX0_bottom]
def wsL_near : List Cond := .codeWith yL_near cL_near 6 (some .int) [(0, 12, 15, 13)] :: ((wsL_near_r1 ++ (wsL_near_r2 ++ wsL_near_r3)) ++ wsX30 ++ wsX10 ++ wsX00 ++ (vx_atS RX3 36 "java/lang/IllegalArgumentException" ["java/lang/RuntimeException", "java/lang/Exception"]).filter goodWord)
def wsL_between_r1 : List Cond := [Cond.classLink RL 13 "java/lang/IllegalArgumentException", Cond.methodLink RL 19 yX3_between, Cond.instanceMethod yX3_between, Cond.selects RX3 yX3_between yX3_between, Cond.initialized RX3, Cond.code yX3_between cX3_between 5 (some .int), Cond.classLink RX3 32 "java/lang/IllegalArgumentException", Cond.initialized "java/lang/IllegalArgumentException", Cond.fieldLink RX3 10 "SternDesk" "hand" "LSternDesk$Expansion;", Cond.methodLink RX3 28 yX3_isWithin, Cond.static yX3_isWithin, Cond.code yX3_isWithin cX3_isWithin 3 (some .boolean), Cond.methodLink RX3 107 yX0_expandSimplest, Cond.instanceMethod yX0_expandSimplest, Cond.selects RX0 yX0_expandSimplest yX0_expandSimplest, Cond.initialized RX0, Cond.code yX0_expandSimplest cX0_expandSimplest 10 none, Cond.methodLink RX0 38 yX0_startAnew, Cond.instanceMethod yX0_startAnew, Cond.selects RX0 yX0_startAnew yX0_startAnew, Cond.code yX0_startAnew cX0_startAnew 1 none, Cond.fieldLink RX0 21 "SternDesk$Expansion" "count" "I", Cond.fieldLink RX0 15 "SternDesk$Expansion" "tops" "[I", Cond.fieldLink RX0 18 "SternDesk$Expansion" "bottoms" "[I"]
def wsL_between_r2 : List Cond := [Cond.methodLink RX0 41 yX0_addTerm, Cond.instanceMethod yX0_addTerm, Cond.selects RX0 yX0_addTerm yX0_addTerm, Cond.code yX0_addTerm cX0_addTerm 4 none, Cond.fieldLink RX0 9 "SternDesk$Expansion" "quotients" "[I", Cond.methodLink RX0 25 yX0_top, Cond.instanceMethod yX0_top, Cond.selects RX0 yX0_top yX0_top, Cond.code yX0_top cX0_top 1 (some .int), Cond.methodLink RX0 29 yX0_topBefore, Cond.instanceMethod yX0_topBefore, Cond.selects RX0 yX0_topBefore yX0_topBefore, Cond.code yX0_topBefore cX0_topBefore 1 (some .int), Cond.methodLink RX0 32 yX0_bottom, Cond.instanceMethod yX0_bottom, Cond.selects RX0 yX0_bottom yX0_bottom, Cond.code yX0_bottom cX0_bottom 1 (some .int), Cond.methodLink RX0 35 yX0_bottomBefore, Cond.instanceMethod yX0_bottomBefore, Cond.selects RX0 yX0_bottomBefore yX0_bottomBefore, Cond.code yX0_bottomBefore cX0_bottomBefore 1 (some .int)]
def wsL_between : List Cond := .codeWith yL_between cL_between 7 (some .int) [(0, 14, 17, 13)] :: ((wsL_between_r1 ++ wsL_between_r2) ++ wsX30 ++ wsX00 ++ (vx_atS RX3 36 "java/lang/IllegalArgumentException" ["java/lang/RuntimeException", "java/lang/Exception"]).filter goodWord)
def wsL_law0_r1 : List Cond := [Cond.classLink RL 8 RX3, Cond.instantiable RX3 2, Cond.initialized RX3, Cond.classLink RL 24 RX4, Cond.instantiable RX4 11, Cond.initialized RX4, Cond.arrayClass .long, Cond.methodLink RL 23 yX3_init, Cond.instanceMethod yX3_init, Cond.code yX3_init cX3_init 1 none, Cond.methodLink RX3 1 objectInit, Cond.instanceMethod objectInit, Cond.code objectInit ⟨#[0xb1]⟩ 1 none, Cond.classLink RX3 7 RX0, Cond.instantiable RX0 4, Cond.initialized RX0, Cond.fieldLink RX3 10 "SternDesk" "hand" "LSternDesk$Expansion;", Cond.classLink RX3 16 RX2, Cond.instantiable RX2 1, Cond.initialized RX2, Cond.fieldLink RX3 19 "SternDesk" "rows" "LSternDesk$Rows;", Cond.instanceMethod yX0_init, Cond.code yX0_init cX0_init 1 none, Cond.methodLink RX0 3 objectInit]
def wsL_law0_r2 : List Cond := [Cond.arrayClass .int, Cond.fieldLink RX0 9 "SternDesk$Expansion" "quotients" "[I", Cond.fieldLink RX0 15 "SternDesk$Expansion" "tops" "[I", Cond.fieldLink RX0 18 "SternDesk$Expansion" "bottoms" "[I", Cond.methodLink RX3 18 yX2_init, Cond.instanceMethod yX2_init, Cond.code yX2_init cX2_init 3 none, Cond.methodLink RX2 3 objectInit, Cond.fieldLink RX2 9 "SternDesk$Rows" "moebiusSums" "[I", Cond.methodLink RX3 23 yX0_expand, Cond.instanceMethod yX0_expand, Cond.selects RX0 yX0_expand yX0_expand, Cond.code yX0_expand cX0_expand 8 none, Cond.methodLink RX0 38 yX0_startAnew, Cond.instanceMethod yX0_startAnew, Cond.selects RX0 yX0_startAnew yX0_startAnew, Cond.code yX0_startAnew cX0_startAnew 1 none, Cond.fieldLink RX0 21 "SternDesk$Expansion" "count" "I", Cond.methodLink RX0 41 yX0_addTerm, Cond.instanceMethod yX0_addTerm, Cond.selects RX0 yX0_addTerm yX0_addTerm, Cond.code yX0_addTerm cX0_addTerm 4 none, Cond.methodLink RX0 25 yX0_top, Cond.instanceMethod yX0_top]
def wsL_law0_r3 : List Cond := [Cond.selects RX0 yX0_top yX0_top, Cond.code yX0_top cX0_top 1 (some .int), Cond.methodLink RX0 29 yX0_topBefore, Cond.instanceMethod yX0_topBefore, Cond.selects RX0 yX0_topBefore yX0_topBefore, Cond.code yX0_topBefore cX0_topBefore 1 (some .int), Cond.methodLink RX0 32 yX0_bottom, Cond.instanceMethod yX0_bottom, Cond.selects RX0 yX0_bottom yX0_bottom, Cond.code yX0_bottom cX0_bottom 1 (some .int), Cond.methodLink RX0 35 yX0_bottomBefore, Cond.instanceMethod yX0_bottomBefore, Cond.selects RX0 yX0_bottomBefore yX0_bottomBefore, Cond.code yX0_bottomBefore cX0_bottomBefore 1 (some .int), Cond.methodLink RL 26 yX4_init, Cond.instanceMethod yX4_init, Cond.code yX4_init cX4_init 1 none, Cond.methodLink RX4 1 objectInit, Cond.fieldLink RX4 7 "SternDeskModel" "top" "I", Cond.fieldLink RX4 13 "SternDeskModel" "bottom" "I", Cond.fieldLink RX4 16 "SternDeskModel" "terms" "[I", Cond.fieldLink RX4 20 "SternDeskModel" "run" "[I", Cond.methodLink RL 27 yL_take, Cond.static yL_take]
def wsL_law0_r4 : List Cond := [Cond.initialized RL, Cond.codeWith yL_take cL_take 4 (some .int) [(0, 6, 9, 13)], Cond.classLink RL 13 "java/lang/IllegalArgumentException", Cond.methodLink RL 7 yX3_take, Cond.instanceMethod yX3_take, Cond.selects RX3 yX3_take yX3_take, Cond.code yX3_take cX3_take 3 none, Cond.classLink RX3 32 "java/lang/IllegalArgumentException", Cond.initialized "java/lang/IllegalArgumentException", Cond.constant RX3 27 (100000), Cond.methodLink RX3 28 yX3_isWithin, Cond.static yX3_isWithin, Cond.code yX3_isWithin cX3_isWithin 3 (some .boolean), Cond.methodLink RL 32 yX4_take, Cond.instanceMethod yX4_take, Cond.selects RX4 yX4_take yX4_take, Cond.code yX4_take cX4_take 3 none, Cond.constantLong RX4 30 (100000), Cond.fieldLink RX4 23 "SternDeskModel" "thrown" "I", Cond.methodLink RX4 32 yX4_in, Cond.static yX4_in, Cond.code yX4_in cX4_in 6 (some .boolean), Cond.methodLink RX4 36 yX4_become, Cond.instanceMethod yX4_become]
def wsL_law0_r5 : List Cond := [Cond.selects RX4 yX4_become yX4_become, Cond.code yX4_become cX4_become 7 none, Cond.methodLink RX4 26 yX4_common, Cond.static yX4_common, Cond.code yX4_common cX4_common 10 (some .long), Cond.methodLink RL 33 yX4_thrown, Cond.instanceMethod yX4_thrown, Cond.selects RX4 yX4_thrown yX4_thrown, Cond.code yX4_thrown cX4_thrown 1 (some .int), Cond.methodLink RL 37 yX3_part, Cond.instanceMethod yX3_part, Cond.selects RX3 yX3_part yX3_part, Cond.code yX3_part cX3_part 2 (some .int), Cond.methodLink RX3 39 yX0_top, Cond.methodLink RX3 43 yX0_bottom, Cond.methodLink RX3 46 yX3_topOrBottom, Cond.static yX3_topOrBottom, Cond.code yX3_topOrBottom cX3_topOrBottom 3 (some .int), Cond.methodLink RL 41 yX4_part, Cond.instanceMethod yX4_part, Cond.selects RX4 yX4_part yX4_part, Cond.code yX4_part cX4_part 2 (some .int), Cond.methodLink RL 42 yX3_terms, Cond.instanceMethod yX3_terms]
def wsL_law0_r6 : List Cond := [Cond.selects RX3 yX3_terms yX3_terms, Cond.code yX3_terms cX3_terms 1 (some .int), Cond.fieldLink RX3 50 "SternDesk$Expansion" "count" "I", Cond.methodLink RL 45 yX4_terms, Cond.instanceMethod yX4_terms, Cond.selects RX4 yX4_terms yX4_terms, Cond.code yX4_terms cX4_terms 1 (some .int), Cond.fieldLink RX4 40 "SternDeskModel" "many" "I", Cond.methodLink RX4 43 yX4_findTerms, Cond.instanceMethod yX4_findTerms, Cond.selects RX4 yX4_findTerms yX4_findTerms, Cond.code yX4_findTerms cX4_findTerms 4 none, Cond.methodLink RL 46 yX3_term, Cond.instanceMethod yX3_term, Cond.selects RX3 yX3_term yX3_term, Cond.code yX3_term cX3_term 2 (some .int), Cond.fieldLink RX3 58 "SternDesk$Expansion" "quotients" "[I", Cond.methodLink RX3 54 yX3_isTerm, Cond.instanceMethod yX3_isTerm, Cond.selects RX3 yX3_isTerm yX3_isTerm, Cond.code yX3_isTerm cX3_isTerm 2 (some .boolean), Cond.methodLink RL 49 yX4_term, Cond.instanceMethod yX4_term, Cond.selects RX4 yX4_term yX4_term]
def wsL_law0_r7 : List Cond := [Cond.code yX4_term cX4_term 2 (some .int), Cond.methodLink RL 50 yX3_convergent, Cond.instanceMethod yX3_convergent, Cond.selects RX3 yX3_convergent yX3_convergent, Cond.code yX3_convergent cX3_convergent 3 (some .int), Cond.fieldLink RX3 62 "SternDesk$Expansion" "tops" "[I", Cond.fieldLink RX3 65 "SternDesk$Expansion" "bottoms" "[I", Cond.methodLink RL 54 yX4_convergent, Cond.instanceMethod yX4_convergent, Cond.selects RX4 yX4_convergent yX4_convergent, Cond.code yX4_convergent cX4_convergent 10 (some .int), Cond.methodLink RL 55 yX3_way, Cond.instanceMethod yX3_way, Cond.selects RX3 yX3_way yX3_way, Cond.code yX3_way cX3_way 2 (some .int), Cond.methodLink RX3 68 yX0_countSteps, Cond.instanceMethod yX0_countSteps, Cond.selects RX0 yX0_countSteps yX0_countSteps, Cond.code yX0_countSteps cX0_countSteps 3 (some .int), Cond.methodLink RX3 71 yX0_countRuns, Cond.instanceMethod yX0_countRuns, Cond.selects RX0 yX0_countRuns yX0_countRuns, Cond.code yX0_countRuns cX0_countRuns 1 (some .int), Cond.methodLink RX0 45 yX0_firstTermWithSteps]
def wsL_law0_r8 : List Cond := [Cond.instanceMethod yX0_firstTermWithSteps, Cond.selects RX0 yX0_firstTermWithSteps yX0_firstTermWithSteps, Cond.code yX0_firstTermWithSteps cX0_firstTermWithSteps 1 (some .int), Cond.methodLink RL 58 yX4_way, Cond.instanceMethod yX4_way, Cond.selects RX4 yX4_way yX4_way, Cond.code yX4_way cX4_way 4 (some .int), Cond.fieldLink RX4 46 "SternDeskModel" "runs" "I", Cond.methodLink RX4 65 yX4_walk, Cond.instanceMethod yX4_walk, Cond.selects RX4 yX4_walk yX4_walk, Cond.code yX4_walk cX4_walk 10 none, Cond.fieldLink RX4 49 "SternDeskModel" "lowTop" "J", Cond.fieldLink RX4 53 "SternDeskModel" "lowBottom" "J", Cond.fieldLink RX4 56 "SternDeskModel" "highTop" "J", Cond.fieldLink RX4 59 "SternDeskModel" "highBottom" "J", Cond.methodLink RX4 62 yX4_steps, Cond.static yX4_steps, Cond.code yX4_steps cX4_steps 4 (some .long), Cond.methodLink RL 59 yX3_run, Cond.instanceMethod yX3_run, Cond.selects RX3 yX3_run yX3_run, Cond.code yX3_run cX3_run 2 (some .int), Cond.methodLink RX3 74 yX0_stepsOfRun]
def wsL_law0_r9 : List Cond := [Cond.instanceMethod yX0_stepsOfRun, Cond.selects RX0 yX0_stepsOfRun yX0_stepsOfRun, Cond.code yX0_stepsOfRun cX0_stepsOfRun 4 (some .int), Cond.methodLink RL 62 yX4_run, Cond.instanceMethod yX4_run, Cond.selects RX4 yX4_run yX4_run, Cond.code yX4_run cX4_run 2 (some .int), Cond.methodLink RL 63 yX3_go, Cond.instanceMethod yX3_go, Cond.selects RX3 yX3_go yX3_go, Cond.code yX3_go cX3_go 8 (some .int), Cond.fieldLink RX3 82 "SternDesk$Fraction" "top" "I", Cond.fieldLink RX3 86 "SternDesk$Fraction" "bottom" "I", Cond.constantLong RX3 88 (100000), Cond.methodLink RX3 78 yX0_neighbourAt, Cond.instanceMethod yX0_neighbourAt, Cond.selects RX0 yX0_neighbourAt yX0_neighbourAt, Cond.code yX0_neighbourAt cX0_neighbourAt 2 (some (.object "SternDesk$Fraction")), Cond.classLink RX0 48 RX1, Cond.instantiable RX1 2, Cond.initialized RX1, Cond.methodLink RX0 50 yX1_init, Cond.instanceMethod yX1_init, Cond.code yX1_init cX1_init 3 none]
def wsL_law0_r10 : List Cond := [Cond.methodLink RX1 1 objectInit, Cond.fieldLink RX1 7 "SternDesk$Fraction" "top" "I", Cond.fieldLink RX1 13 "SternDesk$Fraction" "bottom" "I", Cond.methodLink RL 66 yX4_go, Cond.instanceMethod yX4_go, Cond.selects RX4 yX4_go yX4_go, Cond.code yX4_go cX4_go 7 (some .int), Cond.methodLink RL 67 yX3_up, Cond.instanceMethod yX3_up, Cond.selects RX3 yX3_up yX3_up, Cond.code yX3_up cX3_up 1 (some .int), Cond.methodLink RX3 90 yX0_topBefore, Cond.methodLink RX3 93 yX0_bottomBefore, Cond.methodLink RL 70 yX4_up, Cond.instanceMethod yX4_up, Cond.selects RX4 yX4_up yX4_up, Cond.code yX4_up cX4_up 2 (some .int), Cond.methodLink RL 71 yL_near, Cond.static yL_near, Cond.codeWith yL_near cL_near 6 (some .int) [(0, 12, 15, 13)], Cond.methodLink RL 15 yX3_near, Cond.instanceMethod yX3_near, Cond.selects RX3 yX3_near yX3_near, Cond.code yX3_near cX3_near 5 (some .int)]
def wsL_law0_r11 : List Cond := [Cond.methodLink RX3 98 yX3_part, Cond.methodLink RX3 101 yX0_nearWithin, Cond.instanceMethod yX0_nearWithin, Cond.selects RX0 yX0_nearWithin yX0_nearWithin, Cond.code yX0_nearWithin cX0_nearWithin 10 (some (.object "SternDesk$Fraction")), Cond.fieldLink RX0 57 "SternDesk$Fraction" "bottom" "I", Cond.fieldLink RX0 59 "SternDesk$Fraction" "top" "I", Cond.methodLink RX0 53 yX0_lastWithin, Cond.instanceMethod yX0_lastWithin, Cond.selects RX0 yX0_lastWithin yX0_lastWithin, Cond.code yX0_lastWithin cX0_lastWithin 4 (some .int), Cond.methodLink RX0 61 yX0_isLowerNearer, Cond.instanceMethod yX0_isLowerNearer, Cond.selects RX0 yX0_isLowerNearer yX0_isLowerNearer, Cond.code yX0_isLowerNearer cX0_isLowerNearer 7 (some .boolean), Cond.methodLink RL 74 yX4_near, Cond.instanceMethod yX4_near, Cond.selects RX4 yX4_near yX4_near, Cond.code yX4_near cX4_near 18 (some .int), Cond.constantLong RX4 68 (1000), Cond.constantLong RX4 70 (2), Cond.methodLink RL 75 yL_between, Cond.static yL_between, Cond.codeWith yL_between cL_between 7 (some .int) [(0, 14, 17, 13)]]
def wsL_law0_r12 : List Cond := [Cond.methodLink RL 19 yX3_between, Cond.instanceMethod yX3_between, Cond.selects RX3 yX3_between yX3_between, Cond.code yX3_between cX3_between 5 (some .int), Cond.methodLink RX3 107 yX0_expandSimplest, Cond.instanceMethod yX0_expandSimplest, Cond.selects RX0 yX0_expandSimplest yX0_expandSimplest, Cond.code yX0_expandSimplest cX0_expandSimplest 10 none, Cond.methodLink RL 78 yX4_between, Cond.instanceMethod yX4_between, Cond.selects RX4 yX4_between yX4_between, Cond.code yX4_between cX4_between 7 (some .int), Cond.constantLong RX4 72 (5000), Cond.methodLink RL 79 yX3_row, Cond.instanceMethod yX3_row, Cond.selects RX3 yX3_row yX3_row, Cond.code yX3_row cX3_row 2 (some .int), Cond.methodLink RX3 111 yX2_countAll, Cond.instanceMethod yX2_countAll, Cond.selects RX2 yX2_countAll yX2_countAll, Cond.code yX2_countAll cX2_countAll 2 (some .int), Cond.methodLink RX2 15 yX2_countInside, Cond.instanceMethod yX2_countInside, Cond.selects RX2 yX2_countInside yX2_countInside]
def wsL_law0_r13 : List Cond := [Cond.code yX2_countInside cX2_countInside 10 (some .int), Cond.static yX3_sumOfFloors, Cond.code yX3_sumOfFloors cX3_sumOfFloors 15 (some .long), Cond.constantLong RX3 132 (2), Cond.methodLink RL 82 yX4_row, Cond.instanceMethod yX4_row, Cond.selects RX4 yX4_row yX4_row, Cond.code yX4_row cX4_row 5 (some .int), Cond.constantLong RX4 74 (200), Cond.methodLink RL 83 yX3_pick, Cond.instanceMethod yX3_pick, Cond.selects RX3 yX3_pick yX3_pick, Cond.code yX3_pick cX3_pick 4 (some .int), Cond.methodLink RX3 114 yX2_columnOf, Cond.instanceMethod yX2_columnOf, Cond.selects RX2 yX2_columnOf yX2_columnOf, Cond.code yX2_columnOf cX2_columnOf 7 (some .int), Cond.methodLink RX2 27 yX2_countBelow, Cond.instanceMethod yX2_countBelow, Cond.selects RX2 yX2_countBelow yX2_countBelow, Cond.code yX2_countBelow cX2_countBelow 4 (some .int), Cond.methodLink RX2 19 yX2_countAll, Cond.methodLink RX3 118 yX2_countBelow, Cond.methodLink RX3 121 yX3_stepOn]
def wsL_law0_r14 : List Cond := [Cond.instanceMethod yX3_stepOn, Cond.selects RX3 yX3_stepOn yX3_stepOn, Cond.code yX3_stepOn cX3_stepOn 11 none, Cond.methodLink RX3 144 yX2_bottomBehind, Cond.static yX2_bottomBehind, Cond.code yX2_bottomBehind cX2_bottomBehind 4 (some .int), Cond.methodLink RL 86 yX4_pick, Cond.instanceMethod yX4_pick, Cond.selects RX4 yX4_pick yX4_pick, Cond.code yX4_pick cX4_pick 12 (some .int), Cond.methodLink RX4 76 yX4_row, Cond.methodLink RL 87 yX3_place, Cond.instanceMethod yX3_place, Cond.selects RX3 yX3_place yX3_place, Cond.code yX3_place cX3_place 2 (some .int), Cond.methodLink RL 90 yX4_place, Cond.instanceMethod yX4_place, Cond.selects RX4 yX4_place yX4_place, Cond.code yX4_place cX4_place 5 (some .int), Cond.methodLink RL 91 yX3_floors, Cond.instanceMethod yX3_floors, Cond.selects RX3 yX3_floors yX3_floors, Cond.code yX3_floors cX3_floors 2 (some .long), Cond.constantLong RX3 128 (-1)]
def wsL_law0_r15 : List Cond := [Cond.methodLink RX3 124 yX3_sumOfFloors, Cond.methodLink RL 95 yX4_floors, Cond.instanceMethod yX4_floors, Cond.selects RX4 yX4_floors yX4_floors, Cond.code yX4_floors cX4_floors 6 (some .long), Cond.constantLong RX4 80 (-1), Cond.methodLink RL 96 yX3_sawteeth, Cond.instanceMethod yX3_sawteeth, Cond.selects RX3 yX3_sawteeth yX3_sawteeth, Cond.code yX3_sawteeth cX3_sawteeth 12 (some .long), Cond.constantLong RX3 130 (3), Cond.methodLink RL 100 yX4_sawteeth, Cond.instanceMethod yX4_sawteeth, Cond.selects RX4 yX4_sawteeth yX4_sawteeth, Cond.code yX4_sawteeth cX4_sawteeth 7 (some .long), Cond.constantLong RX4 82 (3), Cond.methodLink RL 101 yX3_check, Cond.instanceMethod yX3_check, Cond.selects RX3 yX3_check yX3_check, Cond.code yX3_check cX3_check 1 (some .int), Cond.methodLink RX3 134 yX0_termsMakeIt, Cond.instanceMethod yX0_termsMakeIt, Cond.selects RX0 yX0_termsMakeIt yX0_termsMakeIt, Cond.code yX0_termsMakeIt cX0_termsMakeIt 8 (some .boolean)]
def wsL_law0_r16 : List Cond := [Cond.methodLink RX3 138 yX0_convergentsAreClose, Cond.instanceMethod yX0_convergentsAreClose, Cond.selects RX0 yX0_convergentsAreClose yX0_convergentsAreClose, Cond.code yX0_convergentsAreClose cX0_convergentsAreClose 4 (some .boolean), Cond.constantLong RX0 65 (-1), Cond.methodLink RX3 141 yX0_wayLeadsToIt, Cond.instanceMethod yX0_wayLeadsToIt, Cond.selects RX0 yX0_wayLeadsToIt yX0_wayLeadsToIt, Cond.code yX0_wayLeadsToIt cX0_wayLeadsToIt 12 (some .boolean), Cond.methodLink RX0 67 yX0_countRuns, Cond.methodLink RX0 70 yX0_stepsOfRun, Cond.methodLink RL 104 yX4_check, Cond.instanceMethod yX4_check, Cond.selects RX4 yX4_check yX4_check, Cond.code yX4_check cX4_check 1 (some .int)]
def wsL_law0 : List Cond := (wsL_law0_r1 ++ (wsL_law0_r2 ++ (wsL_law0_r3 ++ (wsL_law0_r4 ++ (wsL_law0_r5 ++ (wsL_law0_r6 ++ (wsL_law0_r7 ++ (wsL_law0_r8 ++ (wsL_law0_r9 ++ (wsL_law0_r10 ++ (wsL_law0_r11 ++ (wsL_law0_r12 ++ (wsL_law0_r13 ++ (wsL_law0_r14 ++ (wsL_law0_r15 ++ wsL_law0_r16))))))))))))))) ++ wsX30 ++ wsX40 ++ wsX00 ++ wsX20 ++ wsX10 ++ ([] : List Cond)
def wsL_law : List Cond := wsL_law0 ++ (vx_atS RX3 36 "java/lang/IllegalArgumentException" ["java/lang/RuntimeException", "java/lang/Exception"]).filter goodWord
set_option maxRecDepth 20000 in
theorem wsL_law_in0 : ∀ w ∈ wsL_law0, w ∈ lw_tbl := fun w h => (goodIn_p wsL_law0 [21, 24, 29, 53, 62, 66, 70, 74, 78, 82, 86, 361, 257, 149, 404, 408, 412, 415, 400, 97, 102, 419, 106, 423, 427, 110, 114, 431, 118, 435, 122, 126, 130, 134, 439, 443, 446, 138, 142, 450, 146, 154, 159, 454, 176, 458, 330, 336, 340, 344, 462, 351, 356, 468, 182, 186, 190, 193, 473, 198, 202, 206, 212, 215, 478, 219, 483, 223, 487, 229, 492, 234, 238, 242, 247, 497] (by decide +kernel) (by decide +kernel) w h).1
theorem wsL_law_x0 : ∀ w ∈ (vx_atS RX3 36 "java/lang/IllegalArgumentException" ["java/lang/RuntimeException", "java/lang/Exception"]).filter goodWord, w ∈ lw_tbl := by decide +kernel
theorem wsL_law_in : ∀ w ∈ wsL_law, w ∈ lw_tbl := fun w h => (List.mem_append.mp h).elim (fun h => wsL_law_in0 w h) (fun h => wsL_law_x0 w h)
theorem inlX0 : ∀ w ∈ wsX00, w ∈ wsL_law := fun _ h => List.mem_append_left _ (List.mem_append_left _ (List.mem_append_left _ (List.mem_append_left _ (List.mem_append_right _ h))))
theorem inX0 : ∀ w ∈ wsX00, w ∈ lw_tbl := fun w h => wsL_law_in w (inlX0 w h)
theorem inlX1 : ∀ w ∈ wsX10, w ∈ wsL_law := fun _ h => List.mem_append_left _ (List.mem_append_left _ (List.mem_append_right _ h))
theorem inX1 : ∀ w ∈ wsX10, w ∈ lw_tbl := fun w h => wsL_law_in w (inlX1 w h)
theorem inlX2 : ∀ w ∈ wsX20, w ∈ wsL_law := fun _ h => List.mem_append_left _ (List.mem_append_left _ (List.mem_append_left _ (List.mem_append_right _ h)))
theorem inX2 : ∀ w ∈ wsX20, w ∈ lw_tbl := fun w h => wsL_law_in w (inlX2 w h)
theorem inlX3 : ∀ w ∈ wsX30, w ∈ wsL_law := fun _ h => List.mem_append_left _ (List.mem_append_left _ (List.mem_append_left _ (List.mem_append_left _ (List.mem_append_left _ (List.mem_append_left _ (List.mem_append_right _ h))))))
theorem inX3 : ∀ w ∈ wsX30, w ∈ lw_tbl := fun w h => wsL_law_in w (inlX3 w h)
theorem inlX4 : ∀ w ∈ wsX40, w ∈ wsL_law := fun _ h => List.mem_append_left _ (List.mem_append_left _ (List.mem_append_left _ (List.mem_append_left _ (List.mem_append_left _ (List.mem_append_right _ h)))))
theorem inX4 : ∀ w ∈ wsX40, w ∈ lw_tbl := fun w h => wsL_law_in w (inlX4 w h)
theorem inJ0 : ∀ w ∈ wsJ00, w ∈ lw_tbl := by decide +kernel
set_option maxRecDepth 20000 in
theorem ggX3_take_X3_isWithin : GoodIn wsX3_take wsX3_isWithin := goodIn_r _ [8] (by decide +kernel) (by decide +kernel)
set_option maxRecDepth 20000 in
theorem gX3_take_X3_isWithin : GoodIn wsX3_take (va_wsS RX3 28 yX3_isWithin wsX3_isWithin) := goodIn_app (goodIn_of _ (by decide +kernel)) ggX3_take_X3_isWithin
set_option maxRecDepth 20000 in
theorem ggX3_take_X0_expand : GoodIn wsX3_take wsX0_expand := goodIn_r _ [13, 14, 15, 16, 12, 17, 18, 19, 20, 21, 22, 23, 24, 25, 26, 27, 28, 29, 30, 31, 32, 33, 34, 35, 36, 37, 38, 39, 40, 41, 44, 45, 46, 47] (by decide +kernel) (by decide +kernel)
set_option maxRecDepth 20000 in
theorem gX3_take_X0_expand : GoodIn wsX3_take (wsV RX3 23 RX0 yX0_expand wsX0_expand) := goodIn_app (goodIn_of _ (by decide +kernel)) ggX3_take_X0_expand
set_option maxRecDepth 20000 in
theorem ggX3_near_X3_isWithin : GoodIn wsX3_near wsX3_isWithin := goodIn_r _ [9] (by decide +kernel) (by decide +kernel)
set_option maxRecDepth 20000 in
theorem gX3_near_X3_isWithin : GoodIn wsX3_near (va_wsS RX3 28 yX3_isWithin wsX3_isWithin) := goodIn_app (goodIn_of _ (by decide +kernel)) ggX3_near_X3_isWithin
set_option maxRecDepth 20000 in
theorem ggX3_near_X0_bottom : GoodIn wsX3_near wsX0_bottom := goodIn_r _ [14, 15, 16, 60, 61, 62, 63] (by decide +kernel) (by decide +kernel)
set_option maxRecDepth 20000 in
theorem gX3_near_X0_bottom : GoodIn wsX3_near (wsV RX3 43 RX0 yX0_bottom wsX0_bottom) := goodIn_app (goodIn_of _ (by decide +kernel)) ggX3_near_X0_bottom
set_option maxRecDepth 20000 in
theorem ggX3_near_X3_part : GoodIn wsX3_near wsX3_part := goodIn_r _ [20, 3, 21, 22, 23, 13, 24, 25, 16, 10, 11, 12, 14, 15, 26, 27, 8, 28, 56, 57, 60, 61, 62, 63] (by decide +kernel) (by decide +kernel)
set_option maxRecDepth 20000 in
theorem gX3_near_X3_part : GoodIn wsX3_near (wsV RX3 98 RX3 yX3_part wsX3_part) := goodIn_app (goodIn_of _ (by decide +kernel)) ggX3_near_X3_part
set_option maxRecDepth 20000 in
theorem ggX3_near_X0_nearWithin : GoodIn wsX3_near wsX0_nearWithin := goodIn_r _ [32, 33, 34, 35, 25, 15, 36, 37, 38, 39, 40, 13, 41, 16, 42, 43, 44, 45, 46, 47, 48, 49, 50, 51, 52, 53, 54, 22, 23, 24, 55, 11, 12, 14, 58, 59, 60, 61, 62, 63] (by decide +kernel) (by decide +kernel)
set_option maxRecDepth 20000 in
theorem gX3_near_X0_nearWithin : GoodIn wsX3_near (wsV RX3 101 RX0 yX0_nearWithin wsX0_nearWithin) := goodIn_app (goodIn_of _ (by decide +kernel)) ggX3_near_X0_nearWithin
set_option maxRecDepth 20000 in
theorem ggX3_near_X3_topOrBottom : GoodIn wsX3_near wsX3_topOrBottom := goodIn_r _ [28] (by decide +kernel) (by decide +kernel)
set_option maxRecDepth 20000 in
theorem gX3_near_X3_topOrBottom : GoodIn wsX3_near (va_wsS RX3 46 yX3_topOrBottom wsX3_topOrBottom) := goodIn_app (goodIn_of _ (by decide +kernel)) ggX3_near_X3_topOrBottom
set_option maxRecDepth 20000 in
theorem ggX3_between_X3_isWithin : GoodIn wsX3_between wsX3_isWithin := goodIn_r _ [7] (by decide +kernel) (by decide +kernel)
set_option maxRecDepth 20000 in
theorem gX3_between_X3_isWithin : GoodIn wsX3_between (va_wsS RX3 28 yX3_isWithin wsX3_isWithin) := goodIn_app (goodIn_of _ (by decide +kernel)) ggX3_between_X3_isWithin
set_option maxRecDepth 20000 in
theorem ggX3_between_X0_expandSimplest : GoodIn wsX3_between wsX0_expandSimplest := goodIn_r _ [12, 13, 14, 15, 11, 16, 17, 18, 19, 20, 21, 22, 23, 24, 25, 26, 27, 28, 29, 30, 31, 32, 33, 34, 35, 36, 37, 38, 39, 40, 43, 44, 45, 46] (by decide +kernel) (by decide +kernel)
set_option maxRecDepth 20000 in
theorem gX3_between_X0_expandSimplest : GoodIn wsX3_between (wsV RX3 107 RX0 yX0_expandSimplest wsX0_expandSimplest) := goodIn_app (goodIn_of _ (by decide +kernel)) ggX3_between_X0_expandSimplest
set_option maxRecDepth 20000 in
theorem ggL_take_X3_take : GoodIn wsL_take wsX3_take := goodIn_ca (goodIn_r _ [6, 7, 8, 9, 10, 11, 12, 5, 13, 14, 15, 16, 17, 18, 19, 20, 21, 22, 23, 24, 25, 26, 27, 28, 29, 30, 31, 32, 33, 34, 35, 36, 37, 38, 39, 40, 41, 42, 43, 44, 45, 46, 47, 48, 49, 50, 51, 52] (by decide +kernel) (by decide +kernel)) (goodIn_sub (fun _ h => List.mem_cons_of_mem _ (List.mem_append_right _ h)) (by decide +kernel))
set_option maxRecDepth 20000 in
theorem gL_take_X3_take : GoodIn wsL_take (wsV RL 7 RX3 yX3_take wsX3_take) := goodIn_app (goodIn_of _ (by decide +kernel)) ggL_take_X3_take
theorem dL_take_0 : decode cL_take 0 = .ok (.aload_n 0, 1) := by decide +kernel
theorem dL_take_1 : decode cL_take 1 = .ok (.iload_n 1, 1) := by decide +kernel
theorem dL_take_2 : decode cL_take 2 = .ok (.iload_n 2, 1) := by decide +kernel
theorem dL_take_3 : decode cL_take 3 = .ok (.invokevirtual 7, 3) := by decide +kernel
theorem dL_take_6 : decode cL_take 6 = .ok (.goto 6, 3) := by decide +kernel
theorem dL_take_9 : decode cL_take 9 = .ok (.astore_n 3, 1) := by decide +kernel
theorem dL_take_10 : decode cL_take 10 = .ok (.iconst 1, 1) := by decide +kernel
theorem dL_take_11 : decode cL_take 11 = .ok (.ireturn, 1) := by decide +kernel
theorem dL_take_12 : decode cL_take 12 = .ok (.iconst 0, 1) := by decide +kernel
theorem dL_take_13 : decode cL_take 13 = .ok (.ireturn, 1) := by decide +kernel
set_option maxRecDepth 20000 in
theorem ggL_near_X3_near : GoodIn wsL_near wsX3_near := goodIn_ca (goodIn_r _ [6, 7, 8, 9, 10, 11, 12, 13, 5, 14, 15, 16, 17, 18, 19, 20, 21, 22, 23, 24, 25, 26, 27, 28, 29, 30, 31, 32, 33, 34, 35, 36, 37, 38, 39, 40, 41, 42, 43, 44, 45, 46, 47, 48, 49, 50, 51, 52, 53, 54, 55, 56, 57, 58, 59, 60, 61, 62, 63, 64, 65, 66, 67, 68] (by decide +kernel) (by decide +kernel)) (goodIn_sub (fun _ h => List.mem_cons_of_mem _ (List.mem_append_right _ h)) (by decide +kernel))
set_option maxRecDepth 20000 in
theorem gL_near_X3_near : GoodIn wsL_near (wsV RL 15 RX3 yX3_near wsX3_near) := goodIn_app (goodIn_of _ (by decide +kernel)) ggL_near_X3_near
theorem dL_near_0 : decode cL_near 0 = .ok (.aload 4, 2) := by decide +kernel
theorem dL_near_2 : decode cL_near 2 = .ok (.iconst 0, 1) := by decide +kernel
theorem dL_near_3 : decode cL_near 3 = .ok (.aload_n 0, 1) := by decide +kernel
theorem dL_near_4 : decode cL_near 4 = .ok (.iload_n 1, 1) := by decide +kernel
theorem dL_near_5 : decode cL_near 5 = .ok (.iload_n 2, 1) := by decide +kernel
theorem dL_near_6 : decode cL_near 6 = .ok (.iload_n 3, 1) := by decide +kernel
theorem dL_near_7 : decode cL_near 7 = .ok (.invokevirtual 15, 3) := by decide +kernel
theorem dL_near_10 : decode cL_near 10 = .ok (.i2l, 1) := by decide +kernel
theorem dL_near_11 : decode cL_near 11 = .ok (.lastore, 1) := by decide +kernel
theorem dL_near_12 : decode cL_near 12 = .ok (.goto 7, 3) := by decide +kernel
theorem dL_near_15 : decode cL_near 15 = .ok (.astore 5, 2) := by decide +kernel
theorem dL_near_17 : decode cL_near 17 = .ok (.iconst 1, 1) := by decide +kernel
theorem dL_near_18 : decode cL_near 18 = .ok (.ireturn, 1) := by decide +kernel
theorem dL_near_19 : decode cL_near 19 = .ok (.iconst 0, 1) := by decide +kernel
theorem dL_near_20 : decode cL_near 20 = .ok (.ireturn, 1) := by decide +kernel
set_option maxRecDepth 20000 in
theorem ggL_between_X3_between : GoodIn wsL_between wsX3_between := goodIn_ca (goodIn_r _ [6, 7, 8, 9, 10, 11, 5, 12, 13, 14, 15, 16, 17, 18, 19, 20, 21, 22, 23, 24, 25, 26, 27, 28, 29, 30, 31, 32, 33, 34, 35, 36, 37, 38, 39, 40, 41, 42, 43, 44, 45, 46, 47, 48, 49, 50, 51] (by decide +kernel) (by decide +kernel)) (goodIn_sub (fun _ h => List.mem_cons_of_mem _ (List.mem_append_right _ h)) (by decide +kernel))
set_option maxRecDepth 20000 in
theorem gL_between_X3_between : GoodIn wsL_between (wsV RL 19 RX3 yX3_between wsX3_between) := goodIn_app (goodIn_of _ (by decide +kernel)) ggL_between_X3_between
theorem dL_between_0 : decode cL_between 0 = .ok (.aload 5, 2) := by decide +kernel
theorem dL_between_2 : decode cL_between 2 = .ok (.iconst 0, 1) := by decide +kernel
theorem dL_between_3 : decode cL_between 3 = .ok (.aload_n 0, 1) := by decide +kernel
theorem dL_between_4 : decode cL_between 4 = .ok (.iload_n 1, 1) := by decide +kernel
theorem dL_between_5 : decode cL_between 5 = .ok (.iload_n 2, 1) := by decide +kernel
theorem dL_between_6 : decode cL_between 6 = .ok (.iload_n 3, 1) := by decide +kernel
theorem dL_between_7 : decode cL_between 7 = .ok (.iload 4, 2) := by decide +kernel
theorem dL_between_9 : decode cL_between 9 = .ok (.invokevirtual 19, 3) := by decide +kernel
theorem dL_between_12 : decode cL_between 12 = .ok (.i2l, 1) := by decide +kernel
theorem dL_between_13 : decode cL_between 13 = .ok (.lastore, 1) := by decide +kernel
theorem dL_between_14 : decode cL_between 14 = .ok (.goto 7, 3) := by decide +kernel
theorem dL_between_17 : decode cL_between 17 = .ok (.astore 6, 2) := by decide +kernel
theorem dL_between_19 : decode cL_between 19 = .ok (.iconst 1, 1) := by decide +kernel
theorem dL_between_20 : decode cL_between 20 = .ok (.ireturn, 1) := by decide +kernel
theorem dL_between_21 : decode cL_between 21 = .ok (.iconst 0, 1) := by decide +kernel
theorem dL_between_22 : decode cL_between 22 = .ok (.ireturn, 1) := by decide +kernel
set_option maxRecDepth 20000 in
theorem ggL_law_X3_init : GoodIn wsL_law wsX3_init := goodIn_r _ [9, 10, 11, 12, 13, 14, 15, 16, 17, 18, 19, 20, 21, 22, 23, 24, 25, 26, 27, 28, 29, 30, 31, 32, 33, 34, 35, 36, 37, 38, 39, 40, 41, 42, 43, 44, 45, 46, 47, 48, 49, 50, 51, 52, 53, 54, 55, 56, 57, 58, 59, 60, 61, 388, 389, 390, 391, 375, 376, 392] (by decide +kernel) (by decide +kernel)
set_option maxRecDepth 20000 in
theorem gL_law_X3_init : GoodIn wsL_law (wsX3_init) := ggL_law_X3_init
set_option maxRecDepth 20000 in
theorem ggL_law_X4_init : GoodIn wsL_law wsX4_init := goodIn_r _ [64, 65, 11, 12, 66, 67, 24, 68, 69, 377, 378, 379, 380, 381, 382, 383, 384, 385, 386, 387] (by decide +kernel) (by decide +kernel)
set_option maxRecDepth 20000 in
theorem gL_law_X4_init : GoodIn wsL_law (wsX4_init) := ggL_law_X4_init
set_option maxRecDepth 20000 in
theorem ggL_law_L_take : GoodIn wsL_law wsL_take := goodIn_ca (goodIn_r _ [73, 74, 75, 76, 77, 2, 78, 79, 80, 81, 16, 82, 83, 84, 33, 34, 35, 15, 36, 37, 38, 39, 40, 41, 26, 27, 42, 43, 44, 45, 25, 46, 47, 48, 49, 50, 51, 52, 53, 54, 55, 56, 57, 58, 59, 60, 61, 375, 376, 388, 389, 390, 391] (by decide +kernel) (by decide +kernel)) (goodIn_sub (fun _ h => List.mem_append_right _ h) (by decide +kernel))
set_option maxRecDepth 20000 in
theorem gL_law_L_take : GoodIn wsL_law (va_wsS RL 27 yL_take wsL_take) := goodIn_app (goodIn_of _ (by decide +kernel)) ggL_law_L_take
set_option maxRecDepth 20000 in
theorem ggL_law_X4_take : GoodIn wsL_law wsX4_take := goodIn_r _ [88, 89, 90, 91, 92, 5, 93, 94, 95, 96, 97, 66, 67, 98, 99, 100, 377, 378, 379, 380, 381, 382, 383, 384, 385, 386, 387] (by decide +kernel) (by decide +kernel)
set_option maxRecDepth 20000 in
theorem gL_law_X4_take : GoodIn wsL_law (wsV RL 32 RX4 yX4_take wsX4_take) := goodIn_app (goodIn_of _ (by decide +kernel)) ggL_law_X4_take
set_option maxRecDepth 20000 in
theorem ggL_law_X4_thrown : GoodIn wsL_law wsX4_thrown := goodIn_r _ [104, 90, 377, 378, 379, 380, 381, 382, 383, 384, 385, 386, 387] (by decide +kernel) (by decide +kernel)
set_option maxRecDepth 20000 in
theorem gL_law_X4_thrown : GoodIn wsL_law (wsV RL 33 RX4 yX4_thrown wsX4_thrown) := goodIn_app (goodIn_of _ (by decide +kernel)) ggL_law_X4_thrown
set_option maxRecDepth 20000 in
theorem ggL_law_X3_part : GoodIn wsL_law wsX3_part := goodIn_r _ [108, 16, 109, 47, 48, 15, 49, 26, 41, 110, 55, 56, 57, 27, 111, 112, 2, 113, 375, 376, 388, 389, 390, 391] (by decide +kernel) (by decide +kernel)
set_option maxRecDepth 20000 in
theorem gL_law_X3_part : GoodIn wsL_law (wsV RL 37 RX3 yX3_part wsX3_part) := goodIn_app (goodIn_of _ (by decide +kernel)) ggL_law_X3_part
set_option maxRecDepth 20000 in
theorem ggL_law_X4_part : GoodIn wsL_law wsX4_part := goodIn_r _ [117, 90, 66, 67, 377, 378, 379, 380, 381, 382, 383, 384, 385, 386, 387] (by decide +kernel) (by decide +kernel)
set_option maxRecDepth 20000 in
theorem gL_law_X4_part : GoodIn wsL_law (wsV RL 41 RX4 yX4_part wsX4_part) := goodIn_app (goodIn_of _ (by decide +kernel)) ggL_law_X4_part
set_option maxRecDepth 20000 in
theorem ggL_law_X3_terms : GoodIn wsL_law wsX3_terms := goodIn_r _ [121, 16, 122, 375, 376, 388, 389, 390, 391] (by decide +kernel) (by decide +kernel)
set_option maxRecDepth 20000 in
theorem gL_law_X3_terms : GoodIn wsL_law (wsV RL 42 RX3 yX3_terms wsX3_terms) := goodIn_app (goodIn_of _ (by decide +kernel)) ggL_law_X3_terms
set_option maxRecDepth 20000 in
theorem ggL_law_X4_terms : GoodIn wsL_law wsX4_terms := goodIn_r _ [126, 90, 127, 128, 129, 130, 5, 131, 66, 67, 68, 377, 378, 379, 380, 381, 382, 383, 384, 385, 386, 387] (by decide +kernel) (by decide +kernel)
set_option maxRecDepth 20000 in
theorem gL_law_X4_terms : GoodIn wsL_law (wsV RL 45 RX4 yX4_terms wsX4_terms) := goodIn_app (goodIn_of _ (by decide +kernel)) ggL_law_X4_terms
set_option maxRecDepth 20000 in
theorem ggL_law_X3_term : GoodIn wsL_law wsX3_term := goodIn_r _ [135, 16, 136, 137, 138, 139, 2, 140, 122, 375, 376, 388, 389, 390, 391] (by decide +kernel) (by decide +kernel)
set_option maxRecDepth 20000 in
theorem gL_law_X3_term : GoodIn wsL_law (wsV RL 46 RX3 yX3_term wsX3_term) := goodIn_app (goodIn_of _ (by decide +kernel)) ggL_law_X3_term
set_option maxRecDepth 20000 in
theorem ggL_law_X4_term : GoodIn wsL_law wsX4_term := goodIn_r _ [144, 90, 127, 68, 128, 129, 130, 5, 131, 66, 67, 377, 378, 379, 380, 381, 382, 383, 384, 385, 386, 387] (by decide +kernel) (by decide +kernel)
set_option maxRecDepth 20000 in
theorem gL_law_X4_term : GoodIn wsL_law (wsV RL 49 RX4 yX4_term wsX4_term) := goodIn_app (goodIn_of _ (by decide +kernel)) ggL_law_X4_term
set_option maxRecDepth 20000 in
theorem ggL_law_X3_convergent : GoodIn wsL_law wsX3_convergent := goodIn_r _ [148, 16, 149, 150, 137, 138, 139, 2, 140, 122, 111, 112, 113, 375, 376, 388, 389, 390, 391] (by decide +kernel) (by decide +kernel)
set_option maxRecDepth 20000 in
theorem gL_law_X3_convergent : GoodIn wsL_law (wsV RL 50 RX3 yX3_convergent wsX3_convergent) := goodIn_app (goodIn_of _ (by decide +kernel)) ggL_law_X3_convergent
set_option maxRecDepth 20000 in
theorem ggL_law_X4_convergent : GoodIn wsL_law wsX4_convergent := goodIn_r _ [154, 90, 127, 68, 128, 129, 130, 5, 131, 66, 67, 98, 99, 100, 377, 378, 379, 380, 381, 382, 383, 384, 385, 386, 387] (by decide +kernel) (by decide +kernel)
set_option maxRecDepth 20000 in
theorem gL_law_X4_convergent : GoodIn wsL_law (wsV RL 54 RX4 yX4_convergent wsX4_convergent) := goodIn_app (goodIn_of _ (by decide +kernel)) ggL_law_X4_convergent
set_option maxRecDepth 20000 in
theorem ggL_law_X3_way : GoodIn wsL_law wsX3_way := goodIn_r _ [158, 16, 109, 47, 48, 15, 49, 26, 41, 159, 160, 161, 162, 25, 163, 164, 165, 166, 46, 54, 55, 56, 57, 27, 167, 168, 169, 170, 111, 112, 2, 113, 375, 376, 388, 389, 390, 391] (by decide +kernel) (by decide +kernel)
set_option maxRecDepth 20000 in
theorem gL_law_X3_way : GoodIn wsL_law (wsV RL 55 RX3 yX3_way wsX3_way) := goodIn_app (goodIn_of _ (by decide +kernel)) ggL_law_X3_way
set_option maxRecDepth 20000 in
theorem ggL_law_X4_way : GoodIn wsL_law wsX4_way := goodIn_r _ [174, 90, 66, 175, 69, 176, 177, 178, 5, 179, 180, 181, 182, 183, 67, 184, 185, 186, 377, 378, 379, 380, 381, 382, 383, 384, 385, 386, 387] (by decide +kernel) (by decide +kernel)
set_option maxRecDepth 20000 in
theorem gL_law_X4_way : GoodIn wsL_law (wsV RL 58 RX4 yX4_way wsX4_way) := goodIn_app (goodIn_of _ (by decide +kernel)) ggL_law_X4_way
set_option maxRecDepth 20000 in
theorem ggL_law_X3_run : GoodIn wsL_law wsX3_run := goodIn_r _ [190, 16, 163, 164, 165, 15, 166, 41, 46, 47, 48, 49, 26, 54, 55, 56, 57, 27, 167, 168, 169, 170, 25, 191, 192, 193, 194, 375, 376, 388, 389, 390, 391] (by decide +kernel) (by decide +kernel)
set_option maxRecDepth 20000 in
theorem gL_law_X3_run : GoodIn wsL_law (wsV RL 59 RX3 yX3_run wsX3_run) := goodIn_app (goodIn_of _ (by decide +kernel)) ggL_law_X3_run
set_option maxRecDepth 20000 in
theorem ggL_law_X4_run : GoodIn wsL_law wsX4_run := goodIn_r _ [198, 90, 66, 175, 69, 176, 177, 178, 5, 179, 180, 181, 182, 183, 67, 184, 185, 186, 377, 378, 379, 380, 381, 382, 383, 384, 385, 386, 387] (by decide +kernel) (by decide +kernel)
set_option maxRecDepth 20000 in
theorem gL_law_X4_run : GoodIn wsL_law (wsV RL 62 RX4 yX4_run wsX4_run) := goodIn_app (goodIn_of _ (by decide +kernel)) ggL_law_X4_run
set_option maxRecDepth 20000 in
theorem ggL_law_X3_go : GoodIn wsL_law wsX3_go := goodIn_r _ [202, 81, 16, 203, 204, 205, 82, 83, 2, 84, 109, 47, 48, 15, 49, 26, 41, 206, 207, 208, 209, 210, 211, 212, 50, 51, 52, 53, 58, 59, 60, 61, 27, 213, 214, 215, 216, 11, 12, 217, 218, 46, 54, 55, 56, 57, 110, 33, 34, 35, 36, 37, 38, 39, 40, 42, 43, 44, 45, 25, 375, 376, 393, 394, 388, 389, 390, 391] (by decide +kernel) (by decide +kernel)
set_option maxRecDepth 20000 in
theorem gL_law_X3_go : GoodIn wsL_law (wsV RL 63 RX3 yX3_go wsX3_go) := goodIn_app (goodIn_of _ (by decide +kernel)) ggL_law_X3_go
set_option maxRecDepth 20000 in
theorem ggL_law_X4_go : GoodIn wsL_law wsX4_go := goodIn_r _ [222, 90, 89, 66, 180, 182, 67, 181, 183, 91, 92, 5, 93, 176, 177, 178, 179, 175, 69, 184, 185, 186, 377, 378, 379, 380, 381, 382, 383, 384, 385, 386, 387] (by decide +kernel) (by decide +kernel)
set_option maxRecDepth 20000 in
theorem gL_law_X4_go : GoodIn wsL_law (wsV RL 66 RX4 yX4_go wsX4_go) := goodIn_app (goodIn_of _ (by decide +kernel)) ggL_law_X4_go
set_option maxRecDepth 20000 in
theorem ggL_law_X3_up : GoodIn wsL_law wsX3_up := goodIn_r _ [226, 16, 163, 164, 165, 15, 166, 41, 46, 47, 48, 49, 26, 54, 55, 56, 57, 27, 167, 168, 169, 170, 25, 109, 227, 51, 52, 53, 110, 228, 59, 60, 61, 33, 34, 35, 36, 37, 38, 39, 40, 42, 43, 44, 45, 50, 58, 375, 376, 388, 389, 390, 391] (by decide +kernel) (by decide +kernel)
set_option maxRecDepth 20000 in
theorem gL_law_X3_up : GoodIn wsL_law (wsV RL 67 RX3 yX3_up wsX3_up) := goodIn_app (goodIn_of _ (by decide +kernel)) ggL_law_X3_up
set_option maxRecDepth 20000 in
theorem ggL_law_X4_up : GoodIn wsL_law wsX4_up := goodIn_r _ [232, 90, 66, 67, 180, 181, 182, 183, 176, 177, 178, 5, 179, 175, 69, 184, 185, 186, 377, 378, 379, 380, 381, 382, 383, 384, 385, 386, 387] (by decide +kernel) (by decide +kernel)
set_option maxRecDepth 20000 in
theorem gL_law_X4_up : GoodIn wsL_law (wsV RL 70 RX4 yX4_up wsX4_up) := goodIn_app (goodIn_of _ (by decide +kernel)) ggL_law_X4_up
set_option maxRecDepth 20000 in
theorem ggL_law_L_near : GoodIn wsL_law wsL_near := goodIn_ca (goodIn_r _ [235, 74, 236, 237, 238, 2, 239, 79, 80, 16, 203, 204, 82, 83, 84, 110, 55, 56, 15, 57, 27, 41, 240, 106, 107, 108, 109, 47, 48, 49, 26, 111, 112, 113, 241, 242, 243, 244, 210, 211, 212, 245, 246, 247, 248, 249, 250, 213, 214, 215, 216, 11, 12, 217, 218, 251, 252, 253, 254, 46, 54, 375, 376, 393, 394, 388, 389, 390, 391] (by decide +kernel) (by decide +kernel)) (goodIn_sub (fun _ h => List.mem_append_right _ h) (by decide +kernel))
set_option maxRecDepth 20000 in
theorem gL_law_L_near : GoodIn wsL_law (va_wsS RL 71 yL_near wsL_near) := goodIn_app (goodIn_of _ (by decide +kernel)) ggL_law_L_near
set_option maxRecDepth 20000 in
theorem ggL_law_X4_near : GoodIn wsL_law wsX4_near := goodIn_r _ [258, 259, 260, 90, 66, 67, 91, 92, 5, 93, 377, 378, 379, 380, 381, 382, 383, 384, 385, 386, 387] (by decide +kernel) (by decide +kernel)
set_option maxRecDepth 20000 in
theorem gL_law_X4_near : GoodIn wsL_law (wsV RL 74 RX4 yX4_near wsX4_near) := goodIn_app (goodIn_of _ (by decide +kernel)) ggL_law_X4_near
set_option maxRecDepth 20000 in
theorem ggL_law_L_between : GoodIn wsL_law wsL_between := goodIn_ca (goodIn_r _ [263, 74, 264, 265, 266, 2, 267, 79, 80, 16, 82, 83, 84, 268, 269, 270, 15, 271, 37, 38, 39, 40, 41, 26, 27, 42, 43, 44, 45, 25, 46, 47, 48, 49, 50, 51, 52, 53, 54, 55, 56, 57, 58, 59, 60, 61, 375, 376, 388, 389, 390, 391] (by decide +kernel) (by decide +kernel)) (goodIn_sub (fun _ h => List.mem_append_right _ h) (by decide +kernel))
set_option maxRecDepth 20000 in
theorem gL_law_L_between : GoodIn wsL_law (va_wsS RL 75 yL_between wsL_between) := goodIn_app (goodIn_of _ (by decide +kernel)) ggL_law_L_between
set_option maxRecDepth 20000 in
theorem ggL_law_X4_between : GoodIn wsL_law wsX4_between := goodIn_r _ [275, 276, 90, 66, 67, 91, 92, 5, 93, 377, 378, 379, 380, 381, 382, 383, 384, 385, 386, 387] (by decide +kernel) (by decide +kernel)
set_option maxRecDepth 20000 in
theorem gL_law_X4_between : GoodIn wsL_law (wsV RL 78 RX4 yX4_between wsX4_between) := goodIn_app (goodIn_of _ (by decide +kernel)) ggL_law_X4_between
set_option maxRecDepth 20000 in
theorem ggL_law_X3_row : GoodIn wsL_law wsX3_row := goodIn_r _ [280, 20, 82, 83, 2, 84, 281, 282, 283, 19, 284, 285, 286, 287, 288, 32, 289, 290, 291, 375, 376, 392] (by decide +kernel) (by decide +kernel)
set_option maxRecDepth 20000 in
theorem gL_law_X3_row : GoodIn wsL_law (wsV RL 79 RX3 yX3_row wsX3_row) := goodIn_app (goodIn_of _ (by decide +kernel)) ggL_law_X3_row
set_option maxRecDepth 20000 in
theorem ggL_law_X4_row : GoodIn wsL_law wsX4_row := goodIn_r _ [295, 90, 296, 91, 92, 5, 93, 98, 99, 100, 377, 378, 379, 380, 381, 382, 383, 384, 385, 386, 387] (by decide +kernel) (by decide +kernel)
set_option maxRecDepth 20000 in
theorem gL_law_X4_row : GoodIn wsL_law (wsV RL 82 RX4 yX4_row wsX4_row) := goodIn_app (goodIn_of _ (by decide +kernel)) ggL_law_X4_row
set_option maxRecDepth 20000 in
theorem ggL_law_X3_pick : GoodIn wsL_law wsX3_pick := goodIn_r _ [300, 20, 16, 82, 83, 2, 84, 281, 282, 283, 19, 284, 285, 286, 287, 288, 32, 289, 290, 291, 301, 302, 303, 304, 305, 306, 307, 308, 309, 33, 34, 35, 15, 36, 37, 38, 39, 40, 41, 26, 27, 42, 43, 44, 45, 25, 46, 47, 48, 49, 50, 51, 52, 53, 54, 55, 56, 57, 58, 59, 60, 61, 310, 311, 312, 313, 314, 109, 110, 315, 316, 317, 375, 376, 392, 388, 389, 390, 391] (by decide +kernel) (by decide +kernel)
set_option maxRecDepth 20000 in
theorem gL_law_X3_pick : GoodIn wsL_law (wsV RL 83 RX3 yX3_pick wsX3_pick) := goodIn_app (goodIn_of _ (by decide +kernel)) ggL_law_X3_pick
set_option maxRecDepth 20000 in
theorem ggL_law_X4_pick : GoodIn wsL_law wsX4_pick := goodIn_r _ [321, 66, 67, 322, 293, 294, 5, 295, 90, 296, 91, 92, 93, 98, 99, 100, 377, 378, 379, 380, 381, 382, 383, 384, 385, 386, 387] (by decide +kernel) (by decide +kernel)
set_option maxRecDepth 20000 in
theorem gL_law_X4_pick : GoodIn wsL_law (wsV RL 86 RX4 yX4_pick wsX4_pick) := goodIn_app (goodIn_of _ (by decide +kernel)) ggL_law_X4_pick
set_option maxRecDepth 20000 in
theorem ggL_law_X3_place : GoodIn wsL_law wsX3_place := goodIn_r _ [326, 20, 16, 82, 83, 2, 84, 109, 47, 48, 15, 49, 26, 41, 110, 55, 56, 57, 27, 310, 306, 307, 19, 308, 309, 282, 283, 284, 285, 286, 287, 288, 32, 289, 290, 291, 375, 376, 388, 389, 390, 391, 392] (by decide +kernel) (by decide +kernel)
set_option maxRecDepth 20000 in
theorem gL_law_X3_place : GoodIn wsL_law (wsV RL 87 RX3 yX3_place wsX3_place) := goodIn_app (goodIn_of _ (by decide +kernel)) ggL_law_X3_place
set_option maxRecDepth 20000 in
theorem ggL_law_X4_place : GoodIn wsL_law wsX4_place := goodIn_r _ [330, 90, 296, 66, 67, 91, 92, 5, 93, 98, 99, 100, 377, 378, 379, 380, 381, 382, 383, 384, 385, 386, 387] (by decide +kernel) (by decide +kernel)
set_option maxRecDepth 20000 in
theorem gL_law_X4_place : GoodIn wsL_law (wsV RL 90 RX4 yX4_place wsX4_place) := goodIn_app (goodIn_of _ (by decide +kernel)) ggL_law_X4_place
set_option maxRecDepth 20000 in
theorem ggL_law_X3_floors : GoodIn wsL_law wsX3_floors := goodIn_r _ [334, 81, 16, 335, 82, 83, 2, 84, 109, 47, 48, 15, 49, 26, 41, 110, 55, 56, 57, 27, 336, 289, 290, 291, 375, 376, 388, 389, 390, 391] (by decide +kernel) (by decide +kernel)
set_option maxRecDepth 20000 in
theorem gL_law_X3_floors : GoodIn wsL_law (wsV RL 91 RX3 yX3_floors wsX3_floors) := goodIn_app (goodIn_of _ (by decide +kernel)) ggL_law_X3_floors
set_option maxRecDepth 20000 in
theorem ggL_law_X4_floors : GoodIn wsL_law wsX4_floors := goodIn_r _ [340, 90, 89, 341, 66, 67, 91, 92, 5, 93, 377, 378, 379, 380, 381, 382, 383, 384, 385, 386, 387] (by decide +kernel) (by decide +kernel)
set_option maxRecDepth 20000 in
theorem gL_law_X4_floors : GoodIn wsL_law (wsV RL 95 RX4 yX4_floors wsX4_floors) := goodIn_app (goodIn_of _ (by decide +kernel)) ggL_law_X4_floors
set_option maxRecDepth 20000 in
theorem ggL_law_X3_sawteeth : GoodIn wsL_law wsX3_sawteeth := goodIn_r _ [345, 16, 122, 136, 346, 291, 110, 55, 56, 15, 57, 27, 41, 109, 47, 48, 49, 26, 228, 59, 60, 61, 375, 376, 388, 389, 390, 391] (by decide +kernel) (by decide +kernel)
set_option maxRecDepth 20000 in
theorem gL_law_X3_sawteeth : GoodIn wsL_law (wsV RL 96 RX3 yX3_sawteeth wsX3_sawteeth) := goodIn_app (goodIn_of _ (by decide +kernel)) ggL_law_X3_sawteeth
set_option maxRecDepth 20000 in
theorem ggL_law_X4_sawteeth : GoodIn wsL_law wsX4_sawteeth := goodIn_r _ [350, 90, 67, 66, 260, 351, 377, 378, 379, 380, 381, 382, 383, 384, 385, 386, 387] (by decide +kernel) (by decide +kernel)
set_option maxRecDepth 20000 in
theorem gL_law_X4_sawteeth : GoodIn wsL_law (wsV RL 100 RX4 yX4_sawteeth wsX4_sawteeth) := goodIn_app (goodIn_of _ (by decide +kernel)) ggL_law_X4_sawteeth
set_option maxRecDepth 20000 in
theorem ggL_law_X3_check : GoodIn wsL_law wsX3_check := goodIn_r _ [355, 16, 356, 357, 358, 15, 359, 41, 25, 46, 47, 48, 49, 26, 54, 55, 56, 57, 27, 360, 361, 362, 363, 364, 365, 366, 367, 368, 369, 164, 165, 166, 167, 168, 169, 170, 370, 192, 193, 194, 375, 376, 388, 389, 390, 391] (by decide +kernel) (by decide +kernel)
set_option maxRecDepth 20000 in
theorem gL_law_X3_check : GoodIn wsL_law (wsV RL 101 RX3 yX3_check wsX3_check) := goodIn_app (goodIn_of _ (by decide +kernel)) ggL_law_X3_check
set_option maxRecDepth 20000 in
theorem ggL_law_X4_check : GoodIn wsL_law wsX4_check := goodIn_r _ [374, 90, 377, 378, 379, 380, 381, 382, 383, 384, 385, 386, 387] (by decide +kernel) (by decide +kernel)
set_option maxRecDepth 20000 in
theorem gL_law_X4_check : GoodIn wsL_law (wsV RL 104 RX4 yX4_check wsX4_check) := goodIn_app (goodIn_of _ (by decide +kernel)) ggL_law_X4_check
theorem dL_law_0 : decode cL_law 0 = .ok (.new 8, 3) := by decide +kernel
theorem dL_law_3 : decode cL_law 3 = .ok (.dup, 1) := by decide +kernel
theorem dL_law_4 : decode cL_law 4 = .ok (.invokespecial 23, 3) := by decide +kernel
theorem dL_law_7 : decode cL_law 7 = .ok (.astore_n 1, 1) := by decide +kernel
theorem dL_law_8 : decode cL_law 8 = .ok (.new 24, 3) := by decide +kernel
theorem dL_law_11 : decode cL_law 11 = .ok (.dup, 1) := by decide +kernel
theorem dL_law_12 : decode cL_law 12 = .ok (.invokespecial 26, 3) := by decide +kernel
theorem dL_law_15 : decode cL_law 15 = .ok (.astore_n 2, 1) := by decide +kernel
theorem dL_law_16 : decode cL_law 16 = .ok (.iconst 1, 1) := by decide +kernel
theorem dL_law_17 : decode cL_law 17 = .ok (.newarray .long, 2) := by decide +kernel
theorem dL_law_19 : decode cL_law 19 = .ok (.astore_n 3, 1) := by decide +kernel
theorem dL_law_20 : decode cL_law 20 = .ok (.iconst 0, 1) := by decide +kernel
theorem dL_law_21 : decode cL_law 21 = .ok (.istore 4, 2) := by decide +kernel
theorem dL_law_23 : decode cL_law 23 = .ok (.iload 4, 2) := by decide +kernel
theorem dL_law_25 : decode cL_law 25 = .ok (.aload_n 0, 1) := by decide +kernel
theorem dL_law_26 : decode cL_law 26 = .ok (.arraylength, 1) := by decide +kernel
theorem dL_law_27 : decode cL_law 27 = .ok (.iconst 5, 1) := by decide +kernel
theorem dL_law_28 : decode cL_law 28 = .ok (.isub, 1) := by decide +kernel
theorem dL_law_29 : decode cL_law 29 = .ok (.if_icmp .gt 657, 3) := by decide +kernel
theorem dL_law_32 : decode cL_law 32 = .ok (.aload_n 0, 1) := by decide +kernel
theorem dL_law_33 : decode cL_law 33 = .ok (.iload 4, 2) := by decide +kernel
theorem dL_law_35 : decode cL_law 35 = .ok (.iaload, 1) := by decide +kernel
theorem dL_law_36 : decode cL_law 36 = .ok (.bipush 31, 2) := by decide +kernel
theorem dL_law_38 : decode cL_law 38 = .ok (.iand, 1) := by decide +kernel
theorem dL_law_39 : decode cL_law 39 = .ok (.tableswitch 641 0 16 #[81, 129, 154, 167, 192, 229, 254, 279, 316, 329, 409, 501, 526, 563, 588, 614, 628], 81) := by decide +kernel
theorem dL_law_120 : decode cL_law 120 = .ok (.aload_n 1, 1) := by decide +kernel
theorem dL_law_121 : decode cL_law 121 = .ok (.aload_n 0, 1) := by decide +kernel
theorem dL_law_122 : decode cL_law 122 = .ok (.iload 4, 2) := by decide +kernel
theorem dL_law_124 : decode cL_law 124 = .ok (.iconst 1, 1) := by decide +kernel
theorem dL_law_125 : decode cL_law 125 = .ok (.iadd, 1) := by decide +kernel
theorem dL_law_126 : decode cL_law 126 = .ok (.iaload, 1) := by decide +kernel
theorem dL_law_127 : decode cL_law 127 = .ok (.aload_n 0, 1) := by decide +kernel
theorem dL_law_128 : decode cL_law 128 = .ok (.iload 4, 2) := by decide +kernel
theorem dL_law_130 : decode cL_law 130 = .ok (.iconst 2, 1) := by decide +kernel
theorem dL_law_131 : decode cL_law 131 = .ok (.iadd, 1) := by decide +kernel
theorem dL_law_132 : decode cL_law 132 = .ok (.iaload, 1) := by decide +kernel
theorem dL_law_133 : decode cL_law 133 = .ok (.invokestatic 27, 3) := by decide +kernel
theorem dL_law_136 : decode cL_law 136 = .ok (.istore 5, 2) := by decide +kernel
theorem dL_law_138 : decode cL_law 138 = .ok (.aload_n 2, 1) := by decide +kernel
theorem dL_law_139 : decode cL_law 139 = .ok (.aload_n 0, 1) := by decide +kernel
theorem dL_law_140 : decode cL_law 140 = .ok (.iload 4, 2) := by decide +kernel
theorem dL_law_142 : decode cL_law 142 = .ok (.iconst 1, 1) := by decide +kernel
theorem dL_law_143 : decode cL_law 143 = .ok (.iadd, 1) := by decide +kernel
theorem dL_law_144 : decode cL_law 144 = .ok (.iaload, 1) := by decide +kernel
theorem dL_law_145 : decode cL_law 145 = .ok (.aload_n 0, 1) := by decide +kernel
theorem dL_law_146 : decode cL_law 146 = .ok (.iload 4, 2) := by decide +kernel
theorem dL_law_148 : decode cL_law 148 = .ok (.iconst 2, 1) := by decide +kernel
theorem dL_law_149 : decode cL_law 149 = .ok (.iadd, 1) := by decide +kernel
theorem dL_law_150 : decode cL_law 150 = .ok (.iaload, 1) := by decide +kernel
theorem dL_law_151 : decode cL_law 151 = .ok (.invokevirtual 32, 3) := by decide +kernel
theorem dL_law_154 : decode cL_law 154 = .ok (.aload_n 2, 1) := by decide +kernel
theorem dL_law_155 : decode cL_law 155 = .ok (.invokevirtual 33, 3) := by decide +kernel
theorem dL_law_158 : decode cL_law 158 = .ok (.iload 5, 2) := by decide +kernel
theorem dL_law_160 : decode cL_law 160 = .ok (.if_icmp .eq 5, 3) := by decide +kernel
theorem dL_law_163 : decode cL_law 163 = .ok (.iconst 0, 1) := by decide +kernel
theorem dL_law_164 : decode cL_law 164 = .ok (.ireturn, 1) := by decide +kernel
theorem dL_law_165 : decode cL_law 165 = .ok (.goto 515, 3) := by decide +kernel
theorem dL_law_168 : decode cL_law 168 = .ok (.aload_n 1, 1) := by decide +kernel
theorem dL_law_169 : decode cL_law 169 = .ok (.aload_n 0, 1) := by decide +kernel
theorem dL_law_170 : decode cL_law 170 = .ok (.iload 4, 2) := by decide +kernel
theorem dL_law_172 : decode cL_law 172 = .ok (.iconst 1, 1) := by decide +kernel
theorem dL_law_173 : decode cL_law 173 = .ok (.iadd, 1) := by decide +kernel
theorem dL_law_174 : decode cL_law 174 = .ok (.iaload, 1) := by decide +kernel
theorem dL_law_175 : decode cL_law 175 = .ok (.invokevirtual 37, 3) := by decide +kernel
theorem dL_law_178 : decode cL_law 178 = .ok (.aload_n 2, 1) := by decide +kernel
theorem dL_law_179 : decode cL_law 179 = .ok (.aload_n 0, 1) := by decide +kernel
theorem dL_law_180 : decode cL_law 180 = .ok (.iload 4, 2) := by decide +kernel
theorem dL_law_182 : decode cL_law 182 = .ok (.iconst 1, 1) := by decide +kernel
theorem dL_law_183 : decode cL_law 183 = .ok (.iadd, 1) := by decide +kernel
theorem dL_law_184 : decode cL_law 184 = .ok (.iaload, 1) := by decide +kernel
theorem dL_law_185 : decode cL_law 185 = .ok (.invokevirtual 41, 3) := by decide +kernel
theorem dL_law_188 : decode cL_law 188 = .ok (.if_icmp .eq 492, 3) := by decide +kernel
theorem dL_law_191 : decode cL_law 191 = .ok (.iconst 0, 1) := by decide +kernel
theorem dL_law_192 : decode cL_law 192 = .ok (.ireturn, 1) := by decide +kernel
theorem dL_law_193 : decode cL_law 193 = .ok (.aload_n 1, 1) := by decide +kernel
theorem dL_law_194 : decode cL_law 194 = .ok (.invokevirtual 42, 3) := by decide +kernel
theorem dL_law_197 : decode cL_law 197 = .ok (.aload_n 2, 1) := by decide +kernel
theorem dL_law_198 : decode cL_law 198 = .ok (.invokevirtual 45, 3) := by decide +kernel
theorem dL_law_201 : decode cL_law 201 = .ok (.if_icmp .eq 479, 3) := by decide +kernel
theorem dL_law_204 : decode cL_law 204 = .ok (.iconst 0, 1) := by decide +kernel
theorem dL_law_205 : decode cL_law 205 = .ok (.ireturn, 1) := by decide +kernel
theorem dL_law_206 : decode cL_law 206 = .ok (.aload_n 1, 1) := by decide +kernel
theorem dL_law_207 : decode cL_law 207 = .ok (.aload_n 0, 1) := by decide +kernel
theorem dL_law_208 : decode cL_law 208 = .ok (.iload 4, 2) := by decide +kernel
theorem dL_law_210 : decode cL_law 210 = .ok (.iconst 1, 1) := by decide +kernel
theorem dL_law_211 : decode cL_law 211 = .ok (.iadd, 1) := by decide +kernel
theorem dL_law_212 : decode cL_law 212 = .ok (.iaload, 1) := by decide +kernel
theorem dL_law_213 : decode cL_law 213 = .ok (.invokevirtual 46, 3) := by decide +kernel
theorem dL_law_216 : decode cL_law 216 = .ok (.aload_n 2, 1) := by decide +kernel
theorem dL_law_217 : decode cL_law 217 = .ok (.aload_n 0, 1) := by decide +kernel
theorem dL_law_218 : decode cL_law 218 = .ok (.iload 4, 2) := by decide +kernel
theorem dL_law_220 : decode cL_law 220 = .ok (.iconst 1, 1) := by decide +kernel
theorem dL_law_221 : decode cL_law 221 = .ok (.iadd, 1) := by decide +kernel
theorem dL_law_222 : decode cL_law 222 = .ok (.iaload, 1) := by decide +kernel
theorem dL_law_223 : decode cL_law 223 = .ok (.invokevirtual 49, 3) := by decide +kernel
theorem dL_law_226 : decode cL_law 226 = .ok (.if_icmp .eq 454, 3) := by decide +kernel
theorem dL_law_229 : decode cL_law 229 = .ok (.iconst 0, 1) := by decide +kernel
theorem dL_law_230 : decode cL_law 230 = .ok (.ireturn, 1) := by decide +kernel
theorem dL_law_231 : decode cL_law 231 = .ok (.aload_n 1, 1) := by decide +kernel
theorem dL_law_232 : decode cL_law 232 = .ok (.aload_n 0, 1) := by decide +kernel
theorem dL_law_233 : decode cL_law 233 = .ok (.iload 4, 2) := by decide +kernel
theorem dL_law_235 : decode cL_law 235 = .ok (.iconst 1, 1) := by decide +kernel
theorem dL_law_236 : decode cL_law 236 = .ok (.iadd, 1) := by decide +kernel
theorem dL_law_237 : decode cL_law 237 = .ok (.iaload, 1) := by decide +kernel
theorem dL_law_238 : decode cL_law 238 = .ok (.aload_n 0, 1) := by decide +kernel
theorem dL_law_239 : decode cL_law 239 = .ok (.iload 4, 2) := by decide +kernel
theorem dL_law_241 : decode cL_law 241 = .ok (.iconst 2, 1) := by decide +kernel
theorem dL_law_242 : decode cL_law 242 = .ok (.iadd, 1) := by decide +kernel
theorem dL_law_243 : decode cL_law 243 = .ok (.iaload, 1) := by decide +kernel
theorem dL_law_244 : decode cL_law 244 = .ok (.invokevirtual 50, 3) := by decide +kernel
theorem dL_law_247 : decode cL_law 247 = .ok (.aload_n 2, 1) := by decide +kernel
theorem dL_law_248 : decode cL_law 248 = .ok (.aload_n 0, 1) := by decide +kernel
theorem dL_law_249 : decode cL_law 249 = .ok (.iload 4, 2) := by decide +kernel
theorem dL_law_251 : decode cL_law 251 = .ok (.iconst 1, 1) := by decide +kernel
theorem dL_law_252 : decode cL_law 252 = .ok (.iadd, 1) := by decide +kernel
theorem dL_law_253 : decode cL_law 253 = .ok (.iaload, 1) := by decide +kernel
theorem dL_law_254 : decode cL_law 254 = .ok (.aload_n 0, 1) := by decide +kernel
theorem dL_law_255 : decode cL_law 255 = .ok (.iload 4, 2) := by decide +kernel
theorem dL_law_257 : decode cL_law 257 = .ok (.iconst 2, 1) := by decide +kernel
theorem dL_law_258 : decode cL_law 258 = .ok (.iadd, 1) := by decide +kernel
theorem dL_law_259 : decode cL_law 259 = .ok (.iaload, 1) := by decide +kernel
theorem dL_law_260 : decode cL_law 260 = .ok (.invokevirtual 54, 3) := by decide +kernel
theorem dL_law_263 : decode cL_law 263 = .ok (.if_icmp .eq 417, 3) := by decide +kernel
theorem dL_law_266 : decode cL_law 266 = .ok (.iconst 0, 1) := by decide +kernel
theorem dL_law_267 : decode cL_law 267 = .ok (.ireturn, 1) := by decide +kernel
theorem dL_law_268 : decode cL_law 268 = .ok (.aload_n 1, 1) := by decide +kernel
theorem dL_law_269 : decode cL_law 269 = .ok (.aload_n 0, 1) := by decide +kernel
theorem dL_law_270 : decode cL_law 270 = .ok (.iload 4, 2) := by decide +kernel
theorem dL_law_272 : decode cL_law 272 = .ok (.iconst 1, 1) := by decide +kernel
theorem dL_law_273 : decode cL_law 273 = .ok (.iadd, 1) := by decide +kernel
theorem dL_law_274 : decode cL_law 274 = .ok (.iaload, 1) := by decide +kernel
theorem dL_law_275 : decode cL_law 275 = .ok (.invokevirtual 55, 3) := by decide +kernel
theorem dL_law_278 : decode cL_law 278 = .ok (.aload_n 2, 1) := by decide +kernel
theorem dL_law_279 : decode cL_law 279 = .ok (.aload_n 0, 1) := by decide +kernel
theorem dL_law_280 : decode cL_law 280 = .ok (.iload 4, 2) := by decide +kernel
theorem dL_law_282 : decode cL_law 282 = .ok (.iconst 1, 1) := by decide +kernel
theorem dL_law_283 : decode cL_law 283 = .ok (.iadd, 1) := by decide +kernel
theorem dL_law_284 : decode cL_law 284 = .ok (.iaload, 1) := by decide +kernel
theorem dL_law_285 : decode cL_law 285 = .ok (.invokevirtual 58, 3) := by decide +kernel
theorem dL_law_288 : decode cL_law 288 = .ok (.if_icmp .eq 392, 3) := by decide +kernel
theorem dL_law_291 : decode cL_law 291 = .ok (.iconst 0, 1) := by decide +kernel
theorem dL_law_292 : decode cL_law 292 = .ok (.ireturn, 1) := by decide +kernel
theorem dL_law_293 : decode cL_law 293 = .ok (.aload_n 1, 1) := by decide +kernel
theorem dL_law_294 : decode cL_law 294 = .ok (.aload_n 0, 1) := by decide +kernel
theorem dL_law_295 : decode cL_law 295 = .ok (.iload 4, 2) := by decide +kernel
theorem dL_law_297 : decode cL_law 297 = .ok (.iconst 1, 1) := by decide +kernel
theorem dL_law_298 : decode cL_law 298 = .ok (.iadd, 1) := by decide +kernel
theorem dL_law_299 : decode cL_law 299 = .ok (.iaload, 1) := by decide +kernel
theorem dL_law_300 : decode cL_law 300 = .ok (.invokevirtual 59, 3) := by decide +kernel
theorem dL_law_303 : decode cL_law 303 = .ok (.aload_n 2, 1) := by decide +kernel
theorem dL_law_304 : decode cL_law 304 = .ok (.aload_n 0, 1) := by decide +kernel
theorem dL_law_305 : decode cL_law 305 = .ok (.iload 4, 2) := by decide +kernel
theorem dL_law_307 : decode cL_law 307 = .ok (.iconst 1, 1) := by decide +kernel
theorem dL_law_308 : decode cL_law 308 = .ok (.iadd, 1) := by decide +kernel
theorem dL_law_309 : decode cL_law 309 = .ok (.iaload, 1) := by decide +kernel
theorem dL_law_310 : decode cL_law 310 = .ok (.invokevirtual 62, 3) := by decide +kernel
theorem dL_law_313 : decode cL_law 313 = .ok (.if_icmp .eq 367, 3) := by decide +kernel
theorem dL_law_316 : decode cL_law 316 = .ok (.iconst 0, 1) := by decide +kernel
theorem dL_law_317 : decode cL_law 317 = .ok (.ireturn, 1) := by decide +kernel
theorem dL_law_318 : decode cL_law 318 = .ok (.aload_n 1, 1) := by decide +kernel
theorem dL_law_319 : decode cL_law 319 = .ok (.aload_n 0, 1) := by decide +kernel
theorem dL_law_320 : decode cL_law 320 = .ok (.iload 4, 2) := by decide +kernel
theorem dL_law_322 : decode cL_law 322 = .ok (.iconst 1, 1) := by decide +kernel
theorem dL_law_323 : decode cL_law 323 = .ok (.iadd, 1) := by decide +kernel
theorem dL_law_324 : decode cL_law 324 = .ok (.iaload, 1) := by decide +kernel
theorem dL_law_325 : decode cL_law 325 = .ok (.aload_n 0, 1) := by decide +kernel
theorem dL_law_326 : decode cL_law 326 = .ok (.iload 4, 2) := by decide +kernel
theorem dL_law_328 : decode cL_law 328 = .ok (.iconst 2, 1) := by decide +kernel
theorem dL_law_329 : decode cL_law 329 = .ok (.iadd, 1) := by decide +kernel
theorem dL_law_330 : decode cL_law 330 = .ok (.iaload, 1) := by decide +kernel
theorem dL_law_331 : decode cL_law 331 = .ok (.invokevirtual 63, 3) := by decide +kernel
theorem dL_law_334 : decode cL_law 334 = .ok (.aload_n 2, 1) := by decide +kernel
theorem dL_law_335 : decode cL_law 335 = .ok (.aload_n 0, 1) := by decide +kernel
theorem dL_law_336 : decode cL_law 336 = .ok (.iload 4, 2) := by decide +kernel
theorem dL_law_338 : decode cL_law 338 = .ok (.iconst 1, 1) := by decide +kernel
theorem dL_law_339 : decode cL_law 339 = .ok (.iadd, 1) := by decide +kernel
theorem dL_law_340 : decode cL_law 340 = .ok (.iaload, 1) := by decide +kernel
theorem dL_law_341 : decode cL_law 341 = .ok (.aload_n 0, 1) := by decide +kernel
theorem dL_law_342 : decode cL_law 342 = .ok (.iload 4, 2) := by decide +kernel
theorem dL_law_344 : decode cL_law 344 = .ok (.iconst 2, 1) := by decide +kernel
theorem dL_law_345 : decode cL_law 345 = .ok (.iadd, 1) := by decide +kernel
theorem dL_law_346 : decode cL_law 346 = .ok (.iaload, 1) := by decide +kernel
theorem dL_law_347 : decode cL_law 347 = .ok (.invokevirtual 66, 3) := by decide +kernel
theorem dL_law_350 : decode cL_law 350 = .ok (.if_icmp .eq 330, 3) := by decide +kernel
theorem dL_law_353 : decode cL_law 353 = .ok (.iconst 0, 1) := by decide +kernel
theorem dL_law_354 : decode cL_law 354 = .ok (.ireturn, 1) := by decide +kernel
theorem dL_law_355 : decode cL_law 355 = .ok (.aload_n 1, 1) := by decide +kernel
theorem dL_law_356 : decode cL_law 356 = .ok (.invokevirtual 67, 3) := by decide +kernel
theorem dL_law_359 : decode cL_law 359 = .ok (.aload_n 2, 1) := by decide +kernel
theorem dL_law_360 : decode cL_law 360 = .ok (.invokevirtual 70, 3) := by decide +kernel
theorem dL_law_363 : decode cL_law 363 = .ok (.if_icmp .eq 317, 3) := by decide +kernel
theorem dL_law_366 : decode cL_law 366 = .ok (.iconst 0, 1) := by decide +kernel
theorem dL_law_367 : decode cL_law 367 = .ok (.ireturn, 1) := by decide +kernel
theorem dL_law_368 : decode cL_law 368 = .ok (.aload_n 1, 1) := by decide +kernel
theorem dL_law_369 : decode cL_law 369 = .ok (.aload_n 0, 1) := by decide +kernel
theorem dL_law_370 : decode cL_law 370 = .ok (.iload 4, 2) := by decide +kernel
theorem dL_law_372 : decode cL_law 372 = .ok (.iconst 1, 1) := by decide +kernel
theorem dL_law_373 : decode cL_law 373 = .ok (.iadd, 1) := by decide +kernel
theorem dL_law_374 : decode cL_law 374 = .ok (.iaload, 1) := by decide +kernel
theorem dL_law_375 : decode cL_law 375 = .ok (.aload_n 0, 1) := by decide +kernel
theorem dL_law_376 : decode cL_law 376 = .ok (.iload 4, 2) := by decide +kernel
theorem dL_law_378 : decode cL_law 378 = .ok (.iconst 2, 1) := by decide +kernel
theorem dL_law_379 : decode cL_law 379 = .ok (.iadd, 1) := by decide +kernel
theorem dL_law_380 : decode cL_law 380 = .ok (.iaload, 1) := by decide +kernel
theorem dL_law_381 : decode cL_law 381 = .ok (.aload_n 0, 1) := by decide +kernel
theorem dL_law_382 : decode cL_law 382 = .ok (.iload 4, 2) := by decide +kernel
theorem dL_law_384 : decode cL_law 384 = .ok (.iconst 3, 1) := by decide +kernel
theorem dL_law_385 : decode cL_law 385 = .ok (.iadd, 1) := by decide +kernel
theorem dL_law_386 : decode cL_law 386 = .ok (.iaload, 1) := by decide +kernel
theorem dL_law_387 : decode cL_law 387 = .ok (.aload_n 3, 1) := by decide +kernel
theorem dL_law_388 : decode cL_law 388 = .ok (.invokestatic 71, 3) := by decide +kernel
theorem dL_law_391 : decode cL_law 391 = .ok (.istore 5, 2) := by decide +kernel
theorem dL_law_393 : decode cL_law 393 = .ok (.aload_n 2, 1) := by decide +kernel
theorem dL_law_394 : decode cL_law 394 = .ok (.aload_n 0, 1) := by decide +kernel
theorem dL_law_395 : decode cL_law 395 = .ok (.iload 4, 2) := by decide +kernel
theorem dL_law_397 : decode cL_law 397 = .ok (.iconst 1, 1) := by decide +kernel
theorem dL_law_398 : decode cL_law 398 = .ok (.iadd, 1) := by decide +kernel
theorem dL_law_399 : decode cL_law 399 = .ok (.iaload, 1) := by decide +kernel
theorem dL_law_400 : decode cL_law 400 = .ok (.aload_n 0, 1) := by decide +kernel
theorem dL_law_401 : decode cL_law 401 = .ok (.iload 4, 2) := by decide +kernel
theorem dL_law_403 : decode cL_law 403 = .ok (.iconst 2, 1) := by decide +kernel
theorem dL_law_404 : decode cL_law 404 = .ok (.iadd, 1) := by decide +kernel
theorem dL_law_405 : decode cL_law 405 = .ok (.iaload, 1) := by decide +kernel
theorem dL_law_406 : decode cL_law 406 = .ok (.aload_n 0, 1) := by decide +kernel
theorem dL_law_407 : decode cL_law 407 = .ok (.iload 4, 2) := by decide +kernel
theorem dL_law_409 : decode cL_law 409 = .ok (.iconst 3, 1) := by decide +kernel
theorem dL_law_410 : decode cL_law 410 = .ok (.iadd, 1) := by decide +kernel
theorem dL_law_411 : decode cL_law 411 = .ok (.iaload, 1) := by decide +kernel
theorem dL_law_412 : decode cL_law 412 = .ok (.invokevirtual 74, 3) := by decide +kernel
theorem dL_law_415 : decode cL_law 415 = .ok (.istore 6, 2) := by decide +kernel
theorem dL_law_417 : decode cL_law 417 = .ok (.aload_n 2, 1) := by decide +kernel
theorem dL_law_418 : decode cL_law 418 = .ok (.invokevirtual 33, 3) := by decide +kernel
theorem dL_law_421 : decode cL_law 421 = .ok (.iload 5, 2) := by decide +kernel
theorem dL_law_423 : decode cL_law 423 = .ok (.if_icmp .eq 5, 3) := by decide +kernel
theorem dL_law_426 : decode cL_law 426 = .ok (.iconst 0, 1) := by decide +kernel
theorem dL_law_427 : decode cL_law 427 = .ok (.ireturn, 1) := by decide +kernel
theorem dL_law_428 : decode cL_law 428 = .ok (.iload 5, 2) := by decide +kernel
theorem dL_law_430 : decode cL_law 430 = .ok (.ifCond .ne 15, 3) := by decide +kernel
theorem dL_law_433 : decode cL_law 433 = .ok (.aload_n 3, 1) := by decide +kernel
theorem dL_law_434 : decode cL_law 434 = .ok (.iconst 0, 1) := by decide +kernel
theorem dL_law_435 : decode cL_law 435 = .ok (.laload, 1) := by decide +kernel
theorem dL_law_436 : decode cL_law 436 = .ok (.iload 6, 2) := by decide +kernel
theorem dL_law_438 : decode cL_law 438 = .ok (.i2l, 1) := by decide +kernel
theorem dL_law_439 : decode cL_law 439 = .ok (.lcmp, 1) := by decide +kernel
theorem dL_law_440 : decode cL_law 440 = .ok (.ifCond .eq 5, 3) := by decide +kernel
theorem dL_law_443 : decode cL_law 443 = .ok (.iconst 0, 1) := by decide +kernel
theorem dL_law_444 : decode cL_law 444 = .ok (.ireturn, 1) := by decide +kernel
theorem dL_law_445 : decode cL_law 445 = .ok (.goto 235, 3) := by decide +kernel
theorem dL_law_448 : decode cL_law 448 = .ok (.aload_n 1, 1) := by decide +kernel
theorem dL_law_449 : decode cL_law 449 = .ok (.aload_n 0, 1) := by decide +kernel
theorem dL_law_450 : decode cL_law 450 = .ok (.iload 4, 2) := by decide +kernel
theorem dL_law_452 : decode cL_law 452 = .ok (.iconst 1, 1) := by decide +kernel
theorem dL_law_453 : decode cL_law 453 = .ok (.iadd, 1) := by decide +kernel
theorem dL_law_454 : decode cL_law 454 = .ok (.iaload, 1) := by decide +kernel
theorem dL_law_455 : decode cL_law 455 = .ok (.aload_n 0, 1) := by decide +kernel
theorem dL_law_456 : decode cL_law 456 = .ok (.iload 4, 2) := by decide +kernel
theorem dL_law_458 : decode cL_law 458 = .ok (.iconst 2, 1) := by decide +kernel
theorem dL_law_459 : decode cL_law 459 = .ok (.iadd, 1) := by decide +kernel
theorem dL_law_460 : decode cL_law 460 = .ok (.iaload, 1) := by decide +kernel
theorem dL_law_461 : decode cL_law 461 = .ok (.aload_n 0, 1) := by decide +kernel
theorem dL_law_462 : decode cL_law 462 = .ok (.iload 4, 2) := by decide +kernel
theorem dL_law_464 : decode cL_law 464 = .ok (.iconst 3, 1) := by decide +kernel
theorem dL_law_465 : decode cL_law 465 = .ok (.iadd, 1) := by decide +kernel
theorem dL_law_466 : decode cL_law 466 = .ok (.iaload, 1) := by decide +kernel
theorem dL_law_467 : decode cL_law 467 = .ok (.aload_n 0, 1) := by decide +kernel
theorem dL_law_468 : decode cL_law 468 = .ok (.iload 4, 2) := by decide +kernel
theorem dL_law_470 : decode cL_law 470 = .ok (.iconst 4, 1) := by decide +kernel
theorem dL_law_471 : decode cL_law 471 = .ok (.iadd, 1) := by decide +kernel
theorem dL_law_472 : decode cL_law 472 = .ok (.iaload, 1) := by decide +kernel
theorem dL_law_473 : decode cL_law 473 = .ok (.aload_n 3, 1) := by decide +kernel
theorem dL_law_474 : decode cL_law 474 = .ok (.invokestatic 75, 3) := by decide +kernel
theorem dL_law_477 : decode cL_law 477 = .ok (.istore 5, 2) := by decide +kernel
theorem dL_law_479 : decode cL_law 479 = .ok (.aload_n 2, 1) := by decide +kernel
theorem dL_law_480 : decode cL_law 480 = .ok (.aload_n 0, 1) := by decide +kernel
theorem dL_law_481 : decode cL_law 481 = .ok (.iload 4, 2) := by decide +kernel
theorem dL_law_483 : decode cL_law 483 = .ok (.iconst 1, 1) := by decide +kernel
theorem dL_law_484 : decode cL_law 484 = .ok (.iadd, 1) := by decide +kernel
theorem dL_law_485 : decode cL_law 485 = .ok (.iaload, 1) := by decide +kernel
theorem dL_law_486 : decode cL_law 486 = .ok (.aload_n 0, 1) := by decide +kernel
theorem dL_law_487 : decode cL_law 487 = .ok (.iload 4, 2) := by decide +kernel
theorem dL_law_489 : decode cL_law 489 = .ok (.iconst 2, 1) := by decide +kernel
theorem dL_law_490 : decode cL_law 490 = .ok (.iadd, 1) := by decide +kernel
theorem dL_law_491 : decode cL_law 491 = .ok (.iaload, 1) := by decide +kernel
theorem dL_law_492 : decode cL_law 492 = .ok (.aload_n 0, 1) := by decide +kernel
theorem dL_law_493 : decode cL_law 493 = .ok (.iload 4, 2) := by decide +kernel
theorem dL_law_495 : decode cL_law 495 = .ok (.iconst 3, 1) := by decide +kernel
theorem dL_law_496 : decode cL_law 496 = .ok (.iadd, 1) := by decide +kernel
theorem dL_law_497 : decode cL_law 497 = .ok (.iaload, 1) := by decide +kernel
theorem dL_law_498 : decode cL_law 498 = .ok (.aload_n 0, 1) := by decide +kernel
theorem dL_law_499 : decode cL_law 499 = .ok (.iload 4, 2) := by decide +kernel
theorem dL_law_501 : decode cL_law 501 = .ok (.iconst 4, 1) := by decide +kernel
theorem dL_law_502 : decode cL_law 502 = .ok (.iadd, 1) := by decide +kernel
theorem dL_law_503 : decode cL_law 503 = .ok (.iaload, 1) := by decide +kernel
theorem dL_law_504 : decode cL_law 504 = .ok (.invokevirtual 78, 3) := by decide +kernel
theorem dL_law_507 : decode cL_law 507 = .ok (.istore 6, 2) := by decide +kernel
theorem dL_law_509 : decode cL_law 509 = .ok (.aload_n 2, 1) := by decide +kernel
theorem dL_law_510 : decode cL_law 510 = .ok (.invokevirtual 33, 3) := by decide +kernel
theorem dL_law_513 : decode cL_law 513 = .ok (.iload 5, 2) := by decide +kernel
theorem dL_law_515 : decode cL_law 515 = .ok (.if_icmp .eq 5, 3) := by decide +kernel
theorem dL_law_518 : decode cL_law 518 = .ok (.iconst 0, 1) := by decide +kernel
theorem dL_law_519 : decode cL_law 519 = .ok (.ireturn, 1) := by decide +kernel
theorem dL_law_520 : decode cL_law 520 = .ok (.iload 5, 2) := by decide +kernel
theorem dL_law_522 : decode cL_law 522 = .ok (.ifCond .ne 15, 3) := by decide +kernel
theorem dL_law_525 : decode cL_law 525 = .ok (.aload_n 3, 1) := by decide +kernel
theorem dL_law_526 : decode cL_law 526 = .ok (.iconst 0, 1) := by decide +kernel
theorem dL_law_527 : decode cL_law 527 = .ok (.laload, 1) := by decide +kernel
theorem dL_law_528 : decode cL_law 528 = .ok (.iload 6, 2) := by decide +kernel
theorem dL_law_530 : decode cL_law 530 = .ok (.i2l, 1) := by decide +kernel
theorem dL_law_531 : decode cL_law 531 = .ok (.lcmp, 1) := by decide +kernel
theorem dL_law_532 : decode cL_law 532 = .ok (.ifCond .eq 5, 3) := by decide +kernel
theorem dL_law_535 : decode cL_law 535 = .ok (.iconst 0, 1) := by decide +kernel
theorem dL_law_536 : decode cL_law 536 = .ok (.ireturn, 1) := by decide +kernel
theorem dL_law_537 : decode cL_law 537 = .ok (.goto 143, 3) := by decide +kernel
theorem dL_law_540 : decode cL_law 540 = .ok (.aload_n 1, 1) := by decide +kernel
theorem dL_law_541 : decode cL_law 541 = .ok (.aload_n 0, 1) := by decide +kernel
theorem dL_law_542 : decode cL_law 542 = .ok (.iload 4, 2) := by decide +kernel
theorem dL_law_544 : decode cL_law 544 = .ok (.iconst 1, 1) := by decide +kernel
theorem dL_law_545 : decode cL_law 545 = .ok (.iadd, 1) := by decide +kernel
theorem dL_law_546 : decode cL_law 546 = .ok (.iaload, 1) := by decide +kernel
theorem dL_law_547 : decode cL_law 547 = .ok (.invokevirtual 79, 3) := by decide +kernel
theorem dL_law_550 : decode cL_law 550 = .ok (.aload_n 2, 1) := by decide +kernel
theorem dL_law_551 : decode cL_law 551 = .ok (.aload_n 0, 1) := by decide +kernel
theorem dL_law_552 : decode cL_law 552 = .ok (.iload 4, 2) := by decide +kernel
theorem dL_law_554 : decode cL_law 554 = .ok (.iconst 1, 1) := by decide +kernel
theorem dL_law_555 : decode cL_law 555 = .ok (.iadd, 1) := by decide +kernel
theorem dL_law_556 : decode cL_law 556 = .ok (.iaload, 1) := by decide +kernel
theorem dL_law_557 : decode cL_law 557 = .ok (.invokevirtual 82, 3) := by decide +kernel
theorem dL_law_560 : decode cL_law 560 = .ok (.if_icmp .eq 120, 3) := by decide +kernel
theorem dL_law_563 : decode cL_law 563 = .ok (.iconst 0, 1) := by decide +kernel
theorem dL_law_564 : decode cL_law 564 = .ok (.ireturn, 1) := by decide +kernel
theorem dL_law_565 : decode cL_law 565 = .ok (.aload_n 1, 1) := by decide +kernel
theorem dL_law_566 : decode cL_law 566 = .ok (.aload_n 0, 1) := by decide +kernel
theorem dL_law_567 : decode cL_law 567 = .ok (.iload 4, 2) := by decide +kernel
theorem dL_law_569 : decode cL_law 569 = .ok (.iconst 1, 1) := by decide +kernel
theorem dL_law_570 : decode cL_law 570 = .ok (.iadd, 1) := by decide +kernel
theorem dL_law_571 : decode cL_law 571 = .ok (.iaload, 1) := by decide +kernel
theorem dL_law_572 : decode cL_law 572 = .ok (.aload_n 0, 1) := by decide +kernel
theorem dL_law_573 : decode cL_law 573 = .ok (.iload 4, 2) := by decide +kernel
theorem dL_law_575 : decode cL_law 575 = .ok (.iconst 2, 1) := by decide +kernel
theorem dL_law_576 : decode cL_law 576 = .ok (.iadd, 1) := by decide +kernel
theorem dL_law_577 : decode cL_law 577 = .ok (.iaload, 1) := by decide +kernel
theorem dL_law_578 : decode cL_law 578 = .ok (.invokevirtual 83, 3) := by decide +kernel
theorem dL_law_581 : decode cL_law 581 = .ok (.aload_n 2, 1) := by decide +kernel
theorem dL_law_582 : decode cL_law 582 = .ok (.aload_n 0, 1) := by decide +kernel
theorem dL_law_583 : decode cL_law 583 = .ok (.iload 4, 2) := by decide +kernel
theorem dL_law_585 : decode cL_law 585 = .ok (.iconst 1, 1) := by decide +kernel
theorem dL_law_586 : decode cL_law 586 = .ok (.iadd, 1) := by decide +kernel
theorem dL_law_587 : decode cL_law 587 = .ok (.iaload, 1) := by decide +kernel
theorem dL_law_588 : decode cL_law 588 = .ok (.aload_n 0, 1) := by decide +kernel
theorem dL_law_589 : decode cL_law 589 = .ok (.iload 4, 2) := by decide +kernel
theorem dL_law_591 : decode cL_law 591 = .ok (.iconst 2, 1) := by decide +kernel
theorem dL_law_592 : decode cL_law 592 = .ok (.iadd, 1) := by decide +kernel
theorem dL_law_593 : decode cL_law 593 = .ok (.iaload, 1) := by decide +kernel
theorem dL_law_594 : decode cL_law 594 = .ok (.invokevirtual 86, 3) := by decide +kernel
theorem dL_law_597 : decode cL_law 597 = .ok (.if_icmp .eq 83, 3) := by decide +kernel
theorem dL_law_600 : decode cL_law 600 = .ok (.iconst 0, 1) := by decide +kernel
theorem dL_law_601 : decode cL_law 601 = .ok (.ireturn, 1) := by decide +kernel
theorem dL_law_602 : decode cL_law 602 = .ok (.aload_n 1, 1) := by decide +kernel
theorem dL_law_603 : decode cL_law 603 = .ok (.aload_n 0, 1) := by decide +kernel
theorem dL_law_604 : decode cL_law 604 = .ok (.iload 4, 2) := by decide +kernel
theorem dL_law_606 : decode cL_law 606 = .ok (.iconst 1, 1) := by decide +kernel
theorem dL_law_607 : decode cL_law 607 = .ok (.iadd, 1) := by decide +kernel
theorem dL_law_608 : decode cL_law 608 = .ok (.iaload, 1) := by decide +kernel
theorem dL_law_609 : decode cL_law 609 = .ok (.invokevirtual 87, 3) := by decide +kernel
theorem dL_law_612 : decode cL_law 612 = .ok (.aload_n 2, 1) := by decide +kernel
theorem dL_law_613 : decode cL_law 613 = .ok (.aload_n 0, 1) := by decide +kernel
theorem dL_law_614 : decode cL_law 614 = .ok (.iload 4, 2) := by decide +kernel
theorem dL_law_616 : decode cL_law 616 = .ok (.iconst 1, 1) := by decide +kernel
theorem dL_law_617 : decode cL_law 617 = .ok (.iadd, 1) := by decide +kernel
theorem dL_law_618 : decode cL_law 618 = .ok (.iaload, 1) := by decide +kernel
theorem dL_law_619 : decode cL_law 619 = .ok (.invokevirtual 90, 3) := by decide +kernel
theorem dL_law_622 : decode cL_law 622 = .ok (.if_icmp .eq 58, 3) := by decide +kernel
theorem dL_law_625 : decode cL_law 625 = .ok (.iconst 0, 1) := by decide +kernel
theorem dL_law_626 : decode cL_law 626 = .ok (.ireturn, 1) := by decide +kernel
theorem dL_law_627 : decode cL_law 627 = .ok (.aload_n 1, 1) := by decide +kernel
theorem dL_law_628 : decode cL_law 628 = .ok (.aload_n 0, 1) := by decide +kernel
theorem dL_law_629 : decode cL_law 629 = .ok (.iload 4, 2) := by decide +kernel
theorem dL_law_631 : decode cL_law 631 = .ok (.iconst 1, 1) := by decide +kernel
theorem dL_law_632 : decode cL_law 632 = .ok (.iadd, 1) := by decide +kernel
theorem dL_law_633 : decode cL_law 633 = .ok (.iaload, 1) := by decide +kernel
theorem dL_law_634 : decode cL_law 634 = .ok (.invokevirtual 91, 3) := by decide +kernel
theorem dL_law_637 : decode cL_law 637 = .ok (.aload_n 2, 1) := by decide +kernel
theorem dL_law_638 : decode cL_law 638 = .ok (.aload_n 0, 1) := by decide +kernel
theorem dL_law_639 : decode cL_law 639 = .ok (.iload 4, 2) := by decide +kernel
theorem dL_law_641 : decode cL_law 641 = .ok (.iconst 1, 1) := by decide +kernel
theorem dL_law_642 : decode cL_law 642 = .ok (.iadd, 1) := by decide +kernel
theorem dL_law_643 : decode cL_law 643 = .ok (.iaload, 1) := by decide +kernel
theorem dL_law_644 : decode cL_law 644 = .ok (.invokevirtual 95, 3) := by decide +kernel
theorem dL_law_647 : decode cL_law 647 = .ok (.lcmp, 1) := by decide +kernel
theorem dL_law_648 : decode cL_law 648 = .ok (.ifCond .eq 32, 3) := by decide +kernel
theorem dL_law_651 : decode cL_law 651 = .ok (.iconst 0, 1) := by decide +kernel
theorem dL_law_652 : decode cL_law 652 = .ok (.ireturn, 1) := by decide +kernel
theorem dL_law_653 : decode cL_law 653 = .ok (.aload_n 1, 1) := by decide +kernel
theorem dL_law_654 : decode cL_law 654 = .ok (.invokevirtual 96, 3) := by decide +kernel
theorem dL_law_657 : decode cL_law 657 = .ok (.aload_n 2, 1) := by decide +kernel
theorem dL_law_658 : decode cL_law 658 = .ok (.invokevirtual 100, 3) := by decide +kernel
theorem dL_law_661 : decode cL_law 661 = .ok (.lcmp, 1) := by decide +kernel
theorem dL_law_662 : decode cL_law 662 = .ok (.ifCond .eq 18, 3) := by decide +kernel
theorem dL_law_665 : decode cL_law 665 = .ok (.iconst 0, 1) := by decide +kernel
theorem dL_law_666 : decode cL_law 666 = .ok (.ireturn, 1) := by decide +kernel
theorem dL_law_667 : decode cL_law 667 = .ok (.aload_n 1, 1) := by decide +kernel
theorem dL_law_668 : decode cL_law 668 = .ok (.invokevirtual 101, 3) := by decide +kernel
theorem dL_law_671 : decode cL_law 671 = .ok (.aload_n 2, 1) := by decide +kernel
theorem dL_law_672 : decode cL_law 672 = .ok (.invokevirtual 104, 3) := by decide +kernel
theorem dL_law_675 : decode cL_law 675 = .ok (.if_icmp .eq 5, 3) := by decide +kernel
theorem dL_law_678 : decode cL_law 678 = .ok (.iconst 0, 1) := by decide +kernel
theorem dL_law_679 : decode cL_law 679 = .ok (.ireturn, 1) := by decide +kernel
theorem dL_law_680 : decode cL_law 680 = .ok (.iinc 4 5, 3) := by decide +kernel
theorem dL_law_683 : decode cL_law 683 = .ok (.goto (-660), 3) := by decide +kernel
theorem dL_law_686 : decode cL_law 686 = .ok (.iconst 1, 1) := by decide +kernel
theorem dL_law_687 : decode cL_law 687 = .ok (.ireturn, 1) := by decide +kernel
