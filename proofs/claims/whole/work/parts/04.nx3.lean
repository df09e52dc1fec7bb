abbrev cX3_init : ByteArray := prog_1_method_1_code
def yX3_init : MethodName := ⟨RX3, "<init>", "()V"⟩
abbrev cX3_take : ByteArray := prog_1_method_2_code
def yX3_take : MethodName := ⟨RX3, "take", "(II)V"⟩
abbrev cX3_part : ByteArray := prog_1_method_3_code
def yX3_part : MethodName := ⟨RX3, "part", "(I)I"⟩
abbrev cX3_terms : ByteArray := prog_1_method_4_code
def yX3_terms : MethodName := ⟨RX3, "terms", "()I"⟩
abbrev cX3_term : ByteArray := prog_1_method_5_code
def yX3_term : MethodName := ⟨RX3, "term", "(I)I"⟩
abbrev cX3_convergent : ByteArray := prog_1_method_6_code
def yX3_convergent : MethodName := ⟨RX3, "convergent", "(II)I"⟩
abbrev cX3_way : ByteArray := prog_1_method_7_code
def yX3_way : MethodName := ⟨RX3, "way", "(I)I"⟩
abbrev cX3_run : ByteArray := prog_1_method_8_code
def yX3_run : MethodName := ⟨RX3, "run", "(I)I"⟩
abbrev cX3_go : ByteArray := prog_1_method_9_code
def yX3_go : MethodName := ⟨RX3, "go", "(II)I"⟩
abbrev cX3_up : ByteArray := prog_1_method_10_code
def yX3_up : MethodName := ⟨RX3, "up", "()I"⟩
abbrev cX3_near : ByteArray := prog_1_method_11_code
def yX3_near : MethodName := ⟨RX3, "near", "(III)I"⟩
abbrev cX3_between : ByteArray := prog_1_method_12_code
def yX3_between : MethodName := ⟨RX3, "between", "(IIII)I"⟩
abbrev cX3_row : ByteArray := prog_1_method_13_code
def yX3_row : MethodName := ⟨RX3, "row", "(I)I"⟩
abbrev cX3_pick : ByteArray := prog_1_method_14_code
def yX3_pick : MethodName := ⟨RX3, "pick", "(II)I"⟩
abbrev cX3_place : ByteArray := prog_1_method_15_code
def yX3_place : MethodName := ⟨RX3, "place", "(I)I"⟩
abbrev cX3_floors : ByteArray := prog_1_method_16_code
def yX3_floors : MethodName := ⟨RX3, "floors", "(I)J"⟩
abbrev cX3_sawteeth : ByteArray := prog_1_method_17_code
def yX3_sawteeth : MethodName := ⟨RX3, "sawteeth", "()J"⟩
abbrev cX3_check : ByteArray := prog_1_method_18_code
def yX3_check : MethodName := ⟨RX3, "check", "()I"⟩
abbrev cX3_isWithin : ByteArray := prog_1_method_19_code
def yX3_isWithin : MethodName := ⟨RX3, "isWithin", "(III)Z"⟩
abbrev cX3_topOrBottom : ByteArray := prog_1_method_20_code
def yX3_topOrBottom : MethodName := ⟨RX3, "topOrBottom", "(III)I"⟩
abbrev cX3_isTerm : ByteArray := prog_1_method_21_code
def yX3_isTerm : MethodName := ⟨RX3, "isTerm", "(I)Z"⟩
abbrev cX3_stepOn : ByteArray := prog_1_method_22_code
def yX3_stepOn : MethodName := ⟨RX3, "stepOn", "(II)V"⟩
def wsX3_init_r1 : List Cond := [Cond.methodLink RX3 1 objectInit, Cond.instanceMethod objectInit, Cond.code objectInit ⟨#[0xb1]⟩ 1 none, Cond.classLink RX3 7 RX0, Cond.instantiable RX0 4, Cond.initialized RX0, Cond.fieldLink RX3 10 "SternDesk" "hand" "LSternDesk$Expansion;", Cond.classLink RX3 16 RX2, Cond.instantiable RX2 1, Cond.initialized RX2, Cond.fieldLink RX3 19 "SternDesk" "rows" "LSternDesk$Rows;", Cond.instanceMethod yX0_init, Cond.code yX0_init cX0_init 1 none, Cond.methodLink RX0 3 objectInit, Cond.arrayClass .int, Cond.fieldLink RX0 9 "SternDesk$Expansion" "quotients" "[I", Cond.fieldLink RX0 15 "SternDesk$Expansion" "tops" "[I", Cond.fieldLink RX0 18 "SternDesk$Expansion" "bottoms" "[I", Cond.methodLink RX3 18 yX2_init, Cond.instanceMethod yX2_init, Cond.code yX2_init cX2_init 3 none, Cond.methodLink RX2 3 objectInit, Cond.fieldLink RX2 9 "SternDesk$Rows" "moebiusSums" "[I", Cond.methodLink RX3 23 yX0_expand]
def wsX3_init_r2 : List Cond := [Cond.instanceMethod yX0_expand, Cond.selects RX0 yX0_expand yX0_expand, Cond.code yX0_expand cX0_expand 8 none, Cond.methodLink RX0 38 yX0_startAnew, Cond.instanceMethod yX0_startAnew, Cond.selects RX0 yX0_startAnew yX0_startAnew, Cond.code yX0_startAnew cX0_startAnew 1 none, Cond.fieldLink RX0 21 "SternDesk$Expansion" "count" "I", Cond.methodLink RX0 41 yX0_addTerm, Cond.instanceMethod yX0_addTerm, Cond.selects RX0 yX0_addTerm yX0_addTerm, Cond.code yX0_addTerm cX0_addTerm 4 none, Cond.methodLink RX0 25 yX0_top, Cond.instanceMethod yX0_top, Cond.selects RX0 yX0_top yX0_top, Cond.code yX0_top cX0_top 1 (some .int), Cond.methodLink RX0 29 yX0_topBefore, Cond.instanceMethod yX0_topBefore, Cond.selects RX0 yX0_topBefore yX0_topBefore, Cond.code yX0_topBefore cX0_topBefore 1 (some .int), Cond.methodLink RX0 32 yX0_bottom, Cond.instanceMethod yX0_bottom, Cond.selects RX0 yX0_bottom yX0_bottom, Cond.code yX0_bottom cX0_bottom 1 (some .int)]
def wsX3_init_r3 : List Cond := [Cond.methodLink RX0 35 yX0_bottomBefore, Cond.instanceMethod yX0_bottomBefore, Cond.selects RX0 yX0_bottomBefore yX0_bottomBefore, Cond.code yX0_bottomBefore cX0_bottomBefore 1 (some .int)]
def wsX3_init : List Cond := .code yX3_init cX3_init 1 none :: ((wsX3_init_r1 ++ (wsX3_init_r2 ++ wsX3_init_r3)) ++ wsX00 ++ wsX30 ++ wsX20)
def wsX3_isWithin : List Cond := .code yX3_isWithin cX3_isWithin 3 (some .boolean) :: ([])
def wsX3_topOrBottom : List Cond := .code yX3_topOrBottom cX3_topOrBottom 3 (some .int) :: ([])
def wsX3_part : List Cond := .code yX3_part cX3_part 2 (some .int) :: ([.fieldLink RX3 10 "SternDesk" "hand" "LSternDesk$Expansion;", .methodLink RX3 39 yX0_top, .instanceMethod yX0_top, .selects RX0 yX0_top yX0_top, .initialized RX0, .code yX0_top cX0_top 1 (some .int), .fieldLink RX0 15 "SternDesk$Expansion" "tops" "[I", .fieldLink RX0 21 "SternDesk$Expansion" "count" "I", .methodLink RX3 43 yX0_bottom, .instanceMethod yX0_bottom, .selects RX0 yX0_bottom yX0_bottom, .code yX0_bottom cX0_bottom 1 (some .int), .fieldLink RX0 18 "SternDesk$Expansion" "bottoms" "[I", .methodLink RX3 46 yX3_topOrBottom, .static yX3_topOrBottom, .initialized RX3, .code yX3_topOrBottom cX3_topOrBottom 3 (some .int)] ++ wsX30 ++ wsX00)
def wsX3_terms : List Cond := .code yX3_terms cX3_terms 1 (some .int) :: ([.fieldLink RX3 10 "SternDesk" "hand" "LSternDesk$Expansion;", .fieldLink RX3 50 "SternDesk$Expansion" "count" "I"] ++ wsX30 ++ wsX00)
def wsX3_isTerm : List Cond := .code yX3_isTerm cX3_isTerm 2 (some .boolean) :: ([.fieldLink RX3 10 "SternDesk" "hand" "LSternDesk$Expansion;", .fieldLink RX3 50 "SternDesk$Expansion" "count" "I"] ++ wsX30 ++ wsX00)
def wsX3_term : List Cond := .code yX3_term cX3_term 2 (some .int) :: ([.fieldLink RX3 10 "SternDesk" "hand" "LSternDesk$Expansion;", .fieldLink RX3 58 "SternDesk$Expansion" "quotients" "[I", .methodLink RX3 54 yX3_isTerm, .instanceMethod yX3_isTerm, .selects RX3 yX3_isTerm yX3_isTerm, .initialized RX3, .code yX3_isTerm cX3_isTerm 2 (some .boolean), .fieldLink RX3 50 "SternDesk$Expansion" "count" "I"] ++ wsX30 ++ wsX00)
def wsX3_convergent : List Cond := .code yX3_convergent cX3_convergent 3 (some .int) :: ([.fieldLink RX3 10 "SternDesk" "hand" "LSternDesk$Expansion;", .fieldLink RX3 62 "SternDesk$Expansion" "tops" "[I", .fieldLink RX3 65 "SternDesk$Expansion" "bottoms" "[I", .methodLink RX3 54 yX3_isTerm, .instanceMethod yX3_isTerm, .selects RX3 yX3_isTerm yX3_isTerm, .initialized RX3, .code yX3_isTerm cX3_isTerm 2 (some .boolean), .fieldLink RX3 50 "SternDesk$Expansion" "count" "I", .methodLink RX3 46 yX3_topOrBottom, .static yX3_topOrBottom, .code yX3_topOrBottom cX3_topOrBottom 3 (some .int)] ++ wsX30 ++ wsX00)
def wsX3_way_r1 : List Cond := [Cond.fieldLink RX3 10 "SternDesk" "hand" "LSternDesk$Expansion;", Cond.methodLink RX3 39 yX0_top, Cond.instanceMethod yX0_top, Cond.selects RX0 yX0_top yX0_top, Cond.initialized RX0, Cond.code yX0_top cX0_top 1 (some .int), Cond.fieldLink RX0 15 "SternDesk$Expansion" "tops" "[I", Cond.fieldLink RX0 21 "SternDesk$Expansion" "count" "I", Cond.methodLink RX3 68 yX0_countSteps, Cond.instanceMethod yX0_countSteps, Cond.selects RX0 yX0_countSteps yX0_countSteps, Cond.code yX0_countSteps cX0_countSteps 3 (some .int), Cond.fieldLink RX0 9 "SternDesk$Expansion" "quotients" "[I", Cond.methodLink RX3 71 yX0_countRuns, Cond.instanceMethod yX0_countRuns, Cond.selects RX0 yX0_countRuns yX0_countRuns, Cond.code yX0_countRuns cX0_countRuns 1 (some .int), Cond.methodLink RX0 25 yX0_top, Cond.methodLink RX0 32 yX0_bottom, Cond.instanceMethod yX0_bottom, Cond.selects RX0 yX0_bottom yX0_bottom, Cond.code yX0_bottom cX0_bottom 1 (some .int), Cond.fieldLink RX0 18 "SternDesk$Expansion" "bottoms" "[I", Cond.methodLink RX0 45 yX0_firstTermWithSteps]
def wsX3_way_r2 : List Cond := [Cond.instanceMethod yX0_firstTermWithSteps, Cond.selects RX0 yX0_firstTermWithSteps yX0_firstTermWithSteps, Cond.code yX0_firstTermWithSteps cX0_firstTermWithSteps 1 (some .int), Cond.methodLink RX3 46 yX3_topOrBottom, Cond.static yX3_topOrBottom, Cond.initialized RX3, Cond.code yX3_topOrBottom cX3_topOrBottom 3 (some .int)]
def wsX3_way : List Cond := .code yX3_way cX3_way 2 (some .int) :: ((wsX3_way_r1 ++ wsX3_way_r2) ++ wsX30 ++ wsX00)
def wsX3_run_r1 : List Cond := [Cond.fieldLink RX3 10 "SternDesk" "hand" "LSternDesk$Expansion;", Cond.methodLink RX3 71 yX0_countRuns, Cond.instanceMethod yX0_countRuns, Cond.selects RX0 yX0_countRuns yX0_countRuns, Cond.initialized RX0, Cond.code yX0_countRuns cX0_countRuns 1 (some .int), Cond.fieldLink RX0 21 "SternDesk$Expansion" "count" "I", Cond.methodLink RX0 25 yX0_top, Cond.instanceMethod yX0_top, Cond.selects RX0 yX0_top yX0_top, Cond.code yX0_top cX0_top 1 (some .int), Cond.fieldLink RX0 15 "SternDesk$Expansion" "tops" "[I", Cond.methodLink RX0 32 yX0_bottom, Cond.instanceMethod yX0_bottom, Cond.selects RX0 yX0_bottom yX0_bottom, Cond.code yX0_bottom cX0_bottom 1 (some .int), Cond.fieldLink RX0 18 "SternDesk$Expansion" "bottoms" "[I", Cond.methodLink RX0 45 yX0_firstTermWithSteps, Cond.instanceMethod yX0_firstTermWithSteps, Cond.selects RX0 yX0_firstTermWithSteps yX0_firstTermWithSteps, Cond.code yX0_firstTermWithSteps cX0_firstTermWithSteps 1 (some .int), Cond.fieldLink RX0 9 "SternDesk$Expansion" "quotients" "[I", Cond.methodLink RX3 74 yX0_stepsOfRun, Cond.instanceMethod yX0_stepsOfRun]
def wsX3_run_r2 : List Cond := [Cond.selects RX0 yX0_stepsOfRun yX0_stepsOfRun, Cond.code yX0_stepsOfRun cX0_stepsOfRun 4 (some .int)]
def wsX3_run : List Cond := .code yX3_run cX3_run 2 (some .int) :: ((wsX3_run_r1 ++ wsX3_run_r2) ++ wsX30 ++ wsX00)
def wsX3_go_r1 : List Cond := [Cond.constant RX3 27 (100000), Cond.fieldLink RX3 10 "SternDesk" "hand" "LSternDesk$Expansion;", Cond.fieldLink RX3 82 "SternDesk$Fraction" "top" "I", Cond.fieldLink RX3 86 "SternDesk$Fraction" "bottom" "I", Cond.constantLong RX3 88 (100000), Cond.methodLink RX3 28 yX3_isWithin, Cond.static yX3_isWithin, Cond.initialized RX3, Cond.code yX3_isWithin cX3_isWithin 3 (some .boolean), Cond.methodLink RX3 39 yX0_top, Cond.instanceMethod yX0_top, Cond.selects RX0 yX0_top yX0_top, Cond.initialized RX0, Cond.code yX0_top cX0_top 1 (some .int), Cond.fieldLink RX0 15 "SternDesk$Expansion" "tops" "[I", Cond.fieldLink RX0 21 "SternDesk$Expansion" "count" "I", Cond.methodLink RX3 78 yX0_neighbourAt, Cond.instanceMethod yX0_neighbourAt, Cond.selects RX0 yX0_neighbourAt yX0_neighbourAt, Cond.code yX0_neighbourAt cX0_neighbourAt 2 (some (.object "SternDesk$Fraction")), Cond.classLink RX0 48 RX1, Cond.instantiable RX1 2, Cond.initialized RX1, Cond.methodLink RX0 29 yX0_topBefore]
def wsX3_go_r2 : List Cond := [Cond.instanceMethod yX0_topBefore, Cond.selects RX0 yX0_topBefore yX0_topBefore, Cond.code yX0_topBefore cX0_topBefore 1 (some .int), Cond.methodLink RX0 35 yX0_bottomBefore, Cond.instanceMethod yX0_bottomBefore, Cond.selects RX0 yX0_bottomBefore yX0_bottomBefore, Cond.code yX0_bottomBefore cX0_bottomBefore 1 (some .int), Cond.fieldLink RX0 18 "SternDesk$Expansion" "bottoms" "[I", Cond.methodLink RX0 50 yX1_init, Cond.instanceMethod yX1_init, Cond.code yX1_init cX1_init 3 none, Cond.methodLink RX1 1 objectInit, Cond.instanceMethod objectInit, Cond.code objectInit ⟨#[0xb1]⟩ 1 none, Cond.fieldLink RX1 7 "SternDesk$Fraction" "top" "I", Cond.fieldLink RX1 13 "SternDesk$Fraction" "bottom" "I", Cond.methodLink RX0 25 yX0_top, Cond.methodLink RX0 32 yX0_bottom, Cond.instanceMethod yX0_bottom, Cond.selects RX0 yX0_bottom yX0_bottom, Cond.code yX0_bottom cX0_bottom 1 (some .int), Cond.methodLink RX3 43 yX0_bottom, Cond.methodLink RX3 23 yX0_expand, Cond.instanceMethod yX0_expand]
def wsX3_go_r3 : List Cond := [Cond.selects RX0 yX0_expand yX0_expand, Cond.code yX0_expand cX0_expand 8 none, Cond.methodLink RX0 38 yX0_startAnew, Cond.instanceMethod yX0_startAnew, Cond.selects RX0 yX0_startAnew yX0_startAnew, Cond.code yX0_startAnew cX0_startAnew 1 none, Cond.methodLink RX0 41 yX0_addTerm, Cond.instanceMethod yX0_addTerm, Cond.selects RX0 yX0_addTerm yX0_addTerm, Cond.code yX0_addTerm cX0_addTerm 4 none, Cond.fieldLink RX0 9 "SternDesk$Expansion" "quotients" "[I"]
def wsX3_go : List Cond := .code yX3_go cX3_go 8 (some .int) :: ((wsX3_go_r1 ++ (wsX3_go_r2 ++ wsX3_go_r3)) ++ wsX30 ++ wsX10 ++ wsX00)
def wsX3_up_r1 : List Cond := [Cond.fieldLink RX3 10 "SternDesk" "hand" "LSternDesk$Expansion;", Cond.methodLink RX3 71 yX0_countRuns, Cond.instanceMethod yX0_countRuns, Cond.selects RX0 yX0_countRuns yX0_countRuns, Cond.initialized RX0, Cond.code yX0_countRuns cX0_countRuns 1 (some .int), Cond.fieldLink RX0 21 "SternDesk$Expansion" "count" "I", Cond.methodLink RX0 25 yX0_top, Cond.instanceMethod yX0_top, Cond.selects RX0 yX0_top yX0_top, Cond.code yX0_top cX0_top 1 (some .int), Cond.fieldLink RX0 15 "SternDesk$Expansion" "tops" "[I", Cond.methodLink RX0 32 yX0_bottom, Cond.instanceMethod yX0_bottom, Cond.selects RX0 yX0_bottom yX0_bottom, Cond.code yX0_bottom cX0_bottom 1 (some .int), Cond.fieldLink RX0 18 "SternDesk$Expansion" "bottoms" "[I", Cond.methodLink RX0 45 yX0_firstTermWithSteps, Cond.instanceMethod yX0_firstTermWithSteps, Cond.selects RX0 yX0_firstTermWithSteps yX0_firstTermWithSteps, Cond.code yX0_firstTermWithSteps cX0_firstTermWithSteps 1 (some .int), Cond.fieldLink RX0 9 "SternDesk$Expansion" "quotients" "[I", Cond.methodLink RX3 39 yX0_top, Cond.methodLink RX3 90 yX0_topBefore]
def wsX3_up_r2 : List Cond := [Cond.instanceMethod yX0_topBefore, Cond.selects RX0 yX0_topBefore yX0_topBefore, Cond.code yX0_topBefore cX0_topBefore 1 (some .int), Cond.methodLink RX3 43 yX0_bottom, Cond.methodLink RX3 93 yX0_bottomBefore, Cond.instanceMethod yX0_bottomBefore, Cond.selects RX0 yX0_bottomBefore yX0_bottomBefore, Cond.code yX0_bottomBefore cX0_bottomBefore 1 (some .int), Cond.methodLink RX3 23 yX0_expand, Cond.instanceMethod yX0_expand, Cond.selects RX0 yX0_expand yX0_expand, Cond.code yX0_expand cX0_expand 8 none, Cond.methodLink RX0 38 yX0_startAnew, Cond.instanceMethod yX0_startAnew, Cond.selects RX0 yX0_startAnew yX0_startAnew, Cond.code yX0_startAnew cX0_startAnew 1 none, Cond.methodLink RX0 41 yX0_addTerm, Cond.instanceMethod yX0_addTerm, Cond.selects RX0 yX0_addTerm yX0_addTerm, Cond.code yX0_addTerm cX0_addTerm 4 none, Cond.methodLink RX0 29 yX0_topBefore, Cond.methodLink RX0 35 yX0_bottomBefore]
def wsX3_up : List Cond := .code yX3_up cX3_up 1 (some .int) :: ((wsX3_up_r1 ++ wsX3_up_r2) ++ wsX30 ++ wsX00)
def wsX3_row : List Cond := .code yX3_row cX3_row 2 (some .int) :: ([.fieldLink RX3 19 "SternDesk" "rows" "LSternDesk$Rows;", .methodLink RX3 28 yX3_isWithin, .static yX3_isWithin, .initialized RX3, .code yX3_isWithin cX3_isWithin 3 (some .boolean), .methodLink RX3 111 yX2_countAll, .instanceMethod yX2_countAll, .selects RX2 yX2_countAll yX2_countAll, .initialized RX2, .code yX2_countAll cX2_countAll 2 (some .int), .methodLink RX2 15 yX2_countInside, .instanceMethod yX2_countInside, .selects RX2 yX2_countInside yX2_countInside, .code yX2_countInside cX2_countInside 10 (some .int), .fieldLink RX2 9 "SternDesk$Rows" "moebiusSums" "[I", .static yX3_sumOfFloors, .code yX3_sumOfFloors cX3_sumOfFloors 15 (some .long), .constantLong RX3 132 (2)] ++ wsX30 ++ wsX20)
def wsX3_stepOn_r1 : List Cond := [Cond.fieldLink RX3 10 "SternDesk" "hand" "LSternDesk$Expansion;", Cond.methodLink RX3 39 yX0_top, Cond.instanceMethod yX0_top, Cond.selects RX0 yX0_top yX0_top, Cond.initialized RX0, Cond.code yX0_top cX0_top 1 (some .int), Cond.fieldLink RX0 15 "SternDesk$Expansion" "tops" "[I", Cond.fieldLink RX0 21 "SternDesk$Expansion" "count" "I", Cond.methodLink RX3 43 yX0_bottom, Cond.instanceMethod yX0_bottom, Cond.selects RX0 yX0_bottom yX0_bottom, Cond.code yX0_bottom cX0_bottom 1 (some .int), Cond.fieldLink RX0 18 "SternDesk$Expansion" "bottoms" "[I", Cond.methodLink RX3 144 yX2_bottomBehind, Cond.static yX2_bottomBehind, Cond.initialized RX2, Cond.code yX2_bottomBehind cX2_bottomBehind 4 (some .int), Cond.methodLink RX3 23 yX0_expand, Cond.instanceMethod yX0_expand, Cond.selects RX0 yX0_expand yX0_expand, Cond.code yX0_expand cX0_expand 8 none, Cond.methodLink RX0 38 yX0_startAnew, Cond.instanceMethod yX0_startAnew, Cond.selects RX0 yX0_startAnew yX0_startAnew]
def wsX3_stepOn_r2 : List Cond := [Cond.code yX0_startAnew cX0_startAnew 1 none, Cond.methodLink RX0 41 yX0_addTerm, Cond.instanceMethod yX0_addTerm, Cond.selects RX0 yX0_addTerm yX0_addTerm, Cond.code yX0_addTerm cX0_addTerm 4 none, Cond.fieldLink RX0 9 "SternDesk$Expansion" "quotients" "[I", Cond.methodLink RX0 25 yX0_top, Cond.methodLink RX0 29 yX0_topBefore, Cond.instanceMethod yX0_topBefore, Cond.selects RX0 yX0_topBefore yX0_topBefore, Cond.code yX0_topBefore cX0_topBefore 1 (some .int), Cond.methodLink RX0 32 yX0_bottom, Cond.methodLink RX0 35 yX0_bottomBefore, Cond.instanceMethod yX0_bottomBefore, Cond.selects RX0 yX0_bottomBefore yX0_bottomBefore, Cond.code yX0_bottomBefore cX0_bottomBefore 1 (some .int)]
def wsX3_stepOn : List Cond := .code yX3_stepOn cX3_stepOn 11 none :: ((wsX3_stepOn_r1 ++ wsX3_stepOn_r2) ++ wsX30 ++ wsX00)
def wsX3_pick_r1 : List Cond := [Cond.fieldLink RX3 19 "SternDesk" "rows" "LSternDesk$Rows;", Cond.fieldLink RX3 10 "SternDesk" "hand" "LSternDesk$Expansion;", Cond.methodLink RX3 28 yX3_isWithin, Cond.static yX3_isWithin, Cond.initialized RX3, Cond.code yX3_isWithin cX3_isWithin 3 (some .boolean), Cond.methodLink RX3 111 yX2_countAll, Cond.instanceMethod yX2_countAll, Cond.selects RX2 yX2_countAll yX2_countAll, Cond.initialized RX2, Cond.code yX2_countAll cX2_countAll 2 (some .int), Cond.methodLink RX2 15 yX2_countInside, Cond.instanceMethod yX2_countInside, Cond.selects RX2 yX2_countInside yX2_countInside, Cond.code yX2_countInside cX2_countInside 10 (some .int), Cond.fieldLink RX2 9 "SternDesk$Rows" "moebiusSums" "[I", Cond.static yX3_sumOfFloors, Cond.code yX3_sumOfFloors cX3_sumOfFloors 15 (some .long), Cond.constantLong RX3 132 (2), Cond.methodLink RX3 114 yX2_columnOf, Cond.instanceMethod yX2_columnOf, Cond.selects RX2 yX2_columnOf yX2_columnOf, Cond.code yX2_columnOf cX2_columnOf 7 (some .int), Cond.methodLink RX2 27 yX2_countBelow]
def wsX3_pick_r2 : List Cond := [Cond.instanceMethod yX2_countBelow, Cond.selects RX2 yX2_countBelow yX2_countBelow, Cond.code yX2_countBelow cX2_countBelow 4 (some .int), Cond.methodLink RX2 19 yX2_countAll, Cond.methodLink RX3 23 yX0_expand, Cond.instanceMethod yX0_expand, Cond.selects RX0 yX0_expand yX0_expand, Cond.initialized RX0, Cond.code yX0_expand cX0_expand 8 none, Cond.methodLink RX0 38 yX0_startAnew, Cond.instanceMethod yX0_startAnew, Cond.selects RX0 yX0_startAnew yX0_startAnew, Cond.code yX0_startAnew cX0_startAnew 1 none, Cond.fieldLink RX0 21 "SternDesk$Expansion" "count" "I", Cond.fieldLink RX0 15 "SternDesk$Expansion" "tops" "[I", Cond.fieldLink RX0 18 "SternDesk$Expansion" "bottoms" "[I", Cond.methodLink RX0 41 yX0_addTerm, Cond.instanceMethod yX0_addTerm, Cond.selects RX0 yX0_addTerm yX0_addTerm, Cond.code yX0_addTerm cX0_addTerm 4 none, Cond.fieldLink RX0 9 "SternDesk$Expansion" "quotients" "[I", Cond.methodLink RX0 25 yX0_top, Cond.instanceMethod yX0_top, Cond.selects RX0 yX0_top yX0_top]
def wsX3_pick_r3 : List Cond := [Cond.code yX0_top cX0_top 1 (some .int), Cond.methodLink RX0 29 yX0_topBefore, Cond.instanceMethod yX0_topBefore, Cond.selects RX0 yX0_topBefore yX0_topBefore, Cond.code yX0_topBefore cX0_topBefore 1 (some .int), Cond.methodLink RX0 32 yX0_bottom, Cond.instanceMethod yX0_bottom, Cond.selects RX0 yX0_bottom yX0_bottom, Cond.code yX0_bottom cX0_bottom 1 (some .int), Cond.methodLink RX0 35 yX0_bottomBefore, Cond.instanceMethod yX0_bottomBefore, Cond.selects RX0 yX0_bottomBefore yX0_bottomBefore, Cond.code yX0_bottomBefore cX0_bottomBefore 1 (some .int), Cond.methodLink RX3 118 yX2_countBelow, Cond.methodLink RX3 121 yX3_stepOn, Cond.instanceMethod yX3_stepOn, Cond.selects RX3 yX3_stepOn yX3_stepOn, Cond.code yX3_stepOn cX3_stepOn 11 none, Cond.methodLink RX3 39 yX0_top, Cond.methodLink RX3 43 yX0_bottom, Cond.methodLink RX3 144 yX2_bottomBehind, Cond.static yX2_bottomBehind, Cond.code yX2_bottomBehind cX2_bottomBehind 4 (some .int)]
def wsX3_pick : List Cond := .code yX3_pick cX3_pick 4 (some .int) :: ((wsX3_pick_r1 ++ (wsX3_pick_r2 ++ wsX3_pick_r3)) ++ wsX30 ++ wsX20 ++ wsX00)
def wsX3_place_r1 : List Cond := [Cond.fieldLink RX3 19 "SternDesk" "rows" "LSternDesk$Rows;", Cond.fieldLink RX3 10 "SternDesk" "hand" "LSternDesk$Expansion;", Cond.methodLink RX3 28 yX3_isWithin, Cond.static yX3_isWithin, Cond.initialized RX3, Cond.code yX3_isWithin cX3_isWithin 3 (some .boolean), Cond.methodLink RX3 39 yX0_top, Cond.instanceMethod yX0_top, Cond.selects RX0 yX0_top yX0_top, Cond.initialized RX0, Cond.code yX0_top cX0_top 1 (some .int), Cond.fieldLink RX0 15 "SternDesk$Expansion" "tops" "[I", Cond.fieldLink RX0 21 "SternDesk$Expansion" "count" "I", Cond.methodLink RX3 43 yX0_bottom, Cond.instanceMethod yX0_bottom, Cond.selects RX0 yX0_bottom yX0_bottom, Cond.code yX0_bottom cX0_bottom 1 (some .int), Cond.fieldLink RX0 18 "SternDesk$Expansion" "bottoms" "[I", Cond.methodLink RX3 118 yX2_countBelow, Cond.instanceMethod yX2_countBelow, Cond.selects RX2 yX2_countBelow yX2_countBelow, Cond.initialized RX2, Cond.code yX2_countBelow cX2_countBelow 4 (some .int), Cond.methodLink RX2 19 yX2_countAll]
def wsX3_place_r2 : List Cond := [Cond.instanceMethod yX2_countAll, Cond.selects RX2 yX2_countAll yX2_countAll, Cond.code yX2_countAll cX2_countAll 2 (some .int), Cond.methodLink RX2 15 yX2_countInside, Cond.instanceMethod yX2_countInside, Cond.selects RX2 yX2_countInside yX2_countInside, Cond.code yX2_countInside cX2_countInside 10 (some .int), Cond.fieldLink RX2 9 "SternDesk$Rows" "moebiusSums" "[I", Cond.static yX3_sumOfFloors, Cond.code yX3_sumOfFloors cX3_sumOfFloors 15 (some .long), Cond.constantLong RX3 132 (2)]
def wsX3_place : List Cond := .code yX3_place cX3_place 2 (some .int) :: ((wsX3_place_r1 ++ wsX3_place_r2) ++ wsX30 ++ wsX00 ++ wsX20)
def wsX3_floors : List Cond := .code yX3_floors cX3_floors 2 (some .long) :: ([.constant RX3 27 (100000), .fieldLink RX3 10 "SternDesk" "hand" "LSternDesk$Expansion;", .constantLong RX3 128 (-1), .methodLink RX3 28 yX3_isWithin, .static yX3_isWithin, .initialized RX3, .code yX3_isWithin cX3_isWithin 3 (some .boolean), .methodLink RX3 39 yX0_top, .instanceMethod yX0_top, .selects RX0 yX0_top yX0_top, .initialized RX0, .code yX0_top cX0_top 1 (some .int), .fieldLink RX0 15 "SternDesk$Expansion" "tops" "[I", .fieldLink RX0 21 "SternDesk$Expansion" "count" "I", .methodLink RX3 43 yX0_bottom, .instanceMethod yX0_bottom, .selects RX0 yX0_bottom yX0_bottom, .code yX0_bottom cX0_bottom 1 (some .int), .fieldLink RX0 18 "SternDesk$Expansion" "bottoms" "[I", .methodLink RX3 124 yX3_sumOfFloors, .static yX3_sumOfFloors, .code yX3_sumOfFloors cX3_sumOfFloors 15 (some .long), .constantLong RX3 132 (2)] ++ wsX30 ++ wsX00)
def wsX3_sawteeth : List Cond := .code yX3_sawteeth cX3_sawteeth 12 (some .long) :: ([.fieldLink RX3 10 "SternDesk" "hand" "LSternDesk$Expansion;", .fieldLink RX3 50 "SternDesk$Expansion" "count" "I", .fieldLink RX3 58 "SternDesk$Expansion" "quotients" "[I", .constantLong RX3 130 (3), .constantLong RX3 132 (2), .methodLink RX3 43 yX0_bottom, .instanceMethod yX0_bottom, .selects RX0 yX0_bottom yX0_bottom, .initialized RX0, .code yX0_bottom cX0_bottom 1 (some .int), .fieldLink RX0 18 "SternDesk$Expansion" "bottoms" "[I", .fieldLink RX0 21 "SternDesk$Expansion" "count" "I", .methodLink RX3 39 yX0_top, .instanceMethod yX0_top, .selects RX0 yX0_top yX0_top, .code yX0_top cX0_top 1 (some .int), .fieldLink RX0 15 "SternDesk$Expansion" "tops" "[I", .methodLink RX3 93 yX0_bottomBefore, .instanceMethod yX0_bottomBefore, .selects RX0 yX0_bottomBefore yX0_bottomBefore, .code yX0_bottomBefore cX0_bottomBefore 1 (some .int)] ++ wsX30 ++ wsX00)
def wsX3_check_r1 : List Cond := [Cond.fieldLink RX3 10 "SternDesk" "hand" "LSternDesk$Expansion;", Cond.methodLink RX3 134 yX0_termsMakeIt, Cond.instanceMethod yX0_termsMakeIt, Cond.selects RX0 yX0_termsMakeIt yX0_termsMakeIt, Cond.initialized RX0, Cond.code yX0_termsMakeIt cX0_termsMakeIt 8 (some .boolean), Cond.fieldLink RX0 21 "SternDesk$Expansion" "count" "I", Cond.fieldLink RX0 9 "SternDesk$Expansion" "quotients" "[I", Cond.methodLink RX0 25 yX0_top, Cond.instanceMethod yX0_top, Cond.selects RX0 yX0_top yX0_top, Cond.code yX0_top cX0_top 1 (some .int), Cond.fieldLink RX0 15 "SternDesk$Expansion" "tops" "[I", Cond.methodLink RX0 32 yX0_bottom, Cond.instanceMethod yX0_bottom, Cond.selects RX0 yX0_bottom yX0_bottom, Cond.code yX0_bottom cX0_bottom 1 (some .int), Cond.fieldLink RX0 18 "SternDesk$Expansion" "bottoms" "[I", Cond.methodLink RX3 138 yX0_convergentsAreClose, Cond.instanceMethod yX0_convergentsAreClose, Cond.selects RX0 yX0_convergentsAreClose yX0_convergentsAreClose, Cond.code yX0_convergentsAreClose cX0_convergentsAreClose 4 (some .boolean), Cond.constantLong RX0 65 (-1), Cond.methodLink RX3 141 yX0_wayLeadsToIt]
def wsX3_check_r2 : List Cond := [Cond.instanceMethod yX0_wayLeadsToIt, Cond.selects RX0 yX0_wayLeadsToIt yX0_wayLeadsToIt, Cond.code yX0_wayLeadsToIt cX0_wayLeadsToIt 12 (some .boolean), Cond.methodLink RX0 67 yX0_countRuns, Cond.instanceMethod yX0_countRuns, Cond.selects RX0 yX0_countRuns yX0_countRuns, Cond.code yX0_countRuns cX0_countRuns 1 (some .int), Cond.methodLink RX0 45 yX0_firstTermWithSteps, Cond.instanceMethod yX0_firstTermWithSteps, Cond.selects RX0 yX0_firstTermWithSteps yX0_firstTermWithSteps, Cond.code yX0_firstTermWithSteps cX0_firstTermWithSteps 1 (some .int), Cond.methodLink RX0 70 yX0_stepsOfRun, Cond.instanceMethod yX0_stepsOfRun, Cond.selects RX0 yX0_stepsOfRun yX0_stepsOfRun, Cond.code yX0_stepsOfRun cX0_stepsOfRun 4 (some .int)]
def wsX3_check : List Cond := .code yX3_check cX3_check 1 (some .int) :: ((wsX3_check_r1 ++ wsX3_check_r2) ++ wsX30 ++ wsX00)
set_option maxRecDepth 20000 in
theorem ggX2_countInside_X3_sumOfFloors : GoodIn wsX2_countInside wsX3_sumOfFloors := goodIn_r _ [4, 5] (by decide +kernel) (by decide +kernel)
set_option maxRecDepth 20000 in
theorem gX2_countInside_X3_sumOfFloors_n23 : GoodIn wsX2_countInside (wsX3_sumOfFloors) := ggX2_countInside_X3_sumOfFloors
set_option maxRecDepth 20000 in
theorem ggX3_init_X0_init : GoodIn wsX3_init wsX0_init := goodIn_r _ [13, 14, 2, 3, 15, 16, 17, 18, 53, 54, 55, 56] (by decide +kernel) (by decide +kernel)
set_option maxRecDepth 20000 in
theorem gX3_init_X0_init_n9 : GoodIn wsX3_init (wsX0_init) := ggX3_init_X0_init
set_option maxRecDepth 20000 in
theorem ggX3_init_X2_init : GoodIn wsX3_init wsX2_init := goodIn_r _ [21, 22, 2, 3, 15, 23, 59] (by decide +kernel) (by decide +kernel)
set_option maxRecDepth 20000 in
theorem gX3_init_X2_init : GoodIn wsX3_init (wsX2_init) := ggX3_init_X2_init
set_option maxRecDepth 20000 in
theorem ggX3_init_X0_expand : GoodIn wsX3_init wsX0_expand := goodIn_r _ [27, 28, 29, 30, 6, 31, 32, 17, 18, 33, 34, 35, 36, 16, 37, 38, 39, 40, 41, 42, 43, 44, 45, 46, 47, 48, 49, 50, 51, 52, 53, 54, 55, 56] (by decide +kernel) (by decide +kernel)
set_option maxRecDepth 20000 in
theorem gX3_init_X0_expand : GoodIn wsX3_init (wsV RX3 23 RX0 yX0_expand wsX0_expand) := goodIn_app (goodIn_of _ (by decide +kernel)) ggX3_init_X0_expand
theorem dX3_init_0 : decode cX3_init 0 = .ok (.aload_n 0, 1) := by decide +kernel
theorem dX3_init_1 : decode cX3_init 1 = .ok (.invokespecial 1, 3) := by decide +kernel
theorem dX3_init_4 : decode cX3_init 4 = .ok (.aload_n 0, 1) := by decide +kernel
theorem dX3_init_5 : decode cX3_init 5 = .ok (.new 7, 3) := by decide +kernel
theorem dX3_init_8 : decode cX3_init 8 = .ok (.dup, 1) := by decide +kernel
theorem dX3_init_9 : decode cX3_init 9 = .ok (.invokespecial 9, 3) := by decide +kernel
theorem dX3_init_12 : decode cX3_init 12 = .ok (.putfield 10, 3) := by decide +kernel
theorem dX3_init_15 : decode cX3_init 15 = .ok (.aload_n 0, 1) := by decide +kernel
theorem dX3_init_16 : decode cX3_init 16 = .ok (.new 16, 3) := by decide +kernel
theorem dX3_init_19 : decode cX3_init 19 = .ok (.dup, 1) := by decide +kernel
theorem dX3_init_20 : decode cX3_init 20 = .ok (.invokespecial 18, 3) := by decide +kernel
theorem dX3_init_23 : decode cX3_init 23 = .ok (.putfield 19, 3) := by decide +kernel
theorem dX3_init_26 : decode cX3_init 26 = .ok (.aload_n 0, 1) := by decide +kernel
theorem dX3_init_27 : decode cX3_init 27 = .ok (.getfield 10, 3) := by decide +kernel
theorem dX3_init_30 : decode cX3_init 30 = .ok (.iconst 1, 1) := by decide +kernel
theorem dX3_init_31 : decode cX3_init 31 = .ok (.iconst 1, 1) := by decide +kernel
theorem dX3_init_32 : decode cX3_init 32 = .ok (.invokevirtual 23, 3) := by decide +kernel
theorem dX3_init_35 : decode cX3_init 35 = .ok (.return_, 1) := by decide +kernel
theorem dX3_take_0 : decode cX3_take 0 = .ok (.iload_n 1, 1) := by decide +kernel
theorem dX3_take_1 : decode cX3_take 1 = .ok (.iconst 0, 1) := by decide +kernel
theorem dX3_take_2 : decode cX3_take 2 = .ok (.ldc 27, 2) := by decide +kernel
theorem dX3_take_4 : decode cX3_take 4 = .ok (.invokestatic 28, 3) := by decide +kernel
theorem dX3_take_7 : decode cX3_take 7 = .ok (.ifCond .eq 13, 3) := by decide +kernel
theorem dX3_take_10 : decode cX3_take 10 = .ok (.iload_n 2, 1) := by decide +kernel
theorem dX3_take_11 : decode cX3_take 11 = .ok (.iconst 1, 1) := by decide +kernel
theorem dX3_take_12 : decode cX3_take 12 = .ok (.ldc 27, 2) := by decide +kernel
theorem dX3_take_14 : decode cX3_take 14 = .ok (.invokestatic 28, 3) := by decide +kernel
theorem dX3_take_17 : decode cX3_take 17 = .ok (.ifCond .ne 13, 3) := by decide +kernel
theorem dX3_take_20 : decode cX3_take 20 = .ok (.new 32, 3) := by decide +kernel
theorem dX3_take_23 : decode cX3_take 23 = .ok (.dup, 1) := by decide +kernel
theorem dX3_take_24 : decode cX3_take 24 = .ok (.ldc 34, 2) := by decide +kernel
theorem dX3_take_26 : decode cX3_take 26 = .ok (.invokespecial 36, 3) := by decide +kernel
theorem dX3_take_29 : decode cX3_take 29 = .ok (.athrow, 1) := by decide +kernel
theorem dX3_take_30 : decode cX3_take 30 = .ok (.aload_n 0, 1) := by decide +kernel
theorem dX3_take_31 : decode cX3_take 31 = .ok (.getfield 10, 3) := by decide +kernel
theorem dX3_take_34 : decode cX3_take 34 = .ok (.iload_n 1, 1) := by decide +kernel
theorem dX3_take_35 : decode cX3_take 35 = .ok (.iload_n 2, 1) := by decide +kernel
theorem dX3_take_36 : decode cX3_take 36 = .ok (.invokevirtual 23, 3) := by decide +kernel
theorem dX3_take_39 : decode cX3_take 39 = .ok (.return_, 1) := by decide +kernel
set_option maxRecDepth 20000 in
theorem ggX3_part_X0_top : GoodIn wsX3_part wsX0_top := goodIn_r _ [6, 7, 8, 20, 21, 22, 23] (by decide +kernel) (by decide +kernel)
set_option maxRecDepth 20000 in
theorem gX3_part_X0_top : GoodIn wsX3_part (wsV RX3 39 RX0 yX0_top wsX0_top) := goodIn_app (goodIn_of _ (by decide +kernel)) ggX3_part_X0_top
set_option maxRecDepth 20000 in
theorem ggX3_part_X0_bottom : GoodIn wsX3_part wsX0_bottom := goodIn_r _ [12, 13, 8, 20, 21, 22, 23] (by decide +kernel) (by decide +kernel)
set_option maxRecDepth 20000 in
theorem gX3_part_X0_bottom : GoodIn wsX3_part (wsV RX3 43 RX0 yX0_bottom wsX0_bottom) := goodIn_app (goodIn_of _ (by decide +kernel)) ggX3_part_X0_bottom
set_option maxRecDepth 20000 in
theorem ggX3_part_X3_topOrBottom : GoodIn wsX3_part wsX3_topOrBottom := goodIn_r _ [17] (by decide +kernel) (by decide +kernel)
set_option maxRecDepth 20000 in
theorem gX3_part_X3_topOrBottom : GoodIn wsX3_part (va_wsS RX3 46 yX3_topOrBottom wsX3_topOrBottom) := goodIn_app (goodIn_of _ (by decide +kernel)) ggX3_part_X3_topOrBottom
theorem dX3_part_0 : decode cX3_part 0 = .ok (.iload_n 1, 1) := by decide +kernel
theorem dX3_part_1 : decode cX3_part 1 = .ok (.aload_n 0, 1) := by decide +kernel
theorem dX3_part_2 : decode cX3_part 2 = .ok (.getfield 10, 3) := by decide +kernel
theorem dX3_part_5 : decode cX3_part 5 = .ok (.invokevirtual 39, 3) := by decide +kernel
theorem dX3_part_8 : decode cX3_part 8 = .ok (.aload_n 0, 1) := by decide +kernel
theorem dX3_part_9 : decode cX3_part 9 = .ok (.getfield 10, 3) := by decide +kernel
theorem dX3_part_12 : decode cX3_part 12 = .ok (.invokevirtual 43, 3) := by decide +kernel
theorem dX3_part_15 : decode cX3_part 15 = .ok (.invokestatic 46, 3) := by decide +kernel
theorem dX3_part_18 : decode cX3_part 18 = .ok (.ireturn, 1) := by decide +kernel
theorem dX3_terms_0 : decode cX3_terms 0 = .ok (.aload_n 0, 1) := by decide +kernel
theorem dX3_terms_1 : decode cX3_terms 1 = .ok (.getfield 10, 3) := by decide +kernel
theorem dX3_terms_4 : decode cX3_terms 4 = .ok (.getfield 50, 3) := by decide +kernel
theorem dX3_terms_7 : decode cX3_terms 7 = .ok (.ireturn, 1) := by decide +kernel
set_option maxRecDepth 20000 in
theorem ggX3_term_X3_isTerm : GoodIn wsX3_term wsX3_isTerm := goodIn_r _ [7, 1, 8, 9, 10, 11, 12, 13, 14] (by decide +kernel) (by decide +kernel)
set_option maxRecDepth 20000 in
theorem gX3_term_X3_isTerm : GoodIn wsX3_term (wsV RX3 54 RX3 yX3_isTerm wsX3_isTerm) := goodIn_app (goodIn_of _ (by decide +kernel)) ggX3_term_X3_isTerm
theorem dX3_term_0 : decode cX3_term 0 = .ok (.aload_n 0, 1) := by decide +kernel
theorem dX3_term_1 : decode cX3_term 1 = .ok (.iload_n 1, 1) := by decide +kernel
theorem dX3_term_2 : decode cX3_term 2 = .ok (.invokevirtual 54, 3) := by decide +kernel
theorem dX3_term_5 : decode cX3_term 5 = .ok (.ifCond .eq 15, 3) := by decide +kernel
theorem dX3_term_8 : decode cX3_term 8 = .ok (.aload_n 0, 1) := by decide +kernel
theorem dX3_term_9 : decode cX3_term 9 = .ok (.getfield 10, 3) := by decide +kernel
theorem dX3_term_12 : decode cX3_term 12 = .ok (.getfield 58, 3) := by decide +kernel
theorem dX3_term_15 : decode cX3_term 15 = .ok (.iload_n 1, 1) := by decide +kernel
theorem dX3_term_16 : decode cX3_term 16 = .ok (.iaload, 1) := by decide +kernel
theorem dX3_term_17 : decode cX3_term 17 = .ok (.goto 4, 3) := by decide +kernel
theorem dX3_term_20 : decode cX3_term 20 = .ok (.iconst (-1), 1) := by decide +kernel
theorem dX3_term_21 : decode cX3_term 21 = .ok (.ireturn, 1) := by decide +kernel
set_option maxRecDepth 20000 in
theorem ggX3_convergent_X3_isTerm : GoodIn wsX3_convergent wsX3_isTerm := goodIn_r _ [8, 1, 9, 13, 14, 15, 16, 17, 18] (by decide +kernel) (by decide +kernel)
set_option maxRecDepth 20000 in
theorem gX3_convergent_X3_isTerm : GoodIn wsX3_convergent (wsV RX3 54 RX3 yX3_isTerm wsX3_isTerm) := goodIn_app (goodIn_of _ (by decide +kernel)) ggX3_convergent_X3_isTerm
set_option maxRecDepth 20000 in
theorem ggX3_convergent_X3_topOrBottom : GoodIn wsX3_convergent wsX3_topOrBottom := goodIn_r _ [12] (by decide +kernel) (by decide +kernel)
set_option maxRecDepth 20000 in
theorem gX3_convergent_X3_topOrBottom : GoodIn wsX3_convergent (va_wsS RX3 46 yX3_topOrBottom wsX3_topOrBottom) := goodIn_app (goodIn_of _ (by decide +kernel)) ggX3_convergent_X3_topOrBottom
theorem dX3_convergent_0 : decode cX3_convergent 0 = .ok (.aload_n 0, 1) := by decide +kernel
theorem dX3_convergent_1 : decode cX3_convergent 1 = .ok (.iload_n 1, 1) := by decide +kernel
theorem dX3_convergent_2 : decode cX3_convergent 2 = .ok (.invokevirtual 54, 3) := by decide +kernel
theorem dX3_convergent_5 : decode cX3_convergent 5 = .ok (.ifCond .eq 32, 3) := by decide +kernel
theorem dX3_convergent_8 : decode cX3_convergent 8 = .ok (.iload_n 2, 1) := by decide +kernel
theorem dX3_convergent_9 : decode cX3_convergent 9 = .ok (.aload_n 0, 1) := by decide +kernel
theorem dX3_convergent_10 : decode cX3_convergent 10 = .ok (.getfield 10, 3) := by decide +kernel
theorem dX3_convergent_13 : decode cX3_convergent 13 = .ok (.getfield 62, 3) := by decide +kernel
theorem dX3_convergent_16 : decode cX3_convergent 16 = .ok (.iload_n 1, 1) := by decide +kernel
theorem dX3_convergent_17 : decode cX3_convergent 17 = .ok (.iconst 1, 1) := by decide +kernel
theorem dX3_convergent_18 : decode cX3_convergent 18 = .ok (.iadd, 1) := by decide +kernel
theorem dX3_convergent_19 : decode cX3_convergent 19 = .ok (.iaload, 1) := by decide +kernel
theorem dX3_convergent_20 : decode cX3_convergent 20 = .ok (.aload_n 0, 1) := by decide +kernel
theorem dX3_convergent_21 : decode cX3_convergent 21 = .ok (.getfield 10, 3) := by decide +kernel
theorem dX3_convergent_24 : decode cX3_convergent 24 = .ok (.getfield 65, 3) := by decide +kernel
theorem dX3_convergent_27 : decode cX3_convergent 27 = .ok (.iload_n 1, 1) := by decide +kernel
theorem dX3_convergent_28 : decode cX3_convergent 28 = .ok (.iconst 1, 1) := by decide +kernel
theorem dX3_convergent_29 : decode cX3_convergent 29 = .ok (.iadd, 1) := by decide +kernel
theorem dX3_convergent_30 : decode cX3_convergent 30 = .ok (.iaload, 1) := by decide +kernel
theorem dX3_convergent_31 : decode cX3_convergent 31 = .ok (.invokestatic 46, 3) := by decide +kernel
theorem dX3_convergent_34 : decode cX3_convergent 34 = .ok (.goto 4, 3) := by decide +kernel
theorem dX3_convergent_37 : decode cX3_convergent 37 = .ok (.iconst (-1), 1) := by decide +kernel
theorem dX3_convergent_38 : decode cX3_convergent 38 = .ok (.ireturn, 1) := by decide +kernel
set_option maxRecDepth 20000 in
theorem ggX3_way_X0_top : GoodIn wsX3_way wsX0_top := goodIn_r _ [6, 7, 8, 34, 35, 36, 37] (by decide +kernel) (by decide +kernel)
set_option maxRecDepth 20000 in
theorem gX3_way_X0_top : GoodIn wsX3_way (wsV RX3 39 RX0 yX0_top wsX0_top) := goodIn_app (goodIn_of _ (by decide +kernel)) ggX3_way_X0_top
set_option maxRecDepth 20000 in
theorem ggX3_way_X0_countSteps : GoodIn wsX3_way wsX0_countSteps := goodIn_r _ [12, 8, 13, 34, 35, 36, 37] (by decide +kernel) (by decide +kernel)
set_option maxRecDepth 20000 in
theorem gX3_way_X0_countSteps : GoodIn wsX3_way (wsV RX3 68 RX0 yX0_countSteps wsX0_countSteps) := goodIn_app (goodIn_of _ (by decide +kernel)) ggX3_way_X0_countSteps
set_option maxRecDepth 20000 in
theorem ggX3_way_X0_countRuns : GoodIn wsX3_way wsX0_countRuns := goodIn_r _ [17, 8, 18, 3, 4, 5, 6, 7, 19, 20, 21, 22, 23, 24, 25, 26, 27, 13, 34, 35, 36, 37] (by decide +kernel) (by decide +kernel)
set_option maxRecDepth 20000 in
theorem gX3_way_X0_countRuns : GoodIn wsX3_way (wsV RX3 71 RX0 yX0_countRuns wsX0_countRuns) := goodIn_app (goodIn_of _ (by decide +kernel)) ggX3_way_X0_countRuns
set_option maxRecDepth 20000 in
theorem ggX3_way_X3_topOrBottom : GoodIn wsX3_way wsX3_topOrBottom := goodIn_r _ [31] (by decide +kernel) (by decide +kernel)
set_option maxRecDepth 20000 in
theorem gX3_way_X3_topOrBottom : GoodIn wsX3_way (va_wsS RX3 46 yX3_topOrBottom wsX3_topOrBottom) := goodIn_app (goodIn_of _ (by decide +kernel)) ggX3_way_X3_topOrBottom
theorem dX3_way_0 : decode cX3_way 0 = .ok (.aload_n 0, 1) := by decide +kernel
theorem dX3_way_1 : decode cX3_way 1 = .ok (.getfield 10, 3) := by decide +kernel
theorem dX3_way_4 : decode cX3_way 4 = .ok (.invokevirtual 39, 3) := by decide +kernel
theorem dX3_way_7 : decode cX3_way 7 = .ok (.ifCond .ne 5, 3) := by decide +kernel
theorem dX3_way_10 : decode cX3_way 10 = .ok (.iconst (-1), 1) := by decide +kernel
theorem dX3_way_11 : decode cX3_way 11 = .ok (.ireturn, 1) := by decide +kernel
theorem dX3_way_12 : decode cX3_way 12 = .ok (.iload_n 1, 1) := by decide +kernel
theorem dX3_way_13 : decode cX3_way 13 = .ok (.aload_n 0, 1) := by decide +kernel
theorem dX3_way_14 : decode cX3_way 14 = .ok (.getfield 10, 3) := by decide +kernel
theorem dX3_way_17 : decode cX3_way 17 = .ok (.invokevirtual 68, 3) := by decide +kernel
theorem dX3_way_20 : decode cX3_way 20 = .ok (.aload_n 0, 1) := by decide +kernel
theorem dX3_way_21 : decode cX3_way 21 = .ok (.getfield 10, 3) := by decide +kernel
theorem dX3_way_24 : decode cX3_way 24 = .ok (.invokevirtual 71, 3) := by decide +kernel
theorem dX3_way_27 : decode cX3_way 27 = .ok (.invokestatic 46, 3) := by decide +kernel
theorem dX3_way_30 : decode cX3_way 30 = .ok (.ireturn, 1) := by decide +kernel
set_option maxRecDepth 20000 in
theorem ggX3_run_X0_countRuns : GoodIn wsX3_run wsX0_countRuns := goodIn_r _ [6, 7, 8, 9, 10, 5, 11, 12, 13, 14, 15, 16, 17, 18, 19, 20, 21, 22, 29, 30, 31, 32] (by decide +kernel) (by decide +kernel)
set_option maxRecDepth 20000 in
theorem gX3_run_X0_countRuns : GoodIn wsX3_run (wsV RX3 71 RX0 yX0_countRuns wsX0_countRuns) := goodIn_app (goodIn_of _ (by decide +kernel)) ggX3_run_X0_countRuns
set_option maxRecDepth 20000 in
theorem ggX3_run_X0_stepsOfRun : GoodIn wsX3_run wsX0_stepsOfRun := goodIn_r _ [26, 7, 22, 18, 19, 20, 5, 21, 29, 30, 31, 32] (by decide +kernel) (by decide +kernel)
set_option maxRecDepth 20000 in
theorem gX3_run_X0_stepsOfRun : GoodIn wsX3_run (wsV RX3 74 RX0 yX0_stepsOfRun wsX0_stepsOfRun) := goodIn_app (goodIn_of _ (by decide +kernel)) ggX3_run_X0_stepsOfRun
theorem dX3_run_0 : decode cX3_run 0 = .ok (.iload_n 1, 1) := by decide +kernel
theorem dX3_run_1 : decode cX3_run 1 = .ok (.ifCond .lt 25, 3) := by decide +kernel
theorem dX3_run_4 : decode cX3_run 4 = .ok (.iload_n 1, 1) := by decide +kernel
theorem dX3_run_5 : decode cX3_run 5 = .ok (.aload_n 0, 1) := by decide +kernel
theorem dX3_run_6 : decode cX3_run 6 = .ok (.getfield 10, 3) := by decide +kernel
theorem dX3_run_9 : decode cX3_run 9 = .ok (.invokevirtual 71, 3) := by decide +kernel
theorem dX3_run_12 : decode cX3_run 12 = .ok (.if_icmp .ge 14, 3) := by decide +kernel
theorem dX3_run_15 : decode cX3_run 15 = .ok (.aload_n 0, 1) := by decide +kernel
theorem dX3_run_16 : decode cX3_run 16 = .ok (.getfield 10, 3) := by decide +kernel
theorem dX3_run_19 : decode cX3_run 19 = .ok (.iload_n 1, 1) := by decide +kernel
theorem dX3_run_20 : decode cX3_run 20 = .ok (.invokevirtual 74, 3) := by decide +kernel
theorem dX3_run_23 : decode cX3_run 23 = .ok (.goto 4, 3) := by decide +kernel
theorem dX3_run_26 : decode cX3_run 26 = .ok (.iconst 0, 1) := by decide +kernel
theorem dX3_run_27 : decode cX3_run 27 = .ok (.ireturn, 1) := by decide +kernel
set_option maxRecDepth 20000 in
theorem ggX3_go_X3_isWithin : GoodIn wsX3_go wsX3_isWithin := goodIn_r _ [9] (by decide +kernel) (by decide +kernel)
set_option maxRecDepth 20000 in
theorem gX3_go_X3_isWithin : GoodIn wsX3_go (va_wsS RX3 28 yX3_isWithin wsX3_isWithin) := goodIn_app (goodIn_of _ (by decide +kernel)) ggX3_go_X3_isWithin
set_option maxRecDepth 20000 in
theorem ggX3_go_X0_top : GoodIn wsX3_go wsX0_top := goodIn_r _ [14, 15, 16, 64, 65, 66, 67] (by decide +kernel) (by decide +kernel)
set_option maxRecDepth 20000 in
theorem gX3_go_X0_top : GoodIn wsX3_go (wsV RX3 39 RX0 yX0_top wsX0_top) := goodIn_app (goodIn_of _ (by decide +kernel)) ggX3_go_X0_top
set_option maxRecDepth 20000 in
theorem ggX3_go_X0_neighbourAt : GoodIn wsX3_go wsX0_neighbourAt := goodIn_r _ [20, 16, 21, 22, 23, 24, 25, 26, 13, 27, 15, 28, 29, 30, 31, 32, 33, 34, 35, 36, 37, 38, 39, 40, 41, 11, 12, 14, 42, 43, 44, 45, 64, 65, 66, 67, 62, 63] (by decide +kernel) (by decide +kernel)
set_option maxRecDepth 20000 in
theorem gX3_go_X0_neighbourAt : GoodIn wsX3_go (wsV RX3 78 RX0 yX0_neighbourAt wsX0_neighbourAt) := goodIn_app (goodIn_of _ (by decide +kernel)) ggX3_go_X0_neighbourAt
set_option maxRecDepth 20000 in
theorem ggX3_go_X0_bottom : GoodIn wsX3_go wsX0_bottom := goodIn_r _ [45, 32, 16, 64, 65, 66, 67] (by decide +kernel) (by decide +kernel)
set_option maxRecDepth 20000 in
theorem gX3_go_X0_bottom : GoodIn wsX3_go (wsV RX3 43 RX0 yX0_bottom wsX0_bottom) := goodIn_app (goodIn_of _ (by decide +kernel)) ggX3_go_X0_bottom
set_option maxRecDepth 20000 in
theorem ggX3_go_X0_expand : GoodIn wsX3_go wsX0_expand := goodIn_r _ [50, 51, 52, 53, 13, 54, 16, 15, 32, 55, 56, 57, 58, 59, 41, 11, 12, 14, 24, 25, 26, 27, 42, 43, 44, 45, 28, 29, 30, 31, 64, 65, 66, 67] (by decide +kernel) (by decide +kernel)
set_option maxRecDepth 20000 in
theorem gX3_go_X0_expand : GoodIn wsX3_go (wsV RX3 23 RX0 yX0_expand wsX0_expand) := goodIn_app (goodIn_of _ (by decide +kernel)) ggX3_go_X0_expand
theorem dX3_go_0 : decode cX3_go 0 = .ok (.iload_n 1, 1) := by decide +kernel
theorem dX3_go_1 : decode cX3_go 1 = .ok (.iconst 0, 1) := by decide +kernel
theorem dX3_go_2 : decode cX3_go 2 = .ok (.iconst 1, 1) := by decide +kernel
theorem dX3_go_3 : decode cX3_go 3 = .ok (.invokestatic 28, 3) := by decide +kernel
theorem dX3_go_6 : decode cX3_go 6 = .ok (.ifCond .eq 23, 3) := by decide +kernel
theorem dX3_go_9 : decode cX3_go 9 = .ok (.iload_n 2, 1) := by decide +kernel
theorem dX3_go_10 : decode cX3_go 10 = .ok (.iconst 0, 1) := by decide +kernel
theorem dX3_go_11 : decode cX3_go 11 = .ok (.ldc 27, 2) := by decide +kernel
theorem dX3_go_13 : decode cX3_go 13 = .ok (.invokestatic 28, 3) := by decide +kernel
theorem dX3_go_16 : decode cX3_go 16 = .ok (.ifCond .eq 13, 3) := by decide +kernel
theorem dX3_go_19 : decode cX3_go 19 = .ok (.aload_n 0, 1) := by decide +kernel
theorem dX3_go_20 : decode cX3_go 20 = .ok (.getfield 10, 3) := by decide +kernel
theorem dX3_go_23 : decode cX3_go 23 = .ok (.invokevirtual 39, 3) := by decide +kernel
theorem dX3_go_26 : decode cX3_go 26 = .ok (.ifCond .ne 5, 3) := by decide +kernel
theorem dX3_go_29 : decode cX3_go 29 = .ok (.iconst 0, 1) := by decide +kernel
theorem dX3_go_30 : decode cX3_go 30 = .ok (.ireturn, 1) := by decide +kernel
theorem dX3_go_31 : decode cX3_go 31 = .ok (.aload_n 0, 1) := by decide +kernel
theorem dX3_go_32 : decode cX3_go 32 = .ok (.getfield 10, 3) := by decide +kernel
theorem dX3_go_35 : decode cX3_go 35 = .ok (.iload_n 1, 1) := by decide +kernel
theorem dX3_go_36 : decode cX3_go 36 = .ok (.invokevirtual 78, 3) := by decide +kernel
theorem dX3_go_39 : decode cX3_go 39 = .ok (.astore_n 3, 1) := by decide +kernel
theorem dX3_go_40 : decode cX3_go 40 = .ok (.aload_n 0, 1) := by decide +kernel
theorem dX3_go_41 : decode cX3_go 41 = .ok (.getfield 10, 3) := by decide +kernel
theorem dX3_go_44 : decode cX3_go 44 = .ok (.invokevirtual 39, 3) := by decide +kernel
theorem dX3_go_47 : decode cX3_go 47 = .ok (.i2l, 1) := by decide +kernel
theorem dX3_go_48 : decode cX3_go 48 = .ok (.iload_n 2, 1) := by decide +kernel
theorem dX3_go_49 : decode cX3_go 49 = .ok (.i2l, 1) := by decide +kernel
theorem dX3_go_50 : decode cX3_go 50 = .ok (.aload_n 3, 1) := by decide +kernel
theorem dX3_go_51 : decode cX3_go 51 = .ok (.getfield 82, 3) := by decide +kernel
theorem dX3_go_54 : decode cX3_go 54 = .ok (.i2l, 1) := by decide +kernel
theorem dX3_go_55 : decode cX3_go 55 = .ok (.lmul, 1) := by decide +kernel
theorem dX3_go_56 : decode cX3_go 56 = .ok (.ladd, 1) := by decide +kernel
theorem dX3_go_57 : decode cX3_go 57 = .ok (.lstore 4, 2) := by decide +kernel
theorem dX3_go_59 : decode cX3_go 59 = .ok (.aload_n 0, 1) := by decide +kernel
theorem dX3_go_60 : decode cX3_go 60 = .ok (.getfield 10, 3) := by decide +kernel
theorem dX3_go_63 : decode cX3_go 63 = .ok (.invokevirtual 43, 3) := by decide +kernel
theorem dX3_go_66 : decode cX3_go 66 = .ok (.i2l, 1) := by decide +kernel
theorem dX3_go_67 : decode cX3_go 67 = .ok (.iload_n 2, 1) := by decide +kernel
theorem dX3_go_68 : decode cX3_go 68 = .ok (.i2l, 1) := by decide +kernel
theorem dX3_go_69 : decode cX3_go 69 = .ok (.aload_n 3, 1) := by decide +kernel
theorem dX3_go_70 : decode cX3_go 70 = .ok (.getfield 86, 3) := by decide +kernel
theorem dX3_go_73 : decode cX3_go 73 = .ok (.i2l, 1) := by decide +kernel
theorem dX3_go_74 : decode cX3_go 74 = .ok (.lmul, 1) := by decide +kernel
theorem dX3_go_75 : decode cX3_go 75 = .ok (.ladd, 1) := by decide +kernel
theorem dX3_go_76 : decode cX3_go 76 = .ok (.lstore 6, 2) := by decide +kernel
theorem dX3_go_78 : decode cX3_go 78 = .ok (.lload 4, 2) := by decide +kernel
theorem dX3_go_80 : decode cX3_go 80 = .ok (.ldc2_w 88, 3) := by decide +kernel
theorem dX3_go_83 : decode cX3_go 83 = .ok (.lcmp, 1) := by decide +kernel
theorem dX3_go_84 : decode cX3_go 84 = .ok (.ifCond .gt 12, 3) := by decide +kernel
theorem dX3_go_87 : decode cX3_go 87 = .ok (.lload 6, 2) := by decide +kernel
theorem dX3_go_89 : decode cX3_go 89 = .ok (.ldc2_w 88, 3) := by decide +kernel
theorem dX3_go_92 : decode cX3_go 92 = .ok (.lcmp, 1) := by decide +kernel
theorem dX3_go_93 : decode cX3_go 93 = .ok (.ifCond .le 5, 3) := by decide +kernel
theorem dX3_go_96 : decode cX3_go 96 = .ok (.iconst 0, 1) := by decide +kernel
theorem dX3_go_97 : decode cX3_go 97 = .ok (.ireturn, 1) := by decide +kernel
theorem dX3_go_98 : decode cX3_go 98 = .ok (.aload_n 0, 1) := by decide +kernel
theorem dX3_go_99 : decode cX3_go 99 = .ok (.getfield 10, 3) := by decide +kernel
theorem dX3_go_102 : decode cX3_go 102 = .ok (.lload 4, 2) := by decide +kernel
theorem dX3_go_104 : decode cX3_go 104 = .ok (.l2i, 1) := by decide +kernel
theorem dX3_go_105 : decode cX3_go 105 = .ok (.lload 6, 2) := by decide +kernel
theorem dX3_go_107 : decode cX3_go 107 = .ok (.l2i, 1) := by decide +kernel
theorem dX3_go_108 : decode cX3_go 108 = .ok (.invokevirtual 23, 3) := by decide +kernel
theorem dX3_go_111 : decode cX3_go 111 = .ok (.iconst 1, 1) := by decide +kernel
theorem dX3_go_112 : decode cX3_go 112 = .ok (.ireturn, 1) := by decide +kernel
set_option maxRecDepth 20000 in
theorem ggX3_up_X0_countRuns : GoodIn wsX3_up wsX0_countRuns := goodIn_r _ [6, 7, 8, 9, 10, 5, 11, 12, 13, 14, 15, 16, 17, 18, 19, 20, 21, 22, 49, 50, 51, 52] (by decide +kernel) (by decide +kernel)
set_option maxRecDepth 20000 in
theorem gX3_up_X0_countRuns : GoodIn wsX3_up (wsV RX3 71 RX0 yX0_countRuns wsX0_countRuns) := goodIn_app (goodIn_of _ (by decide +kernel)) ggX3_up_X0_countRuns
set_option maxRecDepth 20000 in
theorem ggX3_up_X0_top : GoodIn wsX3_up wsX0_top := goodIn_r _ [11, 12, 7, 49, 50, 51, 52] (by decide +kernel) (by decide +kernel)
set_option maxRecDepth 20000 in
theorem gX3_up_X0_top : GoodIn wsX3_up (wsV RX3 39 RX0 yX0_top wsX0_top) := goodIn_app (goodIn_of _ (by decide +kernel)) ggX3_up_X0_top
set_option maxRecDepth 20000 in
theorem ggX3_up_X0_topBefore : GoodIn wsX3_up wsX0_topBefore := goodIn_r _ [27, 7, 12, 49, 50, 51, 52] (by decide +kernel) (by decide +kernel)
set_option maxRecDepth 20000 in
theorem gX3_up_X0_topBefore : GoodIn wsX3_up (wsV RX3 90 RX0 yX0_topBefore wsX0_topBefore) := goodIn_app (goodIn_of _ (by decide +kernel)) ggX3_up_X0_topBefore
set_option maxRecDepth 20000 in
theorem ggX3_up_X0_bottom : GoodIn wsX3_up wsX0_bottom := goodIn_r _ [16, 17, 7, 49, 50, 51, 52] (by decide +kernel) (by decide +kernel)
set_option maxRecDepth 20000 in
theorem gX3_up_X0_bottom : GoodIn wsX3_up (wsV RX3 43 RX0 yX0_bottom wsX0_bottom) := goodIn_app (goodIn_of _ (by decide +kernel)) ggX3_up_X0_bottom
set_option maxRecDepth 20000 in
theorem ggX3_up_X0_bottomBefore : GoodIn wsX3_up wsX0_bottomBefore := goodIn_r _ [32, 7, 17, 49, 50, 51, 52] (by decide +kernel) (by decide +kernel)
set_option maxRecDepth 20000 in
theorem gX3_up_X0_bottomBefore : GoodIn wsX3_up (wsV RX3 93 RX0 yX0_bottomBefore wsX0_bottomBefore) := goodIn_app (goodIn_of _ (by decide +kernel)) ggX3_up_X0_bottomBefore
set_option maxRecDepth 20000 in
theorem ggX3_up_X0_expand : GoodIn wsX3_up wsX0_expand := goodIn_r _ [36, 37, 38, 39, 5, 40, 7, 12, 17, 41, 42, 43, 44, 22, 8, 9, 10, 11, 45, 25, 26, 27, 13, 14, 15, 16, 46, 30, 31, 32, 49, 50, 51, 52] (by decide +kernel) (by decide +kernel)
set_option maxRecDepth 20000 in
theorem gX3_up_X0_expand : GoodIn wsX3_up (wsV RX3 23 RX0 yX0_expand wsX0_expand) := goodIn_app (goodIn_of _ (by decide +kernel)) ggX3_up_X0_expand
theorem dX3_up_0 : decode cX3_up 0 = .ok (.aload_n 0, 1) := by decide +kernel
theorem dX3_up_1 : decode cX3_up 1 = .ok (.getfield 10, 3) := by decide +kernel
theorem dX3_up_4 : decode cX3_up 4 = .ok (.invokevirtual 71, 3) := by decide +kernel
theorem dX3_up_7 : decode cX3_up 7 = .ok (.ifCond .ne 5, 3) := by decide +kernel
theorem dX3_up_10 : decode cX3_up 10 = .ok (.iconst 0, 1) := by decide +kernel
theorem dX3_up_11 : decode cX3_up 11 = .ok (.ireturn, 1) := by decide +kernel
theorem dX3_up_12 : decode cX3_up 12 = .ok (.aload_n 0, 1) := by decide +kernel
theorem dX3_up_13 : decode cX3_up 13 = .ok (.getfield 10, 3) := by decide +kernel
theorem dX3_up_16 : decode cX3_up 16 = .ok (.aload_n 0, 1) := by decide +kernel
theorem dX3_up_17 : decode cX3_up 17 = .ok (.getfield 10, 3) := by decide +kernel
theorem dX3_up_20 : decode cX3_up 20 = .ok (.invokevirtual 39, 3) := by decide +kernel
theorem dX3_up_23 : decode cX3_up 23 = .ok (.aload_n 0, 1) := by decide +kernel
theorem dX3_up_24 : decode cX3_up 24 = .ok (.getfield 10, 3) := by decide +kernel
theorem dX3_up_27 : decode cX3_up 27 = .ok (.invokevirtual 90, 3) := by decide +kernel
theorem dX3_up_30 : decode cX3_up 30 = .ok (.isub, 1) := by decide +kernel
theorem dX3_up_31 : decode cX3_up 31 = .ok (.aload_n 0, 1) := by decide +kernel
theorem dX3_up_32 : decode cX3_up 32 = .ok (.getfield 10, 3) := by decide +kernel
theorem dX3_up_35 : decode cX3_up 35 = .ok (.invokevirtual 43, 3) := by decide +kernel
theorem dX3_up_38 : decode cX3_up 38 = .ok (.aload_n 0, 1) := by decide +kernel
theorem dX3_up_39 : decode cX3_up 39 = .ok (.getfield 10, 3) := by decide +kernel
theorem dX3_up_42 : decode cX3_up 42 = .ok (.invokevirtual 93, 3) := by decide +kernel
theorem dX3_up_45 : decode cX3_up 45 = .ok (.isub, 1) := by decide +kernel
theorem dX3_up_46 : decode cX3_up 46 = .ok (.invokevirtual 23, 3) := by decide +kernel
theorem dX3_up_49 : decode cX3_up 49 = .ok (.iconst 1, 1) := by decide +kernel
theorem dX3_up_50 : decode cX3_up 50 = .ok (.ireturn, 1) := by decide +kernel
theorem dX3_near_0 : decode cX3_near 0 = .ok (.iload_n 1, 1) := by decide +kernel
theorem dX3_near_1 : decode cX3_near 1 = .ok (.iconst 1, 1) := by decide +kernel
theorem dX3_near_2 : decode cX3_near 2 = .ok (.sipush 1000, 3) := by decide +kernel
theorem dX3_near_5 : decode cX3_near 5 = .ok (.invokestatic 28, 3) := by decide +kernel
theorem dX3_near_8 : decode cX3_near 8 = .ok (.ifCond .eq 21, 3) := by decide +kernel
theorem dX3_near_11 : decode cX3_near 11 = .ok (.iload_n 2, 1) := by decide +kernel
theorem dX3_near_12 : decode cX3_near 12 = .ok (.iconst 0, 1) := by decide +kernel
theorem dX3_near_13 : decode cX3_near 13 = .ok (.iconst 2, 1) := by decide +kernel
theorem dX3_near_14 : decode cX3_near 14 = .ok (.invokestatic 28, 3) := by decide +kernel
theorem dX3_near_17 : decode cX3_near 17 = .ok (.ifCond .eq 12, 3) := by decide +kernel
theorem dX3_near_20 : decode cX3_near 20 = .ok (.iload_n 3, 1) := by decide +kernel
theorem dX3_near_21 : decode cX3_near 21 = .ok (.iconst 0, 1) := by decide +kernel
theorem dX3_near_22 : decode cX3_near 22 = .ok (.iconst 1, 1) := by decide +kernel
theorem dX3_near_23 : decode cX3_near 23 = .ok (.invokestatic 28, 3) := by decide +kernel
theorem dX3_near_26 : decode cX3_near 26 = .ok (.ifCond .ne 13, 3) := by decide +kernel
theorem dX3_near_29 : decode cX3_near 29 = .ok (.new 32, 3) := by decide +kernel
theorem dX3_near_32 : decode cX3_near 32 = .ok (.dup, 1) := by decide +kernel
theorem dX3_near_33 : decode cX3_near 33 = .ok (.ldc 96, 2) := by decide +kernel
theorem dX3_near_35 : decode cX3_near 35 = .ok (.invokespecial 36, 3) := by decide +kernel
theorem dX3_near_38 : decode cX3_near 38 = .ok (.athrow, 1) := by decide +kernel
theorem dX3_near_39 : decode cX3_near 39 = .ok (.aload_n 0, 1) := by decide +kernel
theorem dX3_near_40 : decode cX3_near 40 = .ok (.getfield 10, 3) := by decide +kernel
theorem dX3_near_43 : decode cX3_near 43 = .ok (.invokevirtual 43, 3) := by decide +kernel
theorem dX3_near_46 : decode cX3_near 46 = .ok (.iload_n 1, 1) := by decide +kernel
theorem dX3_near_47 : decode cX3_near 47 = .ok (.if_icmp .gt 9, 3) := by decide +kernel
theorem dX3_near_50 : decode cX3_near 50 = .ok (.aload_n 0, 1) := by decide +kernel
theorem dX3_near_51 : decode cX3_near 51 = .ok (.iload_n 3, 1) := by decide +kernel
theorem dX3_near_52 : decode cX3_near 52 = .ok (.invokevirtual 98, 3) := by decide +kernel
theorem dX3_near_55 : decode cX3_near 55 = .ok (.ireturn, 1) := by decide +kernel
theorem dX3_near_56 : decode cX3_near 56 = .ok (.aload_n 0, 1) := by decide +kernel
theorem dX3_near_57 : decode cX3_near 57 = .ok (.getfield 10, 3) := by decide +kernel
theorem dX3_near_60 : decode cX3_near 60 = .ok (.iload_n 1, 1) := by decide +kernel
theorem dX3_near_61 : decode cX3_near 61 = .ok (.iload_n 2, 1) := by decide +kernel
theorem dX3_near_62 : decode cX3_near 62 = .ok (.invokevirtual 101, 3) := by decide +kernel
theorem dX3_near_65 : decode cX3_near 65 = .ok (.astore 4, 2) := by decide +kernel
theorem dX3_near_67 : decode cX3_near 67 = .ok (.iload_n 3, 1) := by decide +kernel
theorem dX3_near_68 : decode cX3_near 68 = .ok (.aload 4, 2) := by decide +kernel
theorem dX3_near_70 : decode cX3_near 70 = .ok (.getfield 82, 3) := by decide +kernel
theorem dX3_near_73 : decode cX3_near 73 = .ok (.aload 4, 2) := by decide +kernel
theorem dX3_near_75 : decode cX3_near 75 = .ok (.getfield 86, 3) := by decide +kernel
theorem dX3_near_78 : decode cX3_near 78 = .ok (.invokestatic 46, 3) := by decide +kernel
theorem dX3_near_81 : decode cX3_near 81 = .ok (.ireturn, 1) := by decide +kernel
theorem dX3_between_0 : decode cX3_between 0 = .ok (.iload_n 1, 1) := by decide +kernel
theorem dX3_between_1 : decode cX3_between 1 = .ok (.iconst 0, 1) := by decide +kernel
theorem dX3_between_2 : decode cX3_between 2 = .ok (.sipush 5000, 3) := by decide +kernel
theorem dX3_between_5 : decode cX3_between 5 = .ok (.invokestatic 28, 3) := by decide +kernel
theorem dX3_between_8 : decode cX3_between 8 = .ok (.ifCond .eq 37, 3) := by decide +kernel
theorem dX3_between_11 : decode cX3_between 11 = .ok (.iload_n 2, 1) := by decide +kernel
theorem dX3_between_12 : decode cX3_between 12 = .ok (.iconst 1, 1) := by decide +kernel
theorem dX3_between_13 : decode cX3_between 13 = .ok (.sipush 5000, 3) := by decide +kernel
theorem dX3_between_16 : decode cX3_between 16 = .ok (.invokestatic 28, 3) := by decide +kernel
theorem dX3_between_19 : decode cX3_between 19 = .ok (.ifCond .eq 26, 3) := by decide +kernel
theorem dX3_between_22 : decode cX3_between 22 = .ok (.iload_n 3, 1) := by decide +kernel
theorem dX3_between_23 : decode cX3_between 23 = .ok (.iconst 0, 1) := by decide +kernel
theorem dX3_between_24 : decode cX3_between 24 = .ok (.sipush 5000, 3) := by decide +kernel
theorem dX3_between_27 : decode cX3_between 27 = .ok (.invokestatic 28, 3) := by decide +kernel
theorem dX3_between_30 : decode cX3_between 30 = .ok (.ifCond .eq 15, 3) := by decide +kernel
theorem dX3_between_33 : decode cX3_between 33 = .ok (.iload 4, 2) := by decide +kernel
theorem dX3_between_35 : decode cX3_between 35 = .ok (.iconst 1, 1) := by decide +kernel
theorem dX3_between_36 : decode cX3_between 36 = .ok (.sipush 5000, 3) := by decide +kernel
theorem dX3_between_39 : decode cX3_between 39 = .ok (.invokestatic 28, 3) := by decide +kernel
theorem dX3_between_42 : decode cX3_between 42 = .ok (.ifCond .ne 13, 3) := by decide +kernel
theorem dX3_between_45 : decode cX3_between 45 = .ok (.new 32, 3) := by decide +kernel
theorem dX3_between_48 : decode cX3_between 48 = .ok (.dup, 1) := by decide +kernel
theorem dX3_between_49 : decode cX3_between 49 = .ok (.ldc 105, 2) := by decide +kernel
theorem dX3_between_51 : decode cX3_between 51 = .ok (.invokespecial 36, 3) := by decide +kernel
theorem dX3_between_54 : decode cX3_between 54 = .ok (.athrow, 1) := by decide +kernel
theorem dX3_between_55 : decode cX3_between 55 = .ok (.iload_n 1, 1) := by decide +kernel
theorem dX3_between_56 : decode cX3_between 56 = .ok (.iload 4, 2) := by decide +kernel
theorem dX3_between_58 : decode cX3_between 58 = .ok (.imul, 1) := by decide +kernel
theorem dX3_between_59 : decode cX3_between 59 = .ok (.iload_n 3, 1) := by decide +kernel
theorem dX3_between_60 : decode cX3_between 60 = .ok (.iload_n 2, 1) := by decide +kernel
theorem dX3_between_61 : decode cX3_between 61 = .ok (.imul, 1) := by decide +kernel
theorem dX3_between_62 : decode cX3_between 62 = .ok (.if_icmp .lt 5, 3) := by decide +kernel
theorem dX3_between_65 : decode cX3_between 65 = .ok (.iconst 0, 1) := by decide +kernel
theorem dX3_between_66 : decode cX3_between 66 = .ok (.ireturn, 1) := by decide +kernel
theorem dX3_between_67 : decode cX3_between 67 = .ok (.aload_n 0, 1) := by decide +kernel
theorem dX3_between_68 : decode cX3_between 68 = .ok (.getfield 10, 3) := by decide +kernel
theorem dX3_between_71 : decode cX3_between 71 = .ok (.iload_n 1, 1) := by decide +kernel
theorem dX3_between_72 : decode cX3_between 72 = .ok (.iload_n 2, 1) := by decide +kernel
theorem dX3_between_73 : decode cX3_between 73 = .ok (.iload_n 3, 1) := by decide +kernel
theorem dX3_between_74 : decode cX3_between 74 = .ok (.iload 4, 2) := by decide +kernel
theorem dX3_between_76 : decode cX3_between 76 = .ok (.invokevirtual 107, 3) := by decide +kernel
theorem dX3_between_79 : decode cX3_between 79 = .ok (.iconst 1, 1) := by decide +kernel
theorem dX3_between_80 : decode cX3_between 80 = .ok (.ireturn, 1) := by decide +kernel
set_option maxRecDepth 20000 in
theorem ggX3_row_X3_isWithin : GoodIn wsX3_row wsX3_isWithin := goodIn_r _ [5] (by decide +kernel) (by decide +kernel)
set_option maxRecDepth 20000 in
theorem gX3_row_X3_isWithin : GoodIn wsX3_row (va_wsS RX3 28 yX3_isWithin wsX3_isWithin) := goodIn_app (goodIn_of _ (by decide +kernel)) ggX3_row_X3_isWithin
set_option maxRecDepth 20000 in
theorem ggX3_row_X2_countAll : GoodIn wsX3_row wsX2_countAll := goodIn_r _ [10, 11, 12, 13, 9, 14, 15, 16, 4, 17, 18, 21] (by decide +kernel) (by decide +kernel)
set_option maxRecDepth 20000 in
theorem gX3_row_X2_countAll : GoodIn wsX3_row (wsV RX3 111 RX2 yX2_countAll wsX2_countAll) := goodIn_app (goodIn_of _ (by decide +kernel)) ggX3_row_X2_countAll
theorem dX3_row_0 : decode cX3_row 0 = .ok (.iload_n 1, 1) := by decide +kernel
theorem dX3_row_1 : decode cX3_row 1 = .ok (.iconst 1, 1) := by decide +kernel
theorem dX3_row_2 : decode cX3_row 2 = .ok (.sipush 200, 3) := by decide +kernel
theorem dX3_row_5 : decode cX3_row 5 = .ok (.invokestatic 28, 3) := by decide +kernel
theorem dX3_row_8 : decode cX3_row 8 = .ok (.ifCond .eq 14, 3) := by decide +kernel
theorem dX3_row_11 : decode cX3_row 11 = .ok (.aload_n 0, 1) := by decide +kernel
theorem dX3_row_12 : decode cX3_row 12 = .ok (.getfield 19, 3) := by decide +kernel
theorem dX3_row_15 : decode cX3_row 15 = .ok (.iload_n 1, 1) := by decide +kernel
theorem dX3_row_16 : decode cX3_row 16 = .ok (.invokevirtual 111, 3) := by decide +kernel
theorem dX3_row_19 : decode cX3_row 19 = .ok (.goto 4, 3) := by decide +kernel
theorem dX3_row_22 : decode cX3_row 22 = .ok (.iconst (-1), 1) := by decide +kernel
theorem dX3_row_23 : decode cX3_row 23 = .ok (.ireturn, 1) := by decide +kernel
set_option maxRecDepth 20000 in
theorem ggX3_pick_X3_isWithin : GoodIn wsX3_pick wsX3_isWithin := goodIn_r _ [6] (by decide +kernel) (by decide +kernel)
set_option maxRecDepth 20000 in
theorem gX3_pick_X3_isWithin : GoodIn wsX3_pick (va_wsS RX3 28 yX3_isWithin wsX3_isWithin) := goodIn_app (goodIn_of _ (by decide +kernel)) ggX3_pick_X3_isWithin
set_option maxRecDepth 20000 in
theorem ggX3_pick_X2_countAll : GoodIn wsX3_pick wsX2_countAll := goodIn_r _ [11, 12, 13, 14, 10, 15, 16, 17, 5, 18, 19, 74] (by decide +kernel) (by decide +kernel)
set_option maxRecDepth 20000 in
theorem gX3_pick_X2_countAll : GoodIn wsX3_pick (wsV RX3 111 RX2 yX2_countAll wsX2_countAll) := goodIn_app (goodIn_of _ (by decide +kernel)) ggX3_pick_X2_countAll
set_option maxRecDepth 20000 in
theorem ggX3_pick_X2_columnOf : GoodIn wsX3_pick wsX2_columnOf := goodIn_r _ [23, 24, 25, 26, 10, 27, 28, 8, 9, 11, 12, 13, 14, 15, 16, 17, 5, 18, 19, 74] (by decide +kernel) (by decide +kernel)
set_option maxRecDepth 20000 in
theorem gX3_pick_X2_columnOf : GoodIn wsX3_pick (wsV RX3 114 RX2 yX2_columnOf wsX2_columnOf) := goodIn_app (goodIn_of _ (by decide +kernel)) ggX3_pick_X2_columnOf
set_option maxRecDepth 20000 in
theorem ggX3_pick_X0_expand : GoodIn wsX3_pick wsX0_expand := goodIn_r _ [33, 34, 35, 36, 32, 37, 38, 39, 40, 41, 42, 43, 44, 45, 46, 47, 48, 49, 50, 51, 52, 53, 54, 55, 56, 57, 58, 59, 60, 61, 75, 76, 77, 78] (by decide +kernel) (by decide +kernel)
set_option maxRecDepth 20000 in
theorem gX3_pick_X0_expand : GoodIn wsX3_pick (wsV RX3 23 RX0 yX0_expand wsX0_expand) := goodIn_app (goodIn_of _ (by decide +kernel)) ggX3_pick_X0_expand
set_option maxRecDepth 20000 in
theorem ggX3_pick_X2_countBelow : GoodIn wsX3_pick wsX2_countBelow := goodIn_r _ [27, 28, 8, 9, 10, 11, 12, 13, 14, 15, 16, 17, 5, 18, 19, 74] (by decide +kernel) (by decide +kernel)
set_option maxRecDepth 20000 in
theorem gX3_pick_X2_countBelow : GoodIn wsX3_pick (wsV RX3 118 RX2 yX2_countBelow wsX2_countBelow) := goodIn_app (goodIn_of _ (by decide +kernel)) ggX3_pick_X2_countBelow
set_option maxRecDepth 20000 in
theorem ggX3_pick_X3_stepOn : GoodIn wsX3_pick wsX3_stepOn := goodIn_r _ [66, 2, 67, 47, 48, 32, 49, 39, 38, 68, 55, 56, 57, 40, 69, 70, 10, 71, 29, 30, 31, 33, 34, 35, 36, 37, 41, 42, 43, 44, 45, 46, 50, 51, 52, 53, 54, 58, 59, 60, 61, 72, 73, 75, 76, 77, 78] (by decide +kernel) (by decide +kernel)
set_option maxRecDepth 20000 in
theorem gX3_pick_X3_stepOn : GoodIn wsX3_pick (wsV RX3 121 RX3 yX3_stepOn wsX3_stepOn) := goodIn_app (goodIn_of _ (by decide +kernel)) ggX3_pick_X3_stepOn
theorem dX3_pick_0 : decode cX3_pick 0 = .ok (.iload_n 1, 1) := by decide +kernel
theorem dX3_pick_1 : decode cX3_pick 1 = .ok (.iconst 1, 1) := by decide +kernel
theorem dX3_pick_2 : decode cX3_pick 2 = .ok (.sipush 200, 3) := by decide +kernel
theorem dX3_pick_5 : decode cX3_pick 5 = .ok (.invokestatic 28, 3) := by decide +kernel
theorem dX3_pick_8 : decode cX3_pick 8 = .ok (.ifCond .eq 19, 3) := by decide +kernel
theorem dX3_pick_11 : decode cX3_pick 11 = .ok (.iload_n 2, 1) := by decide +kernel
theorem dX3_pick_12 : decode cX3_pick 12 = .ok (.ifCond .lt 15, 3) := by decide +kernel
theorem dX3_pick_15 : decode cX3_pick 15 = .ok (.iload_n 2, 1) := by decide +kernel
theorem dX3_pick_16 : decode cX3_pick 16 = .ok (.aload_n 0, 1) := by decide +kernel
theorem dX3_pick_17 : decode cX3_pick 17 = .ok (.getfield 19, 3) := by decide +kernel
theorem dX3_pick_20 : decode cX3_pick 20 = .ok (.iload_n 1, 1) := by decide +kernel
theorem dX3_pick_21 : decode cX3_pick 21 = .ok (.invokevirtual 111, 3) := by decide +kernel
theorem dX3_pick_24 : decode cX3_pick 24 = .ok (.if_icmp .lt 5, 3) := by decide +kernel
theorem dX3_pick_27 : decode cX3_pick 27 = .ok (.iconst 0, 1) := by decide +kernel
theorem dX3_pick_28 : decode cX3_pick 28 = .ok (.ireturn, 1) := by decide +kernel
theorem dX3_pick_29 : decode cX3_pick 29 = .ok (.aload_n 0, 1) := by decide +kernel
theorem dX3_pick_30 : decode cX3_pick 30 = .ok (.getfield 19, 3) := by decide +kernel
theorem dX3_pick_33 : decode cX3_pick 33 = .ok (.iload_n 1, 1) := by decide +kernel
theorem dX3_pick_34 : decode cX3_pick 34 = .ok (.iload_n 2, 1) := by decide +kernel
theorem dX3_pick_35 : decode cX3_pick 35 = .ok (.invokevirtual 114, 3) := by decide +kernel
theorem dX3_pick_38 : decode cX3_pick 38 = .ok (.istore_n 3, 1) := by decide +kernel
theorem dX3_pick_39 : decode cX3_pick 39 = .ok (.aload_n 0, 1) := by decide +kernel
theorem dX3_pick_40 : decode cX3_pick 40 = .ok (.getfield 10, 3) := by decide +kernel
theorem dX3_pick_43 : decode cX3_pick 43 = .ok (.iload_n 3, 1) := by decide +kernel
theorem dX3_pick_44 : decode cX3_pick 44 = .ok (.iload_n 1, 1) := by decide +kernel
theorem dX3_pick_45 : decode cX3_pick 45 = .ok (.invokevirtual 23, 3) := by decide +kernel
theorem dX3_pick_48 : decode cX3_pick 48 = .ok (.aload_n 0, 1) := by decide +kernel
theorem dX3_pick_49 : decode cX3_pick 49 = .ok (.iload_n 1, 1) := by decide +kernel
theorem dX3_pick_50 : decode cX3_pick 50 = .ok (.iload_n 2, 1) := by decide +kernel
theorem dX3_pick_51 : decode cX3_pick 51 = .ok (.aload_n 0, 1) := by decide +kernel
theorem dX3_pick_52 : decode cX3_pick 52 = .ok (.getfield 19, 3) := by decide +kernel
theorem dX3_pick_55 : decode cX3_pick 55 = .ok (.iload_n 1, 1) := by decide +kernel
theorem dX3_pick_56 : decode cX3_pick 56 = .ok (.iload_n 3, 1) := by decide +kernel
theorem dX3_pick_57 : decode cX3_pick 57 = .ok (.iload_n 1, 1) := by decide +kernel
theorem dX3_pick_58 : decode cX3_pick 58 = .ok (.invokevirtual 118, 3) := by decide +kernel
theorem dX3_pick_61 : decode cX3_pick 61 = .ok (.isub, 1) := by decide +kernel
theorem dX3_pick_62 : decode cX3_pick 62 = .ok (.invokevirtual 121, 3) := by decide +kernel
theorem dX3_pick_65 : decode cX3_pick 65 = .ok (.iconst 1, 1) := by decide +kernel
theorem dX3_pick_66 : decode cX3_pick 66 = .ok (.ireturn, 1) := by decide +kernel
set_option maxRecDepth 20000 in
theorem ggX3_place_X3_isWithin : GoodIn wsX3_place wsX3_isWithin := goodIn_r _ [6] (by decide +kernel) (by decide +kernel)
set_option maxRecDepth 20000 in
theorem gX3_place_X3_isWithin : GoodIn wsX3_place (va_wsS RX3 28 yX3_isWithin wsX3_isWithin) := goodIn_app (goodIn_of _ (by decide +kernel)) ggX3_place_X3_isWithin
set_option maxRecDepth 20000 in
theorem ggX3_place_X0_top : GoodIn wsX3_place wsX0_top := goodIn_r _ [11, 12, 13, 38, 39, 40, 41] (by decide +kernel) (by decide +kernel)
set_option maxRecDepth 20000 in
theorem gX3_place_X0_top : GoodIn wsX3_place (wsV RX3 39 RX0 yX0_top wsX0_top) := goodIn_app (goodIn_of _ (by decide +kernel)) ggX3_place_X0_top
set_option maxRecDepth 20000 in
theorem ggX3_place_X0_bottom : GoodIn wsX3_place wsX0_bottom := goodIn_r _ [17, 18, 13, 38, 39, 40, 41] (by decide +kernel) (by decide +kernel)
set_option maxRecDepth 20000 in
theorem gX3_place_X0_bottom : GoodIn wsX3_place (wsV RX3 43 RX0 yX0_bottom wsX0_bottom) := goodIn_app (goodIn_of _ (by decide +kernel)) ggX3_place_X0_bottom
set_option maxRecDepth 20000 in
theorem ggX3_place_X2_countBelow : GoodIn wsX3_place wsX2_countBelow := goodIn_r _ [23, 24, 25, 26, 22, 27, 28, 29, 30, 31, 32, 33, 5, 34, 35, 42] (by decide +kernel) (by decide +kernel)
set_option maxRecDepth 20000 in
theorem gX3_place_X2_countBelow : GoodIn wsX3_place (wsV RX3 118 RX2 yX2_countBelow wsX2_countBelow) := goodIn_app (goodIn_of _ (by decide +kernel)) ggX3_place_X2_countBelow
theorem dX3_place_0 : decode cX3_place 0 = .ok (.iload_n 1, 1) := by decide +kernel
theorem dX3_place_1 : decode cX3_place 1 = .ok (.iconst 1, 1) := by decide +kernel
theorem dX3_place_2 : decode cX3_place 2 = .ok (.sipush 200, 3) := by decide +kernel
theorem dX3_place_5 : decode cX3_place 5 = .ok (.invokestatic 28, 3) := by decide +kernel
theorem dX3_place_8 : decode cX3_place 8 = .ok (.ifCond .eq 28, 3) := by decide +kernel
theorem dX3_place_11 : decode cX3_place 11 = .ok (.aload_n 0, 1) := by decide +kernel
theorem dX3_place_12 : decode cX3_place 12 = .ok (.getfield 19, 3) := by decide +kernel
theorem dX3_place_15 : decode cX3_place 15 = .ok (.iload_n 1, 1) := by decide +kernel
theorem dX3_place_16 : decode cX3_place 16 = .ok (.aload_n 0, 1) := by decide +kernel
theorem dX3_place_17 : decode cX3_place 17 = .ok (.getfield 10, 3) := by decide +kernel
theorem dX3_place_20 : decode cX3_place 20 = .ok (.invokevirtual 39, 3) := by decide +kernel
theorem dX3_place_23 : decode cX3_place 23 = .ok (.aload_n 0, 1) := by decide +kernel
theorem dX3_place_24 : decode cX3_place 24 = .ok (.getfield 10, 3) := by decide +kernel
theorem dX3_place_27 : decode cX3_place 27 = .ok (.invokevirtual 43, 3) := by decide +kernel
theorem dX3_place_30 : decode cX3_place 30 = .ok (.invokevirtual 118, 3) := by decide +kernel
theorem dX3_place_33 : decode cX3_place 33 = .ok (.goto 4, 3) := by decide +kernel
theorem dX3_place_36 : decode cX3_place 36 = .ok (.iconst (-1), 1) := by decide +kernel
theorem dX3_place_37 : decode cX3_place 37 = .ok (.ireturn, 1) := by decide +kernel
set_option maxRecDepth 20000 in
theorem ggX3_floors_X3_isWithin : GoodIn wsX3_floors wsX3_isWithin := goodIn_r _ [7] (by decide +kernel) (by decide +kernel)
set_option maxRecDepth 20000 in
theorem gX3_floors_X3_isWithin : GoodIn wsX3_floors (va_wsS RX3 28 yX3_isWithin wsX3_isWithin) := goodIn_app (goodIn_of _ (by decide +kernel)) ggX3_floors_X3_isWithin
set_option maxRecDepth 20000 in
theorem ggX3_floors_X0_top : GoodIn wsX3_floors wsX0_top := goodIn_r _ [12, 13, 14, 26, 27, 28, 29] (by decide +kernel) (by decide +kernel)
set_option maxRecDepth 20000 in
theorem gX3_floors_X0_top : GoodIn wsX3_floors (wsV RX3 39 RX0 yX0_top wsX0_top) := goodIn_app (goodIn_of _ (by decide +kernel)) ggX3_floors_X0_top
set_option maxRecDepth 20000 in
theorem ggX3_floors_X0_bottom : GoodIn wsX3_floors wsX0_bottom := goodIn_r _ [18, 19, 14, 26, 27, 28, 29] (by decide +kernel) (by decide +kernel)
set_option maxRecDepth 20000 in
theorem gX3_floors_X0_bottom : GoodIn wsX3_floors (wsV RX3 43 RX0 yX0_bottom wsX0_bottom) := goodIn_app (goodIn_of _ (by decide +kernel)) ggX3_floors_X0_bottom
set_option maxRecDepth 20000 in
theorem ggX3_floors_X3_sumOfFloors : GoodIn wsX3_floors wsX3_sumOfFloors := goodIn_r _ [22, 23] (by decide +kernel) (by decide +kernel)
set_option maxRecDepth 20000 in
theorem gX3_floors_X3_sumOfFloors : GoodIn wsX3_floors (va_wsS RX3 124 yX3_sumOfFloors wsX3_sumOfFloors) := goodIn_app (goodIn_of _ (by decide +kernel)) ggX3_floors_X3_sumOfFloors
theorem dX3_floors_0 : decode cX3_floors 0 = .ok (.iload_n 1, 1) := by decide +kernel
theorem dX3_floors_1 : decode cX3_floors 1 = .ok (.iconst 0, 1) := by decide +kernel
theorem dX3_floors_2 : decode cX3_floors 2 = .ok (.ldc 27, 2) := by decide +kernel
theorem dX3_floors_4 : decode cX3_floors 4 = .ok (.invokestatic 28, 3) := by decide +kernel
theorem dX3_floors_7 : decode cX3_floors 7 = .ok (.ifCond .eq 28, 3) := by decide +kernel
theorem dX3_floors_10 : decode cX3_floors 10 = .ok (.iload_n 1, 1) := by decide +kernel
theorem dX3_floors_11 : decode cX3_floors 11 = .ok (.i2l, 1) := by decide +kernel
theorem dX3_floors_12 : decode cX3_floors 12 = .ok (.aload_n 0, 1) := by decide +kernel
theorem dX3_floors_13 : decode cX3_floors 13 = .ok (.getfield 10, 3) := by decide +kernel
theorem dX3_floors_16 : decode cX3_floors 16 = .ok (.invokevirtual 39, 3) := by decide +kernel
theorem dX3_floors_19 : decode cX3_floors 19 = .ok (.i2l, 1) := by decide +kernel
theorem dX3_floors_20 : decode cX3_floors 20 = .ok (.lconst 0, 1) := by decide +kernel
theorem dX3_floors_21 : decode cX3_floors 21 = .ok (.aload_n 0, 1) := by decide +kernel
theorem dX3_floors_22 : decode cX3_floors 22 = .ok (.getfield 10, 3) := by decide +kernel
theorem dX3_floors_25 : decode cX3_floors 25 = .ok (.invokevirtual 43, 3) := by decide +kernel
theorem dX3_floors_28 : decode cX3_floors 28 = .ok (.i2l, 1) := by decide +kernel
theorem dX3_floors_29 : decode cX3_floors 29 = .ok (.invokestatic 124, 3) := by decide +kernel
theorem dX3_floors_32 : decode cX3_floors 32 = .ok (.goto 6, 3) := by decide +kernel
theorem dX3_floors_35 : decode cX3_floors 35 = .ok (.ldc2_w 128, 3) := by decide +kernel
theorem dX3_floors_38 : decode cX3_floors 38 = .ok (.lreturn, 1) := by decide +kernel
set_option maxRecDepth 20000 in
theorem ggX3_sawteeth_X0_bottom : GoodIn wsX3_sawteeth wsX0_bottom := goodIn_r _ [10, 11, 12, 24, 25, 26, 27] (by decide +kernel) (by decide +kernel)
set_option maxRecDepth 20000 in
theorem gX3_sawteeth_X0_bottom : GoodIn wsX3_sawteeth (wsV RX3 43 RX0 yX0_bottom wsX0_bottom) := goodIn_app (goodIn_of _ (by decide +kernel)) ggX3_sawteeth_X0_bottom
set_option maxRecDepth 20000 in
theorem ggX3_sawteeth_X0_top : GoodIn wsX3_sawteeth wsX0_top := goodIn_r _ [16, 17, 12, 24, 25, 26, 27] (by decide +kernel) (by decide +kernel)
set_option maxRecDepth 20000 in
theorem gX3_sawteeth_X0_top : GoodIn wsX3_sawteeth (wsV RX3 39 RX0 yX0_top wsX0_top) := goodIn_app (goodIn_of _ (by decide +kernel)) ggX3_sawteeth_X0_top
set_option maxRecDepth 20000 in
theorem ggX3_sawteeth_X0_bottomBefore : GoodIn wsX3_sawteeth wsX0_bottomBefore := goodIn_r _ [21, 12, 11, 24, 25, 26, 27] (by decide +kernel) (by decide +kernel)
set_option maxRecDepth 20000 in
theorem gX3_sawteeth_X0_bottomBefore : GoodIn wsX3_sawteeth (wsV RX3 93 RX0 yX0_bottomBefore wsX0_bottomBefore) := goodIn_app (goodIn_of _ (by decide +kernel)) ggX3_sawteeth_X0_bottomBefore
theorem dX3_sawteeth_0 : decode cX3_sawteeth 0 = .ok (.aload_n 0, 1) := by decide +kernel
theorem dX3_sawteeth_1 : decode cX3_sawteeth 1 = .ok (.getfield 10, 3) := by decide +kernel
theorem dX3_sawteeth_4 : decode cX3_sawteeth 4 = .ok (.getfield 50, 3) := by decide +kernel
theorem dX3_sawteeth_7 : decode cX3_sawteeth 7 = .ok (.iconst 1, 1) := by decide +kernel
theorem dX3_sawteeth_8 : decode cX3_sawteeth 8 = .ok (.isub, 1) := by decide +kernel
theorem dX3_sawteeth_9 : decode cX3_sawteeth 9 = .ok (.istore_n 1, 1) := by decide +kernel
theorem dX3_sawteeth_10 : decode cX3_sawteeth 10 = .ok (.lconst 0, 1) := by decide +kernel
theorem dX3_sawteeth_11 : decode cX3_sawteeth 11 = .ok (.lstore_n 2, 1) := by decide +kernel
theorem dX3_sawteeth_12 : decode cX3_sawteeth 12 = .ok (.iconst 1, 1) := by decide +kernel
theorem dX3_sawteeth_13 : decode cX3_sawteeth 13 = .ok (.istore 4, 2) := by decide +kernel
theorem dX3_sawteeth_15 : decode cX3_sawteeth 15 = .ok (.iload 4, 2) := by decide +kernel
theorem dX3_sawteeth_17 : decode cX3_sawteeth 17 = .ok (.iload_n 1, 1) := by decide +kernel
theorem dX3_sawteeth_18 : decode cX3_sawteeth 18 = .ok (.if_icmp .gt 46, 3) := by decide +kernel
theorem dX3_sawteeth_21 : decode cX3_sawteeth 21 = .ok (.lload_n 2, 1) := by decide +kernel
theorem dX3_sawteeth_22 : decode cX3_sawteeth 22 = .ok (.iload 4, 2) := by decide +kernel
theorem dX3_sawteeth_24 : decode cX3_sawteeth 24 = .ok (.iconst 2, 1) := by decide +kernel
theorem dX3_sawteeth_25 : decode cX3_sawteeth 25 = .ok (.irem, 1) := by decide +kernel
theorem dX3_sawteeth_26 : decode cX3_sawteeth 26 = .ok (.iconst 1, 1) := by decide +kernel
theorem dX3_sawteeth_27 : decode cX3_sawteeth 27 = .ok (.if_icmp .ne 17, 3) := by decide +kernel
theorem dX3_sawteeth_30 : decode cX3_sawteeth 30 = .ok (.aload_n 0, 1) := by decide +kernel
theorem dX3_sawteeth_31 : decode cX3_sawteeth 31 = .ok (.getfield 10, 3) := by decide +kernel
theorem dX3_sawteeth_34 : decode cX3_sawteeth 34 = .ok (.getfield 58, 3) := by decide +kernel
theorem dX3_sawteeth_37 : decode cX3_sawteeth 37 = .ok (.iload 4, 2) := by decide +kernel
theorem dX3_sawteeth_39 : decode cX3_sawteeth 39 = .ok (.iaload, 1) := by decide +kernel
theorem dX3_sawteeth_40 : decode cX3_sawteeth 40 = .ok (.i2l, 1) := by decide +kernel
theorem dX3_sawteeth_41 : decode cX3_sawteeth 41 = .ok (.goto 15, 3) := by decide +kernel
theorem dX3_sawteeth_44 : decode cX3_sawteeth 44 = .ok (.aload_n 0, 1) := by decide +kernel
theorem dX3_sawteeth_45 : decode cX3_sawteeth 45 = .ok (.getfield 10, 3) := by decide +kernel
theorem dX3_sawteeth_48 : decode cX3_sawteeth 48 = .ok (.getfield 58, 3) := by decide +kernel
theorem dX3_sawteeth_51 : decode cX3_sawteeth 51 = .ok (.iload 4, 2) := by decide +kernel
theorem dX3_sawteeth_53 : decode cX3_sawteeth 53 = .ok (.iaload, 1) := by decide +kernel
theorem dX3_sawteeth_54 : decode cX3_sawteeth 54 = .ok (.ineg, 1) := by decide +kernel
theorem dX3_sawteeth_55 : decode cX3_sawteeth 55 = .ok (.i2l, 1) := by decide +kernel
theorem dX3_sawteeth_56 : decode cX3_sawteeth 56 = .ok (.ladd, 1) := by decide +kernel
theorem dX3_sawteeth_57 : decode cX3_sawteeth 57 = .ok (.lstore_n 2, 1) := by decide +kernel
theorem dX3_sawteeth_58 : decode cX3_sawteeth 58 = .ok (.iinc 4 1, 3) := by decide +kernel
theorem dX3_sawteeth_61 : decode cX3_sawteeth 61 = .ok (.goto (-46), 3) := by decide +kernel
theorem dX3_sawteeth_64 : decode cX3_sawteeth 64 = .ok (.aload_n 0, 1) := by decide +kernel
theorem dX3_sawteeth_65 : decode cX3_sawteeth 65 = .ok (.getfield 10, 3) := by decide +kernel
theorem dX3_sawteeth_68 : decode cX3_sawteeth 68 = .ok (.invokevirtual 43, 3) := by decide +kernel
theorem dX3_sawteeth_71 : decode cX3_sawteeth 71 = .ok (.i2l, 1) := by decide +kernel
theorem dX3_sawteeth_72 : decode cX3_sawteeth 72 = .ok (.lstore 4, 2) := by decide +kernel
theorem dX3_sawteeth_74 : decode cX3_sawteeth 74 = .ok (.aload_n 0, 1) := by decide +kernel
theorem dX3_sawteeth_75 : decode cX3_sawteeth 75 = .ok (.getfield 10, 3) := by decide +kernel
theorem dX3_sawteeth_78 : decode cX3_sawteeth 78 = .ok (.invokevirtual 39, 3) := by decide +kernel
theorem dX3_sawteeth_81 : decode cX3_sawteeth 81 = .ok (.i2l, 1) := by decide +kernel
theorem dX3_sawteeth_82 : decode cX3_sawteeth 82 = .ok (.aload_n 0, 1) := by decide +kernel
theorem dX3_sawteeth_83 : decode cX3_sawteeth 83 = .ok (.getfield 10, 3) := by decide +kernel
theorem dX3_sawteeth_86 : decode cX3_sawteeth 86 = .ok (.getfield 58, 3) := by decide +kernel
theorem dX3_sawteeth_89 : decode cX3_sawteeth 89 = .ok (.iconst 0, 1) := by decide +kernel
theorem dX3_sawteeth_90 : decode cX3_sawteeth 90 = .ok (.iaload, 1) := by decide +kernel
theorem dX3_sawteeth_91 : decode cX3_sawteeth 91 = .ok (.i2l, 1) := by decide +kernel
theorem dX3_sawteeth_92 : decode cX3_sawteeth 92 = .ok (.lload 4, 2) := by decide +kernel
theorem dX3_sawteeth_94 : decode cX3_sawteeth 94 = .ok (.lmul, 1) := by decide +kernel
theorem dX3_sawteeth_95 : decode cX3_sawteeth 95 = .ok (.lsub, 1) := by decide +kernel
theorem dX3_sawteeth_96 : decode cX3_sawteeth 96 = .ok (.lstore 6, 2) := by decide +kernel
theorem dX3_sawteeth_98 : decode cX3_sawteeth 98 = .ok (.aload_n 0, 1) := by decide +kernel
theorem dX3_sawteeth_99 : decode cX3_sawteeth 99 = .ok (.getfield 10, 3) := by decide +kernel
theorem dX3_sawteeth_102 : decode cX3_sawteeth 102 = .ok (.invokevirtual 93, 3) := by decide +kernel
theorem dX3_sawteeth_105 : decode cX3_sawteeth 105 = .ok (.i2l, 1) := by decide +kernel
theorem dX3_sawteeth_106 : decode cX3_sawteeth 106 = .ok (.lstore 8, 2) := by decide +kernel
theorem dX3_sawteeth_108 : decode cX3_sawteeth 108 = .ok (.iload_n 1, 1) := by decide +kernel
theorem dX3_sawteeth_109 : decode cX3_sawteeth 109 = .ok (.iconst 2, 1) := by decide +kernel
theorem dX3_sawteeth_110 : decode cX3_sawteeth 110 = .ok (.irem, 1) := by decide +kernel
theorem dX3_sawteeth_111 : decode cX3_sawteeth 111 = .ok (.iconst 1, 1) := by decide +kernel
theorem dX3_sawteeth_112 : decode cX3_sawteeth 112 = .ok (.if_icmp .ne 15, 3) := by decide +kernel
theorem dX3_sawteeth_115 : decode cX3_sawteeth 115 = .ok (.lload 8, 2) := by decide +kernel
theorem dX3_sawteeth_117 : decode cX3_sawteeth 117 = .ok (.ldc2_w 130, 3) := by decide +kernel
theorem dX3_sawteeth_120 : decode cX3_sawteeth 120 = .ok (.lload 4, 2) := by decide +kernel
theorem dX3_sawteeth_122 : decode cX3_sawteeth 122 = .ok (.lmul, 1) := by decide +kernel
theorem dX3_sawteeth_123 : decode cX3_sawteeth 123 = .ok (.lsub, 1) := by decide +kernel
theorem dX3_sawteeth_124 : decode cX3_sawteeth 124 = .ok (.goto 6, 3) := by decide +kernel
theorem dX3_sawteeth_127 : decode cX3_sawteeth 127 = .ok (.lload 8, 2) := by decide +kernel
theorem dX3_sawteeth_129 : decode cX3_sawteeth 129 = .ok (.lneg, 1) := by decide +kernel
theorem dX3_sawteeth_130 : decode cX3_sawteeth 130 = .ok (.lstore 10, 2) := by decide +kernel
theorem dX3_sawteeth_132 : decode cX3_sawteeth 132 = .ok (.lload 6, 2) := by decide +kernel
theorem dX3_sawteeth_134 : decode cX3_sawteeth 134 = .ok (.lload 4, 2) := by decide +kernel
theorem dX3_sawteeth_136 : decode cX3_sawteeth 136 = .ok (.lload_n 2, 1) := by decide +kernel
theorem dX3_sawteeth_137 : decode cX3_sawteeth 137 = .ok (.lmul, 1) := by decide +kernel
theorem dX3_sawteeth_138 : decode cX3_sawteeth 138 = .ok (.ladd, 1) := by decide +kernel
theorem dX3_sawteeth_139 : decode cX3_sawteeth 139 = .ok (.lload 10, 2) := by decide +kernel
theorem dX3_sawteeth_141 : decode cX3_sawteeth 141 = .ok (.ladd, 1) := by decide +kernel
theorem dX3_sawteeth_142 : decode cX3_sawteeth 142 = .ok (.ldc2_w 132, 3) := by decide +kernel
theorem dX3_sawteeth_145 : decode cX3_sawteeth 145 = .ok (.ldiv, 1) := by decide +kernel
theorem dX3_sawteeth_146 : decode cX3_sawteeth 146 = .ok (.lreturn, 1) := by decide +kernel
set_option maxRecDepth 20000 in
theorem ggX3_check_X0_termsMakeIt : GoodIn wsX3_check wsX0_termsMakeIt := goodIn_r _ [6, 7, 8, 9, 10, 11, 5, 12, 13, 14, 15, 16, 17, 18, 42, 43, 44, 45] (by decide +kernel) (by decide +kernel)
set_option maxRecDepth 20000 in
theorem gX3_check_X0_termsMakeIt : GoodIn wsX3_check (wsV RX3 134 RX0 yX0_termsMakeIt wsX0_termsMakeIt) := goodIn_app (goodIn_of _ (by decide +kernel)) ggX3_check_X0_termsMakeIt
set_option maxRecDepth 20000 in
theorem ggX3_check_X0_convergentsAreClose : GoodIn wsX3_check wsX0_convergentsAreClose := goodIn_r _ [22, 7, 13, 18, 23, 42, 43, 44, 45] (by decide +kernel) (by decide +kernel)
set_option maxRecDepth 20000 in
theorem gX3_check_X0_convergentsAreClose : GoodIn wsX3_check (wsV RX3 138 RX0 yX0_convergentsAreClose wsX0_convergentsAreClose) := goodIn_app (goodIn_of _ (by decide +kernel)) ggX3_check_X0_convergentsAreClose
set_option maxRecDepth 20000 in
theorem ggX3_check_X0_wayLeadsToIt : GoodIn wsX3_check wsX0_wayLeadsToIt := goodIn_r _ [27, 9, 10, 11, 5, 12, 13, 7, 28, 29, 30, 31, 14, 15, 16, 17, 18, 32, 33, 34, 35, 8, 36, 37, 38, 39, 42, 43, 44, 45] (by decide +kernel) (by decide +kernel)
set_option maxRecDepth 20000 in
theorem gX3_check_X0_wayLeadsToIt : GoodIn wsX3_check (wsV RX3 141 RX0 yX0_wayLeadsToIt wsX0_wayLeadsToIt) := goodIn_app (goodIn_of _ (by decide +kernel)) ggX3_check_X0_wayLeadsToIt
theorem dX3_check_0 : decode cX3_check 0 = .ok (.aload_n 0, 1) := by decide +kernel
theorem dX3_check_1 : decode cX3_check 1 = .ok (.getfield 10, 3) := by decide +kernel
theorem dX3_check_4 : decode cX3_check 4 = .ok (.invokevirtual 134, 3) := by decide +kernel
theorem dX3_check_7 : decode cX3_check 7 = .ok (.ifCond .eq 27, 3) := by decide +kernel
theorem dX3_check_10 : decode cX3_check 10 = .ok (.aload_n 0, 1) := by decide +kernel
theorem dX3_check_11 : decode cX3_check 11 = .ok (.getfield 10, 3) := by decide +kernel
theorem dX3_check_14 : decode cX3_check 14 = .ok (.invokevirtual 138, 3) := by decide +kernel
theorem dX3_check_17 : decode cX3_check 17 = .ok (.ifCond .eq 17, 3) := by decide +kernel
theorem dX3_check_20 : decode cX3_check 20 = .ok (.aload_n 0, 1) := by decide +kernel
theorem dX3_check_21 : decode cX3_check 21 = .ok (.getfield 10, 3) := by decide +kernel
theorem dX3_check_24 : decode cX3_check 24 = .ok (.invokevirtual 141, 3) := by decide +kernel
theorem dX3_check_27 : decode cX3_check 27 = .ok (.ifCond .eq 7, 3) := by decide +kernel
theorem dX3_check_30 : decode cX3_check 30 = .ok (.iconst 1, 1) := by decide +kernel
theorem dX3_check_31 : decode cX3_check 31 = .ok (.goto 4, 3) := by decide +kernel
theorem dX3_check_34 : decode cX3_check 34 = .ok (.iconst 0, 1) := by decide +kernel
theorem dX3_check_35 : decode cX3_check 35 = .ok (.ireturn, 1) := by decide +kernel
theorem dX3_isWithin_0 : decode cX3_isWithin 0 = .ok (.iload_n 0, 1) := by decide +kernel
theorem dX3_isWithin_1 : decode cX3_isWithin 1 = .ok (.iload_n 1, 1) := by decide +kernel
theorem dX3_isWithin_2 : decode cX3_isWithin 2 = .ok (.if_icmp .lt 12, 3) := by decide +kernel
theorem dX3_isWithin_5 : decode cX3_isWithin 5 = .ok (.iload_n 0, 1) := by decide +kernel
theorem dX3_isWithin_6 : decode cX3_isWithin 6 = .ok (.iload_n 2, 1) := by decide +kernel
theorem dX3_isWithin_7 : decode cX3_isWithin 7 = .ok (.if_icmp .gt 7, 3) := by decide +kernel
theorem dX3_isWithin_10 : decode cX3_isWithin 10 = .ok (.iconst 1, 1) := by decide +kernel
theorem dX3_isWithin_11 : decode cX3_isWithin 11 = .ok (.goto 4, 3) := by decide +kernel
theorem dX3_isWithin_14 : decode cX3_isWithin 14 = .ok (.iconst 0, 1) := by decide +kernel
theorem dX3_isWithin_15 : decode cX3_isWithin 15 = .ok (.ireturn, 1) := by decide +kernel
theorem dX3_topOrBottom_0 : decode cX3_topOrBottom 0 = .ok (.iload_n 0, 1) := by decide +kernel
theorem dX3_topOrBottom_1 : decode cX3_topOrBottom 1 = .ok (.ifCond .ne 5, 3) := by decide +kernel
theorem dX3_topOrBottom_4 : decode cX3_topOrBottom 4 = .ok (.iload_n 1, 1) := by decide +kernel
theorem dX3_topOrBottom_5 : decode cX3_topOrBottom 5 = .ok (.ireturn, 1) := by decide +kernel
theorem dX3_topOrBottom_6 : decode cX3_topOrBottom 6 = .ok (.iload_n 0, 1) := by decide +kernel
theorem dX3_topOrBottom_7 : decode cX3_topOrBottom 7 = .ok (.iconst 1, 1) := by decide +kernel
theorem dX3_topOrBottom_8 : decode cX3_topOrBottom 8 = .ok (.if_icmp .ne 7, 3) := by decide +kernel
theorem dX3_topOrBottom_11 : decode cX3_topOrBottom 11 = .ok (.iload_n 2, 1) := by decide +kernel
theorem dX3_topOrBottom_12 : decode cX3_topOrBottom 12 = .ok (.goto 4, 3) := by decide +kernel
theorem dX3_topOrBottom_15 : decode cX3_topOrBottom 15 = .ok (.iconst (-1), 1) := by decide +kernel
theorem dX3_topOrBottom_16 : decode cX3_topOrBottom 16 = .ok (.ireturn, 1) := by decide +kernel
theorem dX3_isTerm_0 : decode cX3_isTerm 0 = .ok (.iload_n 1, 1) := by decide +kernel
theorem dX3_isTerm_1 : decode cX3_isTerm 1 = .ok (.ifCond .lt 18, 3) := by decide +kernel
theorem dX3_isTerm_4 : decode cX3_isTerm 4 = .ok (.iload_n 1, 1) := by decide +kernel
theorem dX3_isTerm_5 : decode cX3_isTerm 5 = .ok (.aload_n 0, 1) := by decide +kernel
theorem dX3_isTerm_6 : decode cX3_isTerm 6 = .ok (.getfield 10, 3) := by decide +kernel
theorem dX3_isTerm_9 : decode cX3_isTerm 9 = .ok (.getfield 50, 3) := by decide +kernel
theorem dX3_isTerm_12 : decode cX3_isTerm 12 = .ok (.if_icmp .ge 7, 3) := by decide +kernel
theorem dX3_isTerm_15 : decode cX3_isTerm 15 = .ok (.iconst 1, 1) := by decide +kernel
theorem dX3_isTerm_16 : decode cX3_isTerm 16 = .ok (.goto 4, 3) := by decide +kernel
theorem dX3_isTerm_19 : decode cX3_isTerm 19 = .ok (.iconst 0, 1) := by decide +kernel
theorem dX3_isTerm_20 : decode cX3_isTerm 20 = .ok (.ireturn, 1) := by decide +kernel
set_option maxRecDepth 20000 in
theorem ggX3_stepOn_X0_top : GoodIn wsX3_stepOn wsX0_top := goodIn_r _ [6, 7, 8, 43, 44, 45, 46] (by decide +kernel) (by decide +kernel)
set_option maxRecDepth 20000 in
theorem gX3_stepOn_X0_top : GoodIn wsX3_stepOn (wsV RX3 39 RX0 yX0_top wsX0_top) := goodIn_app (goodIn_of _ (by decide +kernel)) ggX3_stepOn_X0_top
set_option maxRecDepth 20000 in
theorem ggX3_stepOn_X0_bottom : GoodIn wsX3_stepOn wsX0_bottom := goodIn_r _ [12, 13, 8, 43, 44, 45, 46] (by decide +kernel) (by decide +kernel)
set_option maxRecDepth 20000 in
theorem gX3_stepOn_X0_bottom : GoodIn wsX3_stepOn (wsV RX3 43 RX0 yX0_bottom wsX0_bottom) := goodIn_app (goodIn_of _ (by decide +kernel)) ggX3_stepOn_X0_bottom
set_option maxRecDepth 20000 in
theorem ggX3_stepOn_X2_bottomBehind : GoodIn wsX3_stepOn wsX2_bottomBehind := goodIn_r _ [17] (by decide +kernel) (by decide +kernel)
set_option maxRecDepth 20000 in
theorem gX3_stepOn_X2_bottomBehind : GoodIn wsX3_stepOn (va_wsS RX3 144 yX2_bottomBehind wsX2_bottomBehind) := goodIn_app (goodIn_of _ (by decide +kernel)) ggX3_stepOn_X2_bottomBehind
set_option maxRecDepth 20000 in
theorem ggX3_stepOn_X0_expand : GoodIn wsX3_stepOn wsX0_expand := goodIn_r _ [21, 22, 23, 24, 5, 25, 8, 7, 13, 26, 27, 28, 29, 30, 31, 3, 4, 6, 32, 33, 34, 35, 36, 10, 11, 12, 37, 38, 39, 40, 43, 44, 45, 46] (by decide +kernel) (by decide +kernel)
set_option maxRecDepth 20000 in
theorem gX3_stepOn_X0_expand : GoodIn wsX3_stepOn (wsV RX3 23 RX0 yX0_expand wsX0_expand) := goodIn_app (goodIn_of _ (by decide +kernel)) ggX3_stepOn_X0_expand
theorem dX3_stepOn_0 : decode cX3_stepOn 0 = .ok (.aload_n 0, 1) := by decide +kernel
theorem dX3_stepOn_1 : decode cX3_stepOn 1 = .ok (.getfield 10, 3) := by decide +kernel
theorem dX3_stepOn_4 : decode cX3_stepOn 4 = .ok (.invokevirtual 39, 3) := by decide +kernel
theorem dX3_stepOn_7 : decode cX3_stepOn 7 = .ok (.istore_n 3, 1) := by decide +kernel
theorem dX3_stepOn_8 : decode cX3_stepOn 8 = .ok (.aload_n 0, 1) := by decide +kernel
theorem dX3_stepOn_9 : decode cX3_stepOn 9 = .ok (.getfield 10, 3) := by decide +kernel
theorem dX3_stepOn_12 : decode cX3_stepOn 12 = .ok (.invokevirtual 43, 3) := by decide +kernel
theorem dX3_stepOn_15 : decode cX3_stepOn 15 = .ok (.istore 4, 2) := by decide +kernel
theorem dX3_stepOn_17 : decode cX3_stepOn 17 = .ok (.iload_n 1, 1) := by decide +kernel
theorem dX3_stepOn_18 : decode cX3_stepOn 18 = .ok (.iload_n 3, 1) := by decide +kernel
theorem dX3_stepOn_19 : decode cX3_stepOn 19 = .ok (.iload 4, 2) := by decide +kernel
theorem dX3_stepOn_21 : decode cX3_stepOn 21 = .ok (.invokestatic 144, 3) := by decide +kernel
theorem dX3_stepOn_24 : decode cX3_stepOn 24 = .ok (.istore 5, 2) := by decide +kernel
theorem dX3_stepOn_26 : decode cX3_stepOn 26 = .ok (.iload 4, 2) := by decide +kernel
theorem dX3_stepOn_28 : decode cX3_stepOn 28 = .ok (.ifCond .le 15, 3) := by decide +kernel
theorem dX3_stepOn_31 : decode cX3_stepOn 31 = .ok (.iload_n 3, 1) := by decide +kernel
theorem dX3_stepOn_32 : decode cX3_stepOn 32 = .ok (.iload 5, 2) := by decide +kernel
theorem dX3_stepOn_34 : decode cX3_stepOn 34 = .ok (.imul, 1) := by decide +kernel
theorem dX3_stepOn_35 : decode cX3_stepOn 35 = .ok (.iconst 1, 1) := by decide +kernel
theorem dX3_stepOn_36 : decode cX3_stepOn 36 = .ok (.iadd, 1) := by decide +kernel
theorem dX3_stepOn_37 : decode cX3_stepOn 37 = .ok (.iload 4, 2) := by decide +kernel
theorem dX3_stepOn_39 : decode cX3_stepOn 39 = .ok (.idiv, 1) := by decide +kernel
theorem dX3_stepOn_40 : decode cX3_stepOn 40 = .ok (.goto 4, 3) := by decide +kernel
theorem dX3_stepOn_43 : decode cX3_stepOn 43 = .ok (.iconst 0, 1) := by decide +kernel
theorem dX3_stepOn_44 : decode cX3_stepOn 44 = .ok (.istore 6, 2) := by decide +kernel
theorem dX3_stepOn_46 : decode cX3_stepOn 46 = .ok (.iconst 0, 1) := by decide +kernel
theorem dX3_stepOn_47 : decode cX3_stepOn 47 = .ok (.istore 7, 2) := by decide +kernel
theorem dX3_stepOn_49 : decode cX3_stepOn 49 = .ok (.iload 7, 2) := by decide +kernel
theorem dX3_stepOn_51 : decode cX3_stepOn 51 = .ok (.iload_n 2, 1) := by decide +kernel
theorem dX3_stepOn_52 : decode cX3_stepOn 52 = .ok (.if_icmp .ge 57, 3) := by decide +kernel
theorem dX3_stepOn_55 : decode cX3_stepOn 55 = .ok (.iload 5, 2) := by decide +kernel
theorem dX3_stepOn_57 : decode cX3_stepOn 57 = .ok (.ifCond .le 52, 3) := by decide +kernel
theorem dX3_stepOn_60 : decode cX3_stepOn 60 = .ok (.iload_n 1, 1) := by decide +kernel
theorem dX3_stepOn_61 : decode cX3_stepOn 61 = .ok (.iload 4, 2) := by decide +kernel
theorem dX3_stepOn_63 : decode cX3_stepOn 63 = .ok (.iadd, 1) := by decide +kernel
theorem dX3_stepOn_64 : decode cX3_stepOn 64 = .ok (.iload 5, 2) := by decide +kernel
theorem dX3_stepOn_66 : decode cX3_stepOn 66 = .ok (.idiv, 1) := by decide +kernel
theorem dX3_stepOn_67 : decode cX3_stepOn 67 = .ok (.istore 8, 2) := by decide +kernel
theorem dX3_stepOn_69 : decode cX3_stepOn 69 = .ok (.iload 8, 2) := by decide +kernel
theorem dX3_stepOn_71 : decode cX3_stepOn 71 = .ok (.iload 6, 2) := by decide +kernel
theorem dX3_stepOn_73 : decode cX3_stepOn 73 = .ok (.imul, 1) := by decide +kernel
theorem dX3_stepOn_74 : decode cX3_stepOn 74 = .ok (.iload_n 3, 1) := by decide +kernel
theorem dX3_stepOn_75 : decode cX3_stepOn 75 = .ok (.isub, 1) := by decide +kernel
theorem dX3_stepOn_76 : decode cX3_stepOn 76 = .ok (.istore 9, 2) := by decide +kernel
theorem dX3_stepOn_78 : decode cX3_stepOn 78 = .ok (.iload 8, 2) := by decide +kernel
theorem dX3_stepOn_80 : decode cX3_stepOn 80 = .ok (.iload 5, 2) := by decide +kernel
theorem dX3_stepOn_82 : decode cX3_stepOn 82 = .ok (.imul, 1) := by decide +kernel
theorem dX3_stepOn_83 : decode cX3_stepOn 83 = .ok (.iload 4, 2) := by decide +kernel
theorem dX3_stepOn_85 : decode cX3_stepOn 85 = .ok (.isub, 1) := by decide +kernel
theorem dX3_stepOn_86 : decode cX3_stepOn 86 = .ok (.istore 10, 2) := by decide +kernel
theorem dX3_stepOn_88 : decode cX3_stepOn 88 = .ok (.iload 6, 2) := by decide +kernel
theorem dX3_stepOn_90 : decode cX3_stepOn 90 = .ok (.istore_n 3, 1) := by decide +kernel
theorem dX3_stepOn_91 : decode cX3_stepOn 91 = .ok (.iload 5, 2) := by decide +kernel
theorem dX3_stepOn_93 : decode cX3_stepOn 93 = .ok (.istore 4, 2) := by decide +kernel
theorem dX3_stepOn_95 : decode cX3_stepOn 95 = .ok (.iload 9, 2) := by decide +kernel
theorem dX3_stepOn_97 : decode cX3_stepOn 97 = .ok (.istore 6, 2) := by decide +kernel
theorem dX3_stepOn_99 : decode cX3_stepOn 99 = .ok (.iload 10, 2) := by decide +kernel
theorem dX3_stepOn_101 : decode cX3_stepOn 101 = .ok (.istore 5, 2) := by decide +kernel
theorem dX3_stepOn_103 : decode cX3_stepOn 103 = .ok (.iinc 7 1, 3) := by decide +kernel
theorem dX3_stepOn_106 : decode cX3_stepOn 106 = .ok (.goto (-57), 3) := by decide +kernel
theorem dX3_stepOn_109 : decode cX3_stepOn 109 = .ok (.aload_n 0, 1) := by decide +kernel
theorem dX3_stepOn_110 : decode cX3_stepOn 110 = .ok (.getfield 10, 3) := by decide +kernel
theorem dX3_stepOn_113 : decode cX3_stepOn 113 = .ok (.iload_n 3, 1) := by decide +kernel
theorem dX3_stepOn_114 : decode cX3_stepOn 114 = .ok (.iload 4, 2) := by decide +kernel
theorem dX3_stepOn_116 : decode cX3_stepOn 116 = .ok (.invokevirtual 23, 3) := by decide +kernel
theorem dX3_stepOn_119 : decode cX3_stepOn 119 = .ok (.return_, 1) := by decide +kernel
theorem dX3_sumOfFloors_0 : decode cX3_sumOfFloors 0 = .ok (.lconst 0, 1) := by decide +kernel
theorem dX3_sumOfFloors_1 : decode cX3_sumOfFloors 1 = .ok (.lstore 8, 2) := by decide +kernel
theorem dX3_sumOfFloors_3 : decode cX3_sumOfFloors 3 = .ok (.iconst 0, 1) := by decide +kernel
theorem dX3_sumOfFloors_4 : decode cX3_sumOfFloors 4 = .ok (.istore 10, 2) := by decide +kernel
theorem dX3_sumOfFloors_6 : decode cX3_sumOfFloors 6 = .ok (.iload 10, 2) := by decide +kernel
theorem dX3_sumOfFloors_8 : decode cX3_sumOfFloors 8 = .ok (.bipush 64, 2) := by decide +kernel
theorem dX3_sumOfFloors_10 : decode cX3_sumOfFloors 10 = .ok (.if_icmp .ge 96, 3) := by decide +kernel
theorem dX3_sumOfFloors_13 : decode cX3_sumOfFloors 13 = .ok (.lload 6, 2) := by decide +kernel
theorem dX3_sumOfFloors_15 : decode cX3_sumOfFloors 15 = .ok (.lconst 0, 1) := by decide +kernel
theorem dX3_sumOfFloors_16 : decode cX3_sumOfFloors 16 = .ok (.lcmp, 1) := by decide +kernel
theorem dX3_sumOfFloors_17 : decode cX3_sumOfFloors 17 = .ok (.ifCond .le 89, 3) := by decide +kernel
theorem dX3_sumOfFloors_20 : decode cX3_sumOfFloors 20 = .ok (.lload 8, 2) := by decide +kernel
theorem dX3_sumOfFloors_22 : decode cX3_sumOfFloors 22 = .ok (.lload_n 0, 1) := by decide +kernel
theorem dX3_sumOfFloors_23 : decode cX3_sumOfFloors 23 = .ok (.lload_n 0, 1) := by decide +kernel
theorem dX3_sumOfFloors_24 : decode cX3_sumOfFloors 24 = .ok (.lconst 1, 1) := by decide +kernel
theorem dX3_sumOfFloors_25 : decode cX3_sumOfFloors 25 = .ok (.lsub, 1) := by decide +kernel
theorem dX3_sumOfFloors_26 : decode cX3_sumOfFloors 26 = .ok (.lmul, 1) := by decide +kernel
theorem dX3_sumOfFloors_27 : decode cX3_sumOfFloors 27 = .ok (.ldc2_w 132, 3) := by decide +kernel
theorem dX3_sumOfFloors_30 : decode cX3_sumOfFloors 30 = .ok (.ldiv, 1) := by decide +kernel
theorem dX3_sumOfFloors_31 : decode cX3_sumOfFloors 31 = .ok (.lload_n 2, 1) := by decide +kernel
theorem dX3_sumOfFloors_32 : decode cX3_sumOfFloors 32 = .ok (.lload 6, 2) := by decide +kernel
theorem dX3_sumOfFloors_34 : decode cX3_sumOfFloors 34 = .ok (.ldiv, 1) := by decide +kernel
theorem dX3_sumOfFloors_35 : decode cX3_sumOfFloors 35 = .ok (.lmul, 1) := by decide +kernel
theorem dX3_sumOfFloors_36 : decode cX3_sumOfFloors 36 = .ok (.lload_n 0, 1) := by decide +kernel
theorem dX3_sumOfFloors_37 : decode cX3_sumOfFloors 37 = .ok (.lload 4, 2) := by decide +kernel
theorem dX3_sumOfFloors_39 : decode cX3_sumOfFloors 39 = .ok (.lload 6, 2) := by decide +kernel
theorem dX3_sumOfFloors_41 : decode cX3_sumOfFloors 41 = .ok (.ldiv, 1) := by decide +kernel
theorem dX3_sumOfFloors_42 : decode cX3_sumOfFloors 42 = .ok (.lmul, 1) := by decide +kernel
theorem dX3_sumOfFloors_43 : decode cX3_sumOfFloors 43 = .ok (.ladd, 1) := by decide +kernel
theorem dX3_sumOfFloors_44 : decode cX3_sumOfFloors 44 = .ok (.ladd, 1) := by decide +kernel
theorem dX3_sumOfFloors_45 : decode cX3_sumOfFloors 45 = .ok (.lstore 8, 2) := by decide +kernel
theorem dX3_sumOfFloors_47 : decode cX3_sumOfFloors 47 = .ok (.lload_n 2, 1) := by decide +kernel
theorem dX3_sumOfFloors_48 : decode cX3_sumOfFloors 48 = .ok (.lload 6, 2) := by decide +kernel
theorem dX3_sumOfFloors_50 : decode cX3_sumOfFloors 50 = .ok (.lrem, 1) := by decide +kernel
theorem dX3_sumOfFloors_51 : decode cX3_sumOfFloors 51 = .ok (.lstore_n 2, 1) := by decide +kernel
theorem dX3_sumOfFloors_52 : decode cX3_sumOfFloors 52 = .ok (.lload 4, 2) := by decide +kernel
theorem dX3_sumOfFloors_54 : decode cX3_sumOfFloors 54 = .ok (.lload 6, 2) := by decide +kernel
theorem dX3_sumOfFloors_56 : decode cX3_sumOfFloors 56 = .ok (.lrem, 1) := by decide +kernel
theorem dX3_sumOfFloors_57 : decode cX3_sumOfFloors 57 = .ok (.lstore 4, 2) := by decide +kernel
theorem dX3_sumOfFloors_59 : decode cX3_sumOfFloors 59 = .ok (.lload_n 2, 1) := by decide +kernel
theorem dX3_sumOfFloors_60 : decode cX3_sumOfFloors 60 = .ok (.lload_n 0, 1) := by decide +kernel
theorem dX3_sumOfFloors_61 : decode cX3_sumOfFloors 61 = .ok (.lmul, 1) := by decide +kernel
theorem dX3_sumOfFloors_62 : decode cX3_sumOfFloors 62 = .ok (.lload 4, 2) := by decide +kernel
theorem dX3_sumOfFloors_64 : decode cX3_sumOfFloors 64 = .ok (.ladd, 1) := by decide +kernel
theorem dX3_sumOfFloors_65 : decode cX3_sumOfFloors 65 = .ok (.lstore 11, 2) := by decide +kernel
theorem dX3_sumOfFloors_67 : decode cX3_sumOfFloors 67 = .ok (.lload 11, 2) := by decide +kernel
theorem dX3_sumOfFloors_69 : decode cX3_sumOfFloors 69 = .ok (.lload 6, 2) := by decide +kernel
theorem dX3_sumOfFloors_71 : decode cX3_sumOfFloors 71 = .ok (.ldiv, 1) := by decide +kernel
theorem dX3_sumOfFloors_72 : decode cX3_sumOfFloors 72 = .ok (.lstore_n 0, 1) := by decide +kernel
theorem dX3_sumOfFloors_73 : decode cX3_sumOfFloors 73 = .ok (.lload 11, 2) := by decide +kernel
theorem dX3_sumOfFloors_75 : decode cX3_sumOfFloors 75 = .ok (.lload 6, 2) := by decide +kernel
theorem dX3_sumOfFloors_77 : decode cX3_sumOfFloors 77 = .ok (.lrem, 1) := by decide +kernel
theorem dX3_sumOfFloors_78 : decode cX3_sumOfFloors 78 = .ok (.lstore 4, 2) := by decide +kernel
theorem dX3_sumOfFloors_80 : decode cX3_sumOfFloors 80 = .ok (.lload_n 2, 1) := by decide +kernel
theorem dX3_sumOfFloors_81 : decode cX3_sumOfFloors 81 = .ok (.lstore 13, 2) := by decide +kernel
theorem dX3_sumOfFloors_83 : decode cX3_sumOfFloors 83 = .ok (.lload 6, 2) := by decide +kernel
theorem dX3_sumOfFloors_85 : decode cX3_sumOfFloors 85 = .ok (.lstore_n 2, 1) := by decide +kernel
theorem dX3_sumOfFloors_86 : decode cX3_sumOfFloors 86 = .ok (.lload_n 0, 1) := by decide +kernel
theorem dX3_sumOfFloors_87 : decode cX3_sumOfFloors 87 = .ok (.lconst 0, 1) := by decide +kernel
theorem dX3_sumOfFloors_88 : decode cX3_sumOfFloors 88 = .ok (.lcmp, 1) := by decide +kernel
theorem dX3_sumOfFloors_89 : decode cX3_sumOfFloors 89 = .ok (.ifCond .ne 7, 3) := by decide +kernel
theorem dX3_sumOfFloors_92 : decode cX3_sumOfFloors 92 = .ok (.lconst 0, 1) := by decide +kernel
theorem dX3_sumOfFloors_93 : decode cX3_sumOfFloors 93 = .ok (.goto 5, 3) := by decide +kernel
theorem dX3_sumOfFloors_96 : decode cX3_sumOfFloors 96 = .ok (.lload 13, 2) := by decide +kernel
theorem dX3_sumOfFloors_98 : decode cX3_sumOfFloors 98 = .ok (.lstore 6, 2) := by decide +kernel
theorem dX3_sumOfFloors_100 : decode cX3_sumOfFloors 100 = .ok (.iinc 10 1, 3) := by decide +kernel
theorem dX3_sumOfFloors_103 : decode cX3_sumOfFloors 103 = .ok (.goto (-97), 3) := by decide +kernel
theorem dX3_sumOfFloors_106 : decode cX3_sumOfFloors 106 = .ok (.lload 8, 2) := by decide +kernel
theorem dX3_sumOfFloors_108 : decode cX3_sumOfFloors 108 = .ok (.lreturn, 1) := by decide +kernel
