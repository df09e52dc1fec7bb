abbrev cX0_init : ByteArray := prog_2_method_1_code
def yX0_init : MethodName := ⟨RX0, "<init>", "()V"⟩
abbrev cX0_top : ByteArray := prog_2_method_2_code
def yX0_top : MethodName := ⟨RX0, "top", "()I"⟩
abbrev cX0_bottom : ByteArray := prog_2_method_3_code
def yX0_bottom : MethodName := ⟨RX0, "bottom", "()I"⟩
abbrev cX0_topBefore : ByteArray := prog_2_method_4_code
def yX0_topBefore : MethodName := ⟨RX0, "topBefore", "()I"⟩
abbrev cX0_bottomBefore : ByteArray := prog_2_method_5_code
def yX0_bottomBefore : MethodName := ⟨RX0, "bottomBefore", "()I"⟩
abbrev cX0_startAnew : ByteArray := prog_2_method_6_code
def yX0_startAnew : MethodName := ⟨RX0, "startAnew", "()V"⟩
abbrev cX0_addTerm : ByteArray := prog_2_method_7_code
def yX0_addTerm : MethodName := ⟨RX0, "addTerm", "(I)V"⟩
abbrev cX0_expand : ByteArray := prog_2_method_8_code
def yX0_expand : MethodName := ⟨RX0, "expand", "(II)V"⟩
abbrev cX0_expandSimplest : ByteArray := prog_2_method_9_code
def yX0_expandSimplest : MethodName := ⟨RX0, "expandSimplest", "(IIII)V"⟩
abbrev cX0_countSteps : ByteArray := prog_2_method_10_code
def yX0_countSteps : MethodName := ⟨RX0, "countSteps", "()I"⟩
abbrev cX0_countRuns : ByteArray := prog_2_method_11_code
def yX0_countRuns : MethodName := ⟨RX0, "countRuns", "()I"⟩
abbrev cX0_firstTermWithSteps : ByteArray := prog_2_method_12_code
def yX0_firstTermWithSteps : MethodName := ⟨RX0, "firstTermWithSteps", "()I"⟩
abbrev cX0_stepsOfRun : ByteArray := prog_2_method_13_code
def yX0_stepsOfRun : MethodName := ⟨RX0, "stepsOfRun", "(I)I"⟩
abbrev cX0_neighbourAt : ByteArray := prog_2_method_14_code
def yX0_neighbourAt : MethodName := ⟨RX0, "neighbourAt", "(I)LSternDesk$Fraction;"⟩
abbrev cX0_nearWithin : ByteArray := prog_2_method_15_code
def yX0_nearWithin : MethodName := ⟨RX0, "nearWithin", "(II)LSternDesk$Fraction;"⟩
abbrev cX0_lastWithin : ByteArray := prog_2_method_16_code
def yX0_lastWithin : MethodName := ⟨RX0, "lastWithin", "(I)I"⟩
abbrev cX0_isLowerNearer : ByteArray := prog_2_method_17_code
def yX0_isLowerNearer : MethodName := ⟨RX0, "isLowerNearer", "(LSternDesk$Fraction;LSternDesk$Fraction;)Z"⟩
abbrev cX0_termsMakeIt : ByteArray := prog_2_method_18_code
def yX0_termsMakeIt : MethodName := ⟨RX0, "termsMakeIt", "()Z"⟩
abbrev cX0_convergentsAreClose : ByteArray := prog_2_method_19_code
def yX0_convergentsAreClose : MethodName := ⟨RX0, "convergentsAreClose", "()Z"⟩
abbrev cX0_wayLeadsToIt : ByteArray := prog_2_method_20_code
def yX0_wayLeadsToIt : MethodName := ⟨RX0, "wayLeadsToIt", "()Z"⟩
abbrev cX1_init : ByteArray := prog_3_method_1_code
def yX1_init : MethodName := ⟨RX1, "<init>", "(II)V"⟩
abbrev cX2_init : ByteArray := prog_4_method_1_code
def yX2_init : MethodName := ⟨RX2, "<init>", "()V"⟩
abbrev cX2_countAll : ByteArray := prog_4_method_2_code
def yX2_countAll : MethodName := ⟨RX2, "countAll", "(I)I"⟩
abbrev cX2_countBelow : ByteArray := prog_4_method_3_code
def yX2_countBelow : MethodName := ⟨RX2, "countBelow", "(III)I"⟩
abbrev cX2_countInside : ByteArray := prog_4_method_4_code
def yX2_countInside : MethodName := ⟨RX2, "countInside", "(III)I"⟩
abbrev cX2_columnOf : ByteArray := prog_4_method_5_code
def yX2_columnOf : MethodName := ⟨RX2, "columnOf", "(II)I"⟩
abbrev cX2_bottomBehind : ByteArray := prog_4_method_6_code
def yX2_bottomBehind : MethodName := ⟨RX2, "bottomBehind", "(III)I"⟩
abbrev cX3_sumOfFloors : ByteArray := prog_1_method_23_code
def yX3_sumOfFloors : MethodName := ⟨RX3, "sumOfFloors", "(JJJJ)J"⟩
def wsX0_init : List Cond := .code yX0_init cX0_init 1 none :: ([.methodLink RX0 3 objectInit, .instanceMethod objectInit, .code objectInit ⟨#[0xb1]⟩ 1 none, .arrayClass .int, .fieldLink RX0 9 "SternDesk$Expansion" "quotients" "[I", .fieldLink RX0 15 "SternDesk$Expansion" "tops" "[I", .fieldLink RX0 18 "SternDesk$Expansion" "bottoms" "[I"] ++ wsX00)
def wsX0_top : List Cond := .code yX0_top cX0_top 1 (some .int) :: ([.fieldLink RX0 15 "SternDesk$Expansion" "tops" "[I", .fieldLink RX0 21 "SternDesk$Expansion" "count" "I"] ++ wsX00)
def wsX0_bottom : List Cond := .code yX0_bottom cX0_bottom 1 (some .int) :: ([.fieldLink RX0 18 "SternDesk$Expansion" "bottoms" "[I", .fieldLink RX0 21 "SternDesk$Expansion" "count" "I"] ++ wsX00)
def wsX0_topBefore : List Cond := .code yX0_topBefore cX0_topBefore 1 (some .int) :: ([.fieldLink RX0 21 "SternDesk$Expansion" "count" "I", .fieldLink RX0 15 "SternDesk$Expansion" "tops" "[I"] ++ wsX00)
def wsX0_bottomBefore : List Cond := .code yX0_bottomBefore cX0_bottomBefore 1 (some .int) :: ([.fieldLink RX0 21 "SternDesk$Expansion" "count" "I", .fieldLink RX0 18 "SternDesk$Expansion" "bottoms" "[I"] ++ wsX00)
def wsX0_startAnew : List Cond := .code yX0_startAnew cX0_startAnew 1 none :: ([.fieldLink RX0 21 "SternDesk$Expansion" "count" "I", .fieldLink RX0 15 "SternDesk$Expansion" "tops" "[I", .fieldLink RX0 18 "SternDesk$Expansion" "bottoms" "[I"] ++ wsX00)
def wsX0_addTerm : List Cond := .code yX0_addTerm cX0_addTerm 4 none :: ([.fieldLink RX0 21 "SternDesk$Expansion" "count" "I", .fieldLink RX0 9 "SternDesk$Expansion" "quotients" "[I", .fieldLink RX0 15 "SternDesk$Expansion" "tops" "[I", .fieldLink RX0 18 "SternDesk$Expansion" "bottoms" "[I", .methodLink RX0 25 yX0_top, .instanceMethod yX0_top, .selects RX0 yX0_top yX0_top, .initialized RX0, .code yX0_top cX0_top 1 (some .int), .methodLink RX0 29 yX0_topBefore, .instanceMethod yX0_topBefore, .selects RX0 yX0_topBefore yX0_topBefore, .code yX0_topBefore cX0_topBefore 1 (some .int), .methodLink RX0 32 yX0_bottom, .instanceMethod yX0_bottom, .selects RX0 yX0_bottom yX0_bottom, .code yX0_bottom cX0_bottom 1 (some .int), .methodLink RX0 35 yX0_bottomBefore, .instanceMethod yX0_bottomBefore, .selects RX0 yX0_bottomBefore yX0_bottomBefore, .code yX0_bottomBefore cX0_bottomBefore 1 (some .int)] ++ wsX00)
def wsX0_expand_r1 : List Cond := [Cond.methodLink RX0 38 yX0_startAnew, Cond.instanceMethod yX0_startAnew, Cond.selects RX0 yX0_startAnew yX0_startAnew, Cond.initialized RX0, Cond.code yX0_startAnew cX0_startAnew 1 none, Cond.fieldLink RX0 21 "SternDesk$Expansion" "count" "I", Cond.fieldLink RX0 15 "SternDesk$Expansion" "tops" "[I", Cond.fieldLink RX0 18 "SternDesk$Expansion" "bottoms" "[I", Cond.methodLink RX0 41 yX0_addTerm, Cond.instanceMethod yX0_addTerm, Cond.selects RX0 yX0_addTerm yX0_addTerm, Cond.code yX0_addTerm cX0_addTerm 4 none, Cond.fieldLink RX0 9 "SternDesk$Expansion" "quotients" "[I", Cond.methodLink RX0 25 yX0_top, Cond.instanceMethod yX0_top, Cond.selects RX0 yX0_top yX0_top, Cond.code yX0_top cX0_top 1 (some .int), Cond.methodLink RX0 29 yX0_topBefore, Cond.instanceMethod yX0_topBefore, Cond.selects RX0 yX0_topBefore yX0_topBefore, Cond.code yX0_topBefore cX0_topBefore 1 (some .int), Cond.methodLink RX0 32 yX0_bottom, Cond.instanceMethod yX0_bottom, Cond.selects RX0 yX0_bottom yX0_bottom]
def wsX0_expand_r2 : List Cond := [Cond.code yX0_bottom cX0_bottom 1 (some .int), Cond.methodLink RX0 35 yX0_bottomBefore, Cond.instanceMethod yX0_bottomBefore, Cond.selects RX0 yX0_bottomBefore yX0_bottomBefore, Cond.code yX0_bottomBefore cX0_bottomBefore 1 (some .int)]
def wsX0_expand : List Cond := .code yX0_expand cX0_expand 8 none :: ((wsX0_expand_r1 ++ wsX0_expand_r2) ++ wsX00)
def wsX0_expandSimplest_r1 : List Cond := [Cond.methodLink RX0 38 yX0_startAnew, Cond.instanceMethod yX0_startAnew, Cond.selects RX0 yX0_startAnew yX0_startAnew, Cond.initialized RX0, Cond.code yX0_startAnew cX0_startAnew 1 none, Cond.fieldLink RX0 21 "SternDesk$Expansion" "count" "I", Cond.fieldLink RX0 15 "SternDesk$Expansion" "tops" "[I", Cond.fieldLink RX0 18 "SternDesk$Expansion" "bottoms" "[I", Cond.methodLink RX0 41 yX0_addTerm, Cond.instanceMethod yX0_addTerm, Cond.selects RX0 yX0_addTerm yX0_addTerm, Cond.code yX0_addTerm cX0_addTerm 4 none, Cond.fieldLink RX0 9 "SternDesk$Expansion" "quotients" "[I", Cond.methodLink RX0 25 yX0_top, Cond.instanceMethod yX0_top, Cond.selects RX0 yX0_top yX0_top, Cond.code yX0_top cX0_top 1 (some .int), Cond.methodLink RX0 29 yX0_topBefore, Cond.instanceMethod yX0_topBefore, Cond.selects RX0 yX0_topBefore yX0_topBefore, Cond.code yX0_topBefore cX0_topBefore 1 (some .int), Cond.methodLink RX0 32 yX0_bottom, Cond.instanceMethod yX0_bottom, Cond.selects RX0 yX0_bottom yX0_bottom]
def wsX0_expandSimplest_r2 : List Cond := [Cond.code yX0_bottom cX0_bottom 1 (some .int), Cond.methodLink RX0 35 yX0_bottomBefore, Cond.instanceMethod yX0_bottomBefore, Cond.selects RX0 yX0_bottomBefore yX0_bottomBefore, Cond.code yX0_bottomBefore cX0_bottomBefore 1 (some .int)]
def wsX0_expandSimplest : List Cond := .code yX0_expandSimplest cX0_expandSimplest 10 none :: ((wsX0_expandSimplest_r1 ++ wsX0_expandSimplest_r2) ++ wsX00)
def wsX0_countSteps : List Cond := .code yX0_countSteps cX0_countSteps 3 (some .int) :: ([.fieldLink RX0 21 "SternDesk$Expansion" "count" "I", .fieldLink RX0 9 "SternDesk$Expansion" "quotients" "[I"] ++ wsX00)
def wsX0_firstTermWithSteps : List Cond := .code yX0_firstTermWithSteps cX0_firstTermWithSteps 1 (some .int) :: ([.fieldLink RX0 9 "SternDesk$Expansion" "quotients" "[I"] ++ wsX00)
def wsX0_countRuns : List Cond := .code yX0_countRuns cX0_countRuns 1 (some .int) :: ([.fieldLink RX0 21 "SternDesk$Expansion" "count" "I", .methodLink RX0 25 yX0_top, .instanceMethod yX0_top, .selects RX0 yX0_top yX0_top, .initialized RX0, .code yX0_top cX0_top 1 (some .int), .fieldLink RX0 15 "SternDesk$Expansion" "tops" "[I", .methodLink RX0 32 yX0_bottom, .instanceMethod yX0_bottom, .selects RX0 yX0_bottom yX0_bottom, .code yX0_bottom cX0_bottom 1 (some .int), .fieldLink RX0 18 "SternDesk$Expansion" "bottoms" "[I", .methodLink RX0 45 yX0_firstTermWithSteps, .instanceMethod yX0_firstTermWithSteps, .selects RX0 yX0_firstTermWithSteps yX0_firstTermWithSteps, .code yX0_firstTermWithSteps cX0_firstTermWithSteps 1 (some .int), .fieldLink RX0 9 "SternDesk$Expansion" "quotients" "[I"] ++ wsX00)
def wsX0_stepsOfRun : List Cond := .code yX0_stepsOfRun cX0_stepsOfRun 4 (some .int) :: ([.fieldLink RX0 21 "SternDesk$Expansion" "count" "I", .fieldLink RX0 9 "SternDesk$Expansion" "quotients" "[I", .methodLink RX0 45 yX0_firstTermWithSteps, .instanceMethod yX0_firstTermWithSteps, .selects RX0 yX0_firstTermWithSteps yX0_firstTermWithSteps, .initialized RX0, .code yX0_firstTermWithSteps cX0_firstTermWithSteps 1 (some .int)] ++ wsX00)
def wsX1_init : List Cond := .code yX1_init cX1_init 3 none :: ([.methodLink RX1 1 objectInit, .instanceMethod objectInit, .code objectInit ⟨#[0xb1]⟩ 1 none, .fieldLink RX1 7 "SternDesk$Fraction" "top" "I", .fieldLink RX1 13 "SternDesk$Fraction" "bottom" "I"] ++ wsX10)
def wsX0_neighbourAt_r1 : List Cond := [Cond.fieldLink RX0 21 "SternDesk$Expansion" "count" "I", Cond.classLink RX0 48 RX1, Cond.instantiable RX1 2, Cond.initialized RX1, Cond.methodLink RX0 29 yX0_topBefore, Cond.instanceMethod yX0_topBefore, Cond.selects RX0 yX0_topBefore yX0_topBefore, Cond.initialized RX0, Cond.code yX0_topBefore cX0_topBefore 1 (some .int), Cond.fieldLink RX0 15 "SternDesk$Expansion" "tops" "[I", Cond.methodLink RX0 35 yX0_bottomBefore, Cond.instanceMethod yX0_bottomBefore, Cond.selects RX0 yX0_bottomBefore yX0_bottomBefore, Cond.code yX0_bottomBefore cX0_bottomBefore 1 (some .int), Cond.fieldLink RX0 18 "SternDesk$Expansion" "bottoms" "[I", Cond.methodLink RX0 50 yX1_init, Cond.instanceMethod yX1_init, Cond.code yX1_init cX1_init 3 none, Cond.methodLink RX1 1 objectInit, Cond.instanceMethod objectInit, Cond.code objectInit ⟨#[0xb1]⟩ 1 none, Cond.fieldLink RX1 7 "SternDesk$Fraction" "top" "I", Cond.fieldLink RX1 13 "SternDesk$Fraction" "bottom" "I", Cond.methodLink RX0 25 yX0_top]
def wsX0_neighbourAt_r2 : List Cond := [Cond.instanceMethod yX0_top, Cond.selects RX0 yX0_top yX0_top, Cond.code yX0_top cX0_top 1 (some .int), Cond.methodLink RX0 32 yX0_bottom, Cond.instanceMethod yX0_bottom, Cond.selects RX0 yX0_bottom yX0_bottom, Cond.code yX0_bottom cX0_bottom 1 (some .int)]
def wsX0_neighbourAt : List Cond := .code yX0_neighbourAt cX0_neighbourAt 2 (some (.object "SternDesk$Fraction")) :: ((wsX0_neighbourAt_r1 ++ wsX0_neighbourAt_r2) ++ wsX00 ++ wsX10)
def wsX0_lastWithin : List Cond := .code yX0_lastWithin cX0_lastWithin 4 (some .int) :: ([.fieldLink RX0 21 "SternDesk$Expansion" "count" "I", .fieldLink RX0 18 "SternDesk$Expansion" "bottoms" "[I"] ++ wsX00)
def wsX0_isLowerNearer : List Cond := .code yX0_isLowerNearer cX0_isLowerNearer 7 (some .boolean) :: ([.fieldLink RX0 57 "SternDesk$Fraction" "bottom" "I", .fieldLink RX0 59 "SternDesk$Fraction" "top" "I", .methodLink RX0 25 yX0_top, .instanceMethod yX0_top, .selects RX0 yX0_top yX0_top, .initialized RX0, .code yX0_top cX0_top 1 (some .int), .fieldLink RX0 15 "SternDesk$Expansion" "tops" "[I", .fieldLink RX0 21 "SternDesk$Expansion" "count" "I", .methodLink RX0 32 yX0_bottom, .instanceMethod yX0_bottom, .selects RX0 yX0_bottom yX0_bottom, .code yX0_bottom cX0_bottom 1 (some .int), .fieldLink RX0 18 "SternDesk$Expansion" "bottoms" "[I"] ++ wsX10 ++ wsX00)
def wsX0_nearWithin_r1 : List Cond := [Cond.classLink RX0 48 RX1, Cond.instantiable RX1 2, Cond.initialized RX1, Cond.fieldLink RX0 15 "SternDesk$Expansion" "tops" "[I", Cond.fieldLink RX0 18 "SternDesk$Expansion" "bottoms" "[I", Cond.fieldLink RX0 57 "SternDesk$Fraction" "bottom" "I", Cond.fieldLink RX0 59 "SternDesk$Fraction" "top" "I", Cond.methodLink RX0 53 yX0_lastWithin, Cond.instanceMethod yX0_lastWithin, Cond.selects RX0 yX0_lastWithin yX0_lastWithin, Cond.initialized RX0, Cond.code yX0_lastWithin cX0_lastWithin 4 (some .int), Cond.fieldLink RX0 21 "SternDesk$Expansion" "count" "I", Cond.methodLink RX0 50 yX1_init, Cond.instanceMethod yX1_init, Cond.code yX1_init cX1_init 3 none, Cond.methodLink RX1 1 objectInit, Cond.instanceMethod objectInit, Cond.code objectInit ⟨#[0xb1]⟩ 1 none, Cond.fieldLink RX1 7 "SternDesk$Fraction" "top" "I", Cond.fieldLink RX1 13 "SternDesk$Fraction" "bottom" "I", Cond.methodLink RX0 61 yX0_isLowerNearer, Cond.instanceMethod yX0_isLowerNearer, Cond.selects RX0 yX0_isLowerNearer yX0_isLowerNearer]
def wsX0_nearWithin_r2 : List Cond := [Cond.code yX0_isLowerNearer cX0_isLowerNearer 7 (some .boolean), Cond.methodLink RX0 25 yX0_top, Cond.instanceMethod yX0_top, Cond.selects RX0 yX0_top yX0_top, Cond.code yX0_top cX0_top 1 (some .int), Cond.methodLink RX0 32 yX0_bottom, Cond.instanceMethod yX0_bottom, Cond.selects RX0 yX0_bottom yX0_bottom, Cond.code yX0_bottom cX0_bottom 1 (some .int)]
def wsX0_nearWithin : List Cond := .code yX0_nearWithin cX0_nearWithin 10 (some (.object "SternDesk$Fraction")) :: ((wsX0_nearWithin_r1 ++ wsX0_nearWithin_r2) ++ wsX10 ++ wsX00)
def wsX0_termsMakeIt : List Cond := .code yX0_termsMakeIt cX0_termsMakeIt 8 (some .boolean) :: ([.fieldLink RX0 21 "SternDesk$Expansion" "count" "I", .fieldLink RX0 9 "SternDesk$Expansion" "quotients" "[I", .methodLink RX0 25 yX0_top, .instanceMethod yX0_top, .selects RX0 yX0_top yX0_top, .initialized RX0, .code yX0_top cX0_top 1 (some .int), .fieldLink RX0 15 "SternDesk$Expansion" "tops" "[I", .methodLink RX0 32 yX0_bottom, .instanceMethod yX0_bottom, .selects RX0 yX0_bottom yX0_bottom, .code yX0_bottom cX0_bottom 1 (some .int), .fieldLink RX0 18 "SternDesk$Expansion" "bottoms" "[I"] ++ wsX00)
def wsX0_convergentsAreClose : List Cond := .code yX0_convergentsAreClose cX0_convergentsAreClose 4 (some .boolean) :: ([.fieldLink RX0 21 "SternDesk$Expansion" "count" "I", .fieldLink RX0 15 "SternDesk$Expansion" "tops" "[I", .fieldLink RX0 18 "SternDesk$Expansion" "bottoms" "[I", .constantLong RX0 65 (-1)] ++ wsX00)
def wsX0_wayLeadsToIt_r1 : List Cond := [Cond.methodLink RX0 25 yX0_top, Cond.instanceMethod yX0_top, Cond.selects RX0 yX0_top yX0_top, Cond.initialized RX0, Cond.code yX0_top cX0_top 1 (some .int), Cond.fieldLink RX0 15 "SternDesk$Expansion" "tops" "[I", Cond.fieldLink RX0 21 "SternDesk$Expansion" "count" "I", Cond.methodLink RX0 67 yX0_countRuns, Cond.instanceMethod yX0_countRuns, Cond.selects RX0 yX0_countRuns yX0_countRuns, Cond.code yX0_countRuns cX0_countRuns 1 (some .int), Cond.methodLink RX0 32 yX0_bottom, Cond.instanceMethod yX0_bottom, Cond.selects RX0 yX0_bottom yX0_bottom, Cond.code yX0_bottom cX0_bottom 1 (some .int), Cond.fieldLink RX0 18 "SternDesk$Expansion" "bottoms" "[I", Cond.methodLink RX0 45 yX0_firstTermWithSteps, Cond.instanceMethod yX0_firstTermWithSteps, Cond.selects RX0 yX0_firstTermWithSteps yX0_firstTermWithSteps, Cond.code yX0_firstTermWithSteps cX0_firstTermWithSteps 1 (some .int), Cond.fieldLink RX0 9 "SternDesk$Expansion" "quotients" "[I", Cond.methodLink RX0 70 yX0_stepsOfRun, Cond.instanceMethod yX0_stepsOfRun, Cond.selects RX0 yX0_stepsOfRun yX0_stepsOfRun]
def wsX0_wayLeadsToIt_r2 : List Cond := [Cond.code yX0_stepsOfRun cX0_stepsOfRun 4 (some .int)]
def wsX0_wayLeadsToIt : List Cond := .code yX0_wayLeadsToIt cX0_wayLeadsToIt 12 (some .boolean) :: ((wsX0_wayLeadsToIt_r1 ++ wsX0_wayLeadsToIt_r2) ++ wsX00)
def wsX2_init : List Cond := .code yX2_init cX2_init 3 none :: ([.methodLink RX2 3 objectInit, .instanceMethod objectInit, .code objectInit ⟨#[0xb1]⟩ 1 none, .arrayClass .int, .fieldLink RX2 9 "SternDesk$Rows" "moebiusSums" "[I"] ++ wsX20)
def wsX3_sumOfFloors : List Cond := .code yX3_sumOfFloors cX3_sumOfFloors 15 (some .long) :: ([.constantLong RX3 132 (2)])
def wsX2_countInside : List Cond := .code yX2_countInside cX2_countInside 10 (some .int) :: ([.fieldLink RX2 9 "SternDesk$Rows" "moebiusSums" "[I", .static yX3_sumOfFloors, .initialized RX3, .code yX3_sumOfFloors cX3_sumOfFloors 15 (some .long), .constantLong RX3 132 (2)] ++ wsX20)
def wsX2_countAll : List Cond := .code yX2_countAll cX2_countAll 2 (some .int) :: ([.methodLink RX2 15 yX2_countInside, .instanceMethod yX2_countInside, .selects RX2 yX2_countInside yX2_countInside, .initialized RX2, .code yX2_countInside cX2_countInside 10 (some .int), .fieldLink RX2 9 "SternDesk$Rows" "moebiusSums" "[I", .static yX3_sumOfFloors, .initialized RX3, .code yX3_sumOfFloors cX3_sumOfFloors 15 (some .long), .constantLong RX3 132 (2)] ++ wsX20)
def wsX2_countBelow : List Cond := .code yX2_countBelow cX2_countBelow 4 (some .int) :: ([.methodLink RX2 19 yX2_countAll, .instanceMethod yX2_countAll, .selects RX2 yX2_countAll yX2_countAll, .initialized RX2, .code yX2_countAll cX2_countAll 2 (some .int), .methodLink RX2 15 yX2_countInside, .instanceMethod yX2_countInside, .selects RX2 yX2_countInside yX2_countInside, .code yX2_countInside cX2_countInside 10 (some .int), .fieldLink RX2 9 "SternDesk$Rows" "moebiusSums" "[I", .static yX3_sumOfFloors, .initialized RX3, .code yX3_sumOfFloors cX3_sumOfFloors 15 (some .long), .constantLong RX3 132 (2)] ++ wsX20)
def wsX2_columnOf : List Cond := .code yX2_columnOf cX2_columnOf 7 (some .int) :: ([.methodLink RX2 27 yX2_countBelow, .instanceMethod yX2_countBelow, .selects RX2 yX2_countBelow yX2_countBelow, .initialized RX2, .code yX2_countBelow cX2_countBelow 4 (some .int), .methodLink RX2 19 yX2_countAll, .instanceMethod yX2_countAll, .selects RX2 yX2_countAll yX2_countAll, .code yX2_countAll cX2_countAll 2 (some .int), .methodLink RX2 15 yX2_countInside, .instanceMethod yX2_countInside, .selects RX2 yX2_countInside yX2_countInside, .code yX2_countInside cX2_countInside 10 (some .int), .fieldLink RX2 9 "SternDesk$Rows" "moebiusSums" "[I", .static yX3_sumOfFloors, .initialized RX3, .code yX3_sumOfFloors cX3_sumOfFloors 15 (some .long), .constantLong RX3 132 (2)] ++ wsX20)
def wsX2_bottomBehind : List Cond := .code yX2_bottomBehind cX2_bottomBehind 4 (some .int) :: ([])
theorem dX0_init_0 : decode cX0_init 0 = .ok (.aload_n 0, 1) := by decide +kernel
theorem dX0_init_1 : decode cX0_init 1 = .ok (.invokespecial 3, 3) := by decide +kernel
theorem dX0_init_4 : decode cX0_init 4 = .ok (.aload_n 0, 1) := by decide +kernel
theorem dX0_init_5 : decode cX0_init 5 = .ok (.bipush 32, 2) := by decide +kernel
theorem dX0_init_7 : decode cX0_init 7 = .ok (.newarray .int, 2) := by decide +kernel
theorem dX0_init_9 : decode cX0_init 9 = .ok (.putfield 9, 3) := by decide +kernel
theorem dX0_init_12 : decode cX0_init 12 = .ok (.aload_n 0, 1) := by decide +kernel
theorem dX0_init_13 : decode cX0_init 13 = .ok (.bipush 33, 2) := by decide +kernel
theorem dX0_init_15 : decode cX0_init 15 = .ok (.newarray .int, 2) := by decide +kernel
theorem dX0_init_17 : decode cX0_init 17 = .ok (.putfield 15, 3) := by decide +kernel
theorem dX0_init_20 : decode cX0_init 20 = .ok (.aload_n 0, 1) := by decide +kernel
theorem dX0_init_21 : decode cX0_init 21 = .ok (.bipush 33, 2) := by decide +kernel
theorem dX0_init_23 : decode cX0_init 23 = .ok (.newarray .int, 2) := by decide +kernel
theorem dX0_init_25 : decode cX0_init 25 = .ok (.putfield 18, 3) := by decide +kernel
theorem dX0_init_28 : decode cX0_init 28 = .ok (.return_, 1) := by decide +kernel
theorem dX0_top_0 : decode cX0_top 0 = .ok (.aload_n 0, 1) := by decide +kernel
theorem dX0_top_1 : decode cX0_top 1 = .ok (.getfield 15, 3) := by decide +kernel
theorem dX0_top_4 : decode cX0_top 4 = .ok (.aload_n 0, 1) := by decide +kernel
theorem dX0_top_5 : decode cX0_top 5 = .ok (.getfield 21, 3) := by decide +kernel
theorem dX0_top_8 : decode cX0_top 8 = .ok (.iaload, 1) := by decide +kernel
theorem dX0_top_9 : decode cX0_top 9 = .ok (.ireturn, 1) := by decide +kernel
theorem dX0_bottom_0 : decode cX0_bottom 0 = .ok (.aload_n 0, 1) := by decide +kernel
theorem dX0_bottom_1 : decode cX0_bottom 1 = .ok (.getfield 18, 3) := by decide +kernel
theorem dX0_bottom_4 : decode cX0_bottom 4 = .ok (.aload_n 0, 1) := by decide +kernel
theorem dX0_bottom_5 : decode cX0_bottom 5 = .ok (.getfield 21, 3) := by decide +kernel
theorem dX0_bottom_8 : decode cX0_bottom 8 = .ok (.iaload, 1) := by decide +kernel
theorem dX0_bottom_9 : decode cX0_bottom 9 = .ok (.ireturn, 1) := by decide +kernel
theorem dX0_topBefore_0 : decode cX0_topBefore 0 = .ok (.aload_n 0, 1) := by decide +kernel
theorem dX0_topBefore_1 : decode cX0_topBefore 1 = .ok (.getfield 21, 3) := by decide +kernel
theorem dX0_topBefore_4 : decode cX0_topBefore 4 = .ok (.ifCond .le 17, 3) := by decide +kernel
theorem dX0_topBefore_7 : decode cX0_topBefore 7 = .ok (.aload_n 0, 1) := by decide +kernel
theorem dX0_topBefore_8 : decode cX0_topBefore 8 = .ok (.getfield 15, 3) := by decide +kernel
theorem dX0_topBefore_11 : decode cX0_topBefore 11 = .ok (.aload_n 0, 1) := by decide +kernel
theorem dX0_topBefore_12 : decode cX0_topBefore 12 = .ok (.getfield 21, 3) := by decide +kernel
theorem dX0_topBefore_15 : decode cX0_topBefore 15 = .ok (.iconst 1, 1) := by decide +kernel
theorem dX0_topBefore_16 : decode cX0_topBefore 16 = .ok (.isub, 1) := by decide +kernel
theorem dX0_topBefore_17 : decode cX0_topBefore 17 = .ok (.iaload, 1) := by decide +kernel
theorem dX0_topBefore_18 : decode cX0_topBefore 18 = .ok (.goto 4, 3) := by decide +kernel
theorem dX0_topBefore_21 : decode cX0_topBefore 21 = .ok (.iconst 0, 1) := by decide +kernel
theorem dX0_topBefore_22 : decode cX0_topBefore 22 = .ok (.ireturn, 1) := by decide +kernel
theorem dX0_bottomBefore_0 : decode cX0_bottomBefore 0 = .ok (.aload_n 0, 1) := by decide +kernel
theorem dX0_bottomBefore_1 : decode cX0_bottomBefore 1 = .ok (.getfield 21, 3) := by decide +kernel
theorem dX0_bottomBefore_4 : decode cX0_bottomBefore 4 = .ok (.ifCond .le 17, 3) := by decide +kernel
theorem dX0_bottomBefore_7 : decode cX0_bottomBefore 7 = .ok (.aload_n 0, 1) := by decide +kernel
theorem dX0_bottomBefore_8 : decode cX0_bottomBefore 8 = .ok (.getfield 18, 3) := by decide +kernel
theorem dX0_bottomBefore_11 : decode cX0_bottomBefore 11 = .ok (.aload_n 0, 1) := by decide +kernel
theorem dX0_bottomBefore_12 : decode cX0_bottomBefore 12 = .ok (.getfield 21, 3) := by decide +kernel
theorem dX0_bottomBefore_15 : decode cX0_bottomBefore 15 = .ok (.iconst 1, 1) := by decide +kernel
theorem dX0_bottomBefore_16 : decode cX0_bottomBefore 16 = .ok (.isub, 1) := by decide +kernel
theorem dX0_bottomBefore_17 : decode cX0_bottomBefore 17 = .ok (.iaload, 1) := by decide +kernel
theorem dX0_bottomBefore_18 : decode cX0_bottomBefore 18 = .ok (.goto 4, 3) := by decide +kernel
theorem dX0_bottomBefore_21 : decode cX0_bottomBefore 21 = .ok (.iconst 1, 1) := by decide +kernel
theorem dX0_bottomBefore_22 : decode cX0_bottomBefore 22 = .ok (.ireturn, 1) := by decide +kernel
theorem dX0_startAnew_0 : decode cX0_startAnew 0 = .ok (.aload_n 0, 1) := by decide +kernel
theorem dX0_startAnew_1 : decode cX0_startAnew 1 = .ok (.iconst 0, 1) := by decide +kernel
theorem dX0_startAnew_2 : decode cX0_startAnew 2 = .ok (.putfield 21, 3) := by decide +kernel
theorem dX0_startAnew_5 : decode cX0_startAnew 5 = .ok (.aload_n 0, 1) := by decide +kernel
theorem dX0_startAnew_6 : decode cX0_startAnew 6 = .ok (.getfield 15, 3) := by decide +kernel
theorem dX0_startAnew_9 : decode cX0_startAnew 9 = .ok (.iconst 0, 1) := by decide +kernel
theorem dX0_startAnew_10 : decode cX0_startAnew 10 = .ok (.iconst 1, 1) := by decide +kernel
theorem dX0_startAnew_11 : decode cX0_startAnew 11 = .ok (.iastore, 1) := by decide +kernel
theorem dX0_startAnew_12 : decode cX0_startAnew 12 = .ok (.aload_n 0, 1) := by decide +kernel
theorem dX0_startAnew_13 : decode cX0_startAnew 13 = .ok (.getfield 18, 3) := by decide +kernel
theorem dX0_startAnew_16 : decode cX0_startAnew 16 = .ok (.iconst 0, 1) := by decide +kernel
theorem dX0_startAnew_17 : decode cX0_startAnew 17 = .ok (.iconst 0, 1) := by decide +kernel
theorem dX0_startAnew_18 : decode cX0_startAnew 18 = .ok (.iastore, 1) := by decide +kernel
theorem dX0_startAnew_19 : decode cX0_startAnew 19 = .ok (.return_, 1) := by decide +kernel
set_option maxRecDepth 20000 in
theorem ggX0_addTerm_X0_top : GoodIn wsX0_addTerm wsX0_top := goodIn_r _ [9, 3, 1, 22, 23, 24, 25] (by decide +kernel) (by decide +kernel)
set_option maxRecDepth 20000 in
theorem gX0_addTerm_X0_top : GoodIn wsX0_addTerm (wsV RX0 25 RX0 yX0_top wsX0_top) := goodIn_app (goodIn_of _ (by decide +kernel)) ggX0_addTerm_X0_top
set_option maxRecDepth 20000 in
theorem ggX0_addTerm_X0_topBefore : GoodIn wsX0_addTerm wsX0_topBefore := goodIn_r _ [13, 1, 3, 22, 23, 24, 25] (by decide +kernel) (by decide +kernel)
set_option maxRecDepth 20000 in
theorem gX0_addTerm_X0_topBefore : GoodIn wsX0_addTerm (wsV RX0 29 RX0 yX0_topBefore wsX0_topBefore) := goodIn_app (goodIn_of _ (by decide +kernel)) ggX0_addTerm_X0_topBefore
set_option maxRecDepth 20000 in
theorem ggX0_addTerm_X0_bottom : GoodIn wsX0_addTerm wsX0_bottom := goodIn_r _ [17, 4, 1, 22, 23, 24, 25] (by decide +kernel) (by decide +kernel)
set_option maxRecDepth 20000 in
theorem gX0_addTerm_X0_bottom : GoodIn wsX0_addTerm (wsV RX0 32 RX0 yX0_bottom wsX0_bottom) := goodIn_app (goodIn_of _ (by decide +kernel)) ggX0_addTerm_X0_bottom
set_option maxRecDepth 20000 in
theorem ggX0_addTerm_X0_bottomBefore : GoodIn wsX0_addTerm wsX0_bottomBefore := goodIn_r _ [21, 1, 4, 22, 23, 24, 25] (by decide +kernel) (by decide +kernel)
set_option maxRecDepth 20000 in
theorem gX0_addTerm_X0_bottomBefore : GoodIn wsX0_addTerm (wsV RX0 35 RX0 yX0_bottomBefore wsX0_bottomBefore) := goodIn_app (goodIn_of _ (by decide +kernel)) ggX0_addTerm_X0_bottomBefore
theorem dX0_addTerm_0 : decode cX0_addTerm 0 = .ok (.aload_n 0, 1) := by decide +kernel
theorem dX0_addTerm_1 : decode cX0_addTerm 1 = .ok (.getfield 21, 3) := by decide +kernel
theorem dX0_addTerm_4 : decode cX0_addTerm 4 = .ok (.bipush 32, 2) := by decide +kernel
theorem dX0_addTerm_6 : decode cX0_addTerm 6 = .ok (.if_icmp .lt 4, 3) := by decide +kernel
theorem dX0_addTerm_9 : decode cX0_addTerm 9 = .ok (.return_, 1) := by decide +kernel
theorem dX0_addTerm_10 : decode cX0_addTerm 10 = .ok (.iload_n 1, 1) := by decide +kernel
theorem dX0_addTerm_11 : decode cX0_addTerm 11 = .ok (.aload_n 0, 1) := by decide +kernel
theorem dX0_addTerm_12 : decode cX0_addTerm 12 = .ok (.invokevirtual 25, 3) := by decide +kernel
theorem dX0_addTerm_15 : decode cX0_addTerm 15 = .ok (.imul, 1) := by decide +kernel
theorem dX0_addTerm_16 : decode cX0_addTerm 16 = .ok (.aload_n 0, 1) := by decide +kernel
theorem dX0_addTerm_17 : decode cX0_addTerm 17 = .ok (.invokevirtual 29, 3) := by decide +kernel
theorem dX0_addTerm_20 : decode cX0_addTerm 20 = .ok (.iadd, 1) := by decide +kernel
theorem dX0_addTerm_21 : decode cX0_addTerm 21 = .ok (.istore_n 2, 1) := by decide +kernel
theorem dX0_addTerm_22 : decode cX0_addTerm 22 = .ok (.iload_n 1, 1) := by decide +kernel
theorem dX0_addTerm_23 : decode cX0_addTerm 23 = .ok (.aload_n 0, 1) := by decide +kernel
theorem dX0_addTerm_24 : decode cX0_addTerm 24 = .ok (.invokevirtual 32, 3) := by decide +kernel
theorem dX0_addTerm_27 : decode cX0_addTerm 27 = .ok (.imul, 1) := by decide +kernel
theorem dX0_addTerm_28 : decode cX0_addTerm 28 = .ok (.aload_n 0, 1) := by decide +kernel
theorem dX0_addTerm_29 : decode cX0_addTerm 29 = .ok (.invokevirtual 35, 3) := by decide +kernel
theorem dX0_addTerm_32 : decode cX0_addTerm 32 = .ok (.iadd, 1) := by decide +kernel
theorem dX0_addTerm_33 : decode cX0_addTerm 33 = .ok (.istore_n 3, 1) := by decide +kernel
theorem dX0_addTerm_34 : decode cX0_addTerm 34 = .ok (.aload_n 0, 1) := by decide +kernel
theorem dX0_addTerm_35 : decode cX0_addTerm 35 = .ok (.getfield 9, 3) := by decide +kernel
theorem dX0_addTerm_38 : decode cX0_addTerm 38 = .ok (.aload_n 0, 1) := by decide +kernel
theorem dX0_addTerm_39 : decode cX0_addTerm 39 = .ok (.getfield 21, 3) := by decide +kernel
theorem dX0_addTerm_42 : decode cX0_addTerm 42 = .ok (.iload_n 1, 1) := by decide +kernel
theorem dX0_addTerm_43 : decode cX0_addTerm 43 = .ok (.iastore, 1) := by decide +kernel
theorem dX0_addTerm_44 : decode cX0_addTerm 44 = .ok (.aload_n 0, 1) := by decide +kernel
theorem dX0_addTerm_45 : decode cX0_addTerm 45 = .ok (.dup, 1) := by decide +kernel
theorem dX0_addTerm_46 : decode cX0_addTerm 46 = .ok (.getfield 21, 3) := by decide +kernel
theorem dX0_addTerm_49 : decode cX0_addTerm 49 = .ok (.iconst 1, 1) := by decide +kernel
theorem dX0_addTerm_50 : decode cX0_addTerm 50 = .ok (.iadd, 1) := by decide +kernel
theorem dX0_addTerm_51 : decode cX0_addTerm 51 = .ok (.putfield 21, 3) := by decide +kernel
theorem dX0_addTerm_54 : decode cX0_addTerm 54 = .ok (.aload_n 0, 1) := by decide +kernel
theorem dX0_addTerm_55 : decode cX0_addTerm 55 = .ok (.getfield 15, 3) := by decide +kernel
theorem dX0_addTerm_58 : decode cX0_addTerm 58 = .ok (.aload_n 0, 1) := by decide +kernel
theorem dX0_addTerm_59 : decode cX0_addTerm 59 = .ok (.getfield 21, 3) := by decide +kernel
theorem dX0_addTerm_62 : decode cX0_addTerm 62 = .ok (.iload_n 2, 1) := by decide +kernel
theorem dX0_addTerm_63 : decode cX0_addTerm 63 = .ok (.iastore, 1) := by decide +kernel
theorem dX0_addTerm_64 : decode cX0_addTerm 64 = .ok (.aload_n 0, 1) := by decide +kernel
theorem dX0_addTerm_65 : decode cX0_addTerm 65 = .ok (.getfield 18, 3) := by decide +kernel
theorem dX0_addTerm_68 : decode cX0_addTerm 68 = .ok (.aload_n 0, 1) := by decide +kernel
theorem dX0_addTerm_69 : decode cX0_addTerm 69 = .ok (.getfield 21, 3) := by decide +kernel
theorem dX0_addTerm_72 : decode cX0_addTerm 72 = .ok (.iload_n 3, 1) := by decide +kernel
theorem dX0_addTerm_73 : decode cX0_addTerm 73 = .ok (.iastore, 1) := by decide +kernel
theorem dX0_addTerm_74 : decode cX0_addTerm 74 = .ok (.return_, 1) := by decide +kernel
set_option maxRecDepth 20000 in
theorem ggX0_expand_X0_startAnew : GoodIn wsX0_expand wsX0_startAnew := goodIn_r _ [5, 6, 7, 8, 30, 31, 32, 33] (by decide +kernel) (by decide +kernel)
set_option maxRecDepth 20000 in
theorem gX0_expand_X0_startAnew : GoodIn wsX0_expand (wsV RX0 38 RX0 yX0_startAnew wsX0_startAnew) := goodIn_app (goodIn_of _ (by decide +kernel)) ggX0_expand_X0_startAnew
set_option maxRecDepth 20000 in
theorem ggX0_expand_X0_addTerm : GoodIn wsX0_expand wsX0_addTerm := goodIn_r _ [12, 6, 13, 7, 8, 14, 15, 16, 4, 17, 18, 19, 20, 21, 22, 23, 24, 25, 26, 27, 28, 29, 30, 31, 32, 33] (by decide +kernel) (by decide +kernel)
set_option maxRecDepth 20000 in
theorem gX0_expand_X0_addTerm : GoodIn wsX0_expand (wsV RX0 41 RX0 yX0_addTerm wsX0_addTerm) := goodIn_app (goodIn_of _ (by decide +kernel)) ggX0_expand_X0_addTerm
theorem dX0_expand_0 : decode cX0_expand 0 = .ok (.aload_n 0, 1) := by decide +kernel
theorem dX0_expand_1 : decode cX0_expand 1 = .ok (.invokevirtual 38, 3) := by decide +kernel
theorem dX0_expand_4 : decode cX0_expand 4 = .ok (.iload_n 1, 1) := by decide +kernel
theorem dX0_expand_5 : decode cX0_expand 5 = .ok (.istore_n 3, 1) := by decide +kernel
theorem dX0_expand_6 : decode cX0_expand 6 = .ok (.iload_n 2, 1) := by decide +kernel
theorem dX0_expand_7 : decode cX0_expand 7 = .ok (.istore 4, 2) := by decide +kernel
theorem dX0_expand_9 : decode cX0_expand 9 = .ok (.iconst 0, 1) := by decide +kernel
theorem dX0_expand_10 : decode cX0_expand 10 = .ok (.istore 5, 2) := by decide +kernel
theorem dX0_expand_12 : decode cX0_expand 12 = .ok (.iload 5, 2) := by decide +kernel
theorem dX0_expand_14 : decode cX0_expand 14 = .ok (.bipush 32, 2) := by decide +kernel
theorem dX0_expand_16 : decode cX0_expand 16 = .ok (.if_icmp .ge 42, 3) := by decide +kernel
theorem dX0_expand_19 : decode cX0_expand 19 = .ok (.iload 4, 2) := by decide +kernel
theorem dX0_expand_21 : decode cX0_expand 21 = .ok (.ifCond .le 37, 3) := by decide +kernel
theorem dX0_expand_24 : decode cX0_expand 24 = .ok (.iload_n 3, 1) := by decide +kernel
theorem dX0_expand_25 : decode cX0_expand 25 = .ok (.iload 4, 2) := by decide +kernel
theorem dX0_expand_27 : decode cX0_expand 27 = .ok (.idiv, 1) := by decide +kernel
theorem dX0_expand_28 : decode cX0_expand 28 = .ok (.istore 6, 2) := by decide +kernel
theorem dX0_expand_30 : decode cX0_expand 30 = .ok (.iload_n 3, 1) := by decide +kernel
theorem dX0_expand_31 : decode cX0_expand 31 = .ok (.iload 6, 2) := by decide +kernel
theorem dX0_expand_33 : decode cX0_expand 33 = .ok (.iload 4, 2) := by decide +kernel
theorem dX0_expand_35 : decode cX0_expand 35 = .ok (.imul, 1) := by decide +kernel
theorem dX0_expand_36 : decode cX0_expand 36 = .ok (.isub, 1) := by decide +kernel
theorem dX0_expand_37 : decode cX0_expand 37 = .ok (.istore 7, 2) := by decide +kernel
theorem dX0_expand_39 : decode cX0_expand 39 = .ok (.aload_n 0, 1) := by decide +kernel
theorem dX0_expand_40 : decode cX0_expand 40 = .ok (.iload 6, 2) := by decide +kernel
theorem dX0_expand_42 : decode cX0_expand 42 = .ok (.invokevirtual 41, 3) := by decide +kernel
theorem dX0_expand_45 : decode cX0_expand 45 = .ok (.iload 4, 2) := by decide +kernel
theorem dX0_expand_47 : decode cX0_expand 47 = .ok (.istore_n 3, 1) := by decide +kernel
theorem dX0_expand_48 : decode cX0_expand 48 = .ok (.iload 7, 2) := by decide +kernel
theorem dX0_expand_50 : decode cX0_expand 50 = .ok (.istore 4, 2) := by decide +kernel
theorem dX0_expand_52 : decode cX0_expand 52 = .ok (.iinc 5 1, 3) := by decide +kernel
theorem dX0_expand_55 : decode cX0_expand 55 = .ok (.goto (-43), 3) := by decide +kernel
theorem dX0_expand_58 : decode cX0_expand 58 = .ok (.return_, 1) := by decide +kernel
set_option maxRecDepth 20000 in
theorem ggX0_expandSimplest_X0_startAnew : GoodIn wsX0_expandSimplest wsX0_startAnew := goodIn_r _ [5, 6, 7, 8, 30, 31, 32, 33] (by decide +kernel) (by decide +kernel)
set_option maxRecDepth 20000 in
theorem gX0_expandSimplest_X0_startAnew : GoodIn wsX0_expandSimplest (wsV RX0 38 RX0 yX0_startAnew wsX0_startAnew) := goodIn_app (goodIn_of _ (by decide +kernel)) ggX0_expandSimplest_X0_startAnew
set_option maxRecDepth 20000 in
theorem ggX0_expandSimplest_X0_addTerm : GoodIn wsX0_expandSimplest wsX0_addTerm := goodIn_r _ [12, 6, 13, 7, 8, 14, 15, 16, 4, 17, 18, 19, 20, 21, 22, 23, 24, 25, 26, 27, 28, 29, 30, 31, 32, 33] (by decide +kernel) (by decide +kernel)
set_option maxRecDepth 20000 in
theorem gX0_expandSimplest_X0_addTerm : GoodIn wsX0_expandSimplest (wsV RX0 41 RX0 yX0_addTerm wsX0_addTerm) := goodIn_app (goodIn_of _ (by decide +kernel)) ggX0_expandSimplest_X0_addTerm
theorem dX0_expandSimplest_0 : decode cX0_expandSimplest 0 = .ok (.aload_n 0, 1) := by decide +kernel
theorem dX0_expandSimplest_1 : decode cX0_expandSimplest 1 = .ok (.invokevirtual 38, 3) := by decide +kernel
theorem dX0_expandSimplest_4 : decode cX0_expandSimplest 4 = .ok (.iconst 0, 1) := by decide +kernel
theorem dX0_expandSimplest_5 : decode cX0_expandSimplest 5 = .ok (.istore 5, 2) := by decide +kernel
theorem dX0_expandSimplest_7 : decode cX0_expandSimplest 7 = .ok (.iconst 0, 1) := by decide +kernel
theorem dX0_expandSimplest_8 : decode cX0_expandSimplest 8 = .ok (.istore 6, 2) := by decide +kernel
theorem dX0_expandSimplest_10 : decode cX0_expandSimplest 10 = .ok (.iload 6, 2) := by decide +kernel
theorem dX0_expandSimplest_12 : decode cX0_expandSimplest 12 = .ok (.bipush 32, 2) := by decide +kernel
theorem dX0_expandSimplest_14 : decode cX0_expandSimplest 14 = .ok (.if_icmp .ge 88, 3) := by decide +kernel
theorem dX0_expandSimplest_17 : decode cX0_expandSimplest 17 = .ok (.iload_n 2, 1) := by decide +kernel
theorem dX0_expandSimplest_18 : decode cX0_expandSimplest 18 = .ok (.ifCond .le 84, 3) := by decide +kernel
theorem dX0_expandSimplest_21 : decode cX0_expandSimplest 21 = .ok (.iload 5, 2) := by decide +kernel
theorem dX0_expandSimplest_23 : decode cX0_expandSimplest 23 = .ok (.ifCond .ne 79, 3) := by decide +kernel
theorem dX0_expandSimplest_26 : decode cX0_expandSimplest 26 = .ok (.iload_n 1, 1) := by decide +kernel
theorem dX0_expandSimplest_27 : decode cX0_expandSimplest 27 = .ok (.iload_n 2, 1) := by decide +kernel
theorem dX0_expandSimplest_28 : decode cX0_expandSimplest 28 = .ok (.idiv, 1) := by decide +kernel
theorem dX0_expandSimplest_29 : decode cX0_expandSimplest 29 = .ok (.istore 7, 2) := by decide +kernel
theorem dX0_expandSimplest_31 : decode cX0_expandSimplest 31 = .ok (.iload 7, 2) := by decide +kernel
theorem dX0_expandSimplest_33 : decode cX0_expandSimplest 33 = .ok (.iconst 1, 1) := by decide +kernel
theorem dX0_expandSimplest_34 : decode cX0_expandSimplest 34 = .ok (.iadd, 1) := by decide +kernel
theorem dX0_expandSimplest_35 : decode cX0_expandSimplest 35 = .ok (.iload 4, 2) := by decide +kernel
theorem dX0_expandSimplest_37 : decode cX0_expandSimplest 37 = .ok (.imul, 1) := by decide +kernel
theorem dX0_expandSimplest_38 : decode cX0_expandSimplest 38 = .ok (.iload_n 3, 1) := by decide +kernel
theorem dX0_expandSimplest_39 : decode cX0_expandSimplest 39 = .ok (.if_icmp .ge 7, 3) := by decide +kernel
theorem dX0_expandSimplest_42 : decode cX0_expandSimplest 42 = .ok (.iconst 1, 1) := by decide +kernel
theorem dX0_expandSimplest_43 : decode cX0_expandSimplest 43 = .ok (.goto 4, 3) := by decide +kernel
theorem dX0_expandSimplest_46 : decode cX0_expandSimplest 46 = .ok (.iconst 0, 1) := by decide +kernel
theorem dX0_expandSimplest_47 : decode cX0_expandSimplest 47 = .ok (.istore 5, 2) := by decide +kernel
theorem dX0_expandSimplest_49 : decode cX0_expandSimplest 49 = .ok (.aload_n 0, 1) := by decide +kernel
theorem dX0_expandSimplest_50 : decode cX0_expandSimplest 50 = .ok (.iload 5, 2) := by decide +kernel
theorem dX0_expandSimplest_52 : decode cX0_expandSimplest 52 = .ok (.ifCond .eq 10, 3) := by decide +kernel
theorem dX0_expandSimplest_55 : decode cX0_expandSimplest 55 = .ok (.iload 7, 2) := by decide +kernel
theorem dX0_expandSimplest_57 : decode cX0_expandSimplest 57 = .ok (.iconst 1, 1) := by decide +kernel
theorem dX0_expandSimplest_58 : decode cX0_expandSimplest 58 = .ok (.iadd, 1) := by decide +kernel
theorem dX0_expandSimplest_59 : decode cX0_expandSimplest 59 = .ok (.goto 5, 3) := by decide +kernel
theorem dX0_expandSimplest_62 : decode cX0_expandSimplest 62 = .ok (.iload 7, 2) := by decide +kernel
theorem dX0_expandSimplest_64 : decode cX0_expandSimplest 64 = .ok (.invokevirtual 41, 3) := by decide +kernel
theorem dX0_expandSimplest_67 : decode cX0_expandSimplest 67 = .ok (.iload_n 1, 1) := by decide +kernel
theorem dX0_expandSimplest_68 : decode cX0_expandSimplest 68 = .ok (.iload 7, 2) := by decide +kernel
theorem dX0_expandSimplest_70 : decode cX0_expandSimplest 70 = .ok (.iload_n 2, 1) := by decide +kernel
theorem dX0_expandSimplest_71 : decode cX0_expandSimplest 71 = .ok (.imul, 1) := by decide +kernel
theorem dX0_expandSimplest_72 : decode cX0_expandSimplest 72 = .ok (.isub, 1) := by decide +kernel
theorem dX0_expandSimplest_73 : decode cX0_expandSimplest 73 = .ok (.istore 8, 2) := by decide +kernel
theorem dX0_expandSimplest_75 : decode cX0_expandSimplest 75 = .ok (.iload_n 3, 1) := by decide +kernel
theorem dX0_expandSimplest_76 : decode cX0_expandSimplest 76 = .ok (.iload 7, 2) := by decide +kernel
theorem dX0_expandSimplest_78 : decode cX0_expandSimplest 78 = .ok (.iload 4, 2) := by decide +kernel
theorem dX0_expandSimplest_80 : decode cX0_expandSimplest 80 = .ok (.imul, 1) := by decide +kernel
theorem dX0_expandSimplest_81 : decode cX0_expandSimplest 81 = .ok (.isub, 1) := by decide +kernel
theorem dX0_expandSimplest_82 : decode cX0_expandSimplest 82 = .ok (.istore 9, 2) := by decide +kernel
theorem dX0_expandSimplest_84 : decode cX0_expandSimplest 84 = .ok (.iload 4, 2) := by decide +kernel
theorem dX0_expandSimplest_86 : decode cX0_expandSimplest 86 = .ok (.istore_n 1, 1) := by decide +kernel
theorem dX0_expandSimplest_87 : decode cX0_expandSimplest 87 = .ok (.iload_n 2, 1) := by decide +kernel
theorem dX0_expandSimplest_88 : decode cX0_expandSimplest 88 = .ok (.istore_n 3, 1) := by decide +kernel
theorem dX0_expandSimplest_89 : decode cX0_expandSimplest 89 = .ok (.iload 9, 2) := by decide +kernel
theorem dX0_expandSimplest_91 : decode cX0_expandSimplest 91 = .ok (.istore_n 2, 1) := by decide +kernel
theorem dX0_expandSimplest_92 : decode cX0_expandSimplest 92 = .ok (.iload 8, 2) := by decide +kernel
theorem dX0_expandSimplest_94 : decode cX0_expandSimplest 94 = .ok (.istore 4, 2) := by decide +kernel
theorem dX0_expandSimplest_96 : decode cX0_expandSimplest 96 = .ok (.iinc 6 1, 3) := by decide +kernel
theorem dX0_expandSimplest_99 : decode cX0_expandSimplest 99 = .ok (.goto (-89), 3) := by decide +kernel
theorem dX0_expandSimplest_102 : decode cX0_expandSimplest 102 = .ok (.return_, 1) := by decide +kernel
theorem dX0_countSteps_0 : decode cX0_countSteps 0 = .ok (.iconst (-1), 1) := by decide +kernel
theorem dX0_countSteps_1 : decode cX0_countSteps 1 = .ok (.istore_n 1, 1) := by decide +kernel
theorem dX0_countSteps_2 : decode cX0_countSteps 2 = .ok (.iconst 0, 1) := by decide +kernel
theorem dX0_countSteps_3 : decode cX0_countSteps 3 = .ok (.istore_n 2, 1) := by decide +kernel
theorem dX0_countSteps_4 : decode cX0_countSteps 4 = .ok (.iload_n 2, 1) := by decide +kernel
theorem dX0_countSteps_5 : decode cX0_countSteps 5 = .ok (.aload_n 0, 1) := by decide +kernel
theorem dX0_countSteps_6 : decode cX0_countSteps 6 = .ok (.getfield 21, 3) := by decide +kernel
theorem dX0_countSteps_9 : decode cX0_countSteps 9 = .ok (.if_icmp .ge 18, 3) := by decide +kernel
theorem dX0_countSteps_12 : decode cX0_countSteps 12 = .ok (.iload_n 1, 1) := by decide +kernel
theorem dX0_countSteps_13 : decode cX0_countSteps 13 = .ok (.aload_n 0, 1) := by decide +kernel
theorem dX0_countSteps_14 : decode cX0_countSteps 14 = .ok (.getfield 9, 3) := by decide +kernel
theorem dX0_countSteps_17 : decode cX0_countSteps 17 = .ok (.iload_n 2, 1) := by decide +kernel
theorem dX0_countSteps_18 : decode cX0_countSteps 18 = .ok (.iaload, 1) := by decide +kernel
theorem dX0_countSteps_19 : decode cX0_countSteps 19 = .ok (.iadd, 1) := by decide +kernel
theorem dX0_countSteps_20 : decode cX0_countSteps 20 = .ok (.istore_n 1, 1) := by decide +kernel
theorem dX0_countSteps_21 : decode cX0_countSteps 21 = .ok (.iinc 2 1, 3) := by decide +kernel
theorem dX0_countSteps_24 : decode cX0_countSteps 24 = .ok (.goto (-20), 3) := by decide +kernel
theorem dX0_countSteps_27 : decode cX0_countSteps 27 = .ok (.iload_n 1, 1) := by decide +kernel
theorem dX0_countSteps_28 : decode cX0_countSteps 28 = .ok (.ireturn, 1) := by decide +kernel
set_option maxRecDepth 20000 in
theorem ggX0_countRuns_X0_top : GoodIn wsX0_countRuns wsX0_top := goodIn_r _ [6, 7, 1, 18, 19, 20, 21] (by decide +kernel) (by decide +kernel)
set_option maxRecDepth 20000 in
theorem gX0_countRuns_X0_top : GoodIn wsX0_countRuns (wsV RX0 25 RX0 yX0_top wsX0_top) := goodIn_app (goodIn_of _ (by decide +kernel)) ggX0_countRuns_X0_top
set_option maxRecDepth 20000 in
theorem ggX0_countRuns_X0_bottom : GoodIn wsX0_countRuns wsX0_bottom := goodIn_r _ [11, 12, 1, 18, 19, 20, 21] (by decide +kernel) (by decide +kernel)
set_option maxRecDepth 20000 in
theorem gX0_countRuns_X0_bottom : GoodIn wsX0_countRuns (wsV RX0 32 RX0 yX0_bottom wsX0_bottom) := goodIn_app (goodIn_of _ (by decide +kernel)) ggX0_countRuns_X0_bottom
set_option maxRecDepth 20000 in
theorem ggX0_countRuns_X0_firstTermWithSteps : GoodIn wsX0_countRuns wsX0_firstTermWithSteps := goodIn_r _ [16, 17, 18, 19, 20, 21] (by decide +kernel) (by decide +kernel)
set_option maxRecDepth 20000 in
theorem gX0_countRuns_X0_firstTermWithSteps : GoodIn wsX0_countRuns (wsV RX0 45 RX0 yX0_firstTermWithSteps wsX0_firstTermWithSteps) := goodIn_app (goodIn_of _ (by decide +kernel)) ggX0_countRuns_X0_firstTermWithSteps
theorem dX0_countRuns_0 : decode cX0_countRuns 0 = .ok (.aload_n 0, 1) := by decide +kernel
theorem dX0_countRuns_1 : decode cX0_countRuns 1 = .ok (.invokevirtual 25, 3) := by decide +kernel
theorem dX0_countRuns_4 : decode cX0_countRuns 4 = .ok (.ifCond .eq 14, 3) := by decide +kernel
theorem dX0_countRuns_7 : decode cX0_countRuns 7 = .ok (.aload_n 0, 1) := by decide +kernel
theorem dX0_countRuns_8 : decode cX0_countRuns 8 = .ok (.invokevirtual 25, 3) := by decide +kernel
theorem dX0_countRuns_11 : decode cX0_countRuns 11 = .ok (.aload_n 0, 1) := by decide +kernel
theorem dX0_countRuns_12 : decode cX0_countRuns 12 = .ok (.invokevirtual 32, 3) := by decide +kernel
theorem dX0_countRuns_15 : decode cX0_countRuns 15 = .ok (.if_icmp .ne 7, 3) := by decide +kernel
theorem dX0_countRuns_18 : decode cX0_countRuns 18 = .ok (.iconst 0, 1) := by decide +kernel
theorem dX0_countRuns_19 : decode cX0_countRuns 19 = .ok (.goto 12, 3) := by decide +kernel
theorem dX0_countRuns_22 : decode cX0_countRuns 22 = .ok (.aload_n 0, 1) := by decide +kernel
theorem dX0_countRuns_23 : decode cX0_countRuns 23 = .ok (.getfield 21, 3) := by decide +kernel
theorem dX0_countRuns_26 : decode cX0_countRuns 26 = .ok (.aload_n 0, 1) := by decide +kernel
theorem dX0_countRuns_27 : decode cX0_countRuns 27 = .ok (.invokevirtual 45, 3) := by decide +kernel
theorem dX0_countRuns_30 : decode cX0_countRuns 30 = .ok (.isub, 1) := by decide +kernel
theorem dX0_countRuns_31 : decode cX0_countRuns 31 = .ok (.ireturn, 1) := by decide +kernel
theorem dX0_firstTermWithSteps_0 : decode cX0_firstTermWithSteps 0 = .ok (.aload_n 0, 1) := by decide +kernel
theorem dX0_firstTermWithSteps_1 : decode cX0_firstTermWithSteps 1 = .ok (.getfield 9, 3) := by decide +kernel
theorem dX0_firstTermWithSteps_4 : decode cX0_firstTermWithSteps 4 = .ok (.iconst 0, 1) := by decide +kernel
theorem dX0_firstTermWithSteps_5 : decode cX0_firstTermWithSteps 5 = .ok (.iaload, 1) := by decide +kernel
theorem dX0_firstTermWithSteps_6 : decode cX0_firstTermWithSteps 6 = .ok (.ifCond .ne 7, 3) := by decide +kernel
theorem dX0_firstTermWithSteps_9 : decode cX0_firstTermWithSteps 9 = .ok (.iconst 1, 1) := by decide +kernel
theorem dX0_firstTermWithSteps_10 : decode cX0_firstTermWithSteps 10 = .ok (.goto 4, 3) := by decide +kernel
theorem dX0_firstTermWithSteps_13 : decode cX0_firstTermWithSteps 13 = .ok (.iconst 0, 1) := by decide +kernel
theorem dX0_firstTermWithSteps_14 : decode cX0_firstTermWithSteps 14 = .ok (.ireturn, 1) := by decide +kernel
set_option maxRecDepth 20000 in
theorem ggX0_stepsOfRun_X0_firstTermWithSteps : GoodIn wsX0_stepsOfRun wsX0_firstTermWithSteps := goodIn_r _ [7, 2, 8, 9, 10, 11] (by decide +kernel) (by decide +kernel)
set_option maxRecDepth 20000 in
theorem gX0_stepsOfRun_X0_firstTermWithSteps : GoodIn wsX0_stepsOfRun (wsV RX0 45 RX0 yX0_firstTermWithSteps wsX0_firstTermWithSteps) := goodIn_app (goodIn_of _ (by decide +kernel)) ggX0_stepsOfRun_X0_firstTermWithSteps
theorem dX0_stepsOfRun_0 : decode cX0_stepsOfRun 0 = .ok (.iload_n 1, 1) := by decide +kernel
theorem dX0_stepsOfRun_1 : decode cX0_stepsOfRun 1 = .ok (.aload_n 0, 1) := by decide +kernel
theorem dX0_stepsOfRun_2 : decode cX0_stepsOfRun 2 = .ok (.invokevirtual 45, 3) := by decide +kernel
theorem dX0_stepsOfRun_5 : decode cX0_stepsOfRun 5 = .ok (.iadd, 1) := by decide +kernel
theorem dX0_stepsOfRun_6 : decode cX0_stepsOfRun 6 = .ok (.istore_n 2, 1) := by decide +kernel
theorem dX0_stepsOfRun_7 : decode cX0_stepsOfRun 7 = .ok (.iload_n 2, 1) := by decide +kernel
theorem dX0_stepsOfRun_8 : decode cX0_stepsOfRun 8 = .ok (.aload_n 0, 1) := by decide +kernel
theorem dX0_stepsOfRun_9 : decode cX0_stepsOfRun 9 = .ok (.getfield 21, 3) := by decide +kernel
theorem dX0_stepsOfRun_12 : decode cX0_stepsOfRun 12 = .ok (.iconst 1, 1) := by decide +kernel
theorem dX0_stepsOfRun_13 : decode cX0_stepsOfRun 13 = .ok (.isub, 1) := by decide +kernel
theorem dX0_stepsOfRun_14 : decode cX0_stepsOfRun 14 = .ok (.if_icmp .ne 14, 3) := by decide +kernel
theorem dX0_stepsOfRun_17 : decode cX0_stepsOfRun 17 = .ok (.aload_n 0, 1) := by decide +kernel
theorem dX0_stepsOfRun_18 : decode cX0_stepsOfRun 18 = .ok (.getfield 9, 3) := by decide +kernel
theorem dX0_stepsOfRun_21 : decode cX0_stepsOfRun 21 = .ok (.iload_n 2, 1) := by decide +kernel
theorem dX0_stepsOfRun_22 : decode cX0_stepsOfRun 22 = .ok (.iaload, 1) := by decide +kernel
theorem dX0_stepsOfRun_23 : decode cX0_stepsOfRun 23 = .ok (.iconst 1, 1) := by decide +kernel
theorem dX0_stepsOfRun_24 : decode cX0_stepsOfRun 24 = .ok (.isub, 1) := by decide +kernel
theorem dX0_stepsOfRun_25 : decode cX0_stepsOfRun 25 = .ok (.goto 9, 3) := by decide +kernel
theorem dX0_stepsOfRun_28 : decode cX0_stepsOfRun 28 = .ok (.aload_n 0, 1) := by decide +kernel
theorem dX0_stepsOfRun_29 : decode cX0_stepsOfRun 29 = .ok (.getfield 9, 3) := by decide +kernel
theorem dX0_stepsOfRun_32 : decode cX0_stepsOfRun 32 = .ok (.iload_n 2, 1) := by decide +kernel
theorem dX0_stepsOfRun_33 : decode cX0_stepsOfRun 33 = .ok (.iaload, 1) := by decide +kernel
theorem dX0_stepsOfRun_34 : decode cX0_stepsOfRun 34 = .ok (.istore_n 3, 1) := by decide +kernel
theorem dX0_stepsOfRun_35 : decode cX0_stepsOfRun 35 = .ok (.iload_n 2, 1) := by decide +kernel
theorem dX0_stepsOfRun_36 : decode cX0_stepsOfRun 36 = .ok (.iconst 2, 1) := by decide +kernel
theorem dX0_stepsOfRun_37 : decode cX0_stepsOfRun 37 = .ok (.irem, 1) := by decide +kernel
theorem dX0_stepsOfRun_38 : decode cX0_stepsOfRun 38 = .ok (.ifCond .ne 7, 3) := by decide +kernel
theorem dX0_stepsOfRun_41 : decode cX0_stepsOfRun 41 = .ok (.iload_n 3, 1) := by decide +kernel
theorem dX0_stepsOfRun_42 : decode cX0_stepsOfRun 42 = .ok (.goto 5, 3) := by decide +kernel
theorem dX0_stepsOfRun_45 : decode cX0_stepsOfRun 45 = .ok (.iload_n 3, 1) := by decide +kernel
theorem dX0_stepsOfRun_46 : decode cX0_stepsOfRun 46 = .ok (.ineg, 1) := by decide +kernel
theorem dX0_stepsOfRun_47 : decode cX0_stepsOfRun 47 = .ok (.ireturn, 1) := by decide +kernel
set_option maxRecDepth 20000 in
theorem ggX0_neighbourAt_X0_topBefore : GoodIn wsX0_neighbourAt wsX0_topBefore := goodIn_r _ [9, 1, 10, 32, 33, 34, 35] (by decide +kernel) (by decide +kernel)
set_option maxRecDepth 20000 in
theorem gX0_neighbourAt_X0_topBefore : GoodIn wsX0_neighbourAt (wsV RX0 29 RX0 yX0_topBefore wsX0_topBefore) := goodIn_app (goodIn_of _ (by decide +kernel)) ggX0_neighbourAt_X0_topBefore
set_option maxRecDepth 20000 in
theorem ggX0_neighbourAt_X0_bottomBefore : GoodIn wsX0_neighbourAt wsX0_bottomBefore := goodIn_r _ [14, 1, 15, 32, 33, 34, 35] (by decide +kernel) (by decide +kernel)
set_option maxRecDepth 20000 in
theorem gX0_neighbourAt_X0_bottomBefore : GoodIn wsX0_neighbourAt (wsV RX0 35 RX0 yX0_bottomBefore wsX0_bottomBefore) := goodIn_app (goodIn_of _ (by decide +kernel)) ggX0_neighbourAt_X0_bottomBefore
set_option maxRecDepth 20000 in
theorem ggX0_neighbourAt_X1_init : GoodIn wsX0_neighbourAt wsX1_init := goodIn_r _ [18, 19, 20, 21, 22, 23, 36, 37] (by decide +kernel) (by decide +kernel)
set_option maxRecDepth 20000 in
theorem gX0_neighbourAt_X1_init : GoodIn wsX0_neighbourAt (wsX1_init) := ggX0_neighbourAt_X1_init
set_option maxRecDepth 20000 in
theorem ggX0_neighbourAt_X0_top : GoodIn wsX0_neighbourAt wsX0_top := goodIn_r _ [27, 10, 1, 32, 33, 34, 35] (by decide +kernel) (by decide +kernel)
set_option maxRecDepth 20000 in
theorem gX0_neighbourAt_X0_top : GoodIn wsX0_neighbourAt (wsV RX0 25 RX0 yX0_top wsX0_top) := goodIn_app (goodIn_of _ (by decide +kernel)) ggX0_neighbourAt_X0_top
set_option maxRecDepth 20000 in
theorem ggX0_neighbourAt_X0_bottom : GoodIn wsX0_neighbourAt wsX0_bottom := goodIn_r _ [31, 15, 1, 32, 33, 34, 35] (by decide +kernel) (by decide +kernel)
set_option maxRecDepth 20000 in
theorem gX0_neighbourAt_X0_bottom : GoodIn wsX0_neighbourAt (wsV RX0 32 RX0 yX0_bottom wsX0_bottom) := goodIn_app (goodIn_of _ (by decide +kernel)) ggX0_neighbourAt_X0_bottom
theorem dX0_neighbourAt_0 : decode cX0_neighbourAt 0 = .ok (.iload_n 1, 1) := by decide +kernel
theorem dX0_neighbourAt_1 : decode cX0_neighbourAt 1 = .ok (.aload_n 0, 1) := by decide +kernel
theorem dX0_neighbourAt_2 : decode cX0_neighbourAt 2 = .ok (.getfield 21, 3) := by decide +kernel
theorem dX0_neighbourAt_5 : decode cX0_neighbourAt 5 = .ok (.iconst 2, 1) := by decide +kernel
theorem dX0_neighbourAt_6 : decode cX0_neighbourAt 6 = .ok (.irem, 1) := by decide +kernel
theorem dX0_neighbourAt_7 : decode cX0_neighbourAt 7 = .ok (.if_icmp .ne 19, 3) := by decide +kernel
theorem dX0_neighbourAt_10 : decode cX0_neighbourAt 10 = .ok (.new 48, 3) := by decide +kernel
theorem dX0_neighbourAt_13 : decode cX0_neighbourAt 13 = .ok (.dup, 1) := by decide +kernel
theorem dX0_neighbourAt_14 : decode cX0_neighbourAt 14 = .ok (.aload_n 0, 1) := by decide +kernel
theorem dX0_neighbourAt_15 : decode cX0_neighbourAt 15 = .ok (.invokevirtual 29, 3) := by decide +kernel
theorem dX0_neighbourAt_18 : decode cX0_neighbourAt 18 = .ok (.aload_n 0, 1) := by decide +kernel
theorem dX0_neighbourAt_19 : decode cX0_neighbourAt 19 = .ok (.invokevirtual 35, 3) := by decide +kernel
theorem dX0_neighbourAt_22 : decode cX0_neighbourAt 22 = .ok (.invokespecial 50, 3) := by decide +kernel
theorem dX0_neighbourAt_25 : decode cX0_neighbourAt 25 = .ok (.areturn, 1) := by decide +kernel
theorem dX0_neighbourAt_26 : decode cX0_neighbourAt 26 = .ok (.new 48, 3) := by decide +kernel
theorem dX0_neighbourAt_29 : decode cX0_neighbourAt 29 = .ok (.dup, 1) := by decide +kernel
theorem dX0_neighbourAt_30 : decode cX0_neighbourAt 30 = .ok (.aload_n 0, 1) := by decide +kernel
theorem dX0_neighbourAt_31 : decode cX0_neighbourAt 31 = .ok (.invokevirtual 25, 3) := by decide +kernel
theorem dX0_neighbourAt_34 : decode cX0_neighbourAt 34 = .ok (.aload_n 0, 1) := by decide +kernel
theorem dX0_neighbourAt_35 : decode cX0_neighbourAt 35 = .ok (.invokevirtual 29, 3) := by decide +kernel
theorem dX0_neighbourAt_38 : decode cX0_neighbourAt 38 = .ok (.isub, 1) := by decide +kernel
theorem dX0_neighbourAt_39 : decode cX0_neighbourAt 39 = .ok (.aload_n 0, 1) := by decide +kernel
theorem dX0_neighbourAt_40 : decode cX0_neighbourAt 40 = .ok (.invokevirtual 32, 3) := by decide +kernel
theorem dX0_neighbourAt_43 : decode cX0_neighbourAt 43 = .ok (.aload_n 0, 1) := by decide +kernel
theorem dX0_neighbourAt_44 : decode cX0_neighbourAt 44 = .ok (.invokevirtual 35, 3) := by decide +kernel
theorem dX0_neighbourAt_47 : decode cX0_neighbourAt 47 = .ok (.isub, 1) := by decide +kernel
theorem dX0_neighbourAt_48 : decode cX0_neighbourAt 48 = .ok (.invokespecial 50, 3) := by decide +kernel
theorem dX0_neighbourAt_51 : decode cX0_neighbourAt 51 = .ok (.areturn, 1) := by decide +kernel
set_option maxRecDepth 20000 in
theorem ggX0_nearWithin_X0_lastWithin : GoodIn wsX0_nearWithin wsX0_lastWithin := goodIn_r _ [12, 13, 5, 36, 37, 38, 39] (by decide +kernel) (by decide +kernel)
set_option maxRecDepth 20000 in
theorem gX0_nearWithin_X0_lastWithin : GoodIn wsX0_nearWithin (wsV RX0 53 RX0 yX0_lastWithin wsX0_lastWithin) := goodIn_app (goodIn_of _ (by decide +kernel)) ggX0_nearWithin_X0_lastWithin
set_option maxRecDepth 20000 in
theorem ggX0_nearWithin_X1_init : GoodIn wsX0_nearWithin wsX1_init := goodIn_r _ [16, 17, 18, 19, 20, 21, 34, 35] (by decide +kernel) (by decide +kernel)
set_option maxRecDepth 20000 in
theorem gX0_nearWithin_X1_init : GoodIn wsX0_nearWithin (wsX1_init) := ggX0_nearWithin_X1_init
set_option maxRecDepth 20000 in
theorem ggX0_nearWithin_X0_isLowerNearer : GoodIn wsX0_nearWithin wsX0_isLowerNearer := goodIn_r _ [25, 6, 7, 26, 27, 28, 11, 29, 4, 13, 30, 31, 32, 33, 5, 34, 35, 36, 37, 38, 39] (by decide +kernel) (by decide +kernel)
set_option maxRecDepth 20000 in
theorem gX0_nearWithin_X0_isLowerNearer : GoodIn wsX0_nearWithin (wsV RX0 61 RX0 yX0_isLowerNearer wsX0_isLowerNearer) := goodIn_app (goodIn_of _ (by decide +kernel)) ggX0_nearWithin_X0_isLowerNearer
theorem dX0_nearWithin_0 : decode cX0_nearWithin 0 = .ok (.aload_n 0, 1) := by decide +kernel
theorem dX0_nearWithin_1 : decode cX0_nearWithin 1 = .ok (.iload_n 1, 1) := by decide +kernel
theorem dX0_nearWithin_2 : decode cX0_nearWithin 2 = .ok (.invokevirtual 53, 3) := by decide +kernel
theorem dX0_nearWithin_5 : decode cX0_nearWithin 5 = .ok (.istore_n 3, 1) := by decide +kernel
theorem dX0_nearWithin_6 : decode cX0_nearWithin 6 = .ok (.new 48, 3) := by decide +kernel
theorem dX0_nearWithin_9 : decode cX0_nearWithin 9 = .ok (.dup, 1) := by decide +kernel
theorem dX0_nearWithin_10 : decode cX0_nearWithin 10 = .ok (.aload_n 0, 1) := by decide +kernel
theorem dX0_nearWithin_11 : decode cX0_nearWithin 11 = .ok (.getfield 15, 3) := by decide +kernel
theorem dX0_nearWithin_14 : decode cX0_nearWithin 14 = .ok (.iload_n 3, 1) := by decide +kernel
theorem dX0_nearWithin_15 : decode cX0_nearWithin 15 = .ok (.iaload, 1) := by decide +kernel
theorem dX0_nearWithin_16 : decode cX0_nearWithin 16 = .ok (.aload_n 0, 1) := by decide +kernel
theorem dX0_nearWithin_17 : decode cX0_nearWithin 17 = .ok (.getfield 18, 3) := by decide +kernel
theorem dX0_nearWithin_20 : decode cX0_nearWithin 20 = .ok (.iload_n 3, 1) := by decide +kernel
theorem dX0_nearWithin_21 : decode cX0_nearWithin 21 = .ok (.iaload, 1) := by decide +kernel
theorem dX0_nearWithin_22 : decode cX0_nearWithin 22 = .ok (.invokespecial 50, 3) := by decide +kernel
theorem dX0_nearWithin_25 : decode cX0_nearWithin 25 = .ok (.astore 4, 2) := by decide +kernel
theorem dX0_nearWithin_27 : decode cX0_nearWithin 27 = .ok (.aload 4, 2) := by decide +kernel
theorem dX0_nearWithin_29 : decode cX0_nearWithin 29 = .ok (.getfield 57, 3) := by decide +kernel
theorem dX0_nearWithin_32 : decode cX0_nearWithin 32 = .ok (.ifCond .le 22, 3) := by decide +kernel
theorem dX0_nearWithin_35 : decode cX0_nearWithin 35 = .ok (.iload_n 1, 1) := by decide +kernel
theorem dX0_nearWithin_36 : decode cX0_nearWithin 36 = .ok (.aload_n 0, 1) := by decide +kernel
theorem dX0_nearWithin_37 : decode cX0_nearWithin 37 = .ok (.getfield 18, 3) := by decide +kernel
theorem dX0_nearWithin_40 : decode cX0_nearWithin 40 = .ok (.iload_n 3, 1) := by decide +kernel
theorem dX0_nearWithin_41 : decode cX0_nearWithin 41 = .ok (.iconst 1, 1) := by decide +kernel
theorem dX0_nearWithin_42 : decode cX0_nearWithin 42 = .ok (.isub, 1) := by decide +kernel
theorem dX0_nearWithin_43 : decode cX0_nearWithin 43 = .ok (.iaload, 1) := by decide +kernel
theorem dX0_nearWithin_44 : decode cX0_nearWithin 44 = .ok (.isub, 1) := by decide +kernel
theorem dX0_nearWithin_45 : decode cX0_nearWithin 45 = .ok (.aload 4, 2) := by decide +kernel
theorem dX0_nearWithin_47 : decode cX0_nearWithin 47 = .ok (.getfield 57, 3) := by decide +kernel
theorem dX0_nearWithin_50 : decode cX0_nearWithin 50 = .ok (.idiv, 1) := by decide +kernel
theorem dX0_nearWithin_51 : decode cX0_nearWithin 51 = .ok (.goto 4, 3) := by decide +kernel
theorem dX0_nearWithin_54 : decode cX0_nearWithin 54 = .ok (.iconst 0, 1) := by decide +kernel
theorem dX0_nearWithin_55 : decode cX0_nearWithin 55 = .ok (.istore 5, 2) := by decide +kernel
theorem dX0_nearWithin_57 : decode cX0_nearWithin 57 = .ok (.new 48, 3) := by decide +kernel
theorem dX0_nearWithin_60 : decode cX0_nearWithin 60 = .ok (.dup, 1) := by decide +kernel
theorem dX0_nearWithin_61 : decode cX0_nearWithin 61 = .ok (.aload_n 0, 1) := by decide +kernel
theorem dX0_nearWithin_62 : decode cX0_nearWithin 62 = .ok (.getfield 15, 3) := by decide +kernel
theorem dX0_nearWithin_65 : decode cX0_nearWithin 65 = .ok (.iload_n 3, 1) := by decide +kernel
theorem dX0_nearWithin_66 : decode cX0_nearWithin 66 = .ok (.iconst 1, 1) := by decide +kernel
theorem dX0_nearWithin_67 : decode cX0_nearWithin 67 = .ok (.isub, 1) := by decide +kernel
theorem dX0_nearWithin_68 : decode cX0_nearWithin 68 = .ok (.iaload, 1) := by decide +kernel
theorem dX0_nearWithin_69 : decode cX0_nearWithin 69 = .ok (.iload 5, 2) := by decide +kernel
theorem dX0_nearWithin_71 : decode cX0_nearWithin 71 = .ok (.aload 4, 2) := by decide +kernel
theorem dX0_nearWithin_73 : decode cX0_nearWithin 73 = .ok (.getfield 59, 3) := by decide +kernel
theorem dX0_nearWithin_76 : decode cX0_nearWithin 76 = .ok (.imul, 1) := by decide +kernel
theorem dX0_nearWithin_77 : decode cX0_nearWithin 77 = .ok (.iadd, 1) := by decide +kernel
theorem dX0_nearWithin_78 : decode cX0_nearWithin 78 = .ok (.aload_n 0, 1) := by decide +kernel
theorem dX0_nearWithin_79 : decode cX0_nearWithin 79 = .ok (.getfield 18, 3) := by decide +kernel
theorem dX0_nearWithin_82 : decode cX0_nearWithin 82 = .ok (.iload_n 3, 1) := by decide +kernel
theorem dX0_nearWithin_83 : decode cX0_nearWithin 83 = .ok (.iconst 1, 1) := by decide +kernel
theorem dX0_nearWithin_84 : decode cX0_nearWithin 84 = .ok (.isub, 1) := by decide +kernel
theorem dX0_nearWithin_85 : decode cX0_nearWithin 85 = .ok (.iaload, 1) := by decide +kernel
theorem dX0_nearWithin_86 : decode cX0_nearWithin 86 = .ok (.iload 5, 2) := by decide +kernel
theorem dX0_nearWithin_88 : decode cX0_nearWithin 88 = .ok (.aload 4, 2) := by decide +kernel
theorem dX0_nearWithin_90 : decode cX0_nearWithin 90 = .ok (.getfield 57, 3) := by decide +kernel
theorem dX0_nearWithin_93 : decode cX0_nearWithin 93 = .ok (.imul, 1) := by decide +kernel
theorem dX0_nearWithin_94 : decode cX0_nearWithin 94 = .ok (.iadd, 1) := by decide +kernel
theorem dX0_nearWithin_95 : decode cX0_nearWithin 95 = .ok (.invokespecial 50, 3) := by decide +kernel
theorem dX0_nearWithin_98 : decode cX0_nearWithin 98 = .ok (.astore 6, 2) := by decide +kernel
theorem dX0_nearWithin_100 : decode cX0_nearWithin 100 = .ok (.iload_n 3, 1) := by decide +kernel
theorem dX0_nearWithin_101 : decode cX0_nearWithin 101 = .ok (.iconst 2, 1) := by decide +kernel
theorem dX0_nearWithin_102 : decode cX0_nearWithin 102 = .ok (.irem, 1) := by decide +kernel
theorem dX0_nearWithin_103 : decode cX0_nearWithin 103 = .ok (.iconst 1, 1) := by decide +kernel
theorem dX0_nearWithin_104 : decode cX0_nearWithin 104 = .ok (.if_icmp .ne 7, 3) := by decide +kernel
theorem dX0_nearWithin_107 : decode cX0_nearWithin 107 = .ok (.iconst 1, 1) := by decide +kernel
theorem dX0_nearWithin_108 : decode cX0_nearWithin 108 = .ok (.goto 4, 3) := by decide +kernel
theorem dX0_nearWithin_111 : decode cX0_nearWithin 111 = .ok (.iconst 0, 1) := by decide +kernel
theorem dX0_nearWithin_112 : decode cX0_nearWithin 112 = .ok (.istore 7, 2) := by decide +kernel
theorem dX0_nearWithin_114 : decode cX0_nearWithin 114 = .ok (.iload 7, 2) := by decide +kernel
theorem dX0_nearWithin_116 : decode cX0_nearWithin 116 = .ok (.ifCond .eq 8, 3) := by decide +kernel
theorem dX0_nearWithin_119 : decode cX0_nearWithin 119 = .ok (.aload 4, 2) := by decide +kernel
theorem dX0_nearWithin_121 : decode cX0_nearWithin 121 = .ok (.goto 5, 3) := by decide +kernel
theorem dX0_nearWithin_124 : decode cX0_nearWithin 124 = .ok (.aload 6, 2) := by decide +kernel
theorem dX0_nearWithin_126 : decode cX0_nearWithin 126 = .ok (.astore 8, 2) := by decide +kernel
theorem dX0_nearWithin_128 : decode cX0_nearWithin 128 = .ok (.iload 7, 2) := by decide +kernel
theorem dX0_nearWithin_130 : decode cX0_nearWithin 130 = .ok (.ifCond .eq 8, 3) := by decide +kernel
theorem dX0_nearWithin_133 : decode cX0_nearWithin 133 = .ok (.aload 6, 2) := by decide +kernel
theorem dX0_nearWithin_135 : decode cX0_nearWithin 135 = .ok (.goto 5, 3) := by decide +kernel
theorem dX0_nearWithin_138 : decode cX0_nearWithin 138 = .ok (.aload 4, 2) := by decide +kernel
theorem dX0_nearWithin_140 : decode cX0_nearWithin 140 = .ok (.astore 9, 2) := by decide +kernel
theorem dX0_nearWithin_142 : decode cX0_nearWithin 142 = .ok (.iload_n 2, 1) := by decide +kernel
theorem dX0_nearWithin_143 : decode cX0_nearWithin 143 = .ok (.iconst 2, 1) := by decide +kernel
theorem dX0_nearWithin_144 : decode cX0_nearWithin 144 = .ok (.if_icmp .ne 22, 3) := by decide +kernel
theorem dX0_nearWithin_147 : decode cX0_nearWithin 147 = .ok (.aload_n 0, 1) := by decide +kernel
theorem dX0_nearWithin_148 : decode cX0_nearWithin 148 = .ok (.aload 8, 2) := by decide +kernel
theorem dX0_nearWithin_150 : decode cX0_nearWithin 150 = .ok (.aload 9, 2) := by decide +kernel
theorem dX0_nearWithin_152 : decode cX0_nearWithin 152 = .ok (.invokevirtual 61, 3) := by decide +kernel
theorem dX0_nearWithin_155 : decode cX0_nearWithin 155 = .ok (.ifCond .eq 8, 3) := by decide +kernel
theorem dX0_nearWithin_158 : decode cX0_nearWithin 158 = .ok (.aload 8, 2) := by decide +kernel
theorem dX0_nearWithin_160 : decode cX0_nearWithin 160 = .ok (.goto 5, 3) := by decide +kernel
theorem dX0_nearWithin_163 : decode cX0_nearWithin 163 = .ok (.aload 9, 2) := by decide +kernel
theorem dX0_nearWithin_165 : decode cX0_nearWithin 165 = .ok (.areturn, 1) := by decide +kernel
theorem dX0_nearWithin_166 : decode cX0_nearWithin 166 = .ok (.iload_n 2, 1) := by decide +kernel
theorem dX0_nearWithin_167 : decode cX0_nearWithin 167 = .ok (.ifCond .ne 8, 3) := by decide +kernel
theorem dX0_nearWithin_170 : decode cX0_nearWithin 170 = .ok (.aload 8, 2) := by decide +kernel
theorem dX0_nearWithin_172 : decode cX0_nearWithin 172 = .ok (.goto 5, 3) := by decide +kernel
theorem dX0_nearWithin_175 : decode cX0_nearWithin 175 = .ok (.aload 9, 2) := by decide +kernel
theorem dX0_nearWithin_177 : decode cX0_nearWithin 177 = .ok (.areturn, 1) := by decide +kernel
theorem dX0_lastWithin_0 : decode cX0_lastWithin 0 = .ok (.iconst 1, 1) := by decide +kernel
theorem dX0_lastWithin_1 : decode cX0_lastWithin 1 = .ok (.istore_n 2, 1) := by decide +kernel
theorem dX0_lastWithin_2 : decode cX0_lastWithin 2 = .ok (.iconst 2, 1) := by decide +kernel
theorem dX0_lastWithin_3 : decode cX0_lastWithin 3 = .ok (.istore_n 3, 1) := by decide +kernel
theorem dX0_lastWithin_4 : decode cX0_lastWithin 4 = .ok (.iload_n 3, 1) := by decide +kernel
theorem dX0_lastWithin_5 : decode cX0_lastWithin 5 = .ok (.aload_n 0, 1) := by decide +kernel
theorem dX0_lastWithin_6 : decode cX0_lastWithin 6 = .ok (.getfield 21, 3) := by decide +kernel
theorem dX0_lastWithin_9 : decode cX0_lastWithin 9 = .ok (.if_icmp .gt 21, 3) := by decide +kernel
theorem dX0_lastWithin_12 : decode cX0_lastWithin 12 = .ok (.aload_n 0, 1) := by decide +kernel
theorem dX0_lastWithin_13 : decode cX0_lastWithin 13 = .ok (.getfield 18, 3) := by decide +kernel
theorem dX0_lastWithin_16 : decode cX0_lastWithin 16 = .ok (.iload_n 3, 1) := by decide +kernel
theorem dX0_lastWithin_17 : decode cX0_lastWithin 17 = .ok (.iaload, 1) := by decide +kernel
theorem dX0_lastWithin_18 : decode cX0_lastWithin 18 = .ok (.iload_n 1, 1) := by decide +kernel
theorem dX0_lastWithin_19 : decode cX0_lastWithin 19 = .ok (.if_icmp .gt 5, 3) := by decide +kernel
theorem dX0_lastWithin_22 : decode cX0_lastWithin 22 = .ok (.iload_n 3, 1) := by decide +kernel
theorem dX0_lastWithin_23 : decode cX0_lastWithin 23 = .ok (.istore_n 2, 1) := by decide +kernel
theorem dX0_lastWithin_24 : decode cX0_lastWithin 24 = .ok (.iinc 3 1, 3) := by decide +kernel
theorem dX0_lastWithin_27 : decode cX0_lastWithin 27 = .ok (.goto (-23), 3) := by decide +kernel
theorem dX0_lastWithin_30 : decode cX0_lastWithin 30 = .ok (.iload_n 2, 1) := by decide +kernel
theorem dX0_lastWithin_31 : decode cX0_lastWithin 31 = .ok (.ireturn, 1) := by decide +kernel
set_option maxRecDepth 20000 in
theorem ggX0_isLowerNearer_X0_top : GoodIn wsX0_isLowerNearer wsX0_top := goodIn_r _ [7, 8, 9, 17, 18, 19, 20] (by decide +kernel) (by decide +kernel)
set_option maxRecDepth 20000 in
theorem gX0_isLowerNearer_X0_top : GoodIn wsX0_isLowerNearer (wsV RX0 25 RX0 yX0_top wsX0_top) := goodIn_app (goodIn_of _ (by decide +kernel)) ggX0_isLowerNearer_X0_top
set_option maxRecDepth 20000 in
theorem ggX0_isLowerNearer_X0_bottom : GoodIn wsX0_isLowerNearer wsX0_bottom := goodIn_r _ [13, 14, 9, 17, 18, 19, 20] (by decide +kernel) (by decide +kernel)
set_option maxRecDepth 20000 in
theorem gX0_isLowerNearer_X0_bottom : GoodIn wsX0_isLowerNearer (wsV RX0 32 RX0 yX0_bottom wsX0_bottom) := goodIn_app (goodIn_of _ (by decide +kernel)) ggX0_isLowerNearer_X0_bottom
theorem dX0_isLowerNearer_0 : decode cX0_isLowerNearer 0 = .ok (.aload_n 0, 1) := by decide +kernel
theorem dX0_isLowerNearer_1 : decode cX0_isLowerNearer 1 = .ok (.invokevirtual 25, 3) := by decide +kernel
theorem dX0_isLowerNearer_4 : decode cX0_isLowerNearer 4 = .ok (.i2l, 1) := by decide +kernel
theorem dX0_isLowerNearer_5 : decode cX0_isLowerNearer 5 = .ok (.aload_n 1, 1) := by decide +kernel
theorem dX0_isLowerNearer_6 : decode cX0_isLowerNearer 6 = .ok (.getfield 57, 3) := by decide +kernel
theorem dX0_isLowerNearer_9 : decode cX0_isLowerNearer 9 = .ok (.i2l, 1) := by decide +kernel
theorem dX0_isLowerNearer_10 : decode cX0_isLowerNearer 10 = .ok (.lmul, 1) := by decide +kernel
theorem dX0_isLowerNearer_11 : decode cX0_isLowerNearer 11 = .ok (.aload_n 0, 1) := by decide +kernel
theorem dX0_isLowerNearer_12 : decode cX0_isLowerNearer 12 = .ok (.invokevirtual 32, 3) := by decide +kernel
theorem dX0_isLowerNearer_15 : decode cX0_isLowerNearer 15 = .ok (.i2l, 1) := by decide +kernel
theorem dX0_isLowerNearer_16 : decode cX0_isLowerNearer 16 = .ok (.aload_n 1, 1) := by decide +kernel
theorem dX0_isLowerNearer_17 : decode cX0_isLowerNearer 17 = .ok (.getfield 59, 3) := by decide +kernel
theorem dX0_isLowerNearer_20 : decode cX0_isLowerNearer 20 = .ok (.i2l, 1) := by decide +kernel
theorem dX0_isLowerNearer_21 : decode cX0_isLowerNearer 21 = .ok (.lmul, 1) := by decide +kernel
theorem dX0_isLowerNearer_22 : decode cX0_isLowerNearer 22 = .ok (.lsub, 1) := by decide +kernel
theorem dX0_isLowerNearer_23 : decode cX0_isLowerNearer 23 = .ok (.aload_n 2, 1) := by decide +kernel
theorem dX0_isLowerNearer_24 : decode cX0_isLowerNearer 24 = .ok (.getfield 57, 3) := by decide +kernel
theorem dX0_isLowerNearer_27 : decode cX0_isLowerNearer 27 = .ok (.i2l, 1) := by decide +kernel
theorem dX0_isLowerNearer_28 : decode cX0_isLowerNearer 28 = .ok (.lmul, 1) := by decide +kernel
theorem dX0_isLowerNearer_29 : decode cX0_isLowerNearer 29 = .ok (.lstore_n 3, 1) := by decide +kernel
theorem dX0_isLowerNearer_30 : decode cX0_isLowerNearer 30 = .ok (.aload_n 0, 1) := by decide +kernel
theorem dX0_isLowerNearer_31 : decode cX0_isLowerNearer 31 = .ok (.invokevirtual 32, 3) := by decide +kernel
theorem dX0_isLowerNearer_34 : decode cX0_isLowerNearer 34 = .ok (.i2l, 1) := by decide +kernel
theorem dX0_isLowerNearer_35 : decode cX0_isLowerNearer 35 = .ok (.aload_n 2, 1) := by decide +kernel
theorem dX0_isLowerNearer_36 : decode cX0_isLowerNearer 36 = .ok (.getfield 59, 3) := by decide +kernel
theorem dX0_isLowerNearer_39 : decode cX0_isLowerNearer 39 = .ok (.i2l, 1) := by decide +kernel
theorem dX0_isLowerNearer_40 : decode cX0_isLowerNearer 40 = .ok (.lmul, 1) := by decide +kernel
theorem dX0_isLowerNearer_41 : decode cX0_isLowerNearer 41 = .ok (.aload_n 0, 1) := by decide +kernel
theorem dX0_isLowerNearer_42 : decode cX0_isLowerNearer 42 = .ok (.invokevirtual 25, 3) := by decide +kernel
theorem dX0_isLowerNearer_45 : decode cX0_isLowerNearer 45 = .ok (.i2l, 1) := by decide +kernel
theorem dX0_isLowerNearer_46 : decode cX0_isLowerNearer 46 = .ok (.aload_n 2, 1) := by decide +kernel
theorem dX0_isLowerNearer_47 : decode cX0_isLowerNearer 47 = .ok (.getfield 57, 3) := by decide +kernel
theorem dX0_isLowerNearer_50 : decode cX0_isLowerNearer 50 = .ok (.i2l, 1) := by decide +kernel
theorem dX0_isLowerNearer_51 : decode cX0_isLowerNearer 51 = .ok (.lmul, 1) := by decide +kernel
theorem dX0_isLowerNearer_52 : decode cX0_isLowerNearer 52 = .ok (.lsub, 1) := by decide +kernel
theorem dX0_isLowerNearer_53 : decode cX0_isLowerNearer 53 = .ok (.aload_n 1, 1) := by decide +kernel
theorem dX0_isLowerNearer_54 : decode cX0_isLowerNearer 54 = .ok (.getfield 57, 3) := by decide +kernel
theorem dX0_isLowerNearer_57 : decode cX0_isLowerNearer 57 = .ok (.i2l, 1) := by decide +kernel
theorem dX0_isLowerNearer_58 : decode cX0_isLowerNearer 58 = .ok (.lmul, 1) := by decide +kernel
theorem dX0_isLowerNearer_59 : decode cX0_isLowerNearer 59 = .ok (.lstore 5, 2) := by decide +kernel
theorem dX0_isLowerNearer_61 : decode cX0_isLowerNearer 61 = .ok (.lload_n 3, 1) := by decide +kernel
theorem dX0_isLowerNearer_62 : decode cX0_isLowerNearer 62 = .ok (.lload 5, 2) := by decide +kernel
theorem dX0_isLowerNearer_64 : decode cX0_isLowerNearer 64 = .ok (.lcmp, 1) := by decide +kernel
theorem dX0_isLowerNearer_65 : decode cX0_isLowerNearer 65 = .ok (.ifCond .lt 21, 3) := by decide +kernel
theorem dX0_isLowerNearer_68 : decode cX0_isLowerNearer 68 = .ok (.lload_n 3, 1) := by decide +kernel
theorem dX0_isLowerNearer_69 : decode cX0_isLowerNearer 69 = .ok (.lload 5, 2) := by decide +kernel
theorem dX0_isLowerNearer_71 : decode cX0_isLowerNearer 71 = .ok (.lcmp, 1) := by decide +kernel
theorem dX0_isLowerNearer_72 : decode cX0_isLowerNearer 72 = .ok (.ifCond .ne 18, 3) := by decide +kernel
theorem dX0_isLowerNearer_75 : decode cX0_isLowerNearer 75 = .ok (.aload_n 1, 1) := by decide +kernel
theorem dX0_isLowerNearer_76 : decode cX0_isLowerNearer 76 = .ok (.getfield 57, 3) := by decide +kernel
theorem dX0_isLowerNearer_79 : decode cX0_isLowerNearer 79 = .ok (.aload_n 2, 1) := by decide +kernel
theorem dX0_isLowerNearer_80 : decode cX0_isLowerNearer 80 = .ok (.getfield 57, 3) := by decide +kernel
theorem dX0_isLowerNearer_83 : decode cX0_isLowerNearer 83 = .ok (.if_icmp .gt 7, 3) := by decide +kernel
theorem dX0_isLowerNearer_86 : decode cX0_isLowerNearer 86 = .ok (.iconst 1, 1) := by decide +kernel
theorem dX0_isLowerNearer_87 : decode cX0_isLowerNearer 87 = .ok (.goto 4, 3) := by decide +kernel
theorem dX0_isLowerNearer_90 : decode cX0_isLowerNearer 90 = .ok (.iconst 0, 1) := by decide +kernel
theorem dX0_isLowerNearer_91 : decode cX0_isLowerNearer 91 = .ok (.ireturn, 1) := by decide +kernel
set_option maxRecDepth 20000 in
theorem ggX0_termsMakeIt_X0_top : GoodIn wsX0_termsMakeIt wsX0_top := goodIn_r _ [7, 8, 1, 14, 15, 16, 17] (by decide +kernel) (by decide +kernel)
set_option maxRecDepth 20000 in
theorem gX0_termsMakeIt_X0_top : GoodIn wsX0_termsMakeIt (wsV RX0 25 RX0 yX0_top wsX0_top) := goodIn_app (goodIn_of _ (by decide +kernel)) ggX0_termsMakeIt_X0_top
set_option maxRecDepth 20000 in
theorem ggX0_termsMakeIt_X0_bottom : GoodIn wsX0_termsMakeIt wsX0_bottom := goodIn_r _ [12, 13, 1, 14, 15, 16, 17] (by decide +kernel) (by decide +kernel)
set_option maxRecDepth 20000 in
theorem gX0_termsMakeIt_X0_bottom : GoodIn wsX0_termsMakeIt (wsV RX0 32 RX0 yX0_bottom wsX0_bottom) := goodIn_app (goodIn_of _ (by decide +kernel)) ggX0_termsMakeIt_X0_bottom
theorem dX0_termsMakeIt_0 : decode cX0_termsMakeIt 0 = .ok (.lconst 1, 1) := by decide +kernel
theorem dX0_termsMakeIt_1 : decode cX0_termsMakeIt 1 = .ok (.lstore_n 1, 1) := by decide +kernel
theorem dX0_termsMakeIt_2 : decode cX0_termsMakeIt 2 = .ok (.lconst 0, 1) := by decide +kernel
theorem dX0_termsMakeIt_3 : decode cX0_termsMakeIt 3 = .ok (.lstore_n 3, 1) := by decide +kernel
theorem dX0_termsMakeIt_4 : decode cX0_termsMakeIt 4 = .ok (.aload_n 0, 1) := by decide +kernel
theorem dX0_termsMakeIt_5 : decode cX0_termsMakeIt 5 = .ok (.getfield 21, 3) := by decide +kernel
theorem dX0_termsMakeIt_8 : decode cX0_termsMakeIt 8 = .ok (.iconst 1, 1) := by decide +kernel
theorem dX0_termsMakeIt_9 : decode cX0_termsMakeIt 9 = .ok (.isub, 1) := by decide +kernel
theorem dX0_termsMakeIt_10 : decode cX0_termsMakeIt 10 = .ok (.istore 5, 2) := by decide +kernel
theorem dX0_termsMakeIt_12 : decode cX0_termsMakeIt 12 = .ok (.iload 5, 2) := by decide +kernel
theorem dX0_termsMakeIt_14 : decode cX0_termsMakeIt 14 = .ok (.ifCond .lt 28, 3) := by decide +kernel
theorem dX0_termsMakeIt_17 : decode cX0_termsMakeIt 17 = .ok (.aload_n 0, 1) := by decide +kernel
theorem dX0_termsMakeIt_18 : decode cX0_termsMakeIt 18 = .ok (.getfield 9, 3) := by decide +kernel
theorem dX0_termsMakeIt_21 : decode cX0_termsMakeIt 21 = .ok (.iload 5, 2) := by decide +kernel
theorem dX0_termsMakeIt_23 : decode cX0_termsMakeIt 23 = .ok (.iaload, 1) := by decide +kernel
theorem dX0_termsMakeIt_24 : decode cX0_termsMakeIt 24 = .ok (.i2l, 1) := by decide +kernel
theorem dX0_termsMakeIt_25 : decode cX0_termsMakeIt 25 = .ok (.lload_n 1, 1) := by decide +kernel
theorem dX0_termsMakeIt_26 : decode cX0_termsMakeIt 26 = .ok (.lmul, 1) := by decide +kernel
theorem dX0_termsMakeIt_27 : decode cX0_termsMakeIt 27 = .ok (.lload_n 3, 1) := by decide +kernel
theorem dX0_termsMakeIt_28 : decode cX0_termsMakeIt 28 = .ok (.ladd, 1) := by decide +kernel
theorem dX0_termsMakeIt_29 : decode cX0_termsMakeIt 29 = .ok (.lstore 6, 2) := by decide +kernel
theorem dX0_termsMakeIt_31 : decode cX0_termsMakeIt 31 = .ok (.lload_n 1, 1) := by decide +kernel
theorem dX0_termsMakeIt_32 : decode cX0_termsMakeIt 32 = .ok (.lstore_n 3, 1) := by decide +kernel
theorem dX0_termsMakeIt_33 : decode cX0_termsMakeIt 33 = .ok (.lload 6, 2) := by decide +kernel
theorem dX0_termsMakeIt_35 : decode cX0_termsMakeIt 35 = .ok (.lstore_n 1, 1) := by decide +kernel
theorem dX0_termsMakeIt_36 : decode cX0_termsMakeIt 36 = .ok (.iinc 5 (-1), 3) := by decide +kernel
theorem dX0_termsMakeIt_39 : decode cX0_termsMakeIt 39 = .ok (.goto (-27), 3) := by decide +kernel
theorem dX0_termsMakeIt_42 : decode cX0_termsMakeIt 42 = .ok (.lload_n 1, 1) := by decide +kernel
theorem dX0_termsMakeIt_43 : decode cX0_termsMakeIt 43 = .ok (.aload_n 0, 1) := by decide +kernel
theorem dX0_termsMakeIt_44 : decode cX0_termsMakeIt 44 = .ok (.invokevirtual 25, 3) := by decide +kernel
theorem dX0_termsMakeIt_47 : decode cX0_termsMakeIt 47 = .ok (.i2l, 1) := by decide +kernel
theorem dX0_termsMakeIt_48 : decode cX0_termsMakeIt 48 = .ok (.lcmp, 1) := by decide +kernel
theorem dX0_termsMakeIt_49 : decode cX0_termsMakeIt 49 = .ok (.ifCond .ne 17, 3) := by decide +kernel
theorem dX0_termsMakeIt_52 : decode cX0_termsMakeIt 52 = .ok (.lload_n 3, 1) := by decide +kernel
theorem dX0_termsMakeIt_53 : decode cX0_termsMakeIt 53 = .ok (.aload_n 0, 1) := by decide +kernel
theorem dX0_termsMakeIt_54 : decode cX0_termsMakeIt 54 = .ok (.invokevirtual 32, 3) := by decide +kernel
theorem dX0_termsMakeIt_57 : decode cX0_termsMakeIt 57 = .ok (.i2l, 1) := by decide +kernel
theorem dX0_termsMakeIt_58 : decode cX0_termsMakeIt 58 = .ok (.lcmp, 1) := by decide +kernel
theorem dX0_termsMakeIt_59 : decode cX0_termsMakeIt 59 = .ok (.ifCond .ne 7, 3) := by decide +kernel
theorem dX0_termsMakeIt_62 : decode cX0_termsMakeIt 62 = .ok (.iconst 1, 1) := by decide +kernel
theorem dX0_termsMakeIt_63 : decode cX0_termsMakeIt 63 = .ok (.goto 4, 3) := by decide +kernel
theorem dX0_termsMakeIt_66 : decode cX0_termsMakeIt 66 = .ok (.iconst 0, 1) := by decide +kernel
theorem dX0_termsMakeIt_67 : decode cX0_termsMakeIt 67 = .ok (.ireturn, 1) := by decide +kernel
theorem dX0_convergentsAreClose_0 : decode cX0_convergentsAreClose 0 = .ok (.iconst 2, 1) := by decide +kernel
theorem dX0_convergentsAreClose_1 : decode cX0_convergentsAreClose 1 = .ok (.istore_n 1, 1) := by decide +kernel
theorem dX0_convergentsAreClose_2 : decode cX0_convergentsAreClose 2 = .ok (.iload_n 1, 1) := by decide +kernel
theorem dX0_convergentsAreClose_3 : decode cX0_convergentsAreClose 3 = .ok (.aload_n 0, 1) := by decide +kernel
theorem dX0_convergentsAreClose_4 : decode cX0_convergentsAreClose 4 = .ok (.getfield 21, 3) := by decide +kernel
theorem dX0_convergentsAreClose_7 : decode cX0_convergentsAreClose 7 = .ok (.if_icmp .gt 61, 3) := by decide +kernel
theorem dX0_convergentsAreClose_10 : decode cX0_convergentsAreClose 10 = .ok (.aload_n 0, 1) := by decide +kernel
theorem dX0_convergentsAreClose_11 : decode cX0_convergentsAreClose 11 = .ok (.getfield 15, 3) := by decide +kernel
theorem dX0_convergentsAreClose_14 : decode cX0_convergentsAreClose 14 = .ok (.iload_n 1, 1) := by decide +kernel
theorem dX0_convergentsAreClose_15 : decode cX0_convergentsAreClose 15 = .ok (.iaload, 1) := by decide +kernel
theorem dX0_convergentsAreClose_16 : decode cX0_convergentsAreClose 16 = .ok (.i2l, 1) := by decide +kernel
theorem dX0_convergentsAreClose_17 : decode cX0_convergentsAreClose 17 = .ok (.aload_n 0, 1) := by decide +kernel
theorem dX0_convergentsAreClose_18 : decode cX0_convergentsAreClose 18 = .ok (.getfield 18, 3) := by decide +kernel
theorem dX0_convergentsAreClose_21 : decode cX0_convergentsAreClose 21 = .ok (.iload_n 1, 1) := by decide +kernel
theorem dX0_convergentsAreClose_22 : decode cX0_convergentsAreClose 22 = .ok (.iconst 1, 1) := by decide +kernel
theorem dX0_convergentsAreClose_23 : decode cX0_convergentsAreClose 23 = .ok (.isub, 1) := by decide +kernel
theorem dX0_convergentsAreClose_24 : decode cX0_convergentsAreClose 24 = .ok (.iaload, 1) := by decide +kernel
theorem dX0_convergentsAreClose_25 : decode cX0_convergentsAreClose 25 = .ok (.i2l, 1) := by decide +kernel
theorem dX0_convergentsAreClose_26 : decode cX0_convergentsAreClose 26 = .ok (.lmul, 1) := by decide +kernel
theorem dX0_convergentsAreClose_27 : decode cX0_convergentsAreClose 27 = .ok (.aload_n 0, 1) := by decide +kernel
theorem dX0_convergentsAreClose_28 : decode cX0_convergentsAreClose 28 = .ok (.getfield 15, 3) := by decide +kernel
theorem dX0_convergentsAreClose_31 : decode cX0_convergentsAreClose 31 = .ok (.iload_n 1, 1) := by decide +kernel
theorem dX0_convergentsAreClose_32 : decode cX0_convergentsAreClose 32 = .ok (.iconst 1, 1) := by decide +kernel
theorem dX0_convergentsAreClose_33 : decode cX0_convergentsAreClose 33 = .ok (.isub, 1) := by decide +kernel
theorem dX0_convergentsAreClose_34 : decode cX0_convergentsAreClose 34 = .ok (.iaload, 1) := by decide +kernel
theorem dX0_convergentsAreClose_35 : decode cX0_convergentsAreClose 35 = .ok (.i2l, 1) := by decide +kernel
theorem dX0_convergentsAreClose_36 : decode cX0_convergentsAreClose 36 = .ok (.aload_n 0, 1) := by decide +kernel
theorem dX0_convergentsAreClose_37 : decode cX0_convergentsAreClose 37 = .ok (.getfield 18, 3) := by decide +kernel
theorem dX0_convergentsAreClose_40 : decode cX0_convergentsAreClose 40 = .ok (.iload_n 1, 1) := by decide +kernel
theorem dX0_convergentsAreClose_41 : decode cX0_convergentsAreClose 41 = .ok (.iaload, 1) := by decide +kernel
theorem dX0_convergentsAreClose_42 : decode cX0_convergentsAreClose 42 = .ok (.i2l, 1) := by decide +kernel
theorem dX0_convergentsAreClose_43 : decode cX0_convergentsAreClose 43 = .ok (.lmul, 1) := by decide +kernel
theorem dX0_convergentsAreClose_44 : decode cX0_convergentsAreClose 44 = .ok (.lsub, 1) := by decide +kernel
theorem dX0_convergentsAreClose_45 : decode cX0_convergentsAreClose 45 = .ok (.lstore_n 2, 1) := by decide +kernel
theorem dX0_convergentsAreClose_46 : decode cX0_convergentsAreClose 46 = .ok (.lload_n 2, 1) := by decide +kernel
theorem dX0_convergentsAreClose_47 : decode cX0_convergentsAreClose 47 = .ok (.lconst 1, 1) := by decide +kernel
theorem dX0_convergentsAreClose_48 : decode cX0_convergentsAreClose 48 = .ok (.lcmp, 1) := by decide +kernel
theorem dX0_convergentsAreClose_49 : decode cX0_convergentsAreClose 49 = .ok (.ifCond .eq 13, 3) := by decide +kernel
theorem dX0_convergentsAreClose_52 : decode cX0_convergentsAreClose 52 = .ok (.lload_n 2, 1) := by decide +kernel
theorem dX0_convergentsAreClose_53 : decode cX0_convergentsAreClose 53 = .ok (.ldc2_w 65, 3) := by decide +kernel
theorem dX0_convergentsAreClose_56 : decode cX0_convergentsAreClose 56 = .ok (.lcmp, 1) := by decide +kernel
theorem dX0_convergentsAreClose_57 : decode cX0_convergentsAreClose 57 = .ok (.ifCond .eq 5, 3) := by decide +kernel
theorem dX0_convergentsAreClose_60 : decode cX0_convergentsAreClose 60 = .ok (.iconst 0, 1) := by decide +kernel
theorem dX0_convergentsAreClose_61 : decode cX0_convergentsAreClose 61 = .ok (.ireturn, 1) := by decide +kernel
theorem dX0_convergentsAreClose_62 : decode cX0_convergentsAreClose 62 = .ok (.iinc 1 1, 3) := by decide +kernel
theorem dX0_convergentsAreClose_65 : decode cX0_convergentsAreClose 65 = .ok (.goto (-63), 3) := by decide +kernel
theorem dX0_convergentsAreClose_68 : decode cX0_convergentsAreClose 68 = .ok (.iconst 1, 1) := by decide +kernel
theorem dX0_convergentsAreClose_69 : decode cX0_convergentsAreClose 69 = .ok (.ireturn, 1) := by decide +kernel
set_option maxRecDepth 20000 in
theorem ggX0_wayLeadsToIt_X0_top : GoodIn wsX0_wayLeadsToIt wsX0_top := goodIn_r _ [5, 6, 7, 26, 27, 28, 29] (by decide +kernel) (by decide +kernel)
set_option maxRecDepth 20000 in
theorem gX0_wayLeadsToIt_X0_top : GoodIn wsX0_wayLeadsToIt (wsV RX0 25 RX0 yX0_top wsX0_top) := goodIn_app (goodIn_of _ (by decide +kernel)) ggX0_wayLeadsToIt_X0_top
set_option maxRecDepth 20000 in
theorem ggX0_wayLeadsToIt_X0_countRuns : GoodIn wsX0_wayLeadsToIt wsX0_countRuns := goodIn_r _ [11, 7, 1, 2, 3, 4, 5, 6, 12, 13, 14, 15, 16, 17, 18, 19, 20, 21, 26, 27, 28, 29] (by decide +kernel) (by decide +kernel)
set_option maxRecDepth 20000 in
theorem gX0_wayLeadsToIt_X0_countRuns : GoodIn wsX0_wayLeadsToIt (wsV RX0 67 RX0 yX0_countRuns wsX0_countRuns) := goodIn_app (goodIn_of _ (by decide +kernel)) ggX0_wayLeadsToIt_X0_countRuns
set_option maxRecDepth 20000 in
theorem ggX0_wayLeadsToIt_X0_stepsOfRun : GoodIn wsX0_wayLeadsToIt wsX0_stepsOfRun := goodIn_r _ [25, 7, 21, 17, 18, 19, 4, 20, 26, 27, 28, 29] (by decide +kernel) (by decide +kernel)
set_option maxRecDepth 20000 in
theorem gX0_wayLeadsToIt_X0_stepsOfRun : GoodIn wsX0_wayLeadsToIt (wsV RX0 70 RX0 yX0_stepsOfRun wsX0_stepsOfRun) := goodIn_app (goodIn_of _ (by decide +kernel)) ggX0_wayLeadsToIt_X0_stepsOfRun
set_option maxRecDepth 20000 in
theorem ggX0_wayLeadsToIt_X0_bottom : GoodIn wsX0_wayLeadsToIt wsX0_bottom := goodIn_r _ [15, 16, 7, 26, 27, 28, 29] (by decide +kernel) (by decide +kernel)
set_option maxRecDepth 20000 in
theorem gX0_wayLeadsToIt_X0_bottom : GoodIn wsX0_wayLeadsToIt (wsV RX0 32 RX0 yX0_bottom wsX0_bottom) := goodIn_app (goodIn_of _ (by decide +kernel)) ggX0_wayLeadsToIt_X0_bottom
theorem dX0_wayLeadsToIt_0 : decode cX0_wayLeadsToIt 0 = .ok (.aload_n 0, 1) := by decide +kernel
theorem dX0_wayLeadsToIt_1 : decode cX0_wayLeadsToIt 1 = .ok (.invokevirtual 25, 3) := by decide +kernel
theorem dX0_wayLeadsToIt_4 : decode cX0_wayLeadsToIt 4 = .ok (.ifCond .ne 5, 3) := by decide +kernel
theorem dX0_wayLeadsToIt_7 : decode cX0_wayLeadsToIt 7 = .ok (.iconst 1, 1) := by decide +kernel
theorem dX0_wayLeadsToIt_8 : decode cX0_wayLeadsToIt 8 = .ok (.ireturn, 1) := by decide +kernel
theorem dX0_wayLeadsToIt_9 : decode cX0_wayLeadsToIt 9 = .ok (.lconst 0, 1) := by decide +kernel
theorem dX0_wayLeadsToIt_10 : decode cX0_wayLeadsToIt 10 = .ok (.lstore_n 1, 1) := by decide +kernel
theorem dX0_wayLeadsToIt_11 : decode cX0_wayLeadsToIt 11 = .ok (.lconst 1, 1) := by decide +kernel
theorem dX0_wayLeadsToIt_12 : decode cX0_wayLeadsToIt 12 = .ok (.lstore_n 3, 1) := by decide +kernel
theorem dX0_wayLeadsToIt_13 : decode cX0_wayLeadsToIt 13 = .ok (.lconst 1, 1) := by decide +kernel
theorem dX0_wayLeadsToIt_14 : decode cX0_wayLeadsToIt 14 = .ok (.lstore 5, 2) := by decide +kernel
theorem dX0_wayLeadsToIt_16 : decode cX0_wayLeadsToIt 16 = .ok (.lconst 0, 1) := by decide +kernel
theorem dX0_wayLeadsToIt_17 : decode cX0_wayLeadsToIt 17 = .ok (.lstore 7, 2) := by decide +kernel
theorem dX0_wayLeadsToIt_19 : decode cX0_wayLeadsToIt 19 = .ok (.aload_n 0, 1) := by decide +kernel
theorem dX0_wayLeadsToIt_20 : decode cX0_wayLeadsToIt 20 = .ok (.invokevirtual 67, 3) := by decide +kernel
theorem dX0_wayLeadsToIt_23 : decode cX0_wayLeadsToIt 23 = .ok (.istore 9, 2) := by decide +kernel
theorem dX0_wayLeadsToIt_25 : decode cX0_wayLeadsToIt 25 = .ok (.iconst 0, 1) := by decide +kernel
theorem dX0_wayLeadsToIt_26 : decode cX0_wayLeadsToIt 26 = .ok (.istore 10, 2) := by decide +kernel
theorem dX0_wayLeadsToIt_28 : decode cX0_wayLeadsToIt 28 = .ok (.iload 10, 2) := by decide +kernel
theorem dX0_wayLeadsToIt_30 : decode cX0_wayLeadsToIt 30 = .ok (.iload 9, 2) := by decide +kernel
theorem dX0_wayLeadsToIt_32 : decode cX0_wayLeadsToIt 32 = .ok (.if_icmp .ge 63, 3) := by decide +kernel
theorem dX0_wayLeadsToIt_35 : decode cX0_wayLeadsToIt 35 = .ok (.aload_n 0, 1) := by decide +kernel
theorem dX0_wayLeadsToIt_36 : decode cX0_wayLeadsToIt 36 = .ok (.iload 10, 2) := by decide +kernel
theorem dX0_wayLeadsToIt_38 : decode cX0_wayLeadsToIt 38 = .ok (.invokevirtual 70, 3) := by decide +kernel
theorem dX0_wayLeadsToIt_41 : decode cX0_wayLeadsToIt 41 = .ok (.istore 11, 2) := by decide +kernel
theorem dX0_wayLeadsToIt_43 : decode cX0_wayLeadsToIt 43 = .ok (.iload 11, 2) := by decide +kernel
theorem dX0_wayLeadsToIt_45 : decode cX0_wayLeadsToIt 45 = .ok (.ifCond .le 24, 3) := by decide +kernel
theorem dX0_wayLeadsToIt_48 : decode cX0_wayLeadsToIt 48 = .ok (.lload_n 1, 1) := by decide +kernel
theorem dX0_wayLeadsToIt_49 : decode cX0_wayLeadsToIt 49 = .ok (.iload 11, 2) := by decide +kernel
theorem dX0_wayLeadsToIt_51 : decode cX0_wayLeadsToIt 51 = .ok (.i2l, 1) := by decide +kernel
theorem dX0_wayLeadsToIt_52 : decode cX0_wayLeadsToIt 52 = .ok (.lload 5, 2) := by decide +kernel
theorem dX0_wayLeadsToIt_54 : decode cX0_wayLeadsToIt 54 = .ok (.lmul, 1) := by decide +kernel
theorem dX0_wayLeadsToIt_55 : decode cX0_wayLeadsToIt 55 = .ok (.ladd, 1) := by decide +kernel
theorem dX0_wayLeadsToIt_56 : decode cX0_wayLeadsToIt 56 = .ok (.lstore_n 1, 1) := by decide +kernel
theorem dX0_wayLeadsToIt_57 : decode cX0_wayLeadsToIt 57 = .ok (.lload_n 3, 1) := by decide +kernel
theorem dX0_wayLeadsToIt_58 : decode cX0_wayLeadsToIt 58 = .ok (.iload 11, 2) := by decide +kernel
theorem dX0_wayLeadsToIt_60 : decode cX0_wayLeadsToIt 60 = .ok (.i2l, 1) := by decide +kernel
theorem dX0_wayLeadsToIt_61 : decode cX0_wayLeadsToIt 61 = .ok (.lload 7, 2) := by decide +kernel
theorem dX0_wayLeadsToIt_63 : decode cX0_wayLeadsToIt 63 = .ok (.lmul, 1) := by decide +kernel
theorem dX0_wayLeadsToIt_64 : decode cX0_wayLeadsToIt 64 = .ok (.ladd, 1) := by decide +kernel
theorem dX0_wayLeadsToIt_65 : decode cX0_wayLeadsToIt 65 = .ok (.lstore_n 3, 1) := by decide +kernel
theorem dX0_wayLeadsToIt_66 : decode cX0_wayLeadsToIt 66 = .ok (.goto 23, 3) := by decide +kernel
theorem dX0_wayLeadsToIt_69 : decode cX0_wayLeadsToIt 69 = .ok (.lload 5, 2) := by decide +kernel
theorem dX0_wayLeadsToIt_71 : decode cX0_wayLeadsToIt 71 = .ok (.iload 11, 2) := by decide +kernel
theorem dX0_wayLeadsToIt_73 : decode cX0_wayLeadsToIt 73 = .ok (.i2l, 1) := by decide +kernel
theorem dX0_wayLeadsToIt_74 : decode cX0_wayLeadsToIt 74 = .ok (.lload_n 1, 1) := by decide +kernel
theorem dX0_wayLeadsToIt_75 : decode cX0_wayLeadsToIt 75 = .ok (.lmul, 1) := by decide +kernel
theorem dX0_wayLeadsToIt_76 : decode cX0_wayLeadsToIt 76 = .ok (.lsub, 1) := by decide +kernel
theorem dX0_wayLeadsToIt_77 : decode cX0_wayLeadsToIt 77 = .ok (.lstore 5, 2) := by decide +kernel
theorem dX0_wayLeadsToIt_79 : decode cX0_wayLeadsToIt 79 = .ok (.lload 7, 2) := by decide +kernel
theorem dX0_wayLeadsToIt_81 : decode cX0_wayLeadsToIt 81 = .ok (.iload 11, 2) := by decide +kernel
theorem dX0_wayLeadsToIt_83 : decode cX0_wayLeadsToIt 83 = .ok (.i2l, 1) := by decide +kernel
theorem dX0_wayLeadsToIt_84 : decode cX0_wayLeadsToIt 84 = .ok (.lload_n 3, 1) := by decide +kernel
theorem dX0_wayLeadsToIt_85 : decode cX0_wayLeadsToIt 85 = .ok (.lmul, 1) := by decide +kernel
theorem dX0_wayLeadsToIt_86 : decode cX0_wayLeadsToIt 86 = .ok (.lsub, 1) := by decide +kernel
theorem dX0_wayLeadsToIt_87 : decode cX0_wayLeadsToIt 87 = .ok (.lstore 7, 2) := by decide +kernel
theorem dX0_wayLeadsToIt_89 : decode cX0_wayLeadsToIt 89 = .ok (.iinc 10 1, 3) := by decide +kernel
theorem dX0_wayLeadsToIt_92 : decode cX0_wayLeadsToIt 92 = .ok (.goto (-64), 3) := by decide +kernel
theorem dX0_wayLeadsToIt_95 : decode cX0_wayLeadsToIt 95 = .ok (.lload_n 1, 1) := by decide +kernel
theorem dX0_wayLeadsToIt_96 : decode cX0_wayLeadsToIt 96 = .ok (.lload 5, 2) := by decide +kernel
theorem dX0_wayLeadsToIt_98 : decode cX0_wayLeadsToIt 98 = .ok (.ladd, 1) := by decide +kernel
theorem dX0_wayLeadsToIt_99 : decode cX0_wayLeadsToIt 99 = .ok (.aload_n 0, 1) := by decide +kernel
theorem dX0_wayLeadsToIt_100 : decode cX0_wayLeadsToIt 100 = .ok (.invokevirtual 25, 3) := by decide +kernel
theorem dX0_wayLeadsToIt_103 : decode cX0_wayLeadsToIt 103 = .ok (.i2l, 1) := by decide +kernel
theorem dX0_wayLeadsToIt_104 : decode cX0_wayLeadsToIt 104 = .ok (.lcmp, 1) := by decide +kernel
theorem dX0_wayLeadsToIt_105 : decode cX0_wayLeadsToIt 105 = .ok (.ifCond .ne 20, 3) := by decide +kernel
theorem dX0_wayLeadsToIt_108 : decode cX0_wayLeadsToIt 108 = .ok (.lload_n 3, 1) := by decide +kernel
theorem dX0_wayLeadsToIt_109 : decode cX0_wayLeadsToIt 109 = .ok (.lload 7, 2) := by decide +kernel
theorem dX0_wayLeadsToIt_111 : decode cX0_wayLeadsToIt 111 = .ok (.ladd, 1) := by decide +kernel
theorem dX0_wayLeadsToIt_112 : decode cX0_wayLeadsToIt 112 = .ok (.aload_n 0, 1) := by decide +kernel
theorem dX0_wayLeadsToIt_113 : decode cX0_wayLeadsToIt 113 = .ok (.invokevirtual 32, 3) := by decide +kernel
theorem dX0_wayLeadsToIt_116 : decode cX0_wayLeadsToIt 116 = .ok (.i2l, 1) := by decide +kernel
theorem dX0_wayLeadsToIt_117 : decode cX0_wayLeadsToIt 117 = .ok (.lcmp, 1) := by decide +kernel
theorem dX0_wayLeadsToIt_118 : decode cX0_wayLeadsToIt 118 = .ok (.ifCond .ne 7, 3) := by decide +kernel
theorem dX0_wayLeadsToIt_121 : decode cX0_wayLeadsToIt 121 = .ok (.iconst 1, 1) := by decide +kernel
theorem dX0_wayLeadsToIt_122 : decode cX0_wayLeadsToIt 122 = .ok (.goto 4, 3) := by decide +kernel
theorem dX0_wayLeadsToIt_125 : decode cX0_wayLeadsToIt 125 = .ok (.iconst 0, 1) := by decide +kernel
theorem dX0_wayLeadsToIt_126 : decode cX0_wayLeadsToIt 126 = .ok (.ireturn, 1) := by decide +kernel
theorem dX1_init_0 : decode cX1_init 0 = .ok (.aload_n 0, 1) := by decide +kernel
theorem dX1_init_1 : decode cX1_init 1 = .ok (.invokespecial 1, 3) := by decide +kernel
theorem dX1_init_4 : decode cX1_init 4 = .ok (.aload_n 0, 1) := by decide +kernel
theorem dX1_init_5 : decode cX1_init 5 = .ok (.iload_n 1, 1) := by decide +kernel
theorem dX1_init_6 : decode cX1_init 6 = .ok (.putfield 7, 3) := by decide +kernel
theorem dX1_init_9 : decode cX1_init 9 = .ok (.aload_n 0, 1) := by decide +kernel
theorem dX1_init_10 : decode cX1_init 10 = .ok (.iload_n 2, 1) := by decide +kernel
theorem dX1_init_11 : decode cX1_init 11 = .ok (.putfield 13, 3) := by decide +kernel
theorem dX1_init_14 : decode cX1_init 14 = .ok (.return_, 1) := by decide +kernel
theorem dX2_init_0 : decode cX2_init 0 = .ok (.aload_n 0, 1) := by decide +kernel
theorem dX2_init_1 : decode cX2_init 1 = .ok (.invokespecial 3, 3) := by decide +kernel
theorem dX2_init_4 : decode cX2_init 4 = .ok (.aload_n 0, 1) := by decide +kernel
theorem dX2_init_5 : decode cX2_init 5 = .ok (.sipush 201, 3) := by decide +kernel
theorem dX2_init_8 : decode cX2_init 8 = .ok (.newarray .int, 2) := by decide +kernel
theorem dX2_init_10 : decode cX2_init 10 = .ok (.putfield 9, 3) := by decide +kernel
theorem dX2_init_13 : decode cX2_init 13 = .ok (.aload_n 0, 1) := by decide +kernel
theorem dX2_init_14 : decode cX2_init 14 = .ok (.getfield 9, 3) := by decide +kernel
theorem dX2_init_17 : decode cX2_init 17 = .ok (.iconst 1, 1) := by decide +kernel
theorem dX2_init_18 : decode cX2_init 18 = .ok (.iconst 1, 1) := by decide +kernel
theorem dX2_init_19 : decode cX2_init 19 = .ok (.iastore, 1) := by decide +kernel
theorem dX2_init_20 : decode cX2_init 20 = .ok (.iconst 1, 1) := by decide +kernel
theorem dX2_init_21 : decode cX2_init 21 = .ok (.istore_n 1, 1) := by decide +kernel
theorem dX2_init_22 : decode cX2_init 22 = .ok (.iload_n 1, 1) := by decide +kernel
theorem dX2_init_23 : decode cX2_init 23 = .ok (.sipush 200, 3) := by decide +kernel
theorem dX2_init_26 : decode cX2_init 26 = .ok (.if_icmp .gt 42, 3) := by decide +kernel
theorem dX2_init_29 : decode cX2_init 29 = .ok (.iconst 2, 1) := by decide +kernel
theorem dX2_init_30 : decode cX2_init 30 = .ok (.iload_n 1, 1) := by decide +kernel
theorem dX2_init_31 : decode cX2_init 31 = .ok (.imul, 1) := by decide +kernel
theorem dX2_init_32 : decode cX2_init 32 = .ok (.istore_n 2, 1) := by decide +kernel
theorem dX2_init_33 : decode cX2_init 33 = .ok (.iload_n 2, 1) := by decide +kernel
theorem dX2_init_34 : decode cX2_init 34 = .ok (.sipush 200, 3) := by decide +kernel
theorem dX2_init_37 : decode cX2_init 37 = .ok (.if_icmp .gt 25, 3) := by decide +kernel
theorem dX2_init_40 : decode cX2_init 40 = .ok (.aload_n 0, 1) := by decide +kernel
theorem dX2_init_41 : decode cX2_init 41 = .ok (.getfield 9, 3) := by decide +kernel
theorem dX2_init_44 : decode cX2_init 44 = .ok (.iload_n 2, 1) := by decide +kernel
theorem dX2_init_45 : decode cX2_init 45 = .ok (.dup2, 1) := by decide +kernel
theorem dX2_init_46 : decode cX2_init 46 = .ok (.iaload, 1) := by decide +kernel
theorem dX2_init_47 : decode cX2_init 47 = .ok (.aload_n 0, 1) := by decide +kernel
theorem dX2_init_48 : decode cX2_init 48 = .ok (.getfield 9, 3) := by decide +kernel
theorem dX2_init_51 : decode cX2_init 51 = .ok (.iload_n 1, 1) := by decide +kernel
theorem dX2_init_52 : decode cX2_init 52 = .ok (.iaload, 1) := by decide +kernel
theorem dX2_init_53 : decode cX2_init 53 = .ok (.isub, 1) := by decide +kernel
theorem dX2_init_54 : decode cX2_init 54 = .ok (.iastore, 1) := by decide +kernel
theorem dX2_init_55 : decode cX2_init 55 = .ok (.iload_n 2, 1) := by decide +kernel
theorem dX2_init_56 : decode cX2_init 56 = .ok (.iload_n 1, 1) := by decide +kernel
theorem dX2_init_57 : decode cX2_init 57 = .ok (.iadd, 1) := by decide +kernel
theorem dX2_init_58 : decode cX2_init 58 = .ok (.istore_n 2, 1) := by decide +kernel
theorem dX2_init_59 : decode cX2_init 59 = .ok (.goto (-26), 3) := by decide +kernel
theorem dX2_init_62 : decode cX2_init 62 = .ok (.iinc 1 1, 3) := by decide +kernel
theorem dX2_init_65 : decode cX2_init 65 = .ok (.goto (-43), 3) := by decide +kernel
theorem dX2_init_68 : decode cX2_init 68 = .ok (.iconst 2, 1) := by decide +kernel
theorem dX2_init_69 : decode cX2_init 69 = .ok (.istore_n 1, 1) := by decide +kernel
theorem dX2_init_70 : decode cX2_init 70 = .ok (.iload_n 1, 1) := by decide +kernel
theorem dX2_init_71 : decode cX2_init 71 = .ok (.sipush 200, 3) := by decide +kernel
theorem dX2_init_74 : decode cX2_init 74 = .ok (.if_icmp .gt 26, 3) := by decide +kernel
theorem dX2_init_77 : decode cX2_init 77 = .ok (.aload_n 0, 1) := by decide +kernel
theorem dX2_init_78 : decode cX2_init 78 = .ok (.getfield 9, 3) := by decide +kernel
theorem dX2_init_81 : decode cX2_init 81 = .ok (.iload_n 1, 1) := by decide +kernel
theorem dX2_init_82 : decode cX2_init 82 = .ok (.dup2, 1) := by decide +kernel
theorem dX2_init_83 : decode cX2_init 83 = .ok (.iaload, 1) := by decide +kernel
theorem dX2_init_84 : decode cX2_init 84 = .ok (.aload_n 0, 1) := by decide +kernel
theorem dX2_init_85 : decode cX2_init 85 = .ok (.getfield 9, 3) := by decide +kernel
theorem dX2_init_88 : decode cX2_init 88 = .ok (.iload_n 1, 1) := by decide +kernel
theorem dX2_init_89 : decode cX2_init 89 = .ok (.iconst 1, 1) := by decide +kernel
theorem dX2_init_90 : decode cX2_init 90 = .ok (.isub, 1) := by decide +kernel
theorem dX2_init_91 : decode cX2_init 91 = .ok (.iaload, 1) := by decide +kernel
theorem dX2_init_92 : decode cX2_init 92 = .ok (.iadd, 1) := by decide +kernel
theorem dX2_init_93 : decode cX2_init 93 = .ok (.iastore, 1) := by decide +kernel
theorem dX2_init_94 : decode cX2_init 94 = .ok (.iinc 1 1, 3) := by decide +kernel
theorem dX2_init_97 : decode cX2_init 97 = .ok (.goto (-27), 3) := by decide +kernel
theorem dX2_init_100 : decode cX2_init 100 = .ok (.return_, 1) := by decide +kernel
set_option maxRecDepth 20000 in
theorem ggX2_countAll_X2_countInside : GoodIn wsX2_countAll wsX2_countInside := goodIn_r _ [5, 6, 7, 8, 9, 10, 11] (by decide +kernel) (by decide +kernel)
set_option maxRecDepth 20000 in
theorem gX2_countAll_X2_countInside : GoodIn wsX2_countAll (wsV RX2 15 RX2 yX2_countInside wsX2_countInside) := goodIn_app (goodIn_of _ (by decide +kernel)) ggX2_countAll_X2_countInside
theorem dX2_countAll_0 : decode cX2_countAll 0 = .ok (.aload_n 0, 1) := by decide +kernel
theorem dX2_countAll_1 : decode cX2_countAll 1 = .ok (.iload_n 1, 1) := by decide +kernel
theorem dX2_countAll_2 : decode cX2_countAll 2 = .ok (.iconst 1, 1) := by decide +kernel
theorem dX2_countAll_3 : decode cX2_countAll 3 = .ok (.iconst 1, 1) := by decide +kernel
theorem dX2_countAll_4 : decode cX2_countAll 4 = .ok (.invokevirtual 15, 3) := by decide +kernel
theorem dX2_countAll_7 : decode cX2_countAll 7 = .ok (.iconst 2, 1) := by decide +kernel
theorem dX2_countAll_8 : decode cX2_countAll 8 = .ok (.iadd, 1) := by decide +kernel
theorem dX2_countAll_9 : decode cX2_countAll 9 = .ok (.ireturn, 1) := by decide +kernel
set_option maxRecDepth 20000 in
theorem ggX2_countBelow_X2_countAll : GoodIn wsX2_countBelow wsX2_countAll := goodIn_r _ [5, 6, 7, 8, 4, 9, 10, 11, 12, 13, 14, 15] (by decide +kernel) (by decide +kernel)
set_option maxRecDepth 20000 in
theorem gX2_countBelow_X2_countAll : GoodIn wsX2_countBelow (wsV RX2 19 RX2 yX2_countAll wsX2_countAll) := goodIn_app (goodIn_of _ (by decide +kernel)) ggX2_countBelow_X2_countAll
set_option maxRecDepth 20000 in
theorem ggX2_countBelow_X2_countInside : GoodIn wsX2_countBelow wsX2_countInside := goodIn_r _ [9, 10, 11, 12, 13, 14, 15] (by decide +kernel) (by decide +kernel)
set_option maxRecDepth 20000 in
theorem gX2_countBelow_X2_countInside : GoodIn wsX2_countBelow (wsV RX2 15 RX2 yX2_countInside wsX2_countInside) := goodIn_app (goodIn_of _ (by decide +kernel)) ggX2_countBelow_X2_countInside
theorem dX2_countBelow_0 : decode cX2_countBelow 0 = .ok (.iload_n 2, 1) := by decide +kernel
theorem dX2_countBelow_1 : decode cX2_countBelow 1 = .ok (.ifCond .ne 5, 3) := by decide +kernel
theorem dX2_countBelow_4 : decode cX2_countBelow 4 = .ok (.iconst 0, 1) := by decide +kernel
theorem dX2_countBelow_5 : decode cX2_countBelow 5 = .ok (.ireturn, 1) := by decide +kernel
theorem dX2_countBelow_6 : decode cX2_countBelow 6 = .ok (.iload_n 2, 1) := by decide +kernel
theorem dX2_countBelow_7 : decode cX2_countBelow 7 = .ok (.iload_n 3, 1) := by decide +kernel
theorem dX2_countBelow_8 : decode cX2_countBelow 8 = .ok (.if_icmp .le 11, 3) := by decide +kernel
theorem dX2_countBelow_11 : decode cX2_countBelow 11 = .ok (.aload_n 0, 1) := by decide +kernel
theorem dX2_countBelow_12 : decode cX2_countBelow 12 = .ok (.iload_n 1, 1) := by decide +kernel
theorem dX2_countBelow_13 : decode cX2_countBelow 13 = .ok (.invokevirtual 19, 3) := by decide +kernel
theorem dX2_countBelow_16 : decode cX2_countBelow 16 = .ok (.goto 12, 3) := by decide +kernel
theorem dX2_countBelow_19 : decode cX2_countBelow 19 = .ok (.aload_n 0, 1) := by decide +kernel
theorem dX2_countBelow_20 : decode cX2_countBelow 20 = .ok (.iload_n 1, 1) := by decide +kernel
theorem dX2_countBelow_21 : decode cX2_countBelow 21 = .ok (.iload_n 2, 1) := by decide +kernel
theorem dX2_countBelow_22 : decode cX2_countBelow 22 = .ok (.iload_n 3, 1) := by decide +kernel
theorem dX2_countBelow_23 : decode cX2_countBelow 23 = .ok (.invokevirtual 15, 3) := by decide +kernel
theorem dX2_countBelow_26 : decode cX2_countBelow 26 = .ok (.iconst 1, 1) := by decide +kernel
theorem dX2_countBelow_27 : decode cX2_countBelow 27 = .ok (.iadd, 1) := by decide +kernel
theorem dX2_countBelow_28 : decode cX2_countBelow 28 = .ok (.ireturn, 1) := by decide +kernel
theorem dX2_countInside_0 : decode cX2_countInside 0 = .ok (.lconst 0, 1) := by decide +kernel
theorem dX2_countInside_1 : decode cX2_countInside 1 = .ok (.lstore 4, 2) := by decide +kernel
theorem dX2_countInside_3 : decode cX2_countInside 3 = .ok (.iconst 1, 1) := by decide +kernel
theorem dX2_countInside_4 : decode cX2_countInside 4 = .ok (.istore 6, 2) := by decide +kernel
theorem dX2_countInside_6 : decode cX2_countInside 6 = .ok (.iconst 0, 1) := by decide +kernel
theorem dX2_countInside_7 : decode cX2_countInside 7 = .ok (.istore 7, 2) := by decide +kernel
theorem dX2_countInside_9 : decode cX2_countInside 9 = .ok (.iload 7, 2) := by decide +kernel
theorem dX2_countInside_11 : decode cX2_countInside 11 = .ok (.sipush 200, 3) := by decide +kernel
theorem dX2_countInside_14 : decode cX2_countInside 14 = .ok (.if_icmp .ge 80, 3) := by decide +kernel
theorem dX2_countInside_17 : decode cX2_countInside 17 = .ok (.iload 6, 2) := by decide +kernel
theorem dX2_countInside_19 : decode cX2_countInside 19 = .ok (.iload_n 1, 1) := by decide +kernel
theorem dX2_countInside_20 : decode cX2_countInside 20 = .ok (.if_icmp .gt 74, 3) := by decide +kernel
theorem dX2_countInside_23 : decode cX2_countInside 23 = .ok (.iload_n 1, 1) := by decide +kernel
theorem dX2_countInside_24 : decode cX2_countInside 24 = .ok (.iload 6, 2) := by decide +kernel
theorem dX2_countInside_26 : decode cX2_countInside 26 = .ok (.idiv, 1) := by decide +kernel
theorem dX2_countInside_27 : decode cX2_countInside 27 = .ok (.istore 8, 2) := by decide +kernel
theorem dX2_countInside_29 : decode cX2_countInside 29 = .ok (.iload 8, 2) := by decide +kernel
theorem dX2_countInside_31 : decode cX2_countInside 31 = .ok (.ifCond .le 10, 3) := by decide +kernel
theorem dX2_countInside_34 : decode cX2_countInside 34 = .ok (.iload_n 1, 1) := by decide +kernel
theorem dX2_countInside_35 : decode cX2_countInside 35 = .ok (.iload 8, 2) := by decide +kernel
theorem dX2_countInside_37 : decode cX2_countInside 37 = .ok (.idiv, 1) := by decide +kernel
theorem dX2_countInside_38 : decode cX2_countInside 38 = .ok (.goto 4, 3) := by decide +kernel
theorem dX2_countInside_41 : decode cX2_countInside 41 = .ok (.iload_n 1, 1) := by decide +kernel
theorem dX2_countInside_42 : decode cX2_countInside 42 = .ok (.istore 9, 2) := by decide +kernel
theorem dX2_countInside_44 : decode cX2_countInside 44 = .ok (.lload 4, 2) := by decide +kernel
theorem dX2_countInside_46 : decode cX2_countInside 46 = .ok (.aload_n 0, 1) := by decide +kernel
theorem dX2_countInside_47 : decode cX2_countInside 47 = .ok (.getfield 9, 3) := by decide +kernel
theorem dX2_countInside_50 : decode cX2_countInside 50 = .ok (.iload 9, 2) := by decide +kernel
theorem dX2_countInside_52 : decode cX2_countInside 52 = .ok (.iaload, 1) := by decide +kernel
theorem dX2_countInside_53 : decode cX2_countInside 53 = .ok (.aload_n 0, 1) := by decide +kernel
theorem dX2_countInside_54 : decode cX2_countInside 54 = .ok (.getfield 9, 3) := by decide +kernel
theorem dX2_countInside_57 : decode cX2_countInside 57 = .ok (.iload 6, 2) := by decide +kernel
theorem dX2_countInside_59 : decode cX2_countInside 59 = .ok (.iconst 1, 1) := by decide +kernel
theorem dX2_countInside_60 : decode cX2_countInside 60 = .ok (.isub, 1) := by decide +kernel
theorem dX2_countInside_61 : decode cX2_countInside 61 = .ok (.iaload, 1) := by decide +kernel
theorem dX2_countInside_62 : decode cX2_countInside 62 = .ok (.isub, 1) := by decide +kernel
theorem dX2_countInside_63 : decode cX2_countInside 63 = .ok (.i2l, 1) := by decide +kernel
theorem dX2_countInside_64 : decode cX2_countInside 64 = .ok (.iload 8, 2) := by decide +kernel
theorem dX2_countInside_66 : decode cX2_countInside 66 = .ok (.i2l, 1) := by decide +kernel
theorem dX2_countInside_67 : decode cX2_countInside 67 = .ok (.iload_n 2, 1) := by decide +kernel
theorem dX2_countInside_68 : decode cX2_countInside 68 = .ok (.i2l, 1) := by decide +kernel
theorem dX2_countInside_69 : decode cX2_countInside 69 = .ok (.iload_n 2, 1) := by decide +kernel
theorem dX2_countInside_70 : decode cX2_countInside 70 = .ok (.iconst 1, 1) := by decide +kernel
theorem dX2_countInside_71 : decode cX2_countInside 71 = .ok (.isub, 1) := by decide +kernel
theorem dX2_countInside_72 : decode cX2_countInside 72 = .ok (.i2l, 1) := by decide +kernel
theorem dX2_countInside_73 : decode cX2_countInside 73 = .ok (.iload_n 3, 1) := by decide +kernel
theorem dX2_countInside_74 : decode cX2_countInside 74 = .ok (.i2l, 1) := by decide +kernel
theorem dX2_countInside_75 : decode cX2_countInside 75 = .ok (.invokestatic 23, 3) := by decide +kernel
theorem dX2_countInside_78 : decode cX2_countInside 78 = .ok (.lmul, 1) := by decide +kernel
theorem dX2_countInside_79 : decode cX2_countInside 79 = .ok (.ladd, 1) := by decide +kernel
theorem dX2_countInside_80 : decode cX2_countInside 80 = .ok (.lstore 4, 2) := by decide +kernel
theorem dX2_countInside_82 : decode cX2_countInside 82 = .ok (.iload 9, 2) := by decide +kernel
theorem dX2_countInside_84 : decode cX2_countInside 84 = .ok (.iconst 1, 1) := by decide +kernel
theorem dX2_countInside_85 : decode cX2_countInside 85 = .ok (.iadd, 1) := by decide +kernel
theorem dX2_countInside_86 : decode cX2_countInside 86 = .ok (.istore 6, 2) := by decide +kernel
theorem dX2_countInside_88 : decode cX2_countInside 88 = .ok (.iinc 7 1, 3) := by decide +kernel
theorem dX2_countInside_91 : decode cX2_countInside 91 = .ok (.goto (-82), 3) := by decide +kernel
theorem dX2_countInside_94 : decode cX2_countInside 94 = .ok (.lload 4, 2) := by decide +kernel
theorem dX2_countInside_96 : decode cX2_countInside 96 = .ok (.l2i, 1) := by decide +kernel
theorem dX2_countInside_97 : decode cX2_countInside 97 = .ok (.ireturn, 1) := by decide +kernel
set_option maxRecDepth 20000 in
theorem ggX2_columnOf_X2_countBelow : GoodIn wsX2_columnOf wsX2_countBelow := goodIn_r _ [5, 6, 7, 8, 4, 9, 10, 11, 12, 13, 14, 15, 16, 17, 18, 19] (by decide +kernel) (by decide +kernel)
set_option maxRecDepth 20000 in
theorem gX2_columnOf_X2_countBelow : GoodIn wsX2_columnOf (wsV RX2 27 RX2 yX2_countBelow wsX2_countBelow) := goodIn_app (goodIn_of _ (by decide +kernel)) ggX2_columnOf_X2_countBelow
theorem dX2_columnOf_0 : decode cX2_columnOf 0 = .ok (.iconst 0, 1) := by decide +kernel
theorem dX2_columnOf_1 : decode cX2_columnOf 1 = .ok (.istore_n 3, 1) := by decide +kernel
theorem dX2_columnOf_2 : decode cX2_columnOf 2 = .ok (.iload_n 1, 1) := by decide +kernel
theorem dX2_columnOf_3 : decode cX2_columnOf 3 = .ok (.iconst 1, 1) := by decide +kernel
theorem dX2_columnOf_4 : decode cX2_columnOf 4 = .ok (.iadd, 1) := by decide +kernel
theorem dX2_columnOf_5 : decode cX2_columnOf 5 = .ok (.istore 4, 2) := by decide +kernel
theorem dX2_columnOf_7 : decode cX2_columnOf 7 = .ok (.iconst 0, 1) := by decide +kernel
theorem dX2_columnOf_8 : decode cX2_columnOf 8 = .ok (.istore 5, 2) := by decide +kernel
theorem dX2_columnOf_10 : decode cX2_columnOf 10 = .ok (.iload 5, 2) := by decide +kernel
theorem dX2_columnOf_12 : decode cX2_columnOf 12 = .ok (.bipush 64, 2) := by decide +kernel
theorem dX2_columnOf_14 : decode cX2_columnOf 14 = .ok (.if_icmp .ge 47, 3) := by decide +kernel
theorem dX2_columnOf_17 : decode cX2_columnOf 17 = .ok (.iload 4, 2) := by decide +kernel
theorem dX2_columnOf_19 : decode cX2_columnOf 19 = .ok (.iload_n 3, 1) := by decide +kernel
theorem dX2_columnOf_20 : decode cX2_columnOf 20 = .ok (.isub, 1) := by decide +kernel
theorem dX2_columnOf_21 : decode cX2_columnOf 21 = .ok (.iconst 1, 1) := by decide +kernel
theorem dX2_columnOf_22 : decode cX2_columnOf 22 = .ok (.if_icmp .le 39, 3) := by decide +kernel
theorem dX2_columnOf_25 : decode cX2_columnOf 25 = .ok (.iload_n 3, 1) := by decide +kernel
theorem dX2_columnOf_26 : decode cX2_columnOf 26 = .ok (.iload 4, 2) := by decide +kernel
theorem dX2_columnOf_28 : decode cX2_columnOf 28 = .ok (.iadd, 1) := by decide +kernel
theorem dX2_columnOf_29 : decode cX2_columnOf 29 = .ok (.iconst 2, 1) := by decide +kernel
theorem dX2_columnOf_30 : decode cX2_columnOf 30 = .ok (.idiv, 1) := by decide +kernel
theorem dX2_columnOf_31 : decode cX2_columnOf 31 = .ok (.istore 6, 2) := by decide +kernel
theorem dX2_columnOf_33 : decode cX2_columnOf 33 = .ok (.aload_n 0, 1) := by decide +kernel
theorem dX2_columnOf_34 : decode cX2_columnOf 34 = .ok (.iload_n 1, 1) := by decide +kernel
theorem dX2_columnOf_35 : decode cX2_columnOf 35 = .ok (.iload 6, 2) := by decide +kernel
theorem dX2_columnOf_37 : decode cX2_columnOf 37 = .ok (.iload_n 1, 1) := by decide +kernel
theorem dX2_columnOf_38 : decode cX2_columnOf 38 = .ok (.invokevirtual 27, 3) := by decide +kernel
theorem dX2_columnOf_41 : decode cX2_columnOf 41 = .ok (.iload_n 2, 1) := by decide +kernel
theorem dX2_columnOf_42 : decode cX2_columnOf 42 = .ok (.if_icmp .gt 9, 3) := by decide +kernel
theorem dX2_columnOf_45 : decode cX2_columnOf 45 = .ok (.iload 6, 2) := by decide +kernel
theorem dX2_columnOf_47 : decode cX2_columnOf 47 = .ok (.istore_n 3, 1) := by decide +kernel
theorem dX2_columnOf_48 : decode cX2_columnOf 48 = .ok (.goto 7, 3) := by decide +kernel
theorem dX2_columnOf_51 : decode cX2_columnOf 51 = .ok (.iload 6, 2) := by decide +kernel
theorem dX2_columnOf_53 : decode cX2_columnOf 53 = .ok (.istore 4, 2) := by decide +kernel
theorem dX2_columnOf_55 : decode cX2_columnOf 55 = .ok (.iinc 5 1, 3) := by decide +kernel
theorem dX2_columnOf_58 : decode cX2_columnOf 58 = .ok (.goto (-48), 3) := by decide +kernel
theorem dX2_columnOf_61 : decode cX2_columnOf 61 = .ok (.iload_n 3, 1) := by decide +kernel
theorem dX2_columnOf_62 : decode cX2_columnOf 62 = .ok (.ireturn, 1) := by decide +kernel
theorem dX2_bottomBehind_0 : decode cX2_bottomBehind 0 = .ok (.iload_n 0, 1) := by decide +kernel
theorem dX2_bottomBehind_1 : decode cX2_bottomBehind 1 = .ok (.istore_n 3, 1) := by decide +kernel
theorem dX2_bottomBehind_2 : decode cX2_bottomBehind 2 = .ok (.iload_n 3, 1) := by decide +kernel
theorem dX2_bottomBehind_3 : decode cX2_bottomBehind 3 = .ok (.iload_n 0, 1) := by decide +kernel
theorem dX2_bottomBehind_4 : decode cX2_bottomBehind 4 = .ok (.iload_n 2, 1) := by decide +kernel
theorem dX2_bottomBehind_5 : decode cX2_bottomBehind 5 = .ok (.isub, 1) := by decide +kernel
theorem dX2_bottomBehind_6 : decode cX2_bottomBehind 6 = .ok (.if_icmp .le 25, 3) := by decide +kernel
theorem dX2_bottomBehind_9 : decode cX2_bottomBehind 9 = .ok (.iload_n 2, 1) := by decide +kernel
theorem dX2_bottomBehind_10 : decode cX2_bottomBehind 10 = .ok (.ifCond .le 21, 3) := by decide +kernel
theorem dX2_bottomBehind_13 : decode cX2_bottomBehind 13 = .ok (.iload_n 1, 1) := by decide +kernel
theorem dX2_bottomBehind_14 : decode cX2_bottomBehind 14 = .ok (.iload_n 3, 1) := by decide +kernel
theorem dX2_bottomBehind_15 : decode cX2_bottomBehind 15 = .ok (.imul, 1) := by decide +kernel
theorem dX2_bottomBehind_16 : decode cX2_bottomBehind 16 = .ok (.iconst 1, 1) := by decide +kernel
theorem dX2_bottomBehind_17 : decode cX2_bottomBehind 17 = .ok (.iadd, 1) := by decide +kernel
theorem dX2_bottomBehind_18 : decode cX2_bottomBehind 18 = .ok (.iload_n 2, 1) := by decide +kernel
theorem dX2_bottomBehind_19 : decode cX2_bottomBehind 19 = .ok (.irem, 1) := by decide +kernel
theorem dX2_bottomBehind_20 : decode cX2_bottomBehind 20 = .ok (.ifCond .ne 5, 3) := by decide +kernel
theorem dX2_bottomBehind_23 : decode cX2_bottomBehind 23 = .ok (.iload_n 3, 1) := by decide +kernel
theorem dX2_bottomBehind_24 : decode cX2_bottomBehind 24 = .ok (.ireturn, 1) := by decide +kernel
theorem dX2_bottomBehind_25 : decode cX2_bottomBehind 25 = .ok (.iinc 3 (-1), 3) := by decide +kernel
theorem dX2_bottomBehind_28 : decode cX2_bottomBehind 28 = .ok (.goto (-26), 3) := by decide +kernel
theorem dX2_bottomBehind_31 : decode cX2_bottomBehind 31 = .ok (.iload_n 0, 1) := by decide +kernel
theorem dX2_bottomBehind_32 : decode cX2_bottomBehind 32 = .ok (.ireturn, 1) := by decide +kernel
