abbrev cX4_init : ByteArray := prog_6_method_1_code
def yX4_init : MethodName := ⟨RX4, "<init>", "()V"⟩
abbrev cX4_thrown : ByteArray := prog_6_method_2_code
def yX4_thrown : MethodName := ⟨RX4, "thrown", "()I"⟩
abbrev cX4_common : ByteArray := prog_6_method_3_code
def yX4_common : MethodName := ⟨RX4, "common", "(JJ)J"⟩
abbrev cX4_in : ByteArray := prog_6_method_4_code
def yX4_in : MethodName := ⟨RX4, "in", "(JJJ)Z"⟩
abbrev cX4_become : ByteArray := prog_6_method_5_code
def yX4_become : MethodName := ⟨RX4, "become", "(JJ)V"⟩
abbrev cX4_take : ByteArray := prog_6_method_6_code
def yX4_take : MethodName := ⟨RX4, "take", "(II)V"⟩
abbrev cX4_part : ByteArray := prog_6_method_7_code
def yX4_part : MethodName := ⟨RX4, "part", "(I)I"⟩
abbrev cX4_findTerms : ByteArray := prog_6_method_8_code
def yX4_findTerms : MethodName := ⟨RX4, "findTerms", "()V"⟩
abbrev cX4_terms : ByteArray := prog_6_method_9_code
def yX4_terms : MethodName := ⟨RX4, "terms", "()I"⟩
abbrev cX4_term : ByteArray := prog_6_method_10_code
def yX4_term : MethodName := ⟨RX4, "term", "(I)I"⟩
abbrev cX4_convergent : ByteArray := prog_6_method_11_code
def yX4_convergent : MethodName := ⟨RX4, "convergent", "(II)I"⟩
abbrev cX4_walk : ByteArray := prog_6_method_12_code
def yX4_walk : MethodName := ⟨RX4, "walk", "()V"⟩
abbrev cX4_steps : ByteArray := prog_6_method_13_code
def yX4_steps : MethodName := ⟨RX4, "steps", "(JJ)J"⟩
abbrev cX4_way : ByteArray := prog_6_method_14_code
def yX4_way : MethodName := ⟨RX4, "way", "(I)I"⟩
abbrev cX4_run : ByteArray := prog_6_method_15_code
def yX4_run : MethodName := ⟨RX4, "run", "(I)I"⟩
abbrev cX4_go : ByteArray := prog_6_method_16_code
def yX4_go : MethodName := ⟨RX4, "go", "(II)I"⟩
abbrev cX4_up : ByteArray := prog_6_method_17_code
def yX4_up : MethodName := ⟨RX4, "up", "()I"⟩
abbrev cX4_near : ByteArray := prog_6_method_18_code
def yX4_near : MethodName := ⟨RX4, "near", "(III)I"⟩
abbrev cX4_between : ByteArray := prog_6_method_19_code
def yX4_between : MethodName := ⟨RX4, "between", "(IIII)I"⟩
abbrev cX4_row : ByteArray := prog_6_method_20_code
def yX4_row : MethodName := ⟨RX4, "row", "(I)I"⟩
abbrev cX4_pick : ByteArray := prog_6_method_21_code
def yX4_pick : MethodName := ⟨RX4, "pick", "(II)I"⟩
abbrev cX4_place : ByteArray := prog_6_method_22_code
def yX4_place : MethodName := ⟨RX4, "place", "(I)I"⟩
abbrev cX4_floors : ByteArray := prog_6_method_23_code
def yX4_floors : MethodName := ⟨RX4, "floors", "(I)J"⟩
abbrev cX4_sawteeth : ByteArray := prog_6_method_24_code
def yX4_sawteeth : MethodName := ⟨RX4, "sawteeth", "()J"⟩
abbrev cX4_check : ByteArray := prog_6_method_25_code
def yX4_check : MethodName := ⟨RX4, "check", "()I"⟩
def wsX4_init : List Cond := .code yX4_init cX4_init 1 none :: ([.methodLink RX4 1 objectInit, .instanceMethod objectInit, .code objectInit ⟨#[0xb1]⟩ 1 none, .fieldLink RX4 7 "SternDeskModel" "top" "I", .fieldLink RX4 13 "SternDeskModel" "bottom" "I", .arrayClass .int, .fieldLink RX4 16 "SternDeskModel" "terms" "[I", .fieldLink RX4 20 "SternDeskModel" "run" "[I"] ++ wsX40)
def wsX4_thrown : List Cond := .code yX4_thrown cX4_thrown 1 (some .int) :: ([.fieldLink RX4 23 "SternDeskModel" "thrown" "I"] ++ wsX40)
def wsX4_common : List Cond := .code yX4_common cX4_common 10 (some .long) :: ([])
def wsX4_in : List Cond := .code yX4_in cX4_in 6 (some .boolean) :: ([])
def wsX4_become : List Cond := .code yX4_become cX4_become 7 none :: ([.fieldLink RX4 7 "SternDeskModel" "top" "I", .fieldLink RX4 13 "SternDeskModel" "bottom" "I", .methodLink RX4 26 yX4_common, .static yX4_common, .initialized RX4, .code yX4_common cX4_common 10 (some .long)] ++ wsX40)
def wsX4_take : List Cond := .code yX4_take cX4_take 3 none :: ([.constantLong RX4 30 (100000), .fieldLink RX4 23 "SternDeskModel" "thrown" "I", .methodLink RX4 32 yX4_in, .static yX4_in, .initialized RX4, .code yX4_in cX4_in 6 (some .boolean), .methodLink RX4 36 yX4_become, .instanceMethod yX4_become, .selects RX4 yX4_become yX4_become, .code yX4_become cX4_become 7 none, .fieldLink RX4 7 "SternDeskModel" "top" "I", .fieldLink RX4 13 "SternDeskModel" "bottom" "I", .methodLink RX4 26 yX4_common, .static yX4_common, .code yX4_common cX4_common 10 (some .long)] ++ wsX40)
def wsX4_part : List Cond := .code yX4_part cX4_part 2 (some .int) :: ([.fieldLink RX4 23 "SternDeskModel" "thrown" "I", .fieldLink RX4 7 "SternDeskModel" "top" "I", .fieldLink RX4 13 "SternDeskModel" "bottom" "I"] ++ wsX40)
def wsX4_findTerms : List Cond := .code yX4_findTerms cX4_findTerms 4 none :: ([.fieldLink RX4 40 "SternDeskModel" "many" "I", .fieldLink RX4 7 "SternDeskModel" "top" "I", .fieldLink RX4 13 "SternDeskModel" "bottom" "I", .fieldLink RX4 16 "SternDeskModel" "terms" "[I"] ++ wsX40)
def wsX4_terms : List Cond := .code yX4_terms cX4_terms 1 (some .int) :: ([.fieldLink RX4 23 "SternDeskModel" "thrown" "I", .fieldLink RX4 40 "SternDeskModel" "many" "I", .methodLink RX4 43 yX4_findTerms, .instanceMethod yX4_findTerms, .selects RX4 yX4_findTerms yX4_findTerms, .initialized RX4, .code yX4_findTerms cX4_findTerms 4 none, .fieldLink RX4 7 "SternDeskModel" "top" "I", .fieldLink RX4 13 "SternDeskModel" "bottom" "I", .fieldLink RX4 16 "SternDeskModel" "terms" "[I"] ++ wsX40)
def wsX4_term : List Cond := .code yX4_term cX4_term 2 (some .int) :: ([.fieldLink RX4 23 "SternDeskModel" "thrown" "I", .fieldLink RX4 40 "SternDeskModel" "many" "I", .fieldLink RX4 16 "SternDeskModel" "terms" "[I", .methodLink RX4 43 yX4_findTerms, .instanceMethod yX4_findTerms, .selects RX4 yX4_findTerms yX4_findTerms, .initialized RX4, .code yX4_findTerms cX4_findTerms 4 none, .fieldLink RX4 7 "SternDeskModel" "top" "I", .fieldLink RX4 13 "SternDeskModel" "bottom" "I"] ++ wsX40)
def wsX4_convergent : List Cond := .code yX4_convergent cX4_convergent 10 (some .int) :: ([.fieldLink RX4 23 "SternDeskModel" "thrown" "I", .fieldLink RX4 40 "SternDeskModel" "many" "I", .fieldLink RX4 16 "SternDeskModel" "terms" "[I", .methodLink RX4 43 yX4_findTerms, .instanceMethod yX4_findTerms, .selects RX4 yX4_findTerms yX4_findTerms, .initialized RX4, .code yX4_findTerms cX4_findTerms 4 none, .fieldLink RX4 7 "SternDeskModel" "top" "I", .fieldLink RX4 13 "SternDeskModel" "bottom" "I", .methodLink RX4 26 yX4_common, .static yX4_common, .code yX4_common cX4_common 10 (some .long)] ++ wsX40)
def wsX4_steps : List Cond := .code yX4_steps cX4_steps 4 (some .long) :: ([])
def wsX4_walk : List Cond := .code yX4_walk cX4_walk 10 none :: ([.fieldLink RX4 46 "SternDeskModel" "runs" "I", .fieldLink RX4 49 "SternDeskModel" "lowTop" "J", .fieldLink RX4 53 "SternDeskModel" "lowBottom" "J", .fieldLink RX4 56 "SternDeskModel" "highTop" "J", .fieldLink RX4 59 "SternDeskModel" "highBottom" "J", .fieldLink RX4 7 "SternDeskModel" "top" "I", .fieldLink RX4 13 "SternDeskModel" "bottom" "I", .fieldLink RX4 20 "SternDeskModel" "run" "[I", .methodLink RX4 62 yX4_steps, .static yX4_steps, .initialized RX4, .code yX4_steps cX4_steps 4 (some .long)] ++ wsX40)
def wsX4_way : List Cond := .code yX4_way cX4_way 4 (some .int) :: ([.fieldLink RX4 23 "SternDeskModel" "thrown" "I", .fieldLink RX4 7 "SternDeskModel" "top" "I", .fieldLink RX4 46 "SternDeskModel" "runs" "I", .fieldLink RX4 20 "SternDeskModel" "run" "[I", .methodLink RX4 65 yX4_walk, .instanceMethod yX4_walk, .selects RX4 yX4_walk yX4_walk, .initialized RX4, .code yX4_walk cX4_walk 10 none, .fieldLink RX4 49 "SternDeskModel" "lowTop" "J", .fieldLink RX4 53 "SternDeskModel" "lowBottom" "J", .fieldLink RX4 56 "SternDeskModel" "highTop" "J", .fieldLink RX4 59 "SternDeskModel" "highBottom" "J", .fieldLink RX4 13 "SternDeskModel" "bottom" "I", .methodLink RX4 62 yX4_steps, .static yX4_steps, .code yX4_steps cX4_steps 4 (some .long)] ++ wsX40)
def wsX4_run : List Cond := .code yX4_run cX4_run 2 (some .int) :: ([.fieldLink RX4 23 "SternDeskModel" "thrown" "I", .fieldLink RX4 7 "SternDeskModel" "top" "I", .fieldLink RX4 46 "SternDeskModel" "runs" "I", .fieldLink RX4 20 "SternDeskModel" "run" "[I", .methodLink RX4 65 yX4_walk, .instanceMethod yX4_walk, .selects RX4 yX4_walk yX4_walk, .initialized RX4, .code yX4_walk cX4_walk 10 none, .fieldLink RX4 49 "SternDeskModel" "lowTop" "J", .fieldLink RX4 53 "SternDeskModel" "lowBottom" "J", .fieldLink RX4 56 "SternDeskModel" "highTop" "J", .fieldLink RX4 59 "SternDeskModel" "highBottom" "J", .fieldLink RX4 13 "SternDeskModel" "bottom" "I", .methodLink RX4 62 yX4_steps, .static yX4_steps, .code yX4_steps cX4_steps 4 (some .long)] ++ wsX40)
def wsX4_go : List Cond := .code yX4_go cX4_go 7 (some .int) :: ([.fieldLink RX4 23 "SternDeskModel" "thrown" "I", .constantLong RX4 30 (100000), .fieldLink RX4 7 "SternDeskModel" "top" "I", .fieldLink RX4 49 "SternDeskModel" "lowTop" "J", .fieldLink RX4 56 "SternDeskModel" "highTop" "J", .fieldLink RX4 13 "SternDeskModel" "bottom" "I", .fieldLink RX4 53 "SternDeskModel" "lowBottom" "J", .fieldLink RX4 59 "SternDeskModel" "highBottom" "J", .methodLink RX4 32 yX4_in, .static yX4_in, .initialized RX4, .code yX4_in cX4_in 6 (some .boolean), .methodLink RX4 65 yX4_walk, .instanceMethod yX4_walk, .selects RX4 yX4_walk yX4_walk, .code yX4_walk cX4_walk 10 none, .fieldLink RX4 46 "SternDeskModel" "runs" "I", .fieldLink RX4 20 "SternDeskModel" "run" "[I", .methodLink RX4 62 yX4_steps, .static yX4_steps, .code yX4_steps cX4_steps 4 (some .long)] ++ wsX40)
def wsX4_up : List Cond := .code yX4_up cX4_up 2 (some .int) :: ([.fieldLink RX4 23 "SternDeskModel" "thrown" "I", .fieldLink RX4 7 "SternDeskModel" "top" "I", .fieldLink RX4 13 "SternDeskModel" "bottom" "I", .fieldLink RX4 49 "SternDeskModel" "lowTop" "J", .fieldLink RX4 53 "SternDeskModel" "lowBottom" "J", .fieldLink RX4 56 "SternDeskModel" "highTop" "J", .fieldLink RX4 59 "SternDeskModel" "highBottom" "J", .methodLink RX4 65 yX4_walk, .instanceMethod yX4_walk, .selects RX4 yX4_walk yX4_walk, .initialized RX4, .code yX4_walk cX4_walk 10 none, .fieldLink RX4 46 "SternDeskModel" "runs" "I", .fieldLink RX4 20 "SternDeskModel" "run" "[I", .methodLink RX4 62 yX4_steps, .static yX4_steps, .code yX4_steps cX4_steps 4 (some .long)] ++ wsX40)
def wsX4_near : List Cond := .code yX4_near cX4_near 18 (some .int) :: ([.constantLong RX4 68 (1000), .constantLong RX4 70 (2), .fieldLink RX4 23 "SternDeskModel" "thrown" "I", .fieldLink RX4 7 "SternDeskModel" "top" "I", .fieldLink RX4 13 "SternDeskModel" "bottom" "I", .methodLink RX4 32 yX4_in, .static yX4_in, .initialized RX4, .code yX4_in cX4_in 6 (some .boolean)] ++ wsX40)
def wsX4_between : List Cond := .code yX4_between cX4_between 7 (some .int) :: ([.constantLong RX4 72 (5000), .fieldLink RX4 23 "SternDeskModel" "thrown" "I", .fieldLink RX4 7 "SternDeskModel" "top" "I", .fieldLink RX4 13 "SternDeskModel" "bottom" "I", .methodLink RX4 32 yX4_in, .static yX4_in, .initialized RX4, .code yX4_in cX4_in 6 (some .boolean)] ++ wsX40)
def wsX4_row : List Cond := .code yX4_row cX4_row 5 (some .int) :: ([.fieldLink RX4 23 "SternDeskModel" "thrown" "I", .constantLong RX4 74 (200), .methodLink RX4 32 yX4_in, .static yX4_in, .initialized RX4, .code yX4_in cX4_in 6 (some .boolean), .methodLink RX4 26 yX4_common, .static yX4_common, .code yX4_common cX4_common 10 (some .long)] ++ wsX40)
def wsX4_pick : List Cond := .code yX4_pick cX4_pick 12 (some .int) :: ([.fieldLink RX4 7 "SternDeskModel" "top" "I", .fieldLink RX4 13 "SternDeskModel" "bottom" "I", .methodLink RX4 76 yX4_row, .instanceMethod yX4_row, .selects RX4 yX4_row yX4_row, .initialized RX4, .code yX4_row cX4_row 5 (some .int), .fieldLink RX4 23 "SternDeskModel" "thrown" "I", .constantLong RX4 74 (200), .methodLink RX4 32 yX4_in, .static yX4_in, .code yX4_in cX4_in 6 (some .boolean), .methodLink RX4 26 yX4_common, .static yX4_common, .code yX4_common cX4_common 10 (some .long)] ++ wsX40)
def wsX4_place : List Cond := .code yX4_place cX4_place 5 (some .int) :: ([.fieldLink RX4 23 "SternDeskModel" "thrown" "I", .constantLong RX4 74 (200), .fieldLink RX4 7 "SternDeskModel" "top" "I", .fieldLink RX4 13 "SternDeskModel" "bottom" "I", .methodLink RX4 32 yX4_in, .static yX4_in, .initialized RX4, .code yX4_in cX4_in 6 (some .boolean), .methodLink RX4 26 yX4_common, .static yX4_common, .code yX4_common cX4_common 10 (some .long)] ++ wsX40)
def wsX4_floors : List Cond := .code yX4_floors cX4_floors 6 (some .long) :: ([.fieldLink RX4 23 "SternDeskModel" "thrown" "I", .constantLong RX4 30 (100000), .constantLong RX4 80 (-1), .fieldLink RX4 7 "SternDeskModel" "top" "I", .fieldLink RX4 13 "SternDeskModel" "bottom" "I", .methodLink RX4 32 yX4_in, .static yX4_in, .initialized RX4, .code yX4_in cX4_in 6 (some .boolean)] ++ wsX40)
def wsX4_sawteeth : List Cond := .code yX4_sawteeth cX4_sawteeth 7 (some .long) :: ([.fieldLink RX4 23 "SternDeskModel" "thrown" "I", .fieldLink RX4 13 "SternDeskModel" "bottom" "I", .fieldLink RX4 7 "SternDeskModel" "top" "I", .constantLong RX4 70 (2), .constantLong RX4 82 (3)] ++ wsX40)
def wsX4_check : List Cond := .code yX4_check cX4_check 1 (some .int) :: ([.fieldLink RX4 23 "SternDeskModel" "thrown" "I"] ++ wsX40)
theorem dX4_init_0 : decode cX4_init 0 = .ok (.aload_n 0, 1) := by decide +kernel
theorem dX4_init_1 : decode cX4_init 1 = .ok (.invokespecial 1, 3) := by decide +kernel
theorem dX4_init_4 : decode cX4_init 4 = .ok (.aload_n 0, 1) := by decide +kernel
theorem dX4_init_5 : decode cX4_init 5 = .ok (.iconst 1, 1) := by decide +kernel
theorem dX4_init_6 : decode cX4_init 6 = .ok (.putfield 7, 3) := by decide +kernel
theorem dX4_init_9 : decode cX4_init 9 = .ok (.aload_n 0, 1) := by decide +kernel
theorem dX4_init_10 : decode cX4_init 10 = .ok (.iconst 1, 1) := by decide +kernel
theorem dX4_init_11 : decode cX4_init 11 = .ok (.putfield 13, 3) := by decide +kernel
theorem dX4_init_14 : decode cX4_init 14 = .ok (.aload_n 0, 1) := by decide +kernel
theorem dX4_init_15 : decode cX4_init 15 = .ok (.bipush 64, 2) := by decide +kernel
theorem dX4_init_17 : decode cX4_init 17 = .ok (.newarray .int, 2) := by decide +kernel
theorem dX4_init_19 : decode cX4_init 19 = .ok (.putfield 16, 3) := by decide +kernel
theorem dX4_init_22 : decode cX4_init 22 = .ok (.aload_n 0, 1) := by decide +kernel
theorem dX4_init_23 : decode cX4_init 23 = .ok (.bipush 64, 2) := by decide +kernel
theorem dX4_init_25 : decode cX4_init 25 = .ok (.newarray .int, 2) := by decide +kernel
theorem dX4_init_27 : decode cX4_init 27 = .ok (.putfield 20, 3) := by decide +kernel
theorem dX4_init_30 : decode cX4_init 30 = .ok (.aload_n 0, 1) := by decide +kernel
theorem dX4_init_31 : decode cX4_init 31 = .ok (.iconst 1, 1) := by decide +kernel
theorem dX4_init_32 : decode cX4_init 32 = .ok (.putfield 7, 3) := by decide +kernel
theorem dX4_init_35 : decode cX4_init 35 = .ok (.return_, 1) := by decide +kernel
theorem dX4_thrown_0 : decode cX4_thrown 0 = .ok (.aload_n 0, 1) := by decide +kernel
theorem dX4_thrown_1 : decode cX4_thrown 1 = .ok (.getfield 23, 3) := by decide +kernel
theorem dX4_thrown_4 : decode cX4_thrown 4 = .ok (.ireturn, 1) := by decide +kernel
theorem dX4_common_0 : decode cX4_common 0 = .ok (.lload_n 0, 1) := by decide +kernel
theorem dX4_common_1 : decode cX4_common 1 = .ok (.lstore 4, 2) := by decide +kernel
theorem dX4_common_3 : decode cX4_common 3 = .ok (.lload_n 2, 1) := by decide +kernel
theorem dX4_common_4 : decode cX4_common 4 = .ok (.lstore 6, 2) := by decide +kernel
theorem dX4_common_6 : decode cX4_common 6 = .ok (.lload 6, 2) := by decide +kernel
theorem dX4_common_8 : decode cX4_common 8 = .ok (.lconst 0, 1) := by decide +kernel
theorem dX4_common_9 : decode cX4_common 9 = .ok (.lcmp, 1) := by decide +kernel
theorem dX4_common_10 : decode cX4_common 10 = .ok (.ifCond .eq 21, 3) := by decide +kernel
theorem dX4_common_13 : decode cX4_common 13 = .ok (.lload 4, 2) := by decide +kernel
theorem dX4_common_15 : decode cX4_common 15 = .ok (.lload 6, 2) := by decide +kernel
theorem dX4_common_17 : decode cX4_common 17 = .ok (.lrem, 1) := by decide +kernel
theorem dX4_common_18 : decode cX4_common 18 = .ok (.lstore 8, 2) := by decide +kernel
theorem dX4_common_20 : decode cX4_common 20 = .ok (.lload 6, 2) := by decide +kernel
theorem dX4_common_22 : decode cX4_common 22 = .ok (.lstore 4, 2) := by decide +kernel
theorem dX4_common_24 : decode cX4_common 24 = .ok (.lload 8, 2) := by decide +kernel
theorem dX4_common_26 : decode cX4_common 26 = .ok (.lstore 6, 2) := by decide +kernel
theorem dX4_common_28 : decode cX4_common 28 = .ok (.goto (-22), 3) := by decide +kernel
theorem dX4_common_31 : decode cX4_common 31 = .ok (.lload 4, 2) := by decide +kernel
theorem dX4_common_33 : decode cX4_common 33 = .ok (.lreturn, 1) := by decide +kernel
theorem dX4_in_0 : decode cX4_in 0 = .ok (.lload_n 0, 1) := by decide +kernel
theorem dX4_in_1 : decode cX4_in 1 = .ok (.lload_n 2, 1) := by decide +kernel
theorem dX4_in_2 : decode cX4_in 2 = .ok (.lcmp, 1) := by decide +kernel
theorem dX4_in_3 : decode cX4_in 3 = .ok (.ifCond .lt 14, 3) := by decide +kernel
theorem dX4_in_6 : decode cX4_in 6 = .ok (.lload_n 0, 1) := by decide +kernel
theorem dX4_in_7 : decode cX4_in 7 = .ok (.lload 4, 2) := by decide +kernel
theorem dX4_in_9 : decode cX4_in 9 = .ok (.lcmp, 1) := by decide +kernel
theorem dX4_in_10 : decode cX4_in 10 = .ok (.ifCond .gt 7, 3) := by decide +kernel
theorem dX4_in_13 : decode cX4_in 13 = .ok (.iconst 1, 1) := by decide +kernel
theorem dX4_in_14 : decode cX4_in 14 = .ok (.goto 4, 3) := by decide +kernel
theorem dX4_in_17 : decode cX4_in 17 = .ok (.iconst 0, 1) := by decide +kernel
theorem dX4_in_18 : decode cX4_in 18 = .ok (.ireturn, 1) := by decide +kernel
set_option maxRecDepth 20000 in
theorem ggX4_become_X4_common : GoodIn wsX4_become wsX4_common := goodIn_r _ [6] (by decide +kernel) (by decide +kernel)
set_option maxRecDepth 20000 in
theorem gX4_become_X4_common : GoodIn wsX4_become (va_wsS RX4 26 yX4_common wsX4_common) := goodIn_app (goodIn_of _ (by decide +kernel)) ggX4_become_X4_common
theorem dX4_become_0 : decode cX4_become 0 = .ok (.lload_n 1, 1) := by decide +kernel
theorem dX4_become_1 : decode cX4_become 1 = .ok (.lload_n 3, 1) := by decide +kernel
theorem dX4_become_2 : decode cX4_become 2 = .ok (.invokestatic 26, 3) := by decide +kernel
theorem dX4_become_5 : decode cX4_become 5 = .ok (.lstore 5, 2) := by decide +kernel
theorem dX4_become_7 : decode cX4_become 7 = .ok (.aload_n 0, 1) := by decide +kernel
theorem dX4_become_8 : decode cX4_become 8 = .ok (.lload_n 1, 1) := by decide +kernel
theorem dX4_become_9 : decode cX4_become 9 = .ok (.lload 5, 2) := by decide +kernel
theorem dX4_become_11 : decode cX4_become 11 = .ok (.ldiv, 1) := by decide +kernel
theorem dX4_become_12 : decode cX4_become 12 = .ok (.l2i, 1) := by decide +kernel
theorem dX4_become_13 : decode cX4_become 13 = .ok (.putfield 7, 3) := by decide +kernel
theorem dX4_become_16 : decode cX4_become 16 = .ok (.aload_n 0, 1) := by decide +kernel
theorem dX4_become_17 : decode cX4_become 17 = .ok (.lload_n 3, 1) := by decide +kernel
theorem dX4_become_18 : decode cX4_become 18 = .ok (.lload 5, 2) := by decide +kernel
theorem dX4_become_20 : decode cX4_become 20 = .ok (.ldiv, 1) := by decide +kernel
theorem dX4_become_21 : decode cX4_become 21 = .ok (.l2i, 1) := by decide +kernel
theorem dX4_become_22 : decode cX4_become 22 = .ok (.putfield 13, 3) := by decide +kernel
theorem dX4_become_25 : decode cX4_become 25 = .ok (.return_, 1) := by decide +kernel
set_option maxRecDepth 20000 in
theorem ggX4_take_X4_in : GoodIn wsX4_take wsX4_in := goodIn_r _ [6] (by decide +kernel) (by decide +kernel)
set_option maxRecDepth 20000 in
theorem gX4_take_X4_in : GoodIn wsX4_take (va_wsS RX4 32 yX4_in wsX4_in) := goodIn_app (goodIn_of _ (by decide +kernel)) ggX4_take_X4_in
set_option maxRecDepth 20000 in
theorem ggX4_take_X4_become : GoodIn wsX4_take wsX4_become := goodIn_r _ [10, 11, 12, 13, 14, 5, 15, 16, 17, 18, 19, 20, 21, 22, 23, 24, 25, 26] (by decide +kernel) (by decide +kernel)
set_option maxRecDepth 20000 in
theorem gX4_take_X4_become : GoodIn wsX4_take (wsV RX4 36 RX4 yX4_become wsX4_become) := goodIn_app (goodIn_of _ (by decide +kernel)) ggX4_take_X4_become
theorem dX4_take_0 : decode cX4_take 0 = .ok (.aload_n 0, 1) := by decide +kernel
theorem dX4_take_1 : decode cX4_take 1 = .ok (.iload_n 1, 1) := by decide +kernel
theorem dX4_take_2 : decode cX4_take 2 = .ok (.i2l, 1) := by decide +kernel
theorem dX4_take_3 : decode cX4_take 3 = .ok (.lconst 0, 1) := by decide +kernel
theorem dX4_take_4 : decode cX4_take 4 = .ok (.ldc2_w 30, 3) := by decide +kernel
theorem dX4_take_7 : decode cX4_take 7 = .ok (.invokestatic 32, 3) := by decide +kernel
theorem dX4_take_10 : decode cX4_take 10 = .ok (.ifCond .eq 19, 3) := by decide +kernel
theorem dX4_take_13 : decode cX4_take 13 = .ok (.iload_n 2, 1) := by decide +kernel
theorem dX4_take_14 : decode cX4_take 14 = .ok (.i2l, 1) := by decide +kernel
theorem dX4_take_15 : decode cX4_take 15 = .ok (.lconst 1, 1) := by decide +kernel
theorem dX4_take_16 : decode cX4_take 16 = .ok (.ldc2_w 30, 3) := by decide +kernel
theorem dX4_take_19 : decode cX4_take 19 = .ok (.invokestatic 32, 3) := by decide +kernel
theorem dX4_take_22 : decode cX4_take 22 = .ok (.ifCond .eq 7, 3) := by decide +kernel
theorem dX4_take_25 : decode cX4_take 25 = .ok (.iconst 0, 1) := by decide +kernel
theorem dX4_take_26 : decode cX4_take 26 = .ok (.goto 4, 3) := by decide +kernel
theorem dX4_take_29 : decode cX4_take 29 = .ok (.iconst 1, 1) := by decide +kernel
theorem dX4_take_30 : decode cX4_take 30 = .ok (.putfield 23, 3) := by decide +kernel
theorem dX4_take_33 : decode cX4_take 33 = .ok (.aload_n 0, 1) := by decide +kernel
theorem dX4_take_34 : decode cX4_take 34 = .ok (.getfield 23, 3) := by decide +kernel
theorem dX4_take_37 : decode cX4_take 37 = .ok (.ifCond .ne 11, 3) := by decide +kernel
theorem dX4_take_40 : decode cX4_take 40 = .ok (.aload_n 0, 1) := by decide +kernel
theorem dX4_take_41 : decode cX4_take 41 = .ok (.iload_n 1, 1) := by decide +kernel
theorem dX4_take_42 : decode cX4_take 42 = .ok (.i2l, 1) := by decide +kernel
theorem dX4_take_43 : decode cX4_take 43 = .ok (.iload_n 2, 1) := by decide +kernel
theorem dX4_take_44 : decode cX4_take 44 = .ok (.i2l, 1) := by decide +kernel
theorem dX4_take_45 : decode cX4_take 45 = .ok (.invokevirtual 36, 3) := by decide +kernel
theorem dX4_take_48 : decode cX4_take 48 = .ok (.return_, 1) := by decide +kernel
theorem dX4_part_0 : decode cX4_part 0 = .ok (.aload_n 0, 1) := by decide +kernel
theorem dX4_part_1 : decode cX4_part 1 = .ok (.iconst 0, 1) := by decide +kernel
theorem dX4_part_2 : decode cX4_part 2 = .ok (.putfield 23, 3) := by decide +kernel
theorem dX4_part_5 : decode cX4_part 5 = .ok (.iload_n 1, 1) := by decide +kernel
theorem dX4_part_6 : decode cX4_part 6 = .ok (.ifCond .ne 10, 3) := by decide +kernel
theorem dX4_part_9 : decode cX4_part 9 = .ok (.aload_n 0, 1) := by decide +kernel
theorem dX4_part_10 : decode cX4_part 10 = .ok (.getfield 7, 3) := by decide +kernel
theorem dX4_part_13 : decode cX4_part 13 = .ok (.goto 16, 3) := by decide +kernel
theorem dX4_part_16 : decode cX4_part 16 = .ok (.iload_n 1, 1) := by decide +kernel
theorem dX4_part_17 : decode cX4_part 17 = .ok (.iconst 1, 1) := by decide +kernel
theorem dX4_part_18 : decode cX4_part 18 = .ok (.if_icmp .ne 10, 3) := by decide +kernel
theorem dX4_part_21 : decode cX4_part 21 = .ok (.aload_n 0, 1) := by decide +kernel
theorem dX4_part_22 : decode cX4_part 22 = .ok (.getfield 13, 3) := by decide +kernel
theorem dX4_part_25 : decode cX4_part 25 = .ok (.goto 4, 3) := by decide +kernel
theorem dX4_part_28 : decode cX4_part 28 = .ok (.iconst (-1), 1) := by decide +kernel
theorem dX4_part_29 : decode cX4_part 29 = .ok (.ireturn, 1) := by decide +kernel
theorem dX4_findTerms_0 : decode cX4_findTerms 0 = .ok (.aload_n 0, 1) := by decide +kernel
theorem dX4_findTerms_1 : decode cX4_findTerms 1 = .ok (.iconst 0, 1) := by decide +kernel
theorem dX4_findTerms_2 : decode cX4_findTerms 2 = .ok (.putfield 40, 3) := by decide +kernel
theorem dX4_findTerms_5 : decode cX4_findTerms 5 = .ok (.aload_n 0, 1) := by decide +kernel
theorem dX4_findTerms_6 : decode cX4_findTerms 6 = .ok (.getfield 7, 3) := by decide +kernel
theorem dX4_findTerms_9 : decode cX4_findTerms 9 = .ok (.istore_n 1, 1) := by decide +kernel
theorem dX4_findTerms_10 : decode cX4_findTerms 10 = .ok (.aload_n 0, 1) := by decide +kernel
theorem dX4_findTerms_11 : decode cX4_findTerms 11 = .ok (.getfield 13, 3) := by decide +kernel
theorem dX4_findTerms_14 : decode cX4_findTerms 14 = .ok (.istore_n 2, 1) := by decide +kernel
theorem dX4_findTerms_15 : decode cX4_findTerms 15 = .ok (.iload_n 2, 1) := by decide +kernel
theorem dX4_findTerms_16 : decode cX4_findTerms 16 = .ok (.ifCond .eq 36, 3) := by decide +kernel
theorem dX4_findTerms_19 : decode cX4_findTerms 19 = .ok (.aload_n 0, 1) := by decide +kernel
theorem dX4_findTerms_20 : decode cX4_findTerms 20 = .ok (.getfield 16, 3) := by decide +kernel
theorem dX4_findTerms_23 : decode cX4_findTerms 23 = .ok (.aload_n 0, 1) := by decide +kernel
theorem dX4_findTerms_24 : decode cX4_findTerms 24 = .ok (.getfield 40, 3) := by decide +kernel
theorem dX4_findTerms_27 : decode cX4_findTerms 27 = .ok (.iload_n 1, 1) := by decide +kernel
theorem dX4_findTerms_28 : decode cX4_findTerms 28 = .ok (.iload_n 2, 1) := by decide +kernel
theorem dX4_findTerms_29 : decode cX4_findTerms 29 = .ok (.idiv, 1) := by decide +kernel
theorem dX4_findTerms_30 : decode cX4_findTerms 30 = .ok (.iastore, 1) := by decide +kernel
theorem dX4_findTerms_31 : decode cX4_findTerms 31 = .ok (.aload_n 0, 1) := by decide +kernel
theorem dX4_findTerms_32 : decode cX4_findTerms 32 = .ok (.dup, 1) := by decide +kernel
theorem dX4_findTerms_33 : decode cX4_findTerms 33 = .ok (.getfield 40, 3) := by decide +kernel
theorem dX4_findTerms_36 : decode cX4_findTerms 36 = .ok (.iconst 1, 1) := by decide +kernel
theorem dX4_findTerms_37 : decode cX4_findTerms 37 = .ok (.iadd, 1) := by decide +kernel
theorem dX4_findTerms_38 : decode cX4_findTerms 38 = .ok (.putfield 40, 3) := by decide +kernel
theorem dX4_findTerms_41 : decode cX4_findTerms 41 = .ok (.iload_n 1, 1) := by decide +kernel
theorem dX4_findTerms_42 : decode cX4_findTerms 42 = .ok (.iload_n 2, 1) := by decide +kernel
theorem dX4_findTerms_43 : decode cX4_findTerms 43 = .ok (.irem, 1) := by decide +kernel
theorem dX4_findTerms_44 : decode cX4_findTerms 44 = .ok (.istore_n 3, 1) := by decide +kernel
theorem dX4_findTerms_45 : decode cX4_findTerms 45 = .ok (.iload_n 2, 1) := by decide +kernel
theorem dX4_findTerms_46 : decode cX4_findTerms 46 = .ok (.istore_n 1, 1) := by decide +kernel
theorem dX4_findTerms_47 : decode cX4_findTerms 47 = .ok (.iload_n 3, 1) := by decide +kernel
theorem dX4_findTerms_48 : decode cX4_findTerms 48 = .ok (.istore_n 2, 1) := by decide +kernel
theorem dX4_findTerms_49 : decode cX4_findTerms 49 = .ok (.goto (-34), 3) := by decide +kernel
theorem dX4_findTerms_52 : decode cX4_findTerms 52 = .ok (.return_, 1) := by decide +kernel
set_option maxRecDepth 20000 in
theorem ggX4_terms_X4_findTerms : GoodIn wsX4_terms wsX4_findTerms := goodIn_r _ [7, 2, 8, 9, 10, 11, 12, 13, 14, 15, 16, 17, 18, 19, 20, 21] (by decide +kernel) (by decide +kernel)
set_option maxRecDepth 20000 in
theorem gX4_terms_X4_findTerms : GoodIn wsX4_terms (wsV RX4 43 RX4 yX4_findTerms wsX4_findTerms) := goodIn_app (goodIn_of _ (by decide +kernel)) ggX4_terms_X4_findTerms
theorem dX4_terms_0 : decode cX4_terms 0 = .ok (.aload_n 0, 1) := by decide +kernel
theorem dX4_terms_1 : decode cX4_terms 1 = .ok (.iconst 0, 1) := by decide +kernel
theorem dX4_terms_2 : decode cX4_terms 2 = .ok (.putfield 23, 3) := by decide +kernel
theorem dX4_terms_5 : decode cX4_terms 5 = .ok (.aload_n 0, 1) := by decide +kernel
theorem dX4_terms_6 : decode cX4_terms 6 = .ok (.invokevirtual 43, 3) := by decide +kernel
theorem dX4_terms_9 : decode cX4_terms 9 = .ok (.aload_n 0, 1) := by decide +kernel
theorem dX4_terms_10 : decode cX4_terms 10 = .ok (.getfield 40, 3) := by decide +kernel
theorem dX4_terms_13 : decode cX4_terms 13 = .ok (.ireturn, 1) := by decide +kernel
set_option maxRecDepth 20000 in
theorem ggX4_term_X4_findTerms : GoodIn wsX4_term wsX4_findTerms := goodIn_r _ [8, 2, 9, 10, 3, 11, 12, 13, 14, 15, 16, 17, 18, 19, 20, 21] (by decide +kernel) (by decide +kernel)
set_option maxRecDepth 20000 in
theorem gX4_term_X4_findTerms : GoodIn wsX4_term (wsV RX4 43 RX4 yX4_findTerms wsX4_findTerms) := goodIn_app (goodIn_of _ (by decide +kernel)) ggX4_term_X4_findTerms
theorem dX4_term_0 : decode cX4_term 0 = .ok (.aload_n 0, 1) := by decide +kernel
theorem dX4_term_1 : decode cX4_term 1 = .ok (.iconst 0, 1) := by decide +kernel
theorem dX4_term_2 : decode cX4_term 2 = .ok (.putfield 23, 3) := by decide +kernel
theorem dX4_term_5 : decode cX4_term 5 = .ok (.aload_n 0, 1) := by decide +kernel
theorem dX4_term_6 : decode cX4_term 6 = .ok (.invokevirtual 43, 3) := by decide +kernel
theorem dX4_term_9 : decode cX4_term 9 = .ok (.iload_n 1, 1) := by decide +kernel
theorem dX4_term_10 : decode cX4_term 10 = .ok (.ifCond .lt 20, 3) := by decide +kernel
theorem dX4_term_13 : decode cX4_term 13 = .ok (.iload_n 1, 1) := by decide +kernel
theorem dX4_term_14 : decode cX4_term 14 = .ok (.aload_n 0, 1) := by decide +kernel
theorem dX4_term_15 : decode cX4_term 15 = .ok (.getfield 40, 3) := by decide +kernel
theorem dX4_term_18 : decode cX4_term 18 = .ok (.if_icmp .ge 12, 3) := by decide +kernel
theorem dX4_term_21 : decode cX4_term 21 = .ok (.aload_n 0, 1) := by decide +kernel
theorem dX4_term_22 : decode cX4_term 22 = .ok (.getfield 16, 3) := by decide +kernel
theorem dX4_term_25 : decode cX4_term 25 = .ok (.iload_n 1, 1) := by decide +kernel
theorem dX4_term_26 : decode cX4_term 26 = .ok (.iaload, 1) := by decide +kernel
theorem dX4_term_27 : decode cX4_term 27 = .ok (.goto 4, 3) := by decide +kernel
theorem dX4_term_30 : decode cX4_term 30 = .ok (.iconst (-1), 1) := by decide +kernel
theorem dX4_term_31 : decode cX4_term 31 = .ok (.ireturn, 1) := by decide +kernel
set_option maxRecDepth 20000 in
theorem ggX4_convergent_X4_findTerms : GoodIn wsX4_convergent wsX4_findTerms := goodIn_r _ [8, 2, 9, 10, 3, 14, 15, 16, 17, 18, 19, 20, 21, 22, 23, 24] (by decide +kernel) (by decide +kernel)
set_option maxRecDepth 20000 in
theorem gX4_convergent_X4_findTerms : GoodIn wsX4_convergent (wsV RX4 43 RX4 yX4_findTerms wsX4_findTerms) := goodIn_app (goodIn_of _ (by decide +kernel)) ggX4_convergent_X4_findTerms
set_option maxRecDepth 20000 in
theorem ggX4_convergent_X4_common : GoodIn wsX4_convergent wsX4_common := goodIn_r _ [13] (by decide +kernel) (by decide +kernel)
set_option maxRecDepth 20000 in
theorem gX4_convergent_X4_common : GoodIn wsX4_convergent (va_wsS RX4 26 yX4_common wsX4_common) := goodIn_app (goodIn_of _ (by decide +kernel)) ggX4_convergent_X4_common
theorem dX4_convergent_0 : decode cX4_convergent 0 = .ok (.aload_n 0, 1) := by decide +kernel
theorem dX4_convergent_1 : decode cX4_convergent 1 = .ok (.iconst 0, 1) := by decide +kernel
theorem dX4_convergent_2 : decode cX4_convergent 2 = .ok (.putfield 23, 3) := by decide +kernel
theorem dX4_convergent_5 : decode cX4_convergent 5 = .ok (.aload_n 0, 1) := by decide +kernel
theorem dX4_convergent_6 : decode cX4_convergent 6 = .ok (.invokevirtual 43, 3) := by decide +kernel
theorem dX4_convergent_9 : decode cX4_convergent 9 = .ok (.iload_n 1, 1) := by decide +kernel
theorem dX4_convergent_10 : decode cX4_convergent 10 = .ok (.ifCond .lt 20, 3) := by decide +kernel
theorem dX4_convergent_13 : decode cX4_convergent 13 = .ok (.iload_n 1, 1) := by decide +kernel
theorem dX4_convergent_14 : decode cX4_convergent 14 = .ok (.aload_n 0, 1) := by decide +kernel
theorem dX4_convergent_15 : decode cX4_convergent 15 = .ok (.getfield 40, 3) := by decide +kernel
theorem dX4_convergent_18 : decode cX4_convergent 18 = .ok (.if_icmp .ge 12, 3) := by decide +kernel
theorem dX4_convergent_21 : decode cX4_convergent 21 = .ok (.iload_n 2, 1) := by decide +kernel
theorem dX4_convergent_22 : decode cX4_convergent 22 = .ok (.ifCond .eq 10, 3) := by decide +kernel
theorem dX4_convergent_25 : decode cX4_convergent 25 = .ok (.iload_n 2, 1) := by decide +kernel
theorem dX4_convergent_26 : decode cX4_convergent 26 = .ok (.iconst 1, 1) := by decide +kernel
theorem dX4_convergent_27 : decode cX4_convergent 27 = .ok (.if_icmp .eq 5, 3) := by decide +kernel
theorem dX4_convergent_30 : decode cX4_convergent 30 = .ok (.iconst (-1), 1) := by decide +kernel
theorem dX4_convergent_31 : decode cX4_convergent 31 = .ok (.ireturn, 1) := by decide +kernel
theorem dX4_convergent_32 : decode cX4_convergent 32 = .ok (.aload_n 0, 1) := by decide +kernel
theorem dX4_convergent_33 : decode cX4_convergent 33 = .ok (.getfield 16, 3) := by decide +kernel
theorem dX4_convergent_36 : decode cX4_convergent 36 = .ok (.iload_n 1, 1) := by decide +kernel
theorem dX4_convergent_37 : decode cX4_convergent 37 = .ok (.iaload, 1) := by decide +kernel
theorem dX4_convergent_38 : decode cX4_convergent 38 = .ok (.i2l, 1) := by decide +kernel
theorem dX4_convergent_39 : decode cX4_convergent 39 = .ok (.lstore_n 3, 1) := by decide +kernel
theorem dX4_convergent_40 : decode cX4_convergent 40 = .ok (.lconst 1, 1) := by decide +kernel
theorem dX4_convergent_41 : decode cX4_convergent 41 = .ok (.lstore 5, 2) := by decide +kernel
theorem dX4_convergent_43 : decode cX4_convergent 43 = .ok (.iload_n 1, 1) := by decide +kernel
theorem dX4_convergent_44 : decode cX4_convergent 44 = .ok (.iconst 1, 1) := by decide +kernel
theorem dX4_convergent_45 : decode cX4_convergent 45 = .ok (.isub, 1) := by decide +kernel
theorem dX4_convergent_46 : decode cX4_convergent 46 = .ok (.istore 7, 2) := by decide +kernel
theorem dX4_convergent_48 : decode cX4_convergent 48 = .ok (.iload 7, 2) := by decide +kernel
theorem dX4_convergent_50 : decode cX4_convergent 50 = .ok (.ifCond .lt 30, 3) := by decide +kernel
theorem dX4_convergent_53 : decode cX4_convergent 53 = .ok (.aload_n 0, 1) := by decide +kernel
theorem dX4_convergent_54 : decode cX4_convergent 54 = .ok (.getfield 16, 3) := by decide +kernel
theorem dX4_convergent_57 : decode cX4_convergent 57 = .ok (.iload 7, 2) := by decide +kernel
theorem dX4_convergent_59 : decode cX4_convergent 59 = .ok (.iaload, 1) := by decide +kernel
theorem dX4_convergent_60 : decode cX4_convergent 60 = .ok (.i2l, 1) := by decide +kernel
theorem dX4_convergent_61 : decode cX4_convergent 61 = .ok (.lload_n 3, 1) := by decide +kernel
theorem dX4_convergent_62 : decode cX4_convergent 62 = .ok (.lmul, 1) := by decide +kernel
theorem dX4_convergent_63 : decode cX4_convergent 63 = .ok (.lload 5, 2) := by decide +kernel
theorem dX4_convergent_65 : decode cX4_convergent 65 = .ok (.ladd, 1) := by decide +kernel
theorem dX4_convergent_66 : decode cX4_convergent 66 = .ok (.lstore 8, 2) := by decide +kernel
theorem dX4_convergent_68 : decode cX4_convergent 68 = .ok (.lload_n 3, 1) := by decide +kernel
theorem dX4_convergent_69 : decode cX4_convergent 69 = .ok (.lstore 5, 2) := by decide +kernel
theorem dX4_convergent_71 : decode cX4_convergent 71 = .ok (.lload 8, 2) := by decide +kernel
theorem dX4_convergent_73 : decode cX4_convergent 73 = .ok (.lstore_n 3, 1) := by decide +kernel
theorem dX4_convergent_74 : decode cX4_convergent 74 = .ok (.iinc 7 (-1), 3) := by decide +kernel
theorem dX4_convergent_77 : decode cX4_convergent 77 = .ok (.goto (-29), 3) := by decide +kernel
theorem dX4_convergent_80 : decode cX4_convergent 80 = .ok (.lload_n 3, 1) := by decide +kernel
theorem dX4_convergent_81 : decode cX4_convergent 81 = .ok (.lload 5, 2) := by decide +kernel
theorem dX4_convergent_83 : decode cX4_convergent 83 = .ok (.invokestatic 26, 3) := by decide +kernel
theorem dX4_convergent_86 : decode cX4_convergent 86 = .ok (.lstore 7, 2) := by decide +kernel
theorem dX4_convergent_88 : decode cX4_convergent 88 = .ok (.iload_n 2, 1) := by decide +kernel
theorem dX4_convergent_89 : decode cX4_convergent 89 = .ok (.ifCond .ne 10, 3) := by decide +kernel
theorem dX4_convergent_92 : decode cX4_convergent 92 = .ok (.lload_n 3, 1) := by decide +kernel
theorem dX4_convergent_93 : decode cX4_convergent 93 = .ok (.lload 7, 2) := by decide +kernel
theorem dX4_convergent_95 : decode cX4_convergent 95 = .ok (.ldiv, 1) := by decide +kernel
theorem dX4_convergent_96 : decode cX4_convergent 96 = .ok (.goto 8, 3) := by decide +kernel
theorem dX4_convergent_99 : decode cX4_convergent 99 = .ok (.lload 5, 2) := by decide +kernel
theorem dX4_convergent_101 : decode cX4_convergent 101 = .ok (.lload 7, 2) := by decide +kernel
theorem dX4_convergent_103 : decode cX4_convergent 103 = .ok (.ldiv, 1) := by decide +kernel
theorem dX4_convergent_104 : decode cX4_convergent 104 = .ok (.l2i, 1) := by decide +kernel
theorem dX4_convergent_105 : decode cX4_convergent 105 = .ok (.ireturn, 1) := by decide +kernel
set_option maxRecDepth 20000 in
theorem ggX4_walk_X4_steps : GoodIn wsX4_walk wsX4_steps := goodIn_r _ [12] (by decide +kernel) (by decide +kernel)
set_option maxRecDepth 20000 in
theorem gX4_walk_X4_steps : GoodIn wsX4_walk (va_wsS RX4 62 yX4_steps wsX4_steps) := goodIn_app (goodIn_of _ (by decide +kernel)) ggX4_walk_X4_steps
theorem dX4_walk_0 : decode cX4_walk 0 = .ok (.aload_n 0, 1) := by decide +kernel
theorem dX4_walk_1 : decode cX4_walk 1 = .ok (.iconst 0, 1) := by decide +kernel
theorem dX4_walk_2 : decode cX4_walk 2 = .ok (.putfield 46, 3) := by decide +kernel
theorem dX4_walk_5 : decode cX4_walk 5 = .ok (.aload_n 0, 1) := by decide +kernel
theorem dX4_walk_6 : decode cX4_walk 6 = .ok (.lconst 0, 1) := by decide +kernel
theorem dX4_walk_7 : decode cX4_walk 7 = .ok (.putfield 49, 3) := by decide +kernel
theorem dX4_walk_10 : decode cX4_walk 10 = .ok (.aload_n 0, 1) := by decide +kernel
theorem dX4_walk_11 : decode cX4_walk 11 = .ok (.lconst 1, 1) := by decide +kernel
theorem dX4_walk_12 : decode cX4_walk 12 = .ok (.putfield 53, 3) := by decide +kernel
theorem dX4_walk_15 : decode cX4_walk 15 = .ok (.aload_n 0, 1) := by decide +kernel
theorem dX4_walk_16 : decode cX4_walk 16 = .ok (.lconst 1, 1) := by decide +kernel
theorem dX4_walk_17 : decode cX4_walk 17 = .ok (.putfield 56, 3) := by decide +kernel
theorem dX4_walk_20 : decode cX4_walk 20 = .ok (.aload_n 0, 1) := by decide +kernel
theorem dX4_walk_21 : decode cX4_walk 21 = .ok (.lconst 0, 1) := by decide +kernel
theorem dX4_walk_22 : decode cX4_walk 22 = .ok (.putfield 59, 3) := by decide +kernel
theorem dX4_walk_25 : decode cX4_walk 25 = .ok (.aload_n 0, 1) := by decide +kernel
theorem dX4_walk_26 : decode cX4_walk 26 = .ok (.getfield 7, 3) := by decide +kernel
theorem dX4_walk_29 : decode cX4_walk 29 = .ok (.ifCond .le 7, 3) := by decide +kernel
theorem dX4_walk_32 : decode cX4_walk 32 = .ok (.iconst 1, 1) := by decide +kernel
theorem dX4_walk_33 : decode cX4_walk 33 = .ok (.goto 4, 3) := by decide +kernel
theorem dX4_walk_36 : decode cX4_walk 36 = .ok (.iconst 0, 1) := by decide +kernel
theorem dX4_walk_37 : decode cX4_walk 37 = .ok (.istore_n 1, 1) := by decide +kernel
theorem dX4_walk_38 : decode cX4_walk 38 = .ok (.iload_n 1, 1) := by decide +kernel
theorem dX4_walk_39 : decode cX4_walk 39 = .ok (.ifCond .eq 278, 3) := by decide +kernel
theorem dX4_walk_42 : decode cX4_walk 42 = .ok (.aload_n 0, 1) := by decide +kernel
theorem dX4_walk_43 : decode cX4_walk 43 = .ok (.getfield 49, 3) := by decide +kernel
theorem dX4_walk_46 : decode cX4_walk 46 = .ok (.aload_n 0, 1) := by decide +kernel
theorem dX4_walk_47 : decode cX4_walk 47 = .ok (.getfield 56, 3) := by decide +kernel
theorem dX4_walk_50 : decode cX4_walk 50 = .ok (.ladd, 1) := by decide +kernel
theorem dX4_walk_51 : decode cX4_walk 51 = .ok (.lstore_n 2, 1) := by decide +kernel
theorem dX4_walk_52 : decode cX4_walk 52 = .ok (.aload_n 0, 1) := by decide +kernel
theorem dX4_walk_53 : decode cX4_walk 53 = .ok (.getfield 53, 3) := by decide +kernel
theorem dX4_walk_56 : decode cX4_walk 56 = .ok (.aload_n 0, 1) := by decide +kernel
theorem dX4_walk_57 : decode cX4_walk 57 = .ok (.getfield 59, 3) := by decide +kernel
theorem dX4_walk_60 : decode cX4_walk 60 = .ok (.ladd, 1) := by decide +kernel
theorem dX4_walk_61 : decode cX4_walk 61 = .ok (.lstore 4, 2) := by decide +kernel
theorem dX4_walk_63 : decode cX4_walk 63 = .ok (.aload_n 0, 1) := by decide +kernel
theorem dX4_walk_64 : decode cX4_walk 64 = .ok (.getfield 7, 3) := by decide +kernel
theorem dX4_walk_67 : decode cX4_walk 67 = .ok (.i2l, 1) := by decide +kernel
theorem dX4_walk_68 : decode cX4_walk 68 = .ok (.lload 4, 2) := by decide +kernel
theorem dX4_walk_70 : decode cX4_walk 70 = .ok (.lmul, 1) := by decide +kernel
theorem dX4_walk_71 : decode cX4_walk 71 = .ok (.lload_n 2, 1) := by decide +kernel
theorem dX4_walk_72 : decode cX4_walk 72 = .ok (.aload_n 0, 1) := by decide +kernel
theorem dX4_walk_73 : decode cX4_walk 73 = .ok (.getfield 13, 3) := by decide +kernel
theorem dX4_walk_76 : decode cX4_walk 76 = .ok (.i2l, 1) := by decide +kernel
theorem dX4_walk_77 : decode cX4_walk 77 = .ok (.lmul, 1) := by decide +kernel
theorem dX4_walk_78 : decode cX4_walk 78 = .ok (.lsub, 1) := by decide +kernel
theorem dX4_walk_79 : decode cX4_walk 79 = .ok (.lstore 6, 2) := by decide +kernel
theorem dX4_walk_81 : decode cX4_walk 81 = .ok (.lload 6, 2) := by decide +kernel
theorem dX4_walk_83 : decode cX4_walk 83 = .ok (.lconst 0, 1) := by decide +kernel
theorem dX4_walk_84 : decode cX4_walk 84 = .ok (.lcmp, 1) := by decide +kernel
theorem dX4_walk_85 : decode cX4_walk 85 = .ok (.ifCond .eq 7, 3) := by decide +kernel
theorem dX4_walk_88 : decode cX4_walk 88 = .ok (.iconst 1, 1) := by decide +kernel
theorem dX4_walk_89 : decode cX4_walk 89 = .ok (.goto 4, 3) := by decide +kernel
theorem dX4_walk_92 : decode cX4_walk 92 = .ok (.iconst 0, 1) := by decide +kernel
theorem dX4_walk_93 : decode cX4_walk 93 = .ok (.istore_n 1, 1) := by decide +kernel
theorem dX4_walk_94 : decode cX4_walk 94 = .ok (.lload 6, 2) := by decide +kernel
theorem dX4_walk_96 : decode cX4_walk 96 = .ok (.lconst 0, 1) := by decide +kernel
theorem dX4_walk_97 : decode cX4_walk 97 = .ok (.lcmp, 1) := by decide +kernel
theorem dX4_walk_98 : decode cX4_walk 98 = .ok (.ifCond .le 107, 3) := by decide +kernel
theorem dX4_walk_101 : decode cX4_walk 101 = .ok (.aload_n 0, 1) := by decide +kernel
theorem dX4_walk_102 : decode cX4_walk 102 = .ok (.getfield 7, 3) := by decide +kernel
theorem dX4_walk_105 : decode cX4_walk 105 = .ok (.i2l, 1) := by decide +kernel
theorem dX4_walk_106 : decode cX4_walk 106 = .ok (.aload_n 0, 1) := by decide +kernel
theorem dX4_walk_107 : decode cX4_walk 107 = .ok (.getfield 53, 3) := by decide +kernel
theorem dX4_walk_110 : decode cX4_walk 110 = .ok (.lmul, 1) := by decide +kernel
theorem dX4_walk_111 : decode cX4_walk 111 = .ok (.aload_n 0, 1) := by decide +kernel
theorem dX4_walk_112 : decode cX4_walk 112 = .ok (.getfield 49, 3) := by decide +kernel
theorem dX4_walk_115 : decode cX4_walk 115 = .ok (.aload_n 0, 1) := by decide +kernel
theorem dX4_walk_116 : decode cX4_walk 116 = .ok (.getfield 13, 3) := by decide +kernel
theorem dX4_walk_119 : decode cX4_walk 119 = .ok (.i2l, 1) := by decide +kernel
theorem dX4_walk_120 : decode cX4_walk 120 = .ok (.lmul, 1) := by decide +kernel
theorem dX4_walk_121 : decode cX4_walk 121 = .ok (.lsub, 1) := by decide +kernel
theorem dX4_walk_122 : decode cX4_walk 122 = .ok (.aload_n 0, 1) := by decide +kernel
theorem dX4_walk_123 : decode cX4_walk 123 = .ok (.getfield 56, 3) := by decide +kernel
theorem dX4_walk_126 : decode cX4_walk 126 = .ok (.aload_n 0, 1) := by decide +kernel
theorem dX4_walk_127 : decode cX4_walk 127 = .ok (.getfield 13, 3) := by decide +kernel
theorem dX4_walk_130 : decode cX4_walk 130 = .ok (.i2l, 1) := by decide +kernel
theorem dX4_walk_131 : decode cX4_walk 131 = .ok (.lmul, 1) := by decide +kernel
theorem dX4_walk_132 : decode cX4_walk 132 = .ok (.aload_n 0, 1) := by decide +kernel
theorem dX4_walk_133 : decode cX4_walk 133 = .ok (.getfield 7, 3) := by decide +kernel
theorem dX4_walk_136 : decode cX4_walk 136 = .ok (.i2l, 1) := by decide +kernel
theorem dX4_walk_137 : decode cX4_walk 137 = .ok (.aload_n 0, 1) := by decide +kernel
theorem dX4_walk_138 : decode cX4_walk 138 = .ok (.getfield 59, 3) := by decide +kernel
theorem dX4_walk_141 : decode cX4_walk 141 = .ok (.lmul, 1) := by decide +kernel
theorem dX4_walk_142 : decode cX4_walk 142 = .ok (.lsub, 1) := by decide +kernel
theorem dX4_walk_143 : decode cX4_walk 143 = .ok (.invokestatic 62, 3) := by decide +kernel
theorem dX4_walk_146 : decode cX4_walk 146 = .ok (.lstore 8, 2) := by decide +kernel
theorem dX4_walk_148 : decode cX4_walk 148 = .ok (.aload_n 0, 1) := by decide +kernel
theorem dX4_walk_149 : decode cX4_walk 149 = .ok (.aload_n 0, 1) := by decide +kernel
theorem dX4_walk_150 : decode cX4_walk 150 = .ok (.getfield 49, 3) := by decide +kernel
theorem dX4_walk_153 : decode cX4_walk 153 = .ok (.lload 8, 2) := by decide +kernel
theorem dX4_walk_155 : decode cX4_walk 155 = .ok (.aload_n 0, 1) := by decide +kernel
theorem dX4_walk_156 : decode cX4_walk 156 = .ok (.getfield 56, 3) := by decide +kernel
theorem dX4_walk_159 : decode cX4_walk 159 = .ok (.lmul, 1) := by decide +kernel
theorem dX4_walk_160 : decode cX4_walk 160 = .ok (.ladd, 1) := by decide +kernel
theorem dX4_walk_161 : decode cX4_walk 161 = .ok (.putfield 49, 3) := by decide +kernel
theorem dX4_walk_164 : decode cX4_walk 164 = .ok (.aload_n 0, 1) := by decide +kernel
theorem dX4_walk_165 : decode cX4_walk 165 = .ok (.aload_n 0, 1) := by decide +kernel
theorem dX4_walk_166 : decode cX4_walk 166 = .ok (.getfield 53, 3) := by decide +kernel
theorem dX4_walk_169 : decode cX4_walk 169 = .ok (.lload 8, 2) := by decide +kernel
theorem dX4_walk_171 : decode cX4_walk 171 = .ok (.aload_n 0, 1) := by decide +kernel
theorem dX4_walk_172 : decode cX4_walk 172 = .ok (.getfield 59, 3) := by decide +kernel
theorem dX4_walk_175 : decode cX4_walk 175 = .ok (.lmul, 1) := by decide +kernel
theorem dX4_walk_176 : decode cX4_walk 176 = .ok (.ladd, 1) := by decide +kernel
theorem dX4_walk_177 : decode cX4_walk 177 = .ok (.putfield 53, 3) := by decide +kernel
theorem dX4_walk_180 : decode cX4_walk 180 = .ok (.aload_n 0, 1) := by decide +kernel
theorem dX4_walk_181 : decode cX4_walk 181 = .ok (.getfield 20, 3) := by decide +kernel
theorem dX4_walk_184 : decode cX4_walk 184 = .ok (.aload_n 0, 1) := by decide +kernel
theorem dX4_walk_185 : decode cX4_walk 185 = .ok (.getfield 46, 3) := by decide +kernel
theorem dX4_walk_188 : decode cX4_walk 188 = .ok (.lload 8, 2) := by decide +kernel
theorem dX4_walk_190 : decode cX4_walk 190 = .ok (.l2i, 1) := by decide +kernel
theorem dX4_walk_191 : decode cX4_walk 191 = .ok (.iastore, 1) := by decide +kernel
theorem dX4_walk_192 : decode cX4_walk 192 = .ok (.aload_n 0, 1) := by decide +kernel
theorem dX4_walk_193 : decode cX4_walk 193 = .ok (.dup, 1) := by decide +kernel
theorem dX4_walk_194 : decode cX4_walk 194 = .ok (.getfield 46, 3) := by decide +kernel
theorem dX4_walk_197 : decode cX4_walk 197 = .ok (.iconst 1, 1) := by decide +kernel
theorem dX4_walk_198 : decode cX4_walk 198 = .ok (.iadd, 1) := by decide +kernel
theorem dX4_walk_199 : decode cX4_walk 199 = .ok (.putfield 46, 3) := by decide +kernel
theorem dX4_walk_202 : decode cX4_walk 202 = .ok (.goto 112, 3) := by decide +kernel
theorem dX4_walk_205 : decode cX4_walk 205 = .ok (.lload 6, 2) := by decide +kernel
theorem dX4_walk_207 : decode cX4_walk 207 = .ok (.lconst 0, 1) := by decide +kernel
theorem dX4_walk_208 : decode cX4_walk 208 = .ok (.lcmp, 1) := by decide +kernel
theorem dX4_walk_209 : decode cX4_walk 209 = .ok (.ifCond .ge 105, 3) := by decide +kernel
theorem dX4_walk_212 : decode cX4_walk 212 = .ok (.aload_n 0, 1) := by decide +kernel
theorem dX4_walk_213 : decode cX4_walk 213 = .ok (.getfield 56, 3) := by decide +kernel
theorem dX4_walk_216 : decode cX4_walk 216 = .ok (.aload_n 0, 1) := by decide +kernel
theorem dX4_walk_217 : decode cX4_walk 217 = .ok (.getfield 13, 3) := by decide +kernel
theorem dX4_walk_220 : decode cX4_walk 220 = .ok (.i2l, 1) := by decide +kernel
theorem dX4_walk_221 : decode cX4_walk 221 = .ok (.lmul, 1) := by decide +kernel
theorem dX4_walk_222 : decode cX4_walk 222 = .ok (.aload_n 0, 1) := by decide +kernel
theorem dX4_walk_223 : decode cX4_walk 223 = .ok (.getfield 7, 3) := by decide +kernel
theorem dX4_walk_226 : decode cX4_walk 226 = .ok (.i2l, 1) := by decide +kernel
theorem dX4_walk_227 : decode cX4_walk 227 = .ok (.aload_n 0, 1) := by decide +kernel
theorem dX4_walk_228 : decode cX4_walk 228 = .ok (.getfield 59, 3) := by decide +kernel
theorem dX4_walk_231 : decode cX4_walk 231 = .ok (.lmul, 1) := by decide +kernel
theorem dX4_walk_232 : decode cX4_walk 232 = .ok (.lsub, 1) := by decide +kernel
theorem dX4_walk_233 : decode cX4_walk 233 = .ok (.aload_n 0, 1) := by decide +kernel
theorem dX4_walk_234 : decode cX4_walk 234 = .ok (.getfield 7, 3) := by decide +kernel
theorem dX4_walk_237 : decode cX4_walk 237 = .ok (.i2l, 1) := by decide +kernel
theorem dX4_walk_238 : decode cX4_walk 238 = .ok (.aload_n 0, 1) := by decide +kernel
theorem dX4_walk_239 : decode cX4_walk 239 = .ok (.getfield 53, 3) := by decide +kernel
theorem dX4_walk_242 : decode cX4_walk 242 = .ok (.lmul, 1) := by decide +kernel
theorem dX4_walk_243 : decode cX4_walk 243 = .ok (.aload_n 0, 1) := by decide +kernel
theorem dX4_walk_244 : decode cX4_walk 244 = .ok (.getfield 49, 3) := by decide +kernel
theorem dX4_walk_247 : decode cX4_walk 247 = .ok (.aload_n 0, 1) := by decide +kernel
theorem dX4_walk_248 : decode cX4_walk 248 = .ok (.getfield 13, 3) := by decide +kernel
theorem dX4_walk_251 : decode cX4_walk 251 = .ok (.i2l, 1) := by decide +kernel
theorem dX4_walk_252 : decode cX4_walk 252 = .ok (.lmul, 1) := by decide +kernel
theorem dX4_walk_253 : decode cX4_walk 253 = .ok (.lsub, 1) := by decide +kernel
theorem dX4_walk_254 : decode cX4_walk 254 = .ok (.invokestatic 62, 3) := by decide +kernel
theorem dX4_walk_257 : decode cX4_walk 257 = .ok (.lstore 8, 2) := by decide +kernel
theorem dX4_walk_259 : decode cX4_walk 259 = .ok (.aload_n 0, 1) := by decide +kernel
theorem dX4_walk_260 : decode cX4_walk 260 = .ok (.aload_n 0, 1) := by decide +kernel
theorem dX4_walk_261 : decode cX4_walk 261 = .ok (.getfield 56, 3) := by decide +kernel
theorem dX4_walk_264 : decode cX4_walk 264 = .ok (.lload 8, 2) := by decide +kernel
theorem dX4_walk_266 : decode cX4_walk 266 = .ok (.aload_n 0, 1) := by decide +kernel
theorem dX4_walk_267 : decode cX4_walk 267 = .ok (.getfield 49, 3) := by decide +kernel
theorem dX4_walk_270 : decode cX4_walk 270 = .ok (.lmul, 1) := by decide +kernel
theorem dX4_walk_271 : decode cX4_walk 271 = .ok (.ladd, 1) := by decide +kernel
theorem dX4_walk_272 : decode cX4_walk 272 = .ok (.putfield 56, 3) := by decide +kernel
theorem dX4_walk_275 : decode cX4_walk 275 = .ok (.aload_n 0, 1) := by decide +kernel
theorem dX4_walk_276 : decode cX4_walk 276 = .ok (.aload_n 0, 1) := by decide +kernel
theorem dX4_walk_277 : decode cX4_walk 277 = .ok (.getfield 59, 3) := by decide +kernel
theorem dX4_walk_280 : decode cX4_walk 280 = .ok (.lload 8, 2) := by decide +kernel
theorem dX4_walk_282 : decode cX4_walk 282 = .ok (.aload_n 0, 1) := by decide +kernel
theorem dX4_walk_283 : decode cX4_walk 283 = .ok (.getfield 53, 3) := by decide +kernel
theorem dX4_walk_286 : decode cX4_walk 286 = .ok (.lmul, 1) := by decide +kernel
theorem dX4_walk_287 : decode cX4_walk 287 = .ok (.ladd, 1) := by decide +kernel
theorem dX4_walk_288 : decode cX4_walk 288 = .ok (.putfield 59, 3) := by decide +kernel
theorem dX4_walk_291 : decode cX4_walk 291 = .ok (.aload_n 0, 1) := by decide +kernel
theorem dX4_walk_292 : decode cX4_walk 292 = .ok (.getfield 20, 3) := by decide +kernel
theorem dX4_walk_295 : decode cX4_walk 295 = .ok (.aload_n 0, 1) := by decide +kernel
theorem dX4_walk_296 : decode cX4_walk 296 = .ok (.getfield 46, 3) := by decide +kernel
theorem dX4_walk_299 : decode cX4_walk 299 = .ok (.lload 8, 2) := by decide +kernel
theorem dX4_walk_301 : decode cX4_walk 301 = .ok (.lneg, 1) := by decide +kernel
theorem dX4_walk_302 : decode cX4_walk 302 = .ok (.l2i, 1) := by decide +kernel
theorem dX4_walk_303 : decode cX4_walk 303 = .ok (.iastore, 1) := by decide +kernel
theorem dX4_walk_304 : decode cX4_walk 304 = .ok (.aload_n 0, 1) := by decide +kernel
theorem dX4_walk_305 : decode cX4_walk 305 = .ok (.dup, 1) := by decide +kernel
theorem dX4_walk_306 : decode cX4_walk 306 = .ok (.getfield 46, 3) := by decide +kernel
theorem dX4_walk_309 : decode cX4_walk 309 = .ok (.iconst 1, 1) := by decide +kernel
theorem dX4_walk_310 : decode cX4_walk 310 = .ok (.iadd, 1) := by decide +kernel
theorem dX4_walk_311 : decode cX4_walk 311 = .ok (.putfield 46, 3) := by decide +kernel
theorem dX4_walk_314 : decode cX4_walk 314 = .ok (.goto (-276), 3) := by decide +kernel
theorem dX4_walk_317 : decode cX4_walk 317 = .ok (.return_, 1) := by decide +kernel
theorem dX4_steps_0 : decode cX4_steps 0 = .ok (.lload_n 0, 1) := by decide +kernel
theorem dX4_steps_1 : decode cX4_steps 1 = .ok (.lconst 1, 1) := by decide +kernel
theorem dX4_steps_2 : decode cX4_steps 2 = .ok (.lsub, 1) := by decide +kernel
theorem dX4_steps_3 : decode cX4_steps 3 = .ok (.lload_n 2, 1) := by decide +kernel
theorem dX4_steps_4 : decode cX4_steps 4 = .ok (.ldiv, 1) := by decide +kernel
theorem dX4_steps_5 : decode cX4_steps 5 = .ok (.lreturn, 1) := by decide +kernel
set_option maxRecDepth 20000 in
theorem ggX4_way_X4_walk : GoodIn wsX4_way wsX4_walk := goodIn_r _ [9, 3, 10, 11, 12, 13, 2, 14, 4, 15, 16, 8, 17, 18, 19, 20, 21, 22, 23, 24, 25, 26, 27, 28] (by decide +kernel) (by decide +kernel)
set_option maxRecDepth 20000 in
theorem gX4_way_X4_walk : GoodIn wsX4_way (wsV RX4 65 RX4 yX4_walk wsX4_walk) := goodIn_app (goodIn_of _ (by decide +kernel)) ggX4_way_X4_walk
theorem dX4_way_0 : decode cX4_way 0 = .ok (.aload_n 0, 1) := by decide +kernel
theorem dX4_way_1 : decode cX4_way 1 = .ok (.iconst 0, 1) := by decide +kernel
theorem dX4_way_2 : decode cX4_way 2 = .ok (.putfield 23, 3) := by decide +kernel
theorem dX4_way_5 : decode cX4_way 5 = .ok (.aload_n 0, 1) := by decide +kernel
theorem dX4_way_6 : decode cX4_way 6 = .ok (.getfield 7, 3) := by decide +kernel
theorem dX4_way_9 : decode cX4_way 9 = .ok (.ifCond .eq 12, 3) := by decide +kernel
theorem dX4_way_12 : decode cX4_way 12 = .ok (.iload_n 1, 1) := by decide +kernel
theorem dX4_way_13 : decode cX4_way 13 = .ok (.ifCond .eq 10, 3) := by decide +kernel
theorem dX4_way_16 : decode cX4_way 16 = .ok (.iload_n 1, 1) := by decide +kernel
theorem dX4_way_17 : decode cX4_way 17 = .ok (.iconst 1, 1) := by decide +kernel
theorem dX4_way_18 : decode cX4_way 18 = .ok (.if_icmp .eq 5, 3) := by decide +kernel
theorem dX4_way_21 : decode cX4_way 21 = .ok (.iconst (-1), 1) := by decide +kernel
theorem dX4_way_22 : decode cX4_way 22 = .ok (.ireturn, 1) := by decide +kernel
theorem dX4_way_23 : decode cX4_way 23 = .ok (.aload_n 0, 1) := by decide +kernel
theorem dX4_way_24 : decode cX4_way 24 = .ok (.invokevirtual 65, 3) := by decide +kernel
theorem dX4_way_27 : decode cX4_way 27 = .ok (.iconst 0, 1) := by decide +kernel
theorem dX4_way_28 : decode cX4_way 28 = .ok (.istore_n 2, 1) := by decide +kernel
theorem dX4_way_29 : decode cX4_way 29 = .ok (.iconst 0, 1) := by decide +kernel
theorem dX4_way_30 : decode cX4_way 30 = .ok (.istore_n 3, 1) := by decide +kernel
theorem dX4_way_31 : decode cX4_way 31 = .ok (.iload_n 3, 1) := by decide +kernel
theorem dX4_way_32 : decode cX4_way 32 = .ok (.aload_n 0, 1) := by decide +kernel
theorem dX4_way_33 : decode cX4_way 33 = .ok (.getfield 46, 3) := by decide +kernel
theorem dX4_way_36 : decode cX4_way 36 = .ok (.if_icmp .ge 37, 3) := by decide +kernel
theorem dX4_way_39 : decode cX4_way 39 = .ok (.iload_n 2, 1) := by decide +kernel
theorem dX4_way_40 : decode cX4_way 40 = .ok (.aload_n 0, 1) := by decide +kernel
theorem dX4_way_41 : decode cX4_way 41 = .ok (.getfield 20, 3) := by decide +kernel
theorem dX4_way_44 : decode cX4_way 44 = .ok (.iload_n 3, 1) := by decide +kernel
theorem dX4_way_45 : decode cX4_way 45 = .ok (.iaload, 1) := by decide +kernel
theorem dX4_way_46 : decode cX4_way 46 = .ok (.ifCond .ge 13, 3) := by decide +kernel
theorem dX4_way_49 : decode cX4_way 49 = .ok (.aload_n 0, 1) := by decide +kernel
theorem dX4_way_50 : decode cX4_way 50 = .ok (.getfield 20, 3) := by decide +kernel
theorem dX4_way_53 : decode cX4_way 53 = .ok (.iload_n 3, 1) := by decide +kernel
theorem dX4_way_54 : decode cX4_way 54 = .ok (.iaload, 1) := by decide +kernel
theorem dX4_way_55 : decode cX4_way 55 = .ok (.ineg, 1) := by decide +kernel
theorem dX4_way_56 : decode cX4_way 56 = .ok (.goto 9, 3) := by decide +kernel
theorem dX4_way_59 : decode cX4_way 59 = .ok (.aload_n 0, 1) := by decide +kernel
theorem dX4_way_60 : decode cX4_way 60 = .ok (.getfield 20, 3) := by decide +kernel
theorem dX4_way_63 : decode cX4_way 63 = .ok (.iload_n 3, 1) := by decide +kernel
theorem dX4_way_64 : decode cX4_way 64 = .ok (.iaload, 1) := by decide +kernel
theorem dX4_way_65 : decode cX4_way 65 = .ok (.iadd, 1) := by decide +kernel
theorem dX4_way_66 : decode cX4_way 66 = .ok (.istore_n 2, 1) := by decide +kernel
theorem dX4_way_67 : decode cX4_way 67 = .ok (.iinc 3 1, 3) := by decide +kernel
theorem dX4_way_70 : decode cX4_way 70 = .ok (.goto (-39), 3) := by decide +kernel
theorem dX4_way_73 : decode cX4_way 73 = .ok (.iload_n 1, 1) := by decide +kernel
theorem dX4_way_74 : decode cX4_way 74 = .ok (.ifCond .ne 7, 3) := by decide +kernel
theorem dX4_way_77 : decode cX4_way 77 = .ok (.iload_n 2, 1) := by decide +kernel
theorem dX4_way_78 : decode cX4_way 78 = .ok (.goto 7, 3) := by decide +kernel
theorem dX4_way_81 : decode cX4_way 81 = .ok (.aload_n 0, 1) := by decide +kernel
theorem dX4_way_82 : decode cX4_way 82 = .ok (.getfield 46, 3) := by decide +kernel
theorem dX4_way_85 : decode cX4_way 85 = .ok (.ireturn, 1) := by decide +kernel
set_option maxRecDepth 20000 in
theorem ggX4_run_X4_walk : GoodIn wsX4_run wsX4_walk := goodIn_r _ [9, 3, 10, 11, 12, 13, 2, 14, 4, 15, 16, 8, 17, 18, 19, 20, 21, 22, 23, 24, 25, 26, 27, 28] (by decide +kernel) (by decide +kernel)
set_option maxRecDepth 20000 in
theorem gX4_run_X4_walk : GoodIn wsX4_run (wsV RX4 65 RX4 yX4_walk wsX4_walk) := goodIn_app (goodIn_of _ (by decide +kernel)) ggX4_run_X4_walk
theorem dX4_run_0 : decode cX4_run 0 = .ok (.aload_n 0, 1) := by decide +kernel
theorem dX4_run_1 : decode cX4_run 1 = .ok (.iconst 0, 1) := by decide +kernel
theorem dX4_run_2 : decode cX4_run 2 = .ok (.putfield 23, 3) := by decide +kernel
theorem dX4_run_5 : decode cX4_run 5 = .ok (.aload_n 0, 1) := by decide +kernel
theorem dX4_run_6 : decode cX4_run 6 = .ok (.getfield 7, 3) := by decide +kernel
theorem dX4_run_9 : decode cX4_run 9 = .ok (.ifCond .ne 5, 3) := by decide +kernel
theorem dX4_run_12 : decode cX4_run 12 = .ok (.iconst 0, 1) := by decide +kernel
theorem dX4_run_13 : decode cX4_run 13 = .ok (.ireturn, 1) := by decide +kernel
theorem dX4_run_14 : decode cX4_run 14 = .ok (.aload_n 0, 1) := by decide +kernel
theorem dX4_run_15 : decode cX4_run 15 = .ok (.invokevirtual 65, 3) := by decide +kernel
theorem dX4_run_18 : decode cX4_run 18 = .ok (.iload_n 1, 1) := by decide +kernel
theorem dX4_run_19 : decode cX4_run 19 = .ok (.ifCond .lt 20, 3) := by decide +kernel
theorem dX4_run_22 : decode cX4_run 22 = .ok (.iload_n 1, 1) := by decide +kernel
theorem dX4_run_23 : decode cX4_run 23 = .ok (.aload_n 0, 1) := by decide +kernel
theorem dX4_run_24 : decode cX4_run 24 = .ok (.getfield 46, 3) := by decide +kernel
theorem dX4_run_27 : decode cX4_run 27 = .ok (.if_icmp .ge 12, 3) := by decide +kernel
theorem dX4_run_30 : decode cX4_run 30 = .ok (.aload_n 0, 1) := by decide +kernel
theorem dX4_run_31 : decode cX4_run 31 = .ok (.getfield 20, 3) := by decide +kernel
theorem dX4_run_34 : decode cX4_run 34 = .ok (.iload_n 1, 1) := by decide +kernel
theorem dX4_run_35 : decode cX4_run 35 = .ok (.iaload, 1) := by decide +kernel
theorem dX4_run_36 : decode cX4_run 36 = .ok (.goto 4, 3) := by decide +kernel
theorem dX4_run_39 : decode cX4_run 39 = .ok (.iconst 0, 1) := by decide +kernel
theorem dX4_run_40 : decode cX4_run 40 = .ok (.ireturn, 1) := by decide +kernel
set_option maxRecDepth 20000 in
theorem ggX4_go_X4_in : GoodIn wsX4_go wsX4_in := goodIn_r _ [12] (by decide +kernel) (by decide +kernel)
set_option maxRecDepth 20000 in
theorem gX4_go_X4_in : GoodIn wsX4_go (va_wsS RX4 32 yX4_in wsX4_in) := goodIn_app (goodIn_of _ (by decide +kernel)) ggX4_go_X4_in
set_option maxRecDepth 20000 in
theorem ggX4_go_X4_walk : GoodIn wsX4_go wsX4_walk := goodIn_r _ [16, 17, 4, 7, 5, 8, 3, 6, 18, 19, 20, 11, 21, 22, 23, 24, 25, 26, 27, 28, 29, 30, 31, 32] (by decide +kernel) (by decide +kernel)
set_option maxRecDepth 20000 in
theorem gX4_go_X4_walk : GoodIn wsX4_go (wsV RX4 65 RX4 yX4_walk wsX4_walk) := goodIn_app (goodIn_of _ (by decide +kernel)) ggX4_go_X4_walk
theorem dX4_go_0 : decode cX4_go 0 = .ok (.aload_n 0, 1) := by decide +kernel
theorem dX4_go_1 : decode cX4_go 1 = .ok (.iconst 0, 1) := by decide +kernel
theorem dX4_go_2 : decode cX4_go 2 = .ok (.putfield 23, 3) := by decide +kernel
theorem dX4_go_5 : decode cX4_go 5 = .ok (.iload_n 1, 1) := by decide +kernel
theorem dX4_go_6 : decode cX4_go 6 = .ok (.ifCond .eq 8, 3) := by decide +kernel
theorem dX4_go_9 : decode cX4_go 9 = .ok (.iload_n 1, 1) := by decide +kernel
theorem dX4_go_10 : decode cX4_go 10 = .ok (.iconst 1, 1) := by decide +kernel
theorem dX4_go_11 : decode cX4_go 11 = .ok (.if_icmp .ne 22, 3) := by decide +kernel
theorem dX4_go_14 : decode cX4_go 14 = .ok (.iload_n 2, 1) := by decide +kernel
theorem dX4_go_15 : decode cX4_go 15 = .ok (.i2l, 1) := by decide +kernel
theorem dX4_go_16 : decode cX4_go 16 = .ok (.lconst 0, 1) := by decide +kernel
theorem dX4_go_17 : decode cX4_go 17 = .ok (.ldc2_w 30, 3) := by decide +kernel
theorem dX4_go_20 : decode cX4_go 20 = .ok (.invokestatic 32, 3) := by decide +kernel
theorem dX4_go_23 : decode cX4_go 23 = .ok (.ifCond .eq 10, 3) := by decide +kernel
theorem dX4_go_26 : decode cX4_go 26 = .ok (.aload_n 0, 1) := by decide +kernel
theorem dX4_go_27 : decode cX4_go 27 = .ok (.getfield 7, 3) := by decide +kernel
theorem dX4_go_30 : decode cX4_go 30 = .ok (.ifCond .ne 5, 3) := by decide +kernel
theorem dX4_go_33 : decode cX4_go 33 = .ok (.iconst 0, 1) := by decide +kernel
theorem dX4_go_34 : decode cX4_go 34 = .ok (.ireturn, 1) := by decide +kernel
theorem dX4_go_35 : decode cX4_go 35 = .ok (.aload_n 0, 1) := by decide +kernel
theorem dX4_go_36 : decode cX4_go 36 = .ok (.invokevirtual 65, 3) := by decide +kernel
theorem dX4_go_39 : decode cX4_go 39 = .ok (.aload_n 0, 1) := by decide +kernel
theorem dX4_go_40 : decode cX4_go 40 = .ok (.getfield 7, 3) := by decide +kernel
theorem dX4_go_43 : decode cX4_go 43 = .ok (.i2l, 1) := by decide +kernel
theorem dX4_go_44 : decode cX4_go 44 = .ok (.iload_n 2, 1) := by decide +kernel
theorem dX4_go_45 : decode cX4_go 45 = .ok (.i2l, 1) := by decide +kernel
theorem dX4_go_46 : decode cX4_go 46 = .ok (.iload_n 1, 1) := by decide +kernel
theorem dX4_go_47 : decode cX4_go 47 = .ok (.ifCond .ne 10, 3) := by decide +kernel
theorem dX4_go_50 : decode cX4_go 50 = .ok (.aload_n 0, 1) := by decide +kernel
theorem dX4_go_51 : decode cX4_go 51 = .ok (.getfield 49, 3) := by decide +kernel
theorem dX4_go_54 : decode cX4_go 54 = .ok (.goto 7, 3) := by decide +kernel
theorem dX4_go_57 : decode cX4_go 57 = .ok (.aload_n 0, 1) := by decide +kernel
theorem dX4_go_58 : decode cX4_go 58 = .ok (.getfield 56, 3) := by decide +kernel
theorem dX4_go_61 : decode cX4_go 61 = .ok (.lmul, 1) := by decide +kernel
theorem dX4_go_62 : decode cX4_go 62 = .ok (.ladd, 1) := by decide +kernel
theorem dX4_go_63 : decode cX4_go 63 = .ok (.lstore_n 3, 1) := by decide +kernel
theorem dX4_go_64 : decode cX4_go 64 = .ok (.aload_n 0, 1) := by decide +kernel
theorem dX4_go_65 : decode cX4_go 65 = .ok (.getfield 13, 3) := by decide +kernel
theorem dX4_go_68 : decode cX4_go 68 = .ok (.i2l, 1) := by decide +kernel
theorem dX4_go_69 : decode cX4_go 69 = .ok (.iload_n 2, 1) := by decide +kernel
theorem dX4_go_70 : decode cX4_go 70 = .ok (.i2l, 1) := by decide +kernel
theorem dX4_go_71 : decode cX4_go 71 = .ok (.iload_n 1, 1) := by decide +kernel
theorem dX4_go_72 : decode cX4_go 72 = .ok (.ifCond .ne 10, 3) := by decide +kernel
theorem dX4_go_75 : decode cX4_go 75 = .ok (.aload_n 0, 1) := by decide +kernel
theorem dX4_go_76 : decode cX4_go 76 = .ok (.getfield 53, 3) := by decide +kernel
theorem dX4_go_79 : decode cX4_go 79 = .ok (.goto 7, 3) := by decide +kernel
theorem dX4_go_82 : decode cX4_go 82 = .ok (.aload_n 0, 1) := by decide +kernel
theorem dX4_go_83 : decode cX4_go 83 = .ok (.getfield 59, 3) := by decide +kernel
theorem dX4_go_86 : decode cX4_go 86 = .ok (.lmul, 1) := by decide +kernel
theorem dX4_go_87 : decode cX4_go 87 = .ok (.ladd, 1) := by decide +kernel
theorem dX4_go_88 : decode cX4_go 88 = .ok (.lstore 5, 2) := by decide +kernel
theorem dX4_go_90 : decode cX4_go 90 = .ok (.lload_n 3, 1) := by decide +kernel
theorem dX4_go_91 : decode cX4_go 91 = .ok (.ldc2_w 30, 3) := by decide +kernel
theorem dX4_go_94 : decode cX4_go 94 = .ok (.lcmp, 1) := by decide +kernel
theorem dX4_go_95 : decode cX4_go 95 = .ok (.ifCond .gt 12, 3) := by decide +kernel
theorem dX4_go_98 : decode cX4_go 98 = .ok (.lload 5, 2) := by decide +kernel
theorem dX4_go_100 : decode cX4_go 100 = .ok (.ldc2_w 30, 3) := by decide +kernel
theorem dX4_go_103 : decode cX4_go 103 = .ok (.lcmp, 1) := by decide +kernel
theorem dX4_go_104 : decode cX4_go 104 = .ok (.ifCond .le 5, 3) := by decide +kernel
theorem dX4_go_107 : decode cX4_go 107 = .ok (.iconst 0, 1) := by decide +kernel
theorem dX4_go_108 : decode cX4_go 108 = .ok (.ireturn, 1) := by decide +kernel
theorem dX4_go_109 : decode cX4_go 109 = .ok (.aload_n 0, 1) := by decide +kernel
theorem dX4_go_110 : decode cX4_go 110 = .ok (.lload_n 3, 1) := by decide +kernel
theorem dX4_go_111 : decode cX4_go 111 = .ok (.l2i, 1) := by decide +kernel
theorem dX4_go_112 : decode cX4_go 112 = .ok (.putfield 7, 3) := by decide +kernel
theorem dX4_go_115 : decode cX4_go 115 = .ok (.aload_n 0, 1) := by decide +kernel
theorem dX4_go_116 : decode cX4_go 116 = .ok (.lload 5, 2) := by decide +kernel
theorem dX4_go_118 : decode cX4_go 118 = .ok (.l2i, 1) := by decide +kernel
theorem dX4_go_119 : decode cX4_go 119 = .ok (.putfield 13, 3) := by decide +kernel
theorem dX4_go_122 : decode cX4_go 122 = .ok (.iconst 1, 1) := by decide +kernel
theorem dX4_go_123 : decode cX4_go 123 = .ok (.ireturn, 1) := by decide +kernel
set_option maxRecDepth 20000 in
theorem ggX4_up_X4_walk : GoodIn wsX4_up wsX4_walk := goodIn_r _ [12, 13, 4, 5, 6, 7, 2, 3, 14, 15, 16, 11, 17, 18, 19, 20, 21, 22, 23, 24, 25, 26, 27, 28] (by decide +kernel) (by decide +kernel)
set_option maxRecDepth 20000 in
theorem gX4_up_X4_walk : GoodIn wsX4_up (wsV RX4 65 RX4 yX4_walk wsX4_walk) := goodIn_app (goodIn_of _ (by decide +kernel)) ggX4_up_X4_walk
theorem dX4_up_0 : decode cX4_up 0 = .ok (.aload_n 0, 1) := by decide +kernel
theorem dX4_up_1 : decode cX4_up 1 = .ok (.iconst 0, 1) := by decide +kernel
theorem dX4_up_2 : decode cX4_up 2 = .ok (.putfield 23, 3) := by decide +kernel
theorem dX4_up_5 : decode cX4_up 5 = .ok (.aload_n 0, 1) := by decide +kernel
theorem dX4_up_6 : decode cX4_up 6 = .ok (.getfield 7, 3) := by decide +kernel
theorem dX4_up_9 : decode cX4_up 9 = .ok (.ifCond .eq 19, 3) := by decide +kernel
theorem dX4_up_12 : decode cX4_up 12 = .ok (.aload_n 0, 1) := by decide +kernel
theorem dX4_up_13 : decode cX4_up 13 = .ok (.getfield 7, 3) := by decide +kernel
theorem dX4_up_16 : decode cX4_up 16 = .ok (.iconst 1, 1) := by decide +kernel
theorem dX4_up_17 : decode cX4_up 17 = .ok (.if_icmp .ne 13, 3) := by decide +kernel
theorem dX4_up_20 : decode cX4_up 20 = .ok (.aload_n 0, 1) := by decide +kernel
theorem dX4_up_21 : decode cX4_up 21 = .ok (.getfield 13, 3) := by decide +kernel
theorem dX4_up_24 : decode cX4_up 24 = .ok (.iconst 1, 1) := by decide +kernel
theorem dX4_up_25 : decode cX4_up 25 = .ok (.if_icmp .ne 5, 3) := by decide +kernel
theorem dX4_up_28 : decode cX4_up 28 = .ok (.iconst 0, 1) := by decide +kernel
theorem dX4_up_29 : decode cX4_up 29 = .ok (.ireturn, 1) := by decide +kernel
theorem dX4_up_30 : decode cX4_up 30 = .ok (.aload_n 0, 1) := by decide +kernel
theorem dX4_up_31 : decode cX4_up 31 = .ok (.invokevirtual 65, 3) := by decide +kernel
theorem dX4_up_34 : decode cX4_up 34 = .ok (.aload_n 0, 1) := by decide +kernel
theorem dX4_up_35 : decode cX4_up 35 = .ok (.getfield 49, 3) := by decide +kernel
theorem dX4_up_38 : decode cX4_up 38 = .ok (.aload_n 0, 1) := by decide +kernel
theorem dX4_up_39 : decode cX4_up 39 = .ok (.getfield 53, 3) := by decide +kernel
theorem dX4_up_42 : decode cX4_up 42 = .ok (.ladd, 1) := by decide +kernel
theorem dX4_up_43 : decode cX4_up 43 = .ok (.aload_n 0, 1) := by decide +kernel
theorem dX4_up_44 : decode cX4_up 44 = .ok (.getfield 56, 3) := by decide +kernel
theorem dX4_up_47 : decode cX4_up 47 = .ok (.aload_n 0, 1) := by decide +kernel
theorem dX4_up_48 : decode cX4_up 48 = .ok (.getfield 59, 3) := by decide +kernel
theorem dX4_up_51 : decode cX4_up 51 = .ok (.ladd, 1) := by decide +kernel
theorem dX4_up_52 : decode cX4_up 52 = .ok (.lcmp, 1) := by decide +kernel
theorem dX4_up_53 : decode cX4_up 53 = .ok (.ifCond .le 7, 3) := by decide +kernel
theorem dX4_up_56 : decode cX4_up 56 = .ok (.iconst 1, 1) := by decide +kernel
theorem dX4_up_57 : decode cX4_up 57 = .ok (.goto 4, 3) := by decide +kernel
theorem dX4_up_60 : decode cX4_up 60 = .ok (.iconst 0, 1) := by decide +kernel
theorem dX4_up_61 : decode cX4_up 61 = .ok (.istore_n 1, 1) := by decide +kernel
theorem dX4_up_62 : decode cX4_up 62 = .ok (.aload_n 0, 1) := by decide +kernel
theorem dX4_up_63 : decode cX4_up 63 = .ok (.iload_n 1, 1) := by decide +kernel
theorem dX4_up_64 : decode cX4_up 64 = .ok (.ifCond .eq 10, 3) := by decide +kernel
theorem dX4_up_67 : decode cX4_up 67 = .ok (.aload_n 0, 1) := by decide +kernel
theorem dX4_up_68 : decode cX4_up 68 = .ok (.getfield 49, 3) := by decide +kernel
theorem dX4_up_71 : decode cX4_up 71 = .ok (.goto 7, 3) := by decide +kernel
theorem dX4_up_74 : decode cX4_up 74 = .ok (.aload_n 0, 1) := by decide +kernel
theorem dX4_up_75 : decode cX4_up 75 = .ok (.getfield 56, 3) := by decide +kernel
theorem dX4_up_78 : decode cX4_up 78 = .ok (.l2i, 1) := by decide +kernel
theorem dX4_up_79 : decode cX4_up 79 = .ok (.putfield 7, 3) := by decide +kernel
theorem dX4_up_82 : decode cX4_up 82 = .ok (.aload_n 0, 1) := by decide +kernel
theorem dX4_up_83 : decode cX4_up 83 = .ok (.iload_n 1, 1) := by decide +kernel
theorem dX4_up_84 : decode cX4_up 84 = .ok (.ifCond .eq 10, 3) := by decide +kernel
theorem dX4_up_87 : decode cX4_up 87 = .ok (.aload_n 0, 1) := by decide +kernel
theorem dX4_up_88 : decode cX4_up 88 = .ok (.getfield 53, 3) := by decide +kernel
theorem dX4_up_91 : decode cX4_up 91 = .ok (.goto 7, 3) := by decide +kernel
theorem dX4_up_94 : decode cX4_up 94 = .ok (.aload_n 0, 1) := by decide +kernel
theorem dX4_up_95 : decode cX4_up 95 = .ok (.getfield 59, 3) := by decide +kernel
theorem dX4_up_98 : decode cX4_up 98 = .ok (.l2i, 1) := by decide +kernel
theorem dX4_up_99 : decode cX4_up 99 = .ok (.putfield 13, 3) := by decide +kernel
theorem dX4_up_102 : decode cX4_up 102 = .ok (.iconst 1, 1) := by decide +kernel
theorem dX4_up_103 : decode cX4_up 103 = .ok (.ireturn, 1) := by decide +kernel
set_option maxRecDepth 20000 in
theorem ggX4_near_X4_in : GoodIn wsX4_near wsX4_in := goodIn_r _ [9] (by decide +kernel) (by decide +kernel)
set_option maxRecDepth 20000 in
theorem gX4_near_X4_in : GoodIn wsX4_near (va_wsS RX4 32 yX4_in wsX4_in) := goodIn_app (goodIn_of _ (by decide +kernel)) ggX4_near_X4_in
theorem dX4_near_0 : decode cX4_near 0 = .ok (.aload_n 0, 1) := by decide +kernel
theorem dX4_near_1 : decode cX4_near 1 = .ok (.iload_n 1, 1) := by decide +kernel
theorem dX4_near_2 : decode cX4_near 2 = .ok (.i2l, 1) := by decide +kernel
theorem dX4_near_3 : decode cX4_near 3 = .ok (.lconst 1, 1) := by decide +kernel
theorem dX4_near_4 : decode cX4_near 4 = .ok (.ldc2_w 68, 3) := by decide +kernel
theorem dX4_near_7 : decode cX4_near 7 = .ok (.invokestatic 32, 3) := by decide +kernel
theorem dX4_near_10 : decode cX4_near 10 = .ok (.ifCond .eq 29, 3) := by decide +kernel
theorem dX4_near_13 : decode cX4_near 13 = .ok (.iload_n 2, 1) := by decide +kernel
theorem dX4_near_14 : decode cX4_near 14 = .ok (.i2l, 1) := by decide +kernel
theorem dX4_near_15 : decode cX4_near 15 = .ok (.lconst 0, 1) := by decide +kernel
theorem dX4_near_16 : decode cX4_near 16 = .ok (.ldc2_w 70, 3) := by decide +kernel
theorem dX4_near_19 : decode cX4_near 19 = .ok (.invokestatic 32, 3) := by decide +kernel
theorem dX4_near_22 : decode cX4_near 22 = .ok (.ifCond .eq 17, 3) := by decide +kernel
theorem dX4_near_25 : decode cX4_near 25 = .ok (.iload_n 3, 1) := by decide +kernel
theorem dX4_near_26 : decode cX4_near 26 = .ok (.i2l, 1) := by decide +kernel
theorem dX4_near_27 : decode cX4_near 27 = .ok (.lconst 0, 1) := by decide +kernel
theorem dX4_near_28 : decode cX4_near 28 = .ok (.lconst 1, 1) := by decide +kernel
theorem dX4_near_29 : decode cX4_near 29 = .ok (.invokestatic 32, 3) := by decide +kernel
theorem dX4_near_32 : decode cX4_near 32 = .ok (.ifCond .eq 7, 3) := by decide +kernel
theorem dX4_near_35 : decode cX4_near 35 = .ok (.iconst 0, 1) := by decide +kernel
theorem dX4_near_36 : decode cX4_near 36 = .ok (.goto 4, 3) := by decide +kernel
theorem dX4_near_39 : decode cX4_near 39 = .ok (.iconst 1, 1) := by decide +kernel
theorem dX4_near_40 : decode cX4_near 40 = .ok (.putfield 23, 3) := by decide +kernel
theorem dX4_near_43 : decode cX4_near 43 = .ok (.aload_n 0, 1) := by decide +kernel
theorem dX4_near_44 : decode cX4_near 44 = .ok (.getfield 23, 3) := by decide +kernel
theorem dX4_near_47 : decode cX4_near 47 = .ok (.ifCond .le 5, 3) := by decide +kernel
theorem dX4_near_50 : decode cX4_near 50 = .ok (.iconst 0, 1) := by decide +kernel
theorem dX4_near_51 : decode cX4_near 51 = .ok (.ireturn, 1) := by decide +kernel
theorem dX4_near_52 : decode cX4_near 52 = .ok (.lconst 0, 1) := by decide +kernel
theorem dX4_near_53 : decode cX4_near 53 = .ok (.lstore 4, 2) := by decide +kernel
theorem dX4_near_55 : decode cX4_near 55 = .ok (.lconst 0, 1) := by decide +kernel
theorem dX4_near_56 : decode cX4_near 56 = .ok (.lstore 6, 2) := by decide +kernel
theorem dX4_near_58 : decode cX4_near 58 = .ok (.lconst 0, 1) := by decide +kernel
theorem dX4_near_59 : decode cX4_near 59 = .ok (.lstore 8, 2) := by decide +kernel
theorem dX4_near_61 : decode cX4_near 61 = .ok (.lconst 0, 1) := by decide +kernel
theorem dX4_near_62 : decode cX4_near 62 = .ok (.lstore 10, 2) := by decide +kernel
theorem dX4_near_64 : decode cX4_near 64 = .ok (.lconst 1, 1) := by decide +kernel
theorem dX4_near_65 : decode cX4_near 65 = .ok (.lstore 12, 2) := by decide +kernel
theorem dX4_near_67 : decode cX4_near 67 = .ok (.lload 12, 2) := by decide +kernel
theorem dX4_near_69 : decode cX4_near 69 = .ok (.iload_n 1, 1) := by decide +kernel
theorem dX4_near_70 : decode cX4_near 70 = .ok (.i2l, 1) := by decide +kernel
theorem dX4_near_71 : decode cX4_near 71 = .ok (.lcmp, 1) := by decide +kernel
theorem dX4_near_72 : decode cX4_near 72 = .ok (.ifCond .gt 117, 3) := by decide +kernel
theorem dX4_near_75 : decode cX4_near 75 = .ok (.aload_n 0, 1) := by decide +kernel
theorem dX4_near_76 : decode cX4_near 76 = .ok (.getfield 7, 3) := by decide +kernel
theorem dX4_near_79 : decode cX4_near 79 = .ok (.i2l, 1) := by decide +kernel
theorem dX4_near_80 : decode cX4_near 80 = .ok (.lload 12, 2) := by decide +kernel
theorem dX4_near_82 : decode cX4_near 82 = .ok (.lmul, 1) := by decide +kernel
theorem dX4_near_83 : decode cX4_near 83 = .ok (.aload_n 0, 1) := by decide +kernel
theorem dX4_near_84 : decode cX4_near 84 = .ok (.getfield 13, 3) := by decide +kernel
theorem dX4_near_87 : decode cX4_near 87 = .ok (.i2l, 1) := by decide +kernel
theorem dX4_near_88 : decode cX4_near 88 = .ok (.ldiv, 1) := by decide +kernel
theorem dX4_near_89 : decode cX4_near 89 = .ok (.lstore 14, 2) := by decide +kernel
theorem dX4_near_91 : decode cX4_near 91 = .ok (.lload 6, 2) := by decide +kernel
theorem dX4_near_93 : decode cX4_near 93 = .ok (.lconst 0, 1) := by decide +kernel
theorem dX4_near_94 : decode cX4_near 94 = .ok (.lcmp, 1) := by decide +kernel
theorem dX4_near_95 : decode cX4_near 95 = .ok (.ifCond .eq 17, 3) := by decide +kernel
theorem dX4_near_98 : decode cX4_near 98 = .ok (.lload 14, 2) := by decide +kernel
theorem dX4_near_100 : decode cX4_near 100 = .ok (.lload 6, 2) := by decide +kernel
theorem dX4_near_102 : decode cX4_near 102 = .ok (.lmul, 1) := by decide +kernel
theorem dX4_near_103 : decode cX4_near 103 = .ok (.lload 4, 2) := by decide +kernel
theorem dX4_near_105 : decode cX4_near 105 = .ok (.lload 12, 2) := by decide +kernel
theorem dX4_near_107 : decode cX4_near 107 = .ok (.lmul, 1) := by decide +kernel
theorem dX4_near_108 : decode cX4_near 108 = .ok (.lcmp, 1) := by decide +kernel
theorem dX4_near_109 : decode cX4_near 109 = .ok (.ifCond .le 11, 3) := by decide +kernel
theorem dX4_near_112 : decode cX4_near 112 = .ok (.lload 14, 2) := by decide +kernel
theorem dX4_near_114 : decode cX4_near 114 = .ok (.lstore 4, 2) := by decide +kernel
theorem dX4_near_116 : decode cX4_near 116 = .ok (.lload 12, 2) := by decide +kernel
theorem dX4_near_118 : decode cX4_near 118 = .ok (.lstore 6, 2) := by decide +kernel
theorem dX4_near_120 : decode cX4_near 120 = .ok (.lload 14, 2) := by decide +kernel
theorem dX4_near_122 : decode cX4_near 122 = .ok (.aload_n 0, 1) := by decide +kernel
theorem dX4_near_123 : decode cX4_near 123 = .ok (.getfield 13, 3) := by decide +kernel
theorem dX4_near_126 : decode cX4_near 126 = .ok (.i2l, 1) := by decide +kernel
theorem dX4_near_127 : decode cX4_near 127 = .ok (.lmul, 1) := by decide +kernel
theorem dX4_near_128 : decode cX4_near 128 = .ok (.aload_n 0, 1) := by decide +kernel
theorem dX4_near_129 : decode cX4_near 129 = .ok (.getfield 7, 3) := by decide +kernel
theorem dX4_near_132 : decode cX4_near 132 = .ok (.i2l, 1) := by decide +kernel
theorem dX4_near_133 : decode cX4_near 133 = .ok (.lload 12, 2) := by decide +kernel
theorem dX4_near_135 : decode cX4_near 135 = .ok (.lmul, 1) := by decide +kernel
theorem dX4_near_136 : decode cX4_near 136 = .ok (.lcmp, 1) := by decide +kernel
theorem dX4_near_137 : decode cX4_near 137 = .ok (.ifCond .ne 8, 3) := by decide +kernel
theorem dX4_near_140 : decode cX4_near 140 = .ok (.lload 14, 2) := by decide +kernel
theorem dX4_near_142 : decode cX4_near 142 = .ok (.goto 7, 3) := by decide +kernel
theorem dX4_near_145 : decode cX4_near 145 = .ok (.lload 14, 2) := by decide +kernel
theorem dX4_near_147 : decode cX4_near 147 = .ok (.lconst 1, 1) := by decide +kernel
theorem dX4_near_148 : decode cX4_near 148 = .ok (.ladd, 1) := by decide +kernel
theorem dX4_near_149 : decode cX4_near 149 = .ok (.lstore 16, 2) := by decide +kernel
theorem dX4_near_151 : decode cX4_near 151 = .ok (.lload 10, 2) := by decide +kernel
theorem dX4_near_153 : decode cX4_near 153 = .ok (.lconst 0, 1) := by decide +kernel
theorem dX4_near_154 : decode cX4_near 154 = .ok (.lcmp, 1) := by decide +kernel
theorem dX4_near_155 : decode cX4_near 155 = .ok (.ifCond .eq 17, 3) := by decide +kernel
theorem dX4_near_158 : decode cX4_near 158 = .ok (.lload 16, 2) := by decide +kernel
theorem dX4_near_160 : decode cX4_near 160 = .ok (.lload 10, 2) := by decide +kernel
theorem dX4_near_162 : decode cX4_near 162 = .ok (.lmul, 1) := by decide +kernel
theorem dX4_near_163 : decode cX4_near 163 = .ok (.lload 8, 2) := by decide +kernel
theorem dX4_near_165 : decode cX4_near 165 = .ok (.lload 12, 2) := by decide +kernel
theorem dX4_near_167 : decode cX4_near 167 = .ok (.lmul, 1) := by decide +kernel
theorem dX4_near_168 : decode cX4_near 168 = .ok (.lcmp, 1) := by decide +kernel
theorem dX4_near_169 : decode cX4_near 169 = .ok (.ifCond .ge 11, 3) := by decide +kernel
theorem dX4_near_172 : decode cX4_near 172 = .ok (.lload 16, 2) := by decide +kernel
theorem dX4_near_174 : decode cX4_near 174 = .ok (.lstore 8, 2) := by decide +kernel
theorem dX4_near_176 : decode cX4_near 176 = .ok (.lload 12, 2) := by decide +kernel
theorem dX4_near_178 : decode cX4_near 178 = .ok (.lstore 10, 2) := by decide +kernel
theorem dX4_near_180 : decode cX4_near 180 = .ok (.lload 12, 2) := by decide +kernel
theorem dX4_near_182 : decode cX4_near 182 = .ok (.lconst 1, 1) := by decide +kernel
theorem dX4_near_183 : decode cX4_near 183 = .ok (.ladd, 1) := by decide +kernel
theorem dX4_near_184 : decode cX4_near 184 = .ok (.lstore 12, 2) := by decide +kernel
theorem dX4_near_186 : decode cX4_near 186 = .ok (.goto (-119), 3) := by decide +kernel
theorem dX4_near_189 : decode cX4_near 189 = .ok (.aload_n 0, 1) := by decide +kernel
theorem dX4_near_190 : decode cX4_near 190 = .ok (.getfield 7, 3) := by decide +kernel
theorem dX4_near_193 : decode cX4_near 193 = .ok (.i2l, 1) := by decide +kernel
theorem dX4_near_194 : decode cX4_near 194 = .ok (.lload 6, 2) := by decide +kernel
theorem dX4_near_196 : decode cX4_near 196 = .ok (.lmul, 1) := by decide +kernel
theorem dX4_near_197 : decode cX4_near 197 = .ok (.lload 4, 2) := by decide +kernel
theorem dX4_near_199 : decode cX4_near 199 = .ok (.aload_n 0, 1) := by decide +kernel
theorem dX4_near_200 : decode cX4_near 200 = .ok (.getfield 13, 3) := by decide +kernel
theorem dX4_near_203 : decode cX4_near 203 = .ok (.i2l, 1) := by decide +kernel
theorem dX4_near_204 : decode cX4_near 204 = .ok (.lmul, 1) := by decide +kernel
theorem dX4_near_205 : decode cX4_near 205 = .ok (.lsub, 1) := by decide +kernel
theorem dX4_near_206 : decode cX4_near 206 = .ok (.lload 10, 2) := by decide +kernel
theorem dX4_near_208 : decode cX4_near 208 = .ok (.lmul, 1) := by decide +kernel
theorem dX4_near_209 : decode cX4_near 209 = .ok (.lstore 12, 2) := by decide +kernel
theorem dX4_near_211 : decode cX4_near 211 = .ok (.lload 8, 2) := by decide +kernel
theorem dX4_near_213 : decode cX4_near 213 = .ok (.aload_n 0, 1) := by decide +kernel
theorem dX4_near_214 : decode cX4_near 214 = .ok (.getfield 13, 3) := by decide +kernel
theorem dX4_near_217 : decode cX4_near 217 = .ok (.i2l, 1) := by decide +kernel
theorem dX4_near_218 : decode cX4_near 218 = .ok (.lmul, 1) := by decide +kernel
theorem dX4_near_219 : decode cX4_near 219 = .ok (.aload_n 0, 1) := by decide +kernel
theorem dX4_near_220 : decode cX4_near 220 = .ok (.getfield 7, 3) := by decide +kernel
theorem dX4_near_223 : decode cX4_near 223 = .ok (.i2l, 1) := by decide +kernel
theorem dX4_near_224 : decode cX4_near 224 = .ok (.lload 10, 2) := by decide +kernel
theorem dX4_near_226 : decode cX4_near 226 = .ok (.lmul, 1) := by decide +kernel
theorem dX4_near_227 : decode cX4_near 227 = .ok (.lsub, 1) := by decide +kernel
theorem dX4_near_228 : decode cX4_near 228 = .ok (.lload 6, 2) := by decide +kernel
theorem dX4_near_230 : decode cX4_near 230 = .ok (.lmul, 1) := by decide +kernel
theorem dX4_near_231 : decode cX4_near 231 = .ok (.lstore 14, 2) := by decide +kernel
theorem dX4_near_233 : decode cX4_near 233 = .ok (.iload_n 2, 1) := by decide +kernel
theorem dX4_near_234 : decode cX4_near 234 = .ok (.ifCond .eq 32, 3) := by decide +kernel
theorem dX4_near_237 : decode cX4_near 237 = .ok (.iload_n 2, 1) := by decide +kernel
theorem dX4_near_238 : decode cX4_near 238 = .ok (.iconst 2, 1) := by decide +kernel
theorem dX4_near_239 : decode cX4_near 239 = .ok (.if_icmp .ne 31, 3) := by decide +kernel
theorem dX4_near_242 : decode cX4_near 242 = .ok (.lload 12, 2) := by decide +kernel
theorem dX4_near_244 : decode cX4_near 244 = .ok (.lload 14, 2) := by decide +kernel
theorem dX4_near_246 : decode cX4_near 246 = .ok (.lcmp, 1) := by decide +kernel
theorem dX4_near_247 : decode cX4_near 247 = .ok (.ifCond .lt 19, 3) := by decide +kernel
theorem dX4_near_250 : decode cX4_near 250 = .ok (.lload 12, 2) := by decide +kernel
theorem dX4_near_252 : decode cX4_near 252 = .ok (.lload 14, 2) := by decide +kernel
theorem dX4_near_254 : decode cX4_near 254 = .ok (.lcmp, 1) := by decide +kernel
theorem dX4_near_255 : decode cX4_near 255 = .ok (.ifCond .ne 15, 3) := by decide +kernel
theorem dX4_near_258 : decode cX4_near 258 = .ok (.lload 6, 2) := by decide +kernel
theorem dX4_near_260 : decode cX4_near 260 = .ok (.lload 10, 2) := by decide +kernel
theorem dX4_near_262 : decode cX4_near 262 = .ok (.lcmp, 1) := by decide +kernel
theorem dX4_near_263 : decode cX4_near 263 = .ok (.ifCond .gt 7, 3) := by decide +kernel
theorem dX4_near_266 : decode cX4_near 266 = .ok (.iconst 1, 1) := by decide +kernel
theorem dX4_near_267 : decode cX4_near 267 = .ok (.goto 4, 3) := by decide +kernel
theorem dX4_near_270 : decode cX4_near 270 = .ok (.iconst 0, 1) := by decide +kernel
theorem dX4_near_271 : decode cX4_near 271 = .ok (.istore 16, 2) := by decide +kernel
theorem dX4_near_273 : decode cX4_near 273 = .ok (.iload_n 3, 1) := by decide +kernel
theorem dX4_near_274 : decode cX4_near 274 = .ok (.ifCond .ne 18, 3) := by decide +kernel
theorem dX4_near_277 : decode cX4_near 277 = .ok (.iload 16, 2) := by decide +kernel
theorem dX4_near_279 : decode cX4_near 279 = .ok (.ifCond .eq 8, 3) := by decide +kernel
theorem dX4_near_282 : decode cX4_near 282 = .ok (.lload 4, 2) := by decide +kernel
theorem dX4_near_284 : decode cX4_near 284 = .ok (.goto 20, 3) := by decide +kernel
theorem dX4_near_287 : decode cX4_near 287 = .ok (.lload 8, 2) := by decide +kernel
theorem dX4_near_289 : decode cX4_near 289 = .ok (.goto 15, 3) := by decide +kernel
theorem dX4_near_292 : decode cX4_near 292 = .ok (.iload 16, 2) := by decide +kernel
theorem dX4_near_294 : decode cX4_near 294 = .ok (.ifCond .eq 8, 3) := by decide +kernel
theorem dX4_near_297 : decode cX4_near 297 = .ok (.lload 6, 2) := by decide +kernel
theorem dX4_near_299 : decode cX4_near 299 = .ok (.goto 5, 3) := by decide +kernel
theorem dX4_near_302 : decode cX4_near 302 = .ok (.lload 10, 2) := by decide +kernel
theorem dX4_near_304 : decode cX4_near 304 = .ok (.l2i, 1) := by decide +kernel
theorem dX4_near_305 : decode cX4_near 305 = .ok (.ireturn, 1) := by decide +kernel
set_option maxRecDepth 20000 in
theorem ggX4_between_X4_in : GoodIn wsX4_between wsX4_in := goodIn_r _ [8] (by decide +kernel) (by decide +kernel)
set_option maxRecDepth 20000 in
theorem gX4_between_X4_in : GoodIn wsX4_between (va_wsS RX4 32 yX4_in wsX4_in) := goodIn_app (goodIn_of _ (by decide +kernel)) ggX4_between_X4_in
theorem dX4_between_0 : decode cX4_between 0 = .ok (.iload_n 1, 1) := by decide +kernel
theorem dX4_between_1 : decode cX4_between 1 = .ok (.i2l, 1) := by decide +kernel
theorem dX4_between_2 : decode cX4_between 2 = .ok (.lconst 0, 1) := by decide +kernel
theorem dX4_between_3 : decode cX4_between 3 = .ok (.ldc2_w 72, 3) := by decide +kernel
theorem dX4_between_6 : decode cX4_between 6 = .ok (.invokestatic 32, 3) := by decide +kernel
theorem dX4_between_9 : decode cX4_between 9 = .ok (.ifCond .eq 44, 3) := by decide +kernel
theorem dX4_between_12 : decode cX4_between 12 = .ok (.iload_n 2, 1) := by decide +kernel
theorem dX4_between_13 : decode cX4_between 13 = .ok (.i2l, 1) := by decide +kernel
theorem dX4_between_14 : decode cX4_between 14 = .ok (.lconst 1, 1) := by decide +kernel
theorem dX4_between_15 : decode cX4_between 15 = .ok (.ldc2_w 72, 3) := by decide +kernel
theorem dX4_between_18 : decode cX4_between 18 = .ok (.invokestatic 32, 3) := by decide +kernel
theorem dX4_between_21 : decode cX4_between 21 = .ok (.ifCond .eq 32, 3) := by decide +kernel
theorem dX4_between_24 : decode cX4_between 24 = .ok (.iload_n 3, 1) := by decide +kernel
theorem dX4_between_25 : decode cX4_between 25 = .ok (.i2l, 1) := by decide +kernel
theorem dX4_between_26 : decode cX4_between 26 = .ok (.lconst 0, 1) := by decide +kernel
theorem dX4_between_27 : decode cX4_between 27 = .ok (.ldc2_w 72, 3) := by decide +kernel
theorem dX4_between_30 : decode cX4_between 30 = .ok (.invokestatic 32, 3) := by decide +kernel
theorem dX4_between_33 : decode cX4_between 33 = .ok (.ifCond .eq 20, 3) := by decide +kernel
theorem dX4_between_36 : decode cX4_between 36 = .ok (.iload 4, 2) := by decide +kernel
theorem dX4_between_38 : decode cX4_between 38 = .ok (.i2l, 1) := by decide +kernel
theorem dX4_between_39 : decode cX4_between 39 = .ok (.lconst 1, 1) := by decide +kernel
theorem dX4_between_40 : decode cX4_between 40 = .ok (.ldc2_w 72, 3) := by decide +kernel
theorem dX4_between_43 : decode cX4_between 43 = .ok (.invokestatic 32, 3) := by decide +kernel
theorem dX4_between_46 : decode cX4_between 46 = .ok (.ifCond .eq 7, 3) := by decide +kernel
theorem dX4_between_49 : decode cX4_between 49 = .ok (.iconst 1, 1) := by decide +kernel
theorem dX4_between_50 : decode cX4_between 50 = .ok (.goto 4, 3) := by decide +kernel
theorem dX4_between_53 : decode cX4_between 53 = .ok (.iconst 0, 1) := by decide +kernel
theorem dX4_between_54 : decode cX4_between 54 = .ok (.istore 5, 2) := by decide +kernel
theorem dX4_between_56 : decode cX4_between 56 = .ok (.aload_n 0, 1) := by decide +kernel
theorem dX4_between_57 : decode cX4_between 57 = .ok (.iload 5, 2) := by decide +kernel
theorem dX4_between_59 : decode cX4_between 59 = .ok (.ifCond .eq 7, 3) := by decide +kernel
theorem dX4_between_62 : decode cX4_between 62 = .ok (.iconst 0, 1) := by decide +kernel
theorem dX4_between_63 : decode cX4_between 63 = .ok (.goto 4, 3) := by decide +kernel
theorem dX4_between_66 : decode cX4_between 66 = .ok (.iconst 1, 1) := by decide +kernel
theorem dX4_between_67 : decode cX4_between 67 = .ok (.putfield 23, 3) := by decide +kernel
theorem dX4_between_70 : decode cX4_between 70 = .ok (.aload_n 0, 1) := by decide +kernel
theorem dX4_between_71 : decode cX4_between 71 = .ok (.getfield 23, 3) := by decide +kernel
theorem dX4_between_74 : decode cX4_between 74 = .ok (.ifCond .gt 13, 3) := by decide +kernel
theorem dX4_between_77 : decode cX4_between 77 = .ok (.iload_n 1, 1) := by decide +kernel
theorem dX4_between_78 : decode cX4_between 78 = .ok (.iload 4, 2) := by decide +kernel
theorem dX4_between_80 : decode cX4_between 80 = .ok (.imul, 1) := by decide +kernel
theorem dX4_between_81 : decode cX4_between 81 = .ok (.iload_n 3, 1) := by decide +kernel
theorem dX4_between_82 : decode cX4_between 82 = .ok (.iload_n 2, 1) := by decide +kernel
theorem dX4_between_83 : decode cX4_between 83 = .ok (.imul, 1) := by decide +kernel
theorem dX4_between_84 : decode cX4_between 84 = .ok (.if_icmp .lt 5, 3) := by decide +kernel
theorem dX4_between_87 : decode cX4_between 87 = .ok (.iconst 0, 1) := by decide +kernel
theorem dX4_between_88 : decode cX4_between 88 = .ok (.ireturn, 1) := by decide +kernel
theorem dX4_between_89 : decode cX4_between 89 = .ok (.iconst 1, 1) := by decide +kernel
theorem dX4_between_90 : decode cX4_between 90 = .ok (.istore 6, 2) := by decide +kernel
theorem dX4_between_92 : decode cX4_between 92 = .ok (.iload_n 1, 1) := by decide +kernel
theorem dX4_between_93 : decode cX4_between 93 = .ok (.iload 6, 2) := by decide +kernel
theorem dX4_between_95 : decode cX4_between 95 = .ok (.imul, 1) := by decide +kernel
theorem dX4_between_96 : decode cX4_between 96 = .ok (.iload_n 2, 1) := by decide +kernel
theorem dX4_between_97 : decode cX4_between 97 = .ok (.idiv, 1) := by decide +kernel
theorem dX4_between_98 : decode cX4_between 98 = .ok (.iconst 1, 1) := by decide +kernel
theorem dX4_between_99 : decode cX4_between 99 = .ok (.iadd, 1) := by decide +kernel
theorem dX4_between_100 : decode cX4_between 100 = .ok (.iload 4, 2) := by decide +kernel
theorem dX4_between_102 : decode cX4_between 102 = .ok (.imul, 1) := by decide +kernel
theorem dX4_between_103 : decode cX4_between 103 = .ok (.iload_n 3, 1) := by decide +kernel
theorem dX4_between_104 : decode cX4_between 104 = .ok (.iload 6, 2) := by decide +kernel
theorem dX4_between_106 : decode cX4_between 106 = .ok (.imul, 1) := by decide +kernel
theorem dX4_between_107 : decode cX4_between 107 = .ok (.if_icmp .lt 9, 3) := by decide +kernel
theorem dX4_between_110 : decode cX4_between 110 = .ok (.iinc 6 1, 3) := by decide +kernel
theorem dX4_between_113 : decode cX4_between 113 = .ok (.goto (-21), 3) := by decide +kernel
theorem dX4_between_116 : decode cX4_between 116 = .ok (.aload_n 0, 1) := by decide +kernel
theorem dX4_between_117 : decode cX4_between 117 = .ok (.iload_n 1, 1) := by decide +kernel
theorem dX4_between_118 : decode cX4_between 118 = .ok (.iload 6, 2) := by decide +kernel
theorem dX4_between_120 : decode cX4_between 120 = .ok (.imul, 1) := by decide +kernel
theorem dX4_between_121 : decode cX4_between 121 = .ok (.iload_n 2, 1) := by decide +kernel
theorem dX4_between_122 : decode cX4_between 122 = .ok (.idiv, 1) := by decide +kernel
theorem dX4_between_123 : decode cX4_between 123 = .ok (.iconst 1, 1) := by decide +kernel
theorem dX4_between_124 : decode cX4_between 124 = .ok (.iadd, 1) := by decide +kernel
theorem dX4_between_125 : decode cX4_between 125 = .ok (.putfield 7, 3) := by decide +kernel
theorem dX4_between_128 : decode cX4_between 128 = .ok (.aload_n 0, 1) := by decide +kernel
theorem dX4_between_129 : decode cX4_between 129 = .ok (.iload 6, 2) := by decide +kernel
theorem dX4_between_131 : decode cX4_between 131 = .ok (.putfield 13, 3) := by decide +kernel
theorem dX4_between_134 : decode cX4_between 134 = .ok (.iconst 1, 1) := by decide +kernel
theorem dX4_between_135 : decode cX4_between 135 = .ok (.ireturn, 1) := by decide +kernel
set_option maxRecDepth 20000 in
theorem ggX4_row_X4_in : GoodIn wsX4_row wsX4_in := goodIn_r _ [6] (by decide +kernel) (by decide +kernel)
set_option maxRecDepth 20000 in
theorem gX4_row_X4_in : GoodIn wsX4_row (va_wsS RX4 32 yX4_in wsX4_in) := goodIn_app (goodIn_of _ (by decide +kernel)) ggX4_row_X4_in
set_option maxRecDepth 20000 in
theorem ggX4_row_X4_common : GoodIn wsX4_row wsX4_common := goodIn_r _ [9] (by decide +kernel) (by decide +kernel)
set_option maxRecDepth 20000 in
theorem gX4_row_X4_common : GoodIn wsX4_row (va_wsS RX4 26 yX4_common wsX4_common) := goodIn_app (goodIn_of _ (by decide +kernel)) ggX4_row_X4_common
theorem dX4_row_0 : decode cX4_row 0 = .ok (.aload_n 0, 1) := by decide +kernel
theorem dX4_row_1 : decode cX4_row 1 = .ok (.iconst 0, 1) := by decide +kernel
theorem dX4_row_2 : decode cX4_row 2 = .ok (.putfield 23, 3) := by decide +kernel
theorem dX4_row_5 : decode cX4_row 5 = .ok (.iload_n 1, 1) := by decide +kernel
theorem dX4_row_6 : decode cX4_row 6 = .ok (.i2l, 1) := by decide +kernel
theorem dX4_row_7 : decode cX4_row 7 = .ok (.lconst 1, 1) := by decide +kernel
theorem dX4_row_8 : decode cX4_row 8 = .ok (.ldc2_w 74, 3) := by decide +kernel
theorem dX4_row_11 : decode cX4_row 11 = .ok (.invokestatic 32, 3) := by decide +kernel
theorem dX4_row_14 : decode cX4_row 14 = .ok (.ifCond .ne 5, 3) := by decide +kernel
theorem dX4_row_17 : decode cX4_row 17 = .ok (.iconst (-1), 1) := by decide +kernel
theorem dX4_row_18 : decode cX4_row 18 = .ok (.ireturn, 1) := by decide +kernel
theorem dX4_row_19 : decode cX4_row 19 = .ok (.iconst 1, 1) := by decide +kernel
theorem dX4_row_20 : decode cX4_row 20 = .ok (.istore_n 2, 1) := by decide +kernel
theorem dX4_row_21 : decode cX4_row 21 = .ok (.iconst 1, 1) := by decide +kernel
theorem dX4_row_22 : decode cX4_row 22 = .ok (.istore_n 3, 1) := by decide +kernel
theorem dX4_row_23 : decode cX4_row 23 = .ok (.iload_n 3, 1) := by decide +kernel
theorem dX4_row_24 : decode cX4_row 24 = .ok (.iload_n 1, 1) := by decide +kernel
theorem dX4_row_25 : decode cX4_row 25 = .ok (.if_icmp .gt 45, 3) := by decide +kernel
theorem dX4_row_28 : decode cX4_row 28 = .ok (.iconst 1, 1) := by decide +kernel
theorem dX4_row_29 : decode cX4_row 29 = .ok (.istore 4, 2) := by decide +kernel
theorem dX4_row_31 : decode cX4_row 31 = .ok (.iload 4, 2) := by decide +kernel
theorem dX4_row_33 : decode cX4_row 33 = .ok (.iload_n 3, 1) := by decide +kernel
theorem dX4_row_34 : decode cX4_row 34 = .ok (.if_icmp .gt 30, 3) := by decide +kernel
theorem dX4_row_37 : decode cX4_row 37 = .ok (.iload 4, 2) := by decide +kernel
theorem dX4_row_39 : decode cX4_row 39 = .ok (.i2l, 1) := by decide +kernel
theorem dX4_row_40 : decode cX4_row 40 = .ok (.iload_n 3, 1) := by decide +kernel
theorem dX4_row_41 : decode cX4_row 41 = .ok (.i2l, 1) := by decide +kernel
theorem dX4_row_42 : decode cX4_row 42 = .ok (.invokestatic 26, 3) := by decide +kernel
theorem dX4_row_45 : decode cX4_row 45 = .ok (.lconst 1, 1) := by decide +kernel
theorem dX4_row_46 : decode cX4_row 46 = .ok (.lcmp, 1) := by decide +kernel
theorem dX4_row_47 : decode cX4_row 47 = .ok (.ifCond .ne 9, 3) := by decide +kernel
theorem dX4_row_50 : decode cX4_row 50 = .ok (.iload_n 2, 1) := by decide +kernel
theorem dX4_row_51 : decode cX4_row 51 = .ok (.iconst 1, 1) := by decide +kernel
theorem dX4_row_52 : decode cX4_row 52 = .ok (.iadd, 1) := by decide +kernel
theorem dX4_row_53 : decode cX4_row 53 = .ok (.goto 4, 3) := by decide +kernel
theorem dX4_row_56 : decode cX4_row 56 = .ok (.iload_n 2, 1) := by decide +kernel
theorem dX4_row_57 : decode cX4_row 57 = .ok (.istore_n 2, 1) := by decide +kernel
theorem dX4_row_58 : decode cX4_row 58 = .ok (.iinc 4 1, 3) := by decide +kernel
theorem dX4_row_61 : decode cX4_row 61 = .ok (.goto (-30), 3) := by decide +kernel
theorem dX4_row_64 : decode cX4_row 64 = .ok (.iinc 3 1, 3) := by decide +kernel
theorem dX4_row_67 : decode cX4_row 67 = .ok (.goto (-44), 3) := by decide +kernel
theorem dX4_row_70 : decode cX4_row 70 = .ok (.iload_n 2, 1) := by decide +kernel
theorem dX4_row_71 : decode cX4_row 71 = .ok (.ireturn, 1) := by decide +kernel
set_option maxRecDepth 20000 in
theorem ggX4_pick_X4_row : GoodIn wsX4_pick wsX4_row := goodIn_r _ [7, 8, 9, 10, 11, 6, 12, 13, 14, 15, 16, 17, 18, 19, 20, 21, 22, 23, 24, 25, 26] (by decide +kernel) (by decide +kernel)
set_option maxRecDepth 20000 in
theorem gX4_pick_X4_row : GoodIn wsX4_pick (wsV RX4 76 RX4 yX4_row wsX4_row) := goodIn_app (goodIn_of _ (by decide +kernel)) ggX4_pick_X4_row
theorem dX4_pick_0 : decode cX4_pick 0 = .ok (.aload_n 0, 1) := by decide +kernel
theorem dX4_pick_1 : decode cX4_pick 1 = .ok (.iload_n 1, 1) := by decide +kernel
theorem dX4_pick_2 : decode cX4_pick 2 = .ok (.invokevirtual 76, 3) := by decide +kernel
theorem dX4_pick_5 : decode cX4_pick 5 = .ok (.istore_n 3, 1) := by decide +kernel
theorem dX4_pick_6 : decode cX4_pick 6 = .ok (.iload_n 2, 1) := by decide +kernel
theorem dX4_pick_7 : decode cX4_pick 7 = .ok (.ifCond .lt 8, 3) := by decide +kernel
theorem dX4_pick_10 : decode cX4_pick 10 = .ok (.iload_n 2, 1) := by decide +kernel
theorem dX4_pick_11 : decode cX4_pick 11 = .ok (.iload_n 3, 1) := by decide +kernel
theorem dX4_pick_12 : decode cX4_pick 12 = .ok (.if_icmp .lt 5, 3) := by decide +kernel
theorem dX4_pick_15 : decode cX4_pick 15 = .ok (.iconst 0, 1) := by decide +kernel
theorem dX4_pick_16 : decode cX4_pick 16 = .ok (.ireturn, 1) := by decide +kernel
theorem dX4_pick_17 : decode cX4_pick 17 = .ok (.iconst 0, 1) := by decide +kernel
theorem dX4_pick_18 : decode cX4_pick 18 = .ok (.istore 4, 2) := by decide +kernel
theorem dX4_pick_20 : decode cX4_pick 20 = .ok (.iconst 1, 1) := by decide +kernel
theorem dX4_pick_21 : decode cX4_pick 21 = .ok (.istore 5, 2) := by decide +kernel
theorem dX4_pick_23 : decode cX4_pick 23 = .ok (.iconst 1, 1) := by decide +kernel
theorem dX4_pick_24 : decode cX4_pick 24 = .ok (.istore 6, 2) := by decide +kernel
theorem dX4_pick_26 : decode cX4_pick 26 = .ok (.iload_n 1, 1) := by decide +kernel
theorem dX4_pick_27 : decode cX4_pick 27 = .ok (.istore 7, 2) := by decide +kernel
theorem dX4_pick_29 : decode cX4_pick 29 = .ok (.iconst 0, 1) := by decide +kernel
theorem dX4_pick_30 : decode cX4_pick 30 = .ok (.istore 8, 2) := by decide +kernel
theorem dX4_pick_32 : decode cX4_pick 32 = .ok (.iload 8, 2) := by decide +kernel
theorem dX4_pick_34 : decode cX4_pick 34 = .ok (.iload_n 2, 1) := by decide +kernel
theorem dX4_pick_35 : decode cX4_pick 35 = .ok (.if_icmp .ge 54, 3) := by decide +kernel
theorem dX4_pick_38 : decode cX4_pick 38 = .ok (.iload_n 1, 1) := by decide +kernel
theorem dX4_pick_39 : decode cX4_pick 39 = .ok (.iload 5, 2) := by decide +kernel
theorem dX4_pick_41 : decode cX4_pick 41 = .ok (.iadd, 1) := by decide +kernel
theorem dX4_pick_42 : decode cX4_pick 42 = .ok (.iload 7, 2) := by decide +kernel
theorem dX4_pick_44 : decode cX4_pick 44 = .ok (.idiv, 1) := by decide +kernel
theorem dX4_pick_45 : decode cX4_pick 45 = .ok (.istore 9, 2) := by decide +kernel
theorem dX4_pick_47 : decode cX4_pick 47 = .ok (.iload 9, 2) := by decide +kernel
theorem dX4_pick_49 : decode cX4_pick 49 = .ok (.iload 6, 2) := by decide +kernel
theorem dX4_pick_51 : decode cX4_pick 51 = .ok (.imul, 1) := by decide +kernel
theorem dX4_pick_52 : decode cX4_pick 52 = .ok (.iload 4, 2) := by decide +kernel
theorem dX4_pick_54 : decode cX4_pick 54 = .ok (.isub, 1) := by decide +kernel
theorem dX4_pick_55 : decode cX4_pick 55 = .ok (.istore 10, 2) := by decide +kernel
theorem dX4_pick_57 : decode cX4_pick 57 = .ok (.iload 9, 2) := by decide +kernel
theorem dX4_pick_59 : decode cX4_pick 59 = .ok (.iload 7, 2) := by decide +kernel
theorem dX4_pick_61 : decode cX4_pick 61 = .ok (.imul, 1) := by decide +kernel
theorem dX4_pick_62 : decode cX4_pick 62 = .ok (.iload 5, 2) := by decide +kernel
theorem dX4_pick_64 : decode cX4_pick 64 = .ok (.isub, 1) := by decide +kernel
theorem dX4_pick_65 : decode cX4_pick 65 = .ok (.istore 11, 2) := by decide +kernel
theorem dX4_pick_67 : decode cX4_pick 67 = .ok (.iload 6, 2) := by decide +kernel
theorem dX4_pick_69 : decode cX4_pick 69 = .ok (.istore 4, 2) := by decide +kernel
theorem dX4_pick_71 : decode cX4_pick 71 = .ok (.iload 7, 2) := by decide +kernel
theorem dX4_pick_73 : decode cX4_pick 73 = .ok (.istore 5, 2) := by decide +kernel
theorem dX4_pick_75 : decode cX4_pick 75 = .ok (.iload 10, 2) := by decide +kernel
theorem dX4_pick_77 : decode cX4_pick 77 = .ok (.istore 6, 2) := by decide +kernel
theorem dX4_pick_79 : decode cX4_pick 79 = .ok (.iload 11, 2) := by decide +kernel
theorem dX4_pick_81 : decode cX4_pick 81 = .ok (.istore 7, 2) := by decide +kernel
theorem dX4_pick_83 : decode cX4_pick 83 = .ok (.iinc 8 1, 3) := by decide +kernel
theorem dX4_pick_86 : decode cX4_pick 86 = .ok (.goto (-54), 3) := by decide +kernel
theorem dX4_pick_89 : decode cX4_pick 89 = .ok (.aload_n 0, 1) := by decide +kernel
theorem dX4_pick_90 : decode cX4_pick 90 = .ok (.iload 4, 2) := by decide +kernel
theorem dX4_pick_92 : decode cX4_pick 92 = .ok (.putfield 7, 3) := by decide +kernel
theorem dX4_pick_95 : decode cX4_pick 95 = .ok (.aload_n 0, 1) := by decide +kernel
theorem dX4_pick_96 : decode cX4_pick 96 = .ok (.iload 5, 2) := by decide +kernel
theorem dX4_pick_98 : decode cX4_pick 98 = .ok (.putfield 13, 3) := by decide +kernel
theorem dX4_pick_101 : decode cX4_pick 101 = .ok (.iconst 1, 1) := by decide +kernel
theorem dX4_pick_102 : decode cX4_pick 102 = .ok (.ireturn, 1) := by decide +kernel
set_option maxRecDepth 20000 in
theorem ggX4_place_X4_in : GoodIn wsX4_place wsX4_in := goodIn_r _ [8] (by decide +kernel) (by decide +kernel)
set_option maxRecDepth 20000 in
theorem gX4_place_X4_in : GoodIn wsX4_place (va_wsS RX4 32 yX4_in wsX4_in) := goodIn_app (goodIn_of _ (by decide +kernel)) ggX4_place_X4_in
set_option maxRecDepth 20000 in
theorem ggX4_place_X4_common : GoodIn wsX4_place wsX4_common := goodIn_r _ [11] (by decide +kernel) (by decide +kernel)
set_option maxRecDepth 20000 in
theorem gX4_place_X4_common : GoodIn wsX4_place (va_wsS RX4 26 yX4_common wsX4_common) := goodIn_app (goodIn_of _ (by decide +kernel)) ggX4_place_X4_common
theorem dX4_place_0 : decode cX4_place 0 = .ok (.aload_n 0, 1) := by decide +kernel
theorem dX4_place_1 : decode cX4_place 1 = .ok (.iconst 0, 1) := by decide +kernel
theorem dX4_place_2 : decode cX4_place 2 = .ok (.putfield 23, 3) := by decide +kernel
theorem dX4_place_5 : decode cX4_place 5 = .ok (.iload_n 1, 1) := by decide +kernel
theorem dX4_place_6 : decode cX4_place 6 = .ok (.i2l, 1) := by decide +kernel
theorem dX4_place_7 : decode cX4_place 7 = .ok (.lconst 1, 1) := by decide +kernel
theorem dX4_place_8 : decode cX4_place 8 = .ok (.ldc2_w 74, 3) := by decide +kernel
theorem dX4_place_11 : decode cX4_place 11 = .ok (.invokestatic 32, 3) := by decide +kernel
theorem dX4_place_14 : decode cX4_place 14 = .ok (.ifCond .ne 5, 3) := by decide +kernel
theorem dX4_place_17 : decode cX4_place 17 = .ok (.iconst (-1), 1) := by decide +kernel
theorem dX4_place_18 : decode cX4_place 18 = .ok (.ireturn, 1) := by decide +kernel
theorem dX4_place_19 : decode cX4_place 19 = .ok (.aload_n 0, 1) := by decide +kernel
theorem dX4_place_20 : decode cX4_place 20 = .ok (.getfield 7, 3) := by decide +kernel
theorem dX4_place_23 : decode cX4_place 23 = .ok (.ifCond .le 7, 3) := by decide +kernel
theorem dX4_place_26 : decode cX4_place 26 = .ok (.iconst 1, 1) := by decide +kernel
theorem dX4_place_27 : decode cX4_place 27 = .ok (.goto 4, 3) := by decide +kernel
theorem dX4_place_30 : decode cX4_place 30 = .ok (.iconst 0, 1) := by decide +kernel
theorem dX4_place_31 : decode cX4_place 31 = .ok (.istore_n 2, 1) := by decide +kernel
theorem dX4_place_32 : decode cX4_place 32 = .ok (.iconst 1, 1) := by decide +kernel
theorem dX4_place_33 : decode cX4_place 33 = .ok (.istore_n 3, 1) := by decide +kernel
theorem dX4_place_34 : decode cX4_place 34 = .ok (.iload_n 3, 1) := by decide +kernel
theorem dX4_place_35 : decode cX4_place 35 = .ok (.iload_n 1, 1) := by decide +kernel
theorem dX4_place_36 : decode cX4_place 36 = .ok (.if_icmp .gt 66, 3) := by decide +kernel
theorem dX4_place_39 : decode cX4_place 39 = .ok (.iconst 1, 1) := by decide +kernel
theorem dX4_place_40 : decode cX4_place 40 = .ok (.istore 4, 2) := by decide +kernel
theorem dX4_place_42 : decode cX4_place 42 = .ok (.iload 4, 2) := by decide +kernel
theorem dX4_place_44 : decode cX4_place 44 = .ok (.iload_n 3, 1) := by decide +kernel
theorem dX4_place_45 : decode cX4_place 45 = .ok (.if_icmp .gt 51, 3) := by decide +kernel
theorem dX4_place_48 : decode cX4_place 48 = .ok (.iload 4, 2) := by decide +kernel
theorem dX4_place_50 : decode cX4_place 50 = .ok (.i2l, 1) := by decide +kernel
theorem dX4_place_51 : decode cX4_place 51 = .ok (.aload_n 0, 1) := by decide +kernel
theorem dX4_place_52 : decode cX4_place 52 = .ok (.getfield 13, 3) := by decide +kernel
theorem dX4_place_55 : decode cX4_place 55 = .ok (.i2l, 1) := by decide +kernel
theorem dX4_place_56 : decode cX4_place 56 = .ok (.lmul, 1) := by decide +kernel
theorem dX4_place_57 : decode cX4_place 57 = .ok (.aload_n 0, 1) := by decide +kernel
theorem dX4_place_58 : decode cX4_place 58 = .ok (.getfield 7, 3) := by decide +kernel
theorem dX4_place_61 : decode cX4_place 61 = .ok (.i2l, 1) := by decide +kernel
theorem dX4_place_62 : decode cX4_place 62 = .ok (.iload_n 3, 1) := by decide +kernel
theorem dX4_place_63 : decode cX4_place 63 = .ok (.i2l, 1) := by decide +kernel
theorem dX4_place_64 : decode cX4_place 64 = .ok (.lmul, 1) := by decide +kernel
theorem dX4_place_65 : decode cX4_place 65 = .ok (.lcmp, 1) := by decide +kernel
theorem dX4_place_66 : decode cX4_place 66 = .ok (.ifCond .ge 22, 3) := by decide +kernel
theorem dX4_place_69 : decode cX4_place 69 = .ok (.iload 4, 2) := by decide +kernel
theorem dX4_place_71 : decode cX4_place 71 = .ok (.i2l, 1) := by decide +kernel
theorem dX4_place_72 : decode cX4_place 72 = .ok (.iload_n 3, 1) := by decide +kernel
theorem dX4_place_73 : decode cX4_place 73 = .ok (.i2l, 1) := by decide +kernel
theorem dX4_place_74 : decode cX4_place 74 = .ok (.invokestatic 26, 3) := by decide +kernel
theorem dX4_place_77 : decode cX4_place 77 = .ok (.lconst 1, 1) := by decide +kernel
theorem dX4_place_78 : decode cX4_place 78 = .ok (.lcmp, 1) := by decide +kernel
theorem dX4_place_79 : decode cX4_place 79 = .ok (.ifCond .ne 9, 3) := by decide +kernel
theorem dX4_place_82 : decode cX4_place 82 = .ok (.iload_n 2, 1) := by decide +kernel
theorem dX4_place_83 : decode cX4_place 83 = .ok (.iconst 1, 1) := by decide +kernel
theorem dX4_place_84 : decode cX4_place 84 = .ok (.iadd, 1) := by decide +kernel
theorem dX4_place_85 : decode cX4_place 85 = .ok (.goto 4, 3) := by decide +kernel
theorem dX4_place_88 : decode cX4_place 88 = .ok (.iload_n 2, 1) := by decide +kernel
theorem dX4_place_89 : decode cX4_place 89 = .ok (.istore_n 2, 1) := by decide +kernel
theorem dX4_place_90 : decode cX4_place 90 = .ok (.iinc 4 1, 3) := by decide +kernel
theorem dX4_place_93 : decode cX4_place 93 = .ok (.goto (-51), 3) := by decide +kernel
theorem dX4_place_96 : decode cX4_place 96 = .ok (.iinc 3 1, 3) := by decide +kernel
theorem dX4_place_99 : decode cX4_place 99 = .ok (.goto (-65), 3) := by decide +kernel
theorem dX4_place_102 : decode cX4_place 102 = .ok (.iload_n 2, 1) := by decide +kernel
theorem dX4_place_103 : decode cX4_place 103 = .ok (.ireturn, 1) := by decide +kernel
set_option maxRecDepth 20000 in
theorem ggX4_floors_X4_in : GoodIn wsX4_floors wsX4_in := goodIn_r _ [9] (by decide +kernel) (by decide +kernel)
set_option maxRecDepth 20000 in
theorem gX4_floors_X4_in : GoodIn wsX4_floors (va_wsS RX4 32 yX4_in wsX4_in) := goodIn_app (goodIn_of _ (by decide +kernel)) ggX4_floors_X4_in
theorem dX4_floors_0 : decode cX4_floors 0 = .ok (.aload_n 0, 1) := by decide +kernel
theorem dX4_floors_1 : decode cX4_floors 1 = .ok (.iconst 0, 1) := by decide +kernel
theorem dX4_floors_2 : decode cX4_floors 2 = .ok (.putfield 23, 3) := by decide +kernel
theorem dX4_floors_5 : decode cX4_floors 5 = .ok (.iload_n 1, 1) := by decide +kernel
theorem dX4_floors_6 : decode cX4_floors 6 = .ok (.i2l, 1) := by decide +kernel
theorem dX4_floors_7 : decode cX4_floors 7 = .ok (.lconst 0, 1) := by decide +kernel
theorem dX4_floors_8 : decode cX4_floors 8 = .ok (.ldc2_w 30, 3) := by decide +kernel
theorem dX4_floors_11 : decode cX4_floors 11 = .ok (.invokestatic 32, 3) := by decide +kernel
theorem dX4_floors_14 : decode cX4_floors 14 = .ok (.ifCond .ne 7, 3) := by decide +kernel
theorem dX4_floors_17 : decode cX4_floors 17 = .ok (.ldc2_w 80, 3) := by decide +kernel
theorem dX4_floors_20 : decode cX4_floors 20 = .ok (.lreturn, 1) := by decide +kernel
theorem dX4_floors_21 : decode cX4_floors 21 = .ok (.lconst 0, 1) := by decide +kernel
theorem dX4_floors_22 : decode cX4_floors 22 = .ok (.lstore_n 2, 1) := by decide +kernel
theorem dX4_floors_23 : decode cX4_floors 23 = .ok (.lconst 0, 1) := by decide +kernel
theorem dX4_floors_24 : decode cX4_floors 24 = .ok (.lstore 4, 2) := by decide +kernel
theorem dX4_floors_26 : decode cX4_floors 26 = .ok (.lload 4, 2) := by decide +kernel
theorem dX4_floors_28 : decode cX4_floors 28 = .ok (.iload_n 1, 1) := by decide +kernel
theorem dX4_floors_29 : decode cX4_floors 29 = .ok (.i2l, 1) := by decide +kernel
theorem dX4_floors_30 : decode cX4_floors 30 = .ok (.lcmp, 1) := by decide +kernel
theorem dX4_floors_31 : decode cX4_floors 31 = .ok (.ifCond .ge 29, 3) := by decide +kernel
theorem dX4_floors_34 : decode cX4_floors 34 = .ok (.lload_n 2, 1) := by decide +kernel
theorem dX4_floors_35 : decode cX4_floors 35 = .ok (.lload 4, 2) := by decide +kernel
theorem dX4_floors_37 : decode cX4_floors 37 = .ok (.aload_n 0, 1) := by decide +kernel
theorem dX4_floors_38 : decode cX4_floors 38 = .ok (.getfield 7, 3) := by decide +kernel
theorem dX4_floors_41 : decode cX4_floors 41 = .ok (.i2l, 1) := by decide +kernel
theorem dX4_floors_42 : decode cX4_floors 42 = .ok (.lmul, 1) := by decide +kernel
theorem dX4_floors_43 : decode cX4_floors 43 = .ok (.aload_n 0, 1) := by decide +kernel
theorem dX4_floors_44 : decode cX4_floors 44 = .ok (.getfield 13, 3) := by decide +kernel
theorem dX4_floors_47 : decode cX4_floors 47 = .ok (.i2l, 1) := by decide +kernel
theorem dX4_floors_48 : decode cX4_floors 48 = .ok (.ldiv, 1) := by decide +kernel
theorem dX4_floors_49 : decode cX4_floors 49 = .ok (.ladd, 1) := by decide +kernel
theorem dX4_floors_50 : decode cX4_floors 50 = .ok (.lstore_n 2, 1) := by decide +kernel
theorem dX4_floors_51 : decode cX4_floors 51 = .ok (.lload 4, 2) := by decide +kernel
theorem dX4_floors_53 : decode cX4_floors 53 = .ok (.lconst 1, 1) := by decide +kernel
theorem dX4_floors_54 : decode cX4_floors 54 = .ok (.ladd, 1) := by decide +kernel
theorem dX4_floors_55 : decode cX4_floors 55 = .ok (.lstore 4, 2) := by decide +kernel
theorem dX4_floors_57 : decode cX4_floors 57 = .ok (.goto (-31), 3) := by decide +kernel
theorem dX4_floors_60 : decode cX4_floors 60 = .ok (.lload_n 2, 1) := by decide +kernel
theorem dX4_floors_61 : decode cX4_floors 61 = .ok (.lreturn, 1) := by decide +kernel
theorem dX4_sawteeth_0 : decode cX4_sawteeth 0 = .ok (.aload_n 0, 1) := by decide +kernel
theorem dX4_sawteeth_1 : decode cX4_sawteeth 1 = .ok (.iconst 0, 1) := by decide +kernel
theorem dX4_sawteeth_2 : decode cX4_sawteeth 2 = .ok (.putfield 23, 3) := by decide +kernel
theorem dX4_sawteeth_5 : decode cX4_sawteeth 5 = .ok (.lconst 0, 1) := by decide +kernel
theorem dX4_sawteeth_6 : decode cX4_sawteeth 6 = .ok (.lstore_n 1, 1) := by decide +kernel
theorem dX4_sawteeth_7 : decode cX4_sawteeth 7 = .ok (.lconst 0, 1) := by decide +kernel
theorem dX4_sawteeth_8 : decode cX4_sawteeth 8 = .ok (.lstore_n 3, 1) := by decide +kernel
theorem dX4_sawteeth_9 : decode cX4_sawteeth 9 = .ok (.lconst 1, 1) := by decide +kernel
theorem dX4_sawteeth_10 : decode cX4_sawteeth 10 = .ok (.lstore 5, 2) := by decide +kernel
theorem dX4_sawteeth_12 : decode cX4_sawteeth 12 = .ok (.lload 5, 2) := by decide +kernel
theorem dX4_sawteeth_14 : decode cX4_sawteeth 14 = .ok (.aload_n 0, 1) := by decide +kernel
theorem dX4_sawteeth_15 : decode cX4_sawteeth 15 = .ok (.getfield 13, 3) := by decide +kernel
theorem dX4_sawteeth_18 : decode cX4_sawteeth 18 = .ok (.i2l, 1) := by decide +kernel
theorem dX4_sawteeth_19 : decode cX4_sawteeth 19 = .ok (.lcmp, 1) := by decide +kernel
theorem dX4_sawteeth_20 : decode cX4_sawteeth 20 = .ok (.ifCond .ge 53, 3) := by decide +kernel
theorem dX4_sawteeth_23 : decode cX4_sawteeth 23 = .ok (.lload_n 3, 1) := by decide +kernel
theorem dX4_sawteeth_24 : decode cX4_sawteeth 24 = .ok (.aload_n 0, 1) := by decide +kernel
theorem dX4_sawteeth_25 : decode cX4_sawteeth 25 = .ok (.getfield 7, 3) := by decide +kernel
theorem dX4_sawteeth_28 : decode cX4_sawteeth 28 = .ok (.i2l, 1) := by decide +kernel
theorem dX4_sawteeth_29 : decode cX4_sawteeth 29 = .ok (.ladd, 1) := by decide +kernel
theorem dX4_sawteeth_30 : decode cX4_sawteeth 30 = .ok (.aload_n 0, 1) := by decide +kernel
theorem dX4_sawteeth_31 : decode cX4_sawteeth 31 = .ok (.getfield 13, 3) := by decide +kernel
theorem dX4_sawteeth_34 : decode cX4_sawteeth 34 = .ok (.i2l, 1) := by decide +kernel
theorem dX4_sawteeth_35 : decode cX4_sawteeth 35 = .ok (.lrem, 1) := by decide +kernel
theorem dX4_sawteeth_36 : decode cX4_sawteeth 36 = .ok (.lstore_n 3, 1) := by decide +kernel
theorem dX4_sawteeth_37 : decode cX4_sawteeth 37 = .ok (.lload_n 1, 1) := by decide +kernel
theorem dX4_sawteeth_38 : decode cX4_sawteeth 38 = .ok (.ldc2_w 70, 3) := by decide +kernel
theorem dX4_sawteeth_41 : decode cX4_sawteeth 41 = .ok (.lload 5, 2) := by decide +kernel
theorem dX4_sawteeth_43 : decode cX4_sawteeth 43 = .ok (.lmul, 1) := by decide +kernel
theorem dX4_sawteeth_44 : decode cX4_sawteeth 44 = .ok (.aload_n 0, 1) := by decide +kernel
theorem dX4_sawteeth_45 : decode cX4_sawteeth 45 = .ok (.getfield 13, 3) := by decide +kernel
theorem dX4_sawteeth_48 : decode cX4_sawteeth 48 = .ok (.i2l, 1) := by decide +kernel
theorem dX4_sawteeth_49 : decode cX4_sawteeth 49 = .ok (.lsub, 1) := by decide +kernel
theorem dX4_sawteeth_50 : decode cX4_sawteeth 50 = .ok (.ldc2_w 70, 3) := by decide +kernel
theorem dX4_sawteeth_53 : decode cX4_sawteeth 53 = .ok (.lload_n 3, 1) := by decide +kernel
theorem dX4_sawteeth_54 : decode cX4_sawteeth 54 = .ok (.lmul, 1) := by decide +kernel
theorem dX4_sawteeth_55 : decode cX4_sawteeth 55 = .ok (.aload_n 0, 1) := by decide +kernel
theorem dX4_sawteeth_56 : decode cX4_sawteeth 56 = .ok (.getfield 13, 3) := by decide +kernel
theorem dX4_sawteeth_59 : decode cX4_sawteeth 59 = .ok (.i2l, 1) := by decide +kernel
theorem dX4_sawteeth_60 : decode cX4_sawteeth 60 = .ok (.lsub, 1) := by decide +kernel
theorem dX4_sawteeth_61 : decode cX4_sawteeth 61 = .ok (.lmul, 1) := by decide +kernel
theorem dX4_sawteeth_62 : decode cX4_sawteeth 62 = .ok (.ladd, 1) := by decide +kernel
theorem dX4_sawteeth_63 : decode cX4_sawteeth 63 = .ok (.lstore_n 1, 1) := by decide +kernel
theorem dX4_sawteeth_64 : decode cX4_sawteeth 64 = .ok (.lload 5, 2) := by decide +kernel
theorem dX4_sawteeth_66 : decode cX4_sawteeth 66 = .ok (.lconst 1, 1) := by decide +kernel
theorem dX4_sawteeth_67 : decode cX4_sawteeth 67 = .ok (.ladd, 1) := by decide +kernel
theorem dX4_sawteeth_68 : decode cX4_sawteeth 68 = .ok (.lstore 5, 2) := by decide +kernel
theorem dX4_sawteeth_70 : decode cX4_sawteeth 70 = .ok (.goto (-58), 3) := by decide +kernel
theorem dX4_sawteeth_73 : decode cX4_sawteeth 73 = .ok (.ldc2_w 82, 3) := by decide +kernel
theorem dX4_sawteeth_76 : decode cX4_sawteeth 76 = .ok (.lload_n 1, 1) := by decide +kernel
theorem dX4_sawteeth_77 : decode cX4_sawteeth 77 = .ok (.lmul, 1) := by decide +kernel
theorem dX4_sawteeth_78 : decode cX4_sawteeth 78 = .ok (.ldc2_w 70, 3) := by decide +kernel
theorem dX4_sawteeth_81 : decode cX4_sawteeth 81 = .ok (.aload_n 0, 1) := by decide +kernel
theorem dX4_sawteeth_82 : decode cX4_sawteeth 82 = .ok (.getfield 13, 3) := by decide +kernel
theorem dX4_sawteeth_85 : decode cX4_sawteeth 85 = .ok (.i2l, 1) := by decide +kernel
theorem dX4_sawteeth_86 : decode cX4_sawteeth 86 = .ok (.lmul, 1) := by decide +kernel
theorem dX4_sawteeth_87 : decode cX4_sawteeth 87 = .ok (.ldiv, 1) := by decide +kernel
theorem dX4_sawteeth_88 : decode cX4_sawteeth 88 = .ok (.lreturn, 1) := by decide +kernel
theorem dX4_check_0 : decode cX4_check 0 = .ok (.aload_n 0, 1) := by decide +kernel
theorem dX4_check_1 : decode cX4_check 1 = .ok (.iconst 0, 1) := by decide +kernel
theorem dX4_check_2 : decode cX4_check 2 = .ok (.putfield 23, 3) := by decide +kernel
theorem dX4_check_5 : decode cX4_check 5 = .ok (.iconst 1, 1) := by decide +kernel
theorem dX4_check_6 : decode cX4_check 6 = .ok (.ireturn, 1) := by decide +kernel
