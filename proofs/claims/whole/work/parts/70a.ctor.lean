theorem dX0_init_0 : decode cX0_init 0 = .ok (.aload_n 0, 1) := by decide +kernel
theorem dX0_init_1 : decode cX0_init 1 = .ok (.invokespecial 3, 3) := by decide +kernel
theorem dX0_init_4 : decode cX0_init 4 = .ok (.aload_n 0, 1) := by decide +kernel
theorem dX0_init_5 : decode cX0_init 5 = .ok (.iconst 0, 1) := by decide +kernel
theorem dX0_init_6 : decode cX0_init 6 = .ok (.putfield 9, 3) := by decide +kernel
theorem dX0_init_9 : decode cX0_init 9 = .ok (.aload_n 0, 1) := by decide +kernel
theorem dX0_init_10 : decode cX0_init 10 = .ok (.iload_n 1, 1) := by decide +kernel
theorem dX0_init_11 : decode cX0_init 11 = .ok (.newarray .int, 2) := by decide +kernel
theorem dX0_init_13 : decode cX0_init 13 = .ok (.putfield 15, 3) := by decide +kernel
theorem dX0_init_16 : decode cX0_init 16 = .ok (.aload_n 0, 1) := by decide +kernel
theorem dX0_init_17 : decode cX0_init 17 = .ok (.iload_n 1, 1) := by decide +kernel
theorem dX0_init_18 : decode cX0_init 18 = .ok (.newarray .int, 2) := by decide +kernel
theorem dX0_init_20 : decode cX0_init 20 = .ok (.putfield 19, 3) := by decide +kernel
theorem dX0_init_23 : decode cX0_init 23 = .ok (.aload_n 0, 1) := by decide +kernel
theorem dX0_init_24 : decode cX0_init 24 = .ok (.iload_n 1, 1) := by decide +kernel
theorem dX0_init_25 : decode cX0_init 25 = .ok (.newarray .int, 2) := by decide +kernel
theorem dX0_init_27 : decode cX0_init 27 = .ok (.putfield 22, 3) := by decide +kernel
theorem dX0_init_30 : decode cX0_init 30 = .ok (.aload_n 0, 1) := by decide +kernel
theorem dX0_init_31 : decode cX0_init 31 = .ok (.iload_n 1, 1) := by decide +kernel
theorem dX0_init_32 : decode cX0_init 32 = .ok (.newarray .int, 2) := by decide +kernel
theorem dX0_init_34 : decode cX0_init 34 = .ok (.putfield 25, 3) := by decide +kernel
theorem dX0_init_37 : decode cX0_init 37 = .ok (.return_, 1) := by decide +kernel
theorem dX1_init_0 : decode cX1_init 0 = .ok (.aload_n 0, 1) := by decide +kernel
theorem dX1_init_1 : decode cX1_init 1 = .ok (.invokespecial 3, 3) := by decide +kernel
theorem dX1_init_4 : decode cX1_init 4 = .ok (.aload_n 0, 1) := by decide +kernel
theorem dX1_init_5 : decode cX1_init 5 = .ok (.iconst 4, 1) := by decide +kernel
theorem dX1_init_6 : decode cX1_init 6 = .ok (.newarray .int, 2) := by decide +kernel
theorem dX1_init_8 : decode cX1_init 8 = .ok (.putfield 9, 3) := by decide +kernel
theorem dX1_init_11 : decode cX1_init 11 = .ok (.aload_n 0, 1) := by decide +kernel
theorem dX1_init_12 : decode cX1_init 12 = .ok (.iconst 4, 1) := by decide +kernel
theorem dX1_init_13 : decode cX1_init 13 = .ok (.newarray .int, 2) := by decide +kernel
theorem dX1_init_15 : decode cX1_init 15 = .ok (.putfield 15, 3) := by decide +kernel
theorem dX1_init_18 : decode cX1_init 18 = .ok (.aload_n 0, 1) := by decide +kernel
theorem dX1_init_19 : decode cX1_init 19 = .ok (.iconst 4, 1) := by decide +kernel
theorem dX1_init_20 : decode cX1_init 20 = .ok (.newarray .int, 2) := by decide +kernel
theorem dX1_init_22 : decode cX1_init 22 = .ok (.putfield 18, 3) := by decide +kernel
theorem dX1_init_25 : decode cX1_init 25 = .ok (.aload_n 0, 1) := by decide +kernel
theorem dX1_init_26 : decode cX1_init 26 = .ok (.iconst 5, 1) := by decide +kernel
theorem dX1_init_27 : decode cX1_init 27 = .ok (.newarray .int, 2) := by decide +kernel
theorem dX1_init_29 : decode cX1_init 29 = .ok (.dup, 1) := by decide +kernel
theorem dX1_init_30 : decode cX1_init 30 = .ok (.iconst 0, 1) := by decide +kernel
theorem dX1_init_31 : decode cX1_init 31 = .ok (.iconst 0, 1) := by decide +kernel
theorem dX1_init_32 : decode cX1_init 32 = .ok (.iastore, 1) := by decide +kernel
theorem dX1_init_33 : decode cX1_init 33 = .ok (.dup, 1) := by decide +kernel
theorem dX1_init_34 : decode cX1_init 34 = .ok (.iconst 1, 1) := by decide +kernel
theorem dX1_init_35 : decode cX1_init 35 = .ok (.bipush 64, 2) := by decide +kernel
theorem dX1_init_37 : decode cX1_init 37 = .ok (.iastore, 1) := by decide +kernel
theorem dX1_init_38 : decode cX1_init 38 = .ok (.dup, 1) := by decide +kernel
theorem dX1_init_39 : decode cX1_init 39 = .ok (.iconst 2, 1) := by decide +kernel
theorem dX1_init_40 : decode cX1_init 40 = .ok (.bipush 64, 2) := by decide +kernel
theorem dX1_init_42 : decode cX1_init 42 = .ok (.iastore, 1) := by decide +kernel
theorem dX1_init_43 : decode cX1_init 43 = .ok (.dup, 1) := by decide +kernel
theorem dX1_init_44 : decode cX1_init 44 = .ok (.iconst 3, 1) := by decide +kernel
theorem dX1_init_45 : decode cX1_init 45 = .ok (.bipush 64, 2) := by decide +kernel
theorem dX1_init_47 : decode cX1_init 47 = .ok (.iastore, 1) := by decide +kernel
theorem dX1_init_48 : decode cX1_init 48 = .ok (.dup, 1) := by decide +kernel
theorem dX1_init_49 : decode cX1_init 49 = .ok (.iconst 4, 1) := by decide +kernel
theorem dX1_init_50 : decode cX1_init 50 = .ok (.bipush 64, 2) := by decide +kernel
theorem dX1_init_52 : decode cX1_init 52 = .ok (.iastore, 1) := by decide +kernel
theorem dX1_init_53 : decode cX1_init 53 = .ok (.putfield 21, 3) := by decide +kernel
theorem dX1_init_56 : decode cX1_init 56 = .ok (.return_, 1) := by decide +kernel
theorem dX2_init_0 : decode cX2_init 0 = .ok (.aload_n 0, 1) := by decide +kernel
theorem dX2_init_1 : decode cX2_init 1 = .ok (.invokespecial 3, 3) := by decide +kernel
theorem dX2_init_4 : decode cX2_init 4 = .ok (.aload_n 0, 1) := by decide +kernel
theorem dX2_init_5 : decode cX2_init 5 = .ok (.bipush 64, 2) := by decide +kernel
theorem dX2_init_7 : decode cX2_init 7 = .ok (.newarray .int, 2) := by decide +kernel
theorem dX2_init_9 : decode cX2_init 9 = .ok (.putfield 9, 3) := by decide +kernel
theorem dX2_init_12 : decode cX2_init 12 = .ok (.aload_n 0, 1) := by decide +kernel
theorem dX2_init_13 : decode cX2_init 13 = .ok (.bipush 64, 2) := by decide +kernel
theorem dX2_init_15 : decode cX2_init 15 = .ok (.newarray .int, 2) := by decide +kernel
theorem dX2_init_17 : decode cX2_init 17 = .ok (.putfield 15, 3) := by decide +kernel
theorem dX2_init_20 : decode cX2_init 20 = .ok (.aload_n 0, 1) := by decide +kernel
theorem dX2_init_21 : decode cX2_init 21 = .ok (.iconst 0, 1) := by decide +kernel
theorem dX2_init_22 : decode cX2_init 22 = .ok (.putfield 18, 3) := by decide +kernel
theorem dX2_init_25 : decode cX2_init 25 = .ok (.return_, 1) := by decide +kernel
theorem dX3_init_0 : decode cX3_init 0 = .ok (.aload_n 0, 1) := by decide +kernel
theorem dX3_init_1 : decode cX3_init 1 = .ok (.invokespecial 3, 3) := by decide +kernel
theorem dX3_init_4 : decode cX3_init 4 = .ok (.aload_n 0, 1) := by decide +kernel
theorem dX3_init_5 : decode cX3_init 5 = .ok (.bipush 48, 2) := by decide +kernel
theorem dX3_init_7 : decode cX3_init 7 = .ok (.newarray .long, 2) := by decide +kernel
theorem dX3_init_9 : decode cX3_init 9 = .ok (.putfield 9, 3) := by decide +kernel
theorem dX3_init_12 : decode cX3_init 12 = .ok (.return_, 1) := by decide +kernel
theorem dX4_init_0 : decode cX4_init 0 = .ok (.aload_n 0, 1) := by decide +kernel
theorem dX4_init_1 : decode cX4_init 1 = .ok (.invokespecial 3, 3) := by decide +kernel
theorem dX4_init_4 : decode cX4_init 4 = .ok (.aload_n 0, 1) := by decide +kernel
theorem dX4_init_5 : decode cX4_init 5 = .ok (.bipush 6, 2) := by decide +kernel
theorem dX4_init_7 : decode cX4_init 7 = .ok (.anewarray 9, 3) := by decide +kernel
theorem dX4_init_10 : decode cX4_init 10 = .ok (.putfield 11, 3) := by decide +kernel
theorem dX4_init_13 : decode cX4_init 13 = .ok (.aload_n 0, 1) := by decide +kernel
theorem dX4_init_14 : decode cX4_init 14 = .ok (.iconst 0, 1) := by decide +kernel
theorem dX4_init_15 : decode cX4_init 15 = .ok (.putfield 15, 3) := by decide +kernel
theorem dX4_init_18 : decode cX4_init 18 = .ok (.aload_n 0, 1) := by decide +kernel
theorem dX4_init_19 : decode cX4_init 19 = .ok (.bipush 6, 2) := by decide +kernel
theorem dX4_init_21 : decode cX4_init 21 = .ok (.newarray .int, 2) := by decide +kernel
theorem dX4_init_23 : decode cX4_init 23 = .ok (.putfield 19, 3) := by decide +kernel
theorem dX4_init_26 : decode cX4_init 26 = .ok (.aload_n 0, 1) := by decide +kernel
theorem dX4_init_27 : decode cX4_init 27 = .ok (.new 23, 3) := by decide +kernel
theorem dX4_init_30 : decode cX4_init 30 = .ok (.dup, 1) := by decide +kernel
theorem dX4_init_31 : decode cX4_init 31 = .ok (.bipush 20, 2) := by decide +kernel
theorem dX4_init_33 : decode cX4_init 33 = .ok (.invokespecial 25, 3) := by decide +kernel
theorem dX4_init_36 : decode cX4_init 36 = .ok (.putfield 28, 3) := by decide +kernel
theorem dX4_init_39 : decode cX4_init 39 = .ok (.aload_n 0, 1) := by decide +kernel
theorem dX4_init_40 : decode cX4_init 40 = .ok (.new 23, 3) := by decide +kernel
theorem dX4_init_43 : decode cX4_init 43 = .ok (.dup, 1) := by decide +kernel
theorem dX4_init_44 : decode cX4_init 44 = .ok (.bipush 12, 2) := by decide +kernel
theorem dX4_init_46 : decode cX4_init 46 = .ok (.invokespecial 25, 3) := by decide +kernel
theorem dX4_init_49 : decode cX4_init 49 = .ok (.putfield 32, 3) := by decide +kernel
theorem dX4_init_52 : decode cX4_init 52 = .ok (.aload_n 0, 1) := by decide +kernel
theorem dX4_init_53 : decode cX4_init 53 = .ok (.lconst 0, 1) := by decide +kernel
theorem dX4_init_54 : decode cX4_init 54 = .ok (.putfield 35, 3) := by decide +kernel
theorem dX4_init_57 : decode cX4_init 57 = .ok (.aload_n 0, 1) := by decide +kernel
theorem dX4_init_58 : decode cX4_init 58 = .ok (.new 39, 3) := by decide +kernel
theorem dX4_init_61 : decode cX4_init 61 = .ok (.dup, 1) := by decide +kernel
theorem dX4_init_62 : decode cX4_init 62 = .ok (.invokespecial 41, 3) := by decide +kernel
theorem dX4_init_65 : decode cX4_init 65 = .ok (.putfield 42, 3) := by decide +kernel
theorem dX4_init_68 : decode cX4_init 68 = .ok (.aload_n 0, 1) := by decide +kernel
theorem dX4_init_69 : decode cX4_init 69 = .ok (.new 39, 3) := by decide +kernel
theorem dX4_init_72 : decode cX4_init 72 = .ok (.dup, 1) := by decide +kernel
theorem dX4_init_73 : decode cX4_init 73 = .ok (.invokespecial 41, 3) := by decide +kernel
theorem dX4_init_76 : decode cX4_init 76 = .ok (.putfield 46, 3) := by decide +kernel
theorem dX4_init_79 : decode cX4_init 79 = .ok (.aload_n 0, 1) := by decide +kernel
theorem dX4_init_80 : decode cX4_init 80 = .ok (.new 49, 3) := by decide +kernel
theorem dX4_init_83 : decode cX4_init 83 = .ok (.dup, 1) := by decide +kernel
theorem dX4_init_84 : decode cX4_init 84 = .ok (.invokespecial 51, 3) := by decide +kernel
theorem dX4_init_87 : decode cX4_init 87 = .ok (.putfield 52, 3) := by decide +kernel
theorem dX4_init_90 : decode cX4_init 90 = .ok (.iconst 0, 1) := by decide +kernel
theorem dX4_init_91 : decode cX4_init 91 = .ok (.istore_n 1, 1) := by decide +kernel
theorem dX4_init_92 : decode cX4_init 92 = .ok (.iload_n 1, 1) := by decide +kernel
theorem dX4_init_93 : decode cX4_init 93 = .ok (.bipush 6, 2) := by decide +kernel
theorem dX4_init_95 : decode cX4_init 95 = .ok (.if_icmp .ge 22, 3) := by decide +kernel
theorem dX4_init_98 : decode cX4_init 98 = .ok (.aload_n 0, 1) := by decide +kernel
theorem dX4_init_99 : decode cX4_init 99 = .ok (.getfield 11, 3) := by decide +kernel
theorem dX4_init_102 : decode cX4_init 102 = .ok (.iload_n 1, 1) := by decide +kernel
theorem dX4_init_103 : decode cX4_init 103 = .ok (.new 9, 3) := by decide +kernel
theorem dX4_init_106 : decode cX4_init 106 = .ok (.dup, 1) := by decide +kernel
theorem dX4_init_107 : decode cX4_init 107 = .ok (.invokespecial 56, 3) := by decide +kernel
theorem dX4_init_110 : decode cX4_init 110 = .ok (.aastore, 1) := by decide +kernel
theorem dX4_init_111 : decode cX4_init 111 = .ok (.iinc 1 1, 3) := by decide +kernel
theorem dX4_init_114 : decode cX4_init 114 = .ok (.goto (-22), 3) := by decide +kernel
theorem dX4_init_117 : decode cX4_init 117 = .ok (.return_, 1) := by decide +kernel
theorem dX5_init_0 : decode cX5_init 0 = .ok (.aload_n 0, 1) := by decide +kernel
theorem dX5_init_1 : decode cX5_init 1 = .ok (.invokespecial 1, 3) := by decide +kernel
theorem dX5_init_4 : decode cX5_init 4 = .ok (.aload_n 0, 1) := by decide +kernel
theorem dX5_init_5 : decode cX5_init 5 = .ok (.bipush 24, 2) := by decide +kernel
theorem dX5_init_7 : decode cX5_init 7 = .ok (.newarray .int, 2) := by decide +kernel
theorem dX5_init_9 : decode cX5_init 9 = .ok (.putfield 7, 3) := by decide +kernel
theorem dX5_init_12 : decode cX5_init 12 = .ok (.aload_n 0, 1) := by decide +kernel
theorem dX5_init_13 : decode cX5_init 13 = .ok (.bipush 24, 2) := by decide +kernel
theorem dX5_init_15 : decode cX5_init 15 = .ok (.newarray .int, 2) := by decide +kernel
theorem dX5_init_17 : decode cX5_init 17 = .ok (.putfield 13, 3) := by decide +kernel
theorem dX5_init_20 : decode cX5_init 20 = .ok (.aload_n 0, 1) := by decide +kernel
theorem dX5_init_21 : decode cX5_init 21 = .ok (.bipush 24, 2) := by decide +kernel
theorem dX5_init_23 : decode cX5_init 23 = .ok (.newarray .int, 2) := by decide +kernel
theorem dX5_init_25 : decode cX5_init 25 = .ok (.putfield 16, 3) := by decide +kernel
theorem dX5_init_28 : decode cX5_init 28 = .ok (.aload_n 0, 1) := by decide +kernel
theorem dX5_init_29 : decode cX5_init 29 = .ok (.bipush 18, 2) := by decide +kernel
theorem dX5_init_31 : decode cX5_init 31 = .ok (.newarray .int, 2) := by decide +kernel
theorem dX5_init_33 : decode cX5_init 33 = .ok (.putfield 19, 3) := by decide +kernel
theorem dX5_init_36 : decode cX5_init 36 = .ok (.aload_n 0, 1) := by decide +kernel
theorem dX5_init_37 : decode cX5_init 37 = .ok (.bipush 36, 2) := by decide +kernel
theorem dX5_init_39 : decode cX5_init 39 = .ok (.newarray .boolean, 2) := by decide +kernel
theorem dX5_init_41 : decode cX5_init 41 = .ok (.putfield 22, 3) := by decide +kernel
theorem dX5_init_44 : decode cX5_init 44 = .ok (.aload_n 0, 1) := by decide +kernel
theorem dX5_init_45 : decode cX5_init 45 = .ok (.bipush 80, 2) := by decide +kernel
theorem dX5_init_47 : decode cX5_init 47 = .ok (.newarray .int, 2) := by decide +kernel
theorem dX5_init_49 : decode cX5_init 49 = .ok (.putfield 26, 3) := by decide +kernel
theorem dX5_init_52 : decode cX5_init 52 = .ok (.aload_n 0, 1) := by decide +kernel
theorem dX5_init_53 : decode cX5_init 53 = .ok (.bipush 48, 2) := by decide +kernel
theorem dX5_init_55 : decode cX5_init 55 = .ok (.newarray .int, 2) := by decide +kernel
theorem dX5_init_57 : decode cX5_init 57 = .ok (.putfield 29, 3) := by decide +kernel
theorem dX5_init_60 : decode cX5_init 60 = .ok (.aload_n 0, 1) := by decide +kernel
theorem dX5_init_61 : decode cX5_init 61 = .ok (.bipush 12, 2) := by decide +kernel
theorem dX5_init_63 : decode cX5_init 63 = .ok (.newarray .int, 2) := by decide +kernel
theorem dX5_init_65 : decode cX5_init 65 = .ok (.putfield 32, 3) := by decide +kernel
theorem dX5_init_68 : decode cX5_init 68 = .ok (.aload_n 0, 1) := by decide +kernel
theorem dX5_init_69 : decode cX5_init 69 = .ok (.sipush 384, 3) := by decide +kernel
theorem dX5_init_72 : decode cX5_init 72 = .ok (.newarray .int, 2) := by decide +kernel
theorem dX5_init_74 : decode cX5_init 74 = .ok (.putfield 35, 3) := by decide +kernel
theorem dX5_init_77 : decode cX5_init 77 = .ok (.aload_n 0, 1) := by decide +kernel
theorem dX5_init_78 : decode cX5_init 78 = .ok (.iconst (-1), 1) := by decide +kernel
theorem dX5_init_79 : decode cX5_init 79 = .ok (.putfield 38, 3) := by decide +kernel
theorem dX5_init_82 : decode cX5_init 82 = .ok (.return_, 1) := by decide +kernel
def q_cw : List Cond := [.methodLink RX0 3 objectInit, .instanceMethod objectInit, .code objectInit ⟨#[0xb1]⟩ 1 none, .fieldLink RX0 9 "SleepKeeper$Claims" "count" "I", .arrayClass .int, .fieldLink RX0 15 "SleepKeeper$Claims" "programs" "[I", .fieldLink RX0 19 "SleepKeeper$Claims" "wantedParts" "[I", .fieldLink RX0 22 "SleepKeeper$Claims" "froms" "[I", .fieldLink RX0 25 "SleepKeeper$Claims" "tos" "[I", .methodLink RX1 3 objectInit, .fieldLink RX1 9 "SleepKeeper$Part" "drains" "[I", .fieldLink RX1 15 "SleepKeeper$Part" "costs" "[I", .fieldLink RX1 18 "SleepKeeper$Part" "rising" "[I", .fieldLink RX1 21 "SleepKeeper$Part" "begins" "[I", .methodLink RX2 3 objectInit, .fieldLink RX2 9 "SleepKeeper$Spans" "firsts" "[I", .fieldLink RX2 15 "SleepKeeper$Spans" "lens" "[I", .fieldLink RX2 18 "SleepKeeper$Spans" "count" "I", .methodLink RX3 3 objectInit, .arrayClass .long, .fieldLink RX3 9 "SleepKeeper$Wants" "rows" "[J", .methodLink RX4 3 objectInit, .classLink RX4 9 RX1, .fieldLink RX4 11 "SleepKeeper" "parts" "[LSleepKeeper$Part;", .fieldLink RX4 15 "SleepKeeper" "partCount" "I", .fieldLink RX4 19 "SleepKeeper" "needs" "[I", .classLink RX4 23 RX0, .instantiable RX0 5, .initialized RX0, .instanceMethod yX0_init, .code yX0_init cX0_init 2 none, .methodLink RX4 25 yX0_init, .fieldLink RX4 28 "SleepKeeper" "holds" "LSleepKeeper$Claims;", .fieldLink RX4 32 "SleepKeeper" "timers" "LSleepKeeper$Claims;", .fieldLink RX4 35 "SleepKeeper" "wakings" "J", .classLink RX4 39 RX3, .instantiable RX3 1, .initialized RX3, .instanceMethod yX3_init, .code yX3_init cX3_init 1 none, .fieldLink RX4 42 "SleepKeeper" "wants" "LSleepKeeper$Wants;", .fieldLink RX4 46 "SleepKeeper" "supposed" "LSleepKeeper$Wants;", .classLink RX4 49 RX2, .instantiable RX2 3, .initialized RX2, .instanceMethod yX2_init, .code yX2_init cX2_init 1 none, .fieldLink RX4 52 "SleepKeeper" "idle" "LSleepKeeper$Spans;", .instantiable RX1 4, .initialized RX1, .instanceMethod yX1_init, .code yX1_init cX1_init 1 none, .methodLink RX5 1 objectInit, .fieldLink RX5 7 "SleepKeeperModel" "drain" "[I", .fieldLink RX5 13 "SleepKeeperModel" "cost" "[I", .fieldLink RX5 16 "SleepKeeperModel" "rising" "[I", .fieldLink RX5 19 "SleepKeeperModel" "rule" "[I", .arrayClass .boolean, .fieldLink RX5 22 "SleepKeeperModel" "needs" "[Z", .fieldLink RX5 26 "SleepKeeperModel" "hold" "[I", .fieldLink RX5 29 "SleepKeeperModel" "timer" "[I", .fieldLink RX5 32 "SleepKeeperModel" "wakings" "[I", .fieldLink RX5 35 "SleepKeeperModel" "by" "[I", .fieldLink RX5 38 "SleepKeeperModel" "leftOut" "I"]
set_option maxRecDepth 100000 in
theorem q_cw_w : q_cw = ([58, 49, 50, 63, 75, 59, 60, 61, 62, 107, 108, 109, 110, 111, 92, 93, 94, 95, 81, 86, 82, 48, 51, 121, 122, 123, 53, 54, 36, 56, 57, 55, 124, 125, 126, 76, 77, 37, 79, 80, 127, 128, 87, 88, 38, 90, 91, 129, 103, 39, 105, 106, 519, 523, 524, 525, 526, 569, 527, 528, 529, 530, 532, 533] : List Nat).filterMap (fun i => lw_tbl[i]?) := rfl
set_option maxRecDepth 100000 in
theorem q_cw_g : q_cw.all goodWord = true := rfl
theorem q_cw_in : ∀ w ∈ q_cw, w ∈ q_gw := q_in_gw _ q_cw_w q_cw_g
theorem q_lay_in (ci : Nat) (h : ci < 6) : ∀ w ∈ u_ws (q_cls ci).1 (q_cls ci).2.1 (q_cls ci).2.2, w ∈ q_gw := fun w hw => q_in_gw _ q_lay_w q_lay_g _ (List.mem_flatMap.mpr ⟨ci, List.mem_range.mpr h, hw⟩)
theorem q_goodc {c : Cond} (h : c ∈ q_gw) (hg : goodWord c = true) : GoodIn q_gw (c :: q_gw) := by
  intro w hw
  rcases List.mem_cons.mp hw with rfl | hw
  · exact ⟨h, good_of_word hg⟩
  · exact ⟨hw, good_of_word (List.mem_filter.mp hw).2⟩
theorem q_ca_int {D : va_G} {CA : Nat → ClassId} {s : State} {cA : ClassId} (hK : va_K D q_classes (q_tys CA ++ [(cA, .int)]) s) : CA 0 = cA := by
  have h1 : s.vm.findClass ("[" ++ FieldType.int.toString) = some (CA 0) := (hK.2 0 (CA 0, .int) rfl).2
  have h2 : s.vm.findClass ("[" ++ FieldType.int.toString) = some cA := (hK.2 4 (cA, .int) rfl).2
  exact Option.some.inj (h1.symm.trans h2)
theorem q_ca_long {D : va_G} {CA : Nat → ClassId} {s : State} {cA : ClassId} (hK : va_K D q_classes (q_tys CA ++ [(cA, .long)]) s) : CA 1 = cA := by
  have h1 : s.vm.findClass ("[" ++ FieldType.long.toString) = some (CA 1) := (hK.2 1 (CA 1, .long) rfl).2
  have h2 : s.vm.findClass ("[" ++ FieldType.long.toString) = some cA := (hK.2 4 (cA, .long) rfl).2
  exact Option.some.inj (h1.symm.trans h2)
theorem q_ca_boolean {D : va_G} {CA : Nat → ClassId} {s : State} {cA : ClassId} (hK : va_K D q_classes (q_tys CA ++ [(cA, .boolean)]) s) : CA 2 = cA := by
  have h1 : s.vm.findClass ("[" ++ FieldType.boolean.toString) = some (CA 2) := (hK.2 2 (CA 2, .boolean) rfl).2
  have h2 : s.vm.findClass ("[" ++ FieldType.boolean.toString) = some cA := (hK.2 4 (cA, .boolean) rfl).2
  exact Option.some.inj (h1.symm.trans h2)
theorem q_ca_part {D : va_G} {CA : Nat → ClassId} {s : State} {cA : ClassId} (hK : va_K D q_classes (q_tys CA ++ [(cA, .object "SleepKeeper$Part")]) s) : CA 3 = cA := by
  obtain ⟨_, _, _, _, _, h1⟩ := (hK.2 3 (CA 3, .object "SleepKeeper$Part") rfl).2
  obtain ⟨_, _, _, _, _, h2⟩ := (hK.2 4 (cA, .object "SleepKeeper$Part") rfl).2
  exact Option.some.inj (h1.symm.trans h2)
theorem q_arr_int (n : Nat) : ∀ cA : ClassId, vp_cell cA (n, .inl (fun _ => 0)) = arrV cA n (fun _ => defaultValue .int) := fun _ => rfl
theorem q_arr_boolean (n : Nat) : ∀ cA : ClassId, vp_cell cA (n, .inl (fun _ => 0)) = arrV cA n (fun _ => defaultValue .boolean) := fun _ => rfl
theorem q_arr_long (n : Nat) : ∀ cA : ClassId, vp_cell cA (n, .inr (.inl (fun _ => 0))) = arrV cA n (fun _ => defaultValue .long) := fun _ => rfl
def q_bg : Nat → Int32 := fun j => bif Nat.ble 1 j && Nat.ble j 4 then 64 else 0
theorem q_bg_eq : (upd (upd (upd (upd (upd (fun _ => 0) (Int32.toNatClampNeg 0) 0) (Int32.toNatClampNeg 1) 64) (Int32.toNatClampNeg 2) 64) (Int32.toNatClampNeg 3) 64) (Int32.toNatClampNeg 4) 64) = q_bg := by
  funext j
  match j with
  | 0 => decide +kernel
  | 1 => decide +kernel
  | 2 => decide +kernel
  | 3 => decide +kernel
  | 4 => decide +kernel
  | n + 5 =>
    have e0 : Int32.toNatClampNeg 0 = 0 := by decide
    have e1 : Int32.toNatClampNeg 1 = 1 := by decide
    have e2 : Int32.toNatClampNeg 2 = 2 := by decide
    have e3 : Int32.toNatClampNeg 3 = 3 := by decide
    have e4 : Int32.toNatClampNeg 4 = 4 := by decide
    have h1 : Nat.ble (n + 5) 4 = false := by cases hb : Nat.ble (n + 5) 4 with
      | false => rfl
      | true => exact absurd (Nat.le_of_ble_eq_true hb) (by omega)
    simp [upd, q_bg, e0, e1, e2, e3, e4, h1]
def q_nestc : List Cond := [.methodLinkNest RX4 41 yX3_init "SleepKeeper", .methodLinkNest RX4 51 yX2_init "SleepKeeper", .methodLinkNest RX4 56 yX1_init "SleepKeeper"]
theorem q_nestc_in : ∀ w ∈ q_nestc, w ∈ lw_tbl := by
  have h : q_nestc = ([78, 89, 104] : List Nat).filterMap (fun i => lw_tbl[i]?) := by decide +kernel
  intro w hw
  rw [h] at hw
  obtain ⟨i, -, hi⟩ := List.mem_filterMap.mp hw
  exact List.mem_of_getElem? hi
theorem q_nestc_t : ∀ w ∈ q_nestc, w.onTables = true := by decide +kernel
theorem q_nestc_f : ∀ w ∈ q_nestc, ∃ (a : String) (i : Nat) (x : MethodName) (b : String), w = .methodLinkNest a i x b := by
  unfold q_nestc
  exact List.forall_mem_cons.mpr ⟨⟨_, _, _, _, rfl⟩, List.forall_mem_cons.mpr ⟨⟨_, _, _, _, rfl⟩, List.forall_mem_cons.mpr ⟨⟨_, _, _, _, rfl⟩, fun _ h => absurd h List.not_mem_nil⟩⟩⟩
def q_wX0_init (CA : Nat → ClassId) (h0 : Nat) (N : Nat) (u : Nat → Nat) : va_W := [(h0, .inr (0, [.ref (u 0), .ref (u 1), .ref (u 2), .ref (u 3), .int 0])), ((u 0), .inl (CA 0, N, .inl (fun _ => 0))), ((u 1), .inl (CA 0, N, .inl (fun _ => 0))), ((u 2), .inl (CA 0, N, .inl (fun _ => 0))), ((u 3), .inl (CA 0, N, .inl (fun _ => 0)))]
set_option maxHeartbeats 400000 in
set_option maxRecDepth 100000 in
theorem c_X0_init (l : Launch) (D : va_G) (CA : Nat → ClassId) (h0 sz : Nat) (a1 : Int32) (N : Nat) (hN0 : ¬ a1 < 0) (hNN : a1.toNatClampNeg = N) (hNle : N ≤ 64) : Met l yX0_init (.code yX0_init cX0_init 2 none :: q_gw) { frames := 1, cells := 4, slots := 4 * N, locals := 12 } (va_Pc [.ref h0, .int a1] (fun U => U.heap.size = sz ∧ va_P D q_classes [(h0, .inr (0, [.null, .null, .null, .null, .int 0]))] U.heap ∧ va_K D q_classes (q_tys CA) U ∧ va_D (fun _ => True) [(h0, .inr (0, [.null, .null, .null, .null, .int 0]))])) (va_Qv (fun _ : Nat → Nat => True) (fun u t => va_P D q_classes (q_wX0_init CA h0 N u) t.heap ∧ va_D (va_A [(h0, .inr (0, [.null, .null, .null, .null, .int 0]))] sz) (q_wX0_init CA h0 N u)) (va_A [(h0, .inr (0, [.null, .null, .null, .null, .int 0]))] sz)) 4 (4 * N) (va_A [(h0, .inr (0, [.null, .null, .null, .null, .int 0]))] sz) := by
  refine Met.ofW (cc := cX0_init) (maxL := 2) (ret := none) (by decide) rfl ?_
  intro p e s m args below meth c s₁ B hml hv
  obtain ⟨rfl, hsz, hP, hK, hD0⟩ := hv
  have hx := B.exec
  have hb := B.bytes
  have hr := B.returns
  have hts := atoms_spec (ws := .code yX0_init cX0_init 2 none :: q_gw) B.pre
  have htg : ∀ w ∈ q_gw, w.before ([.ref h0, .int a1] : List Value).toArray s = true := fun w h => hts w (List.mem_cons_of_mem _ h)
  have hown : s.vm.findClass RX0 = some m.cls := findClass_of_methodNamed B.named
  have hlocks := B.notSynchronized
  have hin : meth.name = "<init>" := (name_of_methodNamed B.named B.method).1
  subst hsz
  have hD := hD0.self (sz := s.heap.size)
  generalize hAe : va_A [(h0, .inr (0, [.null, .null, .null, .null, .int 0]))] s.heap.size = A at hD ⊢
  have hA : ∀ q : Nat, s.heap.size ≤ q → A q := fun q h => by rw [← hAe]; exact Or.inr h
  have hS : va_S A s.heap s.heap [] := va_S.rf
  have hP : va_P D q_classes [(h0, .inr (0, [.null, .null, .null, .null, .int 0]))] s.heap := hP
  have hl := lv_entry ([.ref h0, .int a1]) (n := 2) (Nat.le_of_ble_eq_true rfl)
  rw [lg_entry_eq]
  generalize (lg_sl ([.ref h0, .int a1]) ++ List.replicate (2 - (lg_sl ([.ref h0, .int a1])).length) Slot.unset).toArray = ls at hl ⊢
  have hl : lv_has ls 2 [(0, .ref h0), (1, .int a1)] := hl
  refine lv_aload_n hx hb dX0_init_0 rfl (lv_at hl 0 rfl) ?_
  refine W.objInit hx hb hown (htg _ (q_cw_in _ (List.mem_of_getElem? (i := 0) rfl))) (htg _ (q_cw_in _ (List.mem_of_getElem? (i := 1) rfl))) (htg _ (q_cw_in _ (List.mem_of_getElem? (i := 2) rfl))) rfl (by rw [hml]; exact hl.1) rfl dX0_init_1 (Nat.le_of_ble_eq_true rfl) (Nat.le_of_ble_eq_true rfl) ?_
  refine W.eq (g2 := F0 m 4 ls []) rfl ?_
  refine lv_aload_n hx hb dX0_init_4 rfl (lv_at hl 0 rfl) ?_
  refine lv_iconst (v := 0) hx hb dX0_init_5 (by decide) ?_
  refine va_put (D := D) (ci := 0) (v := .int 0) (ty := .int) (C := RX0) (T := TX0) (N := 5) hx hb htg (fun w hw => q_lay_in 0 (by decide) w hw) tyX0 tyX0_ok nmX0 hown hK hP hD hS 0 rfl rfl 4 (by decide) (htg _ (q_cw_in _ (List.mem_of_getElem? (i := 3) rfl))) (fun _ h9 => h9) rfl (by decide +kernel) rfl rfl (Nat.le_of_ble_eq_true rfl) dX0_init_6 (fun H locs hP hD hS => ?_)
  have hP : va_P D q_classes [(h0, .inr (0, [.null, .null, .null, .null, .int 0]))] H := hP
  have hD : va_D A [(h0, .inr (0, [.null, .null, .null, .null, .int 0]))] := hD
  refine lv_aload_n hx hb dX0_init_9 rfl (lv_at hl 0 rfl) ?_
  refine lv_iload_n hx hb dX0_init_10 rfl (lv_at hl 1 rfl) ?_
  refine va_newa (atype := .int) (ty := .int) (N' := N) (a0 := (N, .inl (fun _ => 0))) hx hb (htg _ (q_cw_in _ (List.mem_of_getElem? (i := 4) rfl))) rfl hK hP hD hS hA (q_arr_int _) hN0 hNN (by show N * 4 ≤ 536870912; omega) (show 0 + 1 ≤ 4 by decide) (show _ ≤ 4 * N by omega) dX0_init_11 (fun q1 cA H hK1 hP hD hS => ?_)
  obtain rfl := q_ca_int hK1
  have hP : va_P D q_classes [(h0, .inr (0, [.null, .null, .null, .null, .int 0])), (q1, .inl (CA 0, N, .inl (fun _ => 0)))] H := hP
  have hD : va_D A [(h0, .inr (0, [.null, .null, .null, .null, .int 0])), (q1, .inl (CA 0, N, .inl (fun _ => 0)))] := hD
  refine W.widen (k := 1) (n := 1 * N) (show 0 + 1 ≤ 1 by decide) (by omega) ?_
  refine va_putF (D := D) (ci := 0) (v := .ref q1) (ty := .array .int) (C := RX0) (T := TX0) (N := 5) hx hb htg (fun w hw => q_lay_in 0 (by decide) w hw) tyX0 tyX0_ok nmX0 hown hK hP hD hS 0 rfl rfl 0 (by decide) (htg _ (q_cw_in _ (List.mem_of_getElem? (i := 5) rfl))) (fun _ h9 => h9) rfl hin rfl (by decide +kernel) rfl rfl (Nat.le_of_ble_eq_true rfl) dX0_init_13 (fun H locs hP hD hS => ?_)
  have hP : va_P D q_classes [(h0, .inr (0, [.ref q1, .null, .null, .null, .int 0])), (q1, .inl (CA 0, N, .inl (fun _ => 0)))] H := hP
  have hD : va_D A [(h0, .inr (0, [.ref q1, .null, .null, .null, .int 0])), (q1, .inl (CA 0, N, .inl (fun _ => 0)))] := hD
  refine lv_aload_n hx hb dX0_init_16 rfl (lv_at hl 0 rfl) ?_
  refine lv_iload_n hx hb dX0_init_17 rfl (lv_at hl 1 rfl) ?_
  refine va_newa (atype := .int) (ty := .int) (N' := N) (a0 := (N, .inl (fun _ => 0))) hx hb (htg _ (q_cw_in _ (List.mem_of_getElem? (i := 4) rfl))) rfl hK hP hD hS hA (q_arr_int _) hN0 hNN (by show N * 4 ≤ 536870912; omega) (show 1 + 1 ≤ 4 by decide) (show _ ≤ 4 * N by omega) dX0_init_18 (fun q2 cA H hK1 hP hD hS => ?_)
  obtain rfl := q_ca_int hK1
  have hP : va_P D q_classes [(h0, .inr (0, [.ref q1, .null, .null, .null, .int 0])), (q1, .inl (CA 0, N, .inl (fun _ => 0))), (q2, .inl (CA 0, N, .inl (fun _ => 0)))] H := hP
  have hD : va_D A [(h0, .inr (0, [.ref q1, .null, .null, .null, .int 0])), (q1, .inl (CA 0, N, .inl (fun _ => 0))), (q2, .inl (CA 0, N, .inl (fun _ => 0)))] := hD
  refine W.widen (k := 2) (n := 2 * N) (show 1 + 1 ≤ 2 by decide) (by omega) ?_
  refine va_putF (D := D) (ci := 0) (v := .ref q2) (ty := .array .int) (C := RX0) (T := TX0) (N := 5) hx hb htg (fun w hw => q_lay_in 0 (by decide) w hw) tyX0 tyX0_ok nmX0 hown hK hP hD hS 0 rfl rfl 1 (by decide) (htg _ (q_cw_in _ (List.mem_of_getElem? (i := 6) rfl))) (fun _ h9 => h9) rfl hin rfl (by decide +kernel) rfl rfl (Nat.le_of_ble_eq_true rfl) dX0_init_20 (fun H locs hP hD hS => ?_)
  have hP : va_P D q_classes [(h0, .inr (0, [.ref q1, .ref q2, .null, .null, .int 0])), (q1, .inl (CA 0, N, .inl (fun _ => 0))), (q2, .inl (CA 0, N, .inl (fun _ => 0)))] H := hP
  have hD : va_D A [(h0, .inr (0, [.ref q1, .ref q2, .null, .null, .int 0])), (q1, .inl (CA 0, N, .inl (fun _ => 0))), (q2, .inl (CA 0, N, .inl (fun _ => 0)))] := hD
  refine lv_aload_n hx hb dX0_init_23 rfl (lv_at hl 0 rfl) ?_
  refine lv_iload_n hx hb dX0_init_24 rfl (lv_at hl 1 rfl) ?_
  refine va_newa (atype := .int) (ty := .int) (N' := N) (a0 := (N, .inl (fun _ => 0))) hx hb (htg _ (q_cw_in _ (List.mem_of_getElem? (i := 4) rfl))) rfl hK hP hD hS hA (q_arr_int _) hN0 hNN (by show N * 4 ≤ 536870912; omega) (show 2 + 1 ≤ 4 by decide) (show _ ≤ 4 * N by omega) dX0_init_25 (fun q3 cA H hK1 hP hD hS => ?_)
  obtain rfl := q_ca_int hK1
  have hP : va_P D q_classes [(h0, .inr (0, [.ref q1, .ref q2, .null, .null, .int 0])), (q1, .inl (CA 0, N, .inl (fun _ => 0))), (q2, .inl (CA 0, N, .inl (fun _ => 0))), (q3, .inl (CA 0, N, .inl (fun _ => 0)))] H := hP
  have hD : va_D A [(h0, .inr (0, [.ref q1, .ref q2, .null, .null, .int 0])), (q1, .inl (CA 0, N, .inl (fun _ => 0))), (q2, .inl (CA 0, N, .inl (fun _ => 0))), (q3, .inl (CA 0, N, .inl (fun _ => 0)))] := hD
  refine W.widen (k := 3) (n := 3 * N) (show 2 + 1 ≤ 3 by decide) (by omega) ?_
  refine va_putF (D := D) (ci := 0) (v := .ref q3) (ty := .array .int) (C := RX0) (T := TX0) (N := 5) hx hb htg (fun w hw => q_lay_in 0 (by decide) w hw) tyX0 tyX0_ok nmX0 hown hK hP hD hS 0 rfl rfl 2 (by decide) (htg _ (q_cw_in _ (List.mem_of_getElem? (i := 7) rfl))) (fun _ h9 => h9) rfl hin rfl (by decide +kernel) rfl rfl (Nat.le_of_ble_eq_true rfl) dX0_init_27 (fun H locs hP hD hS => ?_)
  have hP : va_P D q_classes [(h0, .inr (0, [.ref q1, .ref q2, .ref q3, .null, .int 0])), (q1, .inl (CA 0, N, .inl (fun _ => 0))), (q2, .inl (CA 0, N, .inl (fun _ => 0))), (q3, .inl (CA 0, N, .inl (fun _ => 0)))] H := hP
  have hD : va_D A [(h0, .inr (0, [.ref q1, .ref q2, .ref q3, .null, .int 0])), (q1, .inl (CA 0, N, .inl (fun _ => 0))), (q2, .inl (CA 0, N, .inl (fun _ => 0))), (q3, .inl (CA 0, N, .inl (fun _ => 0)))] := hD
  refine lv_aload_n hx hb dX0_init_30 rfl (lv_at hl 0 rfl) ?_
  refine lv_iload_n hx hb dX0_init_31 rfl (lv_at hl 1 rfl) ?_
  refine va_newa (atype := .int) (ty := .int) (N' := N) (a0 := (N, .inl (fun _ => 0))) hx hb (htg _ (q_cw_in _ (List.mem_of_getElem? (i := 4) rfl))) rfl hK hP hD hS hA (q_arr_int _) hN0 hNN (by show N * 4 ≤ 536870912; omega) (show 3 + 1 ≤ 4 by decide) (show _ ≤ 4 * N by omega) dX0_init_32 (fun q4 cA H hK1 hP hD hS => ?_)
  obtain rfl := q_ca_int hK1
  have hP : va_P D q_classes [(h0, .inr (0, [.ref q1, .ref q2, .ref q3, .null, .int 0])), (q1, .inl (CA 0, N, .inl (fun _ => 0))), (q2, .inl (CA 0, N, .inl (fun _ => 0))), (q3, .inl (CA 0, N, .inl (fun _ => 0))), (q4, .inl (CA 0, N, .inl (fun _ => 0)))] H := hP
  have hD : va_D A [(h0, .inr (0, [.ref q1, .ref q2, .ref q3, .null, .int 0])), (q1, .inl (CA 0, N, .inl (fun _ => 0))), (q2, .inl (CA 0, N, .inl (fun _ => 0))), (q3, .inl (CA 0, N, .inl (fun _ => 0))), (q4, .inl (CA 0, N, .inl (fun _ => 0)))] := hD
  refine W.widen (k := 4) (n := 4 * N) (show 3 + 1 ≤ 4 by decide) (by omega) ?_
  refine va_putF (D := D) (ci := 0) (v := .ref q4) (ty := .array .int) (C := RX0) (T := TX0) (N := 5) hx hb htg (fun w hw => q_lay_in 0 (by decide) w hw) tyX0 tyX0_ok nmX0 hown hK hP hD hS 0 rfl rfl 3 (by decide) (htg _ (q_cw_in _ (List.mem_of_getElem? (i := 8) rfl))) (fun _ h9 => h9) rfl hin rfl (by decide +kernel) rfl rfl (Nat.le_of_ble_eq_true rfl) dX0_init_34 (fun H locs hP hD hS => ?_)
  have hP : va_P D q_classes [(h0, .inr (0, [.ref q1, .ref q2, .ref q3, .ref q4, .int 0])), (q1, .inl (CA 0, N, .inl (fun _ => 0))), (q2, .inl (CA 0, N, .inl (fun _ => 0))), (q3, .inl (CA 0, N, .inl (fun _ => 0))), (q4, .inl (CA 0, N, .inl (fun _ => 0)))] H := hP
  have hD : va_D A [(h0, .inr (0, [.ref q1, .ref q2, .ref q3, .ref q4, .int 0])), (q1, .inl (CA 0, N, .inl (fun _ => 0))), (q2, .inl (CA 0, N, .inl (fun _ => 0))), (q3, .inl (CA 0, N, .inl (fun _ => 0))), (q4, .inl (CA 0, N, .inl (fun _ => 0)))] := hD
  exact W.vret hx hb hr (fun t ht hW => ⟨⟨(fun n => ([q1, q2, q3, q4] : List Nat).getD n 0), rfl, trivial, by rw [ht]; exact hP, hD⟩, hS.F ht⟩) hS.2.2 dX0_init_37
def q_wX1_init (CA : Nat → ClassId) (h0 : Nat) (u : Nat → Nat) : va_W := [(h0, .inr (1, [.ref (u 0), .ref (u 1), .ref (u 2), .ref (u 3)])), ((u 0), .inl (CA 0, 4, .inl (fun _ => 0))), ((u 1), .inl (CA 0, 4, .inl (fun _ => 0))), ((u 2), .inl (CA 0, 4, .inl (fun _ => 0))), ((u 3), .inl (CA 0, 5, .inl q_bg))]
set_option maxHeartbeats 400000 in
set_option maxRecDepth 100000 in
theorem c_X1_init (l : Launch) (D : va_G) (CA : Nat → ClassId) (h0 sz : Nat) : Met l yX1_init (.code yX1_init cX1_init 1 none :: q_gw) { frames := 1, cells := 4, slots := 17, locals := 12 } (va_Pc [.ref h0] (fun U => U.heap.size = sz ∧ va_P D q_classes [(h0, .inr (1, [.null, .null, .null, .null]))] U.heap ∧ va_K D q_classes (q_tys CA) U ∧ va_D (fun _ => True) [(h0, .inr (1, [.null, .null, .null, .null]))])) (va_Qv (fun _ : Nat → Nat => True) (fun u t => va_P D q_classes (q_wX1_init CA h0 u) t.heap ∧ va_D (va_A [(h0, .inr (1, [.null, .null, .null, .null]))] sz) (q_wX1_init CA h0 u)) (va_A [(h0, .inr (1, [.null, .null, .null, .null]))] sz)) 4 (17) (va_A [(h0, .inr (1, [.null, .null, .null, .null]))] sz) := by
  refine Met.ofW (cc := cX1_init) (maxL := 1) (ret := none) (by decide) rfl ?_
  intro p e s m args below meth c s₁ B hml hv
  obtain ⟨rfl, hsz, hP, hK, hD0⟩ := hv
  have hx := B.exec
  have hb := B.bytes
  have hr := B.returns
  have hts := atoms_spec (ws := .code yX1_init cX1_init 1 none :: q_gw) B.pre
  have htg : ∀ w ∈ q_gw, w.before ([.ref h0] : List Value).toArray s = true := fun w h => hts w (List.mem_cons_of_mem _ h)
  have hown : s.vm.findClass RX1 = some m.cls := findClass_of_methodNamed B.named
  have hlocks := B.notSynchronized
  have hin : meth.name = "<init>" := (name_of_methodNamed B.named B.method).1
  subst hsz
  have hD := hD0.self (sz := s.heap.size)
  generalize hAe : va_A [(h0, .inr (1, [.null, .null, .null, .null]))] s.heap.size = A at hD ⊢
  have hA : ∀ q : Nat, s.heap.size ≤ q → A q := fun q h => by rw [← hAe]; exact Or.inr h
  have hS : va_S A s.heap s.heap [] := va_S.rf
  have hP : va_P D q_classes [(h0, .inr (1, [.null, .null, .null, .null]))] s.heap := hP
  have hl := lv_entry ([.ref h0]) (n := 1) (Nat.le_of_ble_eq_true rfl)
  rw [lg_entry_eq]
  generalize (lg_sl ([.ref h0]) ++ List.replicate (1 - (lg_sl ([.ref h0])).length) Slot.unset).toArray = ls at hl ⊢
  have hl : lv_has ls 1 [(0, .ref h0)] := hl
  refine lv_aload_n hx hb dX1_init_0 rfl (lv_at hl 0 rfl) ?_
  refine W.objInit hx hb hown (htg _ (q_cw_in _ (List.mem_of_getElem? (i := 9) rfl))) (htg _ (q_cw_in _ (List.mem_of_getElem? (i := 1) rfl))) (htg _ (q_cw_in _ (List.mem_of_getElem? (i := 2) rfl))) rfl (by rw [hml]; exact hl.1) rfl dX1_init_1 (Nat.le_of_ble_eq_true rfl) (Nat.le_of_ble_eq_true rfl) ?_
  refine W.eq (g2 := F0 m 4 ls []) rfl ?_
  refine lv_aload_n hx hb dX1_init_4 rfl (lv_at hl 0 rfl) ?_
  refine lv_iconst (v := 4) hx hb dX1_init_5 (by decide) ?_
  refine va_newa (atype := .int) (ty := .int) (N' := 4) (a0 := (4, .inl (fun _ => 0))) hx hb (htg _ (q_cw_in _ (List.mem_of_getElem? (i := 4) rfl))) rfl hK hP hD hS hA (q_arr_int _) (by decide +kernel) (by decide +kernel) (by decide +kernel) (show 0 + 1 ≤ 4 by decide) (show 0 + 4 ≤ 17 by decide) dX1_init_6 (fun q1 cA H hK1 hP hD hS => ?_)
  obtain rfl := q_ca_int hK1
  have hP : va_P D q_classes [(h0, .inr (1, [.null, .null, .null, .null])), (q1, .inl (CA 0, 4, .inl (fun _ => 0)))] H := hP
  have hD : va_D A [(h0, .inr (1, [.null, .null, .null, .null])), (q1, .inl (CA 0, 4, .inl (fun _ => 0)))] := hD
  refine W.widen (k := 1) (n := 4) (show 0 + 1 ≤ 1 by decide) (show 0 + 4 ≤ 4 by decide) ?_
  refine va_putF (D := D) (ci := 1) (v := .ref q1) (ty := .array .int) (C := RX1) (T := TX1) (N := 4) hx hb htg (fun w hw => q_lay_in 1 (by decide) w hw) tyX1 tyX1_ok nmX1 hown hK hP hD hS 0 rfl rfl 0 (by decide) (htg _ (q_cw_in _ (List.mem_of_getElem? (i := 10) rfl))) (fun _ h9 => h9) rfl hin rfl (by decide +kernel) rfl rfl (Nat.le_of_ble_eq_true rfl) dX1_init_8 (fun H locs hP hD hS => ?_)
  have hP : va_P D q_classes [(h0, .inr (1, [.ref q1, .null, .null, .null])), (q1, .inl (CA 0, 4, .inl (fun _ => 0)))] H := hP
  have hD : va_D A [(h0, .inr (1, [.ref q1, .null, .null, .null])), (q1, .inl (CA 0, 4, .inl (fun _ => 0)))] := hD
  refine lv_aload_n hx hb dX1_init_11 rfl (lv_at hl 0 rfl) ?_
  refine lv_iconst (v := 4) hx hb dX1_init_12 (by decide) ?_
  refine va_newa (atype := .int) (ty := .int) (N' := 4) (a0 := (4, .inl (fun _ => 0))) hx hb (htg _ (q_cw_in _ (List.mem_of_getElem? (i := 4) rfl))) rfl hK hP hD hS hA (q_arr_int _) (by decide +kernel) (by decide +kernel) (by decide +kernel) (show 1 + 1 ≤ 4 by decide) (show 4 + 4 ≤ 17 by decide) dX1_init_13 (fun q2 cA H hK1 hP hD hS => ?_)
  obtain rfl := q_ca_int hK1
  have hP : va_P D q_classes [(h0, .inr (1, [.ref q1, .null, .null, .null])), (q1, .inl (CA 0, 4, .inl (fun _ => 0))), (q2, .inl (CA 0, 4, .inl (fun _ => 0)))] H := hP
  have hD : va_D A [(h0, .inr (1, [.ref q1, .null, .null, .null])), (q1, .inl (CA 0, 4, .inl (fun _ => 0))), (q2, .inl (CA 0, 4, .inl (fun _ => 0)))] := hD
  refine W.widen (k := 2) (n := 8) (show 1 + 1 ≤ 2 by decide) (show 4 + 4 ≤ 8 by decide) ?_
  refine va_putF (D := D) (ci := 1) (v := .ref q2) (ty := .array .int) (C := RX1) (T := TX1) (N := 4) hx hb htg (fun w hw => q_lay_in 1 (by decide) w hw) tyX1 tyX1_ok nmX1 hown hK hP hD hS 0 rfl rfl 1 (by decide) (htg _ (q_cw_in _ (List.mem_of_getElem? (i := 11) rfl))) (fun _ h9 => h9) rfl hin rfl (by decide +kernel) rfl rfl (Nat.le_of_ble_eq_true rfl) dX1_init_15 (fun H locs hP hD hS => ?_)
  have hP : va_P D q_classes [(h0, .inr (1, [.ref q1, .ref q2, .null, .null])), (q1, .inl (CA 0, 4, .inl (fun _ => 0))), (q2, .inl (CA 0, 4, .inl (fun _ => 0)))] H := hP
  have hD : va_D A [(h0, .inr (1, [.ref q1, .ref q2, .null, .null])), (q1, .inl (CA 0, 4, .inl (fun _ => 0))), (q2, .inl (CA 0, 4, .inl (fun _ => 0)))] := hD
  refine lv_aload_n hx hb dX1_init_18 rfl (lv_at hl 0 rfl) ?_
  refine lv_iconst (v := 4) hx hb dX1_init_19 (by decide) ?_
  refine va_newa (atype := .int) (ty := .int) (N' := 4) (a0 := (4, .inl (fun _ => 0))) hx hb (htg _ (q_cw_in _ (List.mem_of_getElem? (i := 4) rfl))) rfl hK hP hD hS hA (q_arr_int _) (by decide +kernel) (by decide +kernel) (by decide +kernel) (show 2 + 1 ≤ 4 by decide) (show 8 + 4 ≤ 17 by decide) dX1_init_20 (fun q3 cA H hK1 hP hD hS => ?_)
  obtain rfl := q_ca_int hK1
  have hP : va_P D q_classes [(h0, .inr (1, [.ref q1, .ref q2, .null, .null])), (q1, .inl (CA 0, 4, .inl (fun _ => 0))), (q2, .inl (CA 0, 4, .inl (fun _ => 0))), (q3, .inl (CA 0, 4, .inl (fun _ => 0)))] H := hP
  have hD : va_D A [(h0, .inr (1, [.ref q1, .ref q2, .null, .null])), (q1, .inl (CA 0, 4, .inl (fun _ => 0))), (q2, .inl (CA 0, 4, .inl (fun _ => 0))), (q3, .inl (CA 0, 4, .inl (fun _ => 0)))] := hD
  refine W.widen (k := 3) (n := 12) (show 2 + 1 ≤ 3 by decide) (show 8 + 4 ≤ 12 by decide) ?_
  refine va_putF (D := D) (ci := 1) (v := .ref q3) (ty := .array .int) (C := RX1) (T := TX1) (N := 4) hx hb htg (fun w hw => q_lay_in 1 (by decide) w hw) tyX1 tyX1_ok nmX1 hown hK hP hD hS 0 rfl rfl 2 (by decide) (htg _ (q_cw_in _ (List.mem_of_getElem? (i := 12) rfl))) (fun _ h9 => h9) rfl hin rfl (by decide +kernel) rfl rfl (Nat.le_of_ble_eq_true rfl) dX1_init_22 (fun H locs hP hD hS => ?_)
  have hP : va_P D q_classes [(h0, .inr (1, [.ref q1, .ref q2, .ref q3, .null])), (q1, .inl (CA 0, 4, .inl (fun _ => 0))), (q2, .inl (CA 0, 4, .inl (fun _ => 0))), (q3, .inl (CA 0, 4, .inl (fun _ => 0)))] H := hP
  have hD : va_D A [(h0, .inr (1, [.ref q1, .ref q2, .ref q3, .null])), (q1, .inl (CA 0, 4, .inl (fun _ => 0))), (q2, .inl (CA 0, 4, .inl (fun _ => 0))), (q3, .inl (CA 0, 4, .inl (fun _ => 0)))] := hD
  refine lv_aload_n hx hb dX1_init_25 rfl (lv_at hl 0 rfl) ?_
  refine lv_iconst (v := 5) hx hb dX1_init_26 (by decide) ?_
  refine va_newa (atype := .int) (ty := .int) (N' := 5) (a0 := (5, .inl (fun _ => 0))) hx hb (htg _ (q_cw_in _ (List.mem_of_getElem? (i := 4) rfl))) rfl hK hP hD hS hA (q_arr_int _) (by decide +kernel) (by decide +kernel) (by decide +kernel) (show 3 + 1 ≤ 4 by decide) (show 12 + 5 ≤ 17 by decide) dX1_init_27 (fun q4 cA H hK1 hP hD hS => ?_)
  obtain rfl := q_ca_int hK1
  have hP : va_P D q_classes [(h0, .inr (1, [.ref q1, .ref q2, .ref q3, .null])), (q1, .inl (CA 0, 4, .inl (fun _ => 0))), (q2, .inl (CA 0, 4, .inl (fun _ => 0))), (q3, .inl (CA 0, 4, .inl (fun _ => 0))), (q4, .inl (CA 0, 5, .inl (fun _ => 0)))] H := hP
  have hD : va_D A [(h0, .inr (1, [.ref q1, .ref q2, .ref q3, .null])), (q1, .inl (CA 0, 4, .inl (fun _ => 0))), (q2, .inl (CA 0, 4, .inl (fun _ => 0))), (q3, .inl (CA 0, 4, .inl (fun _ => 0))), (q4, .inl (CA 0, 5, .inl (fun _ => 0)))] := hD
  refine W.widen (k := 4) (n := 17) (show 3 + 1 ≤ 4 by decide) (show 12 + 5 ≤ 17 by decide) ?_
  refine lv_dup hx hb dX1_init_29 rfl ?_
  refine lv_iconst (v := 0) hx hb dX1_init_30 (by decide) ?_
  refine lv_iconst (v := 0) hx hb dX1_init_31 (by decide) ?_
  refine va_iast hx hb hK hP hD hS 4 0 rfl rfl (q_vp (by decide)) dX1_init_32 (fun H locs hP hD hS => ?_)
  have hP : va_P D q_classes [(h0, .inr (1, [.ref q1, .ref q2, .ref q3, .null])), (q1, .inl (CA 0, 4, .inl (fun _ => 0))), (q2, .inl (CA 0, 4, .inl (fun _ => 0))), (q3, .inl (CA 0, 4, .inl (fun _ => 0))), (q4, .inl (CA 0, 5, .inl (upd (fun _ => 0) (Int32.toNatClampNeg 0) 0)))] H := hP
  have hD : va_D A [(h0, .inr (1, [.ref q1, .ref q2, .ref q3, .null])), (q1, .inl (CA 0, 4, .inl (fun _ => 0))), (q2, .inl (CA 0, 4, .inl (fun _ => 0))), (q3, .inl (CA 0, 4, .inl (fun _ => 0))), (q4, .inl (CA 0, 5, .inl (upd (fun _ => 0) (Int32.toNatClampNeg 0) 0)))] := hD
  refine lv_dup hx hb dX1_init_33 rfl ?_
  refine lv_iconst (v := 1) hx hb dX1_init_34 (by decide) ?_
  refine lv_bipush (v := 64) hx hb dX1_init_35 (by decide) ?_
  refine va_iast hx hb hK hP hD hS 4 0 rfl rfl (q_vp (by decide)) dX1_init_37 (fun H locs hP hD hS => ?_)
  have hP : va_P D q_classes [(h0, .inr (1, [.ref q1, .ref q2, .ref q3, .null])), (q1, .inl (CA 0, 4, .inl (fun _ => 0))), (q2, .inl (CA 0, 4, .inl (fun _ => 0))), (q3, .inl (CA 0, 4, .inl (fun _ => 0))), (q4, .inl (CA 0, 5, .inl (upd (upd (fun _ => 0) (Int32.toNatClampNeg 0) 0) (Int32.toNatClampNeg 1) 64)))] H := hP
  have hD : va_D A [(h0, .inr (1, [.ref q1, .ref q2, .ref q3, .null])), (q1, .inl (CA 0, 4, .inl (fun _ => 0))), (q2, .inl (CA 0, 4, .inl (fun _ => 0))), (q3, .inl (CA 0, 4, .inl (fun _ => 0))), (q4, .inl (CA 0, 5, .inl (upd (upd (fun _ => 0) (Int32.toNatClampNeg 0) 0) (Int32.toNatClampNeg 1) 64)))] := hD
  refine lv_dup hx hb dX1_init_38 rfl ?_
  refine lv_iconst (v := 2) hx hb dX1_init_39 (by decide) ?_
  refine lv_bipush (v := 64) hx hb dX1_init_40 (by decide) ?_
  refine va_iast hx hb hK hP hD hS 4 0 rfl rfl (q_vp (by decide)) dX1_init_42 (fun H locs hP hD hS => ?_)
  have hP : va_P D q_classes [(h0, .inr (1, [.ref q1, .ref q2, .ref q3, .null])), (q1, .inl (CA 0, 4, .inl (fun _ => 0))), (q2, .inl (CA 0, 4, .inl (fun _ => 0))), (q3, .inl (CA 0, 4, .inl (fun _ => 0))), (q4, .inl (CA 0, 5, .inl (upd (upd (upd (fun _ => 0) (Int32.toNatClampNeg 0) 0) (Int32.toNatClampNeg 1) 64) (Int32.toNatClampNeg 2) 64)))] H := hP
  have hD : va_D A [(h0, .inr (1, [.ref q1, .ref q2, .ref q3, .null])), (q1, .inl (CA 0, 4, .inl (fun _ => 0))), (q2, .inl (CA 0, 4, .inl (fun _ => 0))), (q3, .inl (CA 0, 4, .inl (fun _ => 0))), (q4, .inl (CA 0, 5, .inl (upd (upd (upd (fun _ => 0) (Int32.toNatClampNeg 0) 0) (Int32.toNatClampNeg 1) 64) (Int32.toNatClampNeg 2) 64)))] := hD
  refine lv_dup hx hb dX1_init_43 rfl ?_
  refine lv_iconst (v := 3) hx hb dX1_init_44 (by decide) ?_
  refine lv_bipush (v := 64) hx hb dX1_init_45 (by decide) ?_
  refine va_iast hx hb hK hP hD hS 4 0 rfl rfl (q_vp (by decide)) dX1_init_47 (fun H locs hP hD hS => ?_)
  have hP : va_P D q_classes [(h0, .inr (1, [.ref q1, .ref q2, .ref q3, .null])), (q1, .inl (CA 0, 4, .inl (fun _ => 0))), (q2, .inl (CA 0, 4, .inl (fun _ => 0))), (q3, .inl (CA 0, 4, .inl (fun _ => 0))), (q4, .inl (CA 0, 5, .inl (upd (upd (upd (upd (fun _ => 0) (Int32.toNatClampNeg 0) 0) (Int32.toNatClampNeg 1) 64) (Int32.toNatClampNeg 2) 64) (Int32.toNatClampNeg 3) 64)))] H := hP
  have hD : va_D A [(h0, .inr (1, [.ref q1, .ref q2, .ref q3, .null])), (q1, .inl (CA 0, 4, .inl (fun _ => 0))), (q2, .inl (CA 0, 4, .inl (fun _ => 0))), (q3, .inl (CA 0, 4, .inl (fun _ => 0))), (q4, .inl (CA 0, 5, .inl (upd (upd (upd (upd (fun _ => 0) (Int32.toNatClampNeg 0) 0) (Int32.toNatClampNeg 1) 64) (Int32.toNatClampNeg 2) 64) (Int32.toNatClampNeg 3) 64)))] := hD
  refine lv_dup hx hb dX1_init_48 rfl ?_
  refine lv_iconst (v := 4) hx hb dX1_init_49 (by decide) ?_
  refine lv_bipush (v := 64) hx hb dX1_init_50 (by decide) ?_
  refine va_iast hx hb hK hP hD hS 4 0 rfl rfl (q_vp (by decide)) dX1_init_52 (fun H locs hP hD hS => ?_)
  have hP : va_P D q_classes [(h0, .inr (1, [.ref q1, .ref q2, .ref q3, .null])), (q1, .inl (CA 0, 4, .inl (fun _ => 0))), (q2, .inl (CA 0, 4, .inl (fun _ => 0))), (q3, .inl (CA 0, 4, .inl (fun _ => 0))), (q4, .inl (CA 0, 5, .inl (upd (upd (upd (upd (upd (fun _ => 0) (Int32.toNatClampNeg 0) 0) (Int32.toNatClampNeg 1) 64) (Int32.toNatClampNeg 2) 64) (Int32.toNatClampNeg 3) 64) (Int32.toNatClampNeg 4) 64)))] H := hP
  have hD : va_D A [(h0, .inr (1, [.ref q1, .ref q2, .ref q3, .null])), (q1, .inl (CA 0, 4, .inl (fun _ => 0))), (q2, .inl (CA 0, 4, .inl (fun _ => 0))), (q3, .inl (CA 0, 4, .inl (fun _ => 0))), (q4, .inl (CA 0, 5, .inl (upd (upd (upd (upd (upd (fun _ => 0) (Int32.toNatClampNeg 0) 0) (Int32.toNatClampNeg 1) 64) (Int32.toNatClampNeg 2) 64) (Int32.toNatClampNeg 3) 64) (Int32.toNatClampNeg 4) 64)))] := hD
  refine va_putF (D := D) (ci := 1) (v := .ref q4) (ty := .array .int) (C := RX1) (T := TX1) (N := 4) hx hb htg (fun w hw => q_lay_in 1 (by decide) w hw) tyX1 tyX1_ok nmX1 hown hK hP hD hS 0 rfl rfl 3 (by decide) (htg _ (q_cw_in _ (List.mem_of_getElem? (i := 13) rfl))) (fun _ h9 => h9) rfl hin rfl (by decide +kernel) rfl rfl (Nat.le_of_ble_eq_true rfl) dX1_init_53 (fun H locs hP hD hS => ?_)
  have hP : va_P D q_classes [(h0, .inr (1, [.ref q1, .ref q2, .ref q3, .ref q4])), (q1, .inl (CA 0, 4, .inl (fun _ => 0))), (q2, .inl (CA 0, 4, .inl (fun _ => 0))), (q3, .inl (CA 0, 4, .inl (fun _ => 0))), (q4, .inl (CA 0, 5, .inl (upd (upd (upd (upd (upd (fun _ => 0) (Int32.toNatClampNeg 0) 0) (Int32.toNatClampNeg 1) 64) (Int32.toNatClampNeg 2) 64) (Int32.toNatClampNeg 3) 64) (Int32.toNatClampNeg 4) 64)))] H := hP
  have hD : va_D A [(h0, .inr (1, [.ref q1, .ref q2, .ref q3, .ref q4])), (q1, .inl (CA 0, 4, .inl (fun _ => 0))), (q2, .inl (CA 0, 4, .inl (fun _ => 0))), (q3, .inl (CA 0, 4, .inl (fun _ => 0))), (q4, .inl (CA 0, 5, .inl (upd (upd (upd (upd (upd (fun _ => 0) (Int32.toNatClampNeg 0) 0) (Int32.toNatClampNeg 1) 64) (Int32.toNatClampNeg 2) 64) (Int32.toNatClampNeg 3) 64) (Int32.toNatClampNeg 4) 64)))] := hD
  rw [q_bg_eq] at hP hD
  exact W.vret hx hb hr (fun t ht hW => ⟨⟨(fun n => ([q1, q2, q3, q4] : List Nat).getD n 0), rfl, trivial, by rw [ht]; exact hP, hD⟩, hS.F ht⟩) hS.2.2 dX1_init_56
def q_wX2_init (CA : Nat → ClassId) (h0 : Nat) (u : Nat → Nat) : va_W := [(h0, .inr (2, [.ref (u 0), .ref (u 1), .int 0])), ((u 0), .inl (CA 0, 64, .inl (fun _ => 0))), ((u 1), .inl (CA 0, 64, .inl (fun _ => 0)))]
set_option maxHeartbeats 400000 in
set_option maxRecDepth 100000 in
theorem c_X2_init (l : Launch) (D : va_G) (CA : Nat → ClassId) (h0 sz : Nat) : Met l yX2_init (.code yX2_init cX2_init 1 none :: q_gw) { frames := 1, cells := 2, slots := 128, locals := 12 } (va_Pc [.ref h0] (fun U => U.heap.size = sz ∧ va_P D q_classes [(h0, .inr (2, [.null, .null, .int 0]))] U.heap ∧ va_K D q_classes (q_tys CA) U ∧ va_D (fun _ => True) [(h0, .inr (2, [.null, .null, .int 0]))])) (va_Qv (fun _ : Nat → Nat => True) (fun u t => va_P D q_classes (q_wX2_init CA h0 u) t.heap ∧ va_D (va_A [(h0, .inr (2, [.null, .null, .int 0]))] sz) (q_wX2_init CA h0 u)) (va_A [(h0, .inr (2, [.null, .null, .int 0]))] sz)) 2 (128) (va_A [(h0, .inr (2, [.null, .null, .int 0]))] sz) := by
  refine Met.ofW (cc := cX2_init) (maxL := 1) (ret := none) (by decide) rfl ?_
  intro p e s m args below meth c s₁ B hml hv
  obtain ⟨rfl, hsz, hP, hK, hD0⟩ := hv
  have hx := B.exec
  have hb := B.bytes
  have hr := B.returns
  have hts := atoms_spec (ws := .code yX2_init cX2_init 1 none :: q_gw) B.pre
  have htg : ∀ w ∈ q_gw, w.before ([.ref h0] : List Value).toArray s = true := fun w h => hts w (List.mem_cons_of_mem _ h)
  have hown : s.vm.findClass RX2 = some m.cls := findClass_of_methodNamed B.named
  have hlocks := B.notSynchronized
  have hin : meth.name = "<init>" := (name_of_methodNamed B.named B.method).1
  subst hsz
  have hD := hD0.self (sz := s.heap.size)
  generalize hAe : va_A [(h0, .inr (2, [.null, .null, .int 0]))] s.heap.size = A at hD ⊢
  have hA : ∀ q : Nat, s.heap.size ≤ q → A q := fun q h => by rw [← hAe]; exact Or.inr h
  have hS : va_S A s.heap s.heap [] := va_S.rf
  have hP : va_P D q_classes [(h0, .inr (2, [.null, .null, .int 0]))] s.heap := hP
  have hl := lv_entry ([.ref h0]) (n := 1) (Nat.le_of_ble_eq_true rfl)
  rw [lg_entry_eq]
  generalize (lg_sl ([.ref h0]) ++ List.replicate (1 - (lg_sl ([.ref h0])).length) Slot.unset).toArray = ls at hl ⊢
  have hl : lv_has ls 1 [(0, .ref h0)] := hl
  refine lv_aload_n hx hb dX2_init_0 rfl (lv_at hl 0 rfl) ?_
  refine W.objInit hx hb hown (htg _ (q_cw_in _ (List.mem_of_getElem? (i := 14) rfl))) (htg _ (q_cw_in _ (List.mem_of_getElem? (i := 1) rfl))) (htg _ (q_cw_in _ (List.mem_of_getElem? (i := 2) rfl))) rfl (by rw [hml]; exact hl.1) rfl dX2_init_1 (Nat.le_of_ble_eq_true rfl) (Nat.le_of_ble_eq_true rfl) ?_
  refine W.eq (g2 := F0 m 4 ls []) rfl ?_
  refine lv_aload_n hx hb dX2_init_4 rfl (lv_at hl 0 rfl) ?_
  refine lv_bipush (v := 64) hx hb dX2_init_5 (by decide) ?_
  refine va_newa (atype := .int) (ty := .int) (N' := 64) (a0 := (64, .inl (fun _ => 0))) hx hb (htg _ (q_cw_in _ (List.mem_of_getElem? (i := 4) rfl))) rfl hK hP hD hS hA (q_arr_int _) (by decide +kernel) (by decide +kernel) (by decide +kernel) (show 0 + 1 ≤ 2 by decide) (show 0 + 64 ≤ 128 by decide) dX2_init_7 (fun q1 cA H hK1 hP hD hS => ?_)
  obtain rfl := q_ca_int hK1
  have hP : va_P D q_classes [(h0, .inr (2, [.null, .null, .int 0])), (q1, .inl (CA 0, 64, .inl (fun _ => 0)))] H := hP
  have hD : va_D A [(h0, .inr (2, [.null, .null, .int 0])), (q1, .inl (CA 0, 64, .inl (fun _ => 0)))] := hD
  refine W.widen (k := 1) (n := 64) (show 0 + 1 ≤ 1 by decide) (show 0 + 64 ≤ 64 by decide) ?_
  refine va_putF (D := D) (ci := 2) (v := .ref q1) (ty := .array .int) (C := RX2) (T := TX2) (N := 3) hx hb htg (fun w hw => q_lay_in 2 (by decide) w hw) tyX2 tyX2_ok nmX2 hown hK hP hD hS 0 rfl rfl 0 (by decide) (htg _ (q_cw_in _ (List.mem_of_getElem? (i := 15) rfl))) (fun _ h9 => h9) rfl hin rfl (by decide +kernel) rfl rfl (Nat.le_of_ble_eq_true rfl) dX2_init_9 (fun H locs hP hD hS => ?_)
  have hP : va_P D q_classes [(h0, .inr (2, [.ref q1, .null, .int 0])), (q1, .inl (CA 0, 64, .inl (fun _ => 0)))] H := hP
  have hD : va_D A [(h0, .inr (2, [.ref q1, .null, .int 0])), (q1, .inl (CA 0, 64, .inl (fun _ => 0)))] := hD
  refine lv_aload_n hx hb dX2_init_12 rfl (lv_at hl 0 rfl) ?_
  refine lv_bipush (v := 64) hx hb dX2_init_13 (by decide) ?_
  refine va_newa (atype := .int) (ty := .int) (N' := 64) (a0 := (64, .inl (fun _ => 0))) hx hb (htg _ (q_cw_in _ (List.mem_of_getElem? (i := 4) rfl))) rfl hK hP hD hS hA (q_arr_int _) (by decide +kernel) (by decide +kernel) (by decide +kernel) (show 1 + 1 ≤ 2 by decide) (show 64 + 64 ≤ 128 by decide) dX2_init_15 (fun q2 cA H hK1 hP hD hS => ?_)
  obtain rfl := q_ca_int hK1
  have hP : va_P D q_classes [(h0, .inr (2, [.ref q1, .null, .int 0])), (q1, .inl (CA 0, 64, .inl (fun _ => 0))), (q2, .inl (CA 0, 64, .inl (fun _ => 0)))] H := hP
  have hD : va_D A [(h0, .inr (2, [.ref q1, .null, .int 0])), (q1, .inl (CA 0, 64, .inl (fun _ => 0))), (q2, .inl (CA 0, 64, .inl (fun _ => 0)))] := hD
  refine W.widen (k := 2) (n := 128) (show 1 + 1 ≤ 2 by decide) (show 64 + 64 ≤ 128 by decide) ?_
  refine va_putF (D := D) (ci := 2) (v := .ref q2) (ty := .array .int) (C := RX2) (T := TX2) (N := 3) hx hb htg (fun w hw => q_lay_in 2 (by decide) w hw) tyX2 tyX2_ok nmX2 hown hK hP hD hS 0 rfl rfl 1 (by decide) (htg _ (q_cw_in _ (List.mem_of_getElem? (i := 16) rfl))) (fun _ h9 => h9) rfl hin rfl (by decide +kernel) rfl rfl (Nat.le_of_ble_eq_true rfl) dX2_init_17 (fun H locs hP hD hS => ?_)
  have hP : va_P D q_classes [(h0, .inr (2, [.ref q1, .ref q2, .int 0])), (q1, .inl (CA 0, 64, .inl (fun _ => 0))), (q2, .inl (CA 0, 64, .inl (fun _ => 0)))] H := hP
  have hD : va_D A [(h0, .inr (2, [.ref q1, .ref q2, .int 0])), (q1, .inl (CA 0, 64, .inl (fun _ => 0))), (q2, .inl (CA 0, 64, .inl (fun _ => 0)))] := hD
  refine lv_aload_n hx hb dX2_init_20 rfl (lv_at hl 0 rfl) ?_
  refine lv_iconst (v := 0) hx hb dX2_init_21 (by decide) ?_
  refine va_put (D := D) (ci := 2) (v := .int 0) (ty := .int) (C := RX2) (T := TX2) (N := 3) hx hb htg (fun w hw => q_lay_in 2 (by decide) w hw) tyX2 tyX2_ok nmX2 hown hK hP hD hS 0 rfl rfl 2 (by decide) (htg _ (q_cw_in _ (List.mem_of_getElem? (i := 17) rfl))) (fun _ h9 => h9) rfl (by decide +kernel) rfl rfl (Nat.le_of_ble_eq_true rfl) dX2_init_22 (fun H locs hP hD hS => ?_)
  have hP : va_P D q_classes [(h0, .inr (2, [.ref q1, .ref q2, .int 0])), (q1, .inl (CA 0, 64, .inl (fun _ => 0))), (q2, .inl (CA 0, 64, .inl (fun _ => 0)))] H := hP
  have hD : va_D A [(h0, .inr (2, [.ref q1, .ref q2, .int 0])), (q1, .inl (CA 0, 64, .inl (fun _ => 0))), (q2, .inl (CA 0, 64, .inl (fun _ => 0)))] := hD
  exact W.vret hx hb hr (fun t ht hW => ⟨⟨(fun n => ([q1, q2] : List Nat).getD n 0), rfl, trivial, by rw [ht]; exact hP, hD⟩, hS.F ht⟩) hS.2.2 dX2_init_25
def q_wX3_init (CA : Nat → ClassId) (h0 : Nat) (u : Nat → Nat) : va_W := [(h0, .inr (3, [.ref (u 0)])), ((u 0), .inl (CA 1, 48, .inr (.inl (fun _ => 0))))]
set_option maxHeartbeats 400000 in
set_option maxRecDepth 100000 in
theorem c_X3_init (l : Launch) (D : va_G) (CA : Nat → ClassId) (h0 sz : Nat) : Met l yX3_init (.code yX3_init cX3_init 1 none :: q_gw) { frames := 1, cells := 1, slots := 48, locals := 12 } (va_Pc [.ref h0] (fun U => U.heap.size = sz ∧ va_P D q_classes [(h0, .inr (3, [.null]))] U.heap ∧ va_K D q_classes (q_tys CA) U ∧ va_D (fun _ => True) [(h0, .inr (3, [.null]))])) (va_Qv (fun _ : Nat → Nat => True) (fun u t => va_P D q_classes (q_wX3_init CA h0 u) t.heap ∧ va_D (va_A [(h0, .inr (3, [.null]))] sz) (q_wX3_init CA h0 u)) (va_A [(h0, .inr (3, [.null]))] sz)) 1 (48) (va_A [(h0, .inr (3, [.null]))] sz) := by
  refine Met.ofW (cc := cX3_init) (maxL := 1) (ret := none) (by decide) rfl ?_
  intro p e s m args below meth c s₁ B hml hv
  obtain ⟨rfl, hsz, hP, hK, hD0⟩ := hv
  have hx := B.exec
  have hb := B.bytes
  have hr := B.returns
  have hts := atoms_spec (ws := .code yX3_init cX3_init 1 none :: q_gw) B.pre
  have htg : ∀ w ∈ q_gw, w.before ([.ref h0] : List Value).toArray s = true := fun w h => hts w (List.mem_cons_of_mem _ h)
  have hown : s.vm.findClass RX3 = some m.cls := findClass_of_methodNamed B.named
  have hlocks := B.notSynchronized
  have hin : meth.name = "<init>" := (name_of_methodNamed B.named B.method).1
  subst hsz
  have hD := hD0.self (sz := s.heap.size)
  generalize hAe : va_A [(h0, .inr (3, [.null]))] s.heap.size = A at hD ⊢
  have hA : ∀ q : Nat, s.heap.size ≤ q → A q := fun q h => by rw [← hAe]; exact Or.inr h
  have hS : va_S A s.heap s.heap [] := va_S.rf
  have hP : va_P D q_classes [(h0, .inr (3, [.null]))] s.heap := hP
  have hl := lv_entry ([.ref h0]) (n := 1) (Nat.le_of_ble_eq_true rfl)
  rw [lg_entry_eq]
  generalize (lg_sl ([.ref h0]) ++ List.replicate (1 - (lg_sl ([.ref h0])).length) Slot.unset).toArray = ls at hl ⊢
  have hl : lv_has ls 1 [(0, .ref h0)] := hl
  refine lv_aload_n hx hb dX3_init_0 rfl (lv_at hl 0 rfl) ?_
  refine W.objInit hx hb hown (htg _ (q_cw_in _ (List.mem_of_getElem? (i := 18) rfl))) (htg _ (q_cw_in _ (List.mem_of_getElem? (i := 1) rfl))) (htg _ (q_cw_in _ (List.mem_of_getElem? (i := 2) rfl))) rfl (by rw [hml]; exact hl.1) rfl dX3_init_1 (Nat.le_of_ble_eq_true rfl) (Nat.le_of_ble_eq_true rfl) ?_
  refine W.eq (g2 := F0 m 4 ls []) rfl ?_
  refine lv_aload_n hx hb dX3_init_4 rfl (lv_at hl 0 rfl) ?_
  refine lv_bipush (v := 48) hx hb dX3_init_5 (by decide) ?_
  refine va_newa (atype := .long) (ty := .long) (N' := 48) (a0 := (48, .inr (.inl (fun _ => 0)))) hx hb (htg _ (q_cw_in _ (List.mem_of_getElem? (i := 19) rfl))) rfl hK hP hD hS hA (q_arr_long _) (by decide +kernel) (by decide +kernel) (by decide +kernel) (show 0 + 1 ≤ 1 by decide) (show 0 + 48 ≤ 48 by decide) dX3_init_7 (fun q1 cA H hK1 hP hD hS => ?_)
  obtain rfl := q_ca_long hK1
  have hP : va_P D q_classes [(h0, .inr (3, [.null])), (q1, .inl (CA 1, 48, .inr (.inl (fun _ => 0))))] H := hP
  have hD : va_D A [(h0, .inr (3, [.null])), (q1, .inl (CA 1, 48, .inr (.inl (fun _ => 0))))] := hD
  refine W.widen (k := 1) (n := 48) (show 0 + 1 ≤ 1 by decide) (show 0 + 48 ≤ 48 by decide) ?_
  refine va_putF (D := D) (ci := 3) (v := .ref q1) (ty := .array .long) (C := RX3) (T := TX3) (N := 1) hx hb htg (fun w hw => q_lay_in 3 (by decide) w hw) tyX3 tyX3_ok nmX3 hown hK hP hD hS 0 rfl rfl 0 (by decide) (htg _ (q_cw_in _ (List.mem_of_getElem? (i := 20) rfl))) (fun _ h9 => h9) rfl hin rfl (by decide +kernel) rfl rfl (Nat.le_of_ble_eq_true rfl) dX3_init_9 (fun H locs hP hD hS => ?_)
  have hP : va_P D q_classes [(h0, .inr (3, [.ref q1])), (q1, .inl (CA 1, 48, .inr (.inl (fun _ => 0))))] H := hP
  have hD : va_D A [(h0, .inr (3, [.ref q1])), (q1, .inl (CA 1, 48, .inr (.inl (fun _ => 0))))] := hD
  exact W.vret hx hb hr (fun t ht hW => ⟨⟨(fun n => ([q1] : List Nat).getD n 0), rfl, trivial, by rw [ht]; exact hP, hD⟩, hS.F ht⟩) hS.2.2 dX3_init_12
