-- ===== PART A: goes FIRST, ahead of the names: the tables' words, and 'selects' of the private methods out of them =====
/-- a private method of a class that the tables say can be made, by its rows of tables_1 -/
def lw_okq (q : MethodName × Nat) : Prop := (q.1.cls ≠ "java/lang/invoke/MethodHandle" ∧ q.1.cls ≠ "java/lang/invoke/VarHandle") ∧ Cond.instantiable q.1.cls q.2 ∈ tables_1 ∧ Cond.privateMethod q.1 ∈ tables_1 ∧ Cond.instanceMethod q.1 ∈ tables_1
theorem lw_p0 : lw_okq (⟨"SleepKeeper", "isPart", "(I)Z"⟩, 9) := ⟨⟨by decide +kernel, by decide +kernel⟩, List.mem_of_getElem? (i := 10) (by decide +kernel), List.mem_of_getElem? (i := 131) (by decide +kernel), List.mem_of_getElem? (i := 132) (by decide +kernel)⟩
theorem lw_p1 : lw_okq (⟨"SleepKeeper", "leadsTo", "(II)Z"⟩, 9) := ⟨⟨by decide +kernel, by decide +kernel⟩, List.mem_of_getElem? (i := 10) (by decide +kernel), List.mem_of_getElem? (i := 150) (by decide +kernel), List.mem_of_getElem? (i := 151) (by decide +kernel)⟩
theorem lw_p2 : lw_okq (⟨"SleepKeeper", "gatherWants", "(LSleepKeeper$Wants;I)V"⟩, 9) := ⟨⟨by decide +kernel, by decide +kernel⟩, List.mem_of_getElem? (i := 10) (by decide +kernel), List.mem_of_getElem? (i := 154) (by decide +kernel), List.mem_of_getElem? (i := 155) (by decide +kernel)⟩
theorem lw_p3 : lw_okq (⟨"SleepKeeper$Wants", "addAll", "(II)V"⟩, 1) := ⟨⟨by decide +kernel, by decide +kernel⟩, List.mem_of_getElem? (i := 43) (by decide +kernel), List.mem_of_getElem? (i := 198) (by decide +kernel), List.mem_of_getElem? (i := 199) (by decide +kernel)⟩
theorem lw_p4 : lw_okq (⟨"SleepKeeper", "fewestWakings", "()J"⟩, 9) := ⟨⟨by decide +kernel, by decide +kernel⟩, List.mem_of_getElem? (i := 10) (by decide +kernel), List.mem_of_getElem? (i := 242) (by decide +kernel), List.mem_of_getElem? (i := 243) (by decide +kernel)⟩
theorem lw_p5 : lw_okq (⟨"SleepKeeper", "layOutIdle", "(I)V"⟩, 9) := ⟨⟨by decide +kernel, by decide +kernel⟩, List.mem_of_getElem? (i := 10) (by decide +kernel), List.mem_of_getElem? (i := 263) (by decide +kernel), List.mem_of_getElem? (i := 264) (by decide +kernel)⟩
theorem lw_p6 : lw_okq (⟨"SleepKeeper$Part", "sumOfTry", "(LSleepKeeper$Spans;III)I"⟩, 4) := ⟨⟨by decide +kernel, by decide +kernel⟩, List.mem_of_getElem? (i := 69) (by decide +kernel), List.mem_of_getElem? (i := 287) (by decide +kernel), List.mem_of_getElem? (i := 288) (by decide +kernel)⟩
theorem lw_p7 : lw_okq (⟨"SleepKeeper$Part", "spanByRule", "(IZ)I"⟩, 4) := ⟨⟨by decide +kernel, by decide +kernel⟩, List.mem_of_getElem? (i := 69) (by decide +kernel), List.mem_of_getElem? (i := 308) (by decide +kernel), List.mem_of_getElem? (i := 309) (by decide +kernel)⟩
theorem lw_p8 : lw_okq (⟨"SleepKeeper$Part", "bestLaterOff", "(LSleepKeeper$Spans;II)I"⟩, 4) := ⟨⟨by decide +kernel, by decide +kernel⟩, List.mem_of_getElem? (i := 69) (by decide +kernel), List.mem_of_getElem? (i := 323) (by decide +kernel), List.mem_of_getElem? (i := 324) (by decide +kernel)⟩
theorem lw_p9 : lw_okq (⟨"SleepKeeper", "drainByRule", "(I)I"⟩, 9) := ⟨⟨by decide +kernel, by decide +kernel⟩, List.mem_of_getElem? (i := 10) (by decide +kernel), List.mem_of_getElem? (i := 327) (by decide +kernel), List.mem_of_getElem? (i := 328) (by decide +kernel)⟩
theorem lw_p10 : lw_okq (⟨"SleepKeeper", "drainInPlan", "(IJ)I"⟩, 9) := ⟨⟨by decide +kernel, by decide +kernel⟩, List.mem_of_getElem? (i := 10) (by decide +kernel), List.mem_of_getElem? (i := 407) (by decide +kernel), List.mem_of_getElem? (i := 408) (by decide +kernel)⟩
theorem lw_p11 : lw_okq (⟨"SleepKeeper", "drainOfAll", "(LSleepKeeper$Wants;)I"⟩, 9) := ⟨⟨by decide +kernel, by decide +kernel⟩, List.mem_of_getElem? (i := 10) (by decide +kernel), List.mem_of_getElem? (i := 438) (by decide +kernel), List.mem_of_getElem? (i := 439) (by decide +kernel)⟩
theorem lw_p12 : lw_okq (⟨"SleepKeeper", "drainInSpans", "(I)I"⟩, 9) := ⟨⟨by decide +kernel, by decide +kernel⟩, List.mem_of_getElem? (i := 10) (by decide +kernel), List.mem_of_getElem? (i := 451) (by decide +kernel), List.mem_of_getElem? (i := 452) (by decide +kernel)⟩
theorem lw_p13 : lw_okq (⟨"SleepKeeper", "blameIn", "(II)I"⟩, 9) := ⟨⟨by decide +kernel, by decide +kernel⟩, List.mem_of_getElem? (i := 10) (by decide +kernel), List.mem_of_getElem? (i := 455) (by decide +kernel), List.mem_of_getElem? (i := 456) (by decide +kernel)⟩
theorem lw_p14 : lw_okq (⟨"SleepKeeper", "gettingUp", "(I)I"⟩, 9) := ⟨⟨by decide +kernel, by decide +kernel⟩, List.mem_of_getElem? (i := 10) (by decide +kernel), List.mem_of_getElem? (i := 473) (by decide +kernel), List.mem_of_getElem? (i := 474) (by decide +kernel)⟩
theorem lw_p15 : lw_okq (⟨"SleepKeeper", "leastReady", "(I)I"⟩, 9) := ⟨⟨by decide +kernel, by decide +kernel⟩, List.mem_of_getElem? (i := 10) (by decide +kernel), List.mem_of_getElem? (i := 477) (by decide +kernel), List.mem_of_getElem? (i := 478) (by decide +kernel)⟩
def lw_privs_1 : List (MethodName × Nat) := [(⟨"SleepKeeper", "isPart", "(I)Z"⟩, 9), (⟨"SleepKeeper", "leadsTo", "(II)Z"⟩, 9), (⟨"SleepKeeper", "gatherWants", "(LSleepKeeper$Wants;I)V"⟩, 9), (⟨"SleepKeeper$Wants", "addAll", "(II)V"⟩, 1), (⟨"SleepKeeper", "fewestWakings", "()J"⟩, 9), (⟨"SleepKeeper", "layOutIdle", "(I)V"⟩, 9), (⟨"SleepKeeper$Part", "sumOfTry", "(LSleepKeeper$Spans;III)I"⟩, 4), (⟨"SleepKeeper$Part", "spanByRule", "(IZ)I"⟩, 4), (⟨"SleepKeeper$Part", "bestLaterOff", "(LSleepKeeper$Spans;II)I"⟩, 4), (⟨"SleepKeeper", "drainByRule", "(I)I"⟩, 9), (⟨"SleepKeeper", "drainInPlan", "(IJ)I"⟩, 9), (⟨"SleepKeeper", "drainOfAll", "(LSleepKeeper$Wants;)I"⟩, 9), (⟨"SleepKeeper", "drainInSpans", "(I)I"⟩, 9), (⟨"SleepKeeper", "blameIn", "(II)I"⟩, 9), (⟨"SleepKeeper", "gettingUp", "(I)I"⟩, 9), (⟨"SleepKeeper", "leastReady", "(I)I"⟩, 9)]
theorem lw_r1 : ∀ q ∈ lw_privs_1, lw_okq q := List.forall_mem_cons.mpr ⟨lw_p0, List.forall_mem_cons.mpr ⟨lw_p1, List.forall_mem_cons.mpr ⟨lw_p2, List.forall_mem_cons.mpr ⟨lw_p3, List.forall_mem_cons.mpr ⟨lw_p4, List.forall_mem_cons.mpr ⟨lw_p5, List.forall_mem_cons.mpr ⟨lw_p6, List.forall_mem_cons.mpr ⟨lw_p7, List.forall_mem_cons.mpr ⟨lw_p8, List.forall_mem_cons.mpr ⟨lw_p9, List.forall_mem_cons.mpr ⟨lw_p10, List.forall_mem_cons.mpr ⟨lw_p11, List.forall_mem_cons.mpr ⟨lw_p12, List.forall_mem_cons.mpr ⟨lw_p13, List.forall_mem_cons.mpr ⟨lw_p14, List.forall_mem_cons.mpr ⟨lw_p15, fun _ h => absurd h List.not_mem_nil⟩⟩⟩⟩⟩⟩⟩⟩⟩⟩⟩⟩⟩⟩⟩⟩
theorem lw_p16 : lw_okq (⟨"SleepKeeperModel", "isPart", "(I)Z"⟩, 16) := ⟨⟨by decide +kernel, by decide +kernel⟩, List.mem_of_getElem? (i := 481) (by decide +kernel), List.mem_of_getElem? (i := 548) (by decide +kernel), List.mem_of_getElem? (i := 549) (by decide +kernel)⟩
theorem lw_p17 : lw_okq (⟨"SleepKeeperModel", "reaches", "(II)Z"⟩, 16) := ⟨⟨by decide +kernel, by decide +kernel⟩, List.mem_of_getElem? (i := 481) (by decide +kernel), List.mem_of_getElem? (i := 556) (by decide +kernel), List.mem_of_getElem? (i := 557) (by decide +kernel)⟩
theorem lw_p18 : lw_okq (⟨"SleepKeeperModel", "wakes", "()V"⟩, 16) := ⟨⟨by decide +kernel, by decide +kernel⟩, List.mem_of_getElem? (i := 481) (by decide +kernel), List.mem_of_getElem? (i := 586) (by decide +kernel), List.mem_of_getElem? (i := 587) (by decide +kernel)⟩
theorem lw_p19 : lw_okq (⟨"SleepKeeperModel", "firesAt", "(I)I"⟩, 16) := ⟨⟨by decide +kernel, by decide +kernel⟩, List.mem_of_getElem? (i := 481) (by decide +kernel), List.mem_of_getElem? (i := 594) (by decide +kernel), List.mem_of_getElem? (i := 595) (by decide +kernel)⟩
theorem lw_p20 : lw_okq (⟨"SleepKeeperModel", "wants", "()V"⟩, 16) := ⟨⟨by decide +kernel, by decide +kernel⟩, List.mem_of_getElem? (i := 481) (by decide +kernel), List.mem_of_getElem? (i := 610) (by decide +kernel), List.mem_of_getElem? (i := 611) (by decide +kernel)⟩
theorem lw_p21 : lw_okq (⟨"SleepKeeperModel", "isWanted", "(II)Z"⟩, 16) := ⟨⟨by decide +kernel, by decide +kernel⟩, List.mem_of_getElem? (i := 481) (by decide +kernel), List.mem_of_getElem? (i := 614) (by decide +kernel), List.mem_of_getElem? (i := 615) (by decide +kernel)⟩
theorem lw_p22 : lw_okq (⟨"SleepKeeperModel", "begins", "(II)Z"⟩, 16) := ⟨⟨by decide +kernel, by decide +kernel⟩, List.mem_of_getElem? (i := 481) (by decide +kernel), List.mem_of_getElem? (i := 626) (by decide +kernel), List.mem_of_getElem? (i := 627) (by decide +kernel)⟩
theorem lw_p23 : lw_okq (⟨"SleepKeeperModel", "ofSpan", "(II)I"⟩, 16) := ⟨⟨by decide +kernel, by decide +kernel⟩, List.mem_of_getElem? (i := 481) (by decide +kernel), List.mem_of_getElem? (i := 634) (by decide +kernel), List.mem_of_getElem? (i := 635) (by decide +kernel)⟩
theorem lw_p24 : lw_okq (⟨"SleepKeeperModel", "choice", "(I)I"⟩, 16) := ⟨⟨by decide +kernel, by decide +kernel⟩, List.mem_of_getElem? (i := 481) (by decide +kernel), List.mem_of_getElem? (i := 638) (by decide +kernel), List.mem_of_getElem? (i := 639) (by decide +kernel)⟩
theorem lw_p25 : lw_okq (⟨"SleepKeeperModel", "costs", "(II)I"⟩, 16) := ⟨⟨by decide +kernel, by decide +kernel⟩, List.mem_of_getElem? (i := 481) (by decide +kernel), List.mem_of_getElem? (i := 642) (by decide +kernel), List.mem_of_getElem? (i := 643) (by decide +kernel)⟩
theorem lw_p26 : lw_okq (⟨"SleepKeeperModel", "isLast", "()Z"⟩, 16) := ⟨⟨by decide +kernel, by decide +kernel⟩, List.mem_of_getElem? (i := 481) (by decide +kernel), List.mem_of_getElem? (i := 646) (by decide +kernel), List.mem_of_getElem? (i := 647) (by decide +kernel)⟩
theorem lw_p27 : lw_okq (⟨"SleepKeeperModel", "drained", "(I)I"⟩, 16) := ⟨⟨by decide +kernel, by decide +kernel⟩, List.mem_of_getElem? (i := 481) (by decide +kernel), List.mem_of_getElem? (i := 654) (by decide +kernel), List.mem_of_getElem? (i := 655) (by decide +kernel)⟩
theorem lw_p28 : lw_okq (⟨"SleepKeeperModel", "ruledSum", "(I)I"⟩, 16) := ⟨⟨by decide +kernel, by decide +kernel⟩, List.mem_of_getElem? (i := 481) (by decide +kernel), List.mem_of_getElem? (i := 666) (by decide +kernel), List.mem_of_getElem? (i := 667) (by decide +kernel)⟩
theorem lw_p29 : lw_okq (⟨"SleepKeeperModel", "ruledSpan", "(I)I"⟩, 16) := ⟨⟨by decide +kernel, by decide +kernel⟩, List.mem_of_getElem? (i := 481) (by decide +kernel), List.mem_of_getElem? (i := 670) (by decide +kernel), List.mem_of_getElem? (i := 671) (by decide +kernel)⟩
theorem lw_p30 : lw_okq (⟨"SleepKeeperModel", "rises", "(I)I"⟩, 16) := ⟨⟨by decide +kernel, by decide +kernel⟩, List.mem_of_getElem? (i := 481) (by decide +kernel), List.mem_of_getElem? (i := 674) (by decide +kernel), List.mem_of_getElem? (i := 675) (by decide +kernel)⟩
theorem lw_p31 : lw_okq (⟨"SleepKeeperModel", "ahead", "(II)I"⟩, 16) := ⟨⟨by decide +kernel, by decide +kernel⟩, List.mem_of_getElem? (i := 481) (by decide +kernel), List.mem_of_getElem? (i := 678) (by decide +kernel), List.mem_of_getElem? (i := 679) (by decide +kernel)⟩
def lw_privs_2 : List (MethodName × Nat) := [(⟨"SleepKeeperModel", "isPart", "(I)Z"⟩, 16), (⟨"SleepKeeperModel", "reaches", "(II)Z"⟩, 16), (⟨"SleepKeeperModel", "wakes", "()V"⟩, 16), (⟨"SleepKeeperModel", "firesAt", "(I)I"⟩, 16), (⟨"SleepKeeperModel", "wants", "()V"⟩, 16), (⟨"SleepKeeperModel", "isWanted", "(II)Z"⟩, 16), (⟨"SleepKeeperModel", "begins", "(II)Z"⟩, 16), (⟨"SleepKeeperModel", "ofSpan", "(II)I"⟩, 16), (⟨"SleepKeeperModel", "choice", "(I)I"⟩, 16), (⟨"SleepKeeperModel", "costs", "(II)I"⟩, 16), (⟨"SleepKeeperModel", "isLast", "()Z"⟩, 16), (⟨"SleepKeeperModel", "drained", "(I)I"⟩, 16), (⟨"SleepKeeperModel", "ruledSum", "(I)I"⟩, 16), (⟨"SleepKeeperModel", "ruledSpan", "(I)I"⟩, 16), (⟨"SleepKeeperModel", "rises", "(I)I"⟩, 16), (⟨"SleepKeeperModel", "ahead", "(II)I"⟩, 16)]
theorem lw_r2 : ∀ q ∈ lw_privs_2, lw_okq q := List.forall_mem_cons.mpr ⟨lw_p16, List.forall_mem_cons.mpr ⟨lw_p17, List.forall_mem_cons.mpr ⟨lw_p18, List.forall_mem_cons.mpr ⟨lw_p19, List.forall_mem_cons.mpr ⟨lw_p20, List.forall_mem_cons.mpr ⟨lw_p21, List.forall_mem_cons.mpr ⟨lw_p22, List.forall_mem_cons.mpr ⟨lw_p23, List.forall_mem_cons.mpr ⟨lw_p24, List.forall_mem_cons.mpr ⟨lw_p25, List.forall_mem_cons.mpr ⟨lw_p26, List.forall_mem_cons.mpr ⟨lw_p27, List.forall_mem_cons.mpr ⟨lw_p28, List.forall_mem_cons.mpr ⟨lw_p29, List.forall_mem_cons.mpr ⟨lw_p30, List.forall_mem_cons.mpr ⟨lw_p31, fun _ h => absurd h List.not_mem_nil⟩⟩⟩⟩⟩⟩⟩⟩⟩⟩⟩⟩⟩⟩⟩⟩
theorem lw_p32 : lw_okq (⟨"SleepKeeperModel", "ruleState", "(II)I"⟩, 16) := ⟨⟨by decide +kernel, by decide +kernel⟩, List.mem_of_getElem? (i := 481) (by decide +kernel), List.mem_of_getElem? (i := 682) (by decide +kernel), List.mem_of_getElem? (i := 683) (by decide +kernel)⟩
theorem lw_p33 : lw_okq (⟨"SleepKeeperModel", "isFirst", "(II)Z"⟩, 16) := ⟨⟨by decide +kernel, by decide +kernel⟩, List.mem_of_getElem? (i := 481) (by decide +kernel), List.mem_of_getElem? (i := 715) (by decide +kernel), List.mem_of_getElem? (i := 716) (by decide +kernel)⟩
def lw_privs_3 : List (MethodName × Nat) := [(⟨"SleepKeeperModel", "ruleState", "(II)I"⟩, 16), (⟨"SleepKeeperModel", "isFirst", "(II)Z"⟩, 16)]
theorem lw_r3 : ∀ q ∈ lw_privs_3, lw_okq q := List.forall_mem_cons.mpr ⟨lw_p32, List.forall_mem_cons.mpr ⟨lw_p33, fun _ h => absurd h List.not_mem_nil⟩⟩
def lw_privs : List (MethodName × Nat) := lw_privs_1 ++ (lw_privs_2 ++ (lw_privs_3))
def lw_tbl : List Cond := k2_sels lw_privs ++ tables_1
theorem lw_privs_ok : ∀ q ∈ lw_privs, lw_okq q := by
  show ∀ q ∈ lw_privs_1 ++ (lw_privs_2 ++ (lw_privs_3)), lw_okq q
  exact List.forall_mem_append.mpr ⟨lw_r1, List.forall_mem_append.mpr ⟨lw_r2, lw_r3⟩⟩
def RX0 : String := "SleepKeeper$Claims"
def TX0 : u_T := fun k => match k with
  | 0 => ("SleepKeeper$Claims", "programs", "[I", true)
  | 1 => ("SleepKeeper$Claims", "wantedParts", "[I", true)
  | 2 => ("SleepKeeper$Claims", "froms", "[I", true)
  | 3 => ("SleepKeeper$Claims", "tos", "[I", true)
  | _ => ("SleepKeeper$Claims", "count", "I", false)
def tyX0 : Nat → FieldType := fun k => match k with
  | 0 => .array .int
  | 1 => .array .int
  | 2 => .array .int
  | 3 => .array .int
  | _ => .int
abbrev wsX00 : List Cond := u_ws RX0 TX0 5
theorem nmX0 : ∀ a, a < 5 → ∀ b, b < 5 → a ≠ b → (TX0 a).2.1 ≠ (TX0 b).2.1 := by decide +kernel
theorem tyX0_ok : ∀ k, k < 5 → parseFieldDescriptor (TX0 k).2.2.1 = some (tyX0 k) := by decide +kernel
abbrev cX0_init : ByteArray := prog_2_method_1_code
def yX0_init : MethodName := ⟨RX0, "<init>", "(I)V"⟩
abbrev cX0_add : ByteArray := prog_2_method_2_code
def yX0_add : MethodName := ⟨RX0, "add", "(IIII)I"⟩
abbrev cX0_size : ByteArray := prog_2_method_3_code
def yX0_size : MethodName := ⟨RX0, "size", "()I"⟩
abbrev cX0_has : ByteArray := prog_2_method_4_code
def yX0_has : MethodName := ⟨RX0, "has", "(I)Z"⟩
abbrev cX0_programOf : ByteArray := prog_2_method_5_code
def yX0_programOf : MethodName := ⟨RX0, "programOf", "(I)I"⟩
abbrev cX0_partOf : ByteArray := prog_2_method_6_code
def yX0_partOf : MethodName := ⟨RX0, "partOf", "(I)I"⟩
abbrev cX0_fromOf : ByteArray := prog_2_method_7_code
def yX0_fromOf : MethodName := ⟨RX0, "fromOf", "(I)I"⟩
abbrev cX0_toOf : ByteArray := prog_2_method_8_code
def yX0_toOf : MethodName := ⟨RX0, "toOf", "(I)I"⟩
abbrev cX0_ticksOf : ByteArray := prog_2_method_9_code
def yX0_ticksOf : MethodName := ⟨RX0, "ticksOf", "(I)J"⟩
abbrev cX0_endAhead : ByteArray := prog_2_method_10_code
def yX0_endAhead : MethodName := ⟨RX0, "endAhead", "(II)V"⟩
abbrev cX0_firstEndWithNone : ByteArray := prog_2_method_11_code
def yX0_firstEndWithNone : MethodName := ⟨RX0, "firstEndWithNone", "(J)I"⟩
def RX1 : String := "SleepKeeper$Part"
def TX1 : u_T := fun k => match k with
  | 0 => ("SleepKeeper$Part", "drains", "[I", true)
  | 1 => ("SleepKeeper$Part", "costs", "[I", true)
  | 2 => ("SleepKeeper$Part", "rising", "[I", true)
  | _ => ("SleepKeeper$Part", "begins", "[I", true)
def tyX1 : Nat → FieldType := fun k => match k with
  | 0 => .array .int
  | 1 => .array .int
  | 2 => .array .int
  | _ => .array .int
abbrev wsX10 : List Cond := u_ws RX1 TX1 4
theorem nmX1 : ∀ a, a < 4 → ∀ b, b < 4 → a ≠ b → (TX1 a).2.1 ≠ (TX1 b).2.1 := by decide +kernel
theorem tyX1_ok : ∀ k, k < 4 → parseFieldDescriptor (TX1 k).2.2.1 = some (tyX1 k) := by decide +kernel
abbrev cX1_init : ByteArray := prog_3_method_1_code
def yX1_init : MethodName := ⟨RX1, "<init>", "()V"⟩
abbrev cX1_setDrains : ByteArray := prog_3_method_2_code
def yX1_setDrains : MethodName := ⟨RX1, "setDrains", "(IIII)V"⟩
abbrev cX1_setCosts : ByteArray := prog_3_method_3_code
def yX1_setCosts : MethodName := ⟨RX1, "setCosts", "(III)V"⟩
abbrev cX1_setRising : ByteArray := prog_3_method_4_code
def yX1_setRising : MethodName := ⟨RX1, "setRising", "(III)V"⟩
abbrev cX1_setThresholds : ByteArray := prog_3_method_5_code
def yX1_setThresholds : MethodName := ⟨RX1, "setThresholds", "(III)V"⟩
abbrev cX1_drainIn : ByteArray := prog_3_method_6_code
def yX1_drainIn : MethodName := ⟨RX1, "drainIn", "(I)I"⟩
abbrev cX1_drainAwake : ByteArray := prog_3_method_7_code
def yX1_drainAwake : MethodName := ⟨RX1, "drainAwake", "(J)I"⟩
abbrev cX1_restIn : ByteArray := prog_3_method_8_code
def yX1_restIn : MethodName := ⟨RX1, "restIn", "(IIZ)I"⟩
abbrev cX1_sumIn : ByteArray := prog_3_method_9_code
def yX1_sumIn : MethodName := ⟨RX1, "sumIn", "(IIZ)I"⟩
abbrev cX1_bestState : ByteArray := prog_3_method_10_code
def yX1_bestState : MethodName := ⟨RX1, "bestState", "(IZ)I"⟩
abbrev cX1_planned : ByteArray := prog_3_method_11_code
def yX1_planned : MethodName := ⟨RX1, "planned", "(LSleepKeeper$Spans;)I"⟩
abbrev cX1_stateByRule : ByteArray := prog_3_method_12_code
def yX1_stateByRule : MethodName := ⟨RX1, "stateByRule", "(I)I"⟩
abbrev cX1_restByRule : ByteArray := prog_3_method_13_code
def yX1_restByRule : MethodName := ⟨RX1, "restByRule", "(IZ)I"⟩
abbrev cX1_sumByRule : ByteArray := prog_3_method_14_code
def yX1_sumByRule : MethodName := ⟨RX1, "sumByRule", "(LSleepKeeper$Spans;)I"⟩
abbrev cX1_spanByRule : ByteArray := prog_3_method_15_code
def yX1_spanByRule : MethodName := ⟨RX1, "spanByRule", "(IZ)I"⟩
abbrev cX1_sumOfTry : ByteArray := prog_3_method_16_code
def yX1_sumOfTry : MethodName := ⟨RX1, "sumOfTry", "(LSleepKeeper$Spans;III)I"⟩
abbrev cX1_takeBestThresholds : ByteArray := prog_3_method_17_code
def yX1_takeBestThresholds : MethodName := ⟨RX1, "takeBestThresholds", "(LSleepKeeper$Spans;)V"⟩
abbrev cX1_bestLaterOff : ByteArray := prog_3_method_18_code
def yX1_bestLaterOff : MethodName := ⟨RX1, "bestLaterOff", "(LSleepKeeper$Spans;II)I"⟩
def RX2 : String := "SleepKeeper$Spans"
def TX2 : u_T := fun k => match k with
  | 0 => ("SleepKeeper$Spans", "firsts", "[I", true)
  | 1 => ("SleepKeeper$Spans", "lens", "[I", true)
  | _ => ("SleepKeeper$Spans", "count", "I", false)
def tyX2 : Nat → FieldType := fun k => match k with
  | 0 => .array .int
  | 1 => .array .int
  | _ => .int
abbrev wsX20 : List Cond := u_ws RX2 TX2 3
theorem nmX2 : ∀ a, a < 3 → ∀ b, b < 3 → a ≠ b → (TX2 a).2.1 ≠ (TX2 b).2.1 := by decide +kernel
theorem tyX2_ok : ∀ k, k < 3 → parseFieldDescriptor (TX2 k).2.2.1 = some (tyX2 k) := by decide +kernel
abbrev cX2_init : ByteArray := prog_4_method_1_code
def yX2_init : MethodName := ⟨RX2, "<init>", "()V"⟩
abbrev cX2_layOut : ByteArray := prog_4_method_2_code
def yX2_layOut : MethodName := ⟨RX2, "layOut", "(J)V"⟩
abbrev cX2_size : ByteArray := prog_4_method_3_code
def yX2_size : MethodName := ⟨RX2, "size", "()I"⟩
abbrev cX2_has : ByteArray := prog_4_method_4_code
def yX2_has : MethodName := ⟨RX2, "has", "(I)Z"⟩
abbrev cX2_firstOf : ByteArray := prog_4_method_5_code
def yX2_firstOf : MethodName := ⟨RX2, "firstOf", "(I)I"⟩
abbrev cX2_lenOf : ByteArray := prog_4_method_6_code
def yX2_lenOf : MethodName := ⟨RX2, "lenOf", "(I)I"⟩
abbrev cX2_endsAll : ByteArray := prog_4_method_7_code
def yX2_endsAll : MethodName := ⟨RX2, "endsAll", "(I)Z"⟩
abbrev cX2_find : ByteArray := prog_4_method_8_code
def yX2_find : MethodName := ⟨RX2, "find", "(I)I"⟩
abbrev cX2_longest : ByteArray := prog_4_method_9_code
def yX2_longest : MethodName := ⟨RX2, "longest", "()I"⟩
def RX3 : String := "SleepKeeper$Wants"
def TX3 : u_T := fun k => match k with
  | _ => ("SleepKeeper$Wants", "rows", "[J", true)
def tyX3 : Nat → FieldType := fun k => match k with
  | _ => .array .long
abbrev wsX30 : List Cond := u_ws RX3 TX3 1
theorem nmX3 : ∀ a, a < 1 → ∀ b, b < 1 → a ≠ b → (TX3 a).2.1 ≠ (TX3 b).2.1 := by decide +kernel
theorem tyX3_ok : ∀ k, k < 1 → parseFieldDescriptor (TX3 k).2.2.1 = some (tyX3 k) := by decide +kernel
abbrev cX3_init : ByteArray := prog_5_method_1_code
def yX3_init : MethodName := ⟨RX3, "<init>", "()V"⟩
abbrev cX3_clear : ByteArray := prog_5_method_2_code
def yX3_clear : MethodName := ⟨RX3, "clear", "()V"⟩
abbrev cX3_add : ByteArray := prog_5_method_3_code
def yX3_add : MethodName := ⟨RX3, "add", "(IIJ)V"⟩
abbrev cX3_spread : ByteArray := prog_5_method_4_code
def yX3_spread : MethodName := ⟨RX3, "spread", "([I)V"⟩
abbrev cX3_addAll : ByteArray := prog_5_method_5_code
def yX3_addAll : MethodName := ⟨RX3, "addAll", "(II)V"⟩
abbrev cX3_ticksBy : ByteArray := prog_5_method_6_code
def yX3_ticksBy : MethodName := ⟨RX3, "ticksBy", "(II)J"⟩
abbrev cX3_ticksOf : ByteArray := prog_5_method_7_code
def yX3_ticksOf : MethodName := ⟨RX3, "ticksOf", "(I)J"⟩
abbrev cX3_programsAt : ByteArray := prog_5_method_8_code
def yX3_programsAt : MethodName := ⟨RX3, "programsAt", "(II)I"⟩
def RX4 : String := "SleepKeeper"
def TX4 : u_T := fun k => match k with
  | 0 => ("SleepKeeper", "parts", "[LSleepKeeper$Part;", true)
  | 1 => ("SleepKeeper", "partCount", "I", false)
  | 2 => ("SleepKeeper", "needs", "[I", true)
  | 3 => ("SleepKeeper", "holds", "LSleepKeeper$Claims;", true)
  | 4 => ("SleepKeeper", "timers", "LSleepKeeper$Claims;", true)
  | 5 => ("SleepKeeper", "wakings", "J", false)
  | 6 => ("SleepKeeper", "wants", "LSleepKeeper$Wants;", true)
  | 7 => ("SleepKeeper", "supposed", "LSleepKeeper$Wants;", true)
  | _ => ("SleepKeeper", "idle", "LSleepKeeper$Spans;", true)
def tyX4 : Nat → FieldType := fun k => match k with
  | 0 => .array (.object "SleepKeeper$Part")
  | 1 => .int
  | 2 => .array .int
  | 3 => .object "SleepKeeper$Claims"
  | 4 => .object "SleepKeeper$Claims"
  | 5 => .long
  | 6 => .object "SleepKeeper$Wants"
  | 7 => .object "SleepKeeper$Wants"
  | _ => .object "SleepKeeper$Spans"
abbrev wsX40 : List Cond := u_ws RX4 TX4 9
theorem nmX4 : ∀ a, a < 9 → ∀ b, b < 9 → a ≠ b → (TX4 a).2.1 ≠ (TX4 b).2.1 := by decide +kernel
theorem tyX4_ok : ∀ k, k < 9 → parseFieldDescriptor (TX4 k).2.2.1 = some (tyX4 k) := by decide +kernel
abbrev cX4_init : ByteArray := prog_1_method_1_code
def yX4_init : MethodName := ⟨RX4, "<init>", "()V"⟩
abbrev cX4_part : ByteArray := prog_1_method_2_code
def yX4_part : MethodName := ⟨RX4, "part", "(IIII)I"⟩
abbrev cX4_rise : ByteArray := prog_1_method_3_code
def yX4_rise : MethodName := ⟨RX4, "rise", "(IIIIIII)Z"⟩
abbrev cX4_need : ByteArray := prog_1_method_4_code
def yX4_need : MethodName := ⟨RX4, "need", "(IIZ)Z"⟩
abbrev cX4_hold : ByteArray := prog_1_method_5_code
def yX4_hold : MethodName := ⟨RX4, "hold", "(IIII)I"⟩
abbrev cX4_back : ByteArray := prog_1_method_6_code
def yX4_back : MethodName := ⟨RX4, "back", "(II)Z"⟩
abbrev cX4_timer : ByteArray := prog_1_method_7_code
def yX4_timer : MethodName := ⟨RX4, "timer", "(IIII)I"⟩
abbrev cX4_rule : ByteArray := prog_1_method_8_code
def yX4_rule : MethodName := ⟨RX4, "rule", "(IIII)Z"⟩
abbrev cX4_learn : ByteArray := prog_1_method_9_code
def yX4_learn : MethodName := ⟨RX4, "learn", "(I)I"⟩
abbrev cX4_look : ByteArray := prog_1_method_10_code
def yX4_look : MethodName := ⟨RX4, "look", "(I)I"⟩
abbrev cX4_held : ByteArray := prog_1_method_11_code
def yX4_held : MethodName := ⟨RX4, "held", "(II)I"⟩
abbrev cX4_waking : ByteArray := prog_1_method_12_code
def yX4_waking : MethodName := ⟨RX4, "waking", "(I)I"⟩
abbrev cX4_fires : ByteArray := prog_1_method_13_code
def yX4_fires : MethodName := ⟨RX4, "fires", "(I)I"⟩
abbrev cX4_wanted : ByteArray := prog_1_method_14_code
def yX4_wanted : MethodName := ⟨RX4, "wanted", "(II)I"⟩
abbrev cX4_when : ByteArray := prog_1_method_15_code
def yX4_when : MethodName := ⟨RX4, "when", "(I)J"⟩
abbrev cX4_spans : ByteArray := prog_1_method_16_code
def yX4_spans : MethodName := ⟨RX4, "spans", "(I)I"⟩
abbrev cX4_span : ByteArray := prog_1_method_17_code
def yX4_span : MethodName := ⟨RX4, "span", "(III)I"⟩
abbrev cX4_drain : ByteArray := prog_1_method_18_code
def yX4_drain : MethodName := ⟨RX4, "drain", "(I)I"⟩
abbrev cX4_ruled : ByteArray := prog_1_method_19_code
def yX4_ruled : MethodName := ⟨RX4, "ruled", "(I)I"⟩
abbrev cX4_state : ByteArray := prog_1_method_20_code
def yX4_state : MethodName := ⟨RX4, "state", "(II)I"⟩
abbrev cX4_ruledState : ByteArray := prog_1_method_21_code
def yX4_ruledState : MethodName := ⟨RX4, "ruledState", "(II)I"⟩
abbrev cX4_all : ByteArray := prog_1_method_22_code
def yX4_all : MethodName := ⟨RX4, "all", "()I"⟩
abbrev cX4_without : ByteArray := prog_1_method_23_code
def yX4_without : MethodName := ⟨RX4, "without", "(I)I"⟩
abbrev cX4_blame : ByteArray := prog_1_method_24_code
def yX4_blame : MethodName := ⟨RX4, "blame", "(I)I"⟩
abbrev cX4_order : ByteArray := prog_1_method_25_code
def yX4_order : MethodName := ⟨RX4, "order", "(II)I"⟩
abbrev cX4_isPart : ByteArray := prog_1_method_26_code
def yX4_isPart : MethodName := ⟨RX4, "isPart", "(I)Z"⟩
abbrev cX4_isProgram : ByteArray := prog_1_method_27_code
def yX4_isProgram : MethodName := ⟨RX4, "isProgram", "(I)Z"⟩
abbrev cX4_isTick : ByteArray := prog_1_method_28_code
def yX4_isTick : MethodName := ⟨RX4, "isTick", "(I)Z"⟩
abbrev cX4_rises : ByteArray := prog_1_method_29_code
def yX4_rises : MethodName := ⟨RX4, "rises", "(IIII)Z"⟩
abbrev cX4_hasPart : ByteArray := prog_1_method_30_code
def yX4_hasPart : MethodName := ⟨RX4, "hasPart", "(II)Z"⟩
abbrev cX4_hasTick : ByteArray := prog_1_method_31_code
def yX4_hasTick : MethodName := ⟨RX4, "hasTick", "(JI)Z"⟩
abbrev cX4_leastTick : ByteArray := prog_1_method_32_code
def yX4_leastTick : MethodName := ⟨RX4, "leastTick", "(J)I"⟩
abbrev cX4_ticksAhead : ByteArray := prog_1_method_33_code
def yX4_ticksAhead : MethodName := ⟨RX4, "ticksAhead", "(I)J"⟩
abbrev cX4_leadsTo : ByteArray := prog_1_method_34_code
def yX4_leadsTo : MethodName := ⟨RX4, "leadsTo", "(II)Z"⟩
abbrev cX4_fewestWakings : ByteArray := prog_1_method_35_code
def yX4_fewestWakings : MethodName := ⟨RX4, "fewestWakings", "()J"⟩
abbrev cX4_gatherWants : ByteArray := prog_1_method_36_code
def yX4_gatherWants : MethodName := ⟨RX4, "gatherWants", "(LSleepKeeper$Wants;I)V"⟩
abbrev cX4_layOutIdle : ByteArray := prog_1_method_37_code
def yX4_layOutIdle : MethodName := ⟨RX4, "layOutIdle", "(I)V"⟩
abbrev cX4_drainInPlan : ByteArray := prog_1_method_38_code
def yX4_drainInPlan : MethodName := ⟨RX4, "drainInPlan", "(IJ)I"⟩
abbrev cX4_drainByRule : ByteArray := prog_1_method_39_code
def yX4_drainByRule : MethodName := ⟨RX4, "drainByRule", "(I)I"⟩
abbrev cX4_drainInSpans : ByteArray := prog_1_method_40_code
def yX4_drainInSpans : MethodName := ⟨RX4, "drainInSpans", "(I)I"⟩
abbrev cX4_drainOfAll : ByteArray := prog_1_method_41_code
def yX4_drainOfAll : MethodName := ⟨RX4, "drainOfAll", "(LSleepKeeper$Wants;)I"⟩
abbrev cX4_blameIn : ByteArray := prog_1_method_42_code
def yX4_blameIn : MethodName := ⟨RX4, "blameIn", "(II)I"⟩
abbrev cX4_gettingUp : ByteArray := prog_1_method_43_code
def yX4_gettingUp : MethodName := ⟨RX4, "gettingUp", "(I)I"⟩
abbrev cX4_leastReady : ByteArray := prog_1_method_44_code
def yX4_leastReady : MethodName := ⟨RX4, "leastReady", "(I)I"⟩
def RX5 : String := "SleepKeeperModel"
def TX5 : u_T := fun k => match k with
  | 0 => ("SleepKeeperModel", "parts", "I", false)
  | 1 => ("SleepKeeperModel", "holds", "I", false)
  | 2 => ("SleepKeeperModel", "timers", "I", false)
  | 3 => ("SleepKeeperModel", "drain", "[I", true)
  | 4 => ("SleepKeeperModel", "cost", "[I", true)
  | 5 => ("SleepKeeperModel", "rising", "[I", true)
  | 6 => ("SleepKeeperModel", "rule", "[I", true)
  | 7 => ("SleepKeeperModel", "needs", "[Z", true)
  | 8 => ("SleepKeeperModel", "hold", "[I", true)
  | 9 => ("SleepKeeperModel", "timer", "[I", true)
  | 10 => ("SleepKeeperModel", "wakings", "[I", true)
  | 11 => ("SleepKeeperModel", "wakingMany", "I", false)
  | 12 => ("SleepKeeperModel", "by", "[I", true)
  | 13 => ("SleepKeeperModel", "leftOut", "I", false)
  | 14 => ("SleepKeeperModel", "first", "I", false)
  | _ => ("SleepKeeperModel", "len", "I", false)
def tyX5 : Nat → FieldType := fun k => match k with
  | 0 => .int
  | 1 => .int
  | 2 => .int
  | 3 => .array .int
  | 4 => .array .int
  | 5 => .array .int
  | 6 => .array .int
  | 7 => .array .boolean
  | 8 => .array .int
  | 9 => .array .int
  | 10 => .array .int
  | 11 => .int
  | 12 => .array .int
  | 13 => .int
  | 14 => .int
  | _ => .int
abbrev wsX50 : List Cond := u_ws RX5 TX5 16
theorem nmX5 : ∀ a, a < 16 → ∀ b, b < 16 → a ≠ b → (TX5 a).2.1 ≠ (TX5 b).2.1 := by decide +kernel
theorem tyX5_ok : ∀ k, k < 16 → parseFieldDescriptor (TX5 k).2.2.1 = some (tyX5 k) := by decide +kernel
abbrev cX5_init : ByteArray := prog_7_method_1_code
def yX5_init : MethodName := ⟨RX5, "<init>", "()V"⟩
abbrev cX5_isIn : ByteArray := prog_7_method_2_code
def yX5_isIn : MethodName := ⟨RX5, "isIn", "(III)Z"⟩
abbrev cX5_isPart : ByteArray := prog_7_method_3_code
def yX5_isPart : MethodName := ⟨RX5, "isPart", "(I)Z"⟩
abbrev cX5_isTick : ByteArray := prog_7_method_4_code
def yX5_isTick : MethodName := ⟨RX5, "isTick", "(I)Z"⟩
abbrev cX5_part : ByteArray := prog_7_method_5_code
def yX5_part : MethodName := ⟨RX5, "part", "(IIII)I"⟩
abbrev cX5_rise : ByteArray := prog_7_method_6_code
def yX5_rise : MethodName := ⟨RX5, "rise", "(IIIIIII)Z"⟩
abbrev cX5_reaches : ByteArray := prog_7_method_7_code
def yX5_reaches : MethodName := ⟨RX5, "reaches", "(II)Z"⟩
abbrev cX5_need : ByteArray := prog_7_method_8_code
def yX5_need : MethodName := ⟨RX5, "need", "(IIZ)Z"⟩
abbrev cX5_isProgram : ByteArray := prog_7_method_9_code
def yX5_isProgram : MethodName := ⟨RX5, "isProgram", "(I)Z"⟩
abbrev cX5_hold : ByteArray := prog_7_method_10_code
def yX5_hold : MethodName := ⟨RX5, "hold", "(IIII)I"⟩
abbrev cX5_back : ByteArray := prog_7_method_11_code
def yX5_back : MethodName := ⟨RX5, "back", "(II)Z"⟩
abbrev cX5_timer : ByteArray := prog_7_method_12_code
def yX5_timer : MethodName := ⟨RX5, "timer", "(IIII)I"⟩
abbrev cX5_rule : ByteArray := prog_7_method_13_code
def yX5_rule : MethodName := ⟨RX5, "rule", "(IIII)Z"⟩
abbrev cX5_wakes : ByteArray := prog_7_method_14_code
def yX5_wakes : MethodName := ⟨RX5, "wakes", "()V"⟩
abbrev cX5_firesAt : ByteArray := prog_7_method_15_code
def yX5_firesAt : MethodName := ⟨RX5, "firesAt", "(I)I"⟩
abbrev cX5_waking : ByteArray := prog_7_method_16_code
def yX5_waking : MethodName := ⟨RX5, "waking", "(I)I"⟩
abbrev cX5_fires : ByteArray := prog_7_method_17_code
def yX5_fires : MethodName := ⟨RX5, "fires", "(I)I"⟩
abbrev cX5_look : ByteArray := prog_7_method_18_code
def yX5_look : MethodName := ⟨RX5, "look", "(I)I"⟩
abbrev cX5_held : ByteArray := prog_7_method_19_code
def yX5_held : MethodName := ⟨RX5, "held", "(II)I"⟩
abbrev cX5_wants : ByteArray := prog_7_method_20_code
def yX5_wants : MethodName := ⟨RX5, "wants", "()V"⟩
abbrev cX5_isWanted : ByteArray := prog_7_method_21_code
def yX5_isWanted : MethodName := ⟨RX5, "isWanted", "(II)Z"⟩
abbrev cX5_wanted : ByteArray := prog_7_method_22_code
def yX5_wanted : MethodName := ⟨RX5, "wanted", "(II)I"⟩
abbrev cX5_when : ByteArray := prog_7_method_23_code
def yX5_when : MethodName := ⟨RX5, "when", "(I)J"⟩
abbrev cX5_begins : ByteArray := prog_7_method_24_code
def yX5_begins : MethodName := ⟨RX5, "begins", "(II)Z"⟩
abbrev cX5_isLast : ByteArray := prog_7_method_25_code
def yX5_isLast : MethodName := ⟨RX5, "isLast", "()Z"⟩
abbrev cX5_costs : ByteArray := prog_7_method_26_code
def yX5_costs : MethodName := ⟨RX5, "costs", "(II)I"⟩
abbrev cX5_choice : ByteArray := prog_7_method_27_code
def yX5_choice : MethodName := ⟨RX5, "choice", "(I)I"⟩
abbrev cX5_spans : ByteArray := prog_7_method_28_code
def yX5_spans : MethodName := ⟨RX5, "spans", "(I)I"⟩
abbrev cX5_span : ByteArray := prog_7_method_29_code
def yX5_span : MethodName := ⟨RX5, "span", "(III)I"⟩
abbrev cX5_ofSpan : ByteArray := prog_7_method_30_code
def yX5_ofSpan : MethodName := ⟨RX5, "ofSpan", "(II)I"⟩
abbrev cX5_drained : ByteArray := prog_7_method_31_code
def yX5_drained : MethodName := ⟨RX5, "drained", "(I)I"⟩
abbrev cX5_drain : ByteArray := prog_7_method_32_code
def yX5_drain : MethodName := ⟨RX5, "drain", "(I)I"⟩
abbrev cX5_state : ByteArray := prog_7_method_33_code
def yX5_state : MethodName := ⟨RX5, "state", "(II)I"⟩
abbrev cX5_ruleState : ByteArray := prog_7_method_34_code
def yX5_ruleState : MethodName := ⟨RX5, "ruleState", "(II)I"⟩
abbrev cX5_ahead : ByteArray := prog_7_method_35_code
def yX5_ahead : MethodName := ⟨RX5, "ahead", "(II)I"⟩
abbrev cX5_rises : ByteArray := prog_7_method_36_code
def yX5_rises : MethodName := ⟨RX5, "rises", "(I)I"⟩
abbrev cX5_ruledSpan : ByteArray := prog_7_method_37_code
def yX5_ruledSpan : MethodName := ⟨RX5, "ruledSpan", "(I)I"⟩
abbrev cX5_ruledSum : ByteArray := prog_7_method_38_code
def yX5_ruledSum : MethodName := ⟨RX5, "ruledSum", "(I)I"⟩
abbrev cX5_ruled : ByteArray := prog_7_method_39_code
def yX5_ruled : MethodName := ⟨RX5, "ruled", "(I)I"⟩
abbrev cX5_ruledState : ByteArray := prog_7_method_40_code
def yX5_ruledState : MethodName := ⟨RX5, "ruledState", "(II)I"⟩
abbrev cX5_learn : ByteArray := prog_7_method_41_code
def yX5_learn : MethodName := ⟨RX5, "learn", "(I)I"⟩
abbrev cX5_all : ByteArray := prog_7_method_42_code
def yX5_all : MethodName := ⟨RX5, "all", "()I"⟩
abbrev cX5_without : ByteArray := prog_7_method_43_code
def yX5_without : MethodName := ⟨RX5, "without", "(I)I"⟩
abbrev cX5_bits : ByteArray := prog_7_method_44_code
def yX5_bits : MethodName := ⟨RX5, "bits", "(I)I"⟩
abbrev cX5_blame : ByteArray := prog_7_method_45_code
def yX5_blame : MethodName := ⟨RX5, "blame", "(I)I"⟩
abbrev cX5_order : ByteArray := prog_7_method_46_code
def yX5_order : MethodName := ⟨RX5, "order", "(II)I"⟩
abbrev cX5_isFirst : ByteArray := prog_7_method_47_code
def yX5_isFirst : MethodName := ⟨RX5, "isFirst", "(II)Z"⟩
def RJ13 : String := "java/lang/Long"
def TJ13 : u_T := fun k => match k with
  | _ => ("", "", "", false)
def tyJ13 : Nat → FieldType := fun k => match k with
  | _ => .int
abbrev wsJ130 : List Cond := u_ws RJ13 TJ13 0
theorem nmJ13 : ∀ a, a < 0 → ∀ b, b < 0 → a ≠ b → (TJ13 a).2.1 ≠ (TJ13 b).2.1 := by decide +kernel
theorem tyJ13_ok : ∀ k, k < 0 → parseFieldDescriptor (TJ13 k).2.2.1 = some (tyJ13 k) := by decide +kernel
abbrev cJ13_bitCount_95d88 : ByteArray := prog_8_method_50_code
def yJ13_bitCount_95d88 : MethodName := ⟨RJ13, "bitCount", "(J)I"⟩
def RJ9 : String := "java/lang/Math"
def TJ9 : u_T := fun k => match k with
  | _ => ("", "", "", false)
def tyJ9 : Nat → FieldType := fun k => match k with
  | _ => .int
abbrev wsJ90 : List Cond := u_ws RJ9 TJ9 0
theorem nmJ9 : ∀ a, a < 0 → ∀ b, b < 0 → a ≠ b → (TJ9 a).2.1 ≠ (TJ9 b).2.1 := by decide +kernel
theorem tyJ9_ok : ∀ k, k < 0 → parseFieldDescriptor (TJ9 k).2.2.1 = some (tyJ9 k) := by decide +kernel
abbrev cJ9_max_7cf53 : ByteArray := prog_9_method_65_code
def yJ9_max_7cf53 : MethodName := ⟨RJ9, "max", "(II)I"⟩
abbrev cJ9_min_7cf53 : ByteArray := prog_9_method_69_code
def yJ9_min_7cf53 : MethodName := ⟨RJ9, "min", "(II)I"⟩
def RL : String := "SleepKeeperLaw"
abbrev cL_law : ByteArray := code
def yL_law : MethodName := ⟨RL, "law", "([I)Z"⟩
