section
-- ===== PART A: goes FIRST, ahead of the names: the tables' words, and 'selects' of the private methods out of them =====
/-- a private method of a class that the tables say can be made, by its rows of tables_1 -/
def lw_okq (q : MethodName × Nat) : Prop := (q.1.cls ≠ "java/lang/invoke/MethodHandle" ∧ q.1.cls ≠ "java/lang/invoke/VarHandle") ∧ Cond.instantiable q.1.cls q.2 ∈ tables_1 ∧ Cond.privateMethod q.1 ∈ tables_1 ∧ Cond.instanceMethod q.1 ∈ tables_1
theorem lw_p0 : lw_okq (⟨"SleepKeeper", "isPart", "(I)Z"⟩, 9) := ⟨⟨by decide +kernel, by decide +kernel⟩, List.mem_of_getElem? (i := 10) (by decide +kernel), List.mem_of_getElem? (i := 131) (by decide +kernel), List.mem_of_getElem? (i := 132) (by decide +kernel)⟩
theorem lw_p1 : lw_okq (⟨"SleepKeeper", "leadsTo", "(II)Z"⟩, 9) := ⟨⟨by decide +kernel, by decide +kernel⟩, List.mem_of_getElem? (i := 10) (by decide +kernel), List.mem_of_getElem? (i := 150) (by decide +kernel), List.mem_of_getElem? (i := 151) (by decide +kernel)⟩
theorem lw_p2 : lw_okq (⟨"SleepKeeper", "gatherWants", "(LSleepKeeper$Wants;I)V"⟩, 9) := ⟨⟨by decide +kernel, by decide +kernel⟩, List.mem_of_getElem? (i := 10) (by decide +kernel), List.mem_of_getElem? (i := 154) (by decide +kernel), List.mem_of_getElem? (i := 155) (by decide +kernel)⟩
theorem lw_p3 : lw_okq (⟨"SleepKeeper$Wants", "addAll", "(II)V"⟩, 1) := ⟨⟨by decide +kernel, by decide +kernel⟩, List.mem_of_getElem? (i := 43) (by decide +kernel), List.mem_of_getElem? (i := 198) (by decide +kernel), List.mem_of_getElem? (i := 199) (by decide +kernel)⟩
theorem lw_p4 : lw_okq (⟨"SleepKeeper", "fewestWakings", "()J"⟩, 9) := ⟨⟨by decide +kernel, by decide +kernel⟩, List.mem_of_getElem? (i := 10) (by decide +kernel), List.mem_of_getElem? (i := 242) (by decide +kernel), List.mem_of_getElem? (i := 243) (by decide +kernel)⟩
theorem lw_p5 : lw_okq (⟨"SleepKeeper", "layOutIdle", "(I)V"⟩, 9) := ⟨⟨by decide +kernel, by decide +kernel⟩, List.mem_of_getElem? (i := 10) (by decide +kernel), List.mem_of_getElem? (i := 263) (by decide +kernel), List.mem_of_getElem? (i := 264) (by decide +kernel)⟩
theorem lw_p6 : lw_okq (⟨"SleepKeeper$Part", "sumOfTry", "(LSleepKeeper$Spans;III)I"⟩, 4) := ⟨⟨by decide +kernel, by decide +kernel⟩, List.mem_of_getElem? (i := 69) (by decide +kernel), List.mem_of_getElem? (i := 287) (by decide +kernel), List.mem_of_getElem? (i := 288) (by decide +kernel)⟩
theorem lw_p7 : lw_okq (⟨"SleepKeeper$Part", "spanByRule", "(IZ)I"⟩, 4) := ⟨⟨by decide +kernel, by decide +kernel⟩, List.mem_of_getElem? (i := 69) (by decide +kernel), List.mem_of_getElem? (i := 308) (by decide +kernel), List.mem_of_getElem? (i := 309) (by decide +kernel)⟩
theorem lw_p8 : lw_okq (⟨"SleepKeeper$Part", "bestLaterOff", "(LSleepKeeper$Spans;II)I"⟩, 4) := ⟨⟨by decide +kernel, by decide +kernel⟩, List.mem_of_getElem? (i := 69) (by decide +kernel), List.mem_of_getElem? (i := 323) (by decide +kernel), List.mem_of_getElem? (i := 324) (by decide +kernel)⟩
theorem lw_p9 : lw_okq (⟨"SleepKeeper", "drainByRule", "(I)I"⟩, 9) := ⟨⟨by decide +kernel, by decide +kernel⟩, List.mem_of_getElem? (i := 10) (by decide +kernel), List.mem_of_getElem? (i := 327) (by decide +kernel), List.mem_of_getElem? (i := 328) (by decide +kernel)⟩
theorem lw_p10 : lw_okq (⟨"SleepKeeper", "drainInPlan", "(IJ)I"⟩, 9) := ⟨⟨by decide +kernel, by decide +kernel⟩, List.mem_of_getElem? (i := 10) (by decide +kernel), List.mem_of_getElem? (i := 407) (by decide +kernel), List.mem_of_getElem? (i := 408) (by decide +kernel)⟩
theorem lw_p11 : lw_okq (⟨"SleepKeeper", "drainOfAll", "(LSleepKeeper$Wants;)I"⟩, 9) := ⟨⟨by decide +kernel, by decide +kernel⟩, List.mem_of_getElem? (i := 10) (by decide +kernel), List.mem_of_getElem? (i := 438) (by decide +kernel), List.mem_of_getElem? (i := 439) (by decide +kernel)⟩
theorem lw_p12 : lw_okq (⟨"SleepKeeper", "drainInSpans", "(I)I"⟩, 9) := ⟨⟨by decide +kernel, by decide +kernel⟩, List.mem_of_getElem? (i := 10) (by decide +kernel), List.mem_of_getElem? (i := 451) (by decide +kernel), List.mem_of_getElem? (i := 452) (by decide +kernel)⟩
theorem lw_p13 : lw_okq (⟨"SleepKeeper", "blameIn", "(II)I"⟩, 9) := ⟨⟨by decide +kernel, by decide +kernel⟩, List.mem_of_getElem? (i := 10) (by decide +kernel), List.mem_of_getElem? (i := 455) (by decide +kernel), List.mem_of_getElem? (i := 456) (by decide +kernel)⟩
theorem lw_p14 : lw_okq (⟨"SleepKeeper", "gettingUp", "(I)I"⟩, 9) := ⟨⟨by decide +kernel, by decide +kernel⟩, List.mem_of_getElem? (i := 10) (by decide +kernel), List.mem_of_getElem? (i := 473) (by decide +kernel), List.mem_of_getElem? (i := 474) (by decide +kernel)⟩
theorem lw_p15 : lw_okq (⟨"SleepKeeper", "leastReady", "(I)I"⟩, 9) := ⟨⟨by decide +kernel, by decide +kernel⟩, List.mem_of_getElem? (i := 10) (by decide +kernel), List.mem_of_getElem? (i := 477) (by decide +kernel), List.mem_of_getElem? (i := 478) (by decide +kernel)⟩
def lw_privs_1 : List (MethodName × Nat) := [(⟨"SleepKeeper", "isPart", "(I)Z"⟩, 9), (⟨"SleepKeeper", "leadsTo", "(II)Z"⟩, 9), (⟨"SleepKeeper", "gatherWants", "(LSleepKeeper$Wants;I)V"⟩, 9), (⟨"SleepKeeper$Wants", "addAll", "(II)V"⟩, 1), (⟨"SleepKeeper", "fewestWakings", "()J"⟩, 9), (⟨"SleepKeeper", "layOutIdle", "(I)V"⟩, 9), (⟨"SleepKeeper$Part", "sumOfTry", "(LSleepKeeper$Spans;III)I"⟩, 4), (⟨"SleepKeeper$Part", "spanByRule", "(IZ)I"⟩, 4), (⟨"SleepKeeper$Part", "bestLaterOff", "(LSleepKeeper$Spans;II)I"⟩, 4), (⟨"SleepKeeper", "drainByRule", "(I)I"⟩, 9), (⟨"SleepKeeper", "drainInPlan", "(IJ)I"⟩, 9), (⟨"SleepKeeper", "drainOfAll", "(LSleepKeeper$Wants;)I"⟩, 9), (⟨"SleepKeeper", "drainInSpans", "(I)I"⟩, 9), (⟨"SleepKeeper", "blameIn", "(II)I"⟩, 9), (⟨"SleepKeeper", "gettingUp", "(I)I"⟩, 9), (⟨"SleepKeeper", "leastReady", "(I)I"⟩, 9)]
theorem lw_r1 : ∀ q ∈ lw_privs_1, lw_okq q := List.forall_mem_cons.mpr ⟨lw_p0, List.forall_mem_cons.mpr ⟨lw_p1, List.forall_mem_cons.mpr ⟨lw_p2, List.forall_mem_cons.mpr ⟨lw_p3, List.forall_mem_cons.mpr ⟨lw_p4, List.forall_mem_cons.mpr ⟨lw_p5, List.forall_mem_cons.mpr ⟨lw_p6, List.forall_mem_cons.mpr ⟨lw_p7, List.forall_mem_cons.mpr ⟨lw_p8, List.forall_mem_cons.mpr ⟨lw_p9, List.forall_mem_cons.mpr ⟨lw_p10, List.forall_mem_cons.mpr ⟨lw_p11, List.forall_mem_cons.mpr ⟨lw_p12, List.forall_mem_cons.mpr ⟨lw_p13, List.forall_mem_cons.mpr ⟨lw_p14, List.forall_mem_cons.mpr ⟨lw_p15, fun _ h => absurd h List.not_mem_nil⟩⟩⟩⟩⟩⟩⟩⟩⟩⟩⟩⟩⟩⟩⟩⟩
theorem lw_p16 : lw_okq (⟨"SleepKeeperModel", "isPart", "(I)Z"⟩, 16) := ⟨⟨by decide +kernel, by decide +kernel⟩, List.mem_of_getElem? (i := 481) (by decide +kernel), List.mem_of_getElem? (i := 548) (by decide +kernel), List.mem_of_getElem? (i := 549) (by decide +kernel)⟩
theorem lw_p17 : lw_okq (⟨"SleepKeeperModel", "reaches", "(II)Z"⟩, 16) := ⟨⟨by decide +kernel, by decide +kernel⟩, List.mem_of_getElem? (i := 481) (by decide +kernel), List.mem_of_getElem? (i := 556) (by decide +kernel), List.mem_of_getElem? (i := 557) (by decide +kernel)⟩
theorem lw_p18 : lw_okq (⟨"SleepKeeperModel", "wakes", "()V"⟩, 16) := ⟨⟨by decide +kernel, by decide +kernel⟩, List.mem_of_getElem? (i := 481) (by decide +kernel), List.mem_of_getElem? (i := 586) (by decide +kernel), List.mem_of_getElem? (i := 587) (by decide +kernel)⟩
theorem lw_p19 : lw_okq (⟨"SleepKeeperModel", "firesAt", "(I)I"⟩, 16) := ⟨⟨by decide +kernel, by decide +kernel⟩, List.mem_of_getElem? (i := 481) (by decide +kernel), List.mem_of_getElem? (i := 594) (by decide +kernel), List.mem_of_getElem? (i := 595) (by decide +kernel)⟩
theorem lw_p20 : lw_okq (⟨"SleepKeeperModel", "wants", "()V"⟩, 16) := ⟨⟨by decide +kernel, by decide +kernel⟩, List.mem_of_getElem? (i := 481) (by decide +kernel), List.mem_of_getElem? (i := 610) (by decide +kernel), List.mem_of_getElem? (i := 611) (by decide +kernel)⟩
theorem lw_p21 : lw_okq (⟨"SleepKeeperModel", "isWanted", "(II)Z"⟩, 16) := ⟨⟨by decide +kernel, by decide +kernel⟩, List.mem_of_getElem? (i := 481) (by decide +kernel), List.mem_of_getElem? (i := 614) (by decide +kernel), List.mem_of_getElem? (i := 615) (by decide +kernel)⟩
theorem lw_p22 : lw_okq (⟨"SleepKeeperModel", "begins", "(II)Z"⟩, 16) := ⟨⟨by decide +kernel, by decide +kernel⟩, List.mem_of_getElem? (i := 481) (by decide +kernel), List.mem_of_getElem? (i := 626) (by decide +kernel), List.mem_of_getElem? (i := 627) (by decide +kernel)⟩
theorem lw_p23 : lw_okq (⟨"SleepKeeperModel", "ofSpan", "(II)I"⟩, 16) := ⟨⟨by decide +kernel, by decide +kernel⟩, List.mem_of_getElem? (i := 481) (by decide +kernel), List.mem_of_getElem? (i := 634) (by decide +kernel), List.mem_of_getElem? (i := 635) (by decide +kernel)⟩
theorem lw_p24 : lw_okq (⟨"SleepKeeperModel", "choice", "(I)I"⟩, 16) := ⟨⟨by decide +kernel, by decide +kernel⟩, List.mem_of_getElem? (i := 481) (by decide +kernel), List.mem_of_getElem? (i := 638) (by decide +kernel), List.mem_of_getElem? (i := 639) (by decide +kernel)⟩
theorem lw_p25 : lw_okq (⟨"SleepKeeperModel", "costs", "(II)I"⟩, 16) := ⟨⟨by decide +kernel, by decide +kernel⟩, List.mem_of_getElem? (i := 481) (by decide +kernel), List.mem_of_getElem? (i := 642) (by decide +kernel), List.mem_of_getElem? (i := 643) (by decide +kernel)⟩
theorem lw_p26 : lw_okq (⟨"SleepKeeperModel", "isLast", "()Z"⟩, 16) := ⟨⟨by decide +kernel, by decide +kernel⟩, List.mem_of_getElem? (i := 481) (by decide +kernel), List.mem_of_getElem? (i := 646) (by decide +kernel), List.mem_of_getElem? (i := 647) (by decide +kernel)⟩
theorem lw_p27 : lw_okq (⟨"SleepKeeperModel", "drained", "(I)I"⟩, 16) := ⟨⟨by decide +kernel, by decide +kernel⟩, List.mem_of_getElem? (i := 481) (by decide +kernel), List.mem_of_getElem? (i := 654) (by decide +kernel), List.mem_of_getElem? (i := 655) (by decide +kernel)⟩
theorem lw_p28 : lw_okq (⟨"SleepKeeperModel", "ruledSum", "(I)I"⟩, 16) := ⟨⟨by decide +kernel, by decide +kernel⟩, List.mem_of_getElem? (i := 481) (by decide +kernel), List.mem_of_getElem? (i := 666) (by decide +kernel), List.mem_of_getElem? (i := 667) (by decide +kernel)⟩
theorem lw_p29 : lw_okq (⟨"SleepKeeperModel", "ruledSpan", "(I)I"⟩, 16) := ⟨⟨by decide +kernel, by decide +kernel⟩, List.mem_of_getElem? (i := 481) (by decide +kernel), List.mem_of_getElem? (i := 670) (by decide +kernel), List.mem_of_getElem? (i := 671) (by decide +kernel)⟩
theorem lw_p30 : lw_okq (⟨"SleepKeeperModel", "rises", "(I)I"⟩, 16) := ⟨⟨by decide +kernel, by decide +kernel⟩, List.mem_of_getElem? (i := 481) (by decide +kernel), List.mem_of_getElem? (i := 674) (by decide +kernel), List.mem_of_getElem? (i := 675) (by decide +kernel)⟩
theorem lw_p31 : lw_okq (⟨"SleepKeeperModel", "ahead", "(II)I"⟩, 16) := ⟨⟨by decide +kernel, by decide +kernel⟩, List.mem_of_getElem? (i := 481) (by decide +kernel), List.mem_of_getElem? (i := 678) (by decide +kernel), List.mem_of_getElem? (i := 679) (by decide +kernel)⟩
def lw_privs_2 : List (MethodName × Nat) := [(⟨"SleepKeeperModel", "isPart", "(I)Z"⟩, 16), (⟨"SleepKeeperModel", "reaches", "(II)Z"⟩, 16), (⟨"SleepKeeperModel", "wakes", "()V"⟩, 16), (⟨"SleepKeeperModel", "firesAt", "(I)I"⟩, 16), (⟨"SleepKeeperModel", "wants", "()V"⟩, 16), (⟨"SleepKeeperModel", "isWanted", "(II)Z"⟩, 16), (⟨"SleepKeeperModel", "begins", "(II)Z"⟩, 16), (⟨"SleepKeeperModel", "ofSpan", "(II)I"⟩, 16), (⟨"SleepKeeperModel", "choice", "(I)I"⟩, 16), (⟨"SleepKeeperModel", "costs", "(II)I"⟩, 16), (⟨"SleepKeeperModel", "isLast", "()Z"⟩, 16), (⟨"SleepKeeperModel", "drained", "(I)I"⟩, 16), (⟨"SleepKeeperModel", "ruledSum", "(I)I"⟩, 16), (⟨"SleepKeeperModel", "ruledSpan", "(I)I"⟩, 16), (⟨"SleepKeeperModel", "rises", "(I)I"⟩, 16), (⟨"SleepKeeperModel", "ahead", "(II)I"⟩, 16)]
theorem lw_r2 : ∀ q ∈ lw_privs_2, lw_okq q := List.forall_mem_cons.mpr ⟨lw_p16, List.forall_mem_cons.mpr ⟨lw_p17, List.forall_mem_cons.mpr ⟨lw_p18, List.forall_mem_cons.mpr ⟨lw_p19, List.forall_mem_cons.mpr ⟨lw_p20, List.forall_mem_cons.mpr ⟨lw_p21, List.forall_mem_cons.mpr ⟨lw_p22, List.forall_mem_cons.mpr ⟨lw_p23, List.forall_mem_cons.mpr ⟨lw_p24, List.forall_mem_cons.mpr ⟨lw_p25, List.forall_mem_cons.mpr ⟨lw_p26, List.forall_mem_cons.mpr ⟨lw_p27, List.forall_mem_cons.mpr ⟨lw_p28, List.forall_mem_cons.mpr ⟨lw_p29, List.forall_mem_cons.mpr ⟨lw_p30, List.forall_mem_cons.mpr ⟨lw_p31, fun _ h => absurd h List.not_mem_nil⟩⟩⟩⟩⟩⟩⟩⟩⟩⟩⟩⟩⟩⟩⟩⟩
theorem lw_p32 : lw_okq (⟨"SleepKeeperModel", "ruleState", "(II)I"⟩, 16) := ⟨⟨by decide +kernel, by decide +kernel⟩, List.mem_of_getElem? (i := 481) (by decide +kernel), List.mem_of_getElem? (i := 682) (by decide +kernel), List.mem_of_getElem? (i := 683) (by decide +kernel)⟩
theorem lw_p33 : lw_okq (⟨"SleepKeeperModel", "isFirst", "(II)Z"⟩, 16) := ⟨⟨by decide +kernel, by decide +kernel⟩, List.mem_of_getElem? (i := 481) (by decide +kernel), List.mem_of_getElem? (i := 715) (by decide +kernel), List.mem_of_getElem? (i := 716) (by decide +kernel)⟩
def lw_privs_3 : List (MethodName × Nat) := [(⟨"SleepKeeperModel", "ruleState", "(II)I"⟩, 16), (⟨"SleepKeeperModel", "isFirst", "(II)Z"⟩, 16)]
theorem lw_r3 : ∀ q ∈ lw_privs_3, lw_okq q := List.forall_mem_cons.mpr ⟨lw_p32, List.forall_mem_cons.mpr ⟨lw_p33, fun _ h => absurd h List.not_mem_nil⟩⟩
def lw_privs : List (MethodName × Nat) := lw_privs_1 ++ (lw_privs_2 ++ (lw_privs_3))
def lw_tbl : List Cond := k2_sels lw_privs ++ tables_1
theorem lw_privs_ok : ∀ q ∈ lw_privs, lw_okq q := by
  show ∀ q ∈ lw_privs_1 ++ (lw_privs_2 ++ (lw_privs_3)), lw_okq q
  exact List.forall_mem_append.mpr ⟨lw_r1, List.forall_mem_append.mpr ⟨lw_r2, lw_r3⟩⟩
def RX0 : String := "SleepKeeper$Claims"
def TX0 : u_T := fun k => match k with
  | 0 => ("SleepKeeper$Claims", "programs", "[I", true)
  | 1 => ("SleepKeeper$Claims", "wantedParts", "[I", true)
  | 2 => ("SleepKeeper$Claims", "froms", "[I", true)
  | 3 => ("SleepKeeper$Claims", "tos", "[I", true)
  | _ => ("SleepKeeper$Claims", "count", "I", false)
def tyX0 : Nat → FieldType := fun k => match k with
  | 0 => .array .int
  | 1 => .array .int
  | 2 => .array .int
  | 3 => .array .int
  | _ => .int
abbrev wsX00 : List Cond := u_ws RX0 TX0 5
theorem nmX0 : ∀ a, a < 5 → ∀ b, b < 5 → a ≠ b → (TX0 a).2.1 ≠ (TX0 b).2.1 := by decide +kernel
theorem tyX0_ok : ∀ k, k < 5 → parseFieldDescriptor (TX0 k).2.2.1 = some (tyX0 k) := by decide +kernel
abbrev cX0_init : ByteArray := prog_2_method_1_code
def yX0_init : MethodName := ⟨RX0, "<init>", "(I)V"⟩
abbrev cX0_add : ByteArray := prog_2_method_2_code
def yX0_add : MethodName := ⟨RX0, "add", "(IIII)I"⟩
abbrev cX0_size : ByteArray := prog_2_method_3_code
def yX0_size : MethodName := ⟨RX0, "size", "()I"⟩
abbrev cX0_has : ByteArray := prog_2_method_4_code
def yX0_has : MethodName := ⟨RX0, "has", "(I)Z"⟩
abbrev cX0_programOf : ByteArray := prog_2_method_5_code
def yX0_programOf : MethodName := ⟨RX0, "programOf", "(I)I"⟩
abbrev cX0_partOf : ByteArray := prog_2_method_6_code
def yX0_partOf : MethodName := ⟨RX0, "partOf", "(I)I"⟩
abbrev cX0_fromOf : ByteArray := prog_2_method_7_code
def yX0_fromOf : MethodName := ⟨RX0, "fromOf", "(I)I"⟩
abbrev cX0_toOf : ByteArray := prog_2_method_8_code
def yX0_toOf : MethodName := ⟨RX0, "toOf", "(I)I"⟩
abbrev cX0_ticksOf : ByteArray := prog_2_method_9_code
def yX0_ticksOf : MethodName := ⟨RX0, "ticksOf", "(I)J"⟩
abbrev cX0_endAhead : ByteArray := prog_2_method_10_code
def yX0_endAhead : MethodName := ⟨RX0, "endAhead", "(II)V"⟩
abbrev cX0_firstEndWithNone : ByteArray := prog_2_method_11_code
def yX0_firstEndWithNone : MethodName := ⟨RX0, "firstEndWithNone", "(J)I"⟩
def RX1 : String := "SleepKeeper$Part"
def TX1 : u_T := fun k => match k with
  | 0 => ("SleepKeeper$Part", "drains", "[I", true)
  | 1 => ("SleepKeeper$Part", "costs", "[I", true)
  | 2 => ("SleepKeeper$Part", "rising", "[I", true)
  | _ => ("SleepKeeper$Part", "begins", "[I", true)
def tyX1 : Nat → FieldType := fun k => match k with
  | 0 => .array .int
  | 1 => .array .int
  | 2 => .array .int
  | _ => .array .int
abbrev wsX10 : List Cond := u_ws RX1 TX1 4
theorem nmX1 : ∀ a, a < 4 → ∀ b, b < 4 → a ≠ b → (TX1 a).2.1 ≠ (TX1 b).2.1 := by decide +kernel
theorem tyX1_ok : ∀ k, k < 4 → parseFieldDescriptor (TX1 k).2.2.1 = some (tyX1 k) := by decide +kernel
abbrev cX1_init : ByteArray := prog_3_method_1_code
def yX1_init : MethodName := ⟨RX1, "<init>", "()V"⟩
abbrev cX1_setDrains : ByteArray := prog_3_method_2_code
def yX1_setDrains : MethodName := ⟨RX1, "setDrains", "(IIII)V"⟩
abbrev cX1_setCosts : ByteArray := prog_3_method_3_code
def yX1_setCosts : MethodName := ⟨RX1, "setCosts", "(III)V"⟩
abbrev cX1_setRising : ByteArray := prog_3_method_4_code
def yX1_setRising : MethodName := ⟨RX1, "setRising", "(III)V"⟩
abbrev cX1_setThresholds : ByteArray := prog_3_method_5_code
def yX1_setThresholds : MethodName := ⟨RX1, "setThresholds", "(III)V"⟩
abbrev cX1_drainIn : ByteArray := prog_3_method_6_code
def yX1_drainIn : MethodName := ⟨RX1, "drainIn", "(I)I"⟩
abbrev cX1_drainAwake : ByteArray := prog_3_method_7_code
def yX1_drainAwake : MethodName := ⟨RX1, "drainAwake", "(J)I"⟩
abbrev cX1_restIn : ByteArray := prog_3_method_8_code
def yX1_restIn : MethodName := ⟨RX1, "restIn", "(IIZ)I"⟩
abbrev cX1_sumIn : ByteArray := prog_3_method_9_code
def yX1_sumIn : MethodName := ⟨RX1, "sumIn", "(IIZ)I"⟩
abbrev cX1_bestState : ByteArray := prog_3_method_10_code
def yX1_bestState : MethodName := ⟨RX1, "bestState", "(IZ)I"⟩
abbrev cX1_planned : ByteArray := prog_3_method_11_code
def yX1_planned : MethodName := ⟨RX1, "planned", "(LSleepKeeper$Spans;)I"⟩
abbrev cX1_stateByRule : ByteArray := prog_3_method_12_code
def yX1_stateByRule : MethodName := ⟨RX1, "stateByRule", "(I)I"⟩
abbrev cX1_restByRule : ByteArray := prog_3_method_13_code
def yX1_restByRule : MethodName := ⟨RX1, "restByRule", "(IZ)I"⟩
abbrev cX1_sumByRule : ByteArray := prog_3_method_14_code
def yX1_sumByRule : MethodName := ⟨RX1, "sumByRule", "(LSleepKeeper$Spans;)I"⟩
abbrev cX1_spanByRule : ByteArray := prog_3_method_15_code
def yX1_spanByRule : MethodName := ⟨RX1, "spanByRule", "(IZ)I"⟩
abbrev cX1_sumOfTry : ByteArray := prog_3_method_16_code
def yX1_sumOfTry : MethodName := ⟨RX1, "sumOfTry", "(LSleepKeeper$Spans;III)I"⟩
abbrev cX1_takeBestThresholds : ByteArray := prog_3_method_17_code
def yX1_takeBestThresholds : MethodName := ⟨RX1, "takeBestThresholds", "(LSleepKeeper$Spans;)V"⟩
abbrev cX1_bestLaterOff : ByteArray := prog_3_method_18_code
def yX1_bestLaterOff : MethodName := ⟨RX1, "bestLaterOff", "(LSleepKeeper$Spans;II)I"⟩
def RX2 : String := "SleepKeeper$Spans"
def TX2 : u_T := fun k => match k with
  | 0 => ("SleepKeeper$Spans", "firsts", "[I", true)
  | 1 => ("SleepKeeper$Spans", "lens", "[I", true)
  | _ => ("SleepKeeper$Spans", "count", "I", false)
def tyX2 : Nat → FieldType := fun k => match k with
  | 0 => .array .int
  | 1 => .array .int
  | _ => .int
abbrev wsX20 : List Cond := u_ws RX2 TX2 3
theorem nmX2 : ∀ a, a < 3 → ∀ b, b < 3 → a ≠ b → (TX2 a).2.1 ≠ (TX2 b).2.1 := by decide +kernel
theorem tyX2_ok : ∀ k, k < 3 → parseFieldDescriptor (TX2 k).2.2.1 = some (tyX2 k) := by decide +kernel
abbrev cX2_init : ByteArray := prog_4_method_1_code
def yX2_init : MethodName := ⟨RX2, "<init>", "()V"⟩
abbrev cX2_layOut : ByteArray := prog_4_method_2_code
def yX2_layOut : MethodName := ⟨RX2, "layOut", "(J)V"⟩
abbrev cX2_size : ByteArray := prog_4_method_3_code
def yX2_size : MethodName := ⟨RX2, "size", "()I"⟩
abbrev cX2_has : ByteArray := prog_4_method_4_code
def yX2_has : MethodName := ⟨RX2, "has", "(I)Z"⟩
abbrev cX2_firstOf : ByteArray := prog_4_method_5_code
def yX2_firstOf : MethodName := ⟨RX2, "firstOf", "(I)I"⟩
abbrev cX2_lenOf : ByteArray := prog_4_method_6_code
def yX2_lenOf : MethodName := ⟨RX2, "lenOf", "(I)I"⟩
abbrev cX2_endsAll : ByteArray := prog_4_method_7_code
def yX2_endsAll : MethodName := ⟨RX2, "endsAll", "(I)Z"⟩
abbrev cX2_find : ByteArray := prog_4_method_8_code
def yX2_find : MethodName := ⟨RX2, "find", "(I)I"⟩
abbrev cX2_longest : ByteArray := prog_4_method_9_code
def yX2_longest : MethodName := ⟨RX2, "longest", "()I"⟩
def RX3 : String := "SleepKeeper$Wants"
def TX3 : u_T := fun k => match k with
  | _ => ("SleepKeeper$Wants", "rows", "[J", true)
def tyX3 : Nat → FieldType := fun k => match k with
  | _ => .array .long
abbrev wsX30 : List Cond := u_ws RX3 TX3 1
theorem nmX3 : ∀ a, a < 1 → ∀ b, b < 1 → a ≠ b → (TX3 a).2.1 ≠ (TX3 b).2.1 := by decide +kernel
theorem tyX3_ok : ∀ k, k < 1 → parseFieldDescriptor (TX3 k).2.2.1 = some (tyX3 k) := by decide +kernel
abbrev cX3_init : ByteArray := prog_5_method_1_code
def yX3_init : MethodName := ⟨RX3, "<init>", "()V"⟩
abbrev cX3_clear : ByteArray := prog_5_method_2_code
def yX3_clear : MethodName := ⟨RX3, "clear", "()V"⟩
abbrev cX3_add : ByteArray := prog_5_method_3_code
def yX3_add : MethodName := ⟨RX3, "add", "(IIJ)V"⟩
abbrev cX3_spread : ByteArray := prog_5_method_4_code
def yX3_spread : MethodName := ⟨RX3, "spread", "([I)V"⟩
abbrev cX3_addAll : ByteArray := prog_5_method_5_code
def yX3_addAll : MethodName := ⟨RX3, "addAll", "(II)V"⟩
abbrev cX3_ticksBy : ByteArray := prog_5_method_6_code
def yX3_ticksBy : MethodName := ⟨RX3, "ticksBy", "(II)J"⟩
abbrev cX3_ticksOf : ByteArray := prog_5_method_7_code
def yX3_ticksOf : MethodName := ⟨RX3, "ticksOf", "(I)J"⟩
abbrev cX3_programsAt : ByteArray := prog_5_method_8_code
def yX3_programsAt : MethodName := ⟨RX3, "programsAt", "(II)I"⟩
def RX4 : String := "SleepKeeper"
def TX4 : u_T := fun k => match k with
  | 0 => ("SleepKeeper", "parts", "[LSleepKeeper$Part;", true)
  | 1 => ("SleepKeeper", "partCount", "I", false)
  | 2 => ("SleepKeeper", "needs", "[I", true)
  | 3 => ("SleepKeeper", "holds", "LSleepKeeper$Claims;", true)
  | 4 => ("SleepKeeper", "timers", "LSleepKeeper$Claims;", true)
  | 5 => ("SleepKeeper", "wakings", "J", false)
  | 6 => ("SleepKeeper", "wants", "LSleepKeeper$Wants;", true)
  | 7 => ("SleepKeeper", "supposed", "LSleepKeeper$Wants;", true)
  | _ => ("SleepKeeper", "idle", "LSleepKeeper$Spans;", true)
def tyX4 : Nat → FieldType := fun k => match k with
  | 0 => .array (.object "SleepKeeper$Part")
  | 1 => .int
  | 2 => .array .int
  | 3 => .object "SleepKeeper$Claims"
  | 4 => .object "SleepKeeper$Claims"
  | 5 => .long
  | 6 => .object "SleepKeeper$Wants"
  | 7 => .object "SleepKeeper$Wants"
  | _ => .object "SleepKeeper$Spans"
abbrev wsX40 : List Cond := u_ws RX4 TX4 9
theorem nmX4 : ∀ a, a < 9 → ∀ b, b < 9 → a ≠ b → (TX4 a).2.1 ≠ (TX4 b).2.1 := by decide +kernel
theorem tyX4_ok : ∀ k, k < 9 → parseFieldDescriptor (TX4 k).2.2.1 = some (tyX4 k) := by decide +kernel
abbrev cX4_init : ByteArray := prog_1_method_1_code
def yX4_init : MethodName := ⟨RX4, "<init>", "()V"⟩
abbrev cX4_part : ByteArray := prog_1_method_2_code
def yX4_part : MethodName := ⟨RX4, "part", "(IIII)I"⟩
abbrev cX4_rise : ByteArray := prog_1_method_3_code
def yX4_rise : MethodName := ⟨RX4, "rise", "(IIIIIII)Z"⟩
abbrev cX4_need : ByteArray := prog_1_method_4_code
def yX4_need : MethodName := ⟨RX4, "need", "(IIZ)Z"⟩
abbrev cX4_hold : ByteArray := prog_1_method_5_code
def yX4_hold : MethodName := ⟨RX4, "hold", "(IIII)I"⟩
abbrev cX4_back : ByteArray := prog_1_method_6_code
def yX4_back : MethodName := ⟨RX4, "back", "(II)Z"⟩
abbrev cX4_timer : ByteArray := prog_1_method_7_code
def yX4_timer : MethodName := ⟨RX4, "timer", "(IIII)I"⟩
abbrev cX4_rule : ByteArray := prog_1_method_8_code
def yX4_rule : MethodName := ⟨RX4, "rule", "(IIII)Z"⟩
abbrev cX4_learn : ByteArray := prog_1_method_9_code
def yX4_learn : MethodName := ⟨RX4, "learn", "(I)I"⟩
abbrev cX4_look : ByteArray := prog_1_method_10_code
def yX4_look : MethodName := ⟨RX4, "look", "(I)I"⟩
abbrev cX4_held : ByteArray := prog_1_method_11_code
def yX4_held : MethodName := ⟨RX4, "held", "(II)I"⟩
abbrev cX4_waking : ByteArray := prog_1_method_12_code
def yX4_waking : MethodName := ⟨RX4, "waking", "(I)I"⟩
abbrev cX4_fires : ByteArray := prog_1_method_13_code
def yX4_fires : MethodName := ⟨RX4, "fires", "(I)I"⟩
abbrev cX4_wanted : ByteArray := prog_1_method_14_code
def yX4_wanted : MethodName := ⟨RX4, "wanted", "(II)I"⟩
abbrev cX4_when : ByteArray := prog_1_method_15_code
def yX4_when : MethodName := ⟨RX4, "when", "(I)J"⟩
abbrev cX4_spans : ByteArray := prog_1_method_16_code
def yX4_spans : MethodName := ⟨RX4, "spans", "(I)I"⟩
abbrev cX4_span : ByteArray := prog_1_method_17_code
def yX4_span : MethodName := ⟨RX4, "span", "(III)I"⟩
abbrev cX4_drain : ByteArray := prog_1_method_18_code
def yX4_drain : MethodName := ⟨RX4, "drain", "(I)I"⟩
abbrev cX4_ruled : ByteArray := prog_1_method_19_code
def yX4_ruled : MethodName := ⟨RX4, "ruled", "(I)I"⟩
abbrev cX4_state : ByteArray := prog_1_method_20_code
def yX4_state : MethodName := ⟨RX4, "state", "(II)I"⟩
abbrev cX4_ruledState : ByteArray := prog_1_method_21_code
def yX4_ruledState : MethodName := ⟨RX4, "ruledState", "(II)I"⟩
abbrev cX4_all : ByteArray := prog_1_method_22_code
def yX4_all : MethodName := ⟨RX4, "all", "()I"⟩
abbrev cX4_without : ByteArray := prog_1_method_23_code
def yX4_without : MethodName := ⟨RX4, "without", "(I)I"⟩
abbrev cX4_blame : ByteArray := prog_1_method_24_code
def yX4_blame : MethodName := ⟨RX4, "blame", "(I)I"⟩
abbrev cX4_order : ByteArray := prog_1_method_25_code
def yX4_order : MethodName := ⟨RX4, "order", "(II)I"⟩
abbrev cX4_isPart : ByteArray := prog_1_method_26_code
def yX4_isPart : MethodName := ⟨RX4, "isPart", "(I)Z"⟩
abbrev cX4_isProgram : ByteArray := prog_1_method_27_code
def yX4_isProgram : MethodName := ⟨RX4, "isProgram", "(I)Z"⟩
abbrev cX4_isTick : ByteArray := prog_1_method_28_code
def yX4_isTick : MethodName := ⟨RX4, "isTick", "(I)Z"⟩
abbrev cX4_rises : ByteArray := prog_1_method_29_code
def yX4_rises : MethodName := ⟨RX4, "rises", "(IIII)Z"⟩
abbrev cX4_hasPart : ByteArray := prog_1_method_30_code
def yX4_hasPart : MethodName := ⟨RX4, "hasPart", "(II)Z"⟩
abbrev cX4_hasTick : ByteArray := prog_1_method_31_code
def yX4_hasTick : MethodName := ⟨RX4, "hasTick", "(JI)Z"⟩
abbrev cX4_leastTick : ByteArray := prog_1_method_32_code
def yX4_leastTick : MethodName := ⟨RX4, "leastTick", "(J)I"⟩
abbrev cX4_ticksAhead : ByteArray := prog_1_method_33_code
def yX4_ticksAhead : MethodName := ⟨RX4, "ticksAhead", "(I)J"⟩
abbrev cX4_leadsTo : ByteArray := prog_1_method_34_code
def yX4_leadsTo : MethodName := ⟨RX4, "leadsTo", "(II)Z"⟩
abbrev cX4_fewestWakings : ByteArray := prog_1_method_35_code
def yX4_fewestWakings : MethodName := ⟨RX4, "fewestWakings", "()J"⟩
abbrev cX4_gatherWants : ByteArray := prog_1_method_36_code
def yX4_gatherWants : MethodName := ⟨RX4, "gatherWants", "(LSleepKeeper$Wants;I)V"⟩
abbrev cX4_layOutIdle : ByteArray := prog_1_method_37_code
def yX4_layOutIdle : MethodName := ⟨RX4, "layOutIdle", "(I)V"⟩
abbrev cX4_drainInPlan : ByteArray := prog_1_method_38_code
def yX4_drainInPlan : MethodName := ⟨RX4, "drainInPlan", "(IJ)I"⟩
abbrev cX4_drainByRule : ByteArray := prog_1_method_39_code
def yX4_drainByRule : MethodName := ⟨RX4, "drainByRule", "(I)I"⟩
abbrev cX4_drainInSpans : ByteArray := prog_1_method_40_code
def yX4_drainInSpans : MethodName := ⟨RX4, "drainInSpans", "(I)I"⟩
abbrev cX4_drainOfAll : ByteArray := prog_1_method_41_code
def yX4_drainOfAll : MethodName := ⟨RX4, "drainOfAll", "(LSleepKeeper$Wants;)I"⟩
abbrev cX4_blameIn : ByteArray := prog_1_method_42_code
def yX4_blameIn : MethodName := ⟨RX4, "blameIn", "(II)I"⟩
abbrev cX4_gettingUp : ByteArray := prog_1_method_43_code
def yX4_gettingUp : MethodName := ⟨RX4, "gettingUp", "(I)I"⟩
abbrev cX4_leastReady : ByteArray := prog_1_method_44_code
def yX4_leastReady : MethodName := ⟨RX4, "leastReady", "(I)I"⟩
def RX5 : String := "SleepKeeperModel"
def TX5 : u_T := fun k => match k with
  | 0 => ("SleepKeeperModel", "parts", "I", false)
  | 1 => ("SleepKeeperModel", "holds", "I", false)
  | 2 => ("SleepKeeperModel", "timers", "I", false)
  | 3 => ("SleepKeeperModel", "drain", "[I", true)
  | 4 => ("SleepKeeperModel", "cost", "[I", true)
  | 5 => ("SleepKeeperModel", "rising", "[I", true)
  | 6 => ("SleepKeeperModel", "rule", "[I", true)
  | 7 => ("SleepKeeperModel", "needs", "[Z", true)
  | 8 => ("SleepKeeperModel", "hold", "[I", true)
  | 9 => ("SleepKeeperModel", "timer", "[I", true)
  | 10 => ("SleepKeeperModel", "wakings", "[I", true)
  | 11 => ("SleepKeeperModel", "wakingMany", "I", false)
  | 12 => ("SleepKeeperModel", "by", "[I", true)
  | 13 => ("SleepKeeperModel", "leftOut", "I", false)
  | 14 => ("SleepKeeperModel", "first", "I", false)
  | _ => ("SleepKeeperModel", "len", "I", false)
def tyX5 : Nat → FieldType := fun k => match k with
  | 0 => .int
  | 1 => .int
  | 2 => .int
  | 3 => .array .int
  | 4 => .array .int
  | 5 => .array .int
  | 6 => .array .int
  | 7 => .array .boolean
  | 8 => .array .int
  | 9 => .array .int
  | 10 => .array .int
  | 11 => .int
  | 12 => .array .int
  | 13 => .int
  | 14 => .int
  | _ => .int
abbrev wsX50 : List Cond := u_ws RX5 TX5 16
theorem nmX5 : ∀ a, a < 16 → ∀ b, b < 16 → a ≠ b → (TX5 a).2.1 ≠ (TX5 b).2.1 := by decide +kernel
theorem tyX5_ok : ∀ k, k < 16 → parseFieldDescriptor (TX5 k).2.2.1 = some (tyX5 k) := by decide +kernel
abbrev cX5_init : ByteArray := prog_7_method_1_code
def yX5_init : MethodName := ⟨RX5, "<init>", "()V"⟩
abbrev cX5_isIn : ByteArray := prog_7_method_2_code
def yX5_isIn : MethodName := ⟨RX5, "isIn", "(III)Z"⟩
abbrev cX5_isPart : ByteArray := prog_7_method_3_code
def yX5_isPart : MethodName := ⟨RX5, "isPart", "(I)Z"⟩
abbrev cX5_isTick : ByteArray := prog_7_method_4_code
def yX5_isTick : MethodName := ⟨RX5, "isTick", "(I)Z"⟩
abbrev cX5_part : ByteArray := prog_7_method_5_code
def yX5_part : MethodName := ⟨RX5, "part", "(IIII)I"⟩
abbrev cX5_rise : ByteArray := prog_7_method_6_code
def yX5_rise : MethodName := ⟨RX5, "rise", "(IIIIIII)Z"⟩
abbrev cX5_reaches : ByteArray := prog_7_method_7_code
def yX5_reaches : MethodName := ⟨RX5, "reaches", "(II)Z"⟩
abbrev cX5_need : ByteArray := prog_7_method_8_code
def yX5_need : MethodName := ⟨RX5, "need", "(IIZ)Z"⟩
abbrev cX5_isProgram : ByteArray := prog_7_method_9_code
def yX5_isProgram : MethodName := ⟨RX5, "isProgram", "(I)Z"⟩
abbrev cX5_hold : ByteArray := prog_7_method_10_code
def yX5_hold : MethodName := ⟨RX5, "hold", "(IIII)I"⟩
abbrev cX5_back : ByteArray := prog_7_method_11_code
def yX5_back : MethodName := ⟨RX5, "back", "(II)Z"⟩
abbrev cX5_timer : ByteArray := prog_7_method_12_code
def yX5_timer : MethodName := ⟨RX5, "timer", "(IIII)I"⟩
abbrev cX5_rule : ByteArray := prog_7_method_13_code
def yX5_rule : MethodName := ⟨RX5, "rule", "(IIII)Z"⟩
abbrev cX5_wakes : ByteArray := prog_7_method_14_code
def yX5_wakes : MethodName := ⟨RX5, "wakes", "()V"⟩
abbrev cX5_firesAt : ByteArray := prog_7_method_15_code
def yX5_firesAt : MethodName := ⟨RX5, "firesAt", "(I)I"⟩
abbrev cX5_waking : ByteArray := prog_7_method_16_code
def yX5_waking : MethodName := ⟨RX5, "waking", "(I)I"⟩
abbrev cX5_fires : ByteArray := prog_7_method_17_code
def yX5_fires : MethodName := ⟨RX5, "fires", "(I)I"⟩
abbrev cX5_look : ByteArray := prog_7_method_18_code
def yX5_look : MethodName := ⟨RX5, "look", "(I)I"⟩
abbrev cX5_held : ByteArray := prog_7_method_19_code
def yX5_held : MethodName := ⟨RX5, "held", "(II)I"⟩
abbrev cX5_wants : ByteArray := prog_7_method_20_code
def yX5_wants : MethodName := ⟨RX5, "wants", "()V"⟩
abbrev cX5_isWanted : ByteArray := prog_7_method_21_code
def yX5_isWanted : MethodName := ⟨RX5, "isWanted", "(II)Z"⟩
abbrev cX5_wanted : ByteArray := prog_7_method_22_code
def yX5_wanted : MethodName := ⟨RX5, "wanted", "(II)I"⟩
abbrev cX5_when : ByteArray := prog_7_method_23_code
def yX5_when : MethodName := ⟨RX5, "when", "(I)J"⟩
abbrev cX5_begins : ByteArray := prog_7_method_24_code
def yX5_begins : MethodName := ⟨RX5, "begins", "(II)Z"⟩
abbrev cX5_isLast : ByteArray := prog_7_method_25_code
def yX5_isLast : MethodName := ⟨RX5, "isLast", "()Z"⟩
abbrev cX5_costs : ByteArray := prog_7_method_26_code
def yX5_costs : MethodName := ⟨RX5, "costs", "(II)I"⟩
abbrev cX5_choice : ByteArray := prog_7_method_27_code
def yX5_choice : MethodName := ⟨RX5, "choice", "(I)I"⟩
abbrev cX5_spans : ByteArray := prog_7_method_28_code
def yX5_spans : MethodName := ⟨RX5, "spans", "(I)I"⟩
abbrev cX5_span : ByteArray := prog_7_method_29_code
def yX5_span : MethodName := ⟨RX5, "span", "(III)I"⟩
abbrev cX5_ofSpan : ByteArray := prog_7_method_30_code
def yX5_ofSpan : MethodName := ⟨RX5, "ofSpan", "(II)I"⟩
abbrev cX5_drained : ByteArray := prog_7_method_31_code
def yX5_drained : MethodName := ⟨RX5, "drained", "(I)I"⟩
abbrev cX5_drain : ByteArray := prog_7_method_32_code
def yX5_drain : MethodName := ⟨RX5, "drain", "(I)I"⟩
abbrev cX5_state : ByteArray := prog_7_method_33_code
def yX5_state : MethodName := ⟨RX5, "state", "(II)I"⟩
abbrev cX5_ruleState : ByteArray := prog_7_method_34_code
def yX5_ruleState : MethodName := ⟨RX5, "ruleState", "(II)I"⟩
abbrev cX5_ahead : ByteArray := prog_7_method_35_code
def yX5_ahead : MethodName := ⟨RX5, "ahead", "(II)I"⟩
abbrev cX5_rises : ByteArray := prog_7_method_36_code
def yX5_rises : MethodName := ⟨RX5, "rises", "(I)I"⟩
abbrev cX5_ruledSpan : ByteArray := prog_7_method_37_code
def yX5_ruledSpan : MethodName := ⟨RX5, "ruledSpan", "(I)I"⟩
abbrev cX5_ruledSum : ByteArray := prog_7_method_38_code
def yX5_ruledSum : MethodName := ⟨RX5, "ruledSum", "(I)I"⟩
abbrev cX5_ruled : ByteArray := prog_7_method_39_code
def yX5_ruled : MethodName := ⟨RX5, "ruled", "(I)I"⟩
abbrev cX5_ruledState : ByteArray := prog_7_method_40_code
def yX5_ruledState : MethodName := ⟨RX5, "ruledState", "(II)I"⟩
abbrev cX5_learn : ByteArray := prog_7_method_41_code
def yX5_learn : MethodName := ⟨RX5, "learn", "(I)I"⟩
abbrev cX5_all : ByteArray := prog_7_method_42_code
def yX5_all : MethodName := ⟨RX5, "all", "()I"⟩
abbrev cX5_without : ByteArray := prog_7_method_43_code
def yX5_without : MethodName := ⟨RX5, "without", "(I)I"⟩
abbrev cX5_bits : ByteArray := prog_7_method_44_code
def yX5_bits : MethodName := ⟨RX5, "bits", "(I)I"⟩
abbrev cX5_blame : ByteArray := prog_7_method_45_code
def yX5_blame : MethodName := ⟨RX5, "blame", "(I)I"⟩
abbrev cX5_order : ByteArray := prog_7_method_46_code
def yX5_order : MethodName := ⟨RX5, "order", "(II)I"⟩
abbrev cX5_isFirst : ByteArray := prog_7_method_47_code
def yX5_isFirst : MethodName := ⟨RX5, "isFirst", "(II)Z"⟩
def RJ13 : String := "java/lang/Long"
def TJ13 : u_T := fun k => match k with
  | _ => ("", "", "", false)
def tyJ13 : Nat → FieldType := fun k => match k with
  | _ => .int
abbrev wsJ130 : List Cond := u_ws RJ13 TJ13 0
theorem nmJ13 : ∀ a, a < 0 → ∀ b, b < 0 → a ≠ b → (TJ13 a).2.1 ≠ (TJ13 b).2.1 := by decide +kernel
theorem tyJ13_ok : ∀ k, k < 0 → parseFieldDescriptor (TJ13 k).2.2.1 = some (tyJ13 k) := by decide +kernel
abbrev cJ13_bitCount_95d88 : ByteArray := prog_8_method_50_code
def yJ13_bitCount_95d88 : MethodName := ⟨RJ13, "bitCount", "(J)I"⟩
def RJ9 : String := "java/lang/Math"
def TJ9 : u_T := fun k => match k with
  | _ => ("", "", "", false)
def tyJ9 : Nat → FieldType := fun k => match k with
  | _ => .int
abbrev wsJ90 : List Cond := u_ws RJ9 TJ9 0
theorem nmJ9 : ∀ a, a < 0 → ∀ b, b < 0 → a ≠ b → (TJ9 a).2.1 ≠ (TJ9 b).2.1 := by decide +kernel
theorem tyJ9_ok : ∀ k, k < 0 → parseFieldDescriptor (TJ9 k).2.2.1 = some (tyJ9 k) := by decide +kernel
abbrev cJ9_max_7cf53 : ByteArray := prog_9_method_65_code
def yJ9_max_7cf53 : MethodName := ⟨RJ9, "max", "(II)I"⟩
abbrev cJ9_min_7cf53 : ByteArray := prog_9_method_69_code
def yJ9_min_7cf53 : MethodName := ⟨RJ9, "min", "(II)I"⟩
def RL : String := "SleepKeeperLaw"
abbrev cL_law : ByteArray := code
def yL_law : MethodName := ⟨RL, "law", "([I)Z"⟩
end
section
/-! ===== the program as tables (printed by a program out of the task) ===== -/
abbrev q_NM : Nat := 132
def q_cnt (k : Nat) : Nat := ([1, 1, 6, 6, 6, 6, 6, 1, 2, 2, 2, 2, 2, 2, 2, 1, 1, 1, 1, 1, 1, 1, 1, 1, 1, 1, 1, 1] : List Nat).getD k 0
def q_kc (k : Nat) : Option Nat := ([some 4, none, some 1, none, none, none, none, none, some 0, none, none, none, none, some 3, none, some 2, none, none, some 5, none, none, none, none, none, none, none, none, none] : List (Option Nat)).getD k none
def q_at (k : Nat) : Nat := ([0, 4, 0, 1, 1, 1, 1, 1, 0, 1, 1, 1, 1, 0, 2, 0, 1, 1, 0, 1, 1, 1, 1, 3, 1, 1, 1, 1] : List Nat).getD k 0
def q_len (k i : Nat) : Nat := bif Nat.ble 9 k && Nat.ble k 12 then (bif Nat.beq i 0 then 20 else 12) else ([0, 6, 0, 4, 4, 4, 5, 6, 0, 0, 0, 0, 0, 0, 48, 0, 64, 64, 0, 24, 24, 24, 18, 36, 80, 48, 12, 384] : List Nat).getD k 0
def q_nf (ci : Nat) : Nat := ([5, 4, 3, 1, 9, 16] : List Nat).getD ci 0
def q_ft (ci j : Nat) : Nat := (([[2, 2, 2, 2, 0], [2, 2, 2, 2], [2, 2, 0], [2], [2, 0, 2, 2, 2, 1, 2, 2, 2], [0, 0, 0, 2, 2, 2, 2, 2, 2, 2, 2, 0, 2, 0, 0, 0]] : List (List Nat)).getD ci []).getD j 3
def q_rf (k i j : Nat) : Nat × Nat := bif Nat.beq k 1 then (2, j) else (([[(1, 0), (0, 0), (7, 0), (8, 0), (8, 1), (0, 0), (13, 0), (13, 1), (15, 0)], [], [(3, i), (4, i), (5, i), (6, i)], [], [], [], [], [], [(9, i), (10, i), (11, i), (12, i), (0, 0)], [], [], [], [], [(14, i)], [], [(16, 0), (17, 0), (0, 0)], [], [], [(0, 0), (0, 0), (0, 0), (19, 0), (20, 0), (21, 0), (22, 0), (23, 0), (24, 0), (25, 0), (26, 0), (0, 0), (27, 0), (0, 0), (0, 0), (0, 0)], [], [], [], [], [], [], [], [], []] : List (List (Nat × Nat))).getD k []).getD j (0, 0)
def q_flds : List ((Nat × Nat) × (Nat × Nat)) := [((4, 11), (4, 0)), ((4, 15), (4, 1)), ((4, 19), (4, 2)), ((4, 28), (4, 3)), ((4, 32), (4, 4)), ((4, 35), (4, 5)), ((4, 42), (4, 6)), ((4, 46), (4, 7)), ((4, 52), (4, 8)), ((0, 9), (0, 4)), ((0, 15), (0, 0)), ((0, 19), (0, 1)), ((0, 22), (0, 2)), ((0, 25), (0, 3)), ((1, 9), (1, 0)), ((1, 15), (1, 1)), ((1, 18), (1, 2)), ((1, 21), (1, 3)), ((2, 9), (2, 0)), ((2, 15), (2, 1)), ((2, 18), (2, 2)), ((3, 9), (3, 0)), ((5, 7), (5, 3)), ((5, 13), (5, 4)), ((5, 16), (5, 5)), ((5, 19), (5, 6)), ((5, 22), (5, 7)), ((5, 26), (5, 8)), ((5, 29), (5, 9)), ((5, 32), (5, 10)), ((5, 35), (5, 12)), ((5, 38), (5, 13)), ((5, 42), (5, 0)), ((5, 60), (5, 1)), ((5, 66), (5, 2)), ((5, 69), (5, 11)), ((5, 85), (5, 14)), ((5, 88), (5, 15))]
def q_mths : List ((Nat × Nat) × (Nat × Nat)) := [((4, 57), (69, 1)), ((4, 61), (10, 0)), ((4, 65), (66, 0)), ((4, 69), (11, 0)), ((4, 73), (12, 0)), ((4, 76), (70, 1)), ((4, 80), (74, 0)), ((4, 83), (76, 0)), ((4, 87), (67, 1)), ((4, 90), (0, 0)), ((4, 94), (2, 0)), ((4, 97), (5, 0)), ((4, 101), (6, 0)), ((4, 104), (8, 0)), ((4, 108), (75, 0)), ((4, 112), (13, 0)), ((4, 115), (77, 0)), ((4, 118), (25, 0)), ((4, 122), (79, 0)), ((4, 125), (1, 0)), ((4, 129), (131, 1)), ((4, 135), (3, 0)), ((4, 138), (4, 0)), ((4, 141), (71, 1)), ((4, 145), (7, 0)), ((4, 149), (72, 1)), ((4, 152), (68, 1)), ((4, 155), (40, 0)), ((4, 156), (28, 0)), ((4, 157), (29, 0)), ((4, 158), (31, 0)), ((4, 161), (32, 0)), ((4, 164), (18, 0)), ((4, 168), (30, 0)), ((4, 171), (17, 0)), ((4, 175), (16, 0)), ((4, 178), (78, 0)), ((4, 182), (33, 0)), ((4, 185), (21, 0)), ((4, 188), (20, 0)), ((4, 191), (81, 0)), ((4, 196), (80, 0)), ((4, 199), (82, 0)), ((4, 203), (83, 0)), ((4, 206), (84, 0)), ((4, 211), (9, 0)), ((4, 214), (35, 0)), ((4, 217), (36, 0)), ((4, 220), (37, 0)), ((4, 224), (27, 0)), ((4, 228), (15, 0)), ((4, 231), (19, 0)), ((4, 235), (22, 0)), ((4, 238), (39, 0)), ((4, 242), (41, 0)), ((4, 245), (14, 0)), ((0, 34), (7, 0)), ((1, 24), (131, 1)), ((1, 30), (16, 0)), ((1, 34), (17, 0)), ((1, 37), (28, 0)), ((1, 43), (31, 0)), ((1, 47), (32, 0)), ((1, 51), (18, 0)), ((1, 55), (23, 0)), ((1, 58), (21, 0)), ((1, 67), (20, 0)), ((1, 70), (13, 0)), ((1, 74), (22, 0)), ((1, 78), (34, 0)), ((1, 81), (24, 0)), ((1, 85), (26, 0)), ((3, 19), (38, 0)), ((3, 23), (39, 0)), ((3, 27), (36, 0)), ((8, 13), (42, 0)), ((8, 17), (88, 0)), ((8, 18), (43, 0)), ((8, 22), (89, 0)), ((8, 23), (44, 0)), ((8, 27), (91, 0)), ((8, 28), (45, 0)), ((8, 31), (93, 0)), ((8, 32), (46, 0)), ((8, 36), (94, 0)), ((8, 37), (47, 0)), ((8, 40), (95, 0)), ((8, 41), (48, 0)), ((8, 45), (96, 0)), ((8, 46), (50, 0)), ((8, 50), (101, 0)), ((8, 51), (51, 0)), ((8, 55), (102, 0)), ((8, 56), (52, 0)), ((8, 59), (99, 0)), ((8, 60), (53, 0)), ((8, 63), (100, 0)), ((8, 64), (54, 0)), ((8, 67), (105, 0)), ((8, 68), (55, 0)), ((8, 72), (106, 0)), ((8, 73), (56, 0)), ((8, 76), (111, 0)), ((8, 77), (57, 0)), ((8, 81), (112, 0)), ((8, 82), (58, 0)), ((8, 85), (115, 0)), ((8, 86), (59, 0)), ((8, 89), (122, 0)), ((8, 90), (60, 0)), ((8, 93), (116, 0)), ((8, 94), (61, 0)), ((8, 97), (123, 0)), ((8, 98), (62, 0)), ((8, 102), (125, 0)), ((8, 103), (63, 0)), ((8, 106), (126, 0)), ((8, 107), (64, 0)), ((8, 110), (128, 0)), ((8, 111), (65, 0)), ((8, 114), (129, 0)), ((8, 115), (49, 0)), ((8, 118), (124, 0)), ((5, 45), (85, 1)), ((5, 49), (86, 0)), ((5, 53), (90, 0)), ((5, 57), (92, 1)), ((5, 63), (87, 1)), ((5, 72), (97, 0)), ((5, 75), (98, 0)), ((5, 79), (103, 0)), ((5, 82), (104, 0)), ((5, 91), (108, 0)), ((5, 95), (109, 0)), ((5, 99), (107, 0)), ((5, 102), (113, 0)), ((5, 105), (110, 0)), ((5, 108), (114, 0)), ((5, 111), (117, 0)), ((5, 114), (118, 0)), ((5, 117), (119, 0)), ((5, 120), (120, 0)), ((5, 123), (121, 0)), ((5, 127), (125, 0)), ((5, 131), (127, 1)), ((5, 134), (130, 0)), ((0, 28), (73, 2)), ((2, 22), (71, 2)), ((3, 15), (70, 2)), ((3, 31), (71, 2))]
def q_mms : List ((Nat × Nat) × Nat) := [((1, 61), 1), ((2, 26), 0)]
def q_csts : List ((Nat × Nat) × Int32) := [((4, 195), -100001), ((5, 126), -100001)]
def q_cstsL : List ((Nat × Nat) × Int64) := [((4, 209), -1), ((0, 32), -1), ((6, 314), 6148914691236517205), ((6, 316), 3689348814741910323), ((6, 318), 1085102592571150095)]
def q_look {α : Type} : List ((Nat × Nat) × α) → Nat → Nat → Option α
  | [], _, _ => none
  | q :: l, a, b => bif Nat.beq q.1.1 a && Nat.beq q.1.2 b then some q.2 else q_look l a b
def q_fld (oc f : Nat) : Option (Nat × Nat) := q_look q_flds oc f
def q_mth (oc f : Nat) : Option (Nat × Nat) := q_look q_mths oc f
def q_mm (oc f : Nat) : Option Nat := q_look q_mms oc f
def q_cst (oc f : Nat) : Option Int32 := q_look q_csts oc f
def q_cstL (oc f : Nat) : Option Int64 := q_look q_cstsL oc f
def q_mOs : List Nat := [0, 0, 0, 0, 0, 0, 0, 0, 0, 0, 1, 1, 1, 1, 1, 1, 1, 1, 1, 1, 1, 1, 1, 1, 1, 1, 1, 2, 2, 2, 2, 2, 2, 2, 2, 3, 3, 3, 3, 3, 3, 3, 4, 4, 4, 4, 4, 4, 4, 4, 4, 4, 4, 4, 4, 4, 4, 4, 4, 4, 4, 4, 4, 4, 4, 4, 4, 4, 4, 4, 4, 4, 4, 4, 4, 4, 4, 4, 4, 4, 4, 4, 4, 4, 4, 5, 5, 5, 5, 5, 5, 5, 5, 5, 5, 5, 5, 5, 5, 5, 5, 5, 5, 5, 5, 5, 5, 5, 5, 5, 5, 5, 5, 5, 5, 5, 5, 5, 5, 5, 5, 5, 5, 5, 5, 5, 5, 5, 5, 5, 5, 6]
def q_mO (mi : Nat) : Nat := q_mOs.getD mi 9
def q_mA (mi : Nat) : Nat := ([4, 0, 1, 1, 1, 1, 1, 1, 2, 1, 4, 3, 3, 3, 1, 1, 3, 3, 2, 1, 1, 2, 1, 2, 4, 1, 3, 1, 0, 1, 1, 1, 1, 1, 0, 0, 3, 1, 2, 2, 1, 2, 4, 7, 3, 4, 2, 4, 4, 1, 1, 2, 1, 1, 2, 1, 1, 3, 1, 1, 2, 2, 0, 1, 1, 2, 1, 1, 1, 4, 2, 2, 1, 1, 2, 0, 2, 1, 2, 1, 1, 1, 2, 1, 1, 3, 1, 1, 4, 7, 2, 3, 1, 4, 2, 4, 4, 0, 1, 1, 1, 1, 2, 0, 2, 2, 1, 2, 0, 2, 1, 1, 3, 2, 1, 1, 2, 2, 2, 1, 1, 1, 1, 2, 1, 0, 1, 1, 1, 2, 2, 1] : List Nat).getD mi 0
def q_mL (mi : Nat) : Nat := ([5, 1, 2, 2, 2, 2, 2, 2, 3, 6, 5, 4, 4, 4, 2, 3, 4, 5, 6, 6, 3, 5, 4, 6, 5, 13, 8, 5, 1, 2, 2, 2, 2, 3, 3, 2, 5, 5, 4, 3, 5, 5, 5, 8, 4, 6, 3, 6, 5, 2, 2, 3, 4, 2, 3, 2, 2, 7, 2, 2, 7, 6, 1, 2, 4, 6, 2, 1, 1, 4, 2, 3, 3, 1, 6, 5, 5, 2, 4, 2, 2, 4, 8, 7, 3, 3, 2, 1, 7, 8, 7, 4, 1, 6, 3, 6, 5, 5, 3, 2, 2, 2, 3, 5, 3, 3, 5, 3, 1, 5, 4, 4, 6, 4, 4, 2, 5, 3, 3, 3, 5, 4, 2, 4, 10, 3, 4, 3, 6, 6, 5, 2] : List Nat).getD mi 0
def q_mR (mi : Nat) : Nat := ([1, 1, 3, 1, 1, 1, 1, 2, 0, 1, 0, 0, 0, 0, 1, 1, 1, 1, 1, 1, 1, 1, 1, 1, 1, 0, 1, 0, 1, 3, 1, 1, 3, 1, 1, 0, 0, 0, 0, 2, 2, 1, 1, 3, 3, 1, 3, 1, 3, 1, 1, 1, 1, 1, 1, 2, 1, 1, 1, 1, 1, 1, 1, 1, 1, 1, 3, 3, 3, 3, 3, 3, 1, 2, 3, 2, 0, 0, 1, 1, 1, 1, 1, 1, 1, 3, 3, 3, 1, 3, 3, 3, 3, 1, 3, 1, 3, 0, 1, 1, 1, 1, 1, 0, 3, 1, 2, 3, 3, 1, 1, 1, 1, 1, 1, 1, 1, 1, 1, 1, 1, 1, 1, 1, 1, 1, 1, 1, 1, 1, 3, 1] : List Nat).getD mi 0
def q_pcs : List (Nat × Instr × Nat) → Nat → Option (Instr × Nat)
  | [], _ => none
  | q :: l, pc => bif Nat.beq q.1 pc then some q.2 else q_pcs l pc
def q_t_X0_add : List (Nat × Instr × Nat) := [(0, .aload_n 0, 1), (1, .getfield 9, 3), (4, .aload_n 0, 1), (5, .getfield 15, 3), (8, .arraylength, 1), (9, .if_icmp .lt 5, 3), (12, .iconst (-1), 1), (13, .ireturn, 1), (14, .aload_n 0, 1), (15, .getfield 15, 3), (18, .aload_n 0, 1), (19, .getfield 9, 3), (22, .iload_n 1, 1), (23, .iastore, 1), (24, .aload_n 0, 1), (25, .getfield 19, 3), (28, .aload_n 0, 1), (29, .getfield 9, 3), (32, .iload_n 2, 1), (33, .iastore, 1), (34, .aload_n 0, 1), (35, .getfield 22, 3), (38, .aload_n 0, 1), (39, .getfield 9, 3), (42, .iload_n 3, 1), (43, .iastore, 1), (44, .aload_n 0, 1), (45, .getfield 25, 3), (48, .aload_n 0, 1), (49, .getfield 9, 3), (52, .iload 4, 2), (54, .iastore, 1), (55, .aload_n 0, 1), (56, .dup, 1), (57, .getfield 9, 3), (60, .iconst 1, 1), (61, .iadd, 1), (62, .putfield 9, 3), (65, .aload_n 0, 1), (66, .getfield 9, 3), (69, .iconst 1, 1), (70, .isub, 1), (71, .ireturn, 1)]
def q_t_X0_size : List (Nat × Instr × Nat) := [(0, .aload_n 0, 1), (1, .getfield 9, 3), (4, .ireturn, 1)]
def q_t_X0_has : List (Nat × Instr × Nat) := [(0, .iload_n 1, 1), (1, .ifCond .lt 15, 3), (4, .iload_n 1, 1), (5, .aload_n 0, 1), (6, .getfield 9, 3), (9, .if_icmp .ge 7, 3), (12, .iconst 1, 1), (13, .goto 4, 3), (16, .iconst 0, 1), (17, .ireturn, 1)]
def q_t_X0_programOf : List (Nat × Instr × Nat) := [(0, .aload_n 0, 1), (1, .getfield 15, 3), (4, .iload_n 1, 1), (5, .iaload, 1), (6, .ireturn, 1)]
def q_t_X0_partOf : List (Nat × Instr × Nat) := [(0, .aload_n 0, 1), (1, .getfield 19, 3), (4, .iload_n 1, 1), (5, .iaload, 1), (6, .ireturn, 1)]
def q_t_X0_fromOf : List (Nat × Instr × Nat) := [(0, .aload_n 0, 1), (1, .getfield 22, 3), (4, .iload_n 1, 1), (5, .iaload, 1), (6, .ireturn, 1)]
def q_t_X0_toOf : List (Nat × Instr × Nat) := [(0, .aload_n 0, 1), (1, .getfield 25, 3), (4, .iload_n 1, 1), (5, .iaload, 1), (6, .ireturn, 1)]
def q_t_X0_ticksOf : List (Nat × Instr × Nat) := [(0, .aload_n 0, 1), (1, .getfield 25, 3), (4, .iload_n 1, 1), (5, .iaload, 1), (6, .invokestatic 28, 3), (9, .aload_n 0, 1), (10, .getfield 22, 3), (13, .iload_n 1, 1), (14, .iaload, 1), (15, .invokestatic 28, 3), (18, .ldc2_w 32, 3), (21, .lxor, 1), (22, .land, 1), (23, .lreturn, 1)]
def q_t_X0_endAhead : List (Nat × Instr × Nat) := [(0, .aload_n 0, 1), (1, .getfield 25, 3), (4, .iload_n 1, 1), (5, .iload_n 2, 1), (6, .iastore, 1), (7, .return_, 1)]
def q_t_X0_firstEndWithNone : List (Nat × Instr × Nat) := [(0, .iconst (-1), 1), (1, .istore_n 3, 1), (2, .iconst 0, 1), (3, .istore 4, 2), (5, .iload 4, 2), (7, .aload_n 0, 1), (8, .getfield 9, 3), (11, .if_icmp .ge 58, 3), (14, .aload_n 0, 1), (15, .iload 4, 2), (17, .invokevirtual 34, 3), (20, .lload_n 1, 1), (21, .land, 1), (22, .lconst 0, 1), (23, .lcmp, 1), (24, .ifCond .ne 7, 3), (27, .iconst 1, 1), (28, .goto 4, 3), (31, .iconst 0, 1), (32, .istore 5, 2), (34, .iload 5, 2), (36, .ifCond .eq 27, 3), (39, .iload_n 3, 1), (40, .iconst (-1), 1), (41, .if_icmp .eq 14, 3), (44, .aload_n 0, 1), (45, .getfield 25, 3), (48, .iload 4, 2), (50, .iaload, 1), (51, .iload_n 3, 1), (52, .if_icmp .ge 11, 3), (55, .aload_n 0, 1), (56, .getfield 25, 3), (59, .iload 4, 2), (61, .iaload, 1), (62, .istore_n 3, 1), (63, .iinc 4 1, 3), (66, .goto (-61), 3), (69, .iload_n 3, 1), (70, .ireturn, 1)]
def q_t_X1_setDrains : List (Nat × Instr × Nat) := [(0, .aload_n 0, 1), (1, .getfield 9, 3), (4, .iconst 0, 1), (5, .iload_n 1, 1), (6, .iastore, 1), (7, .aload_n 0, 1), (8, .getfield 9, 3), (11, .iconst 1, 1), (12, .iload_n 2, 1), (13, .iastore, 1), (14, .aload_n 0, 1), (15, .getfield 9, 3), (18, .iconst 2, 1), (19, .iload_n 3, 1), (20, .iastore, 1), (21, .aload_n 0, 1), (22, .getfield 9, 3), (25, .iconst 3, 1), (26, .iload 4, 2), (28, .iastore, 1), (29, .return_, 1)]
def q_t_X1_setCosts : List (Nat × Instr × Nat) := [(0, .aload_n 0, 1), (1, .getfield 15, 3), (4, .iconst 1, 1), (5, .iload_n 1, 1), (6, .iastore, 1), (7, .aload_n 0, 1), (8, .getfield 15, 3), (11, .iconst 2, 1), (12, .iload_n 2, 1), (13, .iastore, 1), (14, .aload_n 0, 1), (15, .getfield 15, 3), (18, .iconst 3, 1), (19, .iload_n 3, 1), (20, .iastore, 1), (21, .return_, 1)]
def q_t_X1_setRising : List (Nat × Instr × Nat) := [(0, .aload_n 0, 1), (1, .getfield 18, 3), (4, .iconst 1, 1), (5, .iload_n 1, 1), (6, .iastore, 1), (7, .aload_n 0, 1), (8, .getfield 18, 3), (11, .iconst 2, 1), (12, .iload_n 2, 1), (13, .iastore, 1), (14, .aload_n 0, 1), (15, .getfield 18, 3), (18, .iconst 3, 1), (19, .iload_n 3, 1), (20, .iastore, 1), (21, .return_, 1)]
def q_t_X1_setThresholds : List (Nat × Instr × Nat) := [(0, .aload_n 0, 1), (1, .getfield 21, 3), (4, .iconst 1, 1), (5, .iload_n 1, 1), (6, .iastore, 1), (7, .aload_n 0, 1), (8, .getfield 21, 3), (11, .iconst 2, 1), (12, .iload_n 2, 1), (13, .iastore, 1), (14, .aload_n 0, 1), (15, .getfield 21, 3), (18, .iconst 3, 1), (19, .iload_n 3, 1), (20, .iastore, 1), (21, .return_, 1)]
def q_t_X1_drainIn : List (Nat × Instr × Nat) := [(0, .aload_n 0, 1), (1, .getfield 9, 3), (4, .iload_n 1, 1), (5, .iaload, 1), (6, .ireturn, 1)]
def q_t_X1_drainAwake : List (Nat × Instr × Nat) := [(0, .lload_n 1, 1), (1, .invokestatic 24, 3), (4, .aload_n 0, 1), (5, .getfield 9, 3), (8, .iconst 0, 1), (9, .iaload, 1), (10, .imul, 1), (11, .ireturn, 1)]
def q_t_X1_restIn : List (Nat × Instr × Nat) := [(0, .iload_n 3, 1), (1, .ifCond .eq 7, 3), (4, .iload_n 2, 1), (5, .goto 11, 3), (8, .iload_n 2, 1), (9, .aload_n 0, 1), (10, .getfield 18, 3), (13, .iload_n 1, 1), (14, .iaload, 1), (15, .isub, 1), (16, .ireturn, 1)]
def q_t_X1_sumIn : List (Nat × Instr × Nat) := [(0, .aload_n 0, 1), (1, .iload_n 1, 1), (2, .iload_n 2, 1), (3, .iload_n 3, 1), (4, .invokevirtual 30, 3), (7, .istore 4, 2), (9, .iload 4, 2), (11, .aload_n 0, 1), (12, .getfield 9, 3), (15, .iload_n 1, 1), (16, .iaload, 1), (17, .imul, 1), (18, .iload_n 2, 1), (19, .iload 4, 2), (21, .isub, 1), (22, .aload_n 0, 1), (23, .getfield 9, 3), (26, .iconst 0, 1), (27, .iaload, 1), (28, .imul, 1), (29, .iadd, 1), (30, .iload_n 3, 1), (31, .ifCond .eq 7, 3), (34, .iconst 0, 1), (35, .goto 9, 3), (38, .aload_n 0, 1), (39, .getfield 15, 3), (42, .iload_n 1, 1), (43, .iaload, 1), (44, .iadd, 1), (45, .ireturn, 1)]
def q_t_X1_bestState : List (Nat × Instr × Nat) := [(0, .iconst 0, 1), (1, .istore_n 3, 1), (2, .iconst 1, 1), (3, .istore 4, 2), (5, .iload 4, 2), (7, .iconst 4, 1), (8, .if_icmp .ge 53, 3), (11, .aload_n 0, 1), (12, .iload 4, 2), (14, .iload_n 1, 1), (15, .iload_n 2, 1), (16, .invokevirtual 30, 3), (19, .ifCond .lt 7, 3), (22, .iconst 1, 1), (23, .goto 4, 3), (26, .iconst 0, 1), (27, .istore 5, 2), (29, .iload 5, 2), (31, .ifCond .eq 24, 3), (34, .aload_n 0, 1), (35, .iload 4, 2), (37, .iload_n 1, 1), (38, .iload_n 2, 1), (39, .invokevirtual 34, 3), (42, .aload_n 0, 1), (43, .iload_n 3, 1), (44, .iload_n 1, 1), (45, .iload_n 2, 1), (46, .invokevirtual 34, 3), (49, .if_icmp .ge 6, 3), (52, .iload 4, 2), (54, .istore_n 3, 1), (55, .iinc 4 1, 3), (58, .goto (-53), 3), (61, .iload_n 3, 1), (62, .ireturn, 1)]
def q_t_X1_planned : List (Nat × Instr × Nat) := [(0, .iconst 0, 1), (1, .istore_n 2, 1), (2, .iconst 0, 1), (3, .istore_n 3, 1), (4, .iload_n 3, 1), (5, .aload_n 1, 1), (6, .invokevirtual 37, 3), (9, .if_icmp .ge 42, 3), (12, .aload_n 1, 1), (13, .iload_n 3, 1), (14, .invokevirtual 43, 3), (17, .istore 4, 2), (19, .aload_n 1, 1), (20, .iload_n 3, 1), (21, .invokevirtual 47, 3), (24, .istore 5, 2), (26, .iload_n 2, 1), (27, .aload_n 0, 1), (28, .aload_n 0, 1), (29, .iload 4, 2), (31, .iload 5, 2), (33, .invokevirtual 51, 3), (36, .iload 4, 2), (38, .iload 5, 2), (40, .invokevirtual 34, 3), (43, .iadd, 1), (44, .istore_n 2, 1), (45, .iinc 3 1, 3), (48, .goto (-44), 3), (51, .iload_n 2, 1), (52, .ireturn, 1)]
def q_t_X1_stateByRule : List (Nat × Instr × Nat) := [(0, .iconst 3, 1), (1, .istore_n 2, 1), (2, .iload_n 2, 1), (3, .ifCond .le 21, 3), (6, .iload_n 1, 1), (7, .aload_n 0, 1), (8, .getfield 21, 3), (11, .iload_n 2, 1), (12, .iaload, 1), (13, .if_icmp .lt 5, 3), (16, .iload_n 2, 1), (17, .ireturn, 1), (18, .iinc 2 (-1), 3), (21, .goto (-19), 3), (24, .iconst 0, 1), (25, .ireturn, 1)]
def q_t_X1_restByRule : List (Nat × Instr × Nat) := [(0, .iload_n 2, 1), (1, .ifCond .eq 5, 3), (4, .iload_n 1, 1), (5, .ireturn, 1), (6, .iconst 3, 1), (7, .istore_n 3, 1), (8, .iload_n 3, 1), (9, .ifCond .le 74, 3), (12, .iload_n 1, 1), (13, .aload_n 0, 1), (14, .getfield 18, 3), (17, .iload_n 3, 1), (18, .iaload, 1), (19, .isub, 1), (20, .istore 4, 2), (22, .iload 4, 2), (24, .aload_n 0, 1), (25, .getfield 21, 3), (28, .iload_n 3, 1), (29, .iaload, 1), (30, .if_icmp .le 47, 3), (33, .aload_n 0, 1), (34, .getfield 21, 3), (37, .iload_n 3, 1), (38, .iconst 1, 1), (39, .iadd, 1), (40, .iaload, 1), (41, .aload_n 0, 1), (42, .getfield 21, 3), (45, .iload_n 3, 1), (46, .iaload, 1), (47, .if_icmp .le 30, 3), (50, .iload 4, 2), (52, .aload_n 0, 1), (53, .getfield 21, 3), (56, .iload_n 3, 1), (57, .iconst 1, 1), (58, .iadd, 1), (59, .iaload, 1), (60, .if_icmp .ge 8, 3), (63, .iload 4, 2), (65, .goto 11, 3), (68, .aload_n 0, 1), (69, .getfield 21, 3), (72, .iload_n 3, 1), (73, .iconst 1, 1), (74, .iadd, 1), (75, .iaload, 1), (76, .ireturn, 1), (77, .iinc 3 (-1), 3), (80, .goto (-72), 3), (83, .iload_n 1, 1), (84, .aload_n 0, 1), (85, .getfield 21, 3), (88, .iconst 1, 1), (89, .iaload, 1), (90, .if_icmp .ge 7, 3), (93, .iload_n 1, 1), (94, .goto 9, 3), (97, .aload_n 0, 1), (98, .getfield 21, 3), (101, .iconst 1, 1), (102, .iaload, 1), (103, .ireturn, 1)]
def q_t_X1_sumByRule : List (Nat × Instr × Nat) := [(0, .iconst 0, 1), (1, .istore_n 2, 1), (2, .iconst 0, 1), (3, .istore_n 3, 1), (4, .iload_n 3, 1), (5, .aload_n 1, 1), (6, .invokevirtual 37, 3), (9, .if_icmp .ge 26, 3), (12, .iload_n 2, 1), (13, .aload_n 0, 1), (14, .aload_n 1, 1), (15, .iload_n 3, 1), (16, .invokevirtual 43, 3), (19, .aload_n 1, 1), (20, .iload_n 3, 1), (21, .invokevirtual 47, 3), (24, .invokevirtual 55, 3), (27, .iadd, 1), (28, .istore_n 2, 1), (29, .iinc 3 1, 3), (32, .goto (-28), 3), (35, .iload_n 2, 1), (36, .ireturn, 1)]
def q_t_X1_spanByRule : List (Nat × Instr × Nat) := [(0, .aload_n 0, 1), (1, .iload_n 1, 1), (2, .iload_n 2, 1), (3, .invokevirtual 58, 3), (6, .istore_n 3, 1), (7, .iload_n 1, 1), (8, .iload_n 3, 1), (9, .isub, 1), (10, .aload_n 0, 1), (11, .getfield 9, 3), (14, .iconst 0, 1), (15, .iaload, 1), (16, .imul, 1), (17, .istore 4, 2), (19, .iconst 0, 1), (20, .istore 5, 2), (22, .iload 5, 2), (24, .iconst 4, 1), (25, .if_icmp .ge 47, 3), (28, .iload 4, 2), (30, .aload_n 0, 1), (31, .getfield 9, 3), (34, .iload 5, 2), (36, .iaload, 1), (37, .aload_n 0, 1), (38, .getfield 21, 3), (41, .iload 5, 2), (43, .iconst 1, 1), (44, .iadd, 1), (45, .iaload, 1), (46, .iload_n 3, 1), (47, .invokestatic 61, 3), (50, .aload_n 0, 1), (51, .getfield 21, 3), (54, .iload 5, 2), (56, .iaload, 1), (57, .iload_n 3, 1), (58, .invokestatic 61, 3), (61, .isub, 1), (62, .imul, 1), (63, .iadd, 1), (64, .istore 4, 2), (66, .iinc 5 1, 3), (69, .goto (-47), 3), (72, .iload_n 2, 1), (73, .ifCond .eq 8, 3), (76, .iload 4, 2), (78, .goto 18, 3), (81, .iload 4, 2), (83, .aload_n 0, 1), (84, .getfield 15, 3), (87, .aload_n 0, 1), (88, .iload_n 3, 1), (89, .iconst 1, 1), (90, .isub, 1), (91, .invokevirtual 67, 3), (94, .iaload, 1), (95, .iadd, 1), (96, .ireturn, 1)]
def q_t_X1_sumOfTry : List (Nat × Instr × Nat) := [(0, .aload_n 0, 1), (1, .iload_n 2, 1), (2, .iload_n 3, 1), (3, .iload 4, 2), (5, .invokevirtual 70, 3), (8, .aload_n 0, 1), (9, .aload_n 1, 1), (10, .invokevirtual 74, 3), (13, .ireturn, 1)]
def q_t_X1_takeBestThresholds : List (Nat × Instr × Nat) := [(0, .aload_n 1, 1), (1, .invokevirtual 78, 3), (4, .istore_n 2, 1), (5, .iconst 0, 1), (6, .istore_n 3, 1), (7, .iconst 0, 1), (8, .istore 4, 2), (10, .iconst 0, 1), (11, .istore 5, 2), (13, .aload_n 0, 1), (14, .aload_n 1, 1), (15, .iconst 0, 1), (16, .iconst 0, 1), (17, .iconst 0, 1), (18, .invokevirtual 81, 3), (21, .istore 6, 2), (23, .iconst 0, 1), (24, .istore 7, 2), (26, .iload 7, 2), (28, .iload_n 2, 1), (29, .if_icmp .gt 117, 3), (32, .aload_n 0, 1), (33, .aload_n 1, 1), (34, .iload 7, 2), (36, .iload_n 2, 1), (37, .invokevirtual 85, 3), (40, .istore 8, 2), (42, .iconst 0, 1), (43, .istore 9, 2), (45, .iload 9, 2), (47, .iload 7, 2), (49, .if_icmp .gt 91, 3), (52, .aload_n 0, 1), (53, .aload_n 1, 1), (54, .iload 9, 2), (56, .iload 7, 2), (58, .iload 7, 2), (60, .invokevirtual 81, 3), (63, .istore 10, 2), (65, .aload_n 0, 1), (66, .aload_n 1, 1), (67, .iload 9, 2), (69, .iload 7, 2), (71, .iload 8, 2), (73, .invokevirtual 81, 3), (76, .istore 11, 2), (78, .iload 10, 2), (80, .iload 11, 2), (82, .invokestatic 61, 3), (85, .istore 12, 2), (87, .iload 12, 2), (89, .iload 6, 2), (91, .if_icmp .lt 16, 3), (94, .iload 12, 2), (96, .iload 6, 2), (98, .if_icmp .ne 36, 3), (101, .iload 9, 2), (103, .iload_n 3, 1), (104, .if_icmp .ge 30, 3), (107, .iload 12, 2), (109, .istore 6, 2), (111, .iload 9, 2), (113, .istore_n 3, 1), (114, .iload 7, 2), (116, .istore 4, 2), (118, .iload 10, 2), (120, .iload 11, 2), (122, .if_icmp .gt 8, 3), (125, .iload 7, 2), (127, .goto 5, 3), (130, .iload 8, 2), (132, .istore 5, 2), (134, .iinc 9 1, 3), (137, .goto (-92), 3), (140, .iinc 7 1, 3), (143, .goto (-117), 3), (146, .aload_n 0, 1), (147, .iload_n 3, 1), (148, .iload 4, 2), (150, .iload 5, 2), (152, .invokevirtual 70, 3), (155, .return_, 1)]
def q_t_X1_bestLaterOff : List (Nat × Instr × Nat) := [(0, .iload_n 2, 1), (1, .istore 4, 2), (3, .iconst 0, 1), (4, .istore 5, 2), (6, .iload_n 2, 1), (7, .iconst 1, 1), (8, .iadd, 1), (9, .istore 6, 2), (11, .iload 6, 2), (13, .iload_n 3, 1), (14, .if_icmp .gt 41, 3), (17, .aload_n 0, 1), (18, .aload_n 1, 1), (19, .iconst 0, 1), (20, .iload_n 2, 1), (21, .iload 6, 2), (23, .invokevirtual 81, 3), (26, .istore 7, 2), (28, .iload 4, 2), (30, .iload_n 2, 1), (31, .if_icmp .eq 10, 3), (34, .iload 7, 2), (36, .iload 5, 2), (38, .if_icmp .ge 11, 3), (41, .iload 6, 2), (43, .istore 4, 2), (45, .iload 7, 2), (47, .istore 5, 2), (49, .iinc 6 1, 3), (52, .goto (-41), 3), (55, .iload 4, 2), (57, .ireturn, 1)]
def q_t_X2_layOut : List (Nat × Instr × Nat) := [(0, .aload_n 0, 1), (1, .iconst 0, 1), (2, .putfield 18, 3), (5, .iconst 0, 1), (6, .istore_n 3, 1), (7, .iconst 0, 1), (8, .istore 4, 2), (10, .iload 4, 2), (12, .bipush 64, 2), (14, .if_icmp .ge 68, 3), (17, .lload_n 1, 1), (18, .iload 4, 2), (20, .invokestatic 22, 3), (23, .ifCond .eq 7, 3), (26, .iconst 0, 1), (27, .goto 6, 3), (30, .iload_n 3, 1), (31, .iconst 1, 1), (32, .iadd, 1), (33, .istore_n 3, 1), (34, .iload_n 3, 1), (35, .iconst 1, 1), (36, .if_icmp .ne 24, 3), (39, .aload_n 0, 1), (40, .getfield 9, 3), (43, .aload_n 0, 1), (44, .getfield 18, 3), (47, .iload 4, 2), (49, .iastore, 1), (50, .aload_n 0, 1), (51, .dup, 1), (52, .getfield 18, 3), (55, .iconst 1, 1), (56, .iadd, 1), (57, .putfield 18, 3), (60, .iload_n 3, 1), (61, .ifCond .le 15, 3), (64, .aload_n 0, 1), (65, .getfield 15, 3), (68, .aload_n 0, 1), (69, .getfield 18, 3), (72, .iconst 1, 1), (73, .isub, 1), (74, .iload_n 3, 1), (75, .iastore, 1), (76, .iinc 4 1, 3), (79, .goto (-69), 3), (82, .return_, 1)]
def q_t_X2_size : List (Nat × Instr × Nat) := [(0, .aload_n 0, 1), (1, .getfield 18, 3), (4, .ireturn, 1)]
def q_t_X2_has : List (Nat × Instr × Nat) := [(0, .iload_n 1, 1), (1, .ifCond .lt 15, 3), (4, .iload_n 1, 1), (5, .aload_n 0, 1), (6, .getfield 18, 3), (9, .if_icmp .ge 7, 3), (12, .iconst 1, 1), (13, .goto 4, 3), (16, .iconst 0, 1), (17, .ireturn, 1)]
def q_t_X2_firstOf : List (Nat × Instr × Nat) := [(0, .aload_n 0, 1), (1, .getfield 9, 3), (4, .iload_n 1, 1), (5, .iaload, 1), (6, .ireturn, 1)]
def q_t_X2_lenOf : List (Nat × Instr × Nat) := [(0, .aload_n 0, 1), (1, .getfield 15, 3), (4, .iload_n 1, 1), (5, .iaload, 1), (6, .ireturn, 1)]
def q_t_X2_endsAll : List (Nat × Instr × Nat) := [(0, .aload_n 0, 1), (1, .getfield 9, 3), (4, .iload_n 1, 1), (5, .iaload, 1), (6, .aload_n 0, 1), (7, .getfield 15, 3), (10, .iload_n 1, 1), (11, .iaload, 1), (12, .iadd, 1), (13, .bipush 64, 2), (15, .if_icmp .ne 7, 3), (18, .iconst 1, 1), (19, .goto 4, 3), (22, .iconst 0, 1), (23, .ireturn, 1)]
def q_t_X2_find : List (Nat × Instr × Nat) := [(0, .iconst 0, 1), (1, .istore_n 2, 1), (2, .iload_n 2, 1), (3, .aload_n 0, 1), (4, .getfield 18, 3), (7, .if_icmp .ge 38, 3), (10, .iload_n 1, 1), (11, .aload_n 0, 1), (12, .getfield 9, 3), (15, .iload_n 2, 1), (16, .iaload, 1), (17, .if_icmp .lt 22, 3), (20, .iload_n 1, 1), (21, .aload_n 0, 1), (22, .getfield 9, 3), (25, .iload_n 2, 1), (26, .iaload, 1), (27, .aload_n 0, 1), (28, .getfield 15, 3), (31, .iload_n 2, 1), (32, .iaload, 1), (33, .iadd, 1), (34, .if_icmp .ge 5, 3), (37, .iload_n 2, 1), (38, .ireturn, 1), (39, .iinc 2 1, 3), (42, .goto (-40), 3), (45, .iconst (-1), 1), (46, .ireturn, 1)]
def q_t_X2_longest : List (Nat × Instr × Nat) := [(0, .iconst 0, 1), (1, .istore_n 1, 1), (2, .iconst 0, 1), (3, .istore_n 2, 1), (4, .iload_n 2, 1), (5, .aload_n 0, 1), (6, .getfield 18, 3), (9, .if_icmp .ge 20, 3), (12, .iload_n 1, 1), (13, .aload_n 0, 1), (14, .getfield 15, 3), (17, .iload_n 2, 1), (18, .iaload, 1), (19, .invokestatic 26, 3), (22, .istore_n 1, 1), (23, .iinc 2 1, 3), (26, .goto (-22), 3), (29, .iload_n 1, 1), (30, .ireturn, 1)]
def q_t_X3_clear : List (Nat × Instr × Nat) := [(0, .iconst 0, 1), (1, .istore_n 1, 1), (2, .iload_n 1, 1), (3, .aload_n 0, 1), (4, .getfield 9, 3), (7, .arraylength, 1), (8, .if_icmp .ge 16, 3), (11, .aload_n 0, 1), (12, .getfield 9, 3), (15, .iload_n 1, 1), (16, .lconst 0, 1), (17, .lastore, 1), (18, .iinc 1 1, 3), (21, .goto (-19), 3), (24, .return_, 1)]
def q_t_X3_add : List (Nat × Instr × Nat) := [(0, .aload_n 0, 1), (1, .getfield 9, 3), (4, .iload_n 2, 1), (5, .bipush 8, 2), (7, .imul, 1), (8, .iload_n 1, 1), (9, .iadd, 1), (10, .dup2, 1), (11, .laload, 1), (12, .lload_n 3, 1), (13, .lor, 1), (14, .lastore, 1), (15, .return_, 1)]
def q_t_X3_spread : List (Nat × Instr × Nat) := [(0, .iconst 1, 1), (1, .istore_n 2, 1), (2, .iload_n 2, 1), (3, .bipush 6, 2), (5, .if_icmp .ge 57, 3), (8, .iconst 0, 1), (9, .istore_n 3, 1), (10, .iload_n 3, 1), (11, .bipush 6, 2), (13, .if_icmp .ge 43, 3), (16, .iconst 0, 1), (17, .istore 4, 2), (19, .iload 4, 2), (21, .bipush 6, 2), (23, .if_icmp .ge 27, 3), (26, .aload_n 1, 1), (27, .iload_n 3, 1), (28, .iaload, 1), (29, .iload 4, 2), (31, .invokestatic 15, 3), (34, .ifCond .eq 10, 3), (37, .aload_n 0, 1), (38, .iload_n 3, 1), (39, .iload 4, 2), (41, .invokevirtual 19, 3), (44, .iinc 4 1, 3), (47, .goto (-28), 3), (50, .iinc 3 1, 3), (53, .goto (-43), 3), (56, .iinc 2 1, 3), (59, .goto (-57), 3), (62, .return_, 1)]
def q_t_X3_addAll : List (Nat × Instr × Nat) := [(0, .iconst 0, 1), (1, .istore_n 3, 1), (2, .iload_n 3, 1), (3, .bipush 8, 2), (5, .if_icmp .ge 21, 3), (8, .aload_n 0, 1), (9, .iload_n 3, 1), (10, .iload_n 2, 1), (11, .aload_n 0, 1), (12, .iload_n 3, 1), (13, .iload_n 1, 1), (14, .invokevirtual 23, 3), (17, .invokevirtual 27, 3), (20, .iinc 3 1, 3), (23, .goto (-21), 3), (26, .return_, 1)]
def q_t_X3_ticksBy : List (Nat × Instr × Nat) := [(0, .aload_n 0, 1), (1, .getfield 9, 3), (4, .iload_n 2, 1), (5, .bipush 8, 2), (7, .imul, 1), (8, .iload_n 1, 1), (9, .iadd, 1), (10, .laload, 1), (11, .lreturn, 1)]
def q_t_X3_ticksOf : List (Nat × Instr × Nat) := [(0, .lconst 0, 1), (1, .lstore_n 2, 1), (2, .iconst 0, 1), (3, .istore 4, 2), (5, .iload 4, 2), (7, .bipush 8, 2), (9, .if_icmp .ge 19, 3), (12, .lload_n 2, 1), (13, .aload_n 0, 1), (14, .iload 4, 2), (16, .iload_n 1, 1), (17, .invokevirtual 23, 3), (20, .lor, 1), (21, .lstore_n 2, 1), (22, .iinc 4 1, 3), (25, .goto (-20), 3), (28, .lload_n 2, 1), (29, .lreturn, 1)]
def q_t_X3_programsAt : List (Nat × Instr × Nat) := [(0, .iconst 0, 1), (1, .istore_n 3, 1), (2, .iconst 0, 1), (3, .istore 4, 2), (5, .iload 4, 2), (7, .bipush 8, 2), (9, .if_icmp .ge 26, 3), (12, .aload_n 0, 1), (13, .iload 4, 2), (15, .iload_n 1, 1), (16, .invokevirtual 23, 3), (19, .iload_n 2, 1), (20, .invokestatic 31, 3), (23, .ifCond .eq 6, 3), (26, .iinc 3 1, 3), (29, .iinc 4 1, 3), (32, .goto (-27), 3), (35, .iload_n 3, 1), (36, .ireturn, 1)]
def q_t_X4_part : List (Nat × Instr × Nat) := [(0, .aload_n 0, 1), (1, .getfield 15, 3), (4, .bipush 6, 2), (6, .if_icmp .ge 26, 3), (9, .iload 4, 2), (11, .iload_n 3, 1), (12, .iload_n 2, 1), (13, .bipush 99, 2), (15, .invokestatic 57, 3), (18, .ifCond .eq 14, 3), (21, .iload_n 1, 1), (22, .iload_n 2, 1), (23, .if_icmp .lt 9, 3), (26, .iload_n 1, 1), (27, .bipush 99, 2), (29, .if_icmp .le 5, 3), (32, .iconst (-1), 1), (33, .ireturn, 1), (34, .aload_n 0, 1), (35, .getfield 11, 3), (38, .aload_n 0, 1), (39, .getfield 15, 3), (42, .aaload, 1), (43, .iload_n 1, 1), (44, .iload_n 2, 1), (45, .iload_n 3, 1), (46, .iload 4, 2), (48, .invokevirtual 61, 3), (51, .aload_n 0, 1), (52, .dup, 1), (53, .getfield 15, 3), (56, .iconst 1, 1), (57, .iadd, 1), (58, .putfield 15, 3), (61, .aload_n 0, 1), (62, .getfield 15, 3), (65, .iconst 1, 1), (66, .isub, 1), (67, .ireturn, 1)]
def q_t_X4_rise : List (Nat × Instr × Nat) := [(0, .aload_n 0, 1), (1, .iload_n 1, 1), (2, .invokevirtual 65, 3), (5, .ifCond .eq 30, 3), (8, .iload_n 2, 1), (9, .iload_n 3, 1), (10, .iload 4, 2), (12, .sipush 999, 3), (15, .invokestatic 57, 3), (18, .ifCond .eq 17, 3), (21, .iload 5, 2), (23, .iload 6, 2), (25, .iload 7, 2), (27, .bipush 9, 2), (29, .invokestatic 57, 3), (32, .ifCond .ne 5, 3), (35, .iconst 0, 1), (36, .ireturn, 1), (37, .aload_n 0, 1), (38, .getfield 11, 3), (41, .iload_n 1, 1), (42, .aaload, 1), (43, .iload_n 2, 1), (44, .iload_n 3, 1), (45, .iload 4, 2), (47, .invokevirtual 69, 3), (50, .aload_n 0, 1), (51, .getfield 11, 3), (54, .iload_n 1, 1), (55, .aaload, 1), (56, .iload 5, 2), (58, .iload 6, 2), (60, .iload 7, 2), (62, .invokevirtual 73, 3), (65, .iconst 1, 1), (66, .ireturn, 1)]
def q_t_X4_need : List (Nat × Instr × Nat) := [(0, .aload_n 0, 1), (1, .iload_n 1, 1), (2, .invokevirtual 65, 3), (5, .ifCond .eq 25, 3), (8, .aload_n 0, 1), (9, .iload_n 2, 1), (10, .invokevirtual 65, 3), (13, .ifCond .eq 17, 3), (16, .aload_n 0, 1), (17, .getfield 19, 3), (20, .iload_n 1, 1), (21, .iaload, 1), (22, .iload_n 2, 1), (23, .invokestatic 76, 3), (26, .iload_n 3, 1), (27, .if_icmp .ne 5, 3), (30, .iconst 0, 1), (31, .ireturn, 1), (32, .iload_n 3, 1), (33, .ifCond .eq 14, 3), (36, .aload_n 0, 1), (37, .iload_n 2, 1), (38, .iload_n 1, 1), (39, .invokevirtual 80, 3), (42, .ifCond .eq 5, 3), (45, .iconst 0, 1), (46, .ireturn, 1), (47, .aload_n 0, 1), (48, .getfield 19, 3), (51, .iload_n 1, 1), (52, .dup2, 1), (53, .iaload, 1), (54, .iconst 1, 1), (55, .iload_n 2, 1), (56, .ishl, 1), (57, .ixor, 1), (58, .iastore, 1), (59, .aload_n 0, 1), (60, .aload_n 0, 1), (61, .getfield 42, 3), (64, .iconst (-1), 1), (65, .invokevirtual 83, 3), (68, .iconst 1, 1), (69, .ireturn, 1)]
def q_t_X4_hold : List (Nat × Instr × Nat) := [(0, .iload_n 1, 1), (1, .invokestatic 87, 3), (4, .ifCond .eq 28, 3), (7, .aload_n 0, 1), (8, .iload_n 2, 1), (9, .invokevirtual 65, 3), (12, .ifCond .eq 20, 3), (15, .iload_n 3, 1), (16, .ifCond .lt 16, 3), (19, .iload_n 3, 1), (20, .iload 4, 2), (22, .if_icmp .ge 10, 3), (25, .iload 4, 2), (27, .bipush 64, 2), (29, .if_icmp .le 5, 3), (32, .iconst (-1), 1), (33, .ireturn, 1), (34, .aload_n 0, 1), (35, .getfield 28, 3), (38, .iload_n 1, 1), (39, .iload_n 2, 1), (40, .iload_n 3, 1), (41, .iload 4, 2), (43, .invokevirtual 90, 3), (46, .istore 5, 2), (48, .aload_n 0, 1), (49, .aload_n 0, 1), (50, .getfield 42, 3), (53, .iconst (-1), 1), (54, .invokevirtual 83, 3), (57, .iload 5, 2), (59, .ireturn, 1)]
def q_t_X4_back : List (Nat × Instr × Nat) := [(0, .aload_n 0, 1), (1, .getfield 28, 3), (4, .iload_n 1, 1), (5, .invokevirtual 94, 3), (8, .ifCond .eq 27, 3), (11, .iload_n 2, 1), (12, .aload_n 0, 1), (13, .getfield 28, 3), (16, .iload_n 1, 1), (17, .invokevirtual 97, 3), (20, .if_icmp .lt 15, 3), (23, .iload_n 2, 1), (24, .aload_n 0, 1), (25, .getfield 28, 3), (28, .iload_n 1, 1), (29, .invokevirtual 101, 3), (32, .if_icmp .lt 5, 3), (35, .iconst 0, 1), (36, .ireturn, 1), (37, .aload_n 0, 1), (38, .getfield 28, 3), (41, .iload_n 1, 1), (42, .iload_n 2, 1), (43, .invokevirtual 104, 3), (46, .aload_n 0, 1), (47, .aload_n 0, 1), (48, .getfield 42, 3), (51, .iconst (-1), 1), (52, .invokevirtual 83, 3), (55, .iconst 1, 1), (56, .ireturn, 1)]
def q_t_X4_timer : List (Nat × Instr × Nat) := [(0, .iload_n 1, 1), (1, .invokestatic 87, 3), (4, .ifCond .eq 28, 3), (7, .aload_n 0, 1), (8, .iload_n 2, 1), (9, .invokevirtual 65, 3), (12, .ifCond .eq 20, 3), (15, .iload_n 3, 1), (16, .ifCond .lt 16, 3), (19, .iload_n 3, 1), (20, .iload 4, 2), (22, .if_icmp .gt 10, 3), (25, .iload 4, 2), (27, .bipush 64, 2), (29, .if_icmp .lt 5, 3), (32, .iconst (-1), 1), (33, .ireturn, 1), (34, .aload_n 0, 1), (35, .getfield 32, 3), (38, .iload_n 1, 1), (39, .iload_n 2, 1), (40, .iload_n 3, 1), (41, .iload 4, 2), (43, .iconst 1, 1), (44, .iadd, 1), (45, .invokevirtual 90, 3), (48, .istore 5, 2), (50, .aload_n 0, 1), (51, .aload_n 0, 1), (52, .invokevirtual 108, 3), (55, .putfield 35, 3), (58, .aload_n 0, 1), (59, .aload_n 0, 1), (60, .getfield 42, 3), (63, .iconst (-1), 1), (64, .invokevirtual 83, 3), (67, .iload 5, 2), (69, .ireturn, 1)]
def q_t_X4_rule : List (Nat × Instr × Nat) := [(0, .aload_n 0, 1), (1, .iload_n 1, 1), (2, .invokevirtual 65, 3), (5, .ifCond .eq 15, 3), (8, .iload_n 2, 1), (9, .iload_n 3, 1), (10, .iload 4, 2), (12, .bipush 64, 2), (14, .invokestatic 57, 3), (17, .ifCond .ne 5, 3), (20, .iconst 0, 1), (21, .ireturn, 1), (22, .aload_n 0, 1), (23, .getfield 11, 3), (26, .iload_n 1, 1), (27, .aaload, 1), (28, .iload_n 2, 1), (29, .iload_n 3, 1), (30, .iload 4, 2), (32, .invokevirtual 112, 3), (35, .iconst 1, 1), (36, .ireturn, 1)]
def q_t_X4_learn : List (Nat × Instr × Nat) := [(0, .aload_n 0, 1), (1, .iload_n 1, 1), (2, .invokevirtual 65, 3), (5, .ifCond .ne 5, 3), (8, .iconst (-1), 1), (9, .ireturn, 1), (10, .aload_n 0, 1), (11, .iload_n 1, 1), (12, .invokevirtual 115, 3), (15, .aload_n 0, 1), (16, .getfield 11, 3), (19, .iload_n 1, 1), (20, .aaload, 1), (21, .aload_n 0, 1), (22, .getfield 52, 3), (25, .invokevirtual 118, 3), (28, .aload_n 0, 1), (29, .iload_n 1, 1), (30, .invokevirtual 122, 3), (33, .ireturn, 1)]
def q_t_X4_look : List (Nat × Instr × Nat) := [(0, .iload_n 1, 1), (1, .tableswitch 60 0 3 #[31, 36, 44, 52], 31), (32, .aload_n 0, 1), (33, .getfield 15, 3), (36, .ireturn, 1), (37, .aload_n 0, 1), (38, .getfield 28, 3), (41, .invokevirtual 125, 3), (44, .ireturn, 1), (45, .aload_n 0, 1), (46, .getfield 32, 3), (49, .invokevirtual 125, 3), (52, .ireturn, 1), (53, .aload_n 0, 1), (54, .getfield 35, 3), (57, .invokestatic 129, 3), (60, .ireturn, 1), (61, .iconst (-1), 1), (62, .ireturn, 1)]
def q_t_X4_held : List (Nat × Instr × Nat) := [(0, .aload_n 0, 1), (1, .getfield 28, 3), (4, .iload_n 1, 1), (5, .invokevirtual 94, 3), (8, .ifCond .ne 5, 3), (11, .iconst (-1), 1), (12, .ireturn, 1), (13, .iload_n 2, 1), (14, .tableswitch 66 0 3 #[30, 39, 48, 57], 30), (44, .aload_n 0, 1), (45, .getfield 28, 3), (48, .iload_n 1, 1), (49, .invokevirtual 135, 3), (52, .ireturn, 1), (53, .aload_n 0, 1), (54, .getfield 28, 3), (57, .iload_n 1, 1), (58, .invokevirtual 138, 3), (61, .ireturn, 1), (62, .aload_n 0, 1), (63, .getfield 28, 3), (66, .iload_n 1, 1), (67, .invokevirtual 97, 3), (70, .ireturn, 1), (71, .aload_n 0, 1), (72, .getfield 28, 3), (75, .iload_n 1, 1), (76, .invokevirtual 101, 3), (79, .ireturn, 1), (80, .iconst (-1), 1), (81, .ireturn, 1)]
def q_t_X4_waking : List (Nat × Instr × Nat) := [(0, .iload_n 1, 1), (1, .ifCond .ge 5, 3), (4, .iconst (-1), 1), (5, .ireturn, 1), (6, .iload_n 1, 1), (7, .istore_n 2, 1), (8, .iconst 0, 1), (9, .istore_n 3, 1), (10, .iload_n 3, 1), (11, .bipush 64, 2), (13, .if_icmp .ge 29, 3), (16, .aload_n 0, 1), (17, .getfield 35, 3), (20, .iload_n 3, 1), (21, .invokestatic 141, 3), (24, .ifCond .eq 12, 3), (27, .iload_n 2, 1), (28, .ifCond .ne 5, 3), (31, .iload_n 3, 1), (32, .ireturn, 1), (33, .iinc 2 (-1), 3), (36, .iinc 3 1, 3), (39, .goto (-29), 3), (42, .iconst (-1), 1), (43, .ireturn, 1)]
def q_t_X4_fires : List (Nat × Instr × Nat) := [(0, .aload_n 0, 1), (1, .getfield 32, 3), (4, .iload_n 1, 1), (5, .invokevirtual 94, 3), (8, .ifCond .eq 22, 3), (11, .aload_n 0, 1), (12, .getfield 35, 3), (15, .aload_n 0, 1), (16, .getfield 32, 3), (19, .iload_n 1, 1), (20, .invokevirtual 145, 3), (23, .land, 1), (24, .invokestatic 149, 3), (27, .goto 4, 3), (30, .iconst (-1), 1), (31, .ireturn, 1)]
def q_t_X4_wanted : List (Nat × Instr × Nat) := [(0, .aload_n 0, 1), (1, .iload_n 1, 1), (2, .invokevirtual 65, 3), (5, .ifCond .eq 10, 3), (8, .iload_n 2, 1), (9, .invokestatic 152, 3), (12, .ifCond .ne 5, 3), (15, .iconst (-1), 1), (16, .ireturn, 1), (17, .aload_n 0, 1), (18, .getfield 42, 3), (21, .iload_n 1, 1), (22, .invokevirtual 155, 3), (25, .iload_n 2, 1), (26, .invokestatic 141, 3), (29, .ifCond .eq 7, 3), (32, .iconst 1, 1), (33, .goto 4, 3), (36, .iconst 0, 1), (37, .ireturn, 1)]
def q_t_X4_when : List (Nat × Instr × Nat) := [(0, .aload_n 0, 1), (1, .iload_n 1, 1), (2, .invokevirtual 65, 3), (5, .ifCond .eq 14, 3), (8, .aload_n 0, 1), (9, .getfield 42, 3), (12, .iload_n 1, 1), (13, .invokevirtual 155, 3), (16, .goto 4, 3), (19, .lconst 0, 1), (20, .lreturn, 1)]
def q_t_X4_spans : List (Nat × Instr × Nat) := [(0, .aload_n 0, 1), (1, .iload_n 1, 1), (2, .invokevirtual 65, 3), (5, .ifCond .ne 5, 3), (8, .iconst (-1), 1), (9, .ireturn, 1), (10, .aload_n 0, 1), (11, .iload_n 1, 1), (12, .invokevirtual 115, 3), (15, .aload_n 0, 1), (16, .getfield 52, 3), (19, .invokevirtual 156, 3), (22, .ireturn, 1)]
def q_t_X4_span : List (Nat × Instr × Nat) := [(0, .aload_n 0, 1), (1, .iload_n 1, 1), (2, .invokevirtual 65, 3), (5, .ifCond .ne 5, 3), (8, .iconst (-1), 1), (9, .ireturn, 1), (10, .aload_n 0, 1), (11, .iload_n 1, 1), (12, .invokevirtual 115, 3), (15, .aload_n 0, 1), (16, .getfield 52, 3), (19, .iload_n 2, 1), (20, .invokevirtual 157, 3), (23, .ifCond .ne 5, 3), (26, .iconst (-1), 1), (27, .ireturn, 1), (28, .aload_n 0, 1), (29, .getfield 52, 3), (32, .iload_n 2, 1), (33, .invokevirtual 158, 3), (36, .istore 4, 2), (38, .aload_n 0, 1), (39, .getfield 52, 3), (42, .iload_n 2, 1), (43, .invokevirtual 161, 3), (46, .istore 5, 2), (48, .aload_n 0, 1), (49, .getfield 11, 3), (52, .iload_n 1, 1), (53, .aaload, 1), (54, .iload 4, 2), (56, .iload 5, 2), (58, .invokevirtual 164, 3), (61, .istore 6, 2), (63, .iload_n 3, 1), (64, .tableswitch 125 0 5 #[40, 49, 52, 55, 71, 86], 40), (104, .aload_n 0, 1), (105, .getfield 52, 3), (108, .iload_n 2, 1), (109, .invokevirtual 168, 3), (112, .ireturn, 1), (113, .iload 4, 2), (115, .ireturn, 1), (116, .iload 6, 2), (118, .ireturn, 1), (119, .aload_n 0, 1), (120, .getfield 11, 3), (123, .iload_n 1, 1), (124, .aaload, 1), (125, .iload 6, 2), (127, .iload 4, 2), (129, .iload 5, 2), (131, .invokevirtual 171, 3), (134, .ireturn, 1), (135, .aload_n 0, 1), (136, .getfield 11, 3), (139, .iload_n 1, 1), (140, .aaload, 1), (141, .iconst 0, 1), (142, .iload 4, 2), (144, .iload 5, 2), (146, .invokevirtual 171, 3), (149, .ireturn, 1), (150, .iload 5, 2), (152, .ifCond .ne 8, 3), (155, .iload 6, 2), (157, .ifCond .ne 7, 3), (160, .iconst (-1), 1), (161, .goto 27, 3), (164, .aload_n 0, 1), (165, .getfield 52, 3), (168, .iload_n 2, 1), (169, .invokevirtual 168, 3), (172, .aload_n 0, 1), (173, .getfield 11, 3), (176, .iload_n 1, 1), (177, .aaload, 1), (178, .iload 6, 2), (180, .iload 4, 2), (182, .iload 5, 2), (184, .invokevirtual 175, 3), (187, .iadd, 1), (188, .ireturn, 1), (189, .iconst (-1), 1), (190, .ireturn, 1)]
def q_t_X4_drain : List (Nat × Instr × Nat) := [(0, .aload_n 0, 1), (1, .iload_n 1, 1), (2, .invokevirtual 65, 3), (5, .ifCond .eq 19, 3), (8, .aload_n 0, 1), (9, .iload_n 1, 1), (10, .aload_n 0, 1), (11, .getfield 42, 3), (14, .iload_n 1, 1), (15, .invokevirtual 155, 3), (18, .invokevirtual 178, 3), (21, .goto 4, 3), (24, .iconst (-1), 1), (25, .ireturn, 1)]
def q_t_X4_ruled : List (Nat × Instr × Nat) := [(0, .aload_n 0, 1), (1, .iload_n 1, 1), (2, .invokevirtual 65, 3), (5, .ifCond .eq 11, 3), (8, .aload_n 0, 1), (9, .iload_n 1, 1), (10, .invokevirtual 122, 3), (13, .goto 4, 3), (16, .iconst (-1), 1), (17, .ireturn, 1)]
def q_t_X4_state : List (Nat × Instr × Nat) := [(0, .aload_n 0, 1), (1, .iload_n 1, 1), (2, .invokevirtual 65, 3), (5, .ifCond .eq 10, 3), (8, .iload_n 2, 1), (9, .invokestatic 152, 3), (12, .ifCond .ne 5, 3), (15, .iconst (-1), 1), (16, .ireturn, 1), (17, .aload_n 0, 1), (18, .iload_n 1, 1), (19, .invokevirtual 115, 3), (22, .aload_n 0, 1), (23, .getfield 52, 3), (26, .iload_n 2, 1), (27, .invokevirtual 182, 3), (30, .istore_n 3, 1), (31, .iload_n 3, 1), (32, .iconst (-1), 1), (33, .if_icmp .ne 5, 3), (36, .iconst 0, 1), (37, .ireturn, 1), (38, .aload_n 0, 1), (39, .getfield 52, 3), (42, .iload_n 3, 1), (43, .invokevirtual 158, 3), (46, .istore 4, 2), (48, .aload_n 0, 1), (49, .getfield 52, 3), (52, .iload_n 3, 1), (53, .invokevirtual 161, 3), (56, .istore 5, 2), (58, .aload_n 0, 1), (59, .getfield 11, 3), (62, .iload_n 1, 1), (63, .aaload, 1), (64, .iload 4, 2), (66, .iload 5, 2), (68, .invokevirtual 164, 3), (71, .istore 6, 2), (73, .iload_n 2, 1), (74, .aload_n 0, 1), (75, .getfield 52, 3), (78, .iload_n 3, 1), (79, .invokevirtual 168, 3), (82, .isub, 1), (83, .aload_n 0, 1), (84, .getfield 11, 3), (87, .iload_n 1, 1), (88, .aaload, 1), (89, .iload 6, 2), (91, .iload 4, 2), (93, .iload 5, 2), (95, .invokevirtual 175, 3), (98, .if_icmp .ge 8, 3), (101, .iload 6, 2), (103, .goto 4, 3), (106, .iconst 0, 1), (107, .ireturn, 1)]
def q_t_X4_ruledState : List (Nat × Instr × Nat) := [(0, .aload_n 0, 1), (1, .iload_n 1, 1), (2, .invokevirtual 65, 3), (5, .ifCond .eq 10, 3), (8, .iload_n 2, 1), (9, .invokestatic 152, 3), (12, .ifCond .ne 5, 3), (15, .iconst (-1), 1), (16, .ireturn, 1), (17, .aload_n 0, 1), (18, .iload_n 1, 1), (19, .invokevirtual 115, 3), (22, .aload_n 0, 1), (23, .getfield 52, 3), (26, .iload_n 2, 1), (27, .invokevirtual 182, 3), (30, .istore_n 3, 1), (31, .iload_n 3, 1), (32, .iconst (-1), 1), (33, .if_icmp .ne 5, 3), (36, .iconst 0, 1), (37, .ireturn, 1), (38, .iload_n 2, 1), (39, .aload_n 0, 1), (40, .getfield 52, 3), (43, .iload_n 3, 1), (44, .invokevirtual 168, 3), (47, .isub, 1), (48, .istore 4, 2), (50, .iload 4, 2), (52, .aload_n 0, 1), (53, .getfield 11, 3), (56, .iload_n 1, 1), (57, .aaload, 1), (58, .aload_n 0, 1), (59, .getfield 52, 3), (62, .iload_n 3, 1), (63, .invokevirtual 158, 3), (66, .aload_n 0, 1), (67, .getfield 52, 3), (70, .iload_n 3, 1), (71, .invokevirtual 161, 3), (74, .invokevirtual 185, 3), (77, .if_icmp .ge 7, 3), (80, .iconst 1, 1), (81, .goto 4, 3), (84, .iconst 0, 1), (85, .istore 5, 2), (87, .iload 5, 2), (89, .ifCond .eq 17, 3), (92, .aload_n 0, 1), (93, .getfield 11, 3), (96, .iload_n 1, 1), (97, .aaload, 1), (98, .iload 4, 2), (100, .invokevirtual 188, 3), (103, .goto 4, 3), (106, .iconst 0, 1), (107, .ireturn, 1)]
def q_t_X4_all : List (Nat × Instr × Nat) := [(0, .aload_n 0, 1), (1, .aload_n 0, 1), (2, .getfield 42, 3), (5, .invokevirtual 191, 3), (8, .ireturn, 1)]
def q_t_X4_without : List (Nat × Instr × Nat) := [(0, .aload_n 0, 1), (1, .getfield 28, 3), (4, .iload_n 1, 1), (5, .invokevirtual 94, 3), (8, .ifCond .ne 6, 3), (11, .ldc 195, 2), (13, .ireturn, 1), (14, .aload_n 0, 1), (15, .aload_n 0, 1), (16, .getfield 46, 3), (19, .iload_n 1, 1), (20, .invokevirtual 83, 3), (23, .aload_n 0, 1), (24, .aload_n 0, 1), (25, .getfield 42, 3), (28, .invokevirtual 191, 3), (31, .aload_n 0, 1), (32, .aload_n 0, 1), (33, .getfield 46, 3), (36, .invokevirtual 191, 3), (39, .isub, 1), (40, .ireturn, 1)]
def q_t_X4_blame : List (Nat × Instr × Nat) := [(0, .iload_n 1, 1), (1, .bipush 8, 2), (3, .if_icmp .eq 12, 3), (6, .iload_n 1, 1), (7, .invokestatic 87, 3), (10, .ifCond .ne 5, 3), (13, .iconst (-1), 1), (14, .ireturn, 1), (15, .iconst 0, 1), (16, .istore_n 2, 1), (17, .iconst 0, 1), (18, .istore_n 3, 1), (19, .iload_n 3, 1), (20, .aload_n 0, 1), (21, .getfield 15, 3), (24, .if_icmp .ge 36, 3), (27, .iload_n 2, 1), (28, .iload_n 1, 1), (29, .bipush 8, 2), (31, .if_icmp .ne 15, 3), (34, .sipush 840, 3), (37, .aload_n 0, 1), (38, .iload_n 3, 1), (39, .invokevirtual 196, 3), (42, .imul, 1), (43, .goto 9, 3), (46, .aload_n 0, 1), (47, .iload_n 3, 1), (48, .iload_n 1, 1), (49, .invokevirtual 199, 3), (52, .iadd, 1), (53, .istore_n 2, 1), (54, .iinc 3 1, 3), (57, .goto (-38), 3), (60, .iload_n 2, 1), (61, .ireturn, 1)]
def q_t_X4_order : List (Nat × Instr × Nat) := [(0, .iload_n 1, 1), (1, .invokestatic 152, 3), (4, .ifCond .eq 7, 3), (7, .iload_n 2, 1), (8, .ifCond .ge 5, 3), (11, .iconst (-1), 1), (12, .ireturn, 1), (13, .aload_n 0, 1), (14, .iload_n 1, 1), (15, .invokevirtual 203, 3), (18, .istore_n 3, 1), (19, .iconst 0, 1), (20, .istore 4, 2), (22, .iload 4, 2), (24, .bipush 6, 2), (26, .if_icmp .ge 44, 3), (29, .iload_n 3, 1), (30, .ifCond .eq 40, 3), (33, .aload_n 0, 1), (34, .iload_n 3, 1), (35, .invokevirtual 206, 3), (38, .istore 5, 2), (40, .iload 4, 2), (42, .iload_n 2, 1), (43, .if_icmp .ne 6, 3), (46, .iload 5, 2), (48, .ireturn, 1), (49, .iload 5, 2), (51, .iconst (-1), 1), (52, .if_icmp .eq 12, 3), (55, .iload_n 3, 1), (56, .iconst 1, 1), (57, .iload 5, 2), (59, .ishl, 1), (60, .iconst (-1), 1), (61, .ixor, 1), (62, .iand, 1), (63, .istore_n 3, 1), (64, .iinc 4 1, 3), (67, .goto (-45), 3), (70, .iconst (-1), 1), (71, .ireturn, 1)]
def q_t_X4_isPart : List (Nat × Instr × Nat) := [(0, .iload_n 1, 1), (1, .ifCond .lt 15, 3), (4, .iload_n 1, 1), (5, .aload_n 0, 1), (6, .getfield 15, 3), (9, .if_icmp .ge 7, 3), (12, .iconst 1, 1), (13, .goto 4, 3), (16, .iconst 0, 1), (17, .ireturn, 1)]
def q_t_X4_isProgram : List (Nat × Instr × Nat) := [(0, .iload_n 0, 1), (1, .ifCond .lt 13, 3), (4, .iload_n 0, 1), (5, .bipush 8, 2), (7, .if_icmp .ge 7, 3), (10, .iconst 1, 1), (11, .goto 4, 3), (14, .iconst 0, 1), (15, .ireturn, 1)]
def q_t_X4_isTick : List (Nat × Instr × Nat) := [(0, .iload_n 0, 1), (1, .ifCond .lt 13, 3), (4, .iload_n 0, 1), (5, .bipush 64, 2), (7, .if_icmp .ge 7, 3), (10, .iconst 1, 1), (11, .goto 4, 3), (14, .iconst 0, 1), (15, .ireturn, 1)]
def q_t_X4_rises : List (Nat × Instr × Nat) := [(0, .iload_n 0, 1), (1, .ifCond .lt 22, 3), (4, .iload_n 0, 1), (5, .iload_n 1, 1), (6, .if_icmp .gt 17, 3), (9, .iload_n 1, 1), (10, .iload_n 2, 1), (11, .if_icmp .gt 12, 3), (14, .iload_n 2, 1), (15, .iload_n 3, 1), (16, .if_icmp .gt 7, 3), (19, .iconst 1, 1), (20, .goto 4, 3), (23, .iconst 0, 1), (24, .ireturn, 1)]
def q_t_X4_hasPart : List (Nat × Instr × Nat) := [(0, .iload_n 0, 1), (1, .iload_n 1, 1), (2, .iushr, 1), (3, .iconst 1, 1), (4, .iand, 1), (5, .ifCond .eq 7, 3), (8, .iconst 1, 1), (9, .goto 4, 3), (12, .iconst 0, 1), (13, .ireturn, 1)]
def q_t_X4_hasTick : List (Nat × Instr × Nat) := [(0, .lload_n 0, 1), (1, .iload_n 2, 1), (2, .lushr, 1), (3, .lconst 1, 1), (4, .land, 1), (5, .lconst 0, 1), (6, .lcmp, 1), (7, .ifCond .eq 7, 3), (10, .iconst 1, 1), (11, .goto 4, 3), (14, .iconst 0, 1), (15, .ireturn, 1)]
def q_t_X4_leastTick : List (Nat × Instr × Nat) := [(0, .iconst 0, 1), (1, .istore_n 2, 1), (2, .iload_n 2, 1), (3, .bipush 64, 2), (5, .if_icmp .ge 19, 3), (8, .lload_n 0, 1), (9, .iload_n 2, 1), (10, .invokestatic 141, 3), (13, .ifCond .eq 5, 3), (16, .iload_n 2, 1), (17, .ireturn, 1), (18, .iinc 2 1, 3), (21, .goto (-19), 3), (24, .iconst (-1), 1), (25, .ireturn, 1)]
def q_t_X4_ticksAhead : List (Nat × Instr × Nat) := [(0, .iload_n 0, 1), (1, .bipush 64, 2), (3, .if_icmp .lt 9, 3), (6, .ldc2_w 209, 3), (9, .goto 8, 3), (12, .lconst 1, 1), (13, .iload_n 0, 1), (14, .lshl, 1), (15, .lconst 1, 1), (16, .lsub, 1), (17, .lreturn, 1)]
def q_t_X4_leadsTo : List (Nat × Instr × Nat) := [(0, .iconst 1, 1), (1, .iload_n 1, 1), (2, .ishl, 1), (3, .istore_n 3, 1), (4, .iconst 1, 1), (5, .istore 4, 2), (7, .iload 4, 2), (9, .bipush 6, 2), (11, .if_icmp .ge 44, 3), (14, .iconst 0, 1), (15, .istore 5, 2), (17, .iload 5, 2), (19, .bipush 6, 2), (21, .if_icmp .ge 28, 3), (24, .iload_n 3, 1), (25, .iload 5, 2), (27, .invokestatic 76, 3), (30, .ifCond .eq 13, 3), (33, .iload_n 3, 1), (34, .aload_n 0, 1), (35, .getfield 19, 3), (38, .iload 5, 2), (40, .iaload, 1), (41, .ior, 1), (42, .istore_n 3, 1), (43, .iinc 5 1, 3), (46, .goto (-29), 3), (49, .iinc 4 1, 3), (52, .goto (-45), 3), (55, .iload_n 3, 1), (56, .iload_n 2, 1), (57, .invokestatic 76, 3), (60, .ireturn, 1)]
def q_t_X4_fewestWakings : List (Nat × Instr × Nat) := [(0, .lconst 0, 1), (1, .lstore_n 1, 1), (2, .iconst 0, 1), (3, .istore_n 3, 1), (4, .iload_n 3, 1), (5, .aload_n 0, 1), (6, .getfield 32, 3), (9, .invokevirtual 125, 3), (12, .if_icmp .ge 37, 3), (15, .aload_n 0, 1), (16, .getfield 32, 3), (19, .lload_n 1, 1), (20, .invokevirtual 211, 3), (23, .istore 4, 2), (25, .iload 4, 2), (27, .iconst (-1), 1), (28, .if_icmp .ne 6, 3), (31, .goto 18, 3), (34, .lload_n 1, 1), (35, .lconst 1, 1), (36, .iload 4, 2), (38, .iconst 1, 1), (39, .isub, 1), (40, .lshl, 1), (41, .lor, 1), (42, .lstore_n 1, 1), (43, .iinc 3 1, 3), (46, .goto (-42), 3), (49, .lload_n 1, 1), (50, .lreturn, 1)]
def q_t_X4_gatherWants : List (Nat × Instr × Nat) := [(0, .aload_n 1, 1), (1, .invokevirtual 214, 3), (4, .iconst 0, 1), (5, .istore_n 3, 1), (6, .iload_n 3, 1), (7, .aload_n 0, 1), (8, .getfield 28, 3), (11, .invokevirtual 125, 3), (14, .if_icmp .ge 42, 3), (17, .iload_n 3, 1), (18, .iload_n 2, 1), (19, .if_icmp .eq 31, 3), (22, .aload_n 1, 1), (23, .aload_n 0, 1), (24, .getfield 28, 3), (27, .iload_n 3, 1), (28, .invokevirtual 135, 3), (31, .aload_n 0, 1), (32, .getfield 28, 3), (35, .iload_n 3, 1), (36, .invokevirtual 138, 3), (39, .aload_n 0, 1), (40, .getfield 28, 3), (43, .iload_n 3, 1), (44, .invokevirtual 145, 3), (47, .invokevirtual 217, 3), (50, .iinc 3 1, 3), (53, .goto (-47), 3), (56, .iconst 0, 1), (57, .istore_n 3, 1), (58, .iload_n 3, 1), (59, .aload_n 0, 1), (60, .getfield 32, 3), (63, .invokevirtual 125, 3), (66, .if_icmp .ge 57, 3), (69, .aload_n 0, 1), (70, .getfield 35, 3), (73, .aload_n 0, 1), (74, .getfield 32, 3), (77, .iload_n 3, 1), (78, .invokevirtual 145, 3), (81, .land, 1), (82, .invokestatic 149, 3), (85, .istore 4, 2), (87, .iload 4, 2), (89, .iconst (-1), 1), (90, .if_icmp .eq 27, 3), (93, .aload_n 1, 1), (94, .aload_n 0, 1), (95, .getfield 32, 3), (98, .iload_n 3, 1), (99, .invokevirtual 135, 3), (102, .aload_n 0, 1), (103, .getfield 32, 3), (106, .iload_n 3, 1), (107, .invokevirtual 138, 3), (110, .lconst 1, 1), (111, .iload 4, 2), (113, .lshl, 1), (114, .invokevirtual 217, 3), (117, .iinc 3 1, 3), (120, .goto (-62), 3), (123, .aload_n 1, 1), (124, .aload_n 0, 1), (125, .getfield 19, 3), (128, .invokevirtual 220, 3), (131, .return_, 1)]
def q_t_X4_layOutIdle : List (Nat × Instr × Nat) := [(0, .aload_n 0, 1), (1, .getfield 52, 3), (4, .aload_n 0, 1), (5, .getfield 42, 3), (8, .iload_n 1, 1), (9, .invokevirtual 155, 3), (12, .invokevirtual 224, 3), (15, .return_, 1)]
def q_t_X4_drainInPlan : List (Nat × Instr × Nat) := [(0, .aload_n 0, 1), (1, .getfield 52, 3), (4, .lload_n 2, 1), (5, .invokevirtual 224, 3), (8, .aload_n 0, 1), (9, .getfield 11, 3), (12, .iload_n 1, 1), (13, .aaload, 1), (14, .lload_n 2, 1), (15, .invokevirtual 228, 3), (18, .aload_n 0, 1), (19, .getfield 11, 3), (22, .iload_n 1, 1), (23, .aaload, 1), (24, .aload_n 0, 1), (25, .getfield 52, 3), (28, .invokevirtual 231, 3), (31, .iadd, 1), (32, .ireturn, 1)]
def q_t_X4_drainByRule : List (Nat × Instr × Nat) := [(0, .aload_n 0, 1), (1, .iload_n 1, 1), (2, .invokevirtual 115, 3), (5, .aload_n 0, 1), (6, .getfield 11, 3), (9, .iload_n 1, 1), (10, .aaload, 1), (11, .aload_n 0, 1), (12, .getfield 42, 3), (15, .iload_n 1, 1), (16, .invokevirtual 155, 3), (19, .invokevirtual 228, 3), (22, .aload_n 0, 1), (23, .getfield 11, 3), (26, .iload_n 1, 1), (27, .aaload, 1), (28, .aload_n 0, 1), (29, .getfield 52, 3), (32, .invokevirtual 235, 3), (35, .iadd, 1), (36, .ireturn, 1)]
def q_t_X4_drainInSpans : List (Nat × Instr × Nat) := [(0, .aload_n 0, 1), (1, .iload_n 1, 1), (2, .invokevirtual 115, 3), (5, .aload_n 0, 1), (6, .getfield 11, 3), (9, .iload_n 1, 1), (10, .aaload, 1), (11, .aload_n 0, 1), (12, .getfield 52, 3), (15, .invokevirtual 231, 3), (18, .ireturn, 1)]
def q_t_X4_drainOfAll : List (Nat × Instr × Nat) := [(0, .iconst 0, 1), (1, .istore_n 2, 1), (2, .iconst 0, 1), (3, .istore_n 3, 1), (4, .iload_n 3, 1), (5, .aload_n 0, 1), (6, .getfield 15, 3), (9, .if_icmp .ge 22, 3), (12, .iload_n 2, 1), (13, .aload_n 0, 1), (14, .iload_n 3, 1), (15, .aload_n 1, 1), (16, .iload_n 3, 1), (17, .invokevirtual 155, 3), (20, .invokevirtual 178, 3), (23, .iadd, 1), (24, .istore_n 2, 1), (25, .iinc 3 1, 3), (28, .goto (-24), 3), (31, .iload_n 2, 1), (32, .ireturn, 1)]
def q_t_X4_blameIn : List (Nat × Instr × Nat) := [(0, .iconst 0, 1), (1, .istore_n 3, 1), (2, .aload_n 0, 1), (3, .getfield 42, 3), (6, .iload_n 2, 1), (7, .iload_n 1, 1), (8, .invokevirtual 238, 3), (11, .lstore 4, 2), (13, .iconst 0, 1), (14, .istore 6, 2), (16, .iload 6, 2), (18, .bipush 64, 2), (20, .if_icmp .ge 49, 3), (23, .lload 4, 2), (25, .iload 6, 2), (27, .invokestatic 141, 3), (30, .ifCond .eq 33, 3), (33, .aload_n 0, 1), (34, .getfield 42, 3), (37, .iload_n 1, 1), (38, .iload 6, 2), (40, .invokevirtual 242, 3), (43, .istore 7, 2), (45, .iload_n 3, 1), (46, .iload 7, 2), (48, .ifCond .le 12, 3), (51, .sipush 840, 3), (54, .iload 7, 2), (56, .idiv, 1), (57, .goto 4, 3), (60, .iconst 0, 1), (61, .iadd, 1), (62, .istore_n 3, 1), (63, .iinc 6 1, 3), (66, .goto (-50), 3), (69, .iload_n 3, 1), (70, .aload_n 0, 1), (71, .getfield 11, 3), (74, .iload_n 1, 1), (75, .aaload, 1), (76, .iconst 0, 1), (77, .invokevirtual 245, 3), (80, .imul, 1), (81, .ireturn, 1)]
def q_t_X4_gettingUp : List (Nat × Instr × Nat) := [(0, .iconst 0, 1), (1, .istore_n 2, 1), (2, .iconst 0, 1), (3, .istore_n 3, 1), (4, .iload_n 3, 1), (5, .aload_n 0, 1), (6, .getfield 15, 3), (9, .if_icmp .ge 61, 3), (12, .aload_n 0, 1), (13, .getfield 42, 3), (16, .iload_n 3, 1), (17, .invokevirtual 155, 3), (20, .lstore 4, 2), (22, .iload_n 1, 1), (23, .ifCond .le 18, 3), (26, .lload 4, 2), (28, .iload_n 1, 1), (29, .iconst 1, 1), (30, .isub, 1), (31, .invokestatic 141, 3), (34, .ifCond .eq 7, 3), (37, .iconst 1, 1), (38, .goto 4, 3), (41, .iconst 0, 1), (42, .istore 6, 2), (44, .lload 4, 2), (46, .iload_n 1, 1), (47, .invokestatic 141, 3), (50, .ifCond .eq 14, 3), (53, .iload 6, 2), (55, .ifCond .ne 9, 3), (58, .iload_n 2, 1), (59, .iconst 1, 1), (60, .iload_n 3, 1), (61, .ishl, 1), (62, .ior, 1), (63, .istore_n 2, 1), (64, .iinc 3 1, 3), (67, .goto (-63), 3), (70, .iload_n 2, 1), (71, .ireturn, 1)]
def q_t_X4_leastReady : List (Nat × Instr × Nat) := [(0, .iconst 0, 1), (1, .istore_n 2, 1), (2, .iload_n 2, 1), (3, .bipush 6, 2), (5, .if_icmp .ge 30, 3), (8, .iload_n 1, 1), (9, .iload_n 2, 1), (10, .invokestatic 76, 3), (13, .ifCond .eq 16, 3), (16, .aload_n 0, 1), (17, .getfield 19, 3), (20, .iload_n 2, 1), (21, .iaload, 1), (22, .iload_n 1, 1), (23, .iand, 1), (24, .ifCond .ne 5, 3), (27, .iload_n 2, 1), (28, .ireturn, 1), (29, .iinc 2 1, 3), (32, .goto (-30), 3), (35, .iconst (-1), 1), (36, .ireturn, 1)]
def q_t_X5_isIn : List (Nat × Instr × Nat) := [(0, .iload_n 0, 1), (1, .iload_n 1, 1), (2, .if_icmp .lt 12, 3), (5, .iload_n 0, 1), (6, .iload_n 2, 1), (7, .if_icmp .gt 7, 3), (10, .iconst 1, 1), (11, .goto 4, 3), (14, .iconst 0, 1), (15, .ireturn, 1)]
def q_t_X5_isPart : List (Nat × Instr × Nat) := [(0, .iload_n 1, 1), (1, .iconst 0, 1), (2, .aload_n 0, 1), (3, .getfield 42, 3), (6, .iconst 1, 1), (7, .isub, 1), (8, .invokestatic 45, 3), (11, .ireturn, 1)]
def q_t_X5_isTick : List (Nat × Instr × Nat) := [(0, .iload_n 0, 1), (1, .iconst 0, 1), (2, .bipush 63, 2), (4, .invokestatic 45, 3), (7, .ireturn, 1)]
def q_t_X5_part : List (Nat × Instr × Nat) := [(0, .iload_n 1, 1), (1, .iconst 0, 1), (2, .bipush 99, 2), (4, .invokestatic 45, 3), (7, .ifCond .eq 40, 3), (10, .iload_n 2, 1), (11, .iconst 0, 1), (12, .iload_n 1, 1), (13, .invokestatic 45, 3), (16, .ifCond .eq 31, 3), (19, .iload_n 3, 1), (20, .iconst 0, 1), (21, .iload_n 2, 1), (22, .invokestatic 45, 3), (25, .ifCond .eq 22, 3), (28, .iload 4, 2), (30, .iconst 0, 1), (31, .iload_n 3, 1), (32, .invokestatic 45, 3), (35, .ifCond .eq 12, 3), (38, .aload_n 0, 1), (39, .getfield 42, 3), (42, .bipush 6, 2), (44, .if_icmp .ne 5, 3), (47, .iconst (-1), 1), (48, .ireturn, 1), (49, .aload_n 0, 1), (50, .getfield 42, 3), (53, .istore 5, 2), (55, .aload_n 0, 1), (56, .dup, 1), (57, .getfield 42, 3), (60, .iconst 1, 1), (61, .iadd, 1), (62, .putfield 42, 3), (65, .aload_n 0, 1), (66, .getfield 7, 3), (69, .iconst 4, 1), (70, .iload 5, 2), (72, .imul, 1), (73, .iload_n 1, 1), (74, .iastore, 1), (75, .aload_n 0, 1), (76, .getfield 7, 3), (79, .iconst 4, 1), (80, .iload 5, 2), (82, .imul, 1), (83, .iconst 1, 1), (84, .iadd, 1), (85, .iload_n 2, 1), (86, .iastore, 1), (87, .aload_n 0, 1), (88, .getfield 7, 3), (91, .iconst 4, 1), (92, .iload 5, 2), (94, .imul, 1), (95, .iconst 2, 1), (96, .iadd, 1), (97, .iload_n 3, 1), (98, .iastore, 1), (99, .aload_n 0, 1), (100, .getfield 7, 3), (103, .iconst 4, 1), (104, .iload 5, 2), (106, .imul, 1), (107, .iconst 3, 1), (108, .iadd, 1), (109, .iload 4, 2), (111, .iastore, 1), (112, .iconst 0, 1), (113, .istore 6, 2), (115, .iload 6, 2), (117, .iconst 3, 1), (118, .if_icmp .ge 23, 3), (121, .aload_n 0, 1), (122, .getfield 19, 3), (125, .iconst 3, 1), (126, .iload 5, 2), (128, .imul, 1), (129, .iload 6, 2), (131, .iadd, 1), (132, .bipush 64, 2), (134, .iastore, 1), (135, .iinc 6 1, 3), (138, .goto (-23), 3), (141, .iload 5, 2), (143, .ireturn, 1)]
def q_t_X5_rise : List (Nat × Instr × Nat) := [(0, .aload_n 0, 1), (1, .iload_n 1, 1), (2, .invokevirtual 49, 3), (5, .ifCond .eq 72, 3), (8, .iload_n 2, 1), (9, .iconst 0, 1), (10, .sipush 999, 3), (13, .invokestatic 45, 3), (16, .ifCond .eq 61, 3), (19, .iload_n 3, 1), (20, .iload_n 2, 1), (21, .sipush 999, 3), (24, .invokestatic 45, 3), (27, .ifCond .eq 50, 3), (30, .iload 4, 2), (32, .iload_n 3, 1), (33, .sipush 999, 3), (36, .invokestatic 45, 3), (39, .ifCond .eq 38, 3), (42, .iload 5, 2), (44, .iconst 0, 1), (45, .bipush 9, 2), (47, .invokestatic 45, 3), (50, .ifCond .eq 27, 3), (53, .iload 6, 2), (55, .iload 5, 2), (57, .bipush 9, 2), (59, .invokestatic 45, 3), (62, .ifCond .eq 15, 3), (65, .iload 7, 2), (67, .iload 6, 2), (69, .bipush 9, 2), (71, .invokestatic 45, 3), (74, .ifCond .ne 5, 3), (77, .iconst 0, 1), (78, .ireturn, 1), (79, .aload_n 0, 1), (80, .getfield 13, 3), (83, .iconst 4, 1), (84, .iload_n 1, 1), (85, .imul, 1), (86, .iconst 1, 1), (87, .iadd, 1), (88, .iload_n 2, 1), (89, .iastore, 1), (90, .aload_n 0, 1), (91, .getfield 13, 3), (94, .iconst 4, 1), (95, .iload_n 1, 1), (96, .imul, 1), (97, .iconst 2, 1), (98, .iadd, 1), (99, .iload_n 3, 1), (100, .iastore, 1), (101, .aload_n 0, 1), (102, .getfield 13, 3), (105, .iconst 4, 1), (106, .iload_n 1, 1), (107, .imul, 1), (108, .iconst 3, 1), (109, .iadd, 1), (110, .iload 4, 2), (112, .iastore, 1), (113, .aload_n 0, 1), (114, .getfield 16, 3), (117, .iconst 4, 1), (118, .iload_n 1, 1), (119, .imul, 1), (120, .iconst 1, 1), (121, .iadd, 1), (122, .iload 5, 2), (124, .iastore, 1), (125, .aload_n 0, 1), (126, .getfield 16, 3), (129, .iconst 4, 1), (130, .iload_n 1, 1), (131, .imul, 1), (132, .iconst 2, 1), (133, .iadd, 1), (134, .iload 6, 2), (136, .iastore, 1), (137, .aload_n 0, 1), (138, .getfield 16, 3), (141, .iconst 4, 1), (142, .iload_n 1, 1), (143, .imul, 1), (144, .iconst 3, 1), (145, .iadd, 1), (146, .iload 7, 2), (148, .iastore, 1), (149, .iconst 1, 1), (150, .ireturn, 1)]
def q_t_X5_reaches : List (Nat × Instr × Nat) := [(0, .iconst 1, 1), (1, .iload_n 1, 1), (2, .ishl, 1), (3, .istore_n 3, 1), (4, .iconst 0, 1), (5, .istore 4, 2), (7, .iload 4, 2), (9, .bipush 6, 2), (11, .if_icmp .ge 78, 3), (14, .iconst 0, 1), (15, .istore 5, 2), (17, .iload 5, 2), (19, .aload_n 0, 1), (20, .getfield 42, 3), (23, .if_icmp .ge 60, 3), (26, .iconst 0, 1), (27, .istore 6, 2), (29, .iload 6, 2), (31, .aload_n 0, 1), (32, .getfield 42, 3), (35, .if_icmp .ge 42, 3), (38, .iload_n 3, 1), (39, .iload 5, 2), (41, .ishr, 1), (42, .iconst 1, 1), (43, .iand, 1), (44, .iconst 1, 1), (45, .if_icmp .ne 26, 3), (48, .aload_n 0, 1), (49, .getfield 22, 3), (52, .bipush 6, 2), (54, .iload 5, 2), (56, .imul, 1), (57, .iload 6, 2), (59, .iadd, 1), (60, .baload, 1), (61, .ifCond .eq 10, 3), (64, .iload_n 3, 1), (65, .iconst 1, 1), (66, .iload 6, 2), (68, .ishl, 1), (69, .ior, 1), (70, .istore_n 3, 1), (71, .iinc 6 1, 3), (74, .goto (-45), 3), (77, .iinc 5 1, 3), (80, .goto (-63), 3), (83, .iinc 4 1, 3), (86, .goto (-79), 3), (89, .iload_n 3, 1), (90, .iload_n 2, 1), (91, .ishr, 1), (92, .iconst 1, 1), (93, .iand, 1), (94, .iconst 1, 1), (95, .if_icmp .ne 7, 3), (98, .iconst 1, 1), (99, .goto 4, 3), (102, .iconst 0, 1), (103, .ireturn, 1)]
def q_t_X5_need : List (Nat × Instr × Nat) := [(0, .aload_n 0, 1), (1, .iload_n 1, 1), (2, .invokevirtual 49, 3), (5, .ifCond .eq 39, 3), (8, .aload_n 0, 1), (9, .iload_n 2, 1), (10, .invokevirtual 49, 3), (13, .ifCond .eq 31, 3), (16, .aload_n 0, 1), (17, .getfield 22, 3), (20, .bipush 6, 2), (22, .iload_n 1, 1), (23, .imul, 1), (24, .iload_n 2, 1), (25, .iadd, 1), (26, .baload, 1), (27, .iload_n 3, 1), (28, .if_icmp .eq 16, 3), (31, .iload_n 3, 1), (32, .ifCond .eq 14, 3), (35, .aload_n 0, 1), (36, .iload_n 2, 1), (37, .iload_n 1, 1), (38, .invokevirtual 53, 3), (41, .ifCond .eq 5, 3), (44, .iconst 0, 1), (45, .ireturn, 1), (46, .aload_n 0, 1), (47, .getfield 22, 3), (50, .bipush 6, 2), (52, .iload_n 1, 1), (53, .imul, 1), (54, .iload_n 2, 1), (55, .iadd, 1), (56, .iload_n 3, 1), (57, .bastore, 1), (58, .iconst 1, 1), (59, .ireturn, 1)]
def q_t_X5_isProgram : List (Nat × Instr × Nat) := [(0, .iload_n 0, 1), (1, .iconst 0, 1), (2, .bipush 7, 2), (4, .invokestatic 45, 3), (7, .ireturn, 1)]
def q_t_X5_hold : List (Nat × Instr × Nat) := [(0, .iload_n 1, 1), (1, .invokestatic 57, 3), (4, .ifCond .eq 37, 3), (7, .aload_n 0, 1), (8, .iload_n 2, 1), (9, .invokevirtual 49, 3), (12, .ifCond .eq 29, 3), (15, .iload_n 3, 1), (16, .ifCond .lt 25, 3), (19, .iload_n 3, 1), (20, .iload 4, 2), (22, .if_icmp .ge 19, 3), (25, .iload 4, 2), (27, .bipush 64, 2), (29, .if_icmp .gt 12, 3), (32, .aload_n 0, 1), (33, .getfield 60, 3), (36, .bipush 20, 2), (38, .if_icmp .ne 5, 3), (41, .iconst (-1), 1), (42, .ireturn, 1), (43, .iconst 4, 1), (44, .aload_n 0, 1), (45, .getfield 60, 3), (48, .imul, 1), (49, .istore 5, 2), (51, .aload_n 0, 1), (52, .getfield 26, 3), (55, .iload 5, 2), (57, .iload_n 1, 1), (58, .iastore, 1), (59, .aload_n 0, 1), (60, .getfield 26, 3), (63, .iload 5, 2), (65, .iconst 1, 1), (66, .iadd, 1), (67, .iload_n 2, 1), (68, .iastore, 1), (69, .aload_n 0, 1), (70, .getfield 26, 3), (73, .iload 5, 2), (75, .iconst 2, 1), (76, .iadd, 1), (77, .iload_n 3, 1), (78, .iastore, 1), (79, .aload_n 0, 1), (80, .getfield 26, 3), (83, .iload 5, 2), (85, .iconst 3, 1), (86, .iadd, 1), (87, .iload 4, 2), (89, .iastore, 1), (90, .aload_n 0, 1), (91, .dup, 1), (92, .getfield 60, 3), (95, .iconst 1, 1), (96, .iadd, 1), (97, .putfield 60, 3), (100, .aload_n 0, 1), (101, .getfield 60, 3), (104, .iconst 1, 1), (105, .isub, 1), (106, .ireturn, 1)]
def q_t_X5_back : List (Nat × Instr × Nat) := [(0, .iload_n 1, 1), (1, .iconst 0, 1), (2, .aload_n 0, 1), (3, .getfield 60, 3), (6, .iconst 1, 1), (7, .isub, 1), (8, .invokestatic 45, 3), (11, .ifCond .eq 32, 3), (14, .iload_n 2, 1), (15, .aload_n 0, 1), (16, .getfield 26, 3), (19, .iconst 4, 1), (20, .iload_n 1, 1), (21, .imul, 1), (22, .iconst 2, 1), (23, .iadd, 1), (24, .iaload, 1), (25, .aload_n 0, 1), (26, .getfield 26, 3), (29, .iconst 4, 1), (30, .iload_n 1, 1), (31, .imul, 1), (32, .iconst 3, 1), (33, .iadd, 1), (34, .iaload, 1), (35, .iconst 1, 1), (36, .isub, 1), (37, .invokestatic 45, 3), (40, .ifCond .ne 5, 3), (43, .iconst 0, 1), (44, .ireturn, 1), (45, .aload_n 0, 1), (46, .getfield 26, 3), (49, .iconst 4, 1), (50, .iload_n 1, 1), (51, .imul, 1), (52, .iconst 3, 1), (53, .iadd, 1), (54, .iload_n 2, 1), (55, .iastore, 1), (56, .iconst 1, 1), (57, .ireturn, 1)]
def q_t_X5_timer : List (Nat × Instr × Nat) := [(0, .iload_n 1, 1), (1, .invokestatic 57, 3), (4, .ifCond .eq 41, 3), (7, .aload_n 0, 1), (8, .iload_n 2, 1), (9, .invokevirtual 49, 3), (12, .ifCond .eq 33, 3), (15, .iload_n 3, 1), (16, .invokestatic 63, 3), (19, .ifCond .eq 26, 3), (22, .iload 4, 2), (24, .invokestatic 63, 3), (27, .ifCond .eq 18, 3), (30, .iload_n 3, 1), (31, .iload 4, 2), (33, .if_icmp .gt 12, 3), (36, .aload_n 0, 1), (37, .getfield 66, 3), (40, .bipush 12, 2), (42, .if_icmp .ne 5, 3), (45, .iconst (-1), 1), (46, .ireturn, 1), (47, .iconst 4, 1), (48, .aload_n 0, 1), (49, .getfield 66, 3), (52, .imul, 1), (53, .istore 5, 2), (55, .aload_n 0, 1), (56, .getfield 29, 3), (59, .iload 5, 2), (61, .iload_n 1, 1), (62, .iastore, 1), (63, .aload_n 0, 1), (64, .getfield 29, 3), (67, .iload 5, 2), (69, .iconst 1, 1), (70, .iadd, 1), (71, .iload_n 2, 1), (72, .iastore, 1), (73, .aload_n 0, 1), (74, .getfield 29, 3), (77, .iload 5, 2), (79, .iconst 2, 1), (80, .iadd, 1), (81, .iload_n 3, 1), (82, .iastore, 1), (83, .aload_n 0, 1), (84, .getfield 29, 3), (87, .iload 5, 2), (89, .iconst 3, 1), (90, .iadd, 1), (91, .iload 4, 2), (93, .iastore, 1), (94, .aload_n 0, 1), (95, .dup, 1), (96, .getfield 66, 3), (99, .iconst 1, 1), (100, .iadd, 1), (101, .putfield 66, 3), (104, .aload_n 0, 1), (105, .getfield 66, 3), (108, .iconst 1, 1), (109, .isub, 1), (110, .ireturn, 1)]
def q_t_X5_rule : List (Nat × Instr × Nat) := [(0, .aload_n 0, 1), (1, .iload_n 1, 1), (2, .invokevirtual 49, 3), (5, .ifCond .eq 34, 3), (8, .iload_n 2, 1), (9, .iconst 0, 1), (10, .bipush 64, 2), (12, .invokestatic 45, 3), (15, .ifCond .eq 24, 3), (18, .iload_n 3, 1), (19, .iload_n 2, 1), (20, .bipush 64, 2), (22, .invokestatic 45, 3), (25, .ifCond .eq 14, 3), (28, .iload 4, 2), (30, .iload_n 3, 1), (31, .bipush 64, 2), (33, .invokestatic 45, 3), (36, .ifCond .ne 5, 3), (39, .iconst 0, 1), (40, .ireturn, 1), (41, .aload_n 0, 1), (42, .getfield 19, 3), (45, .iconst 3, 1), (46, .iload_n 1, 1), (47, .imul, 1), (48, .iload_n 2, 1), (49, .iastore, 1), (50, .aload_n 0, 1), (51, .getfield 19, 3), (54, .iconst 3, 1), (55, .iload_n 1, 1), (56, .imul, 1), (57, .iconst 1, 1), (58, .iadd, 1), (59, .iload_n 3, 1), (60, .iastore, 1), (61, .aload_n 0, 1), (62, .getfield 19, 3), (65, .iconst 3, 1), (66, .iload_n 1, 1), (67, .imul, 1), (68, .iconst 2, 1), (69, .iadd, 1), (70, .iload 4, 2), (72, .iastore, 1), (73, .iconst 1, 1), (74, .ireturn, 1)]
def q_t_X5_wakes : List (Nat × Instr × Nat) := [(0, .aload_n 0, 1), (1, .iconst 0, 1), (2, .putfield 69, 3), (5, .iconst (-1), 1), (6, .istore_n 1, 1), (7, .iconst 0, 1), (8, .istore_n 2, 1), (9, .iload_n 2, 1), (10, .bipush 64, 2), (12, .if_icmp .ge 98, 3), (15, .iconst 0, 1), (16, .istore_n 3, 1), (17, .iconst 0, 1), (18, .istore 4, 2), (20, .iload 4, 2), (22, .aload_n 0, 1), (23, .getfield 66, 3), (26, .if_icmp .ge 49, 3), (29, .iload_n 3, 1), (30, .ifCond .ne 33, 3), (33, .aload_n 0, 1), (34, .getfield 29, 3), (37, .iconst 4, 1), (38, .iload 4, 2), (40, .imul, 1), (41, .iconst 3, 1), (42, .iadd, 1), (43, .iaload, 1), (44, .iload_n 2, 1), (45, .if_icmp .ne 22, 3), (48, .aload_n 0, 1), (49, .getfield 29, 3), (52, .iconst 4, 1), (53, .iload 4, 2), (55, .imul, 1), (56, .iconst 2, 1), (57, .iadd, 1), (58, .iaload, 1), (59, .iload_n 1, 1), (60, .if_icmp .le 7, 3), (63, .iconst 1, 1), (64, .goto 4, 3), (67, .iconst 0, 1), (68, .istore_n 3, 1), (69, .iinc 4 1, 3), (72, .goto (-52), 3), (75, .iload_n 3, 1), (76, .ifCond .ne 6, 3), (79, .goto 25, 3), (82, .aload_n 0, 1), (83, .getfield 32, 3), (86, .aload_n 0, 1), (87, .getfield 69, 3), (90, .iload_n 2, 1), (91, .iastore, 1), (92, .aload_n 0, 1), (93, .dup, 1), (94, .getfield 69, 3), (97, .iconst 1, 1), (98, .iadd, 1), (99, .putfield 69, 3), (102, .iload_n 2, 1), (103, .istore_n 1, 1), (104, .iinc 2 1, 3), (107, .goto (-98), 3), (110, .return_, 1)]
def q_t_X5_firesAt : List (Nat × Instr × Nat) := [(0, .iconst 0, 1), (1, .istore_n 2, 1), (2, .aload_n 0, 1), (3, .getfield 32, 3), (6, .iload_n 2, 1), (7, .iaload, 1), (8, .aload_n 0, 1), (9, .getfield 29, 3), (12, .iconst 4, 1), (13, .iload_n 1, 1), (14, .imul, 1), (15, .iconst 2, 1), (16, .iadd, 1), (17, .iaload, 1), (18, .if_icmp .ge 9, 3), (21, .iinc 2 1, 3), (24, .goto (-22), 3), (27, .aload_n 0, 1), (28, .getfield 32, 3), (31, .iload_n 2, 1), (32, .iaload, 1), (33, .ireturn, 1)]
def q_t_X5_waking : List (Nat × Instr × Nat) := [(0, .aload_n 0, 1), (1, .invokevirtual 72, 3), (4, .iload_n 1, 1), (5, .iconst 0, 1), (6, .aload_n 0, 1), (7, .getfield 69, 3), (10, .iconst 1, 1), (11, .isub, 1), (12, .invokestatic 45, 3), (15, .ifCond .eq 12, 3), (18, .aload_n 0, 1), (19, .getfield 32, 3), (22, .iload_n 1, 1), (23, .iaload, 1), (24, .goto 4, 3), (27, .iconst (-1), 1), (28, .ireturn, 1)]
def q_t_X5_fires : List (Nat × Instr × Nat) := [(0, .aload_n 0, 1), (1, .invokevirtual 72, 3), (4, .iload_n 1, 1), (5, .iconst 0, 1), (6, .aload_n 0, 1), (7, .getfield 66, 3), (10, .iconst 1, 1), (11, .isub, 1), (12, .invokestatic 45, 3), (15, .ifCond .eq 11, 3), (18, .aload_n 0, 1), (19, .iload_n 1, 1), (20, .invokevirtual 75, 3), (23, .goto 4, 3), (26, .iconst (-1), 1), (27, .ireturn, 1)]
def q_t_X5_look : List (Nat × Instr × Nat) := [(0, .aload_n 0, 1), (1, .invokevirtual 72, 3), (4, .iload_n 1, 1), (5, .ifCond .ne 10, 3), (8, .aload_n 0, 1), (9, .getfield 42, 3), (12, .goto 40, 3), (15, .iload_n 1, 1), (16, .iconst 1, 1), (17, .if_icmp .ne 10, 3), (20, .aload_n 0, 1), (21, .getfield 60, 3), (24, .goto 28, 3), (27, .iload_n 1, 1), (28, .iconst 2, 1), (29, .if_icmp .ne 10, 3), (32, .aload_n 0, 1), (33, .getfield 66, 3), (36, .goto 16, 3), (39, .iload_n 1, 1), (40, .iconst 3, 1), (41, .if_icmp .ne 10, 3), (44, .aload_n 0, 1), (45, .getfield 69, 3), (48, .goto 4, 3), (51, .iconst (-1), 1), (52, .ireturn, 1)]
def q_t_X5_held : List (Nat × Instr × Nat) := [(0, .iload_n 1, 1), (1, .iconst 0, 1), (2, .aload_n 0, 1), (3, .getfield 60, 3), (6, .iconst 1, 1), (7, .isub, 1), (8, .invokestatic 45, 3), (11, .ifCond .eq 25, 3), (14, .iload_n 2, 1), (15, .iconst 0, 1), (16, .iconst 3, 1), (17, .invokestatic 45, 3), (20, .ifCond .eq 16, 3), (23, .aload_n 0, 1), (24, .getfield 26, 3), (27, .iconst 4, 1), (28, .iload_n 1, 1), (29, .imul, 1), (30, .iload_n 2, 1), (31, .iadd, 1), (32, .iaload, 1), (33, .goto 4, 3), (36, .iconst (-1), 1), (37, .ireturn, 1)]
def q_t_X5_wants : List (Nat × Instr × Nat) := [(0, .aload_n 0, 1), (1, .invokevirtual 72, 3), (4, .iconst 0, 1), (5, .istore_n 1, 1), (6, .iload_n 1, 1), (7, .sipush 384, 3), (10, .if_icmp .ge 16, 3), (13, .aload_n 0, 1), (14, .getfield 35, 3), (17, .iload_n 1, 1), (18, .iconst 0, 1), (19, .iastore, 1), (20, .iinc 1 1, 3), (23, .goto (-17), 3), (26, .iconst 0, 1), (27, .istore_n 1, 1), (28, .iload_n 1, 1), (29, .aload_n 0, 1), (30, .getfield 60, 3), (33, .if_icmp .ge 81, 3), (36, .iload_n 1, 1), (37, .aload_n 0, 1), (38, .getfield 38, 3), (41, .if_icmp .eq 67, 3), (44, .aload_n 0, 1), (45, .getfield 26, 3), (48, .iconst 4, 1), (49, .iload_n 1, 1), (50, .imul, 1), (51, .iconst 2, 1), (52, .iadd, 1), (53, .iaload, 1), (54, .istore_n 2, 1), (55, .iload_n 2, 1), (56, .aload_n 0, 1), (57, .getfield 26, 3), (60, .iconst 4, 1), (61, .iload_n 1, 1), (62, .imul, 1), (63, .iconst 3, 1), (64, .iadd, 1), (65, .iaload, 1), (66, .if_icmp .ge 42, 3), (69, .aload_n 0, 1), (70, .getfield 35, 3), (73, .bipush 64, 2), (75, .aload_n 0, 1), (76, .getfield 26, 3), (79, .iconst 4, 1), (80, .iload_n 1, 1), (81, .imul, 1), (82, .iconst 1, 1), (83, .iadd, 1), (84, .iaload, 1), (85, .imul, 1), (86, .iload_n 2, 1), (87, .iadd, 1), (88, .dup2, 1), (89, .iaload, 1), (90, .iconst 1, 1), (91, .aload_n 0, 1), (92, .getfield 26, 3), (95, .iconst 4, 1), (96, .iload_n 1, 1), (97, .imul, 1), (98, .iaload, 1), (99, .ishl, 1), (100, .ior, 1), (101, .iastore, 1), (102, .iinc 2 1, 3), (105, .goto (-50), 3), (108, .iinc 1 1, 3), (111, .goto (-83), 3), (114, .iconst 0, 1), (115, .istore_n 1, 1), (116, .iload_n 1, 1), (117, .aload_n 0, 1), (118, .getfield 66, 3), (121, .if_icmp .ge 46, 3), (124, .aload_n 0, 1), (125, .getfield 35, 3), (128, .bipush 64, 2), (130, .aload_n 0, 1), (131, .getfield 29, 3), (134, .iconst 4, 1), (135, .iload_n 1, 1), (136, .imul, 1), (137, .iconst 1, 1), (138, .iadd, 1), (139, .iaload, 1), (140, .imul, 1), (141, .aload_n 0, 1), (142, .iload_n 1, 1), (143, .invokevirtual 75, 3), (146, .iadd, 1), (147, .dup2, 1), (148, .iaload, 1), (149, .iconst 1, 1), (150, .aload_n 0, 1), (151, .getfield 29, 3), (154, .iconst 4, 1), (155, .iload_n 1, 1), (156, .imul, 1), (157, .iaload, 1), (158, .ishl, 1), (159, .ior, 1), (160, .iastore, 1), (161, .iinc 1 1, 3), (164, .goto (-48), 3), (167, .iconst 0, 1), (168, .istore_n 1, 1), (169, .iload_n 1, 1), (170, .bipush 6, 2), (172, .if_icmp .ge 98, 3), (175, .iconst 0, 1), (176, .istore_n 2, 1), (177, .iload_n 2, 1), (178, .aload_n 0, 1), (179, .getfield 42, 3), (182, .if_icmp .ge 82, 3), (185, .iconst 0, 1), (186, .istore_n 3, 1), (187, .iload_n 3, 1), (188, .aload_n 0, 1), (189, .getfield 42, 3), (192, .if_icmp .ge 66, 3), (195, .aload_n 0, 1), (196, .getfield 22, 3), (199, .bipush 6, 2), (201, .iload_n 2, 1), (202, .imul, 1), (203, .iload_n 3, 1), (204, .iadd, 1), (205, .baload, 1), (206, .ifCond .eq 46, 3), (209, .iconst 0, 1), (210, .istore 4, 2), (212, .iload 4, 2), (214, .bipush 64, 2), (216, .if_icmp .ge 36, 3), (219, .aload_n 0, 1), (220, .getfield 35, 3), (223, .bipush 64, 2), (225, .iload_n 3, 1), (226, .imul, 1), (227, .iload 4, 2), (229, .iadd, 1), (230, .dup2, 1), (231, .iaload, 1), (232, .aload_n 0, 1), (233, .getfield 35, 3), (236, .bipush 64, 2), (238, .iload_n 2, 1), (239, .imul, 1), (240, .iload 4, 2), (242, .iadd, 1), (243, .iaload, 1), (244, .ior, 1), (245, .iastore, 1), (246, .iinc 4 1, 3), (249, .goto (-37), 3), (252, .iinc 3 1, 3), (255, .goto (-68), 3), (258, .iinc 2 1, 3), (261, .goto (-84), 3), (264, .iinc 1 1, 3), (267, .goto (-98), 3), (270, .return_, 1)]
def q_t_X5_isWanted : List (Nat × Instr × Nat) := [(0, .aload_n 0, 1), (1, .getfield 35, 3), (4, .bipush 64, 2), (6, .iload_n 1, 1), (7, .imul, 1), (8, .iload_n 2, 1), (9, .iadd, 1), (10, .iaload, 1), (11, .ifCond .eq 7, 3), (14, .iconst 1, 1), (15, .goto 4, 3), (18, .iconst 0, 1), (19, .ireturn, 1)]
def q_t_X5_wanted : List (Nat × Instr × Nat) := [(0, .aload_n 0, 1), (1, .iload_n 1, 1), (2, .invokevirtual 49, 3), (5, .ifCond .eq 10, 3), (8, .iload_n 2, 1), (9, .invokestatic 63, 3), (12, .ifCond .ne 5, 3), (15, .iconst (-1), 1), (16, .ireturn, 1), (17, .aload_n 0, 1), (18, .invokevirtual 79, 3), (21, .aload_n 0, 1), (22, .iload_n 1, 1), (23, .iload_n 2, 1), (24, .invokevirtual 82, 3), (27, .ifCond .eq 7, 3), (30, .iconst 1, 1), (31, .goto 4, 3), (34, .iconst 0, 1), (35, .ireturn, 1)]
def q_t_X5_when : List (Nat × Instr × Nat) := [(0, .lconst 0, 1), (1, .lstore_n 2, 1), (2, .aload_n 0, 1), (3, .iload_n 1, 1), (4, .invokevirtual 49, 3), (7, .ifCond .ne 5, 3), (10, .lload_n 2, 1), (11, .lreturn, 1), (12, .aload_n 0, 1), (13, .invokevirtual 79, 3), (16, .iconst 0, 1), (17, .istore 4, 2), (19, .iload 4, 2), (21, .bipush 64, 2), (23, .if_icmp .ge 26, 3), (26, .aload_n 0, 1), (27, .iload_n 1, 1), (28, .iload 4, 2), (30, .invokevirtual 82, 3), (33, .ifCond .eq 10, 3), (36, .lload_n 2, 1), (37, .lconst 1, 1), (38, .iload 4, 2), (40, .lshl, 1), (41, .lor, 1), (42, .lstore_n 2, 1), (43, .iinc 4 1, 3), (46, .goto (-27), 3), (49, .lload_n 2, 1), (50, .lreturn, 1)]
def q_t_X5_begins : List (Nat × Instr × Nat) := [(0, .aload_n 0, 1), (1, .iload_n 1, 1), (2, .iload_n 2, 1), (3, .invokevirtual 82, 3), (6, .ifCond .ne 18, 3), (9, .iload_n 2, 1), (10, .ifCond .le 16, 3), (13, .aload_n 0, 1), (14, .iload_n 1, 1), (15, .iload_n 2, 1), (16, .iconst 1, 1), (17, .isub, 1), (18, .invokevirtual 82, 3), (21, .ifCond .ne 5, 3), (24, .iconst 0, 1), (25, .ireturn, 1), (26, .aload_n 0, 1), (27, .iload_n 2, 1), (28, .putfield 85, 3), (31, .aload_n 0, 1), (32, .iconst 0, 1), (33, .putfield 88, 3), (36, .iload_n 2, 1), (37, .aload_n 0, 1), (38, .getfield 88, 3), (41, .iadd, 1), (42, .bipush 64, 2), (44, .if_icmp .ge 30, 3), (47, .aload_n 0, 1), (48, .iload_n 1, 1), (49, .iload_n 2, 1), (50, .aload_n 0, 1), (51, .getfield 88, 3), (54, .iadd, 1), (55, .invokevirtual 82, 3), (58, .ifCond .ne 16, 3), (61, .aload_n 0, 1), (62, .dup, 1), (63, .getfield 88, 3), (66, .iconst 1, 1), (67, .iadd, 1), (68, .putfield 88, 3), (71, .goto (-35), 3), (74, .iconst 1, 1), (75, .ireturn, 1)]
def q_t_X5_isLast : List (Nat × Instr × Nat) := [(0, .aload_n 0, 1), (1, .getfield 85, 3), (4, .aload_n 0, 1), (5, .getfield 88, 3), (8, .iadd, 1), (9, .bipush 64, 2), (11, .if_icmp .ne 7, 3), (14, .iconst 1, 1), (15, .goto 4, 3), (18, .iconst 0, 1), (19, .ireturn, 1)]
def q_t_X5_costs : List (Nat × Instr × Nat) := [(0, .aload_n 0, 1), (1, .getfield 7, 3), (4, .iconst 4, 1), (5, .iload_n 1, 1), (6, .imul, 1), (7, .iload_n 2, 1), (8, .iadd, 1), (9, .iaload, 1), (10, .istore_n 3, 1), (11, .aload_n 0, 1), (12, .invokevirtual 91, 3), (15, .ifCond .eq 10, 3), (18, .iload_n 3, 1), (19, .aload_n 0, 1), (20, .getfield 88, 3), (23, .imul, 1), (24, .ireturn, 1), (25, .aload_n 0, 1), (26, .getfield 16, 3), (29, .iconst 4, 1), (30, .iload_n 1, 1), (31, .imul, 1), (32, .iload_n 2, 1), (33, .iadd, 1), (34, .iaload, 1), (35, .istore 4, 2), (37, .iload 4, 2), (39, .aload_n 0, 1), (40, .getfield 88, 3), (43, .if_icmp .le 7, 3), (46, .iconst (-1), 1), (47, .goto 35, 3), (50, .iload_n 3, 1), (51, .aload_n 0, 1), (52, .getfield 88, 3), (55, .iload 4, 2), (57, .isub, 1), (58, .imul, 1), (59, .aload_n 0, 1), (60, .getfield 7, 3), (63, .iconst 4, 1), (64, .iload_n 1, 1), (65, .imul, 1), (66, .iaload, 1), (67, .iload 4, 2), (69, .imul, 1), (70, .iadd, 1), (71, .aload_n 0, 1), (72, .getfield 13, 3), (75, .iconst 4, 1), (76, .iload_n 1, 1), (77, .imul, 1), (78, .iload_n 2, 1), (79, .iadd, 1), (80, .iaload, 1), (81, .iadd, 1), (82, .ireturn, 1)]
def q_t_X5_choice : List (Nat × Instr × Nat) := [(0, .iconst 0, 1), (1, .istore_n 2, 1), (2, .iconst 1, 1), (3, .istore_n 3, 1), (4, .iload_n 3, 1), (5, .iconst 4, 1), (6, .if_icmp .ge 36, 3), (9, .aload_n 0, 1), (10, .iload_n 1, 1), (11, .iload_n 3, 1), (12, .invokevirtual 95, 3), (15, .iconst (-1), 1), (16, .if_icmp .eq 20, 3), (19, .aload_n 0, 1), (20, .iload_n 1, 1), (21, .iload_n 3, 1), (22, .invokevirtual 95, 3), (25, .aload_n 0, 1), (26, .iload_n 1, 1), (27, .iload_n 2, 1), (28, .invokevirtual 95, 3), (31, .if_icmp .ge 5, 3), (34, .iload_n 3, 1), (35, .istore_n 2, 1), (36, .iinc 3 1, 3), (39, .goto (-35), 3), (42, .iload_n 2, 1), (43, .ireturn, 1)]
def q_t_X5_spans : List (Nat × Instr × Nat) := [(0, .aload_n 0, 1), (1, .iload_n 1, 1), (2, .invokevirtual 49, 3), (5, .ifCond .ne 5, 3), (8, .iconst (-1), 1), (9, .ireturn, 1), (10, .aload_n 0, 1), (11, .invokevirtual 79, 3), (14, .iconst 0, 1), (15, .istore_n 2, 1), (16, .iconst 0, 1), (17, .istore_n 3, 1), (18, .iload_n 3, 1), (19, .bipush 64, 2), (21, .if_icmp .ge 26, 3), (24, .iload_n 2, 1), (25, .aload_n 0, 1), (26, .iload_n 1, 1), (27, .iload_n 3, 1), (28, .invokevirtual 99, 3), (31, .ifCond .eq 7, 3), (34, .iconst 1, 1), (35, .goto 4, 3), (38, .iconst 0, 1), (39, .iadd, 1), (40, .istore_n 2, 1), (41, .iinc 3 1, 3), (44, .goto (-26), 3), (47, .iload_n 2, 1), (48, .ireturn, 1)]
def q_t_X5_span : List (Nat × Instr × Nat) := [(0, .aload_n 0, 1), (1, .iload_n 1, 1), (2, .invokevirtual 49, 3), (5, .ifCond .eq 12, 3), (8, .iload_n 3, 1), (9, .iconst 0, 1), (10, .iconst 5, 1), (11, .invokestatic 45, 3), (14, .ifCond .ne 5, 3), (17, .iconst (-1), 1), (18, .ireturn, 1), (19, .aload_n 0, 1), (20, .invokevirtual 79, 3), (23, .iconst 0, 1), (24, .istore 4, 2), (26, .iconst 0, 1), (27, .istore 5, 2), (29, .iload 5, 2), (31, .bipush 64, 2), (33, .if_icmp .ge 38, 3), (36, .aload_n 0, 1), (37, .iload_n 1, 1), (38, .iload 5, 2), (40, .invokevirtual 99, 3), (43, .ifCond .ne 6, 3), (46, .goto 19, 3), (49, .iload 4, 2), (51, .iload_n 2, 1), (52, .if_icmp .ne 10, 3), (55, .aload_n 0, 1), (56, .iload_n 1, 1), (57, .iload_n 3, 1), (58, .invokevirtual 102, 3), (61, .ireturn, 1), (62, .iinc 4 1, 3), (65, .iinc 5 1, 3), (68, .goto (-39), 3), (71, .iconst (-1), 1), (72, .ireturn, 1)]
def q_t_X5_ofSpan : List (Nat × Instr × Nat) := [(0, .aload_n 0, 1), (1, .iload_n 1, 1), (2, .invokevirtual 105, 3), (5, .istore_n 3, 1), (6, .iload_n 2, 1), (7, .tableswitch 59 0 4 #[33, 38, 43, 45, 52], 33), (40, .aload_n 0, 1), (41, .getfield 85, 3), (44, .ireturn, 1), (45, .aload_n 0, 1), (46, .getfield 88, 3), (49, .ireturn, 1), (50, .iload_n 3, 1), (51, .ireturn, 1), (52, .aload_n 0, 1), (53, .iload_n 1, 1), (54, .iload_n 3, 1), (55, .invokevirtual 95, 3), (58, .ireturn, 1), (59, .aload_n 0, 1), (60, .iload_n 1, 1), (61, .iconst 0, 1), (62, .invokevirtual 95, 3), (65, .ireturn, 1), (66, .iload_n 3, 1), (67, .ifCond .eq 10, 3), (70, .aload_n 0, 1), (71, .invokevirtual 91, 3), (74, .ifCond .eq 7, 3), (77, .iconst (-1), 1), (78, .goto 23, 3), (81, .aload_n 0, 1), (82, .getfield 85, 3), (85, .aload_n 0, 1), (86, .getfield 88, 3), (89, .iadd, 1), (90, .aload_n 0, 1), (91, .getfield 16, 3), (94, .iconst 4, 1), (95, .iload_n 1, 1), (96, .imul, 1), (97, .iload_n 3, 1), (98, .iadd, 1), (99, .iaload, 1), (100, .isub, 1), (101, .ireturn, 1)]
def q_t_X5_drained : List (Nat × Instr × Nat) := [(0, .iconst 0, 1), (1, .istore_n 2, 1), (2, .iconst 0, 1), (3, .istore_n 3, 1), (4, .iload_n 3, 1), (5, .bipush 64, 2), (7, .if_icmp .ge 54, 3), (10, .aload_n 0, 1), (11, .iload_n 1, 1), (12, .iload_n 3, 1), (13, .invokevirtual 82, 3), (16, .ifCond .eq 17, 3), (19, .iload_n 2, 1), (20, .aload_n 0, 1), (21, .getfield 7, 3), (24, .iconst 4, 1), (25, .iload_n 1, 1), (26, .imul, 1), (27, .iaload, 1), (28, .iadd, 1), (29, .istore_n 2, 1), (30, .goto 25, 3), (33, .aload_n 0, 1), (34, .iload_n 1, 1), (35, .iload_n 3, 1), (36, .invokevirtual 99, 3), (39, .ifCond .eq 16, 3), (42, .iload_n 2, 1), (43, .aload_n 0, 1), (44, .iload_n 1, 1), (45, .aload_n 0, 1), (46, .iload_n 1, 1), (47, .invokevirtual 105, 3), (50, .invokevirtual 95, 3), (53, .iadd, 1), (54, .istore_n 2, 1), (55, .iinc 3 1, 3), (58, .goto (-54), 3), (61, .iload_n 2, 1), (62, .ireturn, 1)]
def q_t_X5_drain : List (Nat × Instr × Nat) := [(0, .aload_n 0, 1), (1, .iload_n 1, 1), (2, .invokevirtual 49, 3), (5, .ifCond .ne 5, 3), (8, .iconst (-1), 1), (9, .ireturn, 1), (10, .aload_n 0, 1), (11, .invokevirtual 79, 3), (14, .aload_n 0, 1), (15, .iload_n 1, 1), (16, .invokevirtual 108, 3), (19, .ireturn, 1)]
def q_t_X5_state : List (Nat × Instr × Nat) := [(0, .aload_n 0, 1), (1, .iload_n 1, 1), (2, .invokevirtual 49, 3), (5, .ifCond .eq 10, 3), (8, .iload_n 2, 1), (9, .invokestatic 63, 3), (12, .ifCond .ne 5, 3), (15, .iconst (-1), 1), (16, .ireturn, 1), (17, .aload_n 0, 1), (18, .invokevirtual 79, 3), (21, .aload_n 0, 1), (22, .iload_n 1, 1), (23, .iload_n 2, 1), (24, .invokevirtual 82, 3), (27, .ifCond .eq 5, 3), (30, .iconst 0, 1), (31, .ireturn, 1), (32, .iload_n 2, 1), (33, .istore_n 3, 1), (34, .iload_n 3, 1), (35, .ifCond .le 20, 3), (38, .aload_n 0, 1), (39, .iload_n 1, 1), (40, .iload_n 3, 1), (41, .iconst 1, 1), (42, .isub, 1), (43, .invokevirtual 82, 3), (46, .ifCond .ne 9, 3), (49, .iinc 3 (-1), 3), (52, .goto (-18), 3), (55, .aload_n 0, 1), (56, .iload_n 1, 1), (57, .iload_n 3, 1), (58, .invokevirtual 99, 3), (61, .ifCond .ne 5, 3), (64, .iconst (-1), 1), (65, .ireturn, 1), (66, .aload_n 0, 1), (67, .iload_n 1, 1), (68, .invokevirtual 105, 3), (71, .istore 4, 2), (73, .aload_n 0, 1), (74, .invokevirtual 91, 3), (77, .ifCond .ne 32, 3), (80, .iload_n 2, 1), (81, .aload_n 0, 1), (82, .getfield 85, 3), (85, .aload_n 0, 1), (86, .getfield 88, 3), (89, .iadd, 1), (90, .aload_n 0, 1), (91, .getfield 16, 3), (94, .iconst 4, 1), (95, .iload_n 1, 1), (96, .imul, 1), (97, .iload 4, 2), (99, .iadd, 1), (100, .iaload, 1), (101, .isub, 1), (102, .if_icmp .lt 7, 3), (105, .iconst 0, 1), (106, .goto 5, 3), (109, .iload 4, 2), (111, .ireturn, 1)]
def q_t_X5_ruleState : List (Nat × Instr × Nat) := [(0, .iload_n 2, 1), (1, .aload_n 0, 1), (2, .getfield 19, 3), (5, .iconst 3, 1), (6, .iload_n 1, 1), (7, .imul, 1), (8, .iaload, 1), (9, .if_icmp .ge 7, 3), (12, .iconst 0, 1), (13, .goto 40, 3), (16, .iload_n 2, 1), (17, .aload_n 0, 1), (18, .getfield 19, 3), (21, .iconst 3, 1), (22, .iload_n 1, 1), (23, .imul, 1), (24, .iconst 1, 1), (25, .iadd, 1), (26, .iaload, 1), (27, .if_icmp .ge 7, 3), (30, .iconst 1, 1), (31, .goto 22, 3), (34, .iload_n 2, 1), (35, .aload_n 0, 1), (36, .getfield 19, 3), (39, .iconst 3, 1), (40, .iload_n 1, 1), (41, .imul, 1), (42, .iconst 2, 1), (43, .iadd, 1), (44, .iaload, 1), (45, .if_icmp .ge 7, 3), (48, .iconst 2, 1), (49, .goto 4, 3), (52, .iconst 3, 1), (53, .ireturn, 1)]
def q_t_X5_ahead : List (Nat × Instr × Nat) := [(0, .iload_n 2, 1), (1, .ifCond .ne 7, 3), (4, .iconst 0, 1), (5, .goto 11, 3), (8, .aload_n 0, 1), (9, .iload_n 1, 1), (10, .iload_n 2, 1), (11, .iconst 1, 1), (12, .isub, 1), (13, .invokevirtual 111, 3), (16, .ireturn, 1)]
def q_t_X5_rises : List (Nat × Instr × Nat) := [(0, .aload_n 0, 1), (1, .invokevirtual 91, 3), (4, .ifCond .eq 8, 3), (7, .aload_n 0, 1), (8, .getfield 88, 3), (11, .ireturn, 1), (12, .aload_n 0, 1), (13, .getfield 88, 3), (16, .istore_n 2, 1), (17, .iload_n 2, 1), (18, .aload_n 0, 1), (19, .getfield 16, 3), (22, .iconst 4, 1), (23, .iload_n 1, 1), (24, .imul, 1), (25, .aload_n 0, 1), (26, .iload_n 1, 1), (27, .iload_n 2, 1), (28, .invokevirtual 114, 3), (31, .iadd, 1), (32, .iaload, 1), (33, .iadd, 1), (34, .aload_n 0, 1), (35, .getfield 88, 3), (38, .if_icmp .le 9, 3), (41, .iinc 2 (-1), 3), (44, .goto (-27), 3), (47, .iload_n 2, 1), (48, .ireturn, 1)]
def q_t_X5_ruledSpan : List (Nat × Instr × Nat) := [(0, .aload_n 0, 1), (1, .iload_n 1, 1), (2, .invokevirtual 117, 3), (5, .istore_n 2, 1), (6, .aload_n 0, 1), (7, .invokevirtual 91, 3), (10, .ifCond .eq 7, 3), (13, .iconst 0, 1), (14, .goto 18, 3), (17, .aload_n 0, 1), (18, .getfield 13, 3), (21, .iconst 4, 1), (22, .iload_n 1, 1), (23, .imul, 1), (24, .aload_n 0, 1), (25, .iload_n 1, 1), (26, .iload_n 2, 1), (27, .invokevirtual 114, 3), (30, .iadd, 1), (31, .iaload, 1), (32, .istore_n 3, 1), (33, .iconst 0, 1), (34, .istore 4, 2), (36, .iload 4, 2), (38, .aload_n 0, 1), (39, .getfield 88, 3), (42, .if_icmp .ge 38, 3), (45, .iload_n 3, 1), (46, .aload_n 0, 1), (47, .getfield 7, 3), (50, .iconst 4, 1), (51, .iload_n 1, 1), (52, .imul, 1), (53, .iload 4, 2), (55, .iload_n 2, 1), (56, .if_icmp .ge 13, 3), (59, .aload_n 0, 1), (60, .iload_n 1, 1), (61, .iload 4, 2), (63, .invokevirtual 111, 3), (66, .goto 4, 3), (69, .iconst 0, 1), (70, .iadd, 1), (71, .iaload, 1), (72, .iadd, 1), (73, .istore_n 3, 1), (74, .iinc 4 1, 3), (77, .goto (-41), 3), (80, .iload_n 3, 1), (81, .ireturn, 1)]
def q_t_X5_ruledSum : List (Nat × Instr × Nat) := [(0, .iconst 0, 1), (1, .istore_n 2, 1), (2, .iconst 0, 1), (3, .istore_n 3, 1), (4, .iload_n 3, 1), (5, .bipush 64, 2), (7, .if_icmp .ge 49, 3), (10, .aload_n 0, 1), (11, .iload_n 1, 1), (12, .iload_n 3, 1), (13, .invokevirtual 82, 3), (16, .ifCond .eq 17, 3), (19, .iload_n 2, 1), (20, .aload_n 0, 1), (21, .getfield 7, 3), (24, .iconst 4, 1), (25, .iload_n 1, 1), (26, .imul, 1), (27, .iaload, 1), (28, .iadd, 1), (29, .istore_n 2, 1), (30, .goto 20, 3), (33, .aload_n 0, 1), (34, .iload_n 1, 1), (35, .iload_n 3, 1), (36, .invokevirtual 99, 3), (39, .ifCond .eq 11, 3), (42, .iload_n 2, 1), (43, .aload_n 0, 1), (44, .iload_n 1, 1), (45, .invokevirtual 120, 3), (48, .iadd, 1), (49, .istore_n 2, 1), (50, .iinc 3 1, 3), (53, .goto (-49), 3), (56, .iload_n 2, 1), (57, .ireturn, 1)]
def q_t_X5_ruled : List (Nat × Instr × Nat) := [(0, .aload_n 0, 1), (1, .iload_n 1, 1), (2, .invokevirtual 49, 3), (5, .ifCond .ne 5, 3), (8, .iconst (-1), 1), (9, .ireturn, 1), (10, .aload_n 0, 1), (11, .invokevirtual 79, 3), (14, .aload_n 0, 1), (15, .iload_n 1, 1), (16, .invokevirtual 123, 3), (19, .ireturn, 1)]
def q_t_X5_ruledState : List (Nat × Instr × Nat) := [(0, .aload_n 0, 1), (1, .iload_n 1, 1), (2, .invokevirtual 49, 3), (5, .ifCond .eq 10, 3), (8, .iload_n 2, 1), (9, .invokestatic 63, 3), (12, .ifCond .ne 5, 3), (15, .iconst (-1), 1), (16, .ireturn, 1), (17, .aload_n 0, 1), (18, .invokevirtual 79, 3), (21, .aload_n 0, 1), (22, .iload_n 1, 1), (23, .iload_n 2, 1), (24, .invokevirtual 82, 3), (27, .ifCond .eq 5, 3), (30, .iconst 0, 1), (31, .ireturn, 1), (32, .iload_n 2, 1), (33, .istore_n 3, 1), (34, .iload_n 3, 1), (35, .ifCond .le 20, 3), (38, .aload_n 0, 1), (39, .iload_n 1, 1), (40, .iload_n 3, 1), (41, .iconst 1, 1), (42, .isub, 1), (43, .invokevirtual 82, 3), (46, .ifCond .ne 9, 3), (49, .iinc 3 (-1), 3), (52, .goto (-18), 3), (55, .aload_n 0, 1), (56, .iload_n 1, 1), (57, .iload_n 3, 1), (58, .invokevirtual 99, 3), (61, .ifCond .ne 5, 3), (64, .iconst (-1), 1), (65, .ireturn, 1), (66, .iload_n 2, 1), (67, .aload_n 0, 1), (68, .getfield 85, 3), (71, .isub, 1), (72, .aload_n 0, 1), (73, .iload_n 1, 1), (74, .invokevirtual 117, 3), (77, .if_icmp .ge 17, 3), (80, .aload_n 0, 1), (81, .iload_n 1, 1), (82, .iload_n 2, 1), (83, .aload_n 0, 1), (84, .getfield 85, 3), (87, .isub, 1), (88, .invokevirtual 111, 3), (91, .goto 4, 3), (94, .iconst 0, 1), (95, .ireturn, 1)]
def q_t_X5_learn : List (Nat × Instr × Nat) := [(0, .aload_n 0, 1), (1, .iload_n 1, 1), (2, .invokevirtual 49, 3), (5, .ifCond .ne 5, 3), (8, .iconst (-1), 1), (9, .ireturn, 1), (10, .aload_n 0, 1), (11, .invokevirtual 79, 3), (14, .iconst (-1), 1), (15, .istore_n 2, 1), (16, .iconst 0, 1), (17, .istore_n 3, 1), (18, .iconst 0, 1), (19, .istore 4, 2), (21, .iconst 0, 1), (22, .istore 5, 2), (24, .iconst 0, 1), (25, .istore 6, 2), (27, .iload 6, 2), (29, .bipush 64, 2), (31, .if_icmp .gt 112, 3), (34, .iload 6, 2), (36, .istore 7, 2), (38, .iload 7, 2), (40, .bipush 64, 2), (42, .if_icmp .gt 95, 3), (45, .iload 7, 2), (47, .istore 8, 2), (49, .iload 8, 2), (51, .bipush 64, 2), (53, .if_icmp .gt 78, 3), (56, .aload_n 0, 1), (57, .getfield 19, 3), (60, .iconst 3, 1), (61, .iload_n 1, 1), (62, .imul, 1), (63, .iload 6, 2), (65, .iastore, 1), (66, .aload_n 0, 1), (67, .getfield 19, 3), (70, .iconst 3, 1), (71, .iload_n 1, 1), (72, .imul, 1), (73, .iconst 1, 1), (74, .iadd, 1), (75, .iload 7, 2), (77, .iastore, 1), (78, .aload_n 0, 1), (79, .getfield 19, 3), (82, .iconst 3, 1), (83, .iload_n 1, 1), (84, .imul, 1), (85, .iconst 2, 1), (86, .iadd, 1), (87, .iload 8, 2), (89, .iastore, 1), (90, .aload_n 0, 1), (91, .iload_n 1, 1), (92, .invokevirtual 123, 3), (95, .istore 9, 2), (97, .iload_n 2, 1), (98, .iconst (-1), 1), (99, .if_icmp .eq 12, 3), (102, .iload 9, 2), (104, .iload_n 2, 1), (105, .if_icmp .lt 6, 3), (108, .goto 17, 3), (111, .iload 9, 2), (113, .istore_n 2, 1), (114, .iload 6, 2), (116, .istore_n 3, 1), (117, .iload 7, 2), (119, .istore 4, 2), (121, .iload 8, 2), (123, .istore 5, 2), (125, .iinc 8 1, 3), (128, .goto (-79), 3), (131, .iinc 7 1, 3), (134, .goto (-96), 3), (137, .iinc 6 1, 3), (140, .goto (-113), 3), (143, .aload_n 0, 1), (144, .getfield 19, 3), (147, .iconst 3, 1), (148, .iload_n 1, 1), (149, .imul, 1), (150, .iload_n 3, 1), (151, .iastore, 1), (152, .aload_n 0, 1), (153, .getfield 19, 3), (156, .iconst 3, 1), (157, .iload_n 1, 1), (158, .imul, 1), (159, .iconst 1, 1), (160, .iadd, 1), (161, .iload 4, 2), (163, .iastore, 1), (164, .aload_n 0, 1), (165, .getfield 19, 3), (168, .iconst 3, 1), (169, .iload_n 1, 1), (170, .imul, 1), (171, .iconst 2, 1), (172, .iadd, 1), (173, .iload 5, 2), (175, .iastore, 1), (176, .iload_n 2, 1), (177, .ireturn, 1)]
def q_t_X5_all : List (Nat × Instr × Nat) := [(0, .aload_n 0, 1), (1, .invokevirtual 79, 3), (4, .iconst 0, 1), (5, .istore_n 1, 1), (6, .iconst 0, 1), (7, .istore_n 2, 1), (8, .iload_n 2, 1), (9, .aload_n 0, 1), (10, .getfield 42, 3), (13, .if_icmp .ge 17, 3), (16, .iload_n 1, 1), (17, .aload_n 0, 1), (18, .iload_n 2, 1), (19, .invokevirtual 108, 3), (22, .iadd, 1), (23, .istore_n 1, 1), (24, .iinc 2 1, 3), (27, .goto (-19), 3), (30, .iload_n 1, 1), (31, .ireturn, 1)]
def q_t_X5_without : List (Nat × Instr × Nat) := [(0, .iload_n 1, 1), (1, .iconst 0, 1), (2, .aload_n 0, 1), (3, .getfield 60, 3), (6, .iconst 1, 1), (7, .isub, 1), (8, .invokestatic 45, 3), (11, .ifCond .ne 6, 3), (14, .ldc 126, 2), (16, .ireturn, 1), (17, .aload_n 0, 1), (18, .invokevirtual 127, 3), (21, .istore_n 2, 1), (22, .aload_n 0, 1), (23, .iload_n 1, 1), (24, .putfield 38, 3), (27, .aload_n 0, 1), (28, .invokevirtual 127, 3), (31, .istore_n 3, 1), (32, .aload_n 0, 1), (33, .iconst (-1), 1), (34, .putfield 38, 3), (37, .iload_n 2, 1), (38, .iload_n 3, 1), (39, .isub, 1), (40, .ireturn, 1)]
def q_t_X5_bits : List (Nat × Instr × Nat) := [(0, .iconst 0, 1), (1, .istore_n 1, 1), (2, .iconst 0, 1), (3, .istore_n 2, 1), (4, .iload_n 2, 1), (5, .bipush 8, 2), (7, .if_icmp .ge 17, 3), (10, .iload_n 1, 1), (11, .iload_n 0, 1), (12, .iload_n 2, 1), (13, .ishr, 1), (14, .iconst 1, 1), (15, .iand, 1), (16, .iadd, 1), (17, .istore_n 1, 1), (18, .iinc 2 1, 3), (21, .goto (-17), 3), (24, .iload_n 1, 1), (25, .ireturn, 1)]
def q_t_X5_blame : List (Nat × Instr × Nat) := [(0, .iload_n 1, 1), (1, .iconst 0, 1), (2, .bipush 8, 2), (4, .invokestatic 45, 3), (7, .ifCond .ne 5, 3), (10, .iconst (-1), 1), (11, .ireturn, 1), (12, .aload_n 0, 1), (13, .invokevirtual 79, 3), (16, .iconst 0, 1), (17, .istore_n 2, 1), (18, .iconst 0, 1), (19, .istore_n 3, 1), (20, .iload_n 3, 1), (21, .aload_n 0, 1), (22, .getfield 42, 3), (25, .if_icmp .ge 109, 3), (28, .iconst 0, 1), (29, .istore 4, 2), (31, .iload 4, 2), (33, .bipush 64, 2), (35, .if_icmp .ge 93, 3), (38, .aload_n 0, 1), (39, .getfield 35, 3), (42, .bipush 64, 2), (44, .iload_n 3, 1), (45, .imul, 1), (46, .iload 4, 2), (48, .iadd, 1), (49, .iaload, 1), (50, .istore 5, 2), (52, .iload_n 1, 1), (53, .bipush 8, 2), (55, .if_icmp .ne 30, 3), (58, .aload_n 0, 1), (59, .iload_n 3, 1), (60, .iload 4, 2), (62, .invokevirtual 99, 3), (65, .ifCond .eq 20, 3), (68, .iload_n 2, 1), (69, .sipush 840, 3), (72, .aload_n 0, 1), (73, .iload_n 3, 1), (74, .aload_n 0, 1), (75, .iload_n 3, 1), (76, .invokevirtual 105, 3), (79, .invokevirtual 95, 3), (82, .imul, 1), (83, .iadd, 1), (84, .istore_n 2, 1), (85, .iload_n 1, 1), (86, .bipush 8, 2), (88, .if_icmp .ge 34, 3), (91, .iload 5, 2), (93, .iload_n 1, 1), (94, .ishr, 1), (95, .iconst 1, 1), (96, .iand, 1), (97, .iconst 1, 1), (98, .if_icmp .ne 24, 3), (101, .iload_n 2, 1), (102, .sipush 840, 3), (105, .iload 5, 2), (107, .invokestatic 131, 3), (110, .idiv, 1), (111, .aload_n 0, 1), (112, .getfield 7, 3), (115, .iconst 4, 1), (116, .iload_n 3, 1), (117, .imul, 1), (118, .iaload, 1), (119, .imul, 1), (120, .iadd, 1), (121, .istore_n 2, 1), (122, .iinc 4 1, 3), (125, .goto (-94), 3), (128, .iinc 3 1, 3), (131, .goto (-111), 3), (134, .iload_n 2, 1), (135, .ireturn, 1)]
def q_t_X5_order : List (Nat × Instr × Nat) := [(0, .iload_n 1, 1), (1, .invokestatic 63, 3), (4, .ifCond .eq 7, 3), (7, .iload_n 2, 1), (8, .ifCond .ge 5, 3), (11, .iconst (-1), 1), (12, .ireturn, 1), (13, .aload_n 0, 1), (14, .invokevirtual 79, 3), (17, .iconst 0, 1), (18, .istore_n 3, 1), (19, .iconst 0, 1), (20, .istore 4, 2), (22, .iload 4, 2), (24, .aload_n 0, 1), (25, .getfield 42, 3), (28, .if_icmp .ge 42, 3), (31, .aload_n 0, 1), (32, .iload 4, 2), (34, .iload_n 1, 1), (35, .invokevirtual 82, 3), (38, .ifCond .eq 26, 3), (41, .iload_n 1, 1), (42, .ifCond .eq 15, 3), (45, .aload_n 0, 1), (46, .iload 4, 2), (48, .iload_n 1, 1), (49, .iconst 1, 1), (50, .isub, 1), (51, .invokevirtual 82, 3), (54, .ifCond .ne 10, 3), (57, .iload_n 3, 1), (58, .iconst 1, 1), (59, .iload 4, 2), (61, .ishl, 1), (62, .ior, 1), (63, .istore_n 3, 1), (64, .iinc 4 1, 3), (67, .goto (-45), 3), (70, .iconst 0, 1), (71, .istore 4, 2), (73, .iload_n 3, 1), (74, .ifCond .eq 46, 3), (77, .iconst 0, 1), (78, .istore 5, 2), (80, .aload_n 0, 1), (81, .iload 5, 2), (83, .iload_n 3, 1), (84, .invokevirtual 134, 3), (87, .ifCond .ne 9, 3), (90, .iinc 5 1, 3), (93, .goto (-13), 3), (96, .iload 4, 2), (98, .iload_n 2, 1), (99, .if_icmp .ne 6, 3), (102, .iload 5, 2), (104, .ireturn, 1), (105, .iload_n 3, 1), (106, .iconst 1, 1), (107, .iload 5, 2), (109, .ishl, 1), (110, .iconst (-1), 1), (111, .ixor, 1), (112, .iand, 1), (113, .istore_n 3, 1), (114, .iinc 4 1, 3), (117, .goto (-44), 3), (120, .iconst (-1), 1), (121, .ireturn, 1)]
def q_t_X5_isFirst : List (Nat × Instr × Nat) := [(0, .iload_n 2, 1), (1, .iload_n 1, 1), (2, .ishr, 1), (3, .iconst 1, 1), (4, .iand, 1), (5, .ifCond .ne 5, 3), (8, .iconst 0, 1), (9, .ireturn, 1), (10, .iconst 1, 1), (11, .istore_n 3, 1), (12, .iconst 0, 1), (13, .istore 4, 2), (15, .iload 4, 2), (17, .aload_n 0, 1), (18, .getfield 42, 3), (21, .if_icmp .ge 44, 3), (24, .iload_n 3, 1), (25, .ifCond .eq 32, 3), (28, .aload_n 0, 1), (29, .getfield 22, 3), (32, .bipush 6, 2), (34, .iload_n 1, 1), (35, .imul, 1), (36, .iload 4, 2), (38, .iadd, 1), (39, .baload, 1), (40, .ifCond .eq 13, 3), (43, .iload_n 2, 1), (44, .iload 4, 2), (46, .ishr, 1), (47, .iconst 1, 1), (48, .iand, 1), (49, .iconst 1, 1), (50, .if_icmp .eq 7, 3), (53, .iconst 1, 1), (54, .goto 4, 3), (57, .iconst 0, 1), (58, .istore_n 3, 1), (59, .iinc 4 1, 3), (62, .goto (-47), 3), (65, .iload_n 3, 1), (66, .ireturn, 1)]
def q_t_J13_bitCount_95d88 : List (Nat × Instr × Nat) := [(0, .lload_n 0, 1), (1, .lload_n 0, 1), (2, .iconst 1, 1), (3, .lushr, 1), (4, .ldc2_w 314, 3), (7, .land, 1), (8, .lsub, 1), (9, .lstore_n 0, 1), (10, .lload_n 0, 1), (11, .ldc2_w 316, 3), (14, .land, 1), (15, .lload_n 0, 1), (16, .iconst 2, 1), (17, .lushr, 1), (18, .ldc2_w 316, 3), (21, .land, 1), (22, .ladd, 1), (23, .lstore_n 0, 1), (24, .lload_n 0, 1), (25, .lload_n 0, 1), (26, .iconst 4, 1), (27, .lushr, 1), (28, .ladd, 1), (29, .ldc2_w 318, 3), (32, .land, 1), (33, .lstore_n 0, 1), (34, .lload_n 0, 1), (35, .lload_n 0, 1), (36, .bipush 8, 2), (38, .lushr, 1), (39, .ladd, 1), (40, .lstore_n 0, 1), (41, .lload_n 0, 1), (42, .lload_n 0, 1), (43, .bipush 16, 2), (45, .lushr, 1), (46, .ladd, 1), (47, .lstore_n 0, 1), (48, .lload_n 0, 1), (49, .lload_n 0, 1), (50, .bipush 32, 2), (52, .lushr, 1), (53, .ladd, 1), (54, .lstore_n 0, 1), (55, .lload_n 0, 1), (56, .l2i, 1), (57, .bipush 127, 2), (59, .iand, 1), (60, .ireturn, 1)]
def q_tL0 : List (Nat × Instr × Nat) := [(0, .new 7, 3), (3, .dup, 1), (4, .invokespecial 9, 3), (7, .astore_n 1, 1), (8, .new 10, 3), (11, .dup, 1), (12, .invokespecial 12, 3), (15, .astore_n 2, 1), (16, .iconst 0, 1), (17, .istore_n 3, 1), (18, .iload_n 3, 1), (19, .aload_n 0, 1), (20, .arraylength, 1), (21, .bipush 8, 2), (23, .isub, 1), (24, .if_icmp .gt 969, 3), (27, .aload_n 0, 1), (28, .iload_n 3, 1), (29, .iaload, 1), (30, .bipush 31, 2), (32, .iand, 1), (33, .tableswitch 954 0 23 #[111, 164, 251, 310, 363, 396, 449, 502, 525, 558, 581, 604, 637, 661, 684, 727, 750, 773, 806, 839, 852, 875, 898, 931], 111), (144, .aload_n 1, 1), (145, .aload_n 0, 1), (146, .iload_n 3, 1), (147, .iconst 1, 1), (148, .iadd, 1), (149, .iaload, 1), (150, .aload_n 0, 1), (151, .iload_n 3, 1), (152, .iconst 2, 1), (153, .iadd, 1), (154, .iaload, 1), (155, .aload_n 0, 1), (156, .iload_n 3, 1), (157, .iconst 3, 1), (158, .iadd, 1), (159, .iaload, 1), (160, .aload_n 0, 1), (161, .iload_n 3, 1), (162, .iconst 4, 1), (163, .iadd, 1), (164, .iaload, 1), (165, .invokevirtual 13, 3), (168, .aload_n 2, 1), (169, .aload_n 0, 1), (170, .iload_n 3, 1), (171, .iconst 1, 1)]
def q_tL1 : List (Nat × Instr × Nat) := [(172, .iadd, 1), (173, .iaload, 1), (174, .aload_n 0, 1), (175, .iload_n 3, 1), (176, .iconst 2, 1), (177, .iadd, 1), (178, .iaload, 1), (179, .aload_n 0, 1), (180, .iload_n 3, 1), (181, .iconst 3, 1), (182, .iadd, 1), (183, .iaload, 1), (184, .aload_n 0, 1), (185, .iload_n 3, 1), (186, .iconst 4, 1), (187, .iadd, 1), (188, .iaload, 1), (189, .invokevirtual 17, 3), (192, .if_icmp .eq 795, 3), (195, .iconst 0, 1), (196, .ireturn, 1), (197, .aload_n 1, 1), (198, .aload_n 0, 1), (199, .iload_n 3, 1), (200, .iconst 1, 1), (201, .iadd, 1), (202, .iaload, 1), (203, .aload_n 0, 1), (204, .iload_n 3, 1), (205, .iconst 2, 1), (206, .iadd, 1), (207, .iaload, 1), (208, .aload_n 0, 1), (209, .iload_n 3, 1), (210, .iconst 3, 1), (211, .iadd, 1), (212, .iaload, 1), (213, .aload_n 0, 1), (214, .iload_n 3, 1), (215, .iconst 4, 1), (216, .iadd, 1), (217, .iaload, 1), (218, .aload_n 0, 1), (219, .iload_n 3, 1), (220, .iconst 5, 1), (221, .iadd, 1), (222, .iaload, 1), (223, .aload_n 0, 1)]
def q_tL2 : List (Nat × Instr × Nat) := [(224, .iload_n 3, 1), (225, .bipush 6, 2), (227, .iadd, 1), (228, .iaload, 1), (229, .aload_n 0, 1), (230, .iload_n 3, 1), (231, .bipush 7, 2), (233, .iadd, 1), (234, .iaload, 1), (235, .invokevirtual 18, 3), (238, .aload_n 2, 1), (239, .aload_n 0, 1), (240, .iload_n 3, 1), (241, .iconst 1, 1), (242, .iadd, 1), (243, .iaload, 1), (244, .aload_n 0, 1), (245, .iload_n 3, 1), (246, .iconst 2, 1), (247, .iadd, 1), (248, .iaload, 1), (249, .aload_n 0, 1), (250, .iload_n 3, 1), (251, .iconst 3, 1), (252, .iadd, 1), (253, .iaload, 1), (254, .aload_n 0, 1), (255, .iload_n 3, 1), (256, .iconst 4, 1), (257, .iadd, 1), (258, .iaload, 1), (259, .aload_n 0, 1), (260, .iload_n 3, 1), (261, .iconst 5, 1), (262, .iadd, 1), (263, .iaload, 1), (264, .aload_n 0, 1), (265, .iload_n 3, 1), (266, .bipush 6, 2), (268, .iadd, 1), (269, .iaload, 1), (270, .aload_n 0, 1), (271, .iload_n 3, 1), (272, .bipush 7, 2), (274, .iadd, 1), (275, .iaload, 1), (276, .invokevirtual 22, 3), (279, .if_icmp .eq 708, 3)]
def q_tL3 : List (Nat × Instr × Nat) := [(282, .iconst 0, 1), (283, .ireturn, 1), (284, .aload_n 1, 1), (285, .aload_n 0, 1), (286, .iload_n 3, 1), (287, .iconst 1, 1), (288, .iadd, 1), (289, .iaload, 1), (290, .aload_n 0, 1), (291, .iload_n 3, 1), (292, .iconst 2, 1), (293, .iadd, 1), (294, .iaload, 1), (295, .aload_n 0, 1), (296, .iload_n 3, 1), (297, .iconst 3, 1), (298, .iadd, 1), (299, .iaload, 1), (300, .ifCond .eq 7, 3), (303, .iconst 1, 1), (304, .goto 4, 3), (307, .iconst 0, 1), (308, .invokevirtual 23, 3), (311, .aload_n 2, 1), (312, .aload_n 0, 1), (313, .iload_n 3, 1), (314, .iconst 1, 1), (315, .iadd, 1), (316, .iaload, 1), (317, .aload_n 0, 1), (318, .iload_n 3, 1), (319, .iconst 2, 1), (320, .iadd, 1), (321, .iaload, 1), (322, .aload_n 0, 1), (323, .iload_n 3, 1), (324, .iconst 3, 1), (325, .iadd, 1), (326, .iaload, 1), (327, .ifCond .eq 7, 3), (330, .iconst 1, 1), (331, .goto 4, 3), (334, .iconst 0, 1), (335, .invokevirtual 27, 3), (338, .if_icmp .eq 649, 3), (341, .iconst 0, 1), (342, .ireturn, 1), (343, .aload_n 1, 1)]
def q_tL4 : List (Nat × Instr × Nat) := [(344, .aload_n 0, 1), (345, .iload_n 3, 1), (346, .iconst 1, 1), (347, .iadd, 1), (348, .iaload, 1), (349, .aload_n 0, 1), (350, .iload_n 3, 1), (351, .iconst 2, 1), (352, .iadd, 1), (353, .iaload, 1), (354, .aload_n 0, 1), (355, .iload_n 3, 1), (356, .iconst 3, 1), (357, .iadd, 1), (358, .iaload, 1), (359, .aload_n 0, 1), (360, .iload_n 3, 1), (361, .iconst 4, 1), (362, .iadd, 1), (363, .iaload, 1), (364, .invokevirtual 28, 3), (367, .aload_n 2, 1), (368, .aload_n 0, 1), (369, .iload_n 3, 1), (370, .iconst 1, 1), (371, .iadd, 1), (372, .iaload, 1), (373, .aload_n 0, 1), (374, .iload_n 3, 1), (375, .iconst 2, 1), (376, .iadd, 1), (377, .iaload, 1), (378, .aload_n 0, 1), (379, .iload_n 3, 1), (380, .iconst 3, 1), (381, .iadd, 1), (382, .iaload, 1), (383, .aload_n 0, 1), (384, .iload_n 3, 1), (385, .iconst 4, 1), (386, .iadd, 1), (387, .iaload, 1), (388, .invokevirtual 31, 3), (391, .if_icmp .eq 596, 3), (394, .iconst 0, 1), (395, .ireturn, 1), (396, .aload_n 1, 1), (397, .aload_n 0, 1)]
def q_tL5 : List (Nat × Instr × Nat) := [(398, .iload_n 3, 1), (399, .iconst 1, 1), (400, .iadd, 1), (401, .iaload, 1), (402, .aload_n 0, 1), (403, .iload_n 3, 1), (404, .iconst 2, 1), (405, .iadd, 1), (406, .iaload, 1), (407, .invokevirtual 32, 3), (410, .aload_n 2, 1), (411, .aload_n 0, 1), (412, .iload_n 3, 1), (413, .iconst 1, 1), (414, .iadd, 1), (415, .iaload, 1), (416, .aload_n 0, 1), (417, .iload_n 3, 1), (418, .iconst 2, 1), (419, .iadd, 1), (420, .iaload, 1), (421, .invokevirtual 36, 3), (424, .if_icmp .eq 563, 3), (427, .iconst 0, 1), (428, .ireturn, 1), (429, .aload_n 1, 1), (430, .aload_n 0, 1), (431, .iload_n 3, 1), (432, .iconst 1, 1), (433, .iadd, 1), (434, .iaload, 1), (435, .aload_n 0, 1), (436, .iload_n 3, 1), (437, .iconst 2, 1), (438, .iadd, 1), (439, .iaload, 1), (440, .aload_n 0, 1), (441, .iload_n 3, 1), (442, .iconst 3, 1), (443, .iadd, 1), (444, .iaload, 1), (445, .aload_n 0, 1), (446, .iload_n 3, 1), (447, .iconst 4, 1), (448, .iadd, 1), (449, .iaload, 1), (450, .invokevirtual 37, 3), (453, .aload_n 2, 1)]
def q_tL6 : List (Nat × Instr × Nat) := [(454, .aload_n 0, 1), (455, .iload_n 3, 1), (456, .iconst 1, 1), (457, .iadd, 1), (458, .iaload, 1), (459, .aload_n 0, 1), (460, .iload_n 3, 1), (461, .iconst 2, 1), (462, .iadd, 1), (463, .iaload, 1), (464, .aload_n 0, 1), (465, .iload_n 3, 1), (466, .iconst 3, 1), (467, .iadd, 1), (468, .iaload, 1), (469, .aload_n 0, 1), (470, .iload_n 3, 1), (471, .iconst 4, 1), (472, .iadd, 1), (473, .iaload, 1), (474, .invokevirtual 40, 3), (477, .if_icmp .eq 510, 3), (480, .iconst 0, 1), (481, .ireturn, 1), (482, .aload_n 1, 1), (483, .aload_n 0, 1), (484, .iload_n 3, 1), (485, .iconst 1, 1), (486, .iadd, 1), (487, .iaload, 1), (488, .aload_n 0, 1), (489, .iload_n 3, 1), (490, .iconst 2, 1), (491, .iadd, 1), (492, .iaload, 1), (493, .aload_n 0, 1), (494, .iload_n 3, 1), (495, .iconst 3, 1), (496, .iadd, 1), (497, .iaload, 1), (498, .aload_n 0, 1), (499, .iload_n 3, 1), (500, .iconst 4, 1), (501, .iadd, 1), (502, .iaload, 1), (503, .invokevirtual 41, 3), (506, .aload_n 2, 1), (507, .aload_n 0, 1)]
def q_tL7 : List (Nat × Instr × Nat) := [(508, .iload_n 3, 1), (509, .iconst 1, 1), (510, .iadd, 1), (511, .iaload, 1), (512, .aload_n 0, 1), (513, .iload_n 3, 1), (514, .iconst 2, 1), (515, .iadd, 1), (516, .iaload, 1), (517, .aload_n 0, 1), (518, .iload_n 3, 1), (519, .iconst 3, 1), (520, .iadd, 1), (521, .iaload, 1), (522, .aload_n 0, 1), (523, .iload_n 3, 1), (524, .iconst 4, 1), (525, .iadd, 1), (526, .iaload, 1), (527, .invokevirtual 45, 3), (530, .if_icmp .eq 457, 3), (533, .iconst 0, 1), (534, .ireturn, 1), (535, .aload_n 1, 1), (536, .aload_n 0, 1), (537, .iload_n 3, 1), (538, .iconst 1, 1), (539, .iadd, 1), (540, .iaload, 1), (541, .invokevirtual 46, 3), (544, .aload_n 2, 1), (545, .aload_n 0, 1), (546, .iload_n 3, 1), (547, .iconst 1, 1), (548, .iadd, 1), (549, .iaload, 1), (550, .invokevirtual 50, 3), (553, .if_icmp .eq 434, 3), (556, .iconst 0, 1), (557, .ireturn, 1), (558, .aload_n 1, 1), (559, .aload_n 0, 1), (560, .iload_n 3, 1), (561, .iconst 1, 1), (562, .iadd, 1), (563, .iaload, 1), (564, .aload_n 0, 1), (565, .iload_n 3, 1)]
def q_tL8 : List (Nat × Instr × Nat) := [(566, .iconst 2, 1), (567, .iadd, 1), (568, .iaload, 1), (569, .invokevirtual 51, 3), (572, .aload_n 2, 1), (573, .aload_n 0, 1), (574, .iload_n 3, 1), (575, .iconst 1, 1), (576, .iadd, 1), (577, .iaload, 1), (578, .aload_n 0, 1), (579, .iload_n 3, 1), (580, .iconst 2, 1), (581, .iadd, 1), (582, .iaload, 1), (583, .invokevirtual 55, 3), (586, .if_icmp .eq 401, 3), (589, .iconst 0, 1), (590, .ireturn, 1), (591, .aload_n 1, 1), (592, .aload_n 0, 1), (593, .iload_n 3, 1), (594, .iconst 1, 1), (595, .iadd, 1), (596, .iaload, 1), (597, .invokevirtual 56, 3), (600, .aload_n 2, 1), (601, .aload_n 0, 1), (602, .iload_n 3, 1), (603, .iconst 1, 1), (604, .iadd, 1), (605, .iaload, 1), (606, .invokevirtual 59, 3), (609, .if_icmp .eq 378, 3), (612, .iconst 0, 1), (613, .ireturn, 1), (614, .aload_n 1, 1), (615, .aload_n 0, 1), (616, .iload_n 3, 1), (617, .iconst 1, 1), (618, .iadd, 1), (619, .iaload, 1), (620, .invokevirtual 60, 3), (623, .aload_n 2, 1), (624, .aload_n 0, 1), (625, .iload_n 3, 1), (626, .iconst 1, 1), (627, .iadd, 1)]
def q_tL9 : List (Nat × Instr × Nat) := [(628, .iaload, 1), (629, .invokevirtual 63, 3), (632, .if_icmp .eq 355, 3), (635, .iconst 0, 1), (636, .ireturn, 1), (637, .aload_n 1, 1), (638, .aload_n 0, 1), (639, .iload_n 3, 1), (640, .iconst 1, 1), (641, .iadd, 1), (642, .iaload, 1), (643, .aload_n 0, 1), (644, .iload_n 3, 1), (645, .iconst 2, 1), (646, .iadd, 1), (647, .iaload, 1), (648, .invokevirtual 64, 3), (651, .aload_n 2, 1), (652, .aload_n 0, 1), (653, .iload_n 3, 1), (654, .iconst 1, 1), (655, .iadd, 1), (656, .iaload, 1), (657, .aload_n 0, 1), (658, .iload_n 3, 1), (659, .iconst 2, 1), (660, .iadd, 1), (661, .iaload, 1), (662, .invokevirtual 67, 3), (665, .if_icmp .eq 322, 3), (668, .iconst 0, 1), (669, .ireturn, 1), (670, .aload_n 1, 1), (671, .aload_n 0, 1), (672, .iload_n 3, 1), (673, .iconst 1, 1), (674, .iadd, 1), (675, .iaload, 1), (676, .invokevirtual 68, 3), (679, .aload_n 2, 1), (680, .aload_n 0, 1), (681, .iload_n 3, 1), (682, .iconst 1, 1), (683, .iadd, 1), (684, .iaload, 1), (685, .invokevirtual 72, 3), (688, .lcmp, 1), (689, .ifCond .eq 298, 3)]
def q_tL10 : List (Nat × Instr × Nat) := [(692, .iconst 0, 1), (693, .ireturn, 1), (694, .aload_n 1, 1), (695, .aload_n 0, 1), (696, .iload_n 3, 1), (697, .iconst 1, 1), (698, .iadd, 1), (699, .iaload, 1), (700, .invokevirtual 73, 3), (703, .aload_n 2, 1), (704, .aload_n 0, 1), (705, .iload_n 3, 1), (706, .iconst 1, 1), (707, .iadd, 1), (708, .iaload, 1), (709, .invokevirtual 76, 3), (712, .if_icmp .eq 275, 3), (715, .iconst 0, 1), (716, .ireturn, 1), (717, .aload_n 1, 1), (718, .aload_n 0, 1), (719, .iload_n 3, 1), (720, .iconst 1, 1), (721, .iadd, 1), (722, .iaload, 1), (723, .aload_n 0, 1), (724, .iload_n 3, 1), (725, .iconst 2, 1), (726, .iadd, 1), (727, .iaload, 1), (728, .aload_n 0, 1), (729, .iload_n 3, 1), (730, .iconst 3, 1), (731, .iadd, 1), (732, .iaload, 1), (733, .invokevirtual 77, 3), (736, .aload_n 2, 1), (737, .aload_n 0, 1), (738, .iload_n 3, 1), (739, .iconst 1, 1), (740, .iadd, 1), (741, .iaload, 1), (742, .aload_n 0, 1), (743, .iload_n 3, 1), (744, .iconst 2, 1), (745, .iadd, 1), (746, .iaload, 1), (747, .aload_n 0, 1)]
def q_tL11 : List (Nat × Instr × Nat) := [(748, .iload_n 3, 1), (749, .iconst 3, 1), (750, .iadd, 1), (751, .iaload, 1), (752, .invokevirtual 81, 3), (755, .if_icmp .eq 232, 3), (758, .iconst 0, 1), (759, .ireturn, 1), (760, .aload_n 1, 1), (761, .aload_n 0, 1), (762, .iload_n 3, 1), (763, .iconst 1, 1), (764, .iadd, 1), (765, .iaload, 1), (766, .invokevirtual 82, 3), (769, .aload_n 2, 1), (770, .aload_n 0, 1), (771, .iload_n 3, 1), (772, .iconst 1, 1), (773, .iadd, 1), (774, .iaload, 1), (775, .invokevirtual 85, 3), (778, .if_icmp .eq 209, 3), (781, .iconst 0, 1), (782, .ireturn, 1), (783, .aload_n 1, 1), (784, .aload_n 0, 1), (785, .iload_n 3, 1), (786, .iconst 1, 1), (787, .iadd, 1), (788, .iaload, 1), (789, .invokevirtual 86, 3), (792, .aload_n 2, 1), (793, .aload_n 0, 1), (794, .iload_n 3, 1), (795, .iconst 1, 1), (796, .iadd, 1), (797, .iaload, 1), (798, .invokevirtual 89, 3), (801, .if_icmp .eq 186, 3), (804, .iconst 0, 1), (805, .ireturn, 1), (806, .aload_n 1, 1), (807, .aload_n 0, 1), (808, .iload_n 3, 1), (809, .iconst 1, 1), (810, .iadd, 1), (811, .iaload, 1)]
def q_tL12 : List (Nat × Instr × Nat) := [(812, .aload_n 0, 1), (813, .iload_n 3, 1), (814, .iconst 2, 1), (815, .iadd, 1), (816, .iaload, 1), (817, .invokevirtual 90, 3), (820, .aload_n 2, 1), (821, .aload_n 0, 1), (822, .iload_n 3, 1), (823, .iconst 1, 1), (824, .iadd, 1), (825, .iaload, 1), (826, .aload_n 0, 1), (827, .iload_n 3, 1), (828, .iconst 2, 1), (829, .iadd, 1), (830, .iaload, 1), (831, .invokevirtual 93, 3), (834, .if_icmp .eq 153, 3), (837, .iconst 0, 1), (838, .ireturn, 1), (839, .aload_n 1, 1), (840, .aload_n 0, 1), (841, .iload_n 3, 1), (842, .iconst 1, 1), (843, .iadd, 1), (844, .iaload, 1), (845, .aload_n 0, 1), (846, .iload_n 3, 1), (847, .iconst 2, 1), (848, .iadd, 1), (849, .iaload, 1), (850, .invokevirtual 94, 3), (853, .aload_n 2, 1), (854, .aload_n 0, 1), (855, .iload_n 3, 1), (856, .iconst 1, 1), (857, .iadd, 1), (858, .iaload, 1), (859, .aload_n 0, 1), (860, .iload_n 3, 1), (861, .iconst 2, 1), (862, .iadd, 1), (863, .iaload, 1), (864, .invokevirtual 97, 3), (867, .if_icmp .eq 120, 3), (870, .iconst 0, 1), (871, .ireturn, 1)]
def q_tL13 : List (Nat × Instr × Nat) := [(872, .aload_n 1, 1), (873, .invokevirtual 98, 3), (876, .aload_n 2, 1), (877, .invokevirtual 102, 3), (880, .if_icmp .eq 107, 3), (883, .iconst 0, 1), (884, .ireturn, 1), (885, .aload_n 1, 1), (886, .aload_n 0, 1), (887, .iload_n 3, 1), (888, .iconst 1, 1), (889, .iadd, 1), (890, .iaload, 1), (891, .invokevirtual 103, 3), (894, .aload_n 2, 1), (895, .aload_n 0, 1), (896, .iload_n 3, 1), (897, .iconst 1, 1), (898, .iadd, 1), (899, .iaload, 1), (900, .invokevirtual 106, 3), (903, .if_icmp .eq 84, 3), (906, .iconst 0, 1), (907, .ireturn, 1), (908, .aload_n 1, 1), (909, .aload_n 0, 1), (910, .iload_n 3, 1), (911, .iconst 1, 1), (912, .iadd, 1), (913, .iaload, 1), (914, .invokevirtual 107, 3), (917, .aload_n 2, 1), (918, .aload_n 0, 1), (919, .iload_n 3, 1), (920, .iconst 1, 1), (921, .iadd, 1), (922, .iaload, 1), (923, .invokevirtual 110, 3), (926, .if_icmp .eq 61, 3), (929, .iconst 0, 1), (930, .ireturn, 1), (931, .aload_n 1, 1), (932, .aload_n 0, 1), (933, .iload_n 3, 1), (934, .iconst 1, 1), (935, .iadd, 1), (936, .iaload, 1), (937, .aload_n 0, 1)]
def q_tL14 : List (Nat × Instr × Nat) := [(938, .iload_n 3, 1), (939, .iconst 2, 1), (940, .iadd, 1), (941, .iaload, 1), (942, .invokevirtual 111, 3), (945, .aload_n 2, 1), (946, .aload_n 0, 1), (947, .iload_n 3, 1), (948, .iconst 1, 1), (949, .iadd, 1), (950, .iaload, 1), (951, .aload_n 0, 1), (952, .iload_n 3, 1), (953, .iconst 2, 1), (954, .iadd, 1), (955, .iaload, 1), (956, .invokevirtual 114, 3), (959, .if_icmp .eq 28, 3), (962, .iconst 0, 1), (963, .ireturn, 1), (964, .aload_n 1, 1), (965, .aload_n 0, 1), (966, .iload_n 3, 1), (967, .iconst 1, 1), (968, .iadd, 1), (969, .iaload, 1), (970, .invokevirtual 115, 3), (973, .aload_n 2, 1), (974, .aload_n 0, 1), (975, .iload_n 3, 1), (976, .iconst 1, 1), (977, .iadd, 1), (978, .iaload, 1), (979, .invokevirtual 118, 3), (982, .if_icmp .eq 5, 3), (985, .iconst 0, 1), (986, .ireturn, 1), (987, .iinc 3 8, 3), (990, .goto (-972), 3), (993, .iconst 1, 1), (994, .ireturn, 1)]
def q_t_L_law : List (Nat × Instr × Nat) := q_tL0 ++ (q_tL1 ++ (q_tL2 ++ (q_tL3 ++ (q_tL4 ++ (q_tL5 ++ (q_tL6 ++ (q_tL7 ++ (q_tL8 ++ (q_tL9 ++ (q_tL10 ++ (q_tL11 ++ (q_tL12 ++ (q_tL13 ++ (q_tL14))))))))))))))
def q_pairs : List (List (Nat × Instr × Nat) × ByteArray) := [(q_t_X0_add, cX0_add), (q_t_X0_size, cX0_size), (q_t_X0_has, cX0_has), (q_t_X0_programOf, cX0_programOf), (q_t_X0_partOf, cX0_partOf), (q_t_X0_fromOf, cX0_fromOf), (q_t_X0_toOf, cX0_toOf), (q_t_X0_ticksOf, cX0_ticksOf), (q_t_X0_endAhead, cX0_endAhead), (q_t_X0_firstEndWithNone, cX0_firstEndWithNone), (q_t_X1_setDrains, cX1_setDrains), (q_t_X1_setCosts, cX1_setCosts), (q_t_X1_setRising, cX1_setRising), (q_t_X1_setThresholds, cX1_setThresholds), (q_t_X1_drainIn, cX1_drainIn), (q_t_X1_drainAwake, cX1_drainAwake), (q_t_X1_restIn, cX1_restIn), (q_t_X1_sumIn, cX1_sumIn), (q_t_X1_bestState, cX1_bestState), (q_t_X1_planned, cX1_planned), (q_t_X1_stateByRule, cX1_stateByRule), (q_t_X1_restByRule, cX1_restByRule), (q_t_X1_sumByRule, cX1_sumByRule), (q_t_X1_spanByRule, cX1_spanByRule), (q_t_X1_sumOfTry, cX1_sumOfTry), (q_t_X1_takeBestThresholds, cX1_takeBestThresholds), (q_t_X1_bestLaterOff, cX1_bestLaterOff), (q_t_X2_layOut, cX2_layOut), (q_t_X2_size, cX2_size), (q_t_X2_has, cX2_has), (q_t_X2_firstOf, cX2_firstOf), (q_t_X2_lenOf, cX2_lenOf), (q_t_X2_endsAll, cX2_endsAll), (q_t_X2_find, cX2_find), (q_t_X2_longest, cX2_longest), (q_t_X3_clear, cX3_clear), (q_t_X3_add, cX3_add), (q_t_X3_spread, cX3_spread), (q_t_X3_addAll, cX3_addAll), (q_t_X3_ticksBy, cX3_ticksBy), (q_t_X3_ticksOf, cX3_ticksOf), (q_t_X3_programsAt, cX3_programsAt), (q_t_X4_part, cX4_part), (q_t_X4_rise, cX4_rise), (q_t_X4_need, cX4_need), (q_t_X4_hold, cX4_hold), (q_t_X4_back, cX4_back), (q_t_X4_timer, cX4_timer), (q_t_X4_rule, cX4_rule), (q_t_X4_learn, cX4_learn), (q_t_X4_look, cX4_look), (q_t_X4_held, cX4_held), (q_t_X4_waking, cX4_waking), (q_t_X4_fires, cX4_fires), (q_t_X4_wanted, cX4_wanted), (q_t_X4_when, cX4_when), (q_t_X4_spans, cX4_spans), (q_t_X4_span, cX4_span), (q_t_X4_drain, cX4_drain), (q_t_X4_ruled, cX4_ruled), (q_t_X4_state, cX4_state), (q_t_X4_ruledState, cX4_ruledState), (q_t_X4_all, cX4_all), (q_t_X4_without, cX4_without), (q_t_X4_blame, cX4_blame), (q_t_X4_order, cX4_order), (q_t_X4_isPart, cX4_isPart), (q_t_X4_isProgram, cX4_isProgram), (q_t_X4_isTick, cX4_isTick), (q_t_X4_rises, cX4_rises), (q_t_X4_hasPart, cX4_hasPart), (q_t_X4_hasTick, cX4_hasTick), (q_t_X4_leastTick, cX4_leastTick), (q_t_X4_ticksAhead, cX4_ticksAhead), (q_t_X4_leadsTo, cX4_leadsTo), (q_t_X4_fewestWakings, cX4_fewestWakings), (q_t_X4_gatherWants, cX4_gatherWants), (q_t_X4_layOutIdle, cX4_layOutIdle), (q_t_X4_drainInPlan, cX4_drainInPlan), (q_t_X4_drainByRule, cX4_drainByRule), (q_t_X4_drainInSpans, cX4_drainInSpans), (q_t_X4_drainOfAll, cX4_drainOfAll), (q_t_X4_blameIn, cX4_blameIn), (q_t_X4_gettingUp, cX4_gettingUp), (q_t_X4_leastReady, cX4_leastReady), (q_t_X5_isIn, cX5_isIn), (q_t_X5_isPart, cX5_isPart), (q_t_X5_isTick, cX5_isTick), (q_t_X5_part, cX5_part), (q_t_X5_rise, cX5_rise), (q_t_X5_reaches, cX5_reaches), (q_t_X5_need, cX5_need), (q_t_X5_isProgram, cX5_isProgram), (q_t_X5_hold, cX5_hold), (q_t_X5_back, cX5_back), (q_t_X5_timer, cX5_timer), (q_t_X5_rule, cX5_rule), (q_t_X5_wakes, cX5_wakes), (q_t_X5_firesAt, cX5_firesAt), (q_t_X5_waking, cX5_waking), (q_t_X5_fires, cX5_fires), (q_t_X5_look, cX5_look), (q_t_X5_held, cX5_held), (q_t_X5_wants, cX5_wants), (q_t_X5_isWanted, cX5_isWanted), (q_t_X5_wanted, cX5_wanted), (q_t_X5_when, cX5_when), (q_t_X5_begins, cX5_begins), (q_t_X5_isLast, cX5_isLast), (q_t_X5_costs, cX5_costs), (q_t_X5_choice, cX5_choice), (q_t_X5_spans, cX5_spans), (q_t_X5_span, cX5_span), (q_t_X5_ofSpan, cX5_ofSpan), (q_t_X5_drained, cX5_drained), (q_t_X5_drain, cX5_drain), (q_t_X5_state, cX5_state), (q_t_X5_ruleState, cX5_ruleState), (q_t_X5_ahead, cX5_ahead), (q_t_X5_rises, cX5_rises), (q_t_X5_ruledSpan, cX5_ruledSpan), (q_t_X5_ruledSum, cX5_ruledSum), (q_t_X5_ruled, cX5_ruled), (q_t_X5_ruledState, cX5_ruledState), (q_t_X5_learn, cX5_learn), (q_t_X5_all, cX5_all), (q_t_X5_without, cX5_without), (q_t_X5_bits, cX5_bits), (q_t_X5_blame, cX5_blame), (q_t_X5_order, cX5_order), (q_t_X5_isFirst, cX5_isFirst), (q_t_J13_bitCount_95d88, cJ13_bitCount_95d88)]
def q_tab (mi : Nat) : Nat → Option (Instr × Nat) := q_pcs (q_pairs.getD mi ([], code)).1
abbrev q_mYs : List MethodName := [yX0_add, yX0_size, yX0_has, yX0_programOf, yX0_partOf, yX0_fromOf, yX0_toOf, yX0_ticksOf, yX0_endAhead, yX0_firstEndWithNone, yX1_setDrains, yX1_setCosts, yX1_setRising, yX1_setThresholds, yX1_drainIn, yX1_drainAwake, yX1_restIn, yX1_sumIn, yX1_bestState, yX1_planned, yX1_stateByRule, yX1_restByRule, yX1_sumByRule, yX1_spanByRule, yX1_sumOfTry, yX1_takeBestThresholds, yX1_bestLaterOff, yX2_layOut, yX2_size, yX2_has, yX2_firstOf, yX2_lenOf, yX2_endsAll, yX2_find, yX2_longest, yX3_clear, yX3_add, yX3_spread, yX3_addAll, yX3_ticksBy, yX3_ticksOf, yX3_programsAt, yX4_part, yX4_rise, yX4_need, yX4_hold, yX4_back, yX4_timer, yX4_rule, yX4_learn, yX4_look, yX4_held, yX4_waking, yX4_fires, yX4_wanted, yX4_when, yX4_spans, yX4_span, yX4_drain, yX4_ruled, yX4_state, yX4_ruledState, yX4_all, yX4_without, yX4_blame, yX4_order, yX4_isPart, yX4_isProgram, yX4_isTick, yX4_rises, yX4_hasPart, yX4_hasTick, yX4_leastTick, yX4_ticksAhead, yX4_leadsTo, yX4_fewestWakings, yX4_gatherWants, yX4_layOutIdle, yX4_drainInPlan, yX4_drainByRule, yX4_drainInSpans, yX4_drainOfAll, yX4_blameIn, yX4_gettingUp, yX4_leastReady, yX5_isIn, yX5_isPart, yX5_isTick, yX5_part, yX5_rise, yX5_reaches, yX5_need, yX5_isProgram, yX5_hold, yX5_back, yX5_timer, yX5_rule, yX5_wakes, yX5_firesAt, yX5_waking, yX5_fires, yX5_look, yX5_held, yX5_wants, yX5_isWanted, yX5_wanted, yX5_when, yX5_begins, yX5_isLast, yX5_costs, yX5_choice, yX5_spans, yX5_span, yX5_ofSpan, yX5_drained, yX5_drain, yX5_state, yX5_ruleState, yX5_ahead, yX5_rises, yX5_ruledSpan, yX5_ruledSum, yX5_ruled, yX5_ruledState, yX5_learn, yX5_all, yX5_without, yX5_bits, yX5_blame, yX5_order, yX5_isFirst, yJ13_bitCount_95d88]
def q_mY (mi : Nat) : MethodName := q_mYs.getD mi yL_law
def q_mC (mi : Nat) : ByteArray := (q_pairs.getD mi ([], code)).2
def q_mT (mi : Nat) : Option FieldType := ([some .int, some .int, some .boolean, some .int, some .int, some .int, some .int, some .long, none, some .int, none, none, none, none, some .int, some .int, some .int, some .int, some .int, some .int, some .int, some .int, some .int, some .int, some .int, none, some .int, none, some .int, some .boolean, some .int, some .int, some .boolean, some .int, some .int, none, none, none, none, some .long, some .long, some .int, some .int, some .boolean, some .boolean, some .int, some .boolean, some .int, some .boolean, some .int, some .int, some .int, some .int, some .int, some .int, some .long, some .int, some .int, some .int, some .int, some .int, some .int, some .int, some .int, some .int, some .int, some .boolean, some .boolean, some .boolean, some .boolean, some .boolean, some .boolean, some .int, some .long, some .boolean, some .long, none, none, some .int, some .int, some .int, some .int, some .int, some .int, some .int, some .boolean, some .boolean, some .boolean, some .int, some .boolean, some .boolean, some .boolean, some .boolean, some .int, some .boolean, some .int, some .boolean, none, some .int, some .int, some .int, some .int, some .int, none, some .boolean, some .int, some .long, some .boolean, some .boolean, some .int, some .int, some .int, some .int, some .int, some .int, some .int, some .int, some .int, some .int, some .int, some .int, some .int, some .int, some .int, some .int, some .int, some .int, some .int, some .int, some .int, some .boolean, some .int] : List (Option FieldType)).getD mi none
def q_cN (oc : Nat) : String := ([RX0, RX1, RX2, RX3, RX4, RX5, RJ13, RJ9, RL] : List String).getD oc ""
/-! ===== the abstract machine: what a method does, over a heap of numbers; no state of the JVM in it ===== -/
/-- a value: an int, a long, or the i-th object of kind k -/
abbrev q_V : Type := Int32 ⊕ (Int64 ⊕ (Nat × Nat))
abbrev q_i (x : Int32) : q_V := .inl x
abbrev q_l (x : Int64) : q_V := .inr (.inl x)
abbrev q_r (k i : Nat) : q_V := .inr (.inr (k, i))
/-- the numbers of the heap: kind, which one, place -/
abbrev q_H : Type := (Nat → Nat → Nat → Int32) × (Nat → Nat → Nat → Int64)
def q_sI (h : q_H) (k i j : Nat) (v : Int32) : q_H := (fun k1 i1 j1 => if k1 = k ∧ i1 = i ∧ j1 = j then v else h.1 k1 i1 j1, h.2)
def q_sL (h : q_H) (k i j : Nat) (v : Int64) : q_H := (h.1, fun k1 i1 j1 => if k1 = k ∧ i1 = i ∧ j1 = j then v else h.2 k1 i1 j1)
def q_cat (v : q_V) : Nat := match v with
  | .inr (.inl _) => 2
  | _ => 1
def q_get : List (Nat × q_V) → Nat → Option q_V
  | [], _ => none
  | q :: l, i => bif Nat.beq q.1 i then some q.2 else q_get l i
def q_set (l : List (Nat × q_V)) (i : Nat) (v : q_V) : List (Nat × q_V) := (i, v) :: l.filter (fun q => !(q.1 == i) && !(q.1 + 1 == i && q_cat q.2 == 2))
def q_set2 (l : List (Nat × q_V)) (i : Nat) (v : q_V) : List (Nat × q_V) := (i, v) :: l.filter (fun q => !(q.1 == i) && (!(q.1 == i + 1) && !(q.1 + 1 == i && q_cat q.2 == 2)))
def q_args : Nat → List q_V → List (Nat × q_V)
  | _, [] => []
  | i, v :: vs => (i, v) :: q_args (if q_cat v = 2 then i + 2 else i + 1) vs
def q_size (vs : List q_V) : Nat := (vs.map q_cat).sum
section QM
variable (tab : Nat → Option (Instr × Nat)) (oc nL : Nat) (sc : Option (Nat × (Nat → Int32))) (X : Nat → List (Nat × q_V) → List q_V → q_H → Prop)
def q_c_iconst : Prop := ∀ (pc : Nat) (ls : List (Nat × q_V)) (st : List q_V) (h : q_H) (n : Int) (v : Int32), tab pc = some (.iconst n, 1) → Int32.ofInt n = v → X (pc + 1) ls (q_i v :: st) h → X pc ls (st) h
def q_c_bipush : Prop := ∀ (pc : Nat) (ls : List (Nat × q_V)) (st : List q_V) (h : q_H) (n : Int) (v : Int32), tab pc = some (.bipush n, 2) → (Int8.ofInt n).toInt32 = v → X (pc + 2) ls (q_i v :: st) h → X pc ls (st) h
def q_c_sipush : Prop := ∀ (pc : Nat) (ls : List (Nat × q_V)) (st : List q_V) (h : q_H) (n : Int) (v : Int32), tab pc = some (.sipush n, 3) → (Int16.ofInt n).toInt32 = v → X (pc + 3) ls (q_i v :: st) h → X pc ls (st) h
def q_c_lconst : Prop := ∀ (pc : Nat) (ls : List (Nat × q_V)) (st : List q_V) (h : q_H) (n : Fin 2) (v : Int64), tab pc = some (.lconst n, 1) → Int64.ofNat (n : Nat) = v → X (pc + 1) ls (q_l v :: st) h → X pc ls (st) h
def q_c_ldc : Prop := ∀ (pc : Nat) (ls : List (Nat × q_V)) (st : List q_V) (h : q_H) (i : Nat) (v : Int32), tab pc = some (.ldc i, 2) → q_cst oc i = some v → X (pc + 2) ls (q_i v :: st) h → X pc ls (st) h
def q_c_ldc2 : Prop := ∀ (pc : Nat) (ls : List (Nat × q_V)) (st : List q_V) (h : q_H) (i : Nat) (v : Int64), tab pc = some (.ldc2_w i, 3) → q_cstL oc i = some v → X (pc + 3) ls (q_l v :: st) h → X pc ls (st) h
def q_c_iload_n : Prop := ∀ (pc : Nat) (ls : List (Nat × q_V)) (st : List q_V) (h : q_H) (k : Fin 4) (x : Int32), tab pc = some (.iload_n k, 1) → q_get ls (k : Nat) = some (q_i x) → X (pc + 1) ls (q_i x :: st) h → X pc ls (st) h
def q_c_iload : Prop := ∀ (pc : Nat) (ls : List (Nat × q_V)) (st : List q_V) (h : q_H) (k : Nat) (x : Int32), tab pc = some (.iload k, 2) → q_get ls k = some (q_i x) → X (pc + 2) ls (q_i x :: st) h → X pc ls (st) h
def q_c_lload_n : Prop := ∀ (pc : Nat) (ls : List (Nat × q_V)) (st : List q_V) (h : q_H) (k : Fin 4) (x : Int64), tab pc = some (.lload_n k, 1) → q_get ls (k : Nat) = some (q_l x) → X (pc + 1) ls (q_l x :: st) h → X pc ls (st) h
def q_c_lload : Prop := ∀ (pc : Nat) (ls : List (Nat × q_V)) (st : List q_V) (h : q_H) (k : Nat) (x : Int64), tab pc = some (.lload k, 2) → q_get ls k = some (q_l x) → X (pc + 2) ls (q_l x :: st) h → X pc ls (st) h
def q_c_aload_n : Prop := ∀ (pc : Nat) (ls : List (Nat × q_V)) (st : List q_V) (h : q_H) (k : Fin 4) (a b : Nat), tab pc = some (.aload_n k, 1) → q_get ls (k : Nat) = some (q_r a b) → X (pc + 1) ls (q_r a b :: st) h → X pc ls (st) h
def q_c_istore_n : Prop := ∀ (pc : Nat) (ls ls1 : List (Nat × q_V)) (st : List q_V) (h : q_H) (k : Fin 4) (x : Int32), tab pc = some (.istore_n k, 1) → (k : Nat) < nL → q_set ls (k : Nat) (q_i x) = ls1 → X (pc + 1) ls1 st h → X pc ls (q_i x :: st) h
def q_c_istore : Prop := ∀ (pc : Nat) (ls ls1 : List (Nat × q_V)) (st : List q_V) (h : q_H) (k : Nat) (x : Int32), tab pc = some (.istore k, 2) → k < nL → q_set ls k (q_i x) = ls1 → X (pc + 2) ls1 st h → X pc ls (q_i x :: st) h
def q_c_lstore_n : Prop := ∀ (pc : Nat) (ls ls1 : List (Nat × q_V)) (st : List q_V) (h : q_H) (k : Fin 4) (x : Int64), tab pc = some (.lstore_n k, 1) → (k : Nat) + 1 < nL → q_set2 ls (k : Nat) (q_l x) = ls1 → X (pc + 1) ls1 st h → X pc ls (q_l x :: st) h
def q_c_lstore : Prop := ∀ (pc : Nat) (ls ls1 : List (Nat × q_V)) (st : List q_V) (h : q_H) (k : Nat) (x : Int64), tab pc = some (.lstore k, 2) → k + 1 < nL → q_set2 ls k (q_l x) = ls1 → X (pc + 2) ls1 st h → X pc ls (q_l x :: st) h
def q_c_iinc : Prop := ∀ (pc : Nat) (ls ls1 : List (Nat × q_V)) (st : List q_V) (h : q_H) (k : Nat) (n : Int) (x v : Int32), tab pc = some (.iinc k n, 3) → k < nL → q_get ls k = some (q_i x) → x + Int32.ofInt n = v → q_set ls k (q_i v) = ls1 → X (pc + 3) ls1 st h → X pc ls st h
def q_c_iadd : Prop := ∀ (pc : Nat) (ls : List (Nat × q_V)) (st : List q_V) (h : q_H) (x y : Int32), tab pc = some (.iadd, 1) → X (pc + 1) ls (q_i (x + y) :: st) h → X pc ls (q_i y :: q_i x :: st) h
def q_c_isub : Prop := ∀ (pc : Nat) (ls : List (Nat × q_V)) (st : List q_V) (h : q_H) (x y : Int32), tab pc = some (.isub, 1) → X (pc + 1) ls (q_i (x - y) :: st) h → X pc ls (q_i y :: q_i x :: st) h
def q_c_imul : Prop := ∀ (pc : Nat) (ls : List (Nat × q_V)) (st : List q_V) (h : q_H) (x y : Int32), tab pc = some (.imul, 1) → X (pc + 1) ls (q_i (x * y) :: st) h → X pc ls (q_i y :: q_i x :: st) h
def q_c_iand : Prop := ∀ (pc : Nat) (ls : List (Nat × q_V)) (st : List q_V) (h : q_H) (x y : Int32), tab pc = some (.iand, 1) → X (pc + 1) ls (q_i (x &&& y) :: st) h → X pc ls (q_i y :: q_i x :: st) h
def q_c_ior : Prop := ∀ (pc : Nat) (ls : List (Nat × q_V)) (st : List q_V) (h : q_H) (x y : Int32), tab pc = some (.ior, 1) → X (pc + 1) ls (q_i (x ||| y) :: st) h → X pc ls (q_i y :: q_i x :: st) h
def q_c_ixor : Prop := ∀ (pc : Nat) (ls : List (Nat × q_V)) (st : List q_V) (h : q_H) (x y : Int32), tab pc = some (.ixor, 1) → X (pc + 1) ls (q_i (x ^^^ y) :: st) h → X pc ls (q_i y :: q_i x :: st) h
def q_c_ishl : Prop := ∀ (pc : Nat) (ls : List (Nat × q_V)) (st : List q_V) (h : q_H) (x y : Int32), tab pc = some (.ishl, 1) → X (pc + 1) ls (q_i (x <<< (y &&& 31)) :: st) h → X pc ls (q_i y :: q_i x :: st) h
def q_c_ishr : Prop := ∀ (pc : Nat) (ls : List (Nat × q_V)) (st : List q_V) (h : q_H) (x y : Int32), tab pc = some (.ishr, 1) → X (pc + 1) ls (q_i (x >>> (y &&& 31)) :: st) h → X pc ls (q_i y :: q_i x :: st) h
def q_c_idiv : Prop := ∀ (pc : Nat) (ls : List (Nat × q_V)) (st : List q_V) (h : q_H) (x y : Int32), tab pc = some (.idiv, 1) → ¬ y = 0 → X (pc + 1) ls (q_i (x / y) :: st) h → X pc ls (q_i y :: q_i x :: st) h
def q_c_iushr : Prop := ∀ (pc : Nat) (ls : List (Nat × q_V)) (st : List q_V) (h : q_H) (x y : Int32), tab pc = some (.iushr, 1) → X (pc + 1) ls (q_i ((x.toUInt32 >>> (y.toUInt32 &&& Int32.toUInt32 31)).toInt32) :: st) h → X pc ls (q_i y :: q_i x :: st) h
def q_c_ladd : Prop := ∀ (pc : Nat) (ls : List (Nat × q_V)) (st : List q_V) (h : q_H) (x y : Int64), tab pc = some (.ladd, 1) → X (pc + 1) ls (q_l (x + y) :: st) h → X pc ls (q_l y :: q_l x :: st) h
def q_c_lsub : Prop := ∀ (pc : Nat) (ls : List (Nat × q_V)) (st : List q_V) (h : q_H) (x y : Int64), tab pc = some (.lsub, 1) → X (pc + 1) ls (q_l (x - y) :: st) h → X pc ls (q_l y :: q_l x :: st) h
def q_c_land : Prop := ∀ (pc : Nat) (ls : List (Nat × q_V)) (st : List q_V) (h : q_H) (x y : Int64), tab pc = some (.land, 1) → X (pc + 1) ls (q_l (x &&& y) :: st) h → X pc ls (q_l y :: q_l x :: st) h
def q_c_lor : Prop := ∀ (pc : Nat) (ls : List (Nat × q_V)) (st : List q_V) (h : q_H) (x y : Int64), tab pc = some (.lor, 1) → X (pc + 1) ls (q_l (x ||| y) :: st) h → X pc ls (q_l y :: q_l x :: st) h
def q_c_lxor : Prop := ∀ (pc : Nat) (ls : List (Nat × q_V)) (st : List q_V) (h : q_H) (x y : Int64), tab pc = some (.lxor, 1) → X (pc + 1) ls (q_l (x ^^^ y) :: st) h → X pc ls (q_l y :: q_l x :: st) h
def q_c_lshl : Prop := ∀ (pc : Nat) (ls : List (Nat × q_V)) (st : List q_V) (h : q_H) (x : Int64) (y : Int32), tab pc = some (.lshl, 1) → X (pc + 1) ls (q_l (x <<< (y.toInt64 &&& 63)) :: st) h → X pc ls (q_i y :: q_l x :: st) h
def q_c_lushr : Prop := ∀ (pc : Nat) (ls : List (Nat × q_V)) (st : List q_V) (h : q_H) (x : Int64) (y : Int32), tab pc = some (.lushr, 1) → X (pc + 1) ls (q_l ((x.toUInt64 >>> (y.toInt64.toUInt64 &&& Int64.toUInt64 63)).toInt64) :: st) h → X pc ls (q_i y :: q_l x :: st) h
def q_c_lcmp : Prop := ∀ (pc : Nat) (ls : List (Nat × q_V)) (st : List q_V) (h : q_H) (x y : Int64), tab pc = some (.lcmp, 1) → X (pc + 1) ls (q_i (lg_cmp x y) :: st) h → X pc ls (q_l y :: q_l x :: st) h
def q_c_l2i : Prop := ∀ (pc : Nat) (ls : List (Nat × q_V)) (st : List q_V) (h : q_H) (x : Int64), tab pc = some (.l2i, 1) → X (pc + 1) ls (q_i x.toInt32 :: st) h → X pc ls (q_l x :: st) h
def q_c_dup : Prop := ∀ (pc : Nat) (ls : List (Nat × q_V)) (st : List q_V) (h : q_H) (v : q_V), tab pc = some (.dup, 1) → q_cat v = 1 → X (pc + 1) ls (v :: v :: st) h → X pc ls (v :: st) h
def q_c_dup2_11 : Prop := ∀ (pc : Nat) (ls : List (Nat × q_V)) (st : List q_V) (h : q_H) (v w : q_V), tab pc = some (.dup2, 1) → q_cat v = 1 → q_cat w = 1 → X (pc + 1) ls (v :: w :: v :: w :: st) h → X pc ls (v :: w :: st) h
def q_c_if_ne : Prop := ∀ (pc : Nat) (ls : List (Nat × q_V)) (st : List q_V) (h : q_H) (off : Int) (tgt : Nat) (x : Int32), tab pc = some (.ifCond .ne off, 3) → (pc : Int) + off = (tgt : Int) → (¬ (x = 0) → X tgt ls st h) → ((x = 0) → X (pc + 3) ls st h) → X pc ls (q_i x :: st) h
def q_c_icmp_ne : Prop := ∀ (pc : Nat) (ls : List (Nat × q_V)) (st : List q_V) (h : q_H) (off : Int) (tgt : Nat) (x y : Int32), tab pc = some (.if_icmp .ne off, 3) → (pc : Int) + off = (tgt : Int) → (¬ (x = y) → X tgt ls st h) → ((x = y) → X (pc + 3) ls st h) → X pc ls (q_i y :: q_i x :: st) h
def q_c_if_eq : Prop := ∀ (pc : Nat) (ls : List (Nat × q_V)) (st : List q_V) (h : q_H) (off : Int) (tgt : Nat) (x : Int32), tab pc = some (.ifCond .eq off, 3) → (pc : Int) + off = (tgt : Int) → ((x = 0) → X tgt ls st h) → (¬ (x = 0) → X (pc + 3) ls st h) → X pc ls (q_i x :: st) h
def q_c_if_lt : Prop := ∀ (pc : Nat) (ls : List (Nat × q_V)) (st : List q_V) (h : q_H) (off : Int) (tgt : Nat) (x : Int32), tab pc = some (.ifCond .lt off, 3) → (pc : Int) + off = (tgt : Int) → ((x < 0) → X tgt ls st h) → (¬ (x < 0) → X (pc + 3) ls st h) → X pc ls (q_i x :: st) h
def q_c_if_ge : Prop := ∀ (pc : Nat) (ls : List (Nat × q_V)) (st : List q_V) (h : q_H) (off : Int) (tgt : Nat) (x : Int32), tab pc = some (.ifCond .ge off, 3) → (pc : Int) + off = (tgt : Int) → ((0 ≤ x) → X tgt ls st h) → (¬ (0 ≤ x) → X (pc + 3) ls st h) → X pc ls (q_i x :: st) h
def q_c_if_gt : Prop := ∀ (pc : Nat) (ls : List (Nat × q_V)) (st : List q_V) (h : q_H) (off : Int) (tgt : Nat) (x : Int32), tab pc = some (.ifCond .gt off, 3) → (pc : Int) + off = (tgt : Int) → ((0 < x) → X tgt ls st h) → (¬ (0 < x) → X (pc + 3) ls st h) → X pc ls (q_i x :: st) h
def q_c_if_le : Prop := ∀ (pc : Nat) (ls : List (Nat × q_V)) (st : List q_V) (h : q_H) (off : Int) (tgt : Nat) (x : Int32), tab pc = some (.ifCond .le off, 3) → (pc : Int) + off = (tgt : Int) → ((x ≤ 0) → X tgt ls st h) → (¬ (x ≤ 0) → X (pc + 3) ls st h) → X pc ls (q_i x :: st) h
def q_c_icmp_eq : Prop := ∀ (pc : Nat) (ls : List (Nat × q_V)) (st : List q_V) (h : q_H) (off : Int) (tgt : Nat) (x y : Int32), tab pc = some (.if_icmp .eq off, 3) → (pc : Int) + off = (tgt : Int) → ((x = y) → X tgt ls st h) → (¬ (x = y) → X (pc + 3) ls st h) → X pc ls (q_i y :: q_i x :: st) h
def q_c_icmp_lt : Prop := ∀ (pc : Nat) (ls : List (Nat × q_V)) (st : List q_V) (h : q_H) (off : Int) (tgt : Nat) (x y : Int32), tab pc = some (.if_icmp .lt off, 3) → (pc : Int) + off = (tgt : Int) → ((x < y) → X tgt ls st h) → (¬ (x < y) → X (pc + 3) ls st h) → X pc ls (q_i y :: q_i x :: st) h
def q_c_icmp_ge : Prop := ∀ (pc : Nat) (ls : List (Nat × q_V)) (st : List q_V) (h : q_H) (off : Int) (tgt : Nat) (x y : Int32), tab pc = some (.if_icmp .ge off, 3) → (pc : Int) + off = (tgt : Int) → ((y ≤ x) → X tgt ls st h) → (¬ (y ≤ x) → X (pc + 3) ls st h) → X pc ls (q_i y :: q_i x :: st) h
def q_c_icmp_gt : Prop := ∀ (pc : Nat) (ls : List (Nat × q_V)) (st : List q_V) (h : q_H) (off : Int) (tgt : Nat) (x y : Int32), tab pc = some (.if_icmp .gt off, 3) → (pc : Int) + off = (tgt : Int) → ((y < x) → X tgt ls st h) → (¬ (y < x) → X (pc + 3) ls st h) → X pc ls (q_i y :: q_i x :: st) h
def q_c_icmp_le : Prop := ∀ (pc : Nat) (ls : List (Nat × q_V)) (st : List q_V) (h : q_H) (off : Int) (tgt : Nat) (x y : Int32), tab pc = some (.if_icmp .le off, 3) → (pc : Int) + off = (tgt : Int) → ((x ≤ y) → X tgt ls st h) → (¬ (x ≤ y) → X (pc + 3) ls st h) → X pc ls (q_i y :: q_i x :: st) h
def q_c_goto : Prop := ∀ (pc : Nat) (ls : List (Nat × q_V)) (st : List q_V) (h : q_H) (off : Int) (tgt : Nat), tab pc = some (.goto off, 3) → (pc : Int) + off = (tgt : Int) → X tgt ls st h → X pc ls st h
def q_c_tsOut : Prop := ∀ (pc : Nat) (ls : List (Nat × q_V)) (st : List q_V) (h : q_H) (dflt lo hi : Int) (offs : Array Int) (len : Nat) (x : Int32) (tgt : Nat), tab pc = some (.tableswitch dflt lo hi offs, len) → (x.toInt < lo ∨ hi < x.toInt) → (pc : Int) + dflt = (tgt : Int) → X tgt ls st h → X pc ls (q_i x :: st) h
def q_c_tsIn : Prop := ∀ (pc : Nat) (ls : List (Nat × q_V)) (st : List q_V) (h : q_H) (dflt lo hi : Int) (offs : Array Int) (len : Nat) (x : Int32) (off : Int) (tgt : Nat), tab pc = some (.tableswitch dflt lo hi offs, len) → ¬ x.toInt < lo → ¬ hi < x.toInt → offs[(x.toInt - lo).toNat]? = some off → (pc : Int) + off = (tgt : Int) → X tgt ls st h → X pc ls (q_i x :: st) h
def q_c_getI : Prop := ∀ (pc : Nat) (ls : List (Nat × q_V)) (st : List q_V) (h : q_H) (f k i ci j : Nat), tab pc = some (.getfield f, 3) → i < q_cnt k → q_kc k = some ci → q_fld oc f = some (ci, j) → q_ft ci j = 0 → X (pc + 3) ls (q_i (h.1 k i j) :: st) h → X pc ls (q_r k i :: st) h
def q_c_getL : Prop := ∀ (pc : Nat) (ls : List (Nat × q_V)) (st : List q_V) (h : q_H) (f k i ci j : Nat), tab pc = some (.getfield f, 3) → i < q_cnt k → q_kc k = some ci → q_fld oc f = some (ci, j) → q_ft ci j = 1 → X (pc + 3) ls (q_l (h.2 k i j) :: st) h → X pc ls (q_r k i :: st) h
def q_c_getR : Prop := ∀ (pc : Nat) (ls : List (Nat × q_V)) (st : List q_V) (h : q_H) (f k i ci j : Nat), tab pc = some (.getfield f, 3) → i < q_cnt k → q_kc k = some ci → q_fld oc f = some (ci, j) → q_ft ci j = 2 → X (pc + 3) ls (q_r (q_rf k i j).1 (q_rf k i j).2 :: st) h → X pc ls (q_r k i :: st) h
def q_c_putI : Prop := ∀ (pc : Nat) (ls : List (Nat × q_V)) (st : List q_V) (h : q_H) (f k i ci j : Nat) (v : Int32), tab pc = some (.putfield f, 3) → i < q_cnt k → q_kc k = some ci → q_fld oc f = some (ci, j) → q_ft ci j = 0 → X (pc + 3) ls (st) (q_sI h k i j v) → X pc ls (q_i v :: q_r k i :: st) h
def q_c_putL : Prop := ∀ (pc : Nat) (ls : List (Nat × q_V)) (st : List q_V) (h : q_H) (f k i ci j : Nat) (v : Int64), tab pc = some (.putfield f, 3) → i < q_cnt k → q_kc k = some ci → q_fld oc f = some (ci, j) → q_ft ci j = 1 → X (pc + 3) ls (st) (q_sL h k i j v) → X pc ls (q_l v :: q_r k i :: st) h
def q_c_iaload : Prop := ∀ (pc : Nat) (ls : List (Nat × q_V)) (st : List q_V) (h : q_H) (k i : Nat) (x : Int32), tab pc = some (.iaload, 1) → i < q_cnt k → q_kc k = none → q_at k = 1 → vp_in x (q_len k i) → X (pc + 1) ls (q_i (h.1 k i x.toNatClampNeg) :: st) h → X pc ls (q_i x :: q_r k i :: st) h
def q_c_zaload : Prop := ∀ (pc : Nat) (ls : List (Nat × q_V)) (st : List q_V) (h : q_H) (k i : Nat) (x : Int32), tab pc = some (.baload, 1) → i < q_cnt k → q_kc k = none → q_at k = 3 → vp_in x (q_len k i) → X (pc + 1) ls (q_i (h.1 k i x.toNatClampNeg) :: st) h → X pc ls (q_i x :: q_r k i :: st) h
def q_c_laload : Prop := ∀ (pc : Nat) (ls : List (Nat × q_V)) (st : List q_V) (h : q_H) (k i : Nat) (x : Int32), tab pc = some (.laload, 1) → i < q_cnt k → q_kc k = none → q_at k = 2 → vp_in x (q_len k i) → X (pc + 1) ls (q_l (h.2 k i x.toNatClampNeg) :: st) h → X pc ls (q_i x :: q_r k i :: st) h
def q_c_aaload : Prop := ∀ (pc : Nat) (ls : List (Nat × q_V)) (st : List q_V) (h : q_H) (k i : Nat) (x : Int32), tab pc = some (.aaload, 1) → i < q_cnt k → q_kc k = none → q_at k = 4 → vp_in x (q_len k i) → X (pc + 1) ls (q_r (q_rf k i x.toNatClampNeg).1 (q_rf k i x.toNatClampNeg).2 :: st) h → X pc ls (q_i x :: q_r k i :: st) h
def q_c_iastore : Prop := ∀ (pc : Nat) (ls : List (Nat × q_V)) (st : List q_V) (h : q_H) (k i : Nat) (x v : Int32), tab pc = some (.iastore, 1) → i < q_cnt k → q_kc k = none → q_at k = 1 → vp_in x (q_len k i) → X (pc + 1) ls (st) (q_sI h k i x.toNatClampNeg v) → X pc ls (q_i v :: q_i x :: q_r k i :: st) h
def q_c_zastore : Prop := ∀ (pc : Nat) (ls : List (Nat × q_V)) (st : List q_V) (h : q_H) (k i : Nat) (x v : Int32), tab pc = some (.bastore, 1) → i < q_cnt k → q_kc k = none → q_at k = 3 → vp_in x (q_len k i) → (v = 0 ∨ v = 1) → X (pc + 1) ls (st) (q_sI h k i x.toNatClampNeg v) → X pc ls (q_i v :: q_i x :: q_r k i :: st) h
def q_c_lastore : Prop := ∀ (pc : Nat) (ls : List (Nat × q_V)) (st : List q_V) (h : q_H) (k i : Nat) (x : Int32) (v : Int64), tab pc = some (.lastore, 1) → i < q_cnt k → q_kc k = none → q_at k = 2 → vp_in x (q_len k i) → X (pc + 1) ls (st) (q_sL h k i x.toNatClampNeg v) → X pc ls (q_l v :: q_i x :: q_r k i :: st) h
def q_c_alen : Prop := ∀ (pc : Nat) (ls : List (Nat × q_V)) (st : List q_V) (h : q_H) (k i : Nat), tab pc = some (.arraylength, 1) → i < q_cnt k → q_kc k = none → 1 ≤ q_at k → q_at k ≤ 4 → X (pc + 1) ls (q_i (Int32.ofNat (q_len k i)) :: st) h → X pc ls (q_r k i :: st) h
def q_c_sld : Prop := ∀ (pc : Nat) (ls : List (Nat × q_V)) (st : List q_V) (h : q_H) (L : Nat) (xs : Nat → Int32) (x : Int32), tab pc = some (.iaload, 1) → sc = some (L, xs) → vp_in x L → X (pc + 1) ls (q_i (xs x.toNatClampNeg) :: st) h → X pc ls (q_i x :: q_r 28 0 :: st) h
def q_c_slen : Prop := ∀ (pc : Nat) (ls : List (Nat × q_V)) (st : List q_V) (h : q_H) (L : Nat) (xs : Nat → Int32), tab pc = some (.arraylength, 1) → sc = some (L, xs) → X (pc + 1) ls (q_i (Int32.ofNat L) :: st) h → X pc ls (q_r 28 0 :: st) h
def q_c_mmax : Prop := ∀ (pc : Nat) (ls : List (Nat × q_V)) (st : List q_V) (h : q_H) (f : Nat) (x y : Int32), tab pc = some (.invokestatic f, 3) → q_mm oc f = some 0 → q_size st ≤ 8 → X (pc + 3) ls (q_i (if x < y then y else x) :: st) h → X pc ls (q_i y :: q_i x :: st) h
def q_c_mmin : Prop := ∀ (pc : Nat) (ls : List (Nat × q_V)) (st : List q_V) (h : q_H) (f : Nat) (x y : Int32), tab pc = some (.invokestatic f, 3) → q_mm oc f = some 1 → q_size st ≤ 8 → X (pc + 3) ls (q_i (if y < x then y else x) :: st) h → X pc ls (q_i y :: q_i x :: st) h
def q_c_sub : Prop := ∀ (pc : Nat) (ls ls1 : List (Nat × q_V)) (st : List q_V) (h : q_H) (ks : List Nat), ks.filterMap (fun k => ls[k]?) = ls1 → X pc ls1 st h → X pc ls st h
def q_cloA : Prop := q_c_iconst tab X ∧ q_c_bipush tab X ∧ q_c_sipush tab X ∧ q_c_lconst tab X ∧ q_c_ldc tab oc X ∧ q_c_ldc2 tab oc X ∧ q_c_iload_n tab X ∧ q_c_iload tab X ∧ q_c_lload_n tab X ∧ q_c_lload tab X ∧ q_c_aload_n tab X ∧ q_c_istore_n tab nL X ∧ q_c_istore tab nL X ∧ q_c_lstore_n tab nL X ∧ q_c_lstore tab nL X ∧ q_c_iinc tab nL X ∧ q_c_iadd tab X ∧ q_c_isub tab X ∧ q_c_imul tab X ∧ q_c_iand tab X ∧ q_c_ior tab X ∧ q_c_ixor tab X ∧ q_c_ishl tab X ∧ q_c_ishr tab X ∧ q_c_idiv tab X ∧ q_c_iushr tab X ∧ q_c_ladd tab X ∧ q_c_lsub tab X ∧ q_c_land tab X ∧ q_c_lor tab X ∧ q_c_lxor tab X ∧ q_c_lshl tab X ∧ q_c_lushr tab X ∧ q_c_lcmp tab X ∧ q_c_l2i tab X ∧ q_c_dup tab X ∧ q_c_dup2_11 tab X ∧ q_c_if_ne tab X ∧ q_c_icmp_ne tab X ∧ q_c_if_eq tab X ∧ q_c_if_lt tab X ∧ q_c_if_ge tab X ∧ q_c_if_gt tab X ∧ q_c_if_le tab X ∧ q_c_icmp_eq tab X ∧ q_c_icmp_lt tab X ∧ q_c_icmp_ge tab X ∧ q_c_icmp_gt tab X ∧ q_c_icmp_le tab X ∧ q_c_goto tab X ∧ q_c_tsOut tab X ∧ q_c_tsIn tab X ∧ q_c_getI tab oc X ∧ q_c_getL tab oc X ∧ q_c_getR tab oc X ∧ q_c_putI tab oc X ∧ q_c_putL tab oc X ∧ q_c_iaload tab X ∧ q_c_zaload tab X ∧ q_c_laload tab X ∧ q_c_aaload tab X ∧ q_c_iastore tab X ∧ q_c_zastore tab X ∧ q_c_lastore tab X ∧ q_c_alen tab X ∧ q_c_sld tab sc X ∧ q_c_slen tab sc X ∧ q_c_mmax tab oc X ∧ q_c_mmin tab oc X ∧ q_c_sub X
end QM
/-- calls: of a method by its number, with what it answers and leaves -/
def q_cloC (tab : Nat → Option (Instr × Nat)) (oc : Nat) (call : Nat → List q_V → q_H → (Option q_V → q_H → Prop) → Prop) (X : Nat → List (Nat × q_V) → List q_V → q_H → Prop) : Prop :=
  (∀ (pc : Nat) (ls : List (Nat × q_V)) (st : List q_V) (h : q_H) (f mi k i : Nat) (As rest : List q_V), tab pc = some (.invokevirtual f, 3) → q_mth oc f = some (mi, 0) → st = As.reverse ++ q_r k i :: rest → i < q_cnt k → q_kc k = some (q_mO mi) → As.length = q_mA mi → q_size rest ≤ 8 →
    call mi (q_r k i :: As) h (fun r h1 => X (pc + 3) ls (r.toList ++ rest) h1) → X pc ls st h) ∧
  (∀ (pc : Nat) (ls : List (Nat × q_V)) (st : List q_V) (h : q_H) (f mi kd : Nat) (As rest : List q_V), tab pc = some (.invokestatic f, 3) → q_mth oc f = some (mi, kd + 1) → st = As.reverse ++ rest → As.length = q_mA mi → q_size rest ≤ 8 →
    call mi As h (fun r h1 => X (pc + 3) ls (r.toList ++ rest) h1) → X pc ls st h)
/-- ends: 0 void, 1 int, 2 long, 3 boolean -/
def q_cloR (tab : Nat → Option (Instr × Nat)) (rt : Nat) (Q : Option q_V → q_H → Prop) (X : Nat → List (Nat × q_V) → List q_V → q_H → Prop) : Prop :=
  (∀ (pc : Nat) (ls : List (Nat × q_V)) (h : q_H), tab pc = some (.return_, 1) → rt = 0 → Q none h → X pc ls [] h) ∧
  (∀ (pc : Nat) (ls : List (Nat × q_V)) (h : q_H) (v : Int32), tab pc = some (.ireturn, 1) → rt = 1 → Q (some (q_i v)) h → X pc ls [q_i v] h) ∧
  (∀ (pc : Nat) (ls : List (Nat × q_V)) (h : q_H) (v : Int64), tab pc = some (.lreturn, 1) → rt = 2 → Q (some (q_l v)) h → X pc ls [q_l v] h) ∧
  (∀ (pc : Nat) (ls : List (Nat × q_V)) (h : q_H) (v : Int32), tab pc = some (.ireturn, 1) → rt = 3 → (v = 0 ∨ v = 1) → Q (some (q_i v)) h → X pc ls [q_i v] h)
def q_run (tab : Nat → Option (Instr × Nat)) (oc nL : Nat) (sc : Option (Nat × (Nat → Int32))) (call : Nat → List q_V → q_H → (Option q_V → q_H → Prop) → Prop) (rt : Nat) (Q : Option q_V → q_H → Prop) (pc : Nat) (ls : List (Nat × q_V)) (st : List q_V) (h : q_H) : Prop :=
  ∀ X : Nat → List (Nat × q_V) → List q_V → q_H → Prop, q_cloA tab oc nL sc X → q_cloC tab oc call X → q_cloR tab rt Q X → X pc ls st h
theorem q_run_mono {tab : Nat → Option (Instr × Nat)} {oc nL : Nat} {sc : Option (Nat × (Nat → Int32))} {call : Nat → List q_V → q_H → (Option q_V → q_H → Prop) → Prop} {rt : Nat} {Q Q' : Option q_V → q_H → Prop} {pc : Nat} {ls : List (Nat × q_V)} {st : List q_V} {h : q_H} (hQ : ∀ r g, Q r g → Q' r g) (k : q_run tab oc nL sc call rt Q pc ls st h) : q_run tab oc nL sc call rt Q' pc ls st h := by
  intro X hA hC hR
  exact k X hA hC ⟨fun pc ls h a b c => hR.1 pc ls h a b (hQ _ _ c), fun pc ls h v a b c => hR.2.1 pc ls h v a b (hQ _ _ c), fun pc ls h v a b c => hR.2.2.1 pc ls h v a b (hQ _ _ c), fun pc ls h v a b z c => hR.2.2.2 pc ls h v a b z (hQ _ _ c)⟩
/-- what method mi does within d frames -/
def q_den : Nat → Nat → List q_V → q_H → (Option q_V → q_H → Prop) → Prop
  | 0 => fun _ _ _ _ => False
  | d + 1 => fun mi as h Q => mi < q_NM ∧ q_size as ≤ q_mL mi ∧ q_run (q_tab mi) (q_mO mi) (q_mL mi) none (q_den d) (q_mR mi) Q 0 (q_args 0 as) [] h
theorem q_den_mono : ∀ (d mi : Nat) (as : List q_V) (h : q_H) (Q Q' : Option q_V → q_H → Prop), (∀ r g, Q r g → Q' r g) → q_den d mi as h Q → q_den d mi as h Q'
  | 0, _, _, _, _, _, _, k => k
  | _ + 1, _, _, _, _, _, hQ, k => ⟨k.1, k.2.1, q_run_mono hQ k.2.2⟩
section QR
variable {tab : Nat → Option (Instr × Nat)} {oc nL : Nat} {sc : Option (Nat × (Nat → Int32))} {d : Nat} {rt : Nat} {Q : Option q_V → q_H → Prop}
theorem q_iconst {pc : Nat} {ls : List (Nat × q_V)} {st : List q_V} {h : q_H} {n : Int} {v : Int32} (p0 : tab pc = some (.iconst n, 1)) (p1 : Int32.ofInt n = v) (k0 : q_run tab oc nL sc (q_den d) rt Q (pc + 1) ls (q_i v :: st) h) : q_run tab oc nL sc (q_den d) rt Q pc ls (st) h := fun X hA hC hR => hA.1 _ _ _ _ _ _ p0 p1 (k0 X hA hC hR)
theorem q_bipush {pc : Nat} {ls : List (Nat × q_V)} {st : List q_V} {h : q_H} {n : Int} {v : Int32} (p0 : tab pc = some (.bipush n, 2)) (p1 : (Int8.ofInt n).toInt32 = v) (k0 : q_run tab oc nL sc (q_den d) rt Q (pc + 2) ls (q_i v :: st) h) : q_run tab oc nL sc (q_den d) rt Q pc ls (st) h := fun X hA hC hR => hA.2.1 _ _ _ _ _ _ p0 p1 (k0 X hA hC hR)
theorem q_sipush {pc : Nat} {ls : List (Nat × q_V)} {st : List q_V} {h : q_H} {n : Int} {v : Int32} (p0 : tab pc = some (.sipush n, 3)) (p1 : (Int16.ofInt n).toInt32 = v) (k0 : q_run tab oc nL sc (q_den d) rt Q (pc + 3) ls (q_i v :: st) h) : q_run tab oc nL sc (q_den d) rt Q pc ls (st) h := fun X hA hC hR => hA.2.2.1 _ _ _ _ _ _ p0 p1 (k0 X hA hC hR)
theorem q_lconst {pc : Nat} {ls : List (Nat × q_V)} {st : List q_V} {h : q_H} {n : Fin 2} {v : Int64} (p0 : tab pc = some (.lconst n, 1)) (p1 : Int64.ofNat (n : Nat) = v) (k0 : q_run tab oc nL sc (q_den d) rt Q (pc + 1) ls (q_l v :: st) h) : q_run tab oc nL sc (q_den d) rt Q pc ls (st) h := fun X hA hC hR => hA.2.2.2.1 _ _ _ _ _ _ p0 p1 (k0 X hA hC hR)
theorem q_ldc {pc : Nat} {ls : List (Nat × q_V)} {st : List q_V} {h : q_H} {i : Nat} {v : Int32} (p0 : tab pc = some (.ldc i, 2)) (p1 : q_cst oc i = some v) (k0 : q_run tab oc nL sc (q_den d) rt Q (pc + 2) ls (q_i v :: st) h) : q_run tab oc nL sc (q_den d) rt Q pc ls (st) h := fun X hA hC hR => hA.2.2.2.2.1 _ _ _ _ _ _ p0 p1 (k0 X hA hC hR)
theorem q_ldc2 {pc : Nat} {ls : List (Nat × q_V)} {st : List q_V} {h : q_H} {i : Nat} {v : Int64} (p0 : tab pc = some (.ldc2_w i, 3)) (p1 : q_cstL oc i = some v) (k0 : q_run tab oc nL sc (q_den d) rt Q (pc + 3) ls (q_l v :: st) h) : q_run tab oc nL sc (q_den d) rt Q pc ls (st) h := fun X hA hC hR => hA.2.2.2.2.2.1 _ _ _ _ _ _ p0 p1 (k0 X hA hC hR)
theorem q_iload_n {pc : Nat} {ls : List (Nat × q_V)} {st : List q_V} {h : q_H} {k : Fin 4} {x : Int32} (p0 : tab pc = some (.iload_n k, 1)) (p1 : q_get ls (k : Nat) = some (q_i x)) (k0 : q_run tab oc nL sc (q_den d) rt Q (pc + 1) ls (q_i x :: st) h) : q_run tab oc nL sc (q_den d) rt Q pc ls (st) h := fun X hA hC hR => hA.2.2.2.2.2.2.1 _ _ _ _ _ _ p0 p1 (k0 X hA hC hR)
theorem q_iload {pc : Nat} {ls : List (Nat × q_V)} {st : List q_V} {h : q_H} {k : Nat} {x : Int32} (p0 : tab pc = some (.iload k, 2)) (p1 : q_get ls k = some (q_i x)) (k0 : q_run tab oc nL sc (q_den d) rt Q (pc + 2) ls (q_i x :: st) h) : q_run tab oc nL sc (q_den d) rt Q pc ls (st) h := fun X hA hC hR => hA.2.2.2.2.2.2.2.1 _ _ _ _ _ _ p0 p1 (k0 X hA hC hR)
theorem q_lload_n {pc : Nat} {ls : List (Nat × q_V)} {st : List q_V} {h : q_H} {k : Fin 4} {x : Int64} (p0 : tab pc = some (.lload_n k, 1)) (p1 : q_get ls (k : Nat) = some (q_l x)) (k0 : q_run tab oc nL sc (q_den d) rt Q (pc + 1) ls (q_l x :: st) h) : q_run tab oc nL sc (q_den d) rt Q pc ls (st) h := fun X hA hC hR => hA.2.2.2.2.2.2.2.2.1 _ _ _ _ _ _ p0 p1 (k0 X hA hC hR)
theorem q_lload {pc : Nat} {ls : List (Nat × q_V)} {st : List q_V} {h : q_H} {k : Nat} {x : Int64} (p0 : tab pc = some (.lload k, 2)) (p1 : q_get ls k = some (q_l x)) (k0 : q_run tab oc nL sc (q_den d) rt Q (pc + 2) ls (q_l x :: st) h) : q_run tab oc nL sc (q_den d) rt Q pc ls (st) h := fun X hA hC hR => hA.2.2.2.2.2.2.2.2.2.1 _ _ _ _ _ _ p0 p1 (k0 X hA hC hR)
theorem q_aload_n {pc : Nat} {ls : List (Nat × q_V)} {st : List q_V} {h : q_H} {k : Fin 4} {a b : Nat} (p0 : tab pc = some (.aload_n k, 1)) (p1 : q_get ls (k : Nat) = some (q_r a b)) (k0 : q_run tab oc nL sc (q_den d) rt Q (pc + 1) ls (q_r a b :: st) h) : q_run tab oc nL sc (q_den d) rt Q pc ls (st) h := fun X hA hC hR => hA.2.2.2.2.2.2.2.2.2.2.1 _ _ _ _ _ _ _ p0 p1 (k0 X hA hC hR)
theorem q_istore_n {pc : Nat} {ls ls1 : List (Nat × q_V)} {st : List q_V} {h : q_H} {k : Fin 4} {x : Int32} (p0 : tab pc = some (.istore_n k, 1)) (p1 : (k : Nat) < nL) (p2 : q_set ls (k : Nat) (q_i x) = ls1) (k0 : q_run tab oc nL sc (q_den d) rt Q (pc + 1) ls1 st h) : q_run tab oc nL sc (q_den d) rt Q pc ls (q_i x :: st) h := fun X hA hC hR => hA.2.2.2.2.2.2.2.2.2.2.2.1 _ _ _ _ _ _ _ p0 p1 p2 (k0 X hA hC hR)
theorem q_istore {pc : Nat} {ls ls1 : List (Nat × q_V)} {st : List q_V} {h : q_H} {k : Nat} {x : Int32} (p0 : tab pc = some (.istore k, 2)) (p1 : k < nL) (p2 : q_set ls k (q_i x) = ls1) (k0 : q_run tab oc nL sc (q_den d) rt Q (pc + 2) ls1 st h) : q_run tab oc nL sc (q_den d) rt Q pc ls (q_i x :: st) h := fun X hA hC hR => hA.2.2.2.2.2.2.2.2.2.2.2.2.1 _ _ _ _ _ _ _ p0 p1 p2 (k0 X hA hC hR)
theorem q_lstore_n {pc : Nat} {ls ls1 : List (Nat × q_V)} {st : List q_V} {h : q_H} {k : Fin 4} {x : Int64} (p0 : tab pc = some (.lstore_n k, 1)) (p1 : (k : Nat) + 1 < nL) (p2 : q_set2 ls (k : Nat) (q_l x) = ls1) (k0 : q_run tab oc nL sc (q_den d) rt Q (pc + 1) ls1 st h) : q_run tab oc nL sc (q_den d) rt Q pc ls (q_l x :: st) h := fun X hA hC hR => hA.2.2.2.2.2.2.2.2.2.2.2.2.2.1 _ _ _ _ _ _ _ p0 p1 p2 (k0 X hA hC hR)
theorem q_lstore {pc : Nat} {ls ls1 : List (Nat × q_V)} {st : List q_V} {h : q_H} {k : Nat} {x : Int64} (p0 : tab pc = some (.lstore k, 2)) (p1 : k + 1 < nL) (p2 : q_set2 ls k (q_l x) = ls1) (k0 : q_run tab oc nL sc (q_den d) rt Q (pc + 2) ls1 st h) : q_run tab oc nL sc (q_den d) rt Q pc ls (q_l x :: st) h := fun X hA hC hR => hA.2.2.2.2.2.2.2.2.2.2.2.2.2.2.1 _ _ _ _ _ _ _ p0 p1 p2 (k0 X hA hC hR)
theorem q_iinc {pc : Nat} {ls ls1 : List (Nat × q_V)} {st : List q_V} {h : q_H} {k : Nat} {n : Int} {x v : Int32} (p0 : tab pc = some (.iinc k n, 3)) (p1 : k < nL) (p2 : q_get ls k = some (q_i x)) (p3 : x + Int32.ofInt n = v) (p4 : q_set ls k (q_i v) = ls1) (k0 : q_run tab oc nL sc (q_den d) rt Q (pc + 3) ls1 st h) : q_run tab oc nL sc (q_den d) rt Q pc ls st h := fun X hA hC hR => hA.2.2.2.2.2.2.2.2.2.2.2.2.2.2.2.1 _ _ _ _ _ _ _ _ _ p0 p1 p2 p3 p4 (k0 X hA hC hR)
theorem q_iadd {pc : Nat} {ls : List (Nat × q_V)} {st : List q_V} {h : q_H} {x y : Int32} (p0 : tab pc = some (.iadd, 1)) (k0 : q_run tab oc nL sc (q_den d) rt Q (pc + 1) ls (q_i (x + y) :: st) h) : q_run tab oc nL sc (q_den d) rt Q pc ls (q_i y :: q_i x :: st) h := fun X hA hC hR => hA.2.2.2.2.2.2.2.2.2.2.2.2.2.2.2.2.1 _ _ _ _ _ _ p0 (k0 X hA hC hR)
theorem q_isub {pc : Nat} {ls : List (Nat × q_V)} {st : List q_V} {h : q_H} {x y : Int32} (p0 : tab pc = some (.isub, 1)) (k0 : q_run tab oc nL sc (q_den d) rt Q (pc + 1) ls (q_i (x - y) :: st) h) : q_run tab oc nL sc (q_den d) rt Q pc ls (q_i y :: q_i x :: st) h := fun X hA hC hR => hA.2.2.2.2.2.2.2.2.2.2.2.2.2.2.2.2.2.1 _ _ _ _ _ _ p0 (k0 X hA hC hR)
theorem q_imul {pc : Nat} {ls : List (Nat × q_V)} {st : List q_V} {h : q_H} {x y : Int32} (p0 : tab pc = some (.imul, 1)) (k0 : q_run tab oc nL sc (q_den d) rt Q (pc + 1) ls (q_i (x * y) :: st) h) : q_run tab oc nL sc (q_den d) rt Q pc ls (q_i y :: q_i x :: st) h := fun X hA hC hR => hA.2.2.2.2.2.2.2.2.2.2.2.2.2.2.2.2.2.2.1 _ _ _ _ _ _ p0 (k0 X hA hC hR)
theorem q_iand {pc : Nat} {ls : List (Nat × q_V)} {st : List q_V} {h : q_H} {x y : Int32} (p0 : tab pc = some (.iand, 1)) (k0 : q_run tab oc nL sc (q_den d) rt Q (pc + 1) ls (q_i (x &&& y) :: st) h) : q_run tab oc nL sc (q_den d) rt Q pc ls (q_i y :: q_i x :: st) h := fun X hA hC hR => hA.2.2.2.2.2.2.2.2.2.2.2.2.2.2.2.2.2.2.2.1 _ _ _ _ _ _ p0 (k0 X hA hC hR)
theorem q_ior {pc : Nat} {ls : List (Nat × q_V)} {st : List q_V} {h : q_H} {x y : Int32} (p0 : tab pc = some (.ior, 1)) (k0 : q_run tab oc nL sc (q_den d) rt Q (pc + 1) ls (q_i (x ||| y) :: st) h) : q_run tab oc nL sc (q_den d) rt Q pc ls (q_i y :: q_i x :: st) h := fun X hA hC hR => hA.2.2.2.2.2.2.2.2.2.2.2.2.2.2.2.2.2.2.2.2.1 _ _ _ _ _ _ p0 (k0 X hA hC hR)
theorem q_ixor {pc : Nat} {ls : List (Nat × q_V)} {st : List q_V} {h : q_H} {x y : Int32} (p0 : tab pc = some (.ixor, 1)) (k0 : q_run tab oc nL sc (q_den d) rt Q (pc + 1) ls (q_i (x ^^^ y) :: st) h) : q_run tab oc nL sc (q_den d) rt Q pc ls (q_i y :: q_i x :: st) h := fun X hA hC hR => hA.2.2.2.2.2.2.2.2.2.2.2.2.2.2.2.2.2.2.2.2.2.1 _ _ _ _ _ _ p0 (k0 X hA hC hR)
theorem q_ishl {pc : Nat} {ls : List (Nat × q_V)} {st : List q_V} {h : q_H} {x y : Int32} (p0 : tab pc = some (.ishl, 1)) (k0 : q_run tab oc nL sc (q_den d) rt Q (pc + 1) ls (q_i (x <<< (y &&& 31)) :: st) h) : q_run tab oc nL sc (q_den d) rt Q pc ls (q_i y :: q_i x :: st) h := fun X hA hC hR => hA.2.2.2.2.2.2.2.2.2.2.2.2.2.2.2.2.2.2.2.2.2.2.1 _ _ _ _ _ _ p0 (k0 X hA hC hR)
theorem q_ishr {pc : Nat} {ls : List (Nat × q_V)} {st : List q_V} {h : q_H} {x y : Int32} (p0 : tab pc = some (.ishr, 1)) (k0 : q_run tab oc nL sc (q_den d) rt Q (pc + 1) ls (q_i (x >>> (y &&& 31)) :: st) h) : q_run tab oc nL sc (q_den d) rt Q pc ls (q_i y :: q_i x :: st) h := fun X hA hC hR => hA.2.2.2.2.2.2.2.2.2.2.2.2.2.2.2.2.2.2.2.2.2.2.2.1 _ _ _ _ _ _ p0 (k0 X hA hC hR)
theorem q_idiv {pc : Nat} {ls : List (Nat × q_V)} {st : List q_V} {h : q_H} {x y : Int32} (p0 : tab pc = some (.idiv, 1)) (p1 : ¬ y = 0) (k0 : q_run tab oc nL sc (q_den d) rt Q (pc + 1) ls (q_i (x / y) :: st) h) : q_run tab oc nL sc (q_den d) rt Q pc ls (q_i y :: q_i x :: st) h := fun X hA hC hR => hA.2.2.2.2.2.2.2.2.2.2.2.2.2.2.2.2.2.2.2.2.2.2.2.2.1 _ _ _ _ _ _ p0 p1 (k0 X hA hC hR)
theorem q_iushr {pc : Nat} {ls : List (Nat × q_V)} {st : List q_V} {h : q_H} {x y : Int32} (p0 : tab pc = some (.iushr, 1)) (k0 : q_run tab oc nL sc (q_den d) rt Q (pc + 1) ls (q_i ((x.toUInt32 >>> (y.toUInt32 &&& Int32.toUInt32 31)).toInt32) :: st) h) : q_run tab oc nL sc (q_den d) rt Q pc ls (q_i y :: q_i x :: st) h := fun X hA hC hR => hA.2.2.2.2.2.2.2.2.2.2.2.2.2.2.2.2.2.2.2.2.2.2.2.2.2.1 _ _ _ _ _ _ p0 (k0 X hA hC hR)
theorem q_ladd {pc : Nat} {ls : List (Nat × q_V)} {st : List q_V} {h : q_H} {x y : Int64} (p0 : tab pc = some (.ladd, 1)) (k0 : q_run tab oc nL sc (q_den d) rt Q (pc + 1) ls (q_l (x + y) :: st) h) : q_run tab oc nL sc (q_den d) rt Q pc ls (q_l y :: q_l x :: st) h := fun X hA hC hR => hA.2.2.2.2.2.2.2.2.2.2.2.2.2.2.2.2.2.2.2.2.2.2.2.2.2.2.1 _ _ _ _ _ _ p0 (k0 X hA hC hR)
theorem q_lsub {pc : Nat} {ls : List (Nat × q_V)} {st : List q_V} {h : q_H} {x y : Int64} (p0 : tab pc = some (.lsub, 1)) (k0 : q_run tab oc nL sc (q_den d) rt Q (pc + 1) ls (q_l (x - y) :: st) h) : q_run tab oc nL sc (q_den d) rt Q pc ls (q_l y :: q_l x :: st) h := fun X hA hC hR => hA.2.2.2.2.2.2.2.2.2.2.2.2.2.2.2.2.2.2.2.2.2.2.2.2.2.2.2.1 _ _ _ _ _ _ p0 (k0 X hA hC hR)
theorem q_land {pc : Nat} {ls : List (Nat × q_V)} {st : List q_V} {h : q_H} {x y : Int64} (p0 : tab pc = some (.land, 1)) (k0 : q_run tab oc nL sc (q_den d) rt Q (pc + 1) ls (q_l (x &&& y) :: st) h) : q_run tab oc nL sc (q_den d) rt Q pc ls (q_l y :: q_l x :: st) h := fun X hA hC hR => hA.2.2.2.2.2.2.2.2.2.2.2.2.2.2.2.2.2.2.2.2.2.2.2.2.2.2.2.2.1 _ _ _ _ _ _ p0 (k0 X hA hC hR)
theorem q_lor {pc : Nat} {ls : List (Nat × q_V)} {st : List q_V} {h : q_H} {x y : Int64} (p0 : tab pc = some (.lor, 1)) (k0 : q_run tab oc nL sc (q_den d) rt Q (pc + 1) ls (q_l (x ||| y) :: st) h) : q_run tab oc nL sc (q_den d) rt Q pc ls (q_l y :: q_l x :: st) h := fun X hA hC hR => hA.2.2.2.2.2.2.2.2.2.2.2.2.2.2.2.2.2.2.2.2.2.2.2.2.2.2.2.2.2.1 _ _ _ _ _ _ p0 (k0 X hA hC hR)
theorem q_lxor {pc : Nat} {ls : List (Nat × q_V)} {st : List q_V} {h : q_H} {x y : Int64} (p0 : tab pc = some (.lxor, 1)) (k0 : q_run tab oc nL sc (q_den d) rt Q (pc + 1) ls (q_l (x ^^^ y) :: st) h) : q_run tab oc nL sc (q_den d) rt Q pc ls (q_l y :: q_l x :: st) h := fun X hA hC hR => hA.2.2.2.2.2.2.2.2.2.2.2.2.2.2.2.2.2.2.2.2.2.2.2.2.2.2.2.2.2.2.1 _ _ _ _ _ _ p0 (k0 X hA hC hR)
theorem q_lshl {pc : Nat} {ls : List (Nat × q_V)} {st : List q_V} {h : q_H} {x : Int64} {y : Int32} (p0 : tab pc = some (.lshl, 1)) (k0 : q_run tab oc nL sc (q_den d) rt Q (pc + 1) ls (q_l (x <<< (y.toInt64 &&& 63)) :: st) h) : q_run tab oc nL sc (q_den d) rt Q pc ls (q_i y :: q_l x :: st) h := fun X hA hC hR => hA.2.2.2.2.2.2.2.2.2.2.2.2.2.2.2.2.2.2.2.2.2.2.2.2.2.2.2.2.2.2.2.1 _ _ _ _ _ _ p0 (k0 X hA hC hR)
theorem q_lushr {pc : Nat} {ls : List (Nat × q_V)} {st : List q_V} {h : q_H} {x : Int64} {y : Int32} (p0 : tab pc = some (.lushr, 1)) (k0 : q_run tab oc nL sc (q_den d) rt Q (pc + 1) ls (q_l ((x.toUInt64 >>> (y.toInt64.toUInt64 &&& Int64.toUInt64 63)).toInt64) :: st) h) : q_run tab oc nL sc (q_den d) rt Q pc ls (q_i y :: q_l x :: st) h := fun X hA hC hR => hA.2.2.2.2.2.2.2.2.2.2.2.2.2.2.2.2.2.2.2.2.2.2.2.2.2.2.2.2.2.2.2.2.1 _ _ _ _ _ _ p0 (k0 X hA hC hR)
theorem q_lcmp {pc : Nat} {ls : List (Nat × q_V)} {st : List q_V} {h : q_H} {x y : Int64} (p0 : tab pc = some (.lcmp, 1)) (k0 : q_run tab oc nL sc (q_den d) rt Q (pc + 1) ls (q_i (lg_cmp x y) :: st) h) : q_run tab oc nL sc (q_den d) rt Q pc ls (q_l y :: q_l x :: st) h := fun X hA hC hR => hA.2.2.2.2.2.2.2.2.2.2.2.2.2.2.2.2.2.2.2.2.2.2.2.2.2.2.2.2.2.2.2.2.2.1 _ _ _ _ _ _ p0 (k0 X hA hC hR)
theorem q_l2i {pc : Nat} {ls : List (Nat × q_V)} {st : List q_V} {h : q_H} {x : Int64} (p0 : tab pc = some (.l2i, 1)) (k0 : q_run tab oc nL sc (q_den d) rt Q (pc + 1) ls (q_i x.toInt32 :: st) h) : q_run tab oc nL sc (q_den d) rt Q pc ls (q_l x :: st) h := fun X hA hC hR => hA.2.2.2.2.2.2.2.2.2.2.2.2.2.2.2.2.2.2.2.2.2.2.2.2.2.2.2.2.2.2.2.2.2.2.1 _ _ _ _ _ p0 (k0 X hA hC hR)
theorem q_dup {pc : Nat} {ls : List (Nat × q_V)} {st : List q_V} {h : q_H} {v : q_V} (p0 : tab pc = some (.dup, 1)) (p1 : q_cat v = 1) (k0 : q_run tab oc nL sc (q_den d) rt Q (pc + 1) ls (v :: v :: st) h) : q_run tab oc nL sc (q_den d) rt Q pc ls (v :: st) h := fun X hA hC hR => hA.2.2.2.2.2.2.2.2.2.2.2.2.2.2.2.2.2.2.2.2.2.2.2.2.2.2.2.2.2.2.2.2.2.2.2.1 _ _ _ _ _ p0 p1 (k0 X hA hC hR)
theorem q_dup2_11 {pc : Nat} {ls : List (Nat × q_V)} {st : List q_V} {h : q_H} {v w : q_V} (p0 : tab pc = some (.dup2, 1)) (p1 : q_cat v = 1) (p2 : q_cat w = 1) (k0 : q_run tab oc nL sc (q_den d) rt Q (pc + 1) ls (v :: w :: v :: w :: st) h) : q_run tab oc nL sc (q_den d) rt Q pc ls (v :: w :: st) h := fun X hA hC hR => hA.2.2.2.2.2.2.2.2.2.2.2.2.2.2.2.2.2.2.2.2.2.2.2.2.2.2.2.2.2.2.2.2.2.2.2.2.1 _ _ _ _ _ _ p0 p1 p2 (k0 X hA hC hR)
theorem q_if_ne {pc : Nat} {ls : List (Nat × q_V)} {st : List q_V} {h : q_H} {off : Int} {tgt : Nat} {x : Int32} (p0 : tab pc = some (.ifCond .ne off, 3)) (p1 : (pc : Int) + off = (tgt : Int)) (k0 : (¬ (x = 0) → q_run tab oc nL sc (q_den d) rt Q tgt ls st h)) (k1 : ((x = 0) → q_run tab oc nL sc (q_den d) rt Q (pc + 3) ls st h)) : q_run tab oc nL sc (q_den d) rt Q pc ls (q_i x :: st) h := fun X hA hC hR => hA.2.2.2.2.2.2.2.2.2.2.2.2.2.2.2.2.2.2.2.2.2.2.2.2.2.2.2.2.2.2.2.2.2.2.2.2.2.1 _ _ _ _ _ _ _ p0 p1 (fun z => k0 z X hA hC hR) (fun z => k1 z X hA hC hR)
theorem q_icmp_ne {pc : Nat} {ls : List (Nat × q_V)} {st : List q_V} {h : q_H} {off : Int} {tgt : Nat} {x y : Int32} (p0 : tab pc = some (.if_icmp .ne off, 3)) (p1 : (pc : Int) + off = (tgt : Int)) (k0 : (¬ (x = y) → q_run tab oc nL sc (q_den d) rt Q tgt ls st h)) (k1 : ((x = y) → q_run tab oc nL sc (q_den d) rt Q (pc + 3) ls st h)) : q_run tab oc nL sc (q_den d) rt Q pc ls (q_i y :: q_i x :: st) h := fun X hA hC hR => hA.2.2.2.2.2.2.2.2.2.2.2.2.2.2.2.2.2.2.2.2.2.2.2.2.2.2.2.2.2.2.2.2.2.2.2.2.2.2.1 _ _ _ _ _ _ _ _ p0 p1 (fun z => k0 z X hA hC hR) (fun z => k1 z X hA hC hR)
theorem q_if_eq {pc : Nat} {ls : List (Nat × q_V)} {st : List q_V} {h : q_H} {off : Int} {tgt : Nat} {x : Int32} (p0 : tab pc = some (.ifCond .eq off, 3)) (p1 : (pc : Int) + off = (tgt : Int)) (k0 : ((x = 0) → q_run tab oc nL sc (q_den d) rt Q tgt ls st h)) (k1 : (¬ (x = 0) → q_run tab oc nL sc (q_den d) rt Q (pc + 3) ls st h)) : q_run tab oc nL sc (q_den d) rt Q pc ls (q_i x :: st) h := fun X hA hC hR => hA.2.2.2.2.2.2.2.2.2.2.2.2.2.2.2.2.2.2.2.2.2.2.2.2.2.2.2.2.2.2.2.2.2.2.2.2.2.2.2.1 _ _ _ _ _ _ _ p0 p1 (fun z => k0 z X hA hC hR) (fun z => k1 z X hA hC hR)
theorem q_if_lt {pc : Nat} {ls : List (Nat × q_V)} {st : List q_V} {h : q_H} {off : Int} {tgt : Nat} {x : Int32} (p0 : tab pc = some (.ifCond .lt off, 3)) (p1 : (pc : Int) + off = (tgt : Int)) (k0 : ((x < 0) → q_run tab oc nL sc (q_den d) rt Q tgt ls st h)) (k1 : (¬ (x < 0) → q_run tab oc nL sc (q_den d) rt Q (pc + 3) ls st h)) : q_run tab oc nL sc (q_den d) rt Q pc ls (q_i x :: st) h := fun X hA hC hR => hA.2.2.2.2.2.2.2.2.2.2.2.2.2.2.2.2.2.2.2.2.2.2.2.2.2.2.2.2.2.2.2.2.2.2.2.2.2.2.2.2.1 _ _ _ _ _ _ _ p0 p1 (fun z => k0 z X hA hC hR) (fun z => k1 z X hA hC hR)
theorem q_if_ge {pc : Nat} {ls : List (Nat × q_V)} {st : List q_V} {h : q_H} {off : Int} {tgt : Nat} {x : Int32} (p0 : tab pc = some (.ifCond .ge off, 3)) (p1 : (pc : Int) + off = (tgt : Int)) (k0 : ((0 ≤ x) → q_run tab oc nL sc (q_den d) rt Q tgt ls st h)) (k1 : (¬ (0 ≤ x) → q_run tab oc nL sc (q_den d) rt Q (pc + 3) ls st h)) : q_run tab oc nL sc (q_den d) rt Q pc ls (q_i x :: st) h := fun X hA hC hR => hA.2.2.2.2.2.2.2.2.2.2.2.2.2.2.2.2.2.2.2.2.2.2.2.2.2.2.2.2.2.2.2.2.2.2.2.2.2.2.2.2.2.1 _ _ _ _ _ _ _ p0 p1 (fun z => k0 z X hA hC hR) (fun z => k1 z X hA hC hR)
theorem q_if_gt {pc : Nat} {ls : List (Nat × q_V)} {st : List q_V} {h : q_H} {off : Int} {tgt : Nat} {x : Int32} (p0 : tab pc = some (.ifCond .gt off, 3)) (p1 : (pc : Int) + off = (tgt : Int)) (k0 : ((0 < x) → q_run tab oc nL sc (q_den d) rt Q tgt ls st h)) (k1 : (¬ (0 < x) → q_run tab oc nL sc (q_den d) rt Q (pc + 3) ls st h)) : q_run tab oc nL sc (q_den d) rt Q pc ls (q_i x :: st) h := fun X hA hC hR => hA.2.2.2.2.2.2.2.2.2.2.2.2.2.2.2.2.2.2.2.2.2.2.2.2.2.2.2.2.2.2.2.2.2.2.2.2.2.2.2.2.2.2.1 _ _ _ _ _ _ _ p0 p1 (fun z => k0 z X hA hC hR) (fun z => k1 z X hA hC hR)
theorem q_if_le {pc : Nat} {ls : List (Nat × q_V)} {st : List q_V} {h : q_H} {off : Int} {tgt : Nat} {x : Int32} (p0 : tab pc = some (.ifCond .le off, 3)) (p1 : (pc : Int) + off = (tgt : Int)) (k0 : ((x ≤ 0) → q_run tab oc nL sc (q_den d) rt Q tgt ls st h)) (k1 : (¬ (x ≤ 0) → q_run tab oc nL sc (q_den d) rt Q (pc + 3) ls st h)) : q_run tab oc nL sc (q_den d) rt Q pc ls (q_i x :: st) h := fun X hA hC hR => hA.2.2.2.2.2.2.2.2.2.2.2.2.2.2.2.2.2.2.2.2.2.2.2.2.2.2.2.2.2.2.2.2.2.2.2.2.2.2.2.2.2.2.2.1 _ _ _ _ _ _ _ p0 p1 (fun z => k0 z X hA hC hR) (fun z => k1 z X hA hC hR)
theorem q_icmp_eq {pc : Nat} {ls : List (Nat × q_V)} {st : List q_V} {h : q_H} {off : Int} {tgt : Nat} {x y : Int32} (p0 : tab pc = some (.if_icmp .eq off, 3)) (p1 : (pc : Int) + off = (tgt : Int)) (k0 : ((x = y) → q_run tab oc nL sc (q_den d) rt Q tgt ls st h)) (k1 : (¬ (x = y) → q_run tab oc nL sc (q_den d) rt Q (pc + 3) ls st h)) : q_run tab oc nL sc (q_den d) rt Q pc ls (q_i y :: q_i x :: st) h := fun X hA hC hR => hA.2.2.2.2.2.2.2.2.2.2.2.2.2.2.2.2.2.2.2.2.2.2.2.2.2.2.2.2.2.2.2.2.2.2.2.2.2.2.2.2.2.2.2.2.1 _ _ _ _ _ _ _ _ p0 p1 (fun z => k0 z X hA hC hR) (fun z => k1 z X hA hC hR)
theorem q_icmp_lt {pc : Nat} {ls : List (Nat × q_V)} {st : List q_V} {h : q_H} {off : Int} {tgt : Nat} {x y : Int32} (p0 : tab pc = some (.if_icmp .lt off, 3)) (p1 : (pc : Int) + off = (tgt : Int)) (k0 : ((x < y) → q_run tab oc nL sc (q_den d) rt Q tgt ls st h)) (k1 : (¬ (x < y) → q_run tab oc nL sc (q_den d) rt Q (pc + 3) ls st h)) : q_run tab oc nL sc (q_den d) rt Q pc ls (q_i y :: q_i x :: st) h := fun X hA hC hR => hA.2.2.2.2.2.2.2.2.2.2.2.2.2.2.2.2.2.2.2.2.2.2.2.2.2.2.2.2.2.2.2.2.2.2.2.2.2.2.2.2.2.2.2.2.2.1 _ _ _ _ _ _ _ _ p0 p1 (fun z => k0 z X hA hC hR) (fun z => k1 z X hA hC hR)
theorem q_icmp_ge {pc : Nat} {ls : List (Nat × q_V)} {st : List q_V} {h : q_H} {off : Int} {tgt : Nat} {x y : Int32} (p0 : tab pc = some (.if_icmp .ge off, 3)) (p1 : (pc : Int) + off = (tgt : Int)) (k0 : ((y ≤ x) → q_run tab oc nL sc (q_den d) rt Q tgt ls st h)) (k1 : (¬ (y ≤ x) → q_run tab oc nL sc (q_den d) rt Q (pc + 3) ls st h)) : q_run tab oc nL sc (q_den d) rt Q pc ls (q_i y :: q_i x :: st) h := fun X hA hC hR => hA.2.2.2.2.2.2.2.2.2.2.2.2.2.2.2.2.2.2.2.2.2.2.2.2.2.2.2.2.2.2.2.2.2.2.2.2.2.2.2.2.2.2.2.2.2.2.1 _ _ _ _ _ _ _ _ p0 p1 (fun z => k0 z X hA hC hR) (fun z => k1 z X hA hC hR)
theorem q_icmp_gt {pc : Nat} {ls : List (Nat × q_V)} {st : List q_V} {h : q_H} {off : Int} {tgt : Nat} {x y : Int32} (p0 : tab pc = some (.if_icmp .gt off, 3)) (p1 : (pc : Int) + off = (tgt : Int)) (k0 : ((y < x) → q_run tab oc nL sc (q_den d) rt Q tgt ls st h)) (k1 : (¬ (y < x) → q_run tab oc nL sc (q_den d) rt Q (pc + 3) ls st h)) : q_run tab oc nL sc (q_den d) rt Q pc ls (q_i y :: q_i x :: st) h := fun X hA hC hR => hA.2.2.2.2.2.2.2.2.2.2.2.2.2.2.2.2.2.2.2.2.2.2.2.2.2.2.2.2.2.2.2.2.2.2.2.2.2.2.2.2.2.2.2.2.2.2.2.1 _ _ _ _ _ _ _ _ p0 p1 (fun z => k0 z X hA hC hR) (fun z => k1 z X hA hC hR)
theorem q_icmp_le {pc : Nat} {ls : List (Nat × q_V)} {st : List q_V} {h : q_H} {off : Int} {tgt : Nat} {x y : Int32} (p0 : tab pc = some (.if_icmp .le off, 3)) (p1 : (pc : Int) + off = (tgt : Int)) (k0 : ((x ≤ y) → q_run tab oc nL sc (q_den d) rt Q tgt ls st h)) (k1 : (¬ (x ≤ y) → q_run tab oc nL sc (q_den d) rt Q (pc + 3) ls st h)) : q_run tab oc nL sc (q_den d) rt Q pc ls (q_i y :: q_i x :: st) h := fun X hA hC hR => hA.2.2.2.2.2.2.2.2.2.2.2.2.2.2.2.2.2.2.2.2.2.2.2.2.2.2.2.2.2.2.2.2.2.2.2.2.2.2.2.2.2.2.2.2.2.2.2.2.1 _ _ _ _ _ _ _ _ p0 p1 (fun z => k0 z X hA hC hR) (fun z => k1 z X hA hC hR)
theorem q_goto {pc : Nat} {ls : List (Nat × q_V)} {st : List q_V} {h : q_H} {off : Int} {tgt : Nat} (p0 : tab pc = some (.goto off, 3)) (p1 : (pc : Int) + off = (tgt : Int)) (k0 : q_run tab oc nL sc (q_den d) rt Q tgt ls st h) : q_run tab oc nL sc (q_den d) rt Q pc ls st h := fun X hA hC hR => hA.2.2.2.2.2.2.2.2.2.2.2.2.2.2.2.2.2.2.2.2.2.2.2.2.2.2.2.2.2.2.2.2.2.2.2.2.2.2.2.2.2.2.2.2.2.2.2.2.2.1 _ _ _ _ _ _ p0 p1 (k0 X hA hC hR)
theorem q_tsOut {pc : Nat} {ls : List (Nat × q_V)} {st : List q_V} {h : q_H} {dflt lo hi : Int} {offs : Array Int} {len : Nat} {x : Int32} {tgt : Nat} (p0 : tab pc = some (.tableswitch dflt lo hi offs, len)) (p1 : (x.toInt < lo ∨ hi < x.toInt)) (p2 : (pc : Int) + dflt = (tgt : Int)) (k0 : q_run tab oc nL sc (q_den d) rt Q tgt ls st h) : q_run tab oc nL sc (q_den d) rt Q pc ls (q_i x :: st) h := fun X hA hC hR => hA.2.2.2.2.2.2.2.2.2.2.2.2.2.2.2.2.2.2.2.2.2.2.2.2.2.2.2.2.2.2.2.2.2.2.2.2.2.2.2.2.2.2.2.2.2.2.2.2.2.2.1 _ _ _ _ _ _ _ _ _ _ _ p0 p1 p2 (k0 X hA hC hR)
theorem q_tsIn {pc : Nat} {ls : List (Nat × q_V)} {st : List q_V} {h : q_H} {dflt lo hi : Int} {offs : Array Int} {len : Nat} {x : Int32} {off : Int} {tgt : Nat} (p0 : tab pc = some (.tableswitch dflt lo hi offs, len)) (p1 : ¬ x.toInt < lo) (p2 : ¬ hi < x.toInt) (p3 : offs[(x.toInt - lo).toNat]? = some off) (p4 : (pc : Int) + off = (tgt : Int)) (k0 : q_run tab oc nL sc (q_den d) rt Q tgt ls st h) : q_run tab oc nL sc (q_den d) rt Q pc ls (q_i x :: st) h := fun X hA hC hR => hA.2.2.2.2.2.2.2.2.2.2.2.2.2.2.2.2.2.2.2.2.2.2.2.2.2.2.2.2.2.2.2.2.2.2.2.2.2.2.2.2.2.2.2.2.2.2.2.2.2.2.2.1 _ _ _ _ _ _ _ _ _ _ _ _ p0 p1 p2 p3 p4 (k0 X hA hC hR)
theorem q_getI {pc : Nat} {ls : List (Nat × q_V)} {st : List q_V} {h : q_H} {f k i ci j : Nat} (p0 : tab pc = some (.getfield f, 3)) (p1 : i < q_cnt k) (p2 : q_kc k = some ci) (p3 : q_fld oc f = some (ci, j)) (p4 : q_ft ci j = 0) (k0 : q_run tab oc nL sc (q_den d) rt Q (pc + 3) ls (q_i (h.1 k i j) :: st) h) : q_run tab oc nL sc (q_den d) rt Q pc ls (q_r k i :: st) h := fun X hA hC hR => hA.2.2.2.2.2.2.2.2.2.2.2.2.2.2.2.2.2.2.2.2.2.2.2.2.2.2.2.2.2.2.2.2.2.2.2.2.2.2.2.2.2.2.2.2.2.2.2.2.2.2.2.2.1 _ _ _ _ _ _ _ _ _ p0 p1 p2 p3 p4 (k0 X hA hC hR)
theorem q_getL {pc : Nat} {ls : List (Nat × q_V)} {st : List q_V} {h : q_H} {f k i ci j : Nat} (p0 : tab pc = some (.getfield f, 3)) (p1 : i < q_cnt k) (p2 : q_kc k = some ci) (p3 : q_fld oc f = some (ci, j)) (p4 : q_ft ci j = 1) (k0 : q_run tab oc nL sc (q_den d) rt Q (pc + 3) ls (q_l (h.2 k i j) :: st) h) : q_run tab oc nL sc (q_den d) rt Q pc ls (q_r k i :: st) h := fun X hA hC hR => hA.2.2.2.2.2.2.2.2.2.2.2.2.2.2.2.2.2.2.2.2.2.2.2.2.2.2.2.2.2.2.2.2.2.2.2.2.2.2.2.2.2.2.2.2.2.2.2.2.2.2.2.2.2.1 _ _ _ _ _ _ _ _ _ p0 p1 p2 p3 p4 (k0 X hA hC hR)
theorem q_getR {pc : Nat} {ls : List (Nat × q_V)} {st : List q_V} {h : q_H} {f k i ci j : Nat} (p0 : tab pc = some (.getfield f, 3)) (p1 : i < q_cnt k) (p2 : q_kc k = some ci) (p3 : q_fld oc f = some (ci, j)) (p4 : q_ft ci j = 2) (k0 : q_run tab oc nL sc (q_den d) rt Q (pc + 3) ls (q_r (q_rf k i j).1 (q_rf k i j).2 :: st) h) : q_run tab oc nL sc (q_den d) rt Q pc ls (q_r k i :: st) h := fun X hA hC hR => hA.2.2.2.2.2.2.2.2.2.2.2.2.2.2.2.2.2.2.2.2.2.2.2.2.2.2.2.2.2.2.2.2.2.2.2.2.2.2.2.2.2.2.2.2.2.2.2.2.2.2.2.2.2.2.1 _ _ _ _ _ _ _ _ _ p0 p1 p2 p3 p4 (k0 X hA hC hR)
theorem q_putI {pc : Nat} {ls : List (Nat × q_V)} {st : List q_V} {h : q_H} {f k i ci j : Nat} {v : Int32} (p0 : tab pc = some (.putfield f, 3)) (p1 : i < q_cnt k) (p2 : q_kc k = some ci) (p3 : q_fld oc f = some (ci, j)) (p4 : q_ft ci j = 0) (k0 : q_run tab oc nL sc (q_den d) rt Q (pc + 3) ls (st) (q_sI h k i j v)) : q_run tab oc nL sc (q_den d) rt Q pc ls (q_i v :: q_r k i :: st) h := fun X hA hC hR => hA.2.2.2.2.2.2.2.2.2.2.2.2.2.2.2.2.2.2.2.2.2.2.2.2.2.2.2.2.2.2.2.2.2.2.2.2.2.2.2.2.2.2.2.2.2.2.2.2.2.2.2.2.2.2.2.1 _ _ _ _ _ _ _ _ _ _ p0 p1 p2 p3 p4 (k0 X hA hC hR)
theorem q_putL {pc : Nat} {ls : List (Nat × q_V)} {st : List q_V} {h : q_H} {f k i ci j : Nat} {v : Int64} (p0 : tab pc = some (.putfield f, 3)) (p1 : i < q_cnt k) (p2 : q_kc k = some ci) (p3 : q_fld oc f = some (ci, j)) (p4 : q_ft ci j = 1) (k0 : q_run tab oc nL sc (q_den d) rt Q (pc + 3) ls (st) (q_sL h k i j v)) : q_run tab oc nL sc (q_den d) rt Q pc ls (q_l v :: q_r k i :: st) h := fun X hA hC hR => hA.2.2.2.2.2.2.2.2.2.2.2.2.2.2.2.2.2.2.2.2.2.2.2.2.2.2.2.2.2.2.2.2.2.2.2.2.2.2.2.2.2.2.2.2.2.2.2.2.2.2.2.2.2.2.2.2.1 _ _ _ _ _ _ _ _ _ _ p0 p1 p2 p3 p4 (k0 X hA hC hR)
theorem q_iaload {pc : Nat} {ls : List (Nat × q_V)} {st : List q_V} {h : q_H} {k i : Nat} {x : Int32} (p0 : tab pc = some (.iaload, 1)) (p1 : i < q_cnt k) (p2 : q_kc k = none) (p3 : q_at k = 1) (p4 : vp_in x (q_len k i)) (k0 : q_run tab oc nL sc (q_den d) rt Q (pc + 1) ls (q_i (h.1 k i x.toNatClampNeg) :: st) h) : q_run tab oc nL sc (q_den d) rt Q pc ls (q_i x :: q_r k i :: st) h := fun X hA hC hR => hA.2.2.2.2.2.2.2.2.2.2.2.2.2.2.2.2.2.2.2.2.2.2.2.2.2.2.2.2.2.2.2.2.2.2.2.2.2.2.2.2.2.2.2.2.2.2.2.2.2.2.2.2.2.2.2.2.2.1 _ _ _ _ _ _ _ p0 p1 p2 p3 p4 (k0 X hA hC hR)
theorem q_zaload {pc : Nat} {ls : List (Nat × q_V)} {st : List q_V} {h : q_H} {k i : Nat} {x : Int32} (p0 : tab pc = some (.baload, 1)) (p1 : i < q_cnt k) (p2 : q_kc k = none) (p3 : q_at k = 3) (p4 : vp_in x (q_len k i)) (k0 : q_run tab oc nL sc (q_den d) rt Q (pc + 1) ls (q_i (h.1 k i x.toNatClampNeg) :: st) h) : q_run tab oc nL sc (q_den d) rt Q pc ls (q_i x :: q_r k i :: st) h := fun X hA hC hR => hA.2.2.2.2.2.2.2.2.2.2.2.2.2.2.2.2.2.2.2.2.2.2.2.2.2.2.2.2.2.2.2.2.2.2.2.2.2.2.2.2.2.2.2.2.2.2.2.2.2.2.2.2.2.2.2.2.2.2.1 _ _ _ _ _ _ _ p0 p1 p2 p3 p4 (k0 X hA hC hR)
theorem q_laload {pc : Nat} {ls : List (Nat × q_V)} {st : List q_V} {h : q_H} {k i : Nat} {x : Int32} (p0 : tab pc = some (.laload, 1)) (p1 : i < q_cnt k) (p2 : q_kc k = none) (p3 : q_at k = 2) (p4 : vp_in x (q_len k i)) (k0 : q_run tab oc nL sc (q_den d) rt Q (pc + 1) ls (q_l (h.2 k i x.toNatClampNeg) :: st) h) : q_run tab oc nL sc (q_den d) rt Q pc ls (q_i x :: q_r k i :: st) h := fun X hA hC hR => hA.2.2.2.2.2.2.2.2.2.2.2.2.2.2.2.2.2.2.2.2.2.2.2.2.2.2.2.2.2.2.2.2.2.2.2.2.2.2.2.2.2.2.2.2.2.2.2.2.2.2.2.2.2.2.2.2.2.2.2.1 _ _ _ _ _ _ _ p0 p1 p2 p3 p4 (k0 X hA hC hR)
theorem q_aaload {pc : Nat} {ls : List (Nat × q_V)} {st : List q_V} {h : q_H} {k i : Nat} {x : Int32} (p0 : tab pc = some (.aaload, 1)) (p1 : i < q_cnt k) (p2 : q_kc k = none) (p3 : q_at k = 4) (p4 : vp_in x (q_len k i)) (k0 : q_run tab oc nL sc (q_den d) rt Q (pc + 1) ls (q_r (q_rf k i x.toNatClampNeg).1 (q_rf k i x.toNatClampNeg).2 :: st) h) : q_run tab oc nL sc (q_den d) rt Q pc ls (q_i x :: q_r k i :: st) h := fun X hA hC hR => hA.2.2.2.2.2.2.2.2.2.2.2.2.2.2.2.2.2.2.2.2.2.2.2.2.2.2.2.2.2.2.2.2.2.2.2.2.2.2.2.2.2.2.2.2.2.2.2.2.2.2.2.2.2.2.2.2.2.2.2.2.1 _ _ _ _ _ _ _ p0 p1 p2 p3 p4 (k0 X hA hC hR)
theorem q_iastore {pc : Nat} {ls : List (Nat × q_V)} {st : List q_V} {h : q_H} {k i : Nat} {x v : Int32} (p0 : tab pc = some (.iastore, 1)) (p1 : i < q_cnt k) (p2 : q_kc k = none) (p3 : q_at k = 1) (p4 : vp_in x (q_len k i)) (k0 : q_run tab oc nL sc (q_den d) rt Q (pc + 1) ls (st) (q_sI h k i x.toNatClampNeg v)) : q_run tab oc nL sc (q_den d) rt Q pc ls (q_i v :: q_i x :: q_r k i :: st) h := fun X hA hC hR => hA.2.2.2.2.2.2.2.2.2.2.2.2.2.2.2.2.2.2.2.2.2.2.2.2.2.2.2.2.2.2.2.2.2.2.2.2.2.2.2.2.2.2.2.2.2.2.2.2.2.2.2.2.2.2.2.2.2.2.2.2.2.1 _ _ _ _ _ _ _ _ p0 p1 p2 p3 p4 (k0 X hA hC hR)
theorem q_zastore {pc : Nat} {ls : List (Nat × q_V)} {st : List q_V} {h : q_H} {k i : Nat} {x v : Int32} (p0 : tab pc = some (.bastore, 1)) (p1 : i < q_cnt k) (p2 : q_kc k = none) (p3 : q_at k = 3) (p4 : vp_in x (q_len k i)) (p5 : (v = 0 ∨ v = 1)) (k0 : q_run tab oc nL sc (q_den d) rt Q (pc + 1) ls (st) (q_sI h k i x.toNatClampNeg v)) : q_run tab oc nL sc (q_den d) rt Q pc ls (q_i v :: q_i x :: q_r k i :: st) h := fun X hA hC hR => hA.2.2.2.2.2.2.2.2.2.2.2.2.2.2.2.2.2.2.2.2.2.2.2.2.2.2.2.2.2.2.2.2.2.2.2.2.2.2.2.2.2.2.2.2.2.2.2.2.2.2.2.2.2.2.2.2.2.2.2.2.2.2.1 _ _ _ _ _ _ _ _ p0 p1 p2 p3 p4 p5 (k0 X hA hC hR)
theorem q_lastore {pc : Nat} {ls : List (Nat × q_V)} {st : List q_V} {h : q_H} {k i : Nat} {x : Int32} {v : Int64} (p0 : tab pc = some (.lastore, 1)) (p1 : i < q_cnt k) (p2 : q_kc k = none) (p3 : q_at k = 2) (p4 : vp_in x (q_len k i)) (k0 : q_run tab oc nL sc (q_den d) rt Q (pc + 1) ls (st) (q_sL h k i x.toNatClampNeg v)) : q_run tab oc nL sc (q_den d) rt Q pc ls (q_l v :: q_i x :: q_r k i :: st) h := fun X hA hC hR => hA.2.2.2.2.2.2.2.2.2.2.2.2.2.2.2.2.2.2.2.2.2.2.2.2.2.2.2.2.2.2.2.2.2.2.2.2.2.2.2.2.2.2.2.2.2.2.2.2.2.2.2.2.2.2.2.2.2.2.2.2.2.2.2.1 _ _ _ _ _ _ _ _ p0 p1 p2 p3 p4 (k0 X hA hC hR)
theorem q_alen {pc : Nat} {ls : List (Nat × q_V)} {st : List q_V} {h : q_H} {k i : Nat} (p0 : tab pc = some (.arraylength, 1)) (p1 : i < q_cnt k) (p2 : q_kc k = none) (p3 : 1 ≤ q_at k) (p4 : q_at k ≤ 4) (k0 : q_run tab oc nL sc (q_den d) rt Q (pc + 1) ls (q_i (Int32.ofNat (q_len k i)) :: st) h) : q_run tab oc nL sc (q_den d) rt Q pc ls (q_r k i :: st) h := fun X hA hC hR => hA.2.2.2.2.2.2.2.2.2.2.2.2.2.2.2.2.2.2.2.2.2.2.2.2.2.2.2.2.2.2.2.2.2.2.2.2.2.2.2.2.2.2.2.2.2.2.2.2.2.2.2.2.2.2.2.2.2.2.2.2.2.2.2.2.1 _ _ _ _ _ _ p0 p1 p2 p3 p4 (k0 X hA hC hR)
theorem q_sld {pc : Nat} {ls : List (Nat × q_V)} {st : List q_V} {h : q_H} {L : Nat} {xs : Nat → Int32} {x : Int32} (p0 : tab pc = some (.iaload, 1)) (p1 : sc = some (L, xs)) (p2 : vp_in x L) (k0 : q_run tab oc nL sc (q_den d) rt Q (pc + 1) ls (q_i (xs x.toNatClampNeg) :: st) h) : q_run tab oc nL sc (q_den d) rt Q pc ls (q_i x :: q_r 28 0 :: st) h := fun X hA hC hR => hA.2.2.2.2.2.2.2.2.2.2.2.2.2.2.2.2.2.2.2.2.2.2.2.2.2.2.2.2.2.2.2.2.2.2.2.2.2.2.2.2.2.2.2.2.2.2.2.2.2.2.2.2.2.2.2.2.2.2.2.2.2.2.2.2.2.1 _ _ _ _ _ _ _ p0 p1 p2 (k0 X hA hC hR)
theorem q_slen {pc : Nat} {ls : List (Nat × q_V)} {st : List q_V} {h : q_H} {L : Nat} {xs : Nat → Int32} (p0 : tab pc = some (.arraylength, 1)) (p1 : sc = some (L, xs)) (k0 : q_run tab oc nL sc (q_den d) rt Q (pc + 1) ls (q_i (Int32.ofNat L) :: st) h) : q_run tab oc nL sc (q_den d) rt Q pc ls (q_r 28 0 :: st) h := fun X hA hC hR => hA.2.2.2.2.2.2.2.2.2.2.2.2.2.2.2.2.2.2.2.2.2.2.2.2.2.2.2.2.2.2.2.2.2.2.2.2.2.2.2.2.2.2.2.2.2.2.2.2.2.2.2.2.2.2.2.2.2.2.2.2.2.2.2.2.2.2.1 _ _ _ _ _ _ p0 p1 (k0 X hA hC hR)
theorem q_mmax {pc : Nat} {ls : List (Nat × q_V)} {st : List q_V} {h : q_H} {f : Nat} {x y : Int32} (p0 : tab pc = some (.invokestatic f, 3)) (p1 : q_mm oc f = some 0) (p2 : q_size st ≤ 8) (k0 : q_run tab oc nL sc (q_den d) rt Q (pc + 3) ls (q_i (if x < y then y else x) :: st) h) : q_run tab oc nL sc (q_den d) rt Q pc ls (q_i y :: q_i x :: st) h := fun X hA hC hR => hA.2.2.2.2.2.2.2.2.2.2.2.2.2.2.2.2.2.2.2.2.2.2.2.2.2.2.2.2.2.2.2.2.2.2.2.2.2.2.2.2.2.2.2.2.2.2.2.2.2.2.2.2.2.2.2.2.2.2.2.2.2.2.2.2.2.2.2.1 _ _ _ _ _ _ _ p0 p1 p2 (k0 X hA hC hR)
theorem q_mmin {pc : Nat} {ls : List (Nat × q_V)} {st : List q_V} {h : q_H} {f : Nat} {x y : Int32} (p0 : tab pc = some (.invokestatic f, 3)) (p1 : q_mm oc f = some 1) (p2 : q_size st ≤ 8) (k0 : q_run tab oc nL sc (q_den d) rt Q (pc + 3) ls (q_i (if y < x then y else x) :: st) h) : q_run tab oc nL sc (q_den d) rt Q pc ls (q_i y :: q_i x :: st) h := fun X hA hC hR => hA.2.2.2.2.2.2.2.2.2.2.2.2.2.2.2.2.2.2.2.2.2.2.2.2.2.2.2.2.2.2.2.2.2.2.2.2.2.2.2.2.2.2.2.2.2.2.2.2.2.2.2.2.2.2.2.2.2.2.2.2.2.2.2.2.2.2.2.2.1 _ _ _ _ _ _ _ p0 p1 p2 (k0 X hA hC hR)
theorem q_sub {pc : Nat} {ls ls1 : List (Nat × q_V)} {st : List q_V} {h : q_H} {ks : List Nat} (p0 : ks.filterMap (fun k => ls[k]?) = ls1) (k0 : q_run tab oc nL sc (q_den d) rt Q pc ls1 st h) : q_run tab oc nL sc (q_den d) rt Q pc ls st h := fun X hA hC hR => hA.2.2.2.2.2.2.2.2.2.2.2.2.2.2.2.2.2.2.2.2.2.2.2.2.2.2.2.2.2.2.2.2.2.2.2.2.2.2.2.2.2.2.2.2.2.2.2.2.2.2.2.2.2.2.2.2.2.2.2.2.2.2.2.2.2.2.2.2.2 _ _ _ _ _ _ p0 (k0 X hA hC hR)
theorem q_callV {pc : Nat} {ls : List (Nat × q_V)} {st : List q_V} {h : q_H} {f mi k i : Nat} {As rest : List q_V} (p0 : tab pc = some (.invokevirtual f, 3)) (p1 : q_mth oc f = some (mi, 0)) (p2 : st = As.reverse ++ q_r k i :: rest) (p3 : i < q_cnt k) (p4 : q_kc k = some (q_mO mi)) (p5 : As.length = q_mA mi) (p6 : q_size rest ≤ 8)
    (kk : q_den d mi (q_r k i :: As) h (fun r h1 => q_run tab oc nL sc (q_den d) rt Q (pc + 3) ls (r.toList ++ rest) h1)) : q_run tab oc nL sc (q_den d) rt Q pc ls st h :=
  fun X hA hC hR => hC.1 _ _ _ _ _ _ _ _ _ _ p0 p1 p2 p3 p4 p5 p6 (q_den_mono _ _ _ _ _ _ (fun _ _ z => z X hA hC hR) kk)
theorem q_callS {pc : Nat} {ls : List (Nat × q_V)} {st : List q_V} {h : q_H} {f mi kd : Nat} {As rest : List q_V} (p0 : tab pc = some (.invokestatic f, 3)) (p1 : q_mth oc f = some (mi, kd + 1)) (p2 : st = As.reverse ++ rest) (p5 : As.length = q_mA mi) (p6 : q_size rest ≤ 8)
    (kk : q_den d mi As h (fun r h1 => q_run tab oc nL sc (q_den d) rt Q (pc + 3) ls (r.toList ++ rest) h1)) : q_run tab oc nL sc (q_den d) rt Q pc ls st h :=
  fun X hA hC hR => hC.2 _ _ _ _ _ _ _ _ _ p0 p1 p2 p5 p6 (q_den_mono _ _ _ _ _ _ (fun _ _ z => z X hA hC hR) kk)
theorem q_vret {pc : Nat} {ls : List (Nat × q_V)} {h : q_H} (p0 : tab pc = some (.return_, 1)) (p1 : rt = 0) (kk : Q none h) : q_run tab oc nL sc (q_den d) rt Q pc ls [] h := fun X _ _ hR => hR.1 _ _ _ p0 p1 kk
theorem q_iret {pc : Nat} {ls : List (Nat × q_V)} {h : q_H} {v : Int32} (p0 : tab pc = some (.ireturn, 1)) (p1 : rt = 1) (kk : Q (some (q_i v)) h) : q_run tab oc nL sc (q_den d) rt Q pc ls [q_i v] h := fun X _ _ hR => hR.2.1 _ _ _ _ p0 p1 kk
theorem q_lret {pc : Nat} {ls : List (Nat × q_V)} {h : q_H} {v : Int64} (p0 : tab pc = some (.lreturn, 1)) (p1 : rt = 2) (kk : Q (some (q_l v)) h) : q_run tab oc nL sc (q_den d) rt Q pc ls [q_l v] h := fun X _ _ hR => hR.2.2.1 _ _ _ _ p0 p1 kk
theorem q_zret {pc : Nat} {ls : List (Nat × q_V)} {h : q_H} {v : Int32} (p0 : tab pc = some (.ireturn, 1)) (p1 : rt = 3) (p2 : v = 0 ∨ v = 1) (kk : Q (some (q_i v)) h) : q_run tab oc nL sc (q_den d) rt Q pc ls [q_i v] h := fun X _ _ hR => hR.2.2.2 _ _ _ _ p0 p1 p2 kk
end QR
end
section
/-! ===== facts of the tables ===== -/
theorem q_dk_X0_add : ∀ q ∈ q_t_X0_add, decode cX0_add q.1 = .ok q.2 := by decide +kernel
theorem q_dk_X0_size : ∀ q ∈ q_t_X0_size, decode cX0_size q.1 = .ok q.2 := by decide +kernel
theorem q_dk_X0_has : ∀ q ∈ q_t_X0_has, decode cX0_has q.1 = .ok q.2 := by decide +kernel
theorem q_dk_X0_programOf : ∀ q ∈ q_t_X0_programOf, decode cX0_programOf q.1 = .ok q.2 := by decide +kernel
theorem q_dk_X0_partOf : ∀ q ∈ q_t_X0_partOf, decode cX0_partOf q.1 = .ok q.2 := by decide +kernel
theorem q_dk_X0_fromOf : ∀ q ∈ q_t_X0_fromOf, decode cX0_fromOf q.1 = .ok q.2 := by decide +kernel
theorem q_dk_X0_toOf : ∀ q ∈ q_t_X0_toOf, decode cX0_toOf q.1 = .ok q.2 := by decide +kernel
theorem q_dk_X0_ticksOf : ∀ q ∈ q_t_X0_ticksOf, decode cX0_ticksOf q.1 = .ok q.2 := by decide +kernel
theorem q_dk_X0_endAhead : ∀ q ∈ q_t_X0_endAhead, decode cX0_endAhead q.1 = .ok q.2 := by decide +kernel
theorem q_dk_X0_firstEndWithNone : ∀ q ∈ q_t_X0_firstEndWithNone, decode cX0_firstEndWithNone q.1 = .ok q.2 := by decide +kernel
theorem q_dk_X1_setDrains : ∀ q ∈ q_t_X1_setDrains, decode cX1_setDrains q.1 = .ok q.2 := by decide +kernel
theorem q_dk_X1_setCosts : ∀ q ∈ q_t_X1_setCosts, decode cX1_setCosts q.1 = .ok q.2 := by decide +kernel
theorem q_dk_X1_setRising : ∀ q ∈ q_t_X1_setRising, decode cX1_setRising q.1 = .ok q.2 := by decide +kernel
theorem q_dk_X1_setThresholds : ∀ q ∈ q_t_X1_setThresholds, decode cX1_setThresholds q.1 = .ok q.2 := by decide +kernel
theorem q_dk_X1_drainIn : ∀ q ∈ q_t_X1_drainIn, decode cX1_drainIn q.1 = .ok q.2 := by decide +kernel
theorem q_dk_X1_drainAwake : ∀ q ∈ q_t_X1_drainAwake, decode cX1_drainAwake q.1 = .ok q.2 := by decide +kernel
theorem q_dk_X1_restIn : ∀ q ∈ q_t_X1_restIn, decode cX1_restIn q.1 = .ok q.2 := by decide +kernel
theorem q_dk_X1_sumIn : ∀ q ∈ q_t_X1_sumIn, decode cX1_sumIn q.1 = .ok q.2 := by decide +kernel
theorem q_dk_X1_bestState : ∀ q ∈ q_t_X1_bestState, decode cX1_bestState q.1 = .ok q.2 := by decide +kernel
theorem q_dk_X1_planned : ∀ q ∈ q_t_X1_planned, decode cX1_planned q.1 = .ok q.2 := by decide +kernel
theorem q_dk_X1_stateByRule : ∀ q ∈ q_t_X1_stateByRule, decode cX1_stateByRule q.1 = .ok q.2 := by decide +kernel
theorem q_dk_X1_restByRule : ∀ q ∈ q_t_X1_restByRule, decode cX1_restByRule q.1 = .ok q.2 := by decide +kernel
theorem q_dk_X1_sumByRule : ∀ q ∈ q_t_X1_sumByRule, decode cX1_sumByRule q.1 = .ok q.2 := by decide +kernel
theorem q_dk_X1_spanByRule : ∀ q ∈ q_t_X1_spanByRule, decode cX1_spanByRule q.1 = .ok q.2 := by decide +kernel
theorem q_dk_X1_sumOfTry : ∀ q ∈ q_t_X1_sumOfTry, decode cX1_sumOfTry q.1 = .ok q.2 := by decide +kernel
theorem q_dk_X1_takeBestThresholds : ∀ q ∈ q_t_X1_takeBestThresholds, decode cX1_takeBestThresholds q.1 = .ok q.2 := by decide +kernel
theorem q_dk_X1_bestLaterOff : ∀ q ∈ q_t_X1_bestLaterOff, decode cX1_bestLaterOff q.1 = .ok q.2 := by decide +kernel
theorem q_dk_X2_layOut : ∀ q ∈ q_t_X2_layOut, decode cX2_layOut q.1 = .ok q.2 := by decide +kernel
theorem q_dk_X2_size : ∀ q ∈ q_t_X2_size, decode cX2_size q.1 = .ok q.2 := by decide +kernel
theorem q_dk_X2_has : ∀ q ∈ q_t_X2_has, decode cX2_has q.1 = .ok q.2 := by decide +kernel
theorem q_dk_X2_firstOf : ∀ q ∈ q_t_X2_firstOf, decode cX2_firstOf q.1 = .ok q.2 := by decide +kernel
theorem q_dk_X2_lenOf : ∀ q ∈ q_t_X2_lenOf, decode cX2_lenOf q.1 = .ok q.2 := by decide +kernel
theorem q_dk_X2_endsAll : ∀ q ∈ q_t_X2_endsAll, decode cX2_endsAll q.1 = .ok q.2 := by decide +kernel
theorem q_dk_X2_find : ∀ q ∈ q_t_X2_find, decode cX2_find q.1 = .ok q.2 := by decide +kernel
theorem q_dk_X2_longest : ∀ q ∈ q_t_X2_longest, decode cX2_longest q.1 = .ok q.2 := by decide +kernel
theorem q_dk_X3_clear : ∀ q ∈ q_t_X3_clear, decode cX3_clear q.1 = .ok q.2 := by decide +kernel
theorem q_dk_X3_add : ∀ q ∈ q_t_X3_add, decode cX3_add q.1 = .ok q.2 := by decide +kernel
theorem q_dk_X3_spread : ∀ q ∈ q_t_X3_spread, decode cX3_spread q.1 = .ok q.2 := by decide +kernel
theorem q_dk_X3_addAll : ∀ q ∈ q_t_X3_addAll, decode cX3_addAll q.1 = .ok q.2 := by decide +kernel
theorem q_dk_X3_ticksBy : ∀ q ∈ q_t_X3_ticksBy, decode cX3_ticksBy q.1 = .ok q.2 := by decide +kernel
theorem q_dk_X3_ticksOf : ∀ q ∈ q_t_X3_ticksOf, decode cX3_ticksOf q.1 = .ok q.2 := by decide +kernel
theorem q_dk_X3_programsAt : ∀ q ∈ q_t_X3_programsAt, decode cX3_programsAt q.1 = .ok q.2 := by decide +kernel
theorem q_dk_X4_part : ∀ q ∈ q_t_X4_part, decode cX4_part q.1 = .ok q.2 := by decide +kernel
theorem q_dk_X4_rise : ∀ q ∈ q_t_X4_rise, decode cX4_rise q.1 = .ok q.2 := by decide +kernel
theorem q_dk_X4_need : ∀ q ∈ q_t_X4_need, decode cX4_need q.1 = .ok q.2 := by decide +kernel
theorem q_dk_X4_hold : ∀ q ∈ q_t_X4_hold, decode cX4_hold q.1 = .ok q.2 := by decide +kernel
theorem q_dk_X4_back : ∀ q ∈ q_t_X4_back, decode cX4_back q.1 = .ok q.2 := by decide +kernel
theorem q_dk_X4_timer : ∀ q ∈ q_t_X4_timer, decode cX4_timer q.1 = .ok q.2 := by decide +kernel
theorem q_dk_X4_rule : ∀ q ∈ q_t_X4_rule, decode cX4_rule q.1 = .ok q.2 := by decide +kernel
theorem q_dk_X4_learn : ∀ q ∈ q_t_X4_learn, decode cX4_learn q.1 = .ok q.2 := by decide +kernel
theorem q_dk_X4_look : ∀ q ∈ q_t_X4_look, decode cX4_look q.1 = .ok q.2 := by decide +kernel
theorem q_dk_X4_held : ∀ q ∈ q_t_X4_held, decode cX4_held q.1 = .ok q.2 := by decide +kernel
theorem q_dk_X4_waking : ∀ q ∈ q_t_X4_waking, decode cX4_waking q.1 = .ok q.2 := by decide +kernel
theorem q_dk_X4_fires : ∀ q ∈ q_t_X4_fires, decode cX4_fires q.1 = .ok q.2 := by decide +kernel
theorem q_dk_X4_wanted : ∀ q ∈ q_t_X4_wanted, decode cX4_wanted q.1 = .ok q.2 := by decide +kernel
theorem q_dk_X4_when : ∀ q ∈ q_t_X4_when, decode cX4_when q.1 = .ok q.2 := by decide +kernel
theorem q_dk_X4_spans : ∀ q ∈ q_t_X4_spans, decode cX4_spans q.1 = .ok q.2 := by decide +kernel
theorem q_dk_X4_span : ∀ q ∈ q_t_X4_span, decode cX4_span q.1 = .ok q.2 := by decide +kernel
theorem q_dk_X4_drain : ∀ q ∈ q_t_X4_drain, decode cX4_drain q.1 = .ok q.2 := by decide +kernel
theorem q_dk_X4_ruled : ∀ q ∈ q_t_X4_ruled, decode cX4_ruled q.1 = .ok q.2 := by decide +kernel
theorem q_dk_X4_state : ∀ q ∈ q_t_X4_state, decode cX4_state q.1 = .ok q.2 := by decide +kernel
theorem q_dk_X4_ruledState : ∀ q ∈ q_t_X4_ruledState, decode cX4_ruledState q.1 = .ok q.2 := by decide +kernel
theorem q_dk_X4_all : ∀ q ∈ q_t_X4_all, decode cX4_all q.1 = .ok q.2 := by decide +kernel
theorem q_dk_X4_without : ∀ q ∈ q_t_X4_without, decode cX4_without q.1 = .ok q.2 := by decide +kernel
theorem q_dk_X4_blame : ∀ q ∈ q_t_X4_blame, decode cX4_blame q.1 = .ok q.2 := by decide +kernel
theorem q_dk_X4_order : ∀ q ∈ q_t_X4_order, decode cX4_order q.1 = .ok q.2 := by decide +kernel
theorem q_dk_X4_isPart : ∀ q ∈ q_t_X4_isPart, decode cX4_isPart q.1 = .ok q.2 := by decide +kernel
theorem q_dk_X4_isProgram : ∀ q ∈ q_t_X4_isProgram, decode cX4_isProgram q.1 = .ok q.2 := by decide +kernel
theorem q_dk_X4_isTick : ∀ q ∈ q_t_X4_isTick, decode cX4_isTick q.1 = .ok q.2 := by decide +kernel
theorem q_dk_X4_rises : ∀ q ∈ q_t_X4_rises, decode cX4_rises q.1 = .ok q.2 := by decide +kernel
theorem q_dk_X4_hasPart : ∀ q ∈ q_t_X4_hasPart, decode cX4_hasPart q.1 = .ok q.2 := by decide +kernel
theorem q_dk_X4_hasTick : ∀ q ∈ q_t_X4_hasTick, decode cX4_hasTick q.1 = .ok q.2 := by decide +kernel
theorem q_dk_X4_leastTick : ∀ q ∈ q_t_X4_leastTick, decode cX4_leastTick q.1 = .ok q.2 := by decide +kernel
theorem q_dk_X4_ticksAhead : ∀ q ∈ q_t_X4_ticksAhead, decode cX4_ticksAhead q.1 = .ok q.2 := by decide +kernel
theorem q_dk_X4_leadsTo : ∀ q ∈ q_t_X4_leadsTo, decode cX4_leadsTo q.1 = .ok q.2 := by decide +kernel
theorem q_dk_X4_fewestWakings : ∀ q ∈ q_t_X4_fewestWakings, decode cX4_fewestWakings q.1 = .ok q.2 := by decide +kernel
theorem q_dk_X4_gatherWants : ∀ q ∈ q_t_X4_gatherWants, decode cX4_gatherWants q.1 = .ok q.2 := by decide +kernel
theorem q_dk_X4_layOutIdle : ∀ q ∈ q_t_X4_layOutIdle, decode cX4_layOutIdle q.1 = .ok q.2 := by decide +kernel
theorem q_dk_X4_drainInPlan : ∀ q ∈ q_t_X4_drainInPlan, decode cX4_drainInPlan q.1 = .ok q.2 := by decide +kernel
theorem q_dk_X4_drainByRule : ∀ q ∈ q_t_X4_drainByRule, decode cX4_drainByRule q.1 = .ok q.2 := by decide +kernel
theorem q_dk_X4_drainInSpans : ∀ q ∈ q_t_X4_drainInSpans, decode cX4_drainInSpans q.1 = .ok q.2 := by decide +kernel
theorem q_dk_X4_drainOfAll : ∀ q ∈ q_t_X4_drainOfAll, decode cX4_drainOfAll q.1 = .ok q.2 := by decide +kernel
theorem q_dk_X4_blameIn : ∀ q ∈ q_t_X4_blameIn, decode cX4_blameIn q.1 = .ok q.2 := by decide +kernel
theorem q_dk_X4_gettingUp : ∀ q ∈ q_t_X4_gettingUp, decode cX4_gettingUp q.1 = .ok q.2 := by decide +kernel
theorem q_dk_X4_leastReady : ∀ q ∈ q_t_X4_leastReady, decode cX4_leastReady q.1 = .ok q.2 := by decide +kernel
theorem q_dk_X5_isIn : ∀ q ∈ q_t_X5_isIn, decode cX5_isIn q.1 = .ok q.2 := by decide +kernel
theorem q_dk_X5_isPart : ∀ q ∈ q_t_X5_isPart, decode cX5_isPart q.1 = .ok q.2 := by decide +kernel
theorem q_dk_X5_isTick : ∀ q ∈ q_t_X5_isTick, decode cX5_isTick q.1 = .ok q.2 := by decide +kernel
theorem q_dk_X5_part : ∀ q ∈ q_t_X5_part, decode cX5_part q.1 = .ok q.2 := by decide +kernel
theorem q_dk_X5_rise : ∀ q ∈ q_t_X5_rise, decode cX5_rise q.1 = .ok q.2 := by decide +kernel
theorem q_dk_X5_reaches : ∀ q ∈ q_t_X5_reaches, decode cX5_reaches q.1 = .ok q.2 := by decide +kernel
theorem q_dk_X5_need : ∀ q ∈ q_t_X5_need, decode cX5_need q.1 = .ok q.2 := by decide +kernel
theorem q_dk_X5_isProgram : ∀ q ∈ q_t_X5_isProgram, decode cX5_isProgram q.1 = .ok q.2 := by decide +kernel
theorem q_dk_X5_hold : ∀ q ∈ q_t_X5_hold, decode cX5_hold q.1 = .ok q.2 := by decide +kernel
theorem q_dk_X5_back : ∀ q ∈ q_t_X5_back, decode cX5_back q.1 = .ok q.2 := by decide +kernel
theorem q_dk_X5_timer : ∀ q ∈ q_t_X5_timer, decode cX5_timer q.1 = .ok q.2 := by decide +kernel
theorem q_dk_X5_rule : ∀ q ∈ q_t_X5_rule, decode cX5_rule q.1 = .ok q.2 := by decide +kernel
theorem q_dk_X5_wakes : ∀ q ∈ q_t_X5_wakes, decode cX5_wakes q.1 = .ok q.2 := by decide +kernel
theorem q_dk_X5_firesAt : ∀ q ∈ q_t_X5_firesAt, decode cX5_firesAt q.1 = .ok q.2 := by decide +kernel
theorem q_dk_X5_waking : ∀ q ∈ q_t_X5_waking, decode cX5_waking q.1 = .ok q.2 := by decide +kernel
theorem q_dk_X5_fires : ∀ q ∈ q_t_X5_fires, decode cX5_fires q.1 = .ok q.2 := by decide +kernel
theorem q_dk_X5_look : ∀ q ∈ q_t_X5_look, decode cX5_look q.1 = .ok q.2 := by decide +kernel
theorem q_dk_X5_held : ∀ q ∈ q_t_X5_held, decode cX5_held q.1 = .ok q.2 := by decide +kernel
theorem q_dk_X5_wants : ∀ q ∈ q_t_X5_wants, decode cX5_wants q.1 = .ok q.2 := by decide +kernel
theorem q_dk_X5_isWanted : ∀ q ∈ q_t_X5_isWanted, decode cX5_isWanted q.1 = .ok q.2 := by decide +kernel
theorem q_dk_X5_wanted : ∀ q ∈ q_t_X5_wanted, decode cX5_wanted q.1 = .ok q.2 := by decide +kernel
theorem q_dk_X5_when : ∀ q ∈ q_t_X5_when, decode cX5_when q.1 = .ok q.2 := by decide +kernel
theorem q_dk_X5_begins : ∀ q ∈ q_t_X5_begins, decode cX5_begins q.1 = .ok q.2 := by decide +kernel
theorem q_dk_X5_isLast : ∀ q ∈ q_t_X5_isLast, decode cX5_isLast q.1 = .ok q.2 := by decide +kernel
theorem q_dk_X5_costs : ∀ q ∈ q_t_X5_costs, decode cX5_costs q.1 = .ok q.2 := by decide +kernel
theorem q_dk_X5_choice : ∀ q ∈ q_t_X5_choice, decode cX5_choice q.1 = .ok q.2 := by decide +kernel
theorem q_dk_X5_spans : ∀ q ∈ q_t_X5_spans, decode cX5_spans q.1 = .ok q.2 := by decide +kernel
theorem q_dk_X5_span : ∀ q ∈ q_t_X5_span, decode cX5_span q.1 = .ok q.2 := by decide +kernel
theorem q_dk_X5_ofSpan : ∀ q ∈ q_t_X5_ofSpan, decode cX5_ofSpan q.1 = .ok q.2 := by decide +kernel
theorem q_dk_X5_drained : ∀ q ∈ q_t_X5_drained, decode cX5_drained q.1 = .ok q.2 := by decide +kernel
theorem q_dk_X5_drain : ∀ q ∈ q_t_X5_drain, decode cX5_drain q.1 = .ok q.2 := by decide +kernel
theorem q_dk_X5_state : ∀ q ∈ q_t_X5_state, decode cX5_state q.1 = .ok q.2 := by decide +kernel
theorem q_dk_X5_ruleState : ∀ q ∈ q_t_X5_ruleState, decode cX5_ruleState q.1 = .ok q.2 := by decide +kernel
theorem q_dk_X5_ahead : ∀ q ∈ q_t_X5_ahead, decode cX5_ahead q.1 = .ok q.2 := by decide +kernel
theorem q_dk_X5_rises : ∀ q ∈ q_t_X5_rises, decode cX5_rises q.1 = .ok q.2 := by decide +kernel
theorem q_dk_X5_ruledSpan : ∀ q ∈ q_t_X5_ruledSpan, decode cX5_ruledSpan q.1 = .ok q.2 := by decide +kernel
theorem q_dk_X5_ruledSum : ∀ q ∈ q_t_X5_ruledSum, decode cX5_ruledSum q.1 = .ok q.2 := by decide +kernel
theorem q_dk_X5_ruled : ∀ q ∈ q_t_X5_ruled, decode cX5_ruled q.1 = .ok q.2 := by decide +kernel
theorem q_dk_X5_ruledState : ∀ q ∈ q_t_X5_ruledState, decode cX5_ruledState q.1 = .ok q.2 := by decide +kernel
theorem q_dk_X5_learn : ∀ q ∈ q_t_X5_learn, decode cX5_learn q.1 = .ok q.2 := by decide +kernel
theorem q_dk_X5_all : ∀ q ∈ q_t_X5_all, decode cX5_all q.1 = .ok q.2 := by decide +kernel
theorem q_dk_X5_without : ∀ q ∈ q_t_X5_without, decode cX5_without q.1 = .ok q.2 := by decide +kernel
theorem q_dk_X5_bits : ∀ q ∈ q_t_X5_bits, decode cX5_bits q.1 = .ok q.2 := by decide +kernel
theorem q_dk_X5_blame : ∀ q ∈ q_t_X5_blame, decode cX5_blame q.1 = .ok q.2 := by decide +kernel
theorem q_dk_X5_order : ∀ q ∈ q_t_X5_order, decode cX5_order q.1 = .ok q.2 := by decide +kernel
theorem q_dk_X5_isFirst : ∀ q ∈ q_t_X5_isFirst, decode cX5_isFirst q.1 = .ok q.2 := by decide +kernel
theorem q_dk_J13_bitCount_95d88 : ∀ q ∈ q_t_J13_bitCount_95d88, decode cJ13_bitCount_95d88 q.1 = .ok q.2 := by decide +kernel
theorem q_pairs_ok : ∀ x ∈ q_pairs, ∀ q ∈ x.1, decode x.2 q.1 = .ok q.2 := by
  unfold q_pairs
  exact List.forall_mem_cons.mpr ⟨q_dk_X0_add, List.forall_mem_cons.mpr ⟨q_dk_X0_size, List.forall_mem_cons.mpr ⟨q_dk_X0_has, List.forall_mem_cons.mpr ⟨q_dk_X0_programOf, List.forall_mem_cons.mpr ⟨q_dk_X0_partOf, List.forall_mem_cons.mpr ⟨q_dk_X0_fromOf, List.forall_mem_cons.mpr ⟨q_dk_X0_toOf, List.forall_mem_cons.mpr ⟨q_dk_X0_ticksOf, List.forall_mem_cons.mpr ⟨q_dk_X0_endAhead, List.forall_mem_cons.mpr ⟨q_dk_X0_firstEndWithNone, List.forall_mem_cons.mpr ⟨q_dk_X1_setDrains, List.forall_mem_cons.mpr ⟨q_dk_X1_setCosts, List.forall_mem_cons.mpr ⟨q_dk_X1_setRising, List.forall_mem_cons.mpr ⟨q_dk_X1_setThresholds, List.forall_mem_cons.mpr ⟨q_dk_X1_drainIn, List.forall_mem_cons.mpr ⟨q_dk_X1_drainAwake, List.forall_mem_cons.mpr ⟨q_dk_X1_restIn, List.forall_mem_cons.mpr ⟨q_dk_X1_sumIn, List.forall_mem_cons.mpr ⟨q_dk_X1_bestState, List.forall_mem_cons.mpr ⟨q_dk_X1_planned, List.forall_mem_cons.mpr ⟨q_dk_X1_stateByRule, List.forall_mem_cons.mpr ⟨q_dk_X1_restByRule, List.forall_mem_cons.mpr ⟨q_dk_X1_sumByRule, List.forall_mem_cons.mpr ⟨q_dk_X1_spanByRule, List.forall_mem_cons.mpr ⟨q_dk_X1_sumOfTry, List.forall_mem_cons.mpr ⟨q_dk_X1_takeBestThresholds, List.forall_mem_cons.mpr ⟨q_dk_X1_bestLaterOff, List.forall_mem_cons.mpr ⟨q_dk_X2_layOut, List.forall_mem_cons.mpr ⟨q_dk_X2_size, List.forall_mem_cons.mpr ⟨q_dk_X2_has, List.forall_mem_cons.mpr ⟨q_dk_X2_firstOf, List.forall_mem_cons.mpr ⟨q_dk_X2_lenOf, List.forall_mem_cons.mpr ⟨q_dk_X2_endsAll, List.forall_mem_cons.mpr ⟨q_dk_X2_find, List.forall_mem_cons.mpr ⟨q_dk_X2_longest, List.forall_mem_cons.mpr ⟨q_dk_X3_clear, List.forall_mem_cons.mpr ⟨q_dk_X3_add, List.forall_mem_cons.mpr ⟨q_dk_X3_spread, List.forall_mem_cons.mpr ⟨q_dk_X3_addAll, List.forall_mem_cons.mpr ⟨q_dk_X3_ticksBy, List.forall_mem_cons.mpr ⟨q_dk_X3_ticksOf, List.forall_mem_cons.mpr ⟨q_dk_X3_programsAt, List.forall_mem_cons.mpr ⟨q_dk_X4_part, List.forall_mem_cons.mpr ⟨q_dk_X4_rise, List.forall_mem_cons.mpr ⟨q_dk_X4_need, List.forall_mem_cons.mpr ⟨q_dk_X4_hold, List.forall_mem_cons.mpr ⟨q_dk_X4_back, List.forall_mem_cons.mpr ⟨q_dk_X4_timer, List.forall_mem_cons.mpr ⟨q_dk_X4_rule, List.forall_mem_cons.mpr ⟨q_dk_X4_learn, List.forall_mem_cons.mpr ⟨q_dk_X4_look, List.forall_mem_cons.mpr ⟨q_dk_X4_held, List.forall_mem_cons.mpr ⟨q_dk_X4_waking, List.forall_mem_cons.mpr ⟨q_dk_X4_fires, List.forall_mem_cons.mpr ⟨q_dk_X4_wanted, List.forall_mem_cons.mpr ⟨q_dk_X4_when, List.forall_mem_cons.mpr ⟨q_dk_X4_spans, List.forall_mem_cons.mpr ⟨q_dk_X4_span, List.forall_mem_cons.mpr ⟨q_dk_X4_drain, List.forall_mem_cons.mpr ⟨q_dk_X4_ruled, List.forall_mem_cons.mpr ⟨q_dk_X4_state, List.forall_mem_cons.mpr ⟨q_dk_X4_ruledState, List.forall_mem_cons.mpr ⟨q_dk_X4_all, List.forall_mem_cons.mpr ⟨q_dk_X4_without, List.forall_mem_cons.mpr ⟨q_dk_X4_blame, List.forall_mem_cons.mpr ⟨q_dk_X4_order, List.forall_mem_cons.mpr ⟨q_dk_X4_isPart, List.forall_mem_cons.mpr ⟨q_dk_X4_isProgram, List.forall_mem_cons.mpr ⟨q_dk_X4_isTick, List.forall_mem_cons.mpr ⟨q_dk_X4_rises, List.forall_mem_cons.mpr ⟨q_dk_X4_hasPart, List.forall_mem_cons.mpr ⟨q_dk_X4_hasTick, List.forall_mem_cons.mpr ⟨q_dk_X4_leastTick, List.forall_mem_cons.mpr ⟨q_dk_X4_ticksAhead, List.forall_mem_cons.mpr ⟨q_dk_X4_leadsTo, List.forall_mem_cons.mpr ⟨q_dk_X4_fewestWakings, List.forall_mem_cons.mpr ⟨q_dk_X4_gatherWants, List.forall_mem_cons.mpr ⟨q_dk_X4_layOutIdle, List.forall_mem_cons.mpr ⟨q_dk_X4_drainInPlan, List.forall_mem_cons.mpr ⟨q_dk_X4_drainByRule, List.forall_mem_cons.mpr ⟨q_dk_X4_drainInSpans, List.forall_mem_cons.mpr ⟨q_dk_X4_drainOfAll, List.forall_mem_cons.mpr ⟨q_dk_X4_blameIn, List.forall_mem_cons.mpr ⟨q_dk_X4_gettingUp, List.forall_mem_cons.mpr ⟨q_dk_X4_leastReady, List.forall_mem_cons.mpr ⟨q_dk_X5_isIn, List.forall_mem_cons.mpr ⟨q_dk_X5_isPart, List.forall_mem_cons.mpr ⟨q_dk_X5_isTick, List.forall_mem_cons.mpr ⟨q_dk_X5_part, List.forall_mem_cons.mpr ⟨q_dk_X5_rise, List.forall_mem_cons.mpr ⟨q_dk_X5_reaches, List.forall_mem_cons.mpr ⟨q_dk_X5_need, List.forall_mem_cons.mpr ⟨q_dk_X5_isProgram, List.forall_mem_cons.mpr ⟨q_dk_X5_hold, List.forall_mem_cons.mpr ⟨q_dk_X5_back, List.forall_mem_cons.mpr ⟨q_dk_X5_timer, List.forall_mem_cons.mpr ⟨q_dk_X5_rule, List.forall_mem_cons.mpr ⟨q_dk_X5_wakes, List.forall_mem_cons.mpr ⟨q_dk_X5_firesAt, List.forall_mem_cons.mpr ⟨q_dk_X5_waking, List.forall_mem_cons.mpr ⟨q_dk_X5_fires, List.forall_mem_cons.mpr ⟨q_dk_X5_look, List.forall_mem_cons.mpr ⟨q_dk_X5_held, List.forall_mem_cons.mpr ⟨q_dk_X5_wants, List.forall_mem_cons.mpr ⟨q_dk_X5_isWanted, List.forall_mem_cons.mpr ⟨q_dk_X5_wanted, List.forall_mem_cons.mpr ⟨q_dk_X5_when, List.forall_mem_cons.mpr ⟨q_dk_X5_begins, List.forall_mem_cons.mpr ⟨q_dk_X5_isLast, List.forall_mem_cons.mpr ⟨q_dk_X5_costs, List.forall_mem_cons.mpr ⟨q_dk_X5_choice, List.forall_mem_cons.mpr ⟨q_dk_X5_spans, List.forall_mem_cons.mpr ⟨q_dk_X5_span, List.forall_mem_cons.mpr ⟨q_dk_X5_ofSpan, List.forall_mem_cons.mpr ⟨q_dk_X5_drained, List.forall_mem_cons.mpr ⟨q_dk_X5_drain, List.forall_mem_cons.mpr ⟨q_dk_X5_state, List.forall_mem_cons.mpr ⟨q_dk_X5_ruleState, List.forall_mem_cons.mpr ⟨q_dk_X5_ahead, List.forall_mem_cons.mpr ⟨q_dk_X5_rises, List.forall_mem_cons.mpr ⟨q_dk_X5_ruledSpan, List.forall_mem_cons.mpr ⟨q_dk_X5_ruledSum, List.forall_mem_cons.mpr ⟨q_dk_X5_ruled, List.forall_mem_cons.mpr ⟨q_dk_X5_ruledState, List.forall_mem_cons.mpr ⟨q_dk_X5_learn, List.forall_mem_cons.mpr ⟨q_dk_X5_all, List.forall_mem_cons.mpr ⟨q_dk_X5_without, List.forall_mem_cons.mpr ⟨q_dk_X5_bits, List.forall_mem_cons.mpr ⟨q_dk_X5_blame, List.forall_mem_cons.mpr ⟨q_dk_X5_order, List.forall_mem_cons.mpr ⟨q_dk_X5_isFirst, List.forall_mem_cons.mpr ⟨q_dk_J13_bitCount_95d88, fun _ h => absurd h List.not_mem_nil⟩⟩⟩⟩⟩⟩⟩⟩⟩⟩⟩⟩⟩⟩⟩⟩⟩⟩⟩⟩⟩⟩⟩⟩⟩⟩⟩⟩⟩⟩⟩⟩⟩⟩⟩⟩⟩⟩⟩⟩⟩⟩⟩⟩⟩⟩⟩⟩⟩⟩⟩⟩⟩⟩⟩⟩⟩⟩⟩⟩⟩⟩⟩⟩⟩⟩⟩⟩⟩⟩⟩⟩⟩⟩⟩⟩⟩⟩⟩⟩⟩⟩⟩⟩⟩⟩⟩⟩⟩⟩⟩⟩⟩⟩⟩⟩⟩⟩⟩⟩⟩⟩⟩⟩⟩⟩⟩⟩⟩⟩⟩⟩⟩⟩⟩⟩⟩⟩⟩⟩⟩⟩⟩⟩⟩⟩⟩⟩⟩⟩⟩⟩
theorem q_pcs_mem : ∀ (l : List (Nat × Instr × Nat)) (pc : Nat) (r : Instr × Nat), q_pcs l pc = some r → (pc, r) ∈ l
  | [], _, _, h => by cases h
  | q :: l, pc, r, h => by
    unfold q_pcs at h
    cases hb : Nat.beq q.1 pc with
    | true =>
      rw [hb] at h
      have e1 := Nat.eq_of_beq_eq_true hb
      have e2 : q.2 = r := Option.some.inj h
      rw [← e1, ← e2]
      exact List.mem_cons_self
    | false =>
      rw [hb] at h
      exact List.mem_cons_of_mem _ (q_pcs_mem l pc r h)
theorem q_getD_mem {α : Type} (l : List α) (n : Nat) (a : α) : l.getD n a ∈ l ∨ l.getD n a = a := by
  rcases Nat.lt_or_ge n l.length with hl | hl
  · left
    rw [List.getD_eq_getElem?_getD, List.getElem?_eq_getElem hl]
    exact List.getElem_mem hl
  · right
    rw [List.getD_eq_getElem?_getD, List.getElem?_eq_none hl]
    rfl
theorem q_tab_ok0 {l : List (List (Nat × Instr × Nat) × ByteArray)} (hk : ∀ x ∈ l, ∀ q ∈ x.1, decode x.2 q.1 = .ok q.2) (x : List (Nat × Instr × Nat) × ByteArray) (hx : x ∈ l ∨ x = ([], code)) (pc : Nat) (r : Instr × Nat) (h : q_pcs x.1 pc = some r) : decode x.2 pc = .ok r := by
  have hm := q_pcs_mem _ _ _ h
  rcases hx with hx | hx
  · exact hk x hx (pc, r) hm
  · rw [hx] at hm
    exact absurd hm List.not_mem_nil
theorem q_tab_ok (mi pc : Nat) (r : Instr × Nat) (h : q_tab mi pc = some r) : decode (q_mC mi) pc = .ok r := q_tab_ok0 q_pairs_ok _ (q_getD_mem q_pairs mi ([], code)) pc r h
theorem q_look_mem {α : Type} : ∀ (l : List ((Nat × Nat) × α)) (a b : Nat) (r : α), q_look l a b = some r → ((a, b), r) ∈ l
  | [], _, _, _, h => by cases h
  | q :: l, a, b, r, h => by
    unfold q_look at h
    cases hb : (Nat.beq q.1.1 a && Nat.beq q.1.2 b) with
    | true =>
      rw [hb] at h
      have e0 := Bool.and_eq_true_iff.mp hb
      have e1 := Nat.eq_of_beq_eq_true e0.1
      have e2 := Nat.eq_of_beq_eq_true e0.2
      have e3 : q.2 = r := Option.some.inj h
      rw [← e1, ← e2, ← e3]
      exact List.mem_cons_self
    | false =>
      rw [hb] at h
      exact List.mem_cons_of_mem _ (q_look_mem l a b r h)
/-- the words that every method bears: those that stay -/
def q_gw : List Cond := lw_tbl.filter goodWord
theorem q_in_gw {ws : List Cond} (ix : List Nat) (h : ws = ix.filterMap (fun i => lw_tbl[i]?)) (hg : ws.all goodWord = true) : ∀ w ∈ ws, w ∈ q_gw := by
  intro w hw
  refine List.mem_filter.mpr ⟨?_, List.all_eq_true.mp hg w hw⟩
  rw [h] at hw
  obtain ⟨i, -, hi⟩ := List.mem_filterMap.mp hw
  exact List.mem_of_getElem? hi
abbrev q_classes : List vw_C := [(RX0, TX0, 5), (RX1, TX1, 4), (RX2, TX2, 3), (RX3, TX3, 1), (RX4, TX4, 9), (RX5, TX5, 16)]
def q_cls (ci : Nat) : vw_C := q_classes.getD ci (RX0, TX0, 5)
def q_tyf (ci : Nat) : Nat → FieldType := ([tyX0, tyX1, tyX2, tyX3, tyX4, tyX5] : List (Nat → FieldType)).getD ci tyX0
def q_fldW (q : (Nat × Nat) × (Nat × Nat)) : Cond := .fieldLink (q_cN q.1.1) q.1.2 ((q_cls q.2.1).2.1 q.2.2).1 ((q_cls q.2.1).2.1 q.2.2).2.1 ((q_cls q.2.1).2.1 q.2.2).2.2.1
theorem q_flds_w : q_flds.map q_fldW = ([121, 122, 123, 124, 125, 126, 127, 128, 129, 63, 59, 60, 61, 62, 108, 109, 110, 111, 93, 94, 95, 82, 523, 524, 525, 526, 527, 528, 529, 530, 532, 533, 520, 521, 522, 531, 534, 535] : List Nat).filterMap (fun i => lw_tbl[i]?) := by decide +kernel
theorem q_flds_g : (q_flds.map q_fldW).all goodWord = true := by decide +kernel
theorem q_flds_n : ∀ q ∈ q_flds, q.2.1 < 6 ∧ q.2.2 < q_nf q.2.1 := by decide +kernel
def q_layW : List Cond := (List.range 6).flatMap (fun ci => u_ws (q_cls ci).1 (q_cls ci).2.1 (q_cls ci).2.2)
theorem q_lay_w : q_layW = ([64, 66, 68, 70, 72, 112, 114, 116, 118, 96, 98, 100, 83, 130, 132, 134, 136, 138, 140, 142, 144, 146, 536, 538, 540, 542, 544, 546, 548, 550, 552, 554, 556, 558, 560, 562, 564, 566] : List Nat).filterMap (fun i => lw_tbl[i]?) := by decide +kernel
theorem q_lay_g : q_layW.all goodWord = true := by decide +kernel
theorem q_cls_n : ∀ ci, ci < 6 → q_classes[ci]? = some (q_cls ci) ∧ (q_cls ci).2.2 = q_nf ci := by
  intro ci h
  match ci, h with
  | 0, _ => exact ⟨rfl, rfl⟩
  | 1, _ => exact ⟨rfl, rfl⟩
  | 2, _ => exact ⟨rfl, rfl⟩
  | 3, _ => exact ⟨rfl, rfl⟩
  | 4, _ => exact ⟨rfl, rfl⟩
  | 5, _ => exact ⟨rfl, rfl⟩
  | n + 6, h => omega
theorem q_cls_t : ∀ ci, ci < 6 → (∀ k, k < q_nf ci → parseFieldDescriptor ((q_cls ci).2.1 k).2.2.1 = some (q_tyf ci k)) ∧ (∀ a, a < q_nf ci → ∀ b, b < q_nf ci → a ≠ b → ((q_cls ci).2.1 a).2.1 ≠ ((q_cls ci).2.1 b).2.1) := by
  intro ci h
  match ci, h with
  | 0, _ => exact ⟨tyX0_ok, nmX0⟩
  | 1, _ => exact ⟨tyX1_ok, nmX1⟩
  | 2, _ => exact ⟨tyX2_ok, nmX2⟩
  | 3, _ => exact ⟨tyX3_ok, nmX3⟩
  | 4, _ => exact ⟨tyX4_ok, nmX4⟩
  | 5, _ => exact ⟨tyX5_ok, nmX5⟩
  | n + 6, h => omega
theorem q_cls_f : ∀ ci, ci < 6 → ∀ k, k < q_nf ci → (q_ft ci k = 0 → q_tyf ci k = .int ∧ ((q_cls ci).2.1 k).2.2.2 = false) ∧ (q_ft ci k = 1 → q_tyf ci k = .long ∧ ((q_cls ci).2.1 k).2.2.2 = false) := by decide +kernel
theorem q_kc_lt : ∀ k, k < 28 → ∀ ci ∈ q_kc k, ci < 6 := by decide +kernel
def q_cstW (q : (Nat × Nat) × Int32) : Cond := .constant (q_cN q.1.1) q.1.2 q.2
def q_cstLW (q : (Nat × Nat) × Int64) : Cond := .constantLong (q_cN q.1.1) q.1.2 q.2
theorem q_cst_w : q_csts.map q_cstW = ([479, 735] : List Nat).filterMap (fun i => lw_tbl[i]?) := by decide +kernel
theorem q_cst_g : (q_csts.map q_cstW).all goodWord = true := by decide +kernel
theorem q_cstL_w : q_cstsL.map q_cstLW = ([214, 215, 371, 372, 373] : List Nat).filterMap (fun i => lw_tbl[i]?) := by decide +kernel
theorem q_cstL_g : (q_cstsL.map q_cstLW).all goodWord = true := by decide +kernel
def q_mthW (q : (Nat × Nat) × (Nat × Nat)) : List Cond := match q.2.2 with
  | 0 => [.methodLink (q_cN q.1.1) q.1.2 (q_mY q.2.1), .instanceMethod (q_mY q.2.1), .selects (q_mY q.2.1).cls (q_mY q.2.1) (q_mY q.2.1), .initialized (q_mY q.2.1).cls]
  | 1 => [.methodLink (q_cN q.1.1) q.1.2 (q_mY q.2.1), .static (q_mY q.2.1), .initialized (q_mY q.2.1).cls]
  | _ => [.static (q_mY q.2.1), .initialized (q_mY q.2.1).cls]
theorem q_mths_w : q_mths.flatMap q_mthW = ([153, 154, 35, 156, 157, 158, 39, 164, 166, 0, 35, 168, 169, 170, 39, 172, 173, 174, 39, 180, 181, 35, 183, 185, 1, 35, 187, 189, 2, 35, 244, 245, 35, 247, 248, 249, 36, 255, 256, 257, 36, 259, 260, 261, 36, 263, 264, 265, 36, 267, 268, 269, 36, 275, 277, 4, 35, 288, 289, 290, 39, 296, 298, 5, 35, 309, 310, 311, 39, 360, 362, 9, 35, 195, 196, 197, 36, 379, 369, 41, 199, 200, 201, 36, 203, 204, 205, 36, 223, 224, 35, 207, 208, 209, 36, 220, 221, 35, 396, 397, 35, 300, 301, 302, 37, 407, 330, 331, 38, 412, 413, 414, 38, 416, 334, 335, 38, 417, 338, 339, 38, 418, 419, 420, 39, 430, 431, 432, 38, 434, 427, 428, 39, 435, 423, 424, 39, 440, 442, 10, 35, 457, 458, 459, 38, 465, 346, 347, 39, 466, 353, 354, 39, 471, 473, 11, 35, 484, 486, 12, 35, 488, 490, 13, 35, 506, 508, 14, 35, 510, 512, 15, 35, 279, 280, 281, 36, 191, 192, 193, 37, 216, 217, 218, 37, 226, 227, 228, 37, 304, 305, 306, 38, 364, 365, 366, 39, 444, 445, 446, 39, 374, 326, 327, 39, 492, 236, 237, 37, 493, 494, 495, 37, 498, 499, 500, 39, 283, 208, 209, 36, 368, 369, 41, 422, 423, 424, 39, 426, 427, 428, 39, 329, 330, 331, 38, 333, 334, 335, 38, 337, 338, 339, 38, 448, 419, 420, 39, 341, 343, 7, 39, 345, 346, 347, 39, 352, 353, 354, 39, 324, 289, 290, 39, 325, 326, 327, 39, 313, 314, 315, 38, 320, 322, 6, 39, 356, 358, 8, 39, 231, 233, 3, 37, 235, 236, 237, 37, 239, 217, 218, 37, 149, 150, 151, 35, 570, 571, 572, 40, 160, 161, 162, 35, 577, 578, 579, 40, 176, 177, 178, 35, 585, 586, 587, 40, 240, 241, 242, 35, 593, 594, 595, 40, 251, 252, 253, 35, 600, 601, 602, 40, 271, 272, 273, 35, 604, 605, 606, 40, 284, 285, 286, 35, 611, 612, 613, 40, 375, 376, 377, 35, 631, 632, 633, 40, 380, 381, 382, 35, 635, 636, 637, 40, 384, 385, 386, 35, 615, 616, 617, 40, 388, 389, 390, 35, 623, 624, 625, 40, 392, 393, 394, 35, 639, 640, 641, 40, 399, 400, 401, 35, 651, 652, 653, 40, 403, 404, 405, 35, 655, 656, 657, 40, 408, 409, 410, 35, 663, 664, 665, 40, 436, 437, 438, 35, 683, 684, 685, 40, 449, 450, 451, 35, 695, 696, 697, 40, 453, 454, 455, 35, 691, 692, 693, 40, 461, 462, 463, 35, 719, 720, 721, 40, 467, 468, 469, 35, 727, 728, 729, 40, 475, 476, 477, 35, 731, 732, 733, 40, 480, 481, 482, 35, 737, 738, 739, 40, 502, 503, 504, 35, 744, 745, 746, 40, 292, 293, 294, 35, 723, 724, 725, 40, 574, 575, 40, 581, 583, 16, 40, 589, 591, 17, 40, 597, 598, 40, 608, 609, 40, 619, 621, 18, 40, 627, 629, 19, 40, 643, 645, 20, 40, 647, 649, 21, 40, 679, 681, 26, 40, 675, 677, 25, 40, 659, 661, 22, 40, 667, 669, 23, 40, 671, 673, 24, 40, 687, 689, 27, 40, 715, 717, 32, 40, 711, 713, 31, 40, 707, 709, 30, 40, 703, 705, 29, 40, 699, 701, 28, 40, 736, 728, 729, 40, 741, 742, 40, 748, 750, 33, 40, 212, 35, 224, 35, 181, 35, 224, 35] : List Nat).filterMap (fun i => lw_tbl[i]?) := by decide +kernel
theorem q_mths_g : (q_mths.flatMap q_mthW).all goodWord = true := by decide +kernel
theorem q_mths_n : ∀ q ∈ q_mths, q.2.1 < q_NM ∧ q.2.2 < 3 := by decide +kernel
def q_mmW (q : (Nat × Nat) × Nat) : List Cond := match q.2 with
  | 0 => [.methodLink (q_cN q.1.1) q.1.2 Lib.Math.max.name, .static Lib.Math.max.name, .initialized "java/lang/Math"]
  | _ => [.methodLink (q_cN q.1.1) q.1.2 Lib.Math.min.name, .static Lib.Math.min.name, .initialized "java/lang/Math"]
theorem q_mms_w : q_mms.flatMap q_mmW = ([349, 350, 42, 317, 318, 42] : List Nat).filterMap (fun i => lw_tbl[i]?) := by decide +kernel
theorem q_mms_g : (q_mms.flatMap q_mmW).all goodWord = true := by decide +kernel
theorem q_mmc_w : [Cond.code Lib.Math.max.name Lib.Math.max.code 2 (some .int), Cond.code Lib.Math.min.name Lib.Math.min.code 2 (some .int)] = ([319, 351] : List Nat).filterMap (fun i => lw_tbl[i]?) := by decide +kernel
theorem q_mmc_g : [Cond.code Lib.Math.max.name Lib.Math.max.code 2 (some .int), Cond.code Lib.Math.min.name Lib.Math.min.code 2 (some .int)].all goodWord = true := by decide +kernel
def q_nest : List Cond := [.methodLinkNest RX0 28 yX4_ticksAhead "SleepKeeper", .methodLinkNest RX2 22 yX4_hasTick "SleepKeeper", .methodLinkNest RX3 15 yX4_hasPart "SleepKeeper", .methodLinkNest RX3 31 yX4_hasTick "SleepKeeper"]
theorem q_nest_in : ∀ w ∈ q_nest, w ∈ lw_tbl := by
  have h : q_nest = ([211, 308, 230, 497] : List Nat).filterMap (fun i => lw_tbl[i]?) := by decide +kernel
  intro w hw
  rw [h] at hw
  obtain ⟨i, -, hi⟩ := List.mem_filterMap.mp hw
  exact List.mem_of_getElem? hi
theorem q_nest_m : ∀ q ∈ q_mths, q.2.2 = 2 → Cond.methodLinkNest (q_cN q.1.1) q.1.2 (q_mY q.2.1) "SleepKeeper" ∈ q_nest := by decide +kernel
theorem q_nest_t : ∀ w ∈ q_nest, w.onTables = true := by decide +kernel
theorem q_nest_f : ∀ w ∈ q_nest, ∃ (a : String) (i : Nat) (x : MethodName) (b : String), w = .methodLinkNest a i x b := by
  unfold q_nest
  exact List.forall_mem_cons.mpr ⟨⟨_, _, _, _, rfl⟩, List.forall_mem_cons.mpr ⟨⟨_, _, _, _, rfl⟩, List.forall_mem_cons.mpr ⟨⟨_, _, _, _, rfl⟩, List.forall_mem_cons.mpr ⟨⟨_, _, _, _, rfl⟩, fun _ h => absurd h List.not_mem_nil⟩⟩⟩⟩
def q_code (mi : Nat) : Cond := .code (q_mY mi) (q_mC mi) (q_mL mi) (q_mT mi)
set_option maxRecDepth 200000 in
theorem q_code_w : (List.range q_NM).map q_code = ([250, 198, 258, 202, 206, 262, 266, 210, 270, 282, 159, 171, 175, 291, 501, 367, 425, 429, 421, 447, 355, 348, 328, 344, 323, 312, 359, 307, 332, 415, 433, 336, 340, 460, 316, 194, 219, 229, 234, 238, 303, 496, 152, 163, 179, 243, 254, 274, 287, 295, 378, 383, 387, 391, 395, 402, 406, 411, 439, 452, 456, 464, 470, 478, 483, 505, 167, 246, 398, 155, 182, 225, 222, 213, 186, 278, 190, 299, 443, 363, 487, 474, 491, 509, 513, 576, 584, 610, 573, 580, 592, 588, 599, 596, 603, 607, 614, 622, 630, 618, 626, 634, 638, 646, 650, 642, 654, 662, 682, 678, 674, 658, 666, 670, 690, 686, 694, 718, 714, 710, 706, 702, 698, 722, 726, 730, 734, 743, 740, 747, 751, 370] : List Nat).filterMap (fun i => lw_tbl[i]?) := rfl
theorem q_code_in {mi : Nat} (h : mi < q_NM) : q_code mi ∈ q_gw := by
  refine List.mem_filter.mpr ⟨?_, rfl⟩
  have hm : q_code mi ∈ (List.range q_NM).map q_code := List.mem_map.mpr ⟨mi, List.mem_range.mpr h, rfl⟩
  rw [q_code_w] at hm
  obtain ⟨i, -, hi⟩ := List.mem_filterMap.mp hm
  exact List.mem_of_getElem? hi
theorem q_mY_n : ∀ mi, mi < q_NM → (q_mY mi).cls = q_cN (q_mO mi) ∧ plainName (q_mY mi).cls = true ∧ ((q_mY mi).cls ≠ "java/lang/invoke/MethodHandle" ∧ (q_mY mi).cls ≠ "java/lang/invoke/VarHandle") ∧ (parseMethodDescriptor (q_mY mi).desc).map (fun d => d.parameters.length) = some (q_mA mi) ∧ q_mL mi ≤ 19 := by decide +kernel
theorem q_mT_n : ∀ mi, mi < q_NM → (q_mR mi = 0 → q_mT mi = none) ∧ (q_mR mi = 1 → q_mT mi = some .int) ∧ (q_mR mi = 2 → q_mT mi = some .long) ∧ (q_mR mi = 3 → q_mT mi = some .boolean) ∧ q_mR mi ≤ 3 := by decide +kernel
theorem q_mO_n : ∀ mi, mi < q_NM → ∀ ci, ci < 6 → q_mO mi = ci → (q_mY mi).cls = (q_cls ci).1 := by decide +kernel
end
section
/-! ===== from the abstract machine to the JVM ===== -/
def q_v (ad : Nat → Nat → Nat) (v : q_V) : Value := match v with
  | .inl x => .int x
  | .inr (.inl x) => .long x
  | .inr (.inr q) => .ref (ad q.1 q.2)
theorem q_v_cat (ad : Nat → Nat → Nat) (v : q_V) : (q_v ad v).category = q_cat v := by
  rcases v with x | x | x <;> rfl
def q_ls (ad : Nat → Nat → Nat) (ls : List (Nat × q_V)) : List (Nat × Value) := ls.map (fun q => (q.1, q_v ad q.2))
theorem q_get_mem : ∀ (ls : List (Nat × q_V)) (k : Nat) (v : q_V), q_get ls k = some v → (k, v) ∈ ls
  | [], _, _, h => by cases h
  | q :: l, k, v, h => by
    unfold q_get at h
    cases hb : Nat.beq q.1 k with
    | true =>
      rw [hb] at h
      have e1 := Nat.eq_of_beq_eq_true hb
      have e2 : q.2 = v := Option.some.inj h
      rw [← e1, ← e2]
      exact List.mem_cons_self
    | false =>
      rw [hb] at h
      exact List.mem_cons_of_mem _ (q_get_mem l k v h)
theorem q_get_at {ad : Nat → Nat → Nat} {LS : Array Slot} {nL : Nat} {ls : List (Nat × q_V)} {k : Nat} {v : q_V} (hl : lv_has LS nL (q_ls ad ls)) (h : q_get ls k = some v) : LS[k]? = some (.val (q_v ad v)) :=
  hl.2.2 (k, q_v ad v) (List.mem_map.mpr ⟨(k, v), q_get_mem _ _ _ h, rfl⟩)
theorem q_ls_set (ad : Nat → Nat → Nat) (ls : List (Nat × q_V)) (i : Nat) (v : q_V) : (i, q_v ad v) :: (q_ls ad ls).filter (fun q => !(q.1 == i) && !(q.1 + 1 == i && q.2.category == 2)) = q_ls ad (q_set ls i v) := by
  unfold q_ls q_set
  rw [List.map_cons, List.filter_map]
  congr 2
  apply List.filter_congr
  intro x _
  simp only [Function.comp, q_v_cat]
theorem q_ls_set2 (ad : Nat → Nat → Nat) (ls : List (Nat × q_V)) (i : Nat) (v : q_V) : (i, q_v ad v) :: (q_ls ad ls).filter (fun q => !(q.1 == i) && (!(q.1 == i + 1) && !(q.1 + 1 == i && q.2.category == 2))) = q_ls ad (q_set2 ls i v) := by
  unfold q_ls q_set2
  rw [List.map_cons, List.filter_map]
  congr 2
  apply List.filter_congr
  intro x _
  simp only [Function.comp, q_v_cat]
theorem q_args_ls (ad : Nat → Nat → Nat) : ∀ (vs : List q_V) (i : Nat), lv_args i (vs.map (q_v ad)) = q_ls ad (q_args i vs)
  | [], _ => rfl
  | v :: vs, i => by
    show (i, q_v ad v) :: lv_args (if (q_v ad v).category = 2 then i + 2 else i + 1) (vs.map (q_v ad)) = (i, q_v ad v) :: q_ls ad (q_args (if q_cat v = 2 then i + 2 else i + 1) vs)
    rw [q_v_cat, q_args_ls ad vs]
theorem q_size_sl (ad : Nat → Nat → Nat) : ∀ (vs : List q_V), (lg_sl (vs.map (q_v ad))).length = q_size vs
  | [] => rfl
  | v :: vs => by
    have h1 : lg_sl ((v :: vs).map (q_v ad)) = (if (q_v ad v).category = 2 then [.val (q_v ad v), .second] else [.val (q_v ad v)]) ++ lg_sl (vs.map (q_v ad)) := rfl
    have h2 : q_size (v :: vs) = q_cat v + q_size vs := rfl
    rw [h1, List.length_append, q_size_sl ad vs, h2, q_v_cat]
    rcases v with x | x | x <;> rfl
theorem q_size_cat (ad : Nat → Nat → Nat) (vs : List q_V) : ((vs.map (q_v ad)).map fun v => v.category).sum = q_size vs := by
  unfold q_size
  rw [List.map_map]
  congr 1
  apply List.map_congr_left
  intro x _
  exact q_v_cat ad x
-- the world
def q_fv (ad : Nat → Nat → Nat) (h : q_H) (k i ci j : Nat) : Value := match q_ft ci j with
  | 0 => .int (h.1 k i j)
  | 1 => .long (h.2 k i j)
  | _ => .ref (ad (q_rf k i j).1 (q_rf k i j).2)
def q_E (ad : Nat → Nat → Nat) (CA : Nat → ClassId) (h : q_H) (k i : Nat) : va_E := match q_kc k with
  | some ci => .inr (ci, (List.range (q_nf ci)).map (q_fv ad h k i ci))
  | none => match q_at k with
    | 1 => .inl (CA 0, q_len k i, .inl (h.1 k i))
    | 2 => .inl (CA 1, q_len k i, .inr (.inl (h.2 k i)))
    | 3 => .inl (CA 2, q_len k i, .inl (h.1 k i))
    | _ => .inl (CA 3, q_len k i, .inr (.inr (.inr (.inr (fun j => some (ad (q_rf k i j).1 (q_rf k i j).2))))))
def q_cells : List (Nat × Nat) := (List.range 28).flatMap (fun k => (List.range (q_cnt k)).map (fun i => (k, i)))
def q_wl (ad : Nat → Nat → Nat) (CA : Nat → ClassId) (h : q_H) : va_W := q_cells.map (fun q => (ad q.1 q.2, q_E ad CA h q.1 q.2))
def q_tys (CA : Nat → ClassId) : List (ClassId × FieldType) := [(CA 0, .int), (CA 1, .long), (CA 2, .boolean), (CA 3, .object "SleepKeeper$Part")]
def q_A (ad : Nat → Nat → Nat) : Nat → Prop := fun a => ∃ q ∈ q_cells, a = ad q.1 q.2
def q_ok (ad : Nat → Nat → Nat) : Prop := ∀ p ∈ q_cells, ∀ q ∈ q_cells, ad p.1 p.2 = ad q.1 q.2 → p = q
theorem q_cnt_lt {k i : Nat} (h : i < q_cnt k) : k < 28 := by
  rcases Nat.lt_or_ge k 28 with hk | hk
  · exact hk
  · have : q_cnt k = 0 := by
      unfold q_cnt
      rw [List.getD_eq_getElem?_getD, List.getElem?_eq_none hk]
      rfl
    omega
theorem q_mem {k i : Nat} (h : i < q_cnt k) : (k, i) ∈ q_cells := List.mem_flatMap.mpr ⟨k, List.mem_range.mpr (q_cnt_lt h), List.mem_map.mpr ⟨i, List.mem_range.mpr h, rfl⟩⟩
theorem q_place {k i : Nat} (h : i < q_cnt k) : ∃ q0 : Nat, q_cells[q0]? = some (k, i) := List.getElem?_of_mem (q_mem h)
theorem q_nd : ∀ i, i < 60 → ∀ j, j < 60 → q_cells[i]? = q_cells[j]? → i = j := by decide +kernel
theorem q_cells_len : q_cells.length = 60 := by decide +kernel
theorem q_nd' {i j : Nat} {x : Nat × Nat} (hi : q_cells[i]? = some x) (hj : q_cells[j]? = some x) : i = j := by
  have h1 := (List.getElem?_eq_some_iff.mp hi).1
  have h2 := (List.getElem?_eq_some_iff.mp hj).1
  rw [q_cells_len] at h1 h2
  exact q_nd i h1 j h2 (hi.trans hj.symm)
theorem q_wl_at {ad : Nat → Nat → Nat} {CA : Nat → ClassId} {h : q_H} {q0 k i : Nat} (hq : q_cells[q0]? = some (k, i)) : (q_wl ad CA h)[q0]? = some (ad k i, q_E ad CA h k i) := by
  unfold q_wl
  rw [List.getElem?_map, hq]
  rfl
theorem q_wl_of {ad : Nat → Nat → Nat} {CA : Nat → ClassId} {h : q_H} {q0 : Nat} {x : Nat × va_E} (hq : (q_wl ad CA h)[q0]? = some x) : ∃ y : Nat × Nat, q_cells[q0]? = some y ∧ x = (ad y.1 y.2, q_E ad CA h y.1 y.2) := by
  unfold q_wl at hq
  rw [List.getElem?_map] at hq
  cases hc : q_cells[q0]? with
  | none => rw [hc] at hq; cases hq
  | some y => rw [hc] at hq; exact ⟨y, rfl, (Option.some.inj hq).symm⟩
theorem q_wl_D {ad : Nat → Nat → Nat} {CA : Nat → ClassId} {h : q_H} {A : Nat → Prop} (hok : q_ok ad) (hA : ∀ a, q_A ad a → A a) : va_D A (q_wl ad CA h) := by
  refine ⟨fun i j p q hi hj he => ?_, fun k q hk => ?_⟩
  · obtain ⟨y, hy, rfl⟩ := q_wl_of hi
    obtain ⟨z, hz, rfl⟩ := q_wl_of hj
    have := hok y (List.mem_of_getElem? hy) z (List.mem_of_getElem? hz) he
    subst this
    exact q_nd' hy hz
  · obtain ⟨y, hy, rfl⟩ := q_wl_of hk
    exact hA _ ⟨y, List.mem_of_getElem? hy, rfl⟩
theorem q_E_congr {ad : Nat → Nat → Nat} {CA : Nat → ClassId} {h h1 : q_H} {k i : Nat} (e1 : h1.1 k i = h.1 k i) (e2 : h1.2 k i = h.2 k i) : q_E ad CA h1 k i = q_E ad CA h k i := by
  have : q_fv ad h1 k i = q_fv ad h k i := by
    funext ci j
    unfold q_fv
    rw [e1, e2]
  unfold q_E
  rw [this, e1, e2]
theorem q_wl_set {ad : Nat → Nat → Nat} {CA : Nat → ClassId} {h h1 : q_H} {q0 k i : Nat} {e : va_E} (hq : q_cells[q0]? = some (k, i)) (hE : q_E ad CA h1 k i = e) (ho : ∀ k1 i1, ¬ (k1 = k ∧ i1 = i) → h1.1 k1 i1 = h.1 k1 i1 ∧ h1.2 k1 i1 = h.2 k1 i1) : (q_wl ad CA h).set q0 (ad k i, e) = q_wl ad CA h1 := by
  apply List.ext_getElem?
  intro n
  rw [List.getElem?_set]
  by_cases hn : q0 = n
  · subst hn
    have hl : q0 < (q_wl ad CA h).length := (List.getElem?_eq_some_iff.mp (q_wl_at (ad := ad) (CA := CA) (h := h) hq)).1
    rw [if_pos rfl, if_pos hl, q_wl_at hq, hE]
  · rw [if_neg hn]
    unfold q_wl
    rw [List.getElem?_map, List.getElem?_map]
    cases hc : q_cells[n]? with
    | none => rfl
    | some y =>
      have hne : ¬ (y.1 = k ∧ y.2 = i) := fun ⟨a, b⟩ => hn (q_nd' (x := (k, i)) hq (by rw [hc, ← a, ← b]))
      obtain ⟨a, b⟩ := ho _ _ hne
      exact congrArg (fun z => some (ad y.1 y.2, z)) (q_E_congr a b).symm
theorem q_sI_ne {h : q_H} {k i j : Nat} {v : Int32} (k1 i1 : Nat) (hn : ¬ (k1 = k ∧ i1 = i)) : (q_sI h k i j v).1 k1 i1 = h.1 k1 i1 ∧ (q_sI h k i j v).2 k1 i1 = h.2 k1 i1 := by
  refine ⟨?_, rfl⟩
  funext j1
  exact if_neg (fun q => hn ⟨q.1, q.2.1⟩)
theorem q_sL_ne {h : q_H} {k i j : Nat} {v : Int64} (k1 i1 : Nat) (hn : ¬ (k1 = k ∧ i1 = i)) : (q_sL h k i j v).1 k1 i1 = h.1 k1 i1 ∧ (q_sL h k i j v).2 k1 i1 = h.2 k1 i1 := by
  refine ⟨rfl, ?_⟩
  funext j1
  exact if_neg (fun q => hn ⟨q.1, q.2.1⟩)
theorem q_sI_at (h : q_H) (k i j : Nat) (v : Int32) : (q_sI h k i j v).1 k i = upd (h.1 k i) j v := by
  funext j1
  unfold q_sI upd
  by_cases e : j1 = j
  · simp [e]
  · simp [e]
theorem q_sL_at (h : q_H) (k i j : Nat) (v : Int64) : (q_sL h k i j v).2 k i = vp_updL (h.2 k i) j v := by
  funext j1
  unfold q_sL vp_updL
  by_cases e : j1 = j
  · simp [e]
  · simp [e]
theorem q_E_obj {ad : Nat → Nat → Nat} {CA : Nat → ClassId} {h : q_H} {k i ci : Nat} (hc : q_kc k = some ci) : q_E ad CA h k i = .inr (ci, (List.range (q_nf ci)).map (q_fv ad h k i ci)) := by
  unfold q_E
  rw [hc]
theorem q_E_arr {ad : Nat → Nat → Nat} {CA : Nat → ClassId} {h : q_H} {k i : Nat} (hc : q_kc k = none) : q_E ad CA h k i = (match q_at k with
    | 1 => .inl (CA 0, q_len k i, .inl (h.1 k i))
    | 2 => .inl (CA 1, q_len k i, .inr (.inl (h.2 k i)))
    | 3 => .inl (CA 2, q_len k i, .inl (h.1 k i))
    | _ => .inl (CA 3, q_len k i, .inr (.inr (.inr (.inr (fun j => some (ad (q_rf k i j).1 (q_rf k i j).2))))))) := by
  unfold q_E
  rw [hc]
theorem q_E_1 {ad : Nat → Nat → Nat} {CA : Nat → ClassId} {h : q_H} {k i : Nat} (hc : q_kc k = none) (ha : q_at k = 1) : q_E ad CA h k i = .inl (CA 0, q_len k i, .inl (h.1 k i)) := by rw [q_E_arr hc, ha]; rfl
theorem q_E_2 {ad : Nat → Nat → Nat} {CA : Nat → ClassId} {h : q_H} {k i : Nat} (hc : q_kc k = none) (ha : q_at k = 2) : q_E ad CA h k i = .inl (CA 1, q_len k i, .inr (.inl (h.2 k i))) := by rw [q_E_arr hc, ha]; rfl
theorem q_E_3 {ad : Nat → Nat → Nat} {CA : Nat → ClassId} {h : q_H} {k i : Nat} (hc : q_kc k = none) (ha : q_at k = 3) : q_E ad CA h k i = .inl (CA 2, q_len k i, .inl (h.1 k i)) := by rw [q_E_arr hc, ha]; rfl
theorem q_E_4 {ad : Nat → Nat → Nat} {CA : Nat → ClassId} {h : q_H} {k i : Nat} (hc : q_kc k = none) (ha : q_at k = 4) : q_E ad CA h k i = .inl (CA 3, q_len k i, .inr (.inr (.inr (.inr (fun j => some (ad (q_rf k i j).1 (q_rf k i j).2)))))) := by rw [q_E_arr hc, ha]; rfl
theorem q_fs_set {n j : Nat} {f g : Nat → Value} {v : Value} (hj : g j = v) (ho : ∀ x, x ≠ j → g x = f x) : ((List.range n).map f).set j v = (List.range n).map g := by
  apply List.ext_getElem?
  intro x
  rw [List.getElem?_set]
  by_cases hx : j = x
  · subst hx
    rw [if_pos rfl]
    by_cases hl : j < n
    · simp [hl, hj]
    · simp [hl]
  · rw [if_neg hx]
    simp only [List.getElem?_map]
    by_cases hl : x < n
    · simp [List.getElem?_range hl, ho x (fun q => hx q.symm)]
    · simp [List.getElem?_eq_none (show (List.range n).length ≤ x by rw [List.length_range]; omega)]
theorem q_fs_at {n j : Nat} {f : Nat → Value} (h : j < n) : ((List.range n).map f)[j]? = some (f j) := by
  rw [List.getElem?_map, List.getElem?_range h]
  rfl
/-- what a fixed frame knows -/
def q_Ctx (p : Program) (R : Room) (s : State) (m : MethodId) (args : Array Value) (c : Code) (cc : ByteArray) (tab : Nat → Option (Instr × Nat)) (oc nL : Nat) (sc : Option (Nat × (Nat → Int32))) (cells slots : Nat) (ad : Nat → Nat → Nat) (CA : Nat → ClassId) (D : va_G) (A0 : Nat → Prop) : Prop :=
  p.tables.exec = Jvm.exec ∧ c.code = cc ∧ c.maxLocals = nL ∧ s.vm.findClass (q_cN oc) = some m.cls ∧ (∀ w ∈ q_gw, w.before args s = true) ∧ va_K D q_classes (q_tys CA) s ∧ (∀ (pc : Nat) (r : Instr × Nat), tab pc = some r → decode cc pc = .ok r) ∧ q_ok ad ∧ (∀ a, q_A ad a → A0 a) ∧
  (∀ (L : Nat) (xs : Nat → Int32), sc = some (L, xs) → va_X (ad 28 0) L xs s s.heap ∧ ad 28 0 < s.heap.size ∧ ¬ A0 (ad 28 0)) ∧ (∀ w ∈ q_nest, va_Nw w s) ∧ (1 ≤ R.frames ∧ 21 ≤ R.locals ∧ cells ≤ R.cells ∧ slots ≤ R.slots)
def q_X (p : Program) (l : Launch) (e : Env) (R : Room) (s : State) (m : MethodId) (args : Array Value) (below : List Frame) (meth : Method) (c : Code) (nL : Nat) (cells slots : Nat) (QQ : State → Prop) (ad : Nat → Nat → Nat) (CA : Nat → ClassId) (D : va_G) (A0 : Nat → Prop) : Nat → List (Nat × q_V) → List q_V → q_H → Prop :=
  fun pc ls st h => ∀ (H : Heap) (locs : List Loc) (LS : Array Slot), va_P D q_classes (q_wl ad CA h) H → va_S A0 s.heap H locs → lv_has LS nL (q_ls ad ls) → W p l e R s m args below meth c H locs cells slots QQ (F0 m pc LS (st.map (q_v ad)))
section QS
variable {p : Program} {l : Launch} {e : Env} {R : Room} {s : State} {m : MethodId} {args : Array Value} {below : List Frame} {meth : Method} {c : Code} {cc : ByteArray} {tab : Nat → Option (Instr × Nat)} {oc nL : Nat} {sc : Option (Nat × (Nat → Int32))} {cells slots : Nat} {QQ : State → Prop} {ad : Nat → Nat → Nat} {CA : Nat → ClassId} {D : va_G} {A0 : Nat → Prop}
theorem q_s_iconst (C : q_Ctx p R s m args c cc tab oc nL sc cells slots ad CA D A0) : q_c_iconst tab (q_X p l e R s m args below meth c nL cells slots QQ ad CA D A0) := by
  obtain ⟨hx, hb, hml, hown, hts, hK, hd, hok, hA, hsc, hnw, hR1, hR2, hR3, hR4⟩ := C
  intro pc ls st h n v p0 p1 k0 H locs LS hP hS hl
  exact lv_iconst hx hb (hd _ _ p0) p1 (k0 H locs LS hP hS hl)
theorem q_s_bipush (C : q_Ctx p R s m args c cc tab oc nL sc cells slots ad CA D A0) : q_c_bipush tab (q_X p l e R s m args below meth c nL cells slots QQ ad CA D A0) := by
  obtain ⟨hx, hb, hml, hown, hts, hK, hd, hok, hA, hsc, hnw, hR1, hR2, hR3, hR4⟩ := C
  intro pc ls st h n v p0 p1 k0 H locs LS hP hS hl
  exact lv_bipush hx hb (hd _ _ p0) p1 (k0 H locs LS hP hS hl)
theorem q_s_sipush (C : q_Ctx p R s m args c cc tab oc nL sc cells slots ad CA D A0) : q_c_sipush tab (q_X p l e R s m args below meth c nL cells slots QQ ad CA D A0) := by
  obtain ⟨hx, hb, hml, hown, hts, hK, hd, hok, hA, hsc, hnw, hR1, hR2, hR3, hR4⟩ := C
  intro pc ls st h n v p0 p1 k0 H locs LS hP hS hl
  exact lv_sipush hx hb (hd _ _ p0) p1 (k0 H locs LS hP hS hl)
theorem q_s_lconst (C : q_Ctx p R s m args c cc tab oc nL sc cells slots ad CA D A0) : q_c_lconst tab (q_X p l e R s m args below meth c nL cells slots QQ ad CA D A0) := by
  obtain ⟨hx, hb, hml, hown, hts, hK, hd, hok, hA, hsc, hnw, hR1, hR2, hR3, hR4⟩ := C
  intro pc ls st h n v p0 p1 k0 H locs LS hP hS hl
  exact lv_lconst hx hb (hd _ _ p0) p1 (k0 H locs LS hP hS hl)
theorem q_s_ldc (C : q_Ctx p R s m args c cc tab oc nL sc cells slots ad CA D A0) : q_c_ldc tab oc (q_X p l e R s m args below meth c nL cells slots QQ ad CA D A0) := by
  obtain ⟨hx, hb, hml, hown, hts, hK, hd, hok, hA, hsc, hnw, hR1, hR2, hR3, hR4⟩ := C
  intro pc ls st h i v p0 p1 k0 H locs LS hP hS hl
  exact lv_ldc hx hb hown (hts _ (q_in_gw _ q_cst_w q_cst_g _ (List.mem_map.mpr ⟨_, q_look_mem _ _ _ _ p1, rfl⟩))) (hd _ _ p0) (k0 H locs LS hP hS hl)
theorem q_s_ldc2 (C : q_Ctx p R s m args c cc tab oc nL sc cells slots ad CA D A0) : q_c_ldc2 tab oc (q_X p l e R s m args below meth c nL cells slots QQ ad CA D A0) := by
  obtain ⟨hx, hb, hml, hown, hts, hK, hd, hok, hA, hsc, hnw, hR1, hR2, hR3, hR4⟩ := C
  intro pc ls st h i v p0 p1 k0 H locs LS hP hS hl
  exact lv_ldc2 hx hb hown (hts _ (q_in_gw _ q_cstL_w q_cstL_g _ (List.mem_map.mpr ⟨_, q_look_mem _ _ _ _ p1, rfl⟩))) (hd _ _ p0) (k0 H locs LS hP hS hl)
theorem q_s_iload_n (C : q_Ctx p R s m args c cc tab oc nL sc cells slots ad CA D A0) : q_c_iload_n tab (q_X p l e R s m args below meth c nL cells slots QQ ad CA D A0) := by
  obtain ⟨hx, hb, hml, hown, hts, hK, hd, hok, hA, hsc, hnw, hR1, hR2, hR3, hR4⟩ := C
  intro pc ls st h k x p0 p1 k0 H locs LS hP hS hl
  exact lv_iload_n hx hb (hd _ _ p0) rfl (q_get_at hl p1) (k0 H locs LS hP hS hl)
theorem q_s_iload (C : q_Ctx p R s m args c cc tab oc nL sc cells slots ad CA D A0) : q_c_iload tab (q_X p l e R s m args below meth c nL cells slots QQ ad CA D A0) := by
  obtain ⟨hx, hb, hml, hown, hts, hK, hd, hok, hA, hsc, hnw, hR1, hR2, hR3, hR4⟩ := C
  intro pc ls st h k x p0 p1 k0 H locs LS hP hS hl
  exact lv_iload hx hb (hd _ _ p0) (q_get_at hl p1) (k0 H locs LS hP hS hl)
theorem q_s_lload_n (C : q_Ctx p R s m args c cc tab oc nL sc cells slots ad CA D A0) : q_c_lload_n tab (q_X p l e R s m args below meth c nL cells slots QQ ad CA D A0) := by
  obtain ⟨hx, hb, hml, hown, hts, hK, hd, hok, hA, hsc, hnw, hR1, hR2, hR3, hR4⟩ := C
  intro pc ls st h k x p0 p1 k0 H locs LS hP hS hl
  exact lv_lload_n hx hb (hd _ _ p0) rfl (q_get_at hl p1) (k0 H locs LS hP hS hl)
theorem q_s_lload (C : q_Ctx p R s m args c cc tab oc nL sc cells slots ad CA D A0) : q_c_lload tab (q_X p l e R s m args below meth c nL cells slots QQ ad CA D A0) := by
  obtain ⟨hx, hb, hml, hown, hts, hK, hd, hok, hA, hsc, hnw, hR1, hR2, hR3, hR4⟩ := C
  intro pc ls st h k x p0 p1 k0 H locs LS hP hS hl
  exact lv_lload hx hb (hd _ _ p0) (q_get_at hl p1) (k0 H locs LS hP hS hl)
theorem q_s_aload_n (C : q_Ctx p R s m args c cc tab oc nL sc cells slots ad CA D A0) : q_c_aload_n tab (q_X p l e R s m args below meth c nL cells slots QQ ad CA D A0) := by
  obtain ⟨hx, hb, hml, hown, hts, hK, hd, hok, hA, hsc, hnw, hR1, hR2, hR3, hR4⟩ := C
  intro pc ls st h k a b p0 p1 k0 H locs LS hP hS hl
  exact lv_aload_n hx hb (hd _ _ p0) rfl (q_get_at hl p1) (k0 H locs LS hP hS hl)
theorem q_s_istore_n (C : q_Ctx p R s m args c cc tab oc nL sc cells slots ad CA D A0) : q_c_istore_n tab nL (q_X p l e R s m args below meth c nL cells slots QQ ad CA D A0) := by
  obtain ⟨hx, hb, hml, hown, hts, hK, hd, hok, hA, hsc, hnw, hR1, hR2, hR3, hR4⟩ := C
  intro pc ls ls1 st h k x p0 p1 p2 k0 H locs LS hP hS hl
  exact lv_istore_n hx hb (hd _ _ p0) rfl hl p1 (q_ls_set ad ls _ (q_i x)) (fun LS1 hl1 => k0 H locs LS1 hP hS (p2 ▸ hl1))
theorem q_s_istore (C : q_Ctx p R s m args c cc tab oc nL sc cells slots ad CA D A0) : q_c_istore tab nL (q_X p l e R s m args below meth c nL cells slots QQ ad CA D A0) := by
  obtain ⟨hx, hb, hml, hown, hts, hK, hd, hok, hA, hsc, hnw, hR1, hR2, hR3, hR4⟩ := C
  intro pc ls ls1 st h k x p0 p1 p2 k0 H locs LS hP hS hl
  exact lv_istore hx hb (hd _ _ p0) hl p1 (q_ls_set ad ls _ (q_i x)) (fun LS1 hl1 => k0 H locs LS1 hP hS (p2 ▸ hl1))
theorem q_s_lstore_n (C : q_Ctx p R s m args c cc tab oc nL sc cells slots ad CA D A0) : q_c_lstore_n tab nL (q_X p l e R s m args below meth c nL cells slots QQ ad CA D A0) := by
  obtain ⟨hx, hb, hml, hown, hts, hK, hd, hok, hA, hsc, hnw, hR1, hR2, hR3, hR4⟩ := C
  intro pc ls ls1 st h k x p0 p1 p2 k0 H locs LS hP hS hl
  exact lv_lstore_n hx hb (hd _ _ p0) rfl hl p1 (q_ls_set2 ad ls _ (q_l x)) (fun LS1 hl1 => k0 H locs LS1 hP hS (p2 ▸ hl1))
theorem q_s_lstore (C : q_Ctx p R s m args c cc tab oc nL sc cells slots ad CA D A0) : q_c_lstore tab nL (q_X p l e R s m args below meth c nL cells slots QQ ad CA D A0) := by
  obtain ⟨hx, hb, hml, hown, hts, hK, hd, hok, hA, hsc, hnw, hR1, hR2, hR3, hR4⟩ := C
  intro pc ls ls1 st h k x p0 p1 p2 k0 H locs LS hP hS hl
  exact lv_lstore hx hb (hd _ _ p0) hl p1 (q_ls_set2 ad ls _ (q_l x)) (fun LS1 hl1 => k0 H locs LS1 hP hS (p2 ▸ hl1))
theorem q_s_iinc (C : q_Ctx p R s m args c cc tab oc nL sc cells slots ad CA D A0) : q_c_iinc tab nL (q_X p l e R s m args below meth c nL cells slots QQ ad CA D A0) := by
  obtain ⟨hx, hb, hml, hown, hts, hK, hd, hok, hA, hsc, hnw, hR1, hR2, hR3, hR4⟩ := C
  intro pc ls ls1 st h k n x v p0 p1 p2 p3 p4 k0 H locs LS hP hS hl
  obtain ⟨kk, hkk⟩ := List.getElem?_of_mem (List.mem_map.mpr ⟨(k, q_i x), q_get_mem _ _ _ p2, rfl⟩ : (k, Value.int x) ∈ q_ls ad ls)
  exact lv_iinc (k := kk) hx hb (hd _ _ p0) hl hkk p3 p1 (q_ls_set ad ls _ (q_i v)) (fun LS1 hl1 => k0 H locs LS1 hP hS (p4 ▸ hl1))
theorem q_s_iadd (C : q_Ctx p R s m args c cc tab oc nL sc cells slots ad CA D A0) : q_c_iadd tab (q_X p l e R s m args below meth c nL cells slots QQ ad CA D A0) := by
  obtain ⟨hx, hb, hml, hown, hts, hK, hd, hok, hA, hsc, hnw, hR1, hR2, hR3, hR4⟩ := C
  intro pc ls st h x y p0 k0 H locs LS hP hS hl
  exact lv_iadd hx hb (hd _ _ p0) (k0 H locs LS hP hS hl)
theorem q_s_isub (C : q_Ctx p R s m args c cc tab oc nL sc cells slots ad CA D A0) : q_c_isub tab (q_X p l e R s m args below meth c nL cells slots QQ ad CA D A0) := by
  obtain ⟨hx, hb, hml, hown, hts, hK, hd, hok, hA, hsc, hnw, hR1, hR2, hR3, hR4⟩ := C
  intro pc ls st h x y p0 k0 H locs LS hP hS hl
  exact lv_isub hx hb (hd _ _ p0) (k0 H locs LS hP hS hl)
theorem q_s_imul (C : q_Ctx p R s m args c cc tab oc nL sc cells slots ad CA D A0) : q_c_imul tab (q_X p l e R s m args below meth c nL cells slots QQ ad CA D A0) := by
  obtain ⟨hx, hb, hml, hown, hts, hK, hd, hok, hA, hsc, hnw, hR1, hR2, hR3, hR4⟩ := C
  intro pc ls st h x y p0 k0 H locs LS hP hS hl
  exact lv_imul hx hb (hd _ _ p0) (k0 H locs LS hP hS hl)
theorem q_s_iand (C : q_Ctx p R s m args c cc tab oc nL sc cells slots ad CA D A0) : q_c_iand tab (q_X p l e R s m args below meth c nL cells slots QQ ad CA D A0) := by
  obtain ⟨hx, hb, hml, hown, hts, hK, hd, hok, hA, hsc, hnw, hR1, hR2, hR3, hR4⟩ := C
  intro pc ls st h x y p0 k0 H locs LS hP hS hl
  exact lv_iand hx hb (hd _ _ p0) (k0 H locs LS hP hS hl)
theorem q_s_ior (C : q_Ctx p R s m args c cc tab oc nL sc cells slots ad CA D A0) : q_c_ior tab (q_X p l e R s m args below meth c nL cells slots QQ ad CA D A0) := by
  obtain ⟨hx, hb, hml, hown, hts, hK, hd, hok, hA, hsc, hnw, hR1, hR2, hR3, hR4⟩ := C
  intro pc ls st h x y p0 k0 H locs LS hP hS hl
  exact lv_ior hx hb (hd _ _ p0) (k0 H locs LS hP hS hl)
theorem q_s_ixor (C : q_Ctx p R s m args c cc tab oc nL sc cells slots ad CA D A0) : q_c_ixor tab (q_X p l e R s m args below meth c nL cells slots QQ ad CA D A0) := by
  obtain ⟨hx, hb, hml, hown, hts, hK, hd, hok, hA, hsc, hnw, hR1, hR2, hR3, hR4⟩ := C
  intro pc ls st h x y p0 k0 H locs LS hP hS hl
  exact lv_ixor hx hb (hd _ _ p0) (k0 H locs LS hP hS hl)
theorem q_s_ishl (C : q_Ctx p R s m args c cc tab oc nL sc cells slots ad CA D A0) : q_c_ishl tab (q_X p l e R s m args below meth c nL cells slots QQ ad CA D A0) := by
  obtain ⟨hx, hb, hml, hown, hts, hK, hd, hok, hA, hsc, hnw, hR1, hR2, hR3, hR4⟩ := C
  intro pc ls st h x y p0 k0 H locs LS hP hS hl
  exact lv_ishl hx hb (hd _ _ p0) (k0 H locs LS hP hS hl)
theorem q_s_ishr (C : q_Ctx p R s m args c cc tab oc nL sc cells slots ad CA D A0) : q_c_ishr tab (q_X p l e R s m args below meth c nL cells slots QQ ad CA D A0) := by
  obtain ⟨hx, hb, hml, hown, hts, hK, hd, hok, hA, hsc, hnw, hR1, hR2, hR3, hR4⟩ := C
  intro pc ls st h x y p0 k0 H locs LS hP hS hl
  exact lv_ishr hx hb (hd _ _ p0) (k0 H locs LS hP hS hl)
theorem q_s_idiv (C : q_Ctx p R s m args c cc tab oc nL sc cells slots ad CA D A0) : q_c_idiv tab (q_X p l e R s m args below meth c nL cells slots QQ ad CA D A0) := by
  obtain ⟨hx, hb, hml, hown, hts, hK, hd, hok, hA, hsc, hnw, hR1, hR2, hR3, hR4⟩ := C
  intro pc ls st h x y p0 p1 k0 H locs LS hP hS hl
  exact lv_idiv hx hb (hd _ _ p0) p1 (k0 H locs LS hP hS hl)
theorem q_s_iushr (C : q_Ctx p R s m args c cc tab oc nL sc cells slots ad CA D A0) : q_c_iushr tab (q_X p l e R s m args below meth c nL cells slots QQ ad CA D A0) := by
  obtain ⟨hx, hb, hml, hown, hts, hK, hd, hok, hA, hsc, hnw, hR1, hR2, hR3, hR4⟩ := C
  intro pc ls st h x y p0 k0 H locs LS hP hS hl
  exact lv_iushr hx hb (hd _ _ p0) rfl (k0 H locs LS hP hS hl)
theorem q_s_ladd (C : q_Ctx p R s m args c cc tab oc nL sc cells slots ad CA D A0) : q_c_ladd tab (q_X p l e R s m args below meth c nL cells slots QQ ad CA D A0) := by
  obtain ⟨hx, hb, hml, hown, hts, hK, hd, hok, hA, hsc, hnw, hR1, hR2, hR3, hR4⟩ := C
  intro pc ls st h x y p0 k0 H locs LS hP hS hl
  exact lv_ladd hx hb (hd _ _ p0) (k0 H locs LS hP hS hl)
theorem q_s_lsub (C : q_Ctx p R s m args c cc tab oc nL sc cells slots ad CA D A0) : q_c_lsub tab (q_X p l e R s m args below meth c nL cells slots QQ ad CA D A0) := by
  obtain ⟨hx, hb, hml, hown, hts, hK, hd, hok, hA, hsc, hnw, hR1, hR2, hR3, hR4⟩ := C
  intro pc ls st h x y p0 k0 H locs LS hP hS hl
  exact lv_lsub hx hb (hd _ _ p0) (k0 H locs LS hP hS hl)
theorem q_s_land (C : q_Ctx p R s m args c cc tab oc nL sc cells slots ad CA D A0) : q_c_land tab (q_X p l e R s m args below meth c nL cells slots QQ ad CA D A0) := by
  obtain ⟨hx, hb, hml, hown, hts, hK, hd, hok, hA, hsc, hnw, hR1, hR2, hR3, hR4⟩ := C
  intro pc ls st h x y p0 k0 H locs LS hP hS hl
  exact lv_land hx hb (hd _ _ p0) (k0 H locs LS hP hS hl)
theorem q_s_lor (C : q_Ctx p R s m args c cc tab oc nL sc cells slots ad CA D A0) : q_c_lor tab (q_X p l e R s m args below meth c nL cells slots QQ ad CA D A0) := by
  obtain ⟨hx, hb, hml, hown, hts, hK, hd, hok, hA, hsc, hnw, hR1, hR2, hR3, hR4⟩ := C
  intro pc ls st h x y p0 k0 H locs LS hP hS hl
  exact lv_lor hx hb (hd _ _ p0) (k0 H locs LS hP hS hl)
theorem q_s_lxor (C : q_Ctx p R s m args c cc tab oc nL sc cells slots ad CA D A0) : q_c_lxor tab (q_X p l e R s m args below meth c nL cells slots QQ ad CA D A0) := by
  obtain ⟨hx, hb, hml, hown, hts, hK, hd, hok, hA, hsc, hnw, hR1, hR2, hR3, hR4⟩ := C
  intro pc ls st h x y p0 k0 H locs LS hP hS hl
  exact lv_lxor hx hb (hd _ _ p0) (k0 H locs LS hP hS hl)
theorem q_s_lshl (C : q_Ctx p R s m args c cc tab oc nL sc cells slots ad CA D A0) : q_c_lshl tab (q_X p l e R s m args below meth c nL cells slots QQ ad CA D A0) := by
  obtain ⟨hx, hb, hml, hown, hts, hK, hd, hok, hA, hsc, hnw, hR1, hR2, hR3, hR4⟩ := C
  intro pc ls st h x y p0 k0 H locs LS hP hS hl
  exact lv_lshl hx hb (hd _ _ p0) rfl (k0 H locs LS hP hS hl)
theorem q_s_lushr (C : q_Ctx p R s m args c cc tab oc nL sc cells slots ad CA D A0) : q_c_lushr tab (q_X p l e R s m args below meth c nL cells slots QQ ad CA D A0) := by
  obtain ⟨hx, hb, hml, hown, hts, hK, hd, hok, hA, hsc, hnw, hR1, hR2, hR3, hR4⟩ := C
  intro pc ls st h x y p0 k0 H locs LS hP hS hl
  exact lv_lushr hx hb (hd _ _ p0) rfl (k0 H locs LS hP hS hl)
theorem q_s_lcmp (C : q_Ctx p R s m args c cc tab oc nL sc cells slots ad CA D A0) : q_c_lcmp tab (q_X p l e R s m args below meth c nL cells slots QQ ad CA D A0) := by
  obtain ⟨hx, hb, hml, hown, hts, hK, hd, hok, hA, hsc, hnw, hR1, hR2, hR3, hR4⟩ := C
  intro pc ls st h x y p0 k0 H locs LS hP hS hl
  exact W.lcmp hx hb (hd _ _ p0) (k0 H locs LS hP hS hl)
theorem q_s_l2i (C : q_Ctx p R s m args c cc tab oc nL sc cells slots ad CA D A0) : q_c_l2i tab (q_X p l e R s m args below meth c nL cells slots QQ ad CA D A0) := by
  obtain ⟨hx, hb, hml, hown, hts, hK, hd, hok, hA, hsc, hnw, hR1, hR2, hR3, hR4⟩ := C
  intro pc ls st h x p0 k0 H locs LS hP hS hl
  exact lv_l2i hx hb (hd _ _ p0) rfl (k0 H locs LS hP hS hl)
theorem q_s_dup (C : q_Ctx p R s m args c cc tab oc nL sc cells slots ad CA D A0) : q_c_dup tab (q_X p l e R s m args below meth c nL cells slots QQ ad CA D A0) := by
  obtain ⟨hx, hb, hml, hown, hts, hK, hd, hok, hA, hsc, hnw, hR1, hR2, hR3, hR4⟩ := C
  intro pc ls st h v p0 p1 k0 H locs LS hP hS hl
  exact lv_dup hx hb (hd _ _ p0) ((q_v_cat ad v).trans p1) (k0 H locs LS hP hS hl)
theorem q_s_dup2_11 (C : q_Ctx p R s m args c cc tab oc nL sc cells slots ad CA D A0) : q_c_dup2_11 tab (q_X p l e R s m args below meth c nL cells slots QQ ad CA D A0) := by
  obtain ⟨hx, hb, hml, hown, hts, hK, hd, hok, hA, hsc, hnw, hR1, hR2, hR3, hR4⟩ := C
  intro pc ls st h v w p0 p1 p2 k0 H locs LS hP hS hl
  exact lv_dup2_11 hx hb (hd _ _ p0) ((q_v_cat ad v).trans p1) ((q_v_cat ad w).trans p2) (k0 H locs LS hP hS hl)
theorem q_s_if_ne (C : q_Ctx p R s m args c cc tab oc nL sc cells slots ad CA D A0) : q_c_if_ne tab (q_X p l e R s m args below meth c nL cells slots QQ ad CA D A0) := by
  obtain ⟨hx, hb, hml, hown, hts, hK, hd, hok, hA, hsc, hnw, hR1, hR2, hR3, hR4⟩ := C
  intro pc ls st h off tgt x p0 p1 k0 k1 H locs LS hP hS hl
  exact lv_if_ne hx hb (hd _ _ p0) p1 (fun z => k0 z H locs LS hP hS hl) (fun z => k1 z H locs LS hP hS hl)
theorem q_s_icmp_ne (C : q_Ctx p R s m args c cc tab oc nL sc cells slots ad CA D A0) : q_c_icmp_ne tab (q_X p l e R s m args below meth c nL cells slots QQ ad CA D A0) := by
  obtain ⟨hx, hb, hml, hown, hts, hK, hd, hok, hA, hsc, hnw, hR1, hR2, hR3, hR4⟩ := C
  intro pc ls st h off tgt x y p0 p1 k0 k1 H locs LS hP hS hl
  exact lv_icmp_ne hx hb (hd _ _ p0) p1 (fun z => k0 z H locs LS hP hS hl) (fun z => k1 z H locs LS hP hS hl)
theorem q_s_if_eq (C : q_Ctx p R s m args c cc tab oc nL sc cells slots ad CA D A0) : q_c_if_eq tab (q_X p l e R s m args below meth c nL cells slots QQ ad CA D A0) := by
  obtain ⟨hx, hb, hml, hown, hts, hK, hd, hok, hA, hsc, hnw, hR1, hR2, hR3, hR4⟩ := C
  intro pc ls st h off tgt x p0 p1 k0 k1 H locs LS hP hS hl
  exact lv_if_eq hx hb (hd _ _ p0) p1 (fun z => k0 z H locs LS hP hS hl) (fun z => k1 z H locs LS hP hS hl)
theorem q_s_if_lt (C : q_Ctx p R s m args c cc tab oc nL sc cells slots ad CA D A0) : q_c_if_lt tab (q_X p l e R s m args below meth c nL cells slots QQ ad CA D A0) := by
  obtain ⟨hx, hb, hml, hown, hts, hK, hd, hok, hA, hsc, hnw, hR1, hR2, hR3, hR4⟩ := C
  intro pc ls st h off tgt x p0 p1 k0 k1 H locs LS hP hS hl
  exact lv_if_lt hx hb (hd _ _ p0) p1 (fun z => k0 z H locs LS hP hS hl) (fun z => k1 z H locs LS hP hS hl)
theorem q_s_if_ge (C : q_Ctx p R s m args c cc tab oc nL sc cells slots ad CA D A0) : q_c_if_ge tab (q_X p l e R s m args below meth c nL cells slots QQ ad CA D A0) := by
  obtain ⟨hx, hb, hml, hown, hts, hK, hd, hok, hA, hsc, hnw, hR1, hR2, hR3, hR4⟩ := C
  intro pc ls st h off tgt x p0 p1 k0 k1 H locs LS hP hS hl
  exact lv_if_ge hx hb (hd _ _ p0) p1 (fun z => k0 z H locs LS hP hS hl) (fun z => k1 z H locs LS hP hS hl)
theorem q_s_if_gt (C : q_Ctx p R s m args c cc tab oc nL sc cells slots ad CA D A0) : q_c_if_gt tab (q_X p l e R s m args below meth c nL cells slots QQ ad CA D A0) := by
  obtain ⟨hx, hb, hml, hown, hts, hK, hd, hok, hA, hsc, hnw, hR1, hR2, hR3, hR4⟩ := C
  intro pc ls st h off tgt x p0 p1 k0 k1 H locs LS hP hS hl
  exact lv_if_gt hx hb (hd _ _ p0) p1 (fun z => k0 z H locs LS hP hS hl) (fun z => k1 z H locs LS hP hS hl)
theorem q_s_if_le (C : q_Ctx p R s m args c cc tab oc nL sc cells slots ad CA D A0) : q_c_if_le tab (q_X p l e R s m args below meth c nL cells slots QQ ad CA D A0) := by
  obtain ⟨hx, hb, hml, hown, hts, hK, hd, hok, hA, hsc, hnw, hR1, hR2, hR3, hR4⟩ := C
  intro pc ls st h off tgt x p0 p1 k0 k1 H locs LS hP hS hl
  exact lv_if_le hx hb (hd _ _ p0) p1 (fun z => k0 z H locs LS hP hS hl) (fun z => k1 z H locs LS hP hS hl)
theorem q_s_icmp_eq (C : q_Ctx p R s m args c cc tab oc nL sc cells slots ad CA D A0) : q_c_icmp_eq tab (q_X p l e R s m args below meth c nL cells slots QQ ad CA D A0) := by
  obtain ⟨hx, hb, hml, hown, hts, hK, hd, hok, hA, hsc, hnw, hR1, hR2, hR3, hR4⟩ := C
  intro pc ls st h off tgt x y p0 p1 k0 k1 H locs LS hP hS hl
  exact lv_icmp_eq hx hb (hd _ _ p0) p1 (fun z => k0 z H locs LS hP hS hl) (fun z => k1 z H locs LS hP hS hl)
theorem q_s_icmp_lt (C : q_Ctx p R s m args c cc tab oc nL sc cells slots ad CA D A0) : q_c_icmp_lt tab (q_X p l e R s m args below meth c nL cells slots QQ ad CA D A0) := by
  obtain ⟨hx, hb, hml, hown, hts, hK, hd, hok, hA, hsc, hnw, hR1, hR2, hR3, hR4⟩ := C
  intro pc ls st h off tgt x y p0 p1 k0 k1 H locs LS hP hS hl
  exact lv_icmp_lt hx hb (hd _ _ p0) p1 (fun z => k0 z H locs LS hP hS hl) (fun z => k1 z H locs LS hP hS hl)
theorem q_s_icmp_ge (C : q_Ctx p R s m args c cc tab oc nL sc cells slots ad CA D A0) : q_c_icmp_ge tab (q_X p l e R s m args below meth c nL cells slots QQ ad CA D A0) := by
  obtain ⟨hx, hb, hml, hown, hts, hK, hd, hok, hA, hsc, hnw, hR1, hR2, hR3, hR4⟩ := C
  intro pc ls st h off tgt x y p0 p1 k0 k1 H locs LS hP hS hl
  exact lv_icmp_ge hx hb (hd _ _ p0) p1 (fun z => k0 z H locs LS hP hS hl) (fun z => k1 z H locs LS hP hS hl)
theorem q_s_icmp_gt (C : q_Ctx p R s m args c cc tab oc nL sc cells slots ad CA D A0) : q_c_icmp_gt tab (q_X p l e R s m args below meth c nL cells slots QQ ad CA D A0) := by
  obtain ⟨hx, hb, hml, hown, hts, hK, hd, hok, hA, hsc, hnw, hR1, hR2, hR3, hR4⟩ := C
  intro pc ls st h off tgt x y p0 p1 k0 k1 H locs LS hP hS hl
  exact lv_icmp_gt hx hb (hd _ _ p0) p1 (fun z => k0 z H locs LS hP hS hl) (fun z => k1 z H locs LS hP hS hl)
theorem q_s_icmp_le (C : q_Ctx p R s m args c cc tab oc nL sc cells slots ad CA D A0) : q_c_icmp_le tab (q_X p l e R s m args below meth c nL cells slots QQ ad CA D A0) := by
  obtain ⟨hx, hb, hml, hown, hts, hK, hd, hok, hA, hsc, hnw, hR1, hR2, hR3, hR4⟩ := C
  intro pc ls st h off tgt x y p0 p1 k0 k1 H locs LS hP hS hl
  exact lv_icmp_le hx hb (hd _ _ p0) p1 (fun z => k0 z H locs LS hP hS hl) (fun z => k1 z H locs LS hP hS hl)
theorem q_s_goto (C : q_Ctx p R s m args c cc tab oc nL sc cells slots ad CA D A0) : q_c_goto tab (q_X p l e R s m args below meth c nL cells slots QQ ad CA D A0) := by
  obtain ⟨hx, hb, hml, hown, hts, hK, hd, hok, hA, hsc, hnw, hR1, hR2, hR3, hR4⟩ := C
  intro pc ls st h off tgt p0 p1 k0 H locs LS hP hS hl
  exact lv_goto hx hb (hd _ _ p0) p1 (k0 H locs LS hP hS hl)
theorem q_s_tsOut (C : q_Ctx p R s m args c cc tab oc nL sc cells slots ad CA D A0) : q_c_tsOut tab (q_X p l e R s m args below meth c nL cells slots QQ ad CA D A0) := by
  obtain ⟨hx, hb, hml, hown, hts, hK, hd, hok, hA, hsc, hnw, hR1, hR2, hR3, hR4⟩ := C
  intro pc ls st h dflt lo hi offs len x tgt p0 p1 p2 k0 H locs LS hP hS hl
  exact lv_tableOut hx hb (hd _ _ p0) p1 p2 (k0 H locs LS hP hS hl)
theorem q_s_tsIn (C : q_Ctx p R s m args c cc tab oc nL sc cells slots ad CA D A0) : q_c_tsIn tab (q_X p l e R s m args below meth c nL cells slots QQ ad CA D A0) := by
  obtain ⟨hx, hb, hml, hown, hts, hK, hd, hok, hA, hsc, hnw, hR1, hR2, hR3, hR4⟩ := C
  intro pc ls st h dflt lo hi offs len x off tgt p0 p1 p2 p3 p4 k0 H locs LS hP hS hl
  exact lv_tableIn hx hb (hd _ _ p0) p1 p2 p3 p4 (k0 H locs LS hP hS hl)
theorem q_s_getI (C : q_Ctx p R s m args c cc tab oc nL sc cells slots ad CA D A0) : q_c_getI tab oc (q_X p l e R s m args below meth c nL cells slots QQ ad CA D A0) := by
  obtain ⟨hx, hb, hml, hown, hts, hK, hd, hok, hA, hsc, hnw, hR1, hR2, hR3, hR4⟩ := C
  intro pc ls st h f k i ci j p0 p1 p2 p3 p4 k0 H locs LS hP hS hl
  obtain ⟨q0, hq0⟩ := q_place p1
  have hm := q_look_mem _ _ _ _ p3
  obtain ⟨hc6, hjn⟩ := q_flds_n _ hm
  obtain ⟨hcl, hnn⟩ := q_cls_n ci hc6
  have hlink : (Cond.fieldLink (q_cN oc) f ((q_cls ci).2.1 j).1 ((q_cls ci).2.1 j).2.1 ((q_cls ci).2.1 j).2.2.1).before args s = true := hts _ (q_in_gw _ q_flds_w q_flds_g _ (List.mem_map.mpr ⟨_, hm, rfl⟩))
  have hlay : ∀ w ∈ u_ws (q_cls ci).1 (q_cls ci).2.1 (q_cls ci).2.2, w ∈ q_gw := fun w hw => q_in_gw _ q_lay_w q_lay_g _ (List.mem_flatMap.mpr ⟨ci, List.mem_range.mpr hc6, hw⟩)
  have hcell : (q_wl ad CA h)[q0]? = some (ad k i, .inr (ci, (List.range (q_nf ci)).map (q_fv ad h k i ci))) := by rw [q_wl_at hq0, q_E_obj p2]
  have hfv : q_fv ad h k i ci j = .int (h.1 k i j) := by unfold q_fv; rw [p4]; rfl
  exact va_get hx hb hts hlay hown hK hP q0 hcell hcl j (by rw [hnn]; exact hjn) hlink (fun _ z => z) (by rw [q_fs_at hjn, hfv]; rfl) (hd _ _ p0) (k0 H locs LS hP hS hl)
theorem q_s_getL (C : q_Ctx p R s m args c cc tab oc nL sc cells slots ad CA D A0) : q_c_getL tab oc (q_X p l e R s m args below meth c nL cells slots QQ ad CA D A0) := by
  obtain ⟨hx, hb, hml, hown, hts, hK, hd, hok, hA, hsc, hnw, hR1, hR2, hR3, hR4⟩ := C
  intro pc ls st h f k i ci j p0 p1 p2 p3 p4 k0 H locs LS hP hS hl
  obtain ⟨q0, hq0⟩ := q_place p1
  have hm := q_look_mem _ _ _ _ p3
  obtain ⟨hc6, hjn⟩ := q_flds_n _ hm
  obtain ⟨hcl, hnn⟩ := q_cls_n ci hc6
  have hlink : (Cond.fieldLink (q_cN oc) f ((q_cls ci).2.1 j).1 ((q_cls ci).2.1 j).2.1 ((q_cls ci).2.1 j).2.2.1).before args s = true := hts _ (q_in_gw _ q_flds_w q_flds_g _ (List.mem_map.mpr ⟨_, hm, rfl⟩))
  have hlay : ∀ w ∈ u_ws (q_cls ci).1 (q_cls ci).2.1 (q_cls ci).2.2, w ∈ q_gw := fun w hw => q_in_gw _ q_lay_w q_lay_g _ (List.mem_flatMap.mpr ⟨ci, List.mem_range.mpr hc6, hw⟩)
  have hcell : (q_wl ad CA h)[q0]? = some (ad k i, .inr (ci, (List.range (q_nf ci)).map (q_fv ad h k i ci))) := by rw [q_wl_at hq0, q_E_obj p2]
  have hfv : q_fv ad h k i ci j = .long (h.2 k i j) := by unfold q_fv; rw [p4]; rfl
  exact va_get hx hb hts hlay hown hK hP q0 hcell hcl j (by rw [hnn]; exact hjn) hlink (fun _ z => z) (by rw [q_fs_at hjn, hfv]; rfl) (hd _ _ p0) (k0 H locs LS hP hS hl)
theorem q_s_getR (C : q_Ctx p R s m args c cc tab oc nL sc cells slots ad CA D A0) : q_c_getR tab oc (q_X p l e R s m args below meth c nL cells slots QQ ad CA D A0) := by
  obtain ⟨hx, hb, hml, hown, hts, hK, hd, hok, hA, hsc, hnw, hR1, hR2, hR3, hR4⟩ := C
  intro pc ls st h f k i ci j p0 p1 p2 p3 p4 k0 H locs LS hP hS hl
  obtain ⟨q0, hq0⟩ := q_place p1
  have hm := q_look_mem _ _ _ _ p3
  obtain ⟨hc6, hjn⟩ := q_flds_n _ hm
  obtain ⟨hcl, hnn⟩ := q_cls_n ci hc6
  have hlink : (Cond.fieldLink (q_cN oc) f ((q_cls ci).2.1 j).1 ((q_cls ci).2.1 j).2.1 ((q_cls ci).2.1 j).2.2.1).before args s = true := hts _ (q_in_gw _ q_flds_w q_flds_g _ (List.mem_map.mpr ⟨_, hm, rfl⟩))
  have hlay : ∀ w ∈ u_ws (q_cls ci).1 (q_cls ci).2.1 (q_cls ci).2.2, w ∈ q_gw := fun w hw => q_in_gw _ q_lay_w q_lay_g _ (List.mem_flatMap.mpr ⟨ci, List.mem_range.mpr hc6, hw⟩)
  have hcell : (q_wl ad CA h)[q0]? = some (ad k i, .inr (ci, (List.range (q_nf ci)).map (q_fv ad h k i ci))) := by rw [q_wl_at hq0, q_E_obj p2]
  have hfv : q_fv ad h k i ci j = .ref (ad (q_rf k i j).1 (q_rf k i j).2) := by unfold q_fv; rw [p4]; rfl
  exact va_get hx hb hts hlay hown hK hP q0 hcell hcl j (by rw [hnn]; exact hjn) hlink (fun _ z => z) (by rw [q_fs_at hjn, hfv]; rfl) (hd _ _ p0) (k0 H locs LS hP hS hl)
theorem q_s_putI (C : q_Ctx p R s m args c cc tab oc nL sc cells slots ad CA D A0) : q_c_putI tab oc (q_X p l e R s m args below meth c nL cells slots QQ ad CA D A0) := by
  obtain ⟨hx, hb, hml, hown, hts, hK, hd, hok, hA, hsc, hnw, hR1, hR2, hR3, hR4⟩ := C
  intro pc ls st h f k i ci j v p0 p1 p2 p3 p4 k0 H locs LS hP hS hl
  obtain ⟨q0, hq0⟩ := q_place p1
  have hm := q_look_mem _ _ _ _ p3
  obtain ⟨hc6, hjn⟩ := q_flds_n _ hm
  obtain ⟨hcl, hnn⟩ := q_cls_n ci hc6
  have hlink : (Cond.fieldLink (q_cN oc) f ((q_cls ci).2.1 j).1 ((q_cls ci).2.1 j).2.1 ((q_cls ci).2.1 j).2.2.1).before args s = true := hts _ (q_in_gw _ q_flds_w q_flds_g _ (List.mem_map.mpr ⟨_, hm, rfl⟩))
  have hlay : ∀ w ∈ u_ws (q_cls ci).1 (q_cls ci).2.1 (q_cls ci).2.2, w ∈ q_gw := fun w hw => q_in_gw _ q_lay_w q_lay_g _ (List.mem_flatMap.mpr ⟨ci, List.mem_range.mpr hc6, hw⟩)
  have hcell : (q_wl ad CA h)[q0]? = some (ad k i, .inr (ci, (List.range (q_nf ci)).map (q_fv ad h k i ci))) := by rw [q_wl_at hq0, q_E_obj p2]
  have hft := (q_cls_f ci hc6 j hjn).1 p4
  have hset : (q_wl ad CA h).set q0 (ad k i, .inr (ci, ((List.range (q_nf ci)).map (q_fv ad h k i ci)).set j (.int v))) = q_wl ad CA (q_sI h k i j v) := by
    refine q_wl_set hq0 ?_ (fun k1 i1 hn => q_sI_ne k1 i1 hn)
    rw [q_E_obj p2]
    congr 2
    refine (q_fs_set ?_ (fun x hx => ?_)).symm
    · unfold q_fv
      rw [p4]
      simp [q_sI]
    · unfold q_fv
      simp [q_sI, hx]
  refine va_put (ty := .int) hx hb hts hlay (q_tyf ci) (by rw [hnn]; exact (q_cls_t ci hc6).1) (by rw [hnn]; exact (q_cls_t ci hc6).2) hown hK hP (q_wl_D hok hA) hS q0 hcell hcl j (by rw [hnn]; exact hjn) hlink (fun _ z => z) hft.2 (by rw [(q_cls_t ci hc6).1 j hjn, hft.1]) rfl rfl (by rw [List.length_map, List.length_range]; exact hjn) (hd _ _ p0) (fun H1 locs1 hP1 _ hS1 => ?_)
  exact k0 H1 locs1 LS (by rw [← hset]; exact hP1) hS1 hl
theorem q_s_putL (C : q_Ctx p R s m args c cc tab oc nL sc cells slots ad CA D A0) : q_c_putL tab oc (q_X p l e R s m args below meth c nL cells slots QQ ad CA D A0) := by
  obtain ⟨hx, hb, hml, hown, hts, hK, hd, hok, hA, hsc, hnw, hR1, hR2, hR3, hR4⟩ := C
  intro pc ls st h f k i ci j v p0 p1 p2 p3 p4 k0 H locs LS hP hS hl
  obtain ⟨q0, hq0⟩ := q_place p1
  have hm := q_look_mem _ _ _ _ p3
  obtain ⟨hc6, hjn⟩ := q_flds_n _ hm
  obtain ⟨hcl, hnn⟩ := q_cls_n ci hc6
  have hlink : (Cond.fieldLink (q_cN oc) f ((q_cls ci).2.1 j).1 ((q_cls ci).2.1 j).2.1 ((q_cls ci).2.1 j).2.2.1).before args s = true := hts _ (q_in_gw _ q_flds_w q_flds_g _ (List.mem_map.mpr ⟨_, hm, rfl⟩))
  have hlay : ∀ w ∈ u_ws (q_cls ci).1 (q_cls ci).2.1 (q_cls ci).2.2, w ∈ q_gw := fun w hw => q_in_gw _ q_lay_w q_lay_g _ (List.mem_flatMap.mpr ⟨ci, List.mem_range.mpr hc6, hw⟩)
  have hcell : (q_wl ad CA h)[q0]? = some (ad k i, .inr (ci, (List.range (q_nf ci)).map (q_fv ad h k i ci))) := by rw [q_wl_at hq0, q_E_obj p2]
  have hft := (q_cls_f ci hc6 j hjn).2 p4
  have hset : (q_wl ad CA h).set q0 (ad k i, .inr (ci, ((List.range (q_nf ci)).map (q_fv ad h k i ci)).set j (.long v))) = q_wl ad CA (q_sL h k i j v) := by
    refine q_wl_set hq0 ?_ (fun k1 i1 hn => q_sL_ne k1 i1 hn)
    rw [q_E_obj p2]
    congr 2
    refine (q_fs_set ?_ (fun x hx => ?_)).symm
    · unfold q_fv
      rw [p4]
      simp [q_sL]
    · unfold q_fv
      simp [q_sL, hx]
  refine va_put (ty := .long) hx hb hts hlay (q_tyf ci) (by rw [hnn]; exact (q_cls_t ci hc6).1) (by rw [hnn]; exact (q_cls_t ci hc6).2) hown hK hP (q_wl_D hok hA) hS q0 hcell hcl j (by rw [hnn]; exact hjn) hlink (fun _ z => z) hft.2 (by rw [(q_cls_t ci hc6).1 j hjn, hft.1]) rfl rfl (by rw [List.length_map, List.length_range]; exact hjn) (hd _ _ p0) (fun H1 locs1 hP1 _ hS1 => ?_)
  exact k0 H1 locs1 LS (by rw [← hset]; exact hP1) hS1 hl
theorem q_s_iaload (C : q_Ctx p R s m args c cc tab oc nL sc cells slots ad CA D A0) : q_c_iaload tab (q_X p l e R s m args below meth c nL cells slots QQ ad CA D A0) := by
  obtain ⟨hx, hb, hml, hown, hts, hK, hd, hok, hA, hsc, hnw, hR1, hR2, hR3, hR4⟩ := C
  intro pc ls st h k i x p0 p1 p2 p3 p4 k0 H locs LS hP hS hl
  obtain ⟨q0, hq0⟩ := q_place p1
  have hcell := q_wl_at (ad := ad) (CA := CA) (h := h) hq0
  rw [q_E_1 p2 p3] at hcell
  exact va_iald hx hb hK hP q0 0 hcell rfl p4 (hd _ _ p0) (k0 H locs LS hP hS hl)
theorem q_s_zaload (C : q_Ctx p R s m args c cc tab oc nL sc cells slots ad CA D A0) : q_c_zaload tab (q_X p l e R s m args below meth c nL cells slots QQ ad CA D A0) := by
  obtain ⟨hx, hb, hml, hown, hts, hK, hd, hok, hA, hsc, hnw, hR1, hR2, hR3, hR4⟩ := C
  intro pc ls st h k i x p0 p1 p2 p3 p4 k0 H locs LS hP hS hl
  obtain ⟨q0, hq0⟩ := q_place p1
  have hcell := q_wl_at (ad := ad) (CA := CA) (h := h) hq0
  rw [q_E_3 p2 p3] at hcell
  exact va_zald hx hb hK hP q0 2 hcell rfl p4 (hd _ _ p0) (k0 H locs LS hP hS hl)
theorem q_s_laload (C : q_Ctx p R s m args c cc tab oc nL sc cells slots ad CA D A0) : q_c_laload tab (q_X p l e R s m args below meth c nL cells slots QQ ad CA D A0) := by
  obtain ⟨hx, hb, hml, hown, hts, hK, hd, hok, hA, hsc, hnw, hR1, hR2, hR3, hR4⟩ := C
  intro pc ls st h k i x p0 p1 p2 p3 p4 k0 H locs LS hP hS hl
  obtain ⟨q0, hq0⟩ := q_place p1
  have hcell := q_wl_at (ad := ad) (CA := CA) (h := h) hq0
  rw [q_E_2 p2 p3] at hcell
  exact va_lald hx hb hK hP q0 1 hcell rfl p4 (hd _ _ p0) (k0 H locs LS hP hS hl)
theorem q_s_aaload (C : q_Ctx p R s m args c cc tab oc nL sc cells slots ad CA D A0) : q_c_aaload tab (q_X p l e R s m args below meth c nL cells slots QQ ad CA D A0) := by
  obtain ⟨hx, hb, hml, hown, hts, hK, hd, hok, hA, hsc, hnw, hR1, hR2, hR3, hR4⟩ := C
  intro pc ls st h k i x p0 p1 p2 p3 p4 k0 H locs LS hP hS hl
  obtain ⟨q0, hq0⟩ := q_place p1
  have hcell := q_wl_at (ad := ad) (CA := CA) (h := h) hq0
  rw [q_E_4 p2 p3] at hcell
  exact va_aldq hx hb hK hP q0 3 hcell rfl p4 (hd _ _ p0) (k0 H locs LS hP hS hl)
theorem q_s_iastore (C : q_Ctx p R s m args c cc tab oc nL sc cells slots ad CA D A0) : q_c_iastore tab (q_X p l e R s m args below meth c nL cells slots QQ ad CA D A0) := by
  obtain ⟨hx, hb, hml, hown, hts, hK, hd, hok, hA, hsc, hnw, hR1, hR2, hR3, hR4⟩ := C
  intro pc ls st h k i x v p0 p1 p2 p3 p4 k0 H locs LS hP hS hl
  obtain ⟨q0, hq0⟩ := q_place p1
  have hset : (q_wl ad CA h).set q0 (ad k i, .inl (CA 0, q_len k i, .inl (upd (h.1 k i) x.toNatClampNeg v))) = q_wl ad CA (q_sI h k i x.toNatClampNeg v) := by
    refine q_wl_set hq0 ?_ (fun k1 i1 hn => q_sI_ne k1 i1 hn)
    rw [q_E_1 p2 p3, q_sI_at]
  have hcell := q_wl_at (ad := ad) (CA := CA) (h := h) hq0
  rw [q_E_1 p2 p3] at hcell
  refine va_iast hx hb hK hP (q_wl_D hok hA) hS q0 0 hcell rfl p4 (hd _ _ p0) (fun H1 locs1 hP1 _ hS1 => ?_)
  exact k0 H1 locs1 LS (by rw [← hset]; exact hP1) hS1 hl
theorem q_s_zastore (C : q_Ctx p R s m args c cc tab oc nL sc cells slots ad CA D A0) : q_c_zastore tab (q_X p l e R s m args below meth c nL cells slots QQ ad CA D A0) := by
  obtain ⟨hx, hb, hml, hown, hts, hK, hd, hok, hA, hsc, hnw, hR1, hR2, hR3, hR4⟩ := C
  intro pc ls st h k i x v p0 p1 p2 p3 p4 p5 k0 H locs LS hP hS hl
  obtain ⟨q0, hq0⟩ := q_place p1
  have hv : vp_nar .boolean v = v := by rcases p5 with rfl | rfl <;> rfl
  have hset : (q_wl ad CA h).set q0 (ad k i, .inl (CA 2, q_len k i, .inl (upd (h.1 k i) x.toNatClampNeg (vp_nar .boolean v)))) = q_wl ad CA (q_sI h k i x.toNatClampNeg v) := by
    refine q_wl_set hq0 ?_ (fun k1 i1 hn => q_sI_ne k1 i1 hn)
    rw [q_E_3 p2 p3, q_sI_at, hv]
  have hcell := q_wl_at (ad := ad) (CA := CA) (h := h) hq0
  rw [q_E_3 p2 p3] at hcell
  refine va_zast hx hb hK hP (q_wl_D hok hA) hS q0 2 hcell rfl p4 (hd _ _ p0) (fun H1 locs1 hP1 _ hS1 => ?_)
  exact k0 H1 locs1 LS (by rw [← hset]; exact hP1) hS1 hl
theorem q_s_lastore (C : q_Ctx p R s m args c cc tab oc nL sc cells slots ad CA D A0) : q_c_lastore tab (q_X p l e R s m args below meth c nL cells slots QQ ad CA D A0) := by
  obtain ⟨hx, hb, hml, hown, hts, hK, hd, hok, hA, hsc, hnw, hR1, hR2, hR3, hR4⟩ := C
  intro pc ls st h k i x v p0 p1 p2 p3 p4 k0 H locs LS hP hS hl
  obtain ⟨q0, hq0⟩ := q_place p1
  have hset : (q_wl ad CA h).set q0 (ad k i, .inl (CA 1, q_len k i, .inr (.inl (vp_updL (h.2 k i) x.toNatClampNeg v)))) = q_wl ad CA (q_sL h k i x.toNatClampNeg v) := by
    refine q_wl_set hq0 ?_ (fun k1 i1 hn => q_sL_ne k1 i1 hn)
    rw [q_E_2 p2 p3, q_sL_at]
  have hcell := q_wl_at (ad := ad) (CA := CA) (h := h) hq0
  rw [q_E_2 p2 p3] at hcell
  refine va_last hx hb hK hP (q_wl_D hok hA) hS q0 1 hcell rfl p4 (hd _ _ p0) (fun H1 locs1 hP1 _ hS1 => ?_)
  exact k0 H1 locs1 LS (by rw [← hset]; exact hP1) hS1 hl
theorem q_s_alen (C : q_Ctx p R s m args c cc tab oc nL sc cells slots ad CA D A0) : q_c_alen tab (q_X p l e R s m args below meth c nL cells slots QQ ad CA D A0) := by
  obtain ⟨hx, hb, hml, hown, hts, hK, hd, hok, hA, hsc, hnw, hR1, hR2, hR3, hR4⟩ := C
  intro pc ls st h k i p0 p1 p2 p3 p4 k0 H locs LS hP hS hl
  obtain ⟨q0, hq0⟩ := q_place p1
  have hat : q_at k = 1 ∨ q_at k = 2 ∨ q_at k = 3 ∨ q_at k = 4 := by omega
  rcases hat with ha | ha | ha | ha
  · have hcell := q_wl_at (ad := ad) (CA := CA) (h := h) hq0
    rw [q_E_1 p2 ha] at hcell
    exact va_alen hx hb hK hP q0 0 hcell rfl rfl (hd _ _ p0) (k0 H locs LS hP hS hl)
  · have hcell := q_wl_at (ad := ad) (CA := CA) (h := h) hq0
    rw [q_E_2 p2 ha] at hcell
    exact va_alen hx hb hK hP q0 1 hcell rfl rfl (hd _ _ p0) (k0 H locs LS hP hS hl)
  · have hcell := q_wl_at (ad := ad) (CA := CA) (h := h) hq0
    rw [q_E_3 p2 ha] at hcell
    exact va_alen hx hb hK hP q0 2 hcell rfl rfl (hd _ _ p0) (k0 H locs LS hP hS hl)
  · have hcell := q_wl_at (ad := ad) (CA := CA) (h := h) hq0
    rw [q_E_4 p2 ha] at hcell
    exact va_alen hx hb hK hP q0 3 hcell rfl rfl (hd _ _ p0) (k0 H locs LS hP hS hl)
theorem q_s_sld (C : q_Ctx p R s m args c cc tab oc nL sc cells slots ad CA D A0) : q_c_sld tab sc (q_X p l e R s m args below meth c nL cells slots QQ ad CA D A0) := by
  obtain ⟨hx, hb, hml, hown, hts, hK, hd, hok, hA, hsc, hnw, hR1, hR2, hR3, hR4⟩ := C
  intro pc ls st h L xs x p0 p1 p2 k0 H locs LS hP hS hl
  obtain ⟨hX, hbl, hbA⟩ := hsc L xs p1
  exact va_sld hx hb hX hbl hbA hS p2 (hd _ _ p0) (k0 H locs LS hP hS hl)
theorem q_s_slen (C : q_Ctx p R s m args c cc tab oc nL sc cells slots ad CA D A0) : q_c_slen tab sc (q_X p l e R s m args below meth c nL cells slots QQ ad CA D A0) := by
  obtain ⟨hx, hb, hml, hown, hts, hK, hd, hok, hA, hsc, hnw, hR1, hR2, hR3, hR4⟩ := C
  intro pc ls st h L xs p0 p1 k0 H locs LS hP hS hl
  obtain ⟨hX, hbl, hbA⟩ := hsc L xs p1
  exact va_slen hx hb hX hbl hbA hS (hd _ _ p0) (k0 H locs LS hP hS hl)
theorem q_s_mmax (C : q_Ctx p R s m args c cc tab oc nL sc cells slots ad CA D A0) : q_c_mmax tab oc (q_X p l e R s m args below meth c nL cells slots QQ ad CA D A0) := by
  obtain ⟨hx, hb, hml, hown, hts, hK, hd, hok, hA, hsc, hnw, hR1, hR2, hR3, hR4⟩ := C
  intro pc ls st h f x y p0 p1 p2 k0 H locs LS hP hS hl
  have hm := q_look_mem _ _ _ _ p1
  have hw : ∀ w ∈ q_mmW ((oc, f), 0), w.before args s = true := fun w hw => hts w (q_in_gw _ q_mms_w q_mms_g _ (List.mem_flatMap.mpr ⟨_, hm, hw⟩))
  have hcd := hts _ (q_in_gw _ q_mmc_w q_mmc_g _ (List.mem_of_getElem? (i := 0) rfl))
  exact va_mmax hx hb (hml.trans hl.1.symm) hown (hw _ (List.mem_of_getElem? (i := 0) rfl)) (hw _ (List.mem_of_getElem? (i := 1) rfl)) (hw _ (List.mem_of_getElem? (i := 2) rfl)) hcd hR1 (by rw [q_size_cat]; omega) hR3 hR4 (hd _ _ p0) (k0 H locs LS hP hS hl)
theorem q_s_mmin (C : q_Ctx p R s m args c cc tab oc nL sc cells slots ad CA D A0) : q_c_mmin tab oc (q_X p l e R s m args below meth c nL cells slots QQ ad CA D A0) := by
  obtain ⟨hx, hb, hml, hown, hts, hK, hd, hok, hA, hsc, hnw, hR1, hR2, hR3, hR4⟩ := C
  intro pc ls st h f x y p0 p1 p2 k0 H locs LS hP hS hl
  have hm := q_look_mem _ _ _ _ p1
  have hw : ∀ w ∈ q_mmW ((oc, f), 1), w.before args s = true := fun w hw => hts w (q_in_gw _ q_mms_w q_mms_g _ (List.mem_flatMap.mpr ⟨_, hm, hw⟩))
  have hcd := hts _ (q_in_gw _ q_mmc_w q_mmc_g _ (List.mem_of_getElem? (i := 1) rfl))
  exact va_mmin hx hb (hml.trans hl.1.symm) hown (hw _ (List.mem_of_getElem? (i := 0) rfl)) (hw _ (List.mem_of_getElem? (i := 1) rfl)) (hw _ (List.mem_of_getElem? (i := 2) rfl)) hcd hR1 (by rw [q_size_cat]; omega) hR3 hR4 (hd _ _ p0) (k0 H locs LS hP hS hl)
theorem q_s_sub (C : q_Ctx p R s m args c cc tab oc nL sc cells slots ad CA D A0) : q_c_sub (q_X p l e R s m args below meth c nL cells slots QQ ad CA D A0) := by
  obtain ⟨hx, hb, hml, hown, hts, hK, hd, hok, hA, hsc, hnw, hR1, hR2, hR3, hR4⟩ := C
  intro pc ls ls1 st h ks p0 k0 H locs LS hP hS hl
  refine k0 H locs LS hP hS ⟨hl.1, hl.2.1, fun q hq => hl.2.2 q ?_⟩
  obtain ⟨x, hx1, rfl⟩ := List.mem_map.mp hq
  rw [← p0] at hx1
  obtain ⟨n, -, hn⟩ := List.mem_filterMap.mp hx1
  exact List.mem_map.mpr ⟨x, List.mem_of_getElem? hn, rfl⟩
theorem q_sA (C : q_Ctx p R s m args c cc tab oc nL sc cells slots ad CA D A0) : q_cloA tab oc nL sc (q_X p l e R s m args below meth c nL cells slots QQ ad CA D A0) := ⟨q_s_iconst C, q_s_bipush C, q_s_sipush C, q_s_lconst C, q_s_ldc C, q_s_ldc2 C, q_s_iload_n C, q_s_iload C, q_s_lload_n C, q_s_lload C, q_s_aload_n C, q_s_istore_n C, q_s_istore C, q_s_lstore_n C, q_s_lstore C, q_s_iinc C, q_s_iadd C, q_s_isub C, q_s_imul C, q_s_iand C, q_s_ior C, q_s_ixor C, q_s_ishl C, q_s_ishr C, q_s_idiv C, q_s_iushr C, q_s_ladd C, q_s_lsub C, q_s_land C, q_s_lor C, q_s_lxor C, q_s_lshl C, q_s_lushr C, q_s_lcmp C, q_s_l2i C, q_s_dup C, q_s_dup2_11 C, q_s_if_ne C, q_s_icmp_ne C, q_s_if_eq C, q_s_if_lt C, q_s_if_ge C, q_s_if_gt C, q_s_if_le C, q_s_icmp_eq C, q_s_icmp_lt C, q_s_icmp_ge C, q_s_icmp_gt C, q_s_icmp_le C, q_s_goto C, q_s_tsOut C, q_s_tsIn C, q_s_getI C, q_s_getL C, q_s_getR C, q_s_putI C, q_s_putL C, q_s_iaload C, q_s_zaload C, q_s_laload C, q_s_aaload C, q_s_iastore C, q_s_zastore C, q_s_lastore C, q_s_alen C, q_s_sld C, q_s_slen C, q_s_mmax C, q_s_mmin C, q_s_sub C⟩
end QS
/-! ===== calls, ends, and the whole ===== -/
def q_mW (mi : Nat) : List Cond := q_code mi :: q_gw
def q_room (d : Nat) : Room := { frames := d, cells := 0, slots := 0, locals := 40 * d }
def q_B (ad : Nat → Nat → Nat) (CA : Nat → ClassId) (D : va_G) (u : q_H) (t : State) : Prop := va_P D q_classes (q_wl ad CA u) t.heap
def q_Pc (ad : Nat → Nat → Nat) (CA : Nat → ClassId) (D : va_G) (as : List q_V) (h : q_H) : Array Value → State → Prop := va_Pc (as.map (q_v ad)) (fun U => va_P D q_classes (q_wl ad CA h) U.heap ∧ va_K D q_classes (q_tys CA) U ∧ ∀ w ∈ q_nest, va_Nw w U)
def q_Qc (ad : Nat → Nat → Nat) (CA : Nat → ClassId) (D : va_G) (rt : Nat) (Q : Option q_V → q_H → Prop) : Array Value → State → Outcome → State → Prop := match rt with
  | 0 => va_Qv (fun u : q_H => Q none u) (q_B ad CA D) (q_A ad)
  | 2 => va_Ql (fun (r : Int64) (u : q_H) => Q (some (q_l r)) u) (q_B ad CA D) (q_A ad)
  | _ => va_Qi (fun (r : Int32) (u : q_H) => Q (some (q_i r)) u) (q_B ad CA D) (q_A ad)
theorem q_blind (ad : Nat → Nat → Nat) (CA : Nat → ClassId) (D : va_G) (as : List q_V) (h : q_H) : FrameBlind (q_Pc ad CA D as h) := by
  intro a U g mk q
  obtain ⟨e, hP, hK, hN⟩ := q
  exact ⟨e, hP, va_K.moved (u := U) (U := U.calling g mk a) (Vm.Alike.refl U.vm) hK, fun w hw => va_tabs (q_nest_t w hw) (u := U) rfl (hN w hw)⟩
theorem q_good {mi : Nat} (h : mi < q_NM) : GoodIn q_gw (q_mW mi) := by
  intro w hw
  rcases List.mem_cons.mp hw with rfl | hw
  · exact ⟨q_code_in h, Or.inl rfl⟩
  · exact ⟨hw, good_of_word (List.mem_filter.mp hw).2⟩
theorem q_goodL {ws : List Cond} (h : ∀ w ∈ ws, w ∈ q_gw) : GoodIn q_gw ws := fun w hw => ⟨h w hw, good_of_word (List.mem_filter.mp (h w hw)).2⟩
theorem q_goodA {a b : List Cond} (ha : GoodIn q_gw a) (hb : GoodIn q_gw b) : GoodIn q_gw (a ++ b) := fun w h => (List.mem_append.mp h).elim (ha w) (hb w)
theorem q_den_lt {d mi : Nat} {as : List q_V} {h : q_H} {Q : Option q_V → q_H → Prop} (k : q_den d mi as h Q) : mi < q_NM := by
  cases d with
  | zero => exact k.elim
  | succ d => exact k.1
def q_Mets (l : Launch) (ad : Nat → Nat → Nat) (CA : Nat → ClassId) (D : va_G) (d : Nat) : Prop := ∀ (mi : Nat) (as : List q_V) (h : q_H) (Q : Option q_V → q_H → Prop), q_den d mi as h Q → Met l (q_mY mi) (q_mW mi) (q_room d) (q_Pc ad CA D as h) (q_Qc ad CA D (q_mR mi) Q) 0 0 (q_A ad)
section QT
variable {p : Program} {l : Launch} {e : Env} {R : Room} {s : State} {m : MethodId} {args : Array Value} {below : List Frame} {meth : Method} {c : Code} {cc : ByteArray} {tab : Nat → Option (Instr × Nat)} {oc nL : Nat} {sc : Option (Nat × (Nat → Int32))} {cells slots : Nat} {QQ : State → Prop} {ad : Nat → Nat → Nat} {CA : Nat → ClassId} {D : va_G} {A0 : Nat → Prop}
theorem q_pre (C : q_Ctx p R s m args c cc tab oc nL sc cells slots ad CA D A0) {h : q_H} {H : Heap} (as : List q_V) (hP : va_P D q_classes (q_wl ad CA h) H) : ∀ U : State, U.heap = H → s.WarmedH U.vm → q_Pc ad CA D as h (as.map (q_v ad)).toArray U := by
  obtain ⟨hx, hb, hml, hown, hts, hK, hd, hok, hA, hsc, hnw, hR1, hR2, hR3, hR4⟩ := C
  intro U hU hW
  refine ⟨rfl, by rw [hU]; exact hP, va_K.moved hW.alike hK, fun w hw => ?_⟩
  obtain ⟨a, i, x, b, rfl⟩ := q_nest_f w hw
  exact va_Nw.warmM hW (hnw _ hw)
theorem q_after (C : q_Ctx p R s m args c cc tab oc nL sc cells slots ad CA D A0) {mi pc : Nat} {ls : List (Nat × q_V)} {rest : List q_V} {H : Heap} {locs : List Loc} {LS : Array Slot} {st0 : List Value} {a : Array Value} (hmi : mi < q_NM)
    (hr : va_Run p l e R s m args below meth c H locs cells slots 0 0 (F0 m pc LS st0) (rest.map (q_v ad)) (q_Qc ad CA D (q_mR mi) (fun r h1 => q_X p l e R s m args below meth c nL cells slots QQ ad CA D A0 (pc + 3) ls (r.toList ++ rest) h1) a) (q_A ad)) (hS : va_S A0 s.heap H locs) (hl : lv_has LS nL (q_ls ad ls)) :
    W p l e R s m args below meth c H locs cells slots QQ (F0 m pc LS st0) := by
  obtain ⟨hx, hb, hml, hown, hts, hK, hd, hok, hA, hsc, hnw, hR1, hR2, hR3, hR4⟩ := C
  have h3 := (q_mT_n mi hmi).2.2.2.2
  unfold q_Qc at hr
  generalize q_mR mi = rt at hr h3
  match rt, h3, hr with
  | 0, _, hr => exact va_callv hr hS (fun q _ h => hA q h) hA (fun u t H1 locs1 ht hvm hpost hB hz hk hS1 => hpost H1 locs1 LS (by rw [← ht]; exact hB) hS1 hl)
  | 1, _, hr => exact va_calli hr hS (fun q _ h => hA q h) hA (fun r u t H1 locs1 ht hvm hpost hB hz hk hS1 => hpost H1 locs1 LS (by rw [← ht]; exact hB) hS1 hl)
  | 2, _, hr => exact va_calll hr hS (fun q _ h => hA q h) hA (fun r u t H1 locs1 ht hvm hpost hB hz hk hS1 => hpost H1 locs1 LS (by rw [← ht]; exact hB) hS1 hl)
  | 3, _, hr => exact va_calli hr hS (fun q _ h => hA q h) hA (fun r u t H1 locs1 ht hvm hpost hB hz hk hS1 => hpost H1 locs1 LS (by rw [← ht]; exact hB) hS1 hl)
  | n + 4, h3, _ => omega
theorem q_sC (C : q_Ctx p R s m args c cc tab oc nL sc cells slots ad CA D A0) {d : Nat} (hM : q_Mets l ad CA D d) (hR : d + 1 ≤ R.frames ∧ 38 + 40 * d ≤ R.locals) : q_cloC tab oc (q_den d) (q_X p l e R s m args below meth c nL cells slots QQ ad CA D A0) := by
  have C0 := C
  obtain ⟨hx, hb, hml, hown, hts, hK, hd, hok, hA, hsc, hnw, hR1, hR2, hR3, hR4⟩ := C
  refine ⟨?_, ?_⟩
  · intro pc ls st h f mi k i As rest p0 p1 p2 p3 p4 p5 p6 kk H locs LS hP hS hl
    have hmi := q_den_lt kk
    have hm := q_look_mem _ _ _ _ p1
    obtain ⟨q0, hq0⟩ := q_place p3
    obtain ⟨n1, n2, n3, n4, n5⟩ := q_mY_n mi hmi
    have hc6 : q_mO mi < 6 := q_kc_lt k (q_cnt_lt p3) _ p4
    obtain ⟨hcl, hnn⟩ := q_cls_n _ hc6
    have hcell : (q_wl ad CA h)[q0]? = some (ad k i, .inr (q_mO mi, (List.range (q_nf (q_mO mi))).map (q_fv ad h k i (q_mO mi)))) := by rw [q_wl_at hq0, q_E_obj p4]
    have hgw : ∀ w ∈ q_mthW ((oc, f), (mi, 0)), w ∈ q_gw := fun w hw => q_in_gw _ q_mths_w q_mths_g _ (List.mem_flatMap.mpr ⟨_, hm, hw⟩)
    have hG : GoodIn q_gw (wsV (q_cN oc) f (q_mY mi).cls (q_mY mi) (q_mW mi)) := q_goodA (q_goodL hgw) (q_good hmi)
    have hrecv : ∃ cellB : Cell, H[ad k i]? = some cellB ∧ cellB.vm.isStatics = false ∧ s.vm.findClass (q_mY mi).cls = some cellB.cls := by
      rw [q_mO_n mi hmi _ hc6 rfl]
      exact va_recv hK hP hcl hcell
    refine q_after C0 (mi := mi) hmi (rest := rest) (va_runV (C := (q_mY mi).cls) (n := q_mA mi) (As := As.map (q_v ad)) (b := ad k i) ⟨hx, hb, hml, hown, hts⟩ (hM mi (q_r k i :: As) h _ kk) (cwV (q_mA mi) hts hG rfl rfl rfl ⟨rfl, n3.1, n3.2, n4⟩ ⟨hR.1, ?_⟩) ⟨q_blind ad CA D _ h, hrecv, q_pre C0 (q_r k i :: As) hP⟩ rfl (by rw [List.length_map]; exact p5) hl.1 ?_ (lv_room (by rw [q_size_cat]; exact p6)) (hd _ _ p0) ⟨hR3, hR4⟩) hS hl
    · show 8 + (q_mL mi + 11) + 40 * d ≤ R.locals
      have := hR.2
      omega
    · show st.map (q_v ad) = _
      rw [p2, List.map_append, List.map_reverse]
      rfl
  · intro pc ls st h f mi kd As rest p0 p1 p2 p5 p6 kk H locs LS hP hS hl
    have hmi := q_den_lt kk
    have hm := q_look_mem _ _ _ _ p1
    obtain ⟨n1, n2, n3, n4, n5⟩ := q_mY_n mi hmi
    have hgw : ∀ w ∈ q_mthW ((oc, f), (mi, kd + 1)), w ∈ q_gw := fun w hw => q_in_gw _ q_mths_w q_mths_g _ (List.mem_flatMap.mpr ⟨_, hm, hw⟩)
    have hrl : 8 + (q_mL mi + 11) + 40 * d ≤ R.locals := by
      have := hR.2
      omega
    have hst : st.map (q_v ad) = (As.map (q_v ad)).reverse ++ rest.map (q_v ad) := by
      rw [p2, List.map_append, List.map_reverse]
    have hkd : kd = 0 ∨ kd = 1 := by
      have := (q_mths_n _ hm).2
      simp only at this
      omega
    rcases hkd with rfl | rfl
    · have hG : GoodIn q_gw (va_wsS (q_cN oc) f (q_mY mi) (q_mW mi)) := q_goodA (q_goodL hgw) (q_good hmi)
      exact q_after C0 (mi := mi) hmi (rest := rest) (va_runS (n := q_mA mi) (As := As.map (q_v ad)) ⟨hx, hb, hml, hown, hts⟩ (hM mi As h _ kk) (va_cwS (q_mA mi) hts hG rfl rfl rfl ⟨n3.1, n3.2, n4⟩ ⟨hR.1, hrl⟩) ⟨q_blind ad CA D _ h, q_pre C0 As hP⟩ rfl (by rw [List.length_map]; exact p5) hl.1 hst (lv_room (by rw [q_size_cat]; exact p6)) (hd _ _ p0) ⟨hR3, hR4⟩) hS hl
    · have hnl := hnw _ (q_nest_m _ hm rfl)
      have hst1 := hts _ (hgw _ (List.mem_of_getElem? (i := 0) rfl))
      have hin1 := hts _ (hgw _ (List.mem_of_getElem? (i := 1) rfl))
      exact q_after C0 (mi := mi) hmi (rest := rest) (va_runSN (n := q_mA mi) (As := As.map (q_v ad)) ⟨hx, hb, hml, hown, hts⟩ (hM mi As h _ kk) ⟨va_cnB (q_mA mi) hts (q_good hmi) rfl rfl rfl hnl hin1 ⟨n3.1, n3.2, n4⟩ ⟨hR.1, hrl⟩, hst1, trivial⟩ ⟨q_blind ad CA D _ h, q_pre C0 As hP⟩ rfl (by rw [List.length_map]; exact p5) hl.1 hst (lv_room (by rw [q_size_cat]; exact p6)) (hd _ _ p0) ⟨hR3, hR4⟩) hS hl
theorem q_sR (C : q_Ctx p R s m args c cc tab oc nL sc 0 0 ad CA D (q_A ad)) {mi : Nat} {Q : Option q_V → q_H → Prop} (hmi : mi < q_NM) (hr : meth.sig.returnType = q_mT mi) (hlocks : meth.locks = false) :
    q_cloR tab (q_mR mi) Q (q_X p l e R s m args below meth c nL 0 0 (MQ below (q_Qc ad CA D (q_mR mi) Q) args s 0 0 (q_A ad)) ad CA D (q_A ad)) := by
  obtain ⟨hx, hb, hml, hown, hts, hK, hd, hok, hA, hsc, hnw, hR1, hR2, hR3, hR4⟩ := C
  obtain ⟨t0, t1, t2, t3, -⟩ := q_mT_n mi hmi
  refine ⟨?_, ?_, ?_, ?_⟩
  · intro pc ls h p0 p1 kk H locs LS hP hS hl
    rw [t0 p1] at hr
    rw [p1]
    exact W.vret (Qc := q_Qc ad CA D 0 Q) hx hb hr (fun t ht hW => ⟨⟨h, rfl, kk, by unfold q_B; rw [ht]; exact hP⟩, hS.F ht⟩) hS.2.2 (hd _ _ p0)
  · intro pc ls h v p0 p1 kk H locs LS hP hS hl
    rw [t1 p1] at hr
    rw [p1]
    exact W.zret (Qc := q_Qc ad CA D 1 Q) hx hb hr rfl (fun t ht hW => ⟨⟨v, h, rfl, kk, by unfold q_B; rw [ht]; exact hP⟩, hS.F ht⟩) hS.2.2 (hd _ _ p0)
  · intro pc ls h v p0 p1 kk H locs LS hP hS hl
    rw [t2 p1] at hr
    rw [p1]
    exact W.lret (Qc := q_Qc ad CA D 2 Q) hx hb hr (fun t ht hW => ⟨⟨v, h, rfl, kk, by unfold q_B; rw [ht]; exact hP⟩, hS.F ht⟩) hS.2.2 (hd _ _ p0)
  · intro pc ls h v p0 p1 pv kk H locs LS hP hS hl
    rw [t3 p1] at hr
    rw [p1]
    have hn : narrow .boolean (.int v) = .int v := by rcases pv with rfl | rfl <;> rfl
    exact W.zret (Qc := q_Qc ad CA D 3 Q) hx hb hr hn (fun t ht hW => ⟨⟨v, h, rfl, kk, by unfold q_B; rw [ht]; exact hP⟩, hS.F ht⟩) hS.2.2 (hd _ _ p0)
end QT
/-- every method keeps what its denotation says -/
theorem q_sim (l : Launch) (ad : Nat → Nat → Nat) (CA : Nat → ClassId) (D : va_G) (hok : q_ok ad) : ∀ d, q_Mets l ad CA D d := by
  intro d
  induction d with
  | zero => intro mi as h Q k; exact k.elim
  | succ d ih =>
    intro mi as h Q k
    obtain ⟨hmi, hsz, hrun⟩ := k
    obtain ⟨n1, n2, n3, n4, n5⟩ := q_mY_n mi hmi
    refine Met.ofW (cc := q_mC mi) (maxL := q_mL mi) (ret := q_mT mi) n2 rfl ?_
    intro p e s m args below meth c s₁ B hml hv
    obtain ⟨rfl, hP, hK, hN⟩ := hv
    have hts := atoms_spec (ws := q_mW mi) B.pre
    have hown : s.vm.findClass (q_mY mi).cls = some m.cls := findClass_of_methodNamed B.named
    have C : q_Ctx p (headSpec (q_mW mi) (q_room (d + 1))).room s m (as.map (q_v ad)).toArray c (q_mC mi) (q_tab mi) (q_mO mi) (q_mL mi) none 0 0 ad CA D (q_A ad) :=
      ⟨B.exec, B.bytes, hml, by rw [← n1]; exact hown, fun w hw => hts w (List.mem_cons_of_mem _ hw), hK, q_tab_ok mi, hok, fun _ h => h, fun L xs h => (by cases h), hN, by show 1 ≤ d + 1; omega, by show 21 ≤ 40 * (d + 1); omega, Nat.le_refl 0, Nat.le_refl 0⟩
    have hl := lv_entry (as.map (q_v ad)) (n := q_mL mi) (by rw [q_size_sl]; exact hsz)
    rw [lg_entry_eq]
    rw [q_args_ls] at hl
    exact hrun (q_X p l e _ s m _ below meth c (q_mL mi) 0 0 (MQ below (q_Qc ad CA D (q_mR mi) Q) (as.map (q_v ad)).toArray s 0 0 (q_A ad)) ad CA D (q_A ad)) (q_sA C) (q_sC C ih ⟨Nat.le_refl _, by show 38 + 40 * d ≤ 40 * (d + 1); omega⟩) (q_sR C hmi B.returns B.notSynchronized) s.heap [] _ hP va_S.rf hl
end
section
/-! ===== what the machine does to each method, as a weakest precondition (printed by a program) ===== -/
def q_ri (Q : Int32 → q_H → Prop) : Option q_V → q_H → Prop := fun r g => ∃ x, r = some (q_i x) ∧ Q x g
def q_rl (Q : Int64 → q_H → Prop) : Option q_V → q_H → Prop := fun r g => ∃ x, r = some (q_l x) ∧ Q x g
def q_rv (Q : q_H → Prop) : Option q_V → q_H → Prop := fun r g => r = none ∧ Q g
theorem q_vin {x : Int32} {n : Nat} (h : vp_in x n) : x.toNatClampNeg < n := Nat.not_le.mp fun q => h (Or.inr q)
theorem q_vp {x : Int32} {n : Nat} (h : ¬ (x < 0 ∨ n ≤ x.toNatClampNeg)) : vp_in x n := h
section QCC
variable {tab : Nat → Option (Instr × Nat)} {oc nL : Nat} {sc : Option (Nat × (Nat → Int32))} {d : Nat} {rt : Nat} {Q : Option q_V → q_H → Prop} {pc : Nat} {ls : List (Nat × q_V)} {st : List q_V} {h : q_H} {k i j : Nat} {x : Int32}
theorem q_iaload_c (p0 : tab pc = some (.iaload, 1)) (p1 : i < q_cnt k) (p2 : q_kc k = none) (p3 : q_at k = 1) (p4 : vp_in x (q_len k i)) (p5 : x.toNatClampNeg = j) (k0 : q_run tab oc nL sc (q_den d) rt Q (pc + 1) ls (q_i (h.1 k i j) :: st) h) : q_run tab oc nL sc (q_den d) rt Q pc ls (q_i x :: q_r k i :: st) h := q_iaload p0 p1 p2 p3 p4 (by rw [p5]; exact k0)
theorem q_zaload_c (p0 : tab pc = some (.baload, 1)) (p1 : i < q_cnt k) (p2 : q_kc k = none) (p3 : q_at k = 3) (p4 : vp_in x (q_len k i)) (p5 : x.toNatClampNeg = j) (k0 : q_run tab oc nL sc (q_den d) rt Q (pc + 1) ls (q_i (h.1 k i j) :: st) h) : q_run tab oc nL sc (q_den d) rt Q pc ls (q_i x :: q_r k i :: st) h := q_zaload p0 p1 p2 p3 p4 (by rw [p5]; exact k0)
theorem q_iastore_c {v : Int32} (p0 : tab pc = some (.iastore, 1)) (p1 : i < q_cnt k) (p2 : q_kc k = none) (p3 : q_at k = 1) (p4 : vp_in x (q_len k i)) (p5 : x.toNatClampNeg = j) (k0 : q_run tab oc nL sc (q_den d) rt Q (pc + 1) ls st (q_sI h k i j v)) : q_run tab oc nL sc (q_den d) rt Q pc ls (q_i v :: q_i x :: q_r k i :: st) h := q_iastore p0 p1 p2 p3 p4 (by rw [p5]; exact k0)
end QCC
def wp_X0_add (i : Nat) (a1 : Int32) (a2 : Int32) (a3 : Int32) (a4 : Int32) (h : q_H) (Q : Int32 → q_H → Prop) : Prop := (((Prod.fst h 8 i 4) < (Int32.ofNat (q_len 9 i)) → (vp_in (Prod.fst h 8 i 4) (q_len 9 i) ∧ (vp_in (Prod.fst h 8 i 4) (q_len 10 i) ∧ (vp_in (Prod.fst h 8 i 4) (q_len 11 i) ∧ (vp_in (Prod.fst h 8 i 4) (q_len 12 i) ∧ (Q ((Prod.fst (q_sI (q_sI (q_sI (q_sI (q_sI h 9 i (Int32.toNatClampNeg (Prod.fst h 8 i 4)) a1) 10 i (Int32.toNatClampNeg (Prod.fst h 8 i 4)) a2) 11 i (Int32.toNatClampNeg (Prod.fst h 8 i 4)) a3) 12 i (Int32.toNatClampNeg (Prod.fst h 8 i 4)) a4) 8 i 4 ((Prod.fst h 8 i 4) + 1)) 8 i 4) - 1) (q_sI (q_sI (q_sI (q_sI (q_sI h 9 i (Int32.toNatClampNeg (Prod.fst h 8 i 4)) a1) 10 i (Int32.toNatClampNeg (Prod.fst h 8 i 4)) a2) 11 i (Int32.toNatClampNeg (Prod.fst h 8 i 4)) a3) 12 i (Int32.toNatClampNeg (Prod.fst h 8 i 4)) a4) 8 i 4 ((Prod.fst h 8 i 4) + 1)))))))) ∧ (¬ ((Prod.fst h 8 i 4) < (Int32.ofNat (q_len 9 i))) → (Q (-1) h)))
def wp_X0_size (i : Nat) (h : q_H) (Q : Int32 → q_H → Prop) : Prop := (Q (Prod.fst h 8 i 4) h)
def wp_X0_has (i : Nat) (a1 : Int32) (h : q_H) (Q : Int32 → q_H → Prop) : Prop := ((a1 < 0 → (Q 0 h)) ∧ (¬ (a1 < 0) → (((Prod.fst h 8 i 4) ≤ a1 → (Q 0 h)) ∧ (¬ ((Prod.fst h 8 i 4) ≤ a1) → (Q 1 h)))))
def wp_X0_programOf (i : Nat) (a1 : Int32) (h : q_H) (Q : Int32 → q_H → Prop) : Prop := (vp_in a1 (q_len 9 i) ∧ (Q (Prod.fst h 9 i (Int32.toNatClampNeg a1)) h))
def wp_X0_partOf (i : Nat) (a1 : Int32) (h : q_H) (Q : Int32 → q_H → Prop) : Prop := (vp_in a1 (q_len 10 i) ∧ (Q (Prod.fst h 10 i (Int32.toNatClampNeg a1)) h))
def wp_X0_fromOf (i : Nat) (a1 : Int32) (h : q_H) (Q : Int32 → q_H → Prop) : Prop := (vp_in a1 (q_len 11 i) ∧ (Q (Prod.fst h 11 i (Int32.toNatClampNeg a1)) h))
def wp_X0_toOf (i : Nat) (a1 : Int32) (h : q_H) (Q : Int32 → q_H → Prop) : Prop := (vp_in a1 (q_len 12 i) ∧ (Q (Prod.fst h 12 i (Int32.toNatClampNeg a1)) h))
def wp_X4_ticksAhead (a0 : Int32) (h : q_H) (Q : Int64 → q_H → Prop) : Prop := ((a0 < 64 → (Q ((1 <<< (Int32.toInt64 a0 &&& 63)) - 1) h)) ∧ (¬ (a0 < 64) → (Q (-1) h)))
def wp_X0_ticksOf (i : Nat) (a1 : Int32) (h : q_H) (Q : Int64 → q_H → Prop) : Prop := (vp_in a1 (q_len 12 i) ∧ (wp_X4_ticksAhead ((Prod.fst h 12 i (Int32.toNatClampNeg a1))) h (fun (r3 : Int64) (g2 : q_H) => (vp_in a1 (q_len 11 i) ∧ (wp_X4_ticksAhead ((Prod.fst g2 11 i (Int32.toNatClampNeg a1))) g2 (fun (r6 : Int64) (g5 : q_H) => (Q (r3 &&& (r6 ^^^ (-1))) g5)))))))
def wp_X0_endAhead (i : Nat) (a1 : Int32) (a2 : Int32) (h : q_H) (Q : q_H → Prop) : Prop := (vp_in a1 (q_len 12 i) ∧ (Q (q_sI h 12 i (Int32.toNatClampNeg a1) a2)))
def lp_X0_firstEndWithNone_5 (i : Nat) (x1 : Int64) (E : Int32 → Int32 → q_H → Prop) : Nat → Int32 → Int32 → q_H → Prop
  | 0, _, _, _ => False
  | n + 1, x3, x4, h => (((Prod.fst h 8 i 4) ≤ x4 → (E (x3) (x4) h)) ∧ (¬ ((Prod.fst h 8 i 4) ≤ x4) → (wp_X0_ticksOf (i) (x4) h (fun (r2 : Int64) (g1 : q_H) => (((lg_cmp (r2 &&& x1) 0) = 0 → ((x3 = (-1) → (vp_in x4 (q_len 12 i) ∧ (lp_X0_firstEndWithNone_5 i x1 E n ((Prod.fst g1 12 i (Int32.toNatClampNeg x4))) ((x4 + 1)) g1))) ∧ (¬ (x3 = (-1)) → (vp_in x4 (q_len 12 i) ∧ ((x3 ≤ (Prod.fst g1 12 i (Int32.toNatClampNeg x4)) → (lp_X0_firstEndWithNone_5 i x1 E n (x3) ((x4 + 1)) g1)) ∧ (¬ (x3 ≤ (Prod.fst g1 12 i (Int32.toNatClampNeg x4))) → (vp_in x4 (q_len 12 i) ∧ (lp_X0_firstEndWithNone_5 i x1 E n ((Prod.fst g1 12 i (Int32.toNatClampNeg x4))) ((x4 + 1)) g1)))))))) ∧ (¬ ((lg_cmp (r2 &&& x1) 0) = 0) → (lp_X0_firstEndWithNone_5 i x1 E n (x3) ((x4 + 1)) g1)))))))
def wp_X0_firstEndWithNone (i : Nat) (a1 : Int64) (h : q_H) (Q : Int32 → q_H → Prop) : Prop := (∃ n6 : Nat, lp_X0_firstEndWithNone_5 i (a1) (fun (y3_6 : Int32) (y4_6 : Int32) (g6 : q_H) => (Q y3_6 g6)) n6 ((-1)) (0) h)
def wp_X1_setDrains (i : Nat) (a1 : Int32) (a2 : Int32) (a3 : Int32) (a4 : Int32) (h : q_H) (Q : q_H → Prop) : Prop := (Q (q_sI (q_sI (q_sI (q_sI h 3 i 0 a1) 3 i 1 a2) 3 i 2 a3) 3 i 3 a4))
def wp_X1_setCosts (i : Nat) (a1 : Int32) (a2 : Int32) (a3 : Int32) (h : q_H) (Q : q_H → Prop) : Prop := (Q (q_sI (q_sI (q_sI h 4 i 1 a1) 4 i 2 a2) 4 i 3 a3))
def wp_X1_setRising (i : Nat) (a1 : Int32) (a2 : Int32) (a3 : Int32) (h : q_H) (Q : q_H → Prop) : Prop := (Q (q_sI (q_sI (q_sI h 5 i 1 a1) 5 i 2 a2) 5 i 3 a3))
def wp_X1_setThresholds (i : Nat) (a1 : Int32) (a2 : Int32) (a3 : Int32) (h : q_H) (Q : q_H → Prop) : Prop := (Q (q_sI (q_sI (q_sI h 6 i 1 a1) 6 i 2 a2) 6 i 3 a3))
def wp_X1_drainIn (i : Nat) (a1 : Int32) (h : q_H) (Q : Int32 → q_H → Prop) : Prop := (vp_in a1 4 ∧ (Q (Prod.fst h 3 i (Int32.toNatClampNeg a1)) h))
def wp_J13_bitCount_95d88 (a0 : Int64) (h : q_H) (Q : Int32 → q_H → Prop) : Prop := (Q ((Int64.toInt32 ((((((((a0 - (((Int64.toUInt64 a0 >>> ((Int32.toInt64 1).toUInt64 &&& Int64.toUInt64 63)).toInt64) &&& 6148914691236517205)) &&& 3689348814741910323) + (((Int64.toUInt64 (a0 - (((Int64.toUInt64 a0 >>> ((Int32.toInt64 1).toUInt64 &&& Int64.toUInt64 63)).toInt64) &&& 6148914691236517205)) >>> ((Int32.toInt64 2).toUInt64 &&& Int64.toUInt64 63)).toInt64) &&& 3689348814741910323)) + ((Int64.toUInt64 (((a0 - (((Int64.toUInt64 a0 >>> ((Int32.toInt64 1).toUInt64 &&& Int64.toUInt64 63)).toInt64) &&& 6148914691236517205)) &&& 3689348814741910323) + (((Int64.toUInt64 (a0 - (((Int64.toUInt64 a0 >>> ((Int32.toInt64 1).toUInt64 &&& Int64.toUInt64 63)).toInt64) &&& 6148914691236517205)) >>> ((Int32.toInt64 2).toUInt64 &&& Int64.toUInt64 63)).toInt64) &&& 3689348814741910323)) >>> ((Int32.toInt64 4).toUInt64 &&& Int64.toUInt64 63)).toInt64)) &&& 1085102592571150095) + ((Int64.toUInt64 (((((a0 - (((Int64.toUInt64 a0 >>> ((Int32.toInt64 1).toUInt64 &&& Int64.toUInt64 63)).toInt64) &&& 6148914691236517205)) &&& 3689348814741910323) + (((Int64.toUInt64 (a0 - (((Int64.toUInt64 a0 >>> ((Int32.toInt64 1).toUInt64 &&& Int64.toUInt64 63)).toInt64) &&& 6148914691236517205)) >>> ((Int32.toInt64 2).toUInt64 &&& Int64.toUInt64 63)).toInt64) &&& 3689348814741910323)) + ((Int64.toUInt64 (((a0 - (((Int64.toUInt64 a0 >>> ((Int32.toInt64 1).toUInt64 &&& Int64.toUInt64 63)).toInt64) &&& 6148914691236517205)) &&& 3689348814741910323) + (((Int64.toUInt64 (a0 - (((Int64.toUInt64 a0 >>> ((Int32.toInt64 1).toUInt64 &&& Int64.toUInt64 63)).toInt64) &&& 6148914691236517205)) >>> ((Int32.toInt64 2).toUInt64 &&& Int64.toUInt64 63)).toInt64) &&& 3689348814741910323)) >>> ((Int32.toInt64 4).toUInt64 &&& Int64.toUInt64 63)).toInt64)) &&& 1085102592571150095) >>> ((Int32.toInt64 8).toUInt64 &&& Int64.toUInt64 63)).toInt64)) + ((Int64.toUInt64 ((((((a0 - (((Int64.toUInt64 a0 >>> ((Int32.toInt64 1).toUInt64 &&& Int64.toUInt64 63)).toInt64) &&& 6148914691236517205)) &&& 3689348814741910323) + (((Int64.toUInt64 (a0 - (((Int64.toUInt64 a0 >>> ((Int32.toInt64 1).toUInt64 &&& Int64.toUInt64 63)).toInt64) &&& 6148914691236517205)) >>> ((Int32.toInt64 2).toUInt64 &&& Int64.toUInt64 63)).toInt64) &&& 3689348814741910323)) + ((Int64.toUInt64 (((a0 - (((Int64.toUInt64 a0 >>> ((Int32.toInt64 1).toUInt64 &&& Int64.toUInt64 63)).toInt64) &&& 6148914691236517205)) &&& 3689348814741910323) + (((Int64.toUInt64 (a0 - (((Int64.toUInt64 a0 >>> ((Int32.toInt64 1).toUInt64 &&& Int64.toUInt64 63)).toInt64) &&& 6148914691236517205)) >>> ((Int32.toInt64 2).toUInt64 &&& Int64.toUInt64 63)).toInt64) &&& 3689348814741910323)) >>> ((Int32.toInt64 4).toUInt64 &&& Int64.toUInt64 63)).toInt64)) &&& 1085102592571150095) + ((Int64.toUInt64 (((((a0 - (((Int64.toUInt64 a0 >>> ((Int32.toInt64 1).toUInt64 &&& Int64.toUInt64 63)).toInt64) &&& 6148914691236517205)) &&& 3689348814741910323) + (((Int64.toUInt64 (a0 - (((Int64.toUInt64 a0 >>> ((Int32.toInt64 1).toUInt64 &&& Int64.toUInt64 63)).toInt64) &&& 6148914691236517205)) >>> ((Int32.toInt64 2).toUInt64 &&& Int64.toUInt64 63)).toInt64) &&& 3689348814741910323)) + ((Int64.toUInt64 (((a0 - (((Int64.toUInt64 a0 >>> ((Int32.toInt64 1).toUInt64 &&& Int64.toUInt64 63)).toInt64) &&& 6148914691236517205)) &&& 3689348814741910323) + (((Int64.toUInt64 (a0 - (((Int64.toUInt64 a0 >>> ((Int32.toInt64 1).toUInt64 &&& Int64.toUInt64 63)).toInt64) &&& 6148914691236517205)) >>> ((Int32.toInt64 2).toUInt64 &&& Int64.toUInt64 63)).toInt64) &&& 3689348814741910323)) >>> ((Int32.toInt64 4).toUInt64 &&& Int64.toUInt64 63)).toInt64)) &&& 1085102592571150095) >>> ((Int32.toInt64 8).toUInt64 &&& Int64.toUInt64 63)).toInt64)) >>> ((Int32.toInt64 16).toUInt64 &&& Int64.toUInt64 63)).toInt64)) + ((Int64.toUInt64 (((((((a0 - (((Int64.toUInt64 a0 >>> ((Int32.toInt64 1).toUInt64 &&& Int64.toUInt64 63)).toInt64) &&& 6148914691236517205)) &&& 3689348814741910323) + (((Int64.toUInt64 (a0 - (((Int64.toUInt64 a0 >>> ((Int32.toInt64 1).toUInt64 &&& Int64.toUInt64 63)).toInt64) &&& 6148914691236517205)) >>> ((Int32.toInt64 2).toUInt64 &&& Int64.toUInt64 63)).toInt64) &&& 3689348814741910323)) + ((Int64.toUInt64 (((a0 - (((Int64.toUInt64 a0 >>> ((Int32.toInt64 1).toUInt64 &&& Int64.toUInt64 63)).toInt64) &&& 6148914691236517205)) &&& 3689348814741910323) + (((Int64.toUInt64 (a0 - (((Int64.toUInt64 a0 >>> ((Int32.toInt64 1).toUInt64 &&& Int64.toUInt64 63)).toInt64) &&& 6148914691236517205)) >>> ((Int32.toInt64 2).toUInt64 &&& Int64.toUInt64 63)).toInt64) &&& 3689348814741910323)) >>> ((Int32.toInt64 4).toUInt64 &&& Int64.toUInt64 63)).toInt64)) &&& 1085102592571150095) + ((Int64.toUInt64 (((((a0 - (((Int64.toUInt64 a0 >>> ((Int32.toInt64 1).toUInt64 &&& Int64.toUInt64 63)).toInt64) &&& 6148914691236517205)) &&& 3689348814741910323) + (((Int64.toUInt64 (a0 - (((Int64.toUInt64 a0 >>> ((Int32.toInt64 1).toUInt64 &&& Int64.toUInt64 63)).toInt64) &&& 6148914691236517205)) >>> ((Int32.toInt64 2).toUInt64 &&& Int64.toUInt64 63)).toInt64) &&& 3689348814741910323)) + ((Int64.toUInt64 (((a0 - (((Int64.toUInt64 a0 >>> ((Int32.toInt64 1).toUInt64 &&& Int64.toUInt64 63)).toInt64) &&& 6148914691236517205)) &&& 3689348814741910323) + (((Int64.toUInt64 (a0 - (((Int64.toUInt64 a0 >>> ((Int32.toInt64 1).toUInt64 &&& Int64.toUInt64 63)).toInt64) &&& 6148914691236517205)) >>> ((Int32.toInt64 2).toUInt64 &&& Int64.toUInt64 63)).toInt64) &&& 3689348814741910323)) >>> ((Int32.toInt64 4).toUInt64 &&& Int64.toUInt64 63)).toInt64)) &&& 1085102592571150095) >>> ((Int32.toInt64 8).toUInt64 &&& Int64.toUInt64 63)).toInt64)) + ((Int64.toUInt64 ((((((a0 - (((Int64.toUInt64 a0 >>> ((Int32.toInt64 1).toUInt64 &&& Int64.toUInt64 63)).toInt64) &&& 6148914691236517205)) &&& 3689348814741910323) + (((Int64.toUInt64 (a0 - (((Int64.toUInt64 a0 >>> ((Int32.toInt64 1).toUInt64 &&& Int64.toUInt64 63)).toInt64) &&& 6148914691236517205)) >>> ((Int32.toInt64 2).toUInt64 &&& Int64.toUInt64 63)).toInt64) &&& 3689348814741910323)) + ((Int64.toUInt64 (((a0 - (((Int64.toUInt64 a0 >>> ((Int32.toInt64 1).toUInt64 &&& Int64.toUInt64 63)).toInt64) &&& 6148914691236517205)) &&& 3689348814741910323) + (((Int64.toUInt64 (a0 - (((Int64.toUInt64 a0 >>> ((Int32.toInt64 1).toUInt64 &&& Int64.toUInt64 63)).toInt64) &&& 6148914691236517205)) >>> ((Int32.toInt64 2).toUInt64 &&& Int64.toUInt64 63)).toInt64) &&& 3689348814741910323)) >>> ((Int32.toInt64 4).toUInt64 &&& Int64.toUInt64 63)).toInt64)) &&& 1085102592571150095) + ((Int64.toUInt64 (((((a0 - (((Int64.toUInt64 a0 >>> ((Int32.toInt64 1).toUInt64 &&& Int64.toUInt64 63)).toInt64) &&& 6148914691236517205)) &&& 3689348814741910323) + (((Int64.toUInt64 (a0 - (((Int64.toUInt64 a0 >>> ((Int32.toInt64 1).toUInt64 &&& Int64.toUInt64 63)).toInt64) &&& 6148914691236517205)) >>> ((Int32.toInt64 2).toUInt64 &&& Int64.toUInt64 63)).toInt64) &&& 3689348814741910323)) + ((Int64.toUInt64 (((a0 - (((Int64.toUInt64 a0 >>> ((Int32.toInt64 1).toUInt64 &&& Int64.toUInt64 63)).toInt64) &&& 6148914691236517205)) &&& 3689348814741910323) + (((Int64.toUInt64 (a0 - (((Int64.toUInt64 a0 >>> ((Int32.toInt64 1).toUInt64 &&& Int64.toUInt64 63)).toInt64) &&& 6148914691236517205)) >>> ((Int32.toInt64 2).toUInt64 &&& Int64.toUInt64 63)).toInt64) &&& 3689348814741910323)) >>> ((Int32.toInt64 4).toUInt64 &&& Int64.toUInt64 63)).toInt64)) &&& 1085102592571150095) >>> ((Int32.toInt64 8).toUInt64 &&& Int64.toUInt64 63)).toInt64)) >>> ((Int32.toInt64 16).toUInt64 &&& Int64.toUInt64 63)).toInt64)) >>> ((Int32.toInt64 32).toUInt64 &&& Int64.toUInt64 63)).toInt64))) &&& 127) h)
def wp_X1_drainAwake (i : Nat) (a1 : Int64) (h : q_H) (Q : Int32 → q_H → Prop) : Prop := (wp_J13_bitCount_95d88 (a1) h (fun (r2 : Int32) (g1 : q_H) => (Q (r2 * (Prod.fst g1 3 i 0)) g1)))
def wp_X1_restIn (i : Nat) (a1 : Int32) (a2 : Int32) (a3 : Int32) (h : q_H) (Q : Int32 → q_H → Prop) : Prop := ((a3 = 0 → (vp_in a1 4 ∧ (Q (a2 - (Prod.fst h 5 i (Int32.toNatClampNeg a1))) h))) ∧ (¬ (a3 = 0) → (Q a2 h)))
def wp_X1_sumIn (i : Nat) (a1 : Int32) (a2 : Int32) (a3 : Int32) (h : q_H) (Q : Int32 → q_H → Prop) : Prop := (wp_X1_restIn (i) (a1) (a2) (a3) h (fun (r2 : Int32) (g1 : q_H) => (vp_in a1 4 ∧ ((a3 = 0 → (vp_in a1 4 ∧ (Q (((r2 * (Prod.fst g1 3 i (Int32.toNatClampNeg a1))) + ((a2 - r2) * (Prod.fst g1 3 i 0))) + (Prod.fst g1 4 i (Int32.toNatClampNeg a1))) g1))) ∧ (¬ (a3 = 0) → (Q (((r2 * (Prod.fst g1 3 i (Int32.toNatClampNeg a1))) + ((a2 - r2) * (Prod.fst g1 3 i 0))) + 0) g1))))))
def lp_X1_bestState_5 (i : Nat) (x1 : Int32) (x2 : Int32) (E : Int32 → Int32 → q_H → Prop) : Nat → Int32 → Int32 → q_H → Prop
  | 0, _, _, _ => False
  | n + 1, x3, x4, h => ((4 ≤ x4 → (E (x3) (x4) h)) ∧ (¬ (4 ≤ x4) → (wp_X1_restIn (i) (x4) (x1) (x2) h (fun (r2 : Int32) (g1 : q_H) => ((r2 < 0 → (lp_X1_bestState_5 i x1 x2 E n (x3) ((x4 + 1)) g1)) ∧ (¬ (r2 < 0) → (wp_X1_sumIn (i) (x4) (x1) (x2) g1 (fun (r4 : Int32) (g3 : q_H) => (wp_X1_sumIn (i) (x3) (x1) (x2) g3 (fun (r6 : Int32) (g5 : q_H) => ((r6 ≤ r4 → (lp_X1_bestState_5 i x1 x2 E n (x3) ((x4 + 1)) g5)) ∧ (¬ (r6 ≤ r4) → (lp_X1_bestState_5 i x1 x2 E n (x4) ((x4 + 1)) g5)))))))))))))
def wp_X1_bestState (i : Nat) (a1 : Int32) (a2 : Int32) (h : q_H) (Q : Int32 → q_H → Prop) : Prop := (∃ n7 : Nat, lp_X1_bestState_5 i (a1) (a2) (fun (y3_7 : Int32) (y4_7 : Int32) (g7 : q_H) => (Q y3_7 g7)) n7 (0) (1) h)
def wp_X2_size (h : q_H) (Q : Int32 → q_H → Prop) : Prop := (Q (Prod.fst h 15 0 2) h)
def wp_X2_lenOf (a1 : Int32) (h : q_H) (Q : Int32 → q_H → Prop) : Prop := (vp_in a1 64 ∧ (Q (Prod.fst h 17 0 (Int32.toNatClampNeg a1)) h))
def wp_X2_endsAll (a1 : Int32) (h : q_H) (Q : Int32 → q_H → Prop) : Prop := (vp_in a1 64 ∧ (vp_in a1 64 ∧ ((((Prod.fst h 16 0 (Int32.toNatClampNeg a1)) + (Prod.fst h 17 0 (Int32.toNatClampNeg a1))) = 64 → (Q 1 h)) ∧ (¬ (((Prod.fst h 16 0 (Int32.toNatClampNeg a1)) + (Prod.fst h 17 0 (Int32.toNatClampNeg a1))) = 64) → (Q 0 h)))))
def lp_X1_planned_4 (i : Nat) (E : Int32 → Int32 → q_H → Prop) : Nat → Int32 → Int32 → q_H → Prop
  | 0, _, _, _ => False
  | n + 1, x2, x3, h => (wp_X2_size  h (fun (r2 : Int32) (g1 : q_H) => ((r2 ≤ x3 → (E (x2) (x3) g1)) ∧ (¬ (r2 ≤ x3) → (wp_X2_lenOf (x3) g1 (fun (r4 : Int32) (g3 : q_H) => (wp_X2_endsAll (x3) g3 (fun (r6 : Int32) (g5 : q_H) => (wp_X1_bestState (i) (r4) (r6) g5 (fun (r8 : Int32) (g7 : q_H) => (wp_X1_sumIn (i) (r8) (r4) (r6) g7 (fun (r10 : Int32) (g9 : q_H) => (lp_X1_planned_4 i E n ((x2 + r10)) ((x3 + 1)) g9)))))))))))))
def wp_X1_planned (i : Nat) (h : q_H) (Q : Int32 → q_H → Prop) : Prop := (∃ n11 : Nat, lp_X1_planned_4 i  (fun (y2_11 : Int32) (y3_11 : Int32) (g11 : q_H) => (Q y2_11 g11)) n11 (0) (0) h)
def lp_X1_stateByRule_2 (i : Nat) (x1 : Int32) (Q : Int32 → q_H → Prop) (E : Int32 → q_H → Prop) : Nat → Int32 → q_H → Prop
  | 0, _, _ => False
  | n + 1, x2, h => ((x2 ≤ 0 → (E (x2) h)) ∧ (¬ (x2 ≤ 0) → (vp_in x2 5 ∧ ((x1 < (Prod.fst h 6 i (Int32.toNatClampNeg x2)) → (lp_X1_stateByRule_2 i x1 Q E n ((x2 + (-1))) h)) ∧ (¬ (x1 < (Prod.fst h 6 i (Int32.toNatClampNeg x2))) → (Q x2 h))))))
def wp_X1_stateByRule (i : Nat) (a1 : Int32) (h : q_H) (Q : Int32 → q_H → Prop) : Prop := (∃ n2 : Nat, lp_X1_stateByRule_2 i (a1) Q (fun (y2_2 : Int32) (g2 : q_H) => (Q 0 g2)) n2 (3) h)
def lp_X1_restByRule_8 (i : Nat) (x1 : Int32) (Q : Int32 → q_H → Prop) (E : Int32 → q_H → Prop) : Nat → Int32 → q_H → Prop
  | 0, _, _ => False
  | n + 1, x3, h => ((x3 ≤ 0 → (E (x3) h)) ∧ (¬ (x3 ≤ 0) → (vp_in x3 4 ∧ (vp_in x3 5 ∧ (((x1 - (Prod.fst h 5 i (Int32.toNatClampNeg x3))) ≤ (Prod.fst h 6 i (Int32.toNatClampNeg x3)) → (lp_X1_restByRule_8 i x1 Q E n ((x3 + (-1))) h)) ∧ (¬ ((x1 - (Prod.fst h 5 i (Int32.toNatClampNeg x3))) ≤ (Prod.fst h 6 i (Int32.toNatClampNeg x3))) → (vp_in (x3 + 1) 5 ∧ (vp_in x3 5 ∧ (((Prod.fst h 6 i (Int32.toNatClampNeg (x3 + 1))) ≤ (Prod.fst h 6 i (Int32.toNatClampNeg x3)) → (lp_X1_restByRule_8 i x1 Q E n ((x3 + (-1))) h)) ∧ (¬ ((Prod.fst h 6 i (Int32.toNatClampNeg (x3 + 1))) ≤ (Prod.fst h 6 i (Int32.toNatClampNeg x3))) → (vp_in (x3 + 1) 5 ∧ (((Prod.fst h 6 i (Int32.toNatClampNeg (x3 + 1))) ≤ (x1 - (Prod.fst h 5 i (Int32.toNatClampNeg x3))) → (vp_in (x3 + 1) 5 ∧ (Q (Prod.fst h 6 i (Int32.toNatClampNeg (x3 + 1))) h))) ∧ (¬ ((Prod.fst h 6 i (Int32.toNatClampNeg (x3 + 1))) ≤ (x1 - (Prod.fst h 5 i (Int32.toNatClampNeg x3)))) → (Q (x1 - (Prod.fst h 5 i (Int32.toNatClampNeg x3))) h))))))))))))))
def wp_X1_restByRule (i : Nat) (a1 : Int32) (a2 : Int32) (h : q_H) (Q : Int32 → q_H → Prop) : Prop := ((a2 = 0 → (∃ n7 : Nat, lp_X1_restByRule_8 i (a1) Q (fun (y3_7 : Int32) (g7 : q_H) => (((Prod.fst g7 6 i 1) ≤ a1 → (Q (Prod.fst g7 6 i 1) g7)) ∧ (¬ ((Prod.fst g7 6 i 1) ≤ a1) → (Q a1 g7)))) n7 (3) h)) ∧ (¬ (a2 = 0) → (Q a1 h)))
def lp_X1_spanByRule_22 (i : Nat) (x2 : Int32) (x3 : Int32) (E : Int32 → Int32 → q_H → Prop) : Nat → Int32 → Int32 → q_H → Prop
  | 0, _, _, _ => False
  | n + 1, x4, x5, h => ((4 ≤ x5 → (E (x4) (x5) h)) ∧ (¬ (4 ≤ x5) → (vp_in x5 4 ∧ (vp_in (x5 + 1) 5 ∧ (vp_in x5 5 ∧ (lp_X1_spanByRule_22 i x2 x3 E n ((x4 + ((Prod.fst h 3 i (Int32.toNatClampNeg x5)) * ((if x3 < (Prod.fst h 6 i (Int32.toNatClampNeg (x5 + 1))) then x3 else (Prod.fst h 6 i (Int32.toNatClampNeg (x5 + 1)))) - (if x3 < (Prod.fst h 6 i (Int32.toNatClampNeg x5)) then x3 else (Prod.fst h 6 i (Int32.toNatClampNeg x5))))))) ((x5 + 1)) h))))))
def wp_X1_spanByRule (i : Nat) (a1 : Int32) (a2 : Int32) (h : q_H) (Q : Int32 → q_H → Prop) : Prop := (wp_X1_restByRule (i) (a1) (a2) h (fun (r2 : Int32) (g1 : q_H) => (∃ n6 : Nat, lp_X1_spanByRule_22 i (a2) (r2) (fun (y4_6 : Int32) (y5_6 : Int32) (g6 : q_H) => ((a2 = 0 → (wp_X1_stateByRule (i) ((r2 - 1)) g6 (fun (r8 : Int32) (g7 : q_H) => (vp_in r8 4 ∧ (Q (y4_6 + (Prod.fst g7 4 i (Int32.toNatClampNeg r8))) g7))))) ∧ (¬ (a2 = 0) → (Q y4_6 g6)))) n6 (((a1 - r2) * (Prod.fst g1 3 i 0))) (0) g1)))
def lp_X1_sumByRule_4 (i : Nat) (E : Int32 → Int32 → q_H → Prop) : Nat → Int32 → Int32 → q_H → Prop
  | 0, _, _, _ => False
  | n + 1, x2, x3, h => (wp_X2_size  h (fun (r2 : Int32) (g1 : q_H) => ((r2 ≤ x3 → (E (x2) (x3) g1)) ∧ (¬ (r2 ≤ x3) → (wp_X2_lenOf (x3) g1 (fun (r4 : Int32) (g3 : q_H) => (wp_X2_endsAll (x3) g3 (fun (r6 : Int32) (g5 : q_H) => (wp_X1_spanByRule (i) (r4) (r6) g5 (fun (r8 : Int32) (g7 : q_H) => (lp_X1_sumByRule_4 i E n ((x2 + r8)) ((x3 + 1)) g7)))))))))))
def wp_X1_sumByRule (i : Nat) (h : q_H) (Q : Int32 → q_H → Prop) : Prop := (∃ n9 : Nat, lp_X1_sumByRule_4 i  (fun (y2_9 : Int32) (y3_9 : Int32) (g9 : q_H) => (Q y2_9 g9)) n9 (0) (0) h)
def wp_X1_sumOfTry (i : Nat) (a2 : Int32) (a3 : Int32) (a4 : Int32) (h : q_H) (Q : Int32 → q_H → Prop) : Prop := (wp_X1_setThresholds (i) (a2) (a3) (a4) h (fun (g1 : q_H) => (wp_X1_sumByRule (i) g1 (fun (r3 : Int32) (g2 : q_H) => (Q r3 g2)))))
def lp_X2_longest_4 (E : Int32 → Int32 → q_H → Prop) : Nat → Int32 → Int32 → q_H → Prop
  | 0, _, _, _ => False
  | n + 1, x1, x2, h => (((Prod.fst h 15 0 2) ≤ x2 → (E (x1) (x2) h)) ∧ (¬ ((Prod.fst h 15 0 2) ≤ x2) → (vp_in x2 64 ∧ (lp_X2_longest_4  E n ((if x1 < (Prod.fst h 17 0 (Int32.toNatClampNeg x2)) then (Prod.fst h 17 0 (Int32.toNatClampNeg x2)) else x1)) ((x2 + 1)) h))))
def wp_X2_longest (h : q_H) (Q : Int32 → q_H → Prop) : Prop := (∃ n2 : Nat, lp_X2_longest_4  (fun (y1_2 : Int32) (y2_2 : Int32) (g2 : q_H) => (Q y1_2 g2)) n2 (0) (0) h)
def lp_X1_bestLaterOff_11 (i : Nat) (x2 : Int32) (x3 : Int32) (E : Int32 → Int32 → Int32 → q_H → Prop) : Nat → Int32 → Int32 → Int32 → q_H → Prop
  | 0, _, _, _, _ => False
  | n + 1, x4, x5, x6, h => ((x3 < x6 → (E (x4) (x5) (x6) h)) ∧ (¬ (x3 < x6) → (wp_X1_sumOfTry (i) (0) (x2) (x6) h (fun (r2 : Int32) (g1 : q_H) => ((x4 = x2 → (lp_X1_bestLaterOff_11 i x2 x3 E n (x6) (r2) ((x6 + 1)) g1)) ∧ (¬ (x4 = x2) → ((x5 ≤ r2 → (lp_X1_bestLaterOff_11 i x2 x3 E n (x4) (x5) ((x6 + 1)) g1)) ∧ (¬ (x5 ≤ r2) → (lp_X1_bestLaterOff_11 i x2 x3 E n (x6) (r2) ((x6 + 1)) g1)))))))))
def wp_X1_bestLaterOff (i : Nat) (a2 : Int32) (a3 : Int32) (h : q_H) (Q : Int32 → q_H → Prop) : Prop := (∃ n3 : Nat, lp_X1_bestLaterOff_11 i (a2) (a3) (fun (y4_3 : Int32) (y5_3 : Int32) (y6_3 : Int32) (g3 : q_H) => (Q y4_3 g3)) n3 (a2) (0) ((a2 + 1)) h)
def lp_X1_takeBestThresholds_45 (i : Nat) (x2 : Int32) (x7 : Int32) (x8 : Int32) (E : Int32 → Int32 → Int32 → Int32 → Int32 → q_H → Prop) : Nat → Int32 → Int32 → Int32 → Int32 → Int32 → q_H → Prop
  | 0, _, _, _, _, _, _ => False
  | n + 1, x3, x4, x5, x6, x9, h => ((x7 < x9 → (E (x3) (x4) (x5) (x6) (x9) h)) ∧ (¬ (x7 < x9) → (wp_X1_sumOfTry (i) (x9) (x7) (x7) h (fun (r8 : Int32) (g7 : q_H) => (wp_X1_sumOfTry (i) (x9) (x7) (x8) g7 (fun (r10 : Int32) (g9 : q_H) => (((if r10 < r8 then r10 else r8) < x6 → ((r10 < r8 → (lp_X1_takeBestThresholds_45 i x2 x7 x8 E n (x9) (x7) (x8) ((if r10 < r8 then r10 else r8)) ((x9 + 1)) g9)) ∧ (¬ (r10 < r8) → (lp_X1_takeBestThresholds_45 i x2 x7 x8 E n (x9) (x7) (x7) ((if r10 < r8 then r10 else r8)) ((x9 + 1)) g9)))) ∧ (¬ ((if r10 < r8 then r10 else r8) < x6) → (((if r10 < r8 then r10 else r8) = x6 → ((x3 ≤ x9 → (lp_X1_takeBestThresholds_45 i x2 x7 x8 E n (x3) (x4) (x5) (x6) ((x9 + 1)) g9)) ∧ (¬ (x3 ≤ x9) → ((r10 < r8 → (lp_X1_takeBestThresholds_45 i x2 x7 x8 E n (x9) (x7) (x8) ((if r10 < r8 then r10 else r8)) ((x9 + 1)) g9)) ∧ (¬ (r10 < r8) → (lp_X1_takeBestThresholds_45 i x2 x7 x8 E n (x9) (x7) (x7) ((if r10 < r8 then r10 else r8)) ((x9 + 1)) g9)))))) ∧ (¬ ((if r10 < r8 then r10 else r8) = x6) → (lp_X1_takeBestThresholds_45 i x2 x7 x8 E n (x3) (x4) (x5) (x6) ((x9 + 1)) g9)))))))))))
def lp_X1_takeBestThresholds_26 (i : Nat) (x2 : Int32) (E : Int32 → Int32 → Int32 → Int32 → Int32 → q_H → Prop) : Nat → Int32 → Int32 → Int32 → Int32 → Int32 → q_H → Prop
  | 0, _, _, _, _, _, _ => False
  | n + 1, x3, x4, x5, x6, x7, h => ((x2 < x7 → (E (x3) (x4) (x5) (x6) (x7) h)) ∧ (¬ (x2 < x7) → (wp_X1_bestLaterOff (i) (x7) (x2) h (fun (r6 : Int32) (g5 : q_H) => (∃ n11 : Nat, lp_X1_takeBestThresholds_45 i (x2) (x7) (r6) (fun (y3_11 : Int32) (y4_11 : Int32) (y5_11 : Int32) (y6_11 : Int32) (y9_11 : Int32) (g11 : q_H) => (lp_X1_takeBestThresholds_26 i x2 E n (y3_11) (y4_11) (y5_11) (y6_11) ((x7 + 1)) g11)) n11 (x3) (x4) (x5) (x6) (0) g5)))))
def wp_X1_takeBestThresholds (i : Nat) (h : q_H) (Q : q_H → Prop) : Prop := (wp_X2_longest  h (fun (r2 : Int32) (g1 : q_H) => (wp_X1_sumOfTry (i) (0) (0) (0) g1 (fun (r4 : Int32) (g3 : q_H) => (∃ n12 : Nat, lp_X1_takeBestThresholds_26 i (r2) (fun (y3_12 : Int32) (y4_12 : Int32) (y5_12 : Int32) (y6_12 : Int32) (y7_12 : Int32) (g12 : q_H) => (wp_X1_setThresholds (i) (y3_12) (y4_12) (y5_12) g12 (fun (g13 : q_H) => (Q g13)))) n12 (0) (0) (0) (r4) (0) g3)))))
def wp_X4_hasTick (a0 : Int64) (a2 : Int32) (h : q_H) (Q : Int32 → q_H → Prop) : Prop := (((lg_cmp (((Int64.toUInt64 a0 >>> ((Int32.toInt64 a2).toUInt64 &&& Int64.toUInt64 63)).toInt64) &&& 1) 0) = 0 → (Q 0 h)) ∧ (¬ ((lg_cmp (((Int64.toUInt64 a0 >>> ((Int32.toInt64 a2).toUInt64 &&& Int64.toUInt64 63)).toInt64) &&& 1) 0) = 0) → (Q 1 h)))
def lp_X2_layOut_10 (x1 : Int64) (E : Int32 → Int32 → q_H → Prop) : Nat → Int32 → Int32 → q_H → Prop
  | 0, _, _, _ => False
  | n + 1, x3, x4, h => ((64 ≤ x4 → (E (x3) (x4) h)) ∧ (¬ (64 ≤ x4) → (wp_X4_hasTick (x1) (x4) h (fun (r2 : Int32) (g1 : q_H) => ((r2 = 0 → (((x3 + 1) = 1 → (vp_in (Prod.fst g1 15 0 2) 64 ∧ (((x3 + 1) ≤ 0 → (lp_X2_layOut_10 x1 E n ((x3 + 1)) ((x4 + 1)) (q_sI (q_sI g1 16 0 (Int32.toNatClampNeg (Prod.fst g1 15 0 2)) x4) 15 0 2 ((Prod.fst g1 15 0 2) + 1)))) ∧ (¬ ((x3 + 1) ≤ 0) → (vp_in (((Prod.fst g1 15 0 2) + 1) - 1) 64 ∧ (lp_X2_layOut_10 x1 E n ((x3 + 1)) ((x4 + 1)) (q_sI (q_sI (q_sI g1 16 0 (Int32.toNatClampNeg (Prod.fst g1 15 0 2)) x4) 15 0 2 ((Prod.fst g1 15 0 2) + 1)) 17 0 (Int32.toNatClampNeg (((Prod.fst g1 15 0 2) + 1) - 1)) (x3 + 1)))))))) ∧ (¬ ((x3 + 1) = 1) → (((x3 + 1) ≤ 0 → (lp_X2_layOut_10 x1 E n ((x3 + 1)) ((x4 + 1)) g1)) ∧ (¬ ((x3 + 1) ≤ 0) → (vp_in ((Prod.fst g1 15 0 2) - 1) 64 ∧ (lp_X2_layOut_10 x1 E n ((x3 + 1)) ((x4 + 1)) (q_sI g1 17 0 (Int32.toNatClampNeg ((Prod.fst g1 15 0 2) - 1)) (x3 + 1))))))))) ∧ (¬ (r2 = 0) → (lp_X2_layOut_10 x1 E n (0) ((x4 + 1)) g1)))))))
def wp_X2_layOut (a1 : Int64) (h : q_H) (Q : q_H → Prop) : Prop := (∃ n6 : Nat, lp_X2_layOut_10 (a1) (fun (y3_6 : Int32) (y4_6 : Int32) (g6 : q_H) => (Q g6)) n6 (0) (0) (q_sI h 15 0 2 0))
def wp_X2_has (a1 : Int32) (h : q_H) (Q : Int32 → q_H → Prop) : Prop := ((a1 < 0 → (Q 0 h)) ∧ (¬ (a1 < 0) → (((Prod.fst h 15 0 2) ≤ a1 → (Q 0 h)) ∧ (¬ ((Prod.fst h 15 0 2) ≤ a1) → (Q 1 h)))))
def wp_X2_firstOf (a1 : Int32) (h : q_H) (Q : Int32 → q_H → Prop) : Prop := (vp_in a1 64 ∧ (Q (Prod.fst h 16 0 (Int32.toNatClampNeg a1)) h))
def lp_X2_find_2 (x1 : Int32) (Q : Int32 → q_H → Prop) (E : Int32 → q_H → Prop) : Nat → Int32 → q_H → Prop
  | 0, _, _ => False
  | n + 1, x2, h => (((Prod.fst h 15 0 2) ≤ x2 → (E (x2) h)) ∧ (¬ ((Prod.fst h 15 0 2) ≤ x2) → (vp_in x2 64 ∧ ((x1 < (Prod.fst h 16 0 (Int32.toNatClampNeg x2)) → (lp_X2_find_2 x1 Q E n ((x2 + 1)) h)) ∧ (¬ (x1 < (Prod.fst h 16 0 (Int32.toNatClampNeg x2))) → (vp_in x2 64 ∧ (vp_in x2 64 ∧ ((((Prod.fst h 16 0 (Int32.toNatClampNeg x2)) + (Prod.fst h 17 0 (Int32.toNatClampNeg x2))) ≤ x1 → (lp_X2_find_2 x1 Q E n ((x2 + 1)) h)) ∧ (¬ (((Prod.fst h 16 0 (Int32.toNatClampNeg x2)) + (Prod.fst h 17 0 (Int32.toNatClampNeg x2))) ≤ x1) → (Q x2 h))))))))))
def wp_X2_find (a1 : Int32) (h : q_H) (Q : Int32 → q_H → Prop) : Prop := (∃ n4 : Nat, lp_X2_find_2 (a1) Q (fun (y2_4 : Int32) (g4 : q_H) => (Q (-1) g4)) n4 (0) h)
def lp_X3_clear_2 (i : Nat) (E : Int32 → q_H → Prop) : Nat → Int32 → q_H → Prop
  | 0, _, _ => False
  | n + 1, x1, h => (((Int32.ofNat 48) ≤ x1 → (E (x1) h)) ∧ (¬ ((Int32.ofNat 48) ≤ x1) → (vp_in x1 48 ∧ (lp_X3_clear_2 i E n ((x1 + 1)) (q_sL h 14 i (Int32.toNatClampNeg x1) 0)))))
def wp_X3_clear (i : Nat) (h : q_H) (Q : q_H → Prop) : Prop := (∃ n2 : Nat, lp_X3_clear_2 i  (fun (y1_2 : Int32) (g2 : q_H) => (Q g2)) n2 (0) h)
def wp_X3_add (i : Nat) (a1 : Int32) (a2 : Int32) (a3 : Int64) (h : q_H) (Q : q_H → Prop) : Prop := (vp_in ((a2 * 8) + a1) 48 ∧ (vp_in ((a2 * 8) + a1) 48 ∧ (Q (q_sL h 14 i (Int32.toNatClampNeg ((a2 * 8) + a1)) ((Prod.snd h 14 i (Int32.toNatClampNeg ((a2 * 8) + a1))) ||| a3)))))
def wp_X4_hasPart (a0 : Int32) (a1 : Int32) (h : q_H) (Q : Int32 → q_H → Prop) : Prop := (((((Int32.toUInt32 a0 >>> (Int32.toUInt32 a1 &&& Int32.toUInt32 31)).toInt32) &&& 1) = 0 → (Q 0 h)) ∧ (¬ ((((Int32.toUInt32 a0 >>> (Int32.toUInt32 a1 &&& Int32.toUInt32 31)).toInt32) &&& 1) = 0) → (Q 1 h)))
def wp_X3_ticksBy (i : Nat) (a1 : Int32) (a2 : Int32) (h : q_H) (Q : Int64 → q_H → Prop) : Prop := (vp_in ((a2 * 8) + a1) 48 ∧ (Q (Prod.snd h 14 i (Int32.toNatClampNeg ((a2 * 8) + a1))) h))
def lp_X3_addAll_2 (i : Nat) (x1 : Int32) (x2 : Int32) (E : Int32 → q_H → Prop) : Nat → Int32 → q_H → Prop
  | 0, _, _ => False
  | n + 1, x3, h => ((8 ≤ x3 → (E (x3) h)) ∧ (¬ (8 ≤ x3) → (wp_X3_ticksBy (i) (x3) (x1) h (fun (r2 : Int64) (g1 : q_H) => (wp_X3_add (i) (x3) (x2) (r2) g1 (fun (g3 : q_H) => (lp_X3_addAll_2 i x1 x2 E n ((x3 + 1)) g3)))))))
def wp_X3_addAll (i : Nat) (a1 : Int32) (a2 : Int32) (h : q_H) (Q : q_H → Prop) : Prop := (∃ n4 : Nat, lp_X3_addAll_2 i (a1) (a2) (fun (y3_4 : Int32) (g4 : q_H) => (Q g4)) n4 (0) h)
def lp_X3_spread_19 (i : Nat) (x2 : Int32) (x3 : Int32) (E : Int32 → q_H → Prop) : Nat → Int32 → q_H → Prop
  | 0, _, _ => False
  | n + 1, x4, h => ((6 ≤ x4 → (E (x4) h)) ∧ (¬ (6 ≤ x4) → (vp_in x3 6 ∧ (wp_X4_hasPart ((Prod.fst h 7 0 (Int32.toNatClampNeg x3))) (x4) h (fun (r3 : Int32) (g2 : q_H) => ((r3 = 0 → (lp_X3_spread_19 i x2 x3 E n ((x4 + 1)) g2)) ∧ (¬ (r3 = 0) → (wp_X3_addAll (i) (x3) (x4) g2 (fun (g4 : q_H) => (lp_X3_spread_19 i x2 x3 E n ((x4 + 1)) g4))))))))))
def lp_X3_spread_10 (i : Nat) (x2 : Int32) (E : Int32 → q_H → Prop) : Nat → Int32 → q_H → Prop
  | 0, _, _ => False
  | n + 1, x3, h => ((6 ≤ x3 → (E (x3) h)) ∧ (¬ (6 ≤ x3) → (∃ n5 : Nat, lp_X3_spread_19 i (x2) (x3) (fun (y4_5 : Int32) (g5 : q_H) => (lp_X3_spread_10 i x2 E n ((x3 + 1)) g5)) n5 (0) h)))
def lp_X3_spread_2 (i : Nat) (E : Int32 → q_H → Prop) : Nat → Int32 → q_H → Prop
  | 0, _, _ => False
  | n + 1, x2, h => ((6 ≤ x2 → (E (x2) h)) ∧ (¬ (6 ≤ x2) → (∃ n6 : Nat, lp_X3_spread_10 i (x2) (fun (y3_6 : Int32) (g6 : q_H) => (lp_X3_spread_2 i E n ((x2 + 1)) g6)) n6 (0) h)))
def wp_X3_spread (i : Nat) (h : q_H) (Q : q_H → Prop) : Prop := (∃ n7 : Nat, lp_X3_spread_2 i  (fun (y2_7 : Int32) (g7 : q_H) => (Q g7)) n7 (1) h)
def lp_X3_ticksOf_5 (i : Nat) (x1 : Int32) (E : Int64 → Int32 → q_H → Prop) : Nat → Int64 → Int32 → q_H → Prop
  | 0, _, _, _ => False
  | n + 1, x2, x4, h => ((8 ≤ x4 → (E (x2) (x4) h)) ∧ (¬ (8 ≤ x4) → (wp_X3_ticksBy (i) (x4) (x1) h (fun (r2 : Int64) (g1 : q_H) => (lp_X3_ticksOf_5 i x1 E n ((x2 ||| r2)) ((x4 + 1)) g1)))))
def wp_X3_ticksOf (i : Nat) (a1 : Int32) (h : q_H) (Q : Int64 → q_H → Prop) : Prop := (∃ n3 : Nat, lp_X3_ticksOf_5 i (a1) (fun (y2_3 : Int64) (y4_3 : Int32) (g3 : q_H) => (Q y2_3 g3)) n3 (0) (0) h)
def lp_X3_programsAt_5 (i : Nat) (x1 : Int32) (x2 : Int32) (E : Int32 → Int32 → q_H → Prop) : Nat → Int32 → Int32 → q_H → Prop
  | 0, _, _, _ => False
  | n + 1, x3, x4, h => ((8 ≤ x4 → (E (x3) (x4) h)) ∧ (¬ (8 ≤ x4) → (wp_X3_ticksBy (i) (x4) (x1) h (fun (r2 : Int64) (g1 : q_H) => (wp_X4_hasTick (r2) (x2) g1 (fun (r4 : Int32) (g3 : q_H) => ((r4 = 0 → (lp_X3_programsAt_5 i x1 x2 E n (x3) ((x4 + 1)) g3)) ∧ (¬ (r4 = 0) → (lp_X3_programsAt_5 i x1 x2 E n ((x3 + 1)) ((x4 + 1)) g3)))))))))
def wp_X3_programsAt (i : Nat) (a1 : Int32) (a2 : Int32) (h : q_H) (Q : Int32 → q_H → Prop) : Prop := (∃ n5 : Nat, lp_X3_programsAt_5 i (a1) (a2) (fun (y3_5 : Int32) (y4_5 : Int32) (g5 : q_H) => (Q y3_5 g5)) n5 (0) (0) h)
def wp_X4_rises (a0 : Int32) (a1 : Int32) (a2 : Int32) (a3 : Int32) (h : q_H) (Q : Int32 → q_H → Prop) : Prop := ((a0 < 0 → (Q 0 h)) ∧ (¬ (a0 < 0) → ((a1 < a0 → (Q 0 h)) ∧ (¬ (a1 < a0) → ((a2 < a1 → (Q 0 h)) ∧ (¬ (a2 < a1) → ((a3 < a2 → (Q 0 h)) ∧ (¬ (a3 < a2) → (Q 1 h)))))))))
def wp_X4_part (a1 : Int32) (a2 : Int32) (a3 : Int32) (a4 : Int32) (h : q_H) (Q : Int32 → q_H → Prop) : Prop := ((6 ≤ (Prod.fst h 0 0 1) → (Q (-1) h)) ∧ (¬ (6 ≤ (Prod.fst h 0 0 1)) → (wp_X4_rises (a4) (a3) (a2) (99) h (fun (r2 : Int32) (g1 : q_H) => ((r2 = 0 → (Q (-1) g1)) ∧ (¬ (r2 = 0) → ((a1 < a2 → (Q (-1) g1)) ∧ (¬ (a1 < a2) → ((a1 ≤ 99 → (vp_in (Prod.fst g1 0 0 1) 6 ∧ (wp_X1_setDrains ((Int32.toNatClampNeg (Prod.fst g1 0 0 1))) (a1) (a2) (a3) (a4) g1 (fun (g4 : q_H) => (Q (((Prod.fst g4 0 0 1) + 1) - 1) (q_sI g4 0 0 1 ((Prod.fst g4 0 0 1) + 1))))))) ∧ (¬ (a1 ≤ 99) → (Q (-1) g1)))))))))))
def wp_X4_isPart (a1 : Int32) (h : q_H) (Q : Int32 → q_H → Prop) : Prop := ((a1 < 0 → (Q 0 h)) ∧ (¬ (a1 < 0) → (((Prod.fst h 0 0 1) ≤ a1 → (Q 0 h)) ∧ (¬ ((Prod.fst h 0 0 1) ≤ a1) → (Q 1 h)))))
def wp_X4_rise (a1 : Int32) (a2 : Int32) (a3 : Int32) (a4 : Int32) (a5 : Int32) (a6 : Int32) (a7 : Int32) (h : q_H) (Q : Int32 → q_H → Prop) : Prop := (wp_X4_isPart (a1) h (fun (r2 : Int32) (g1 : q_H) => ((r2 = 0 → (Q 0 g1)) ∧ (¬ (r2 = 0) → (wp_X4_rises (a2) (a3) (a4) (999) g1 (fun (r4 : Int32) (g3 : q_H) => ((r4 = 0 → (Q 0 g3)) ∧ (¬ (r4 = 0) → (wp_X4_rises (a5) (a6) (a7) (9) g3 (fun (r6 : Int32) (g5 : q_H) => ((r6 = 0 → (Q 0 g5)) ∧ (¬ (r6 = 0) → (vp_in a1 6 ∧ (wp_X1_setCosts ((Int32.toNatClampNeg a1)) (a2) (a3) (a4) g5 (fun (g8 : q_H) => (vp_in a1 6 ∧ (wp_X1_setRising ((Int32.toNatClampNeg a1)) (a5) (a6) (a7) g8 (fun (g10 : q_H) => (Q 1 g10)))))))))))))))))))
def lp_X4_leadsTo_17 (x2 : Int32) (x4 : Int32) (E : Int32 → Int32 → q_H → Prop) : Nat → Int32 → Int32 → q_H → Prop
  | 0, _, _, _ => False
  | n + 1, x3, x5, h => ((6 ≤ x5 → (E (x3) (x5) h)) ∧ (¬ (6 ≤ x5) → (wp_X4_hasPart (x3) (x5) h (fun (r2 : Int32) (g1 : q_H) => ((r2 = 0 → (lp_X4_leadsTo_17 x2 x4 E n (x3) ((x5 + 1)) g1)) ∧ (¬ (r2 = 0) → (vp_in x5 6 ∧ (lp_X4_leadsTo_17 x2 x4 E n ((x3 ||| (Prod.fst g1 7 0 (Int32.toNatClampNeg x5)))) ((x5 + 1)) g1))))))))
def lp_X4_leadsTo_7 (x2 : Int32) (E : Int32 → Int32 → q_H → Prop) : Nat → Int32 → Int32 → q_H → Prop
  | 0, _, _, _ => False
  | n + 1, x3, x4, h => ((6 ≤ x4 → (E (x3) (x4) h)) ∧ (¬ (6 ≤ x4) → (∃ n4 : Nat, lp_X4_leadsTo_17 (x2) (x4) (fun (y3_4 : Int32) (y5_4 : Int32) (g4 : q_H) => (lp_X4_leadsTo_7 x2 E n (y3_4) ((x4 + 1)) g4)) n4 (x3) (0) h)))
def wp_X4_leadsTo (a1 : Int32) (a2 : Int32) (h : q_H) (Q : Int32 → q_H → Prop) : Prop := (∃ n5 : Nat, lp_X4_leadsTo_7 (a2) (fun (y3_5 : Int32) (y4_5 : Int32) (g5 : q_H) => (wp_X4_hasPart (y3_5) (a2) g5 (fun (r7 : Int32) (g6 : q_H) => ((r7 = 0 ∨ r7 = 1) ∧ Q r7 g6)))) n5 ((1 <<< (a1 &&& 31))) (1) h)
def lp_X4_leastTick_2 (x0 : Int64) (Q : Int32 → q_H → Prop) (E : Int32 → q_H → Prop) : Nat → Int32 → q_H → Prop
  | 0, _, _ => False
  | n + 1, x2, h => ((64 ≤ x2 → (E (x2) h)) ∧ (¬ (64 ≤ x2) → (wp_X4_hasTick (x0) (x2) h (fun (r2 : Int32) (g1 : q_H) => ((r2 = 0 → (lp_X4_leastTick_2 x0 Q E n ((x2 + 1)) g1)) ∧ (¬ (r2 = 0) → (Q x2 g1)))))))
def wp_X4_leastTick (a0 : Int64) (h : q_H) (Q : Int32 → q_H → Prop) : Prop := (∃ n3 : Nat, lp_X4_leastTick_2 (a0) Q (fun (y2_3 : Int32) (g3 : q_H) => (Q (-1) g3)) n3 (0) h)
def lp_X4_gatherWants_6 (w : Nat) (x2 : Int32) (E : Int32 → q_H → Prop) : Nat → Int32 → q_H → Prop
  | 0, _, _ => False
  | n + 1, x3, h => (wp_X0_size (0) h (fun (r3 : Int32) (g2 : q_H) => ((r3 ≤ x3 → (E (x3) g2)) ∧ (¬ (r3 ≤ x3) → ((x3 = x2 → (lp_X4_gatherWants_6 w x2 E n ((x3 + 1)) g2)) ∧ (¬ (x3 = x2) → (wp_X0_programOf (0) (x3) g2 (fun (r5 : Int32) (g4 : q_H) => (wp_X0_partOf (0) (x3) g4 (fun (r7 : Int32) (g6 : q_H) => (wp_X0_ticksOf (0) (x3) g6 (fun (r9 : Int64) (g8 : q_H) => (wp_X3_add (w) (r5) (r7) (r9) g8 (fun (g10 : q_H) => (lp_X4_gatherWants_6 w x2 E n ((x3 + 1)) g10)))))))))))))))
def lp_X4_gatherWants_58 (w : Nat) (E : Int32 → q_H → Prop) : Nat → Int32 → q_H → Prop
  | 0, _, _ => False
  | n + 1, x3, h => (wp_X0_size (1) h (fun (r13 : Int32) (g12 : q_H) => ((r13 ≤ x3 → (E (x3) g12)) ∧ (¬ (r13 ≤ x3) → (wp_X0_ticksOf (1) (x3) g12 (fun (r15 : Int64) (g14 : q_H) => (wp_X4_leastTick (((Prod.snd g12 0 0 5) &&& r15)) g14 (fun (r17 : Int32) (g16 : q_H) => ((r17 = (-1) → (lp_X4_gatherWants_58 w E n ((x3 + 1)) g16)) ∧ (¬ (r17 = (-1)) → (wp_X0_programOf (1) (x3) g16 (fun (r19 : Int32) (g18 : q_H) => (wp_X0_partOf (1) (x3) g18 (fun (r21 : Int32) (g20 : q_H) => (wp_X3_add (w) (r19) (r21) ((1 <<< (Int32.toInt64 r17 &&& 63))) g20 (fun (g22 : q_H) => (lp_X4_gatherWants_58 w E n ((x3 + 1)) g22)))))))))))))))))
def wp_X4_gatherWants (w : Nat) (a2 : Int32) (h : q_H) (Q : q_H → Prop) : Prop := (wp_X3_clear (w) h (fun (g1 : q_H) => (∃ n11 : Nat, lp_X4_gatherWants_6 w (a2) (fun (y3_11 : Int32) (g11 : q_H) => (∃ n23 : Nat, lp_X4_gatherWants_58 w  (fun (y3_23 : Int32) (g23 : q_H) => (wp_X3_spread (w) g23 (fun (g24 : q_H) => (Q g24)))) n23 (0) g11)) n11 (0) g1)))
def wp_X4_need (a1 : Int32) (a2 : Int32) (a3 : Int32) (h : q_H) (Q : Int32 → q_H → Prop) : Prop := (wp_X4_isPart (a1) h (fun (r2 : Int32) (g1 : q_H) => ((r2 = 0 → (Q 0 g1)) ∧ (¬ (r2 = 0) → (wp_X4_isPart (a2) g1 (fun (r4 : Int32) (g3 : q_H) => ((r4 = 0 → (Q 0 g3)) ∧ (¬ (r4 = 0) → (vp_in a1 6 ∧ (wp_X4_hasPart ((Prod.fst g3 7 0 (Int32.toNatClampNeg a1))) (a2) g3 (fun (r7 : Int32) (g6 : q_H) => ((r7 = a3 → (Q 0 g6)) ∧ (¬ (r7 = a3) → ((a3 = 0 → (vp_in a1 6 ∧ (vp_in a1 6 ∧ (wp_X4_gatherWants (0) ((-1)) (q_sI g6 7 0 (Int32.toNatClampNeg a1) ((Prod.fst g6 7 0 (Int32.toNatClampNeg a1)) ^^^ (1 <<< (a2 &&& 31)))) (fun (g10 : q_H) => (Q 1 g10)))))) ∧ (¬ (a3 = 0) → (wp_X4_leadsTo (a2) (a1) g6 (fun (r12 : Int32) (g11 : q_H) => ((r12 = 0 → (vp_in a1 6 ∧ (vp_in a1 6 ∧ (wp_X4_gatherWants (0) ((-1)) (q_sI g11 7 0 (Int32.toNatClampNeg a1) ((Prod.fst g11 7 0 (Int32.toNatClampNeg a1)) ^^^ (1 <<< (a2 &&& 31)))) (fun (g15 : q_H) => (Q 1 g15)))))) ∧ (¬ (r12 = 0) → (Q 0 g11))))))))))))))))))))
def wp_X4_isProgram (a0 : Int32) (h : q_H) (Q : Int32 → q_H → Prop) : Prop := ((a0 < 0 → (Q 0 h)) ∧ (¬ (a0 < 0) → ((8 ≤ a0 → (Q 0 h)) ∧ (¬ (8 ≤ a0) → (Q 1 h)))))
def wp_X4_hold (a1 : Int32) (a2 : Int32) (a3 : Int32) (a4 : Int32) (h : q_H) (Q : Int32 → q_H → Prop) : Prop := (wp_X4_isProgram (a1) h (fun (r2 : Int32) (g1 : q_H) => ((r2 = 0 → (Q (-1) g1)) ∧ (¬ (r2 = 0) → (wp_X4_isPart (a2) g1 (fun (r4 : Int32) (g3 : q_H) => ((r4 = 0 → (Q (-1) g3)) ∧ (¬ (r4 = 0) → ((a3 < 0 → (Q (-1) g3)) ∧ (¬ (a3 < 0) → ((a4 ≤ a3 → (Q (-1) g3)) ∧ (¬ (a4 ≤ a3) → ((a4 ≤ 64 → (wp_X0_add (0) (a1) (a2) (a3) (a4) g3 (fun (r6 : Int32) (g5 : q_H) => (wp_X4_gatherWants (0) ((-1)) g5 (fun (g7 : q_H) => (Q r6 g7)))))) ∧ (¬ (a4 ≤ 64) → (Q (-1) g3)))))))))))))))
def wp_X4_back (a1 : Int32) (a2 : Int32) (h : q_H) (Q : Int32 → q_H → Prop) : Prop := (wp_X0_has (0) (a1) h (fun (r2 : Int32) (g1 : q_H) => ((r2 = 0 → (Q 0 g1)) ∧ (¬ (r2 = 0) → (wp_X0_fromOf (0) (a1) g1 (fun (r4 : Int32) (g3 : q_H) => ((a2 < r4 → (Q 0 g3)) ∧ (¬ (a2 < r4) → (wp_X0_toOf (0) (a1) g3 (fun (r6 : Int32) (g5 : q_H) => ((a2 < r6 → (wp_X0_endAhead (0) (a1) (a2) g5 (fun (g7 : q_H) => (wp_X4_gatherWants (0) ((-1)) g7 (fun (g8 : q_H) => (Q 1 g8)))))) ∧ (¬ (a2 < r6) → (Q 0 g5)))))))))))))
def lp_X4_fewestWakings_4 (E : Int64 → Int32 → q_H → Prop) : Nat → Int64 → Int32 → q_H → Prop
  | 0, _, _, _ => False
  | n + 1, x1, x3, h => (wp_X0_size (1) h (fun (r2 : Int32) (g1 : q_H) => ((r2 ≤ x3 → (E (x1) (x3) g1)) ∧ (¬ (r2 ≤ x3) → (wp_X0_firstEndWithNone (1) (x1) g1 (fun (r4 : Int32) (g3 : q_H) => ((r4 = (-1) → (E (x1) (x3) g3)) ∧ (¬ (r4 = (-1)) → (lp_X4_fewestWakings_4  E n ((x1 ||| (1 <<< (Int32.toInt64 (r4 - 1) &&& 63)))) ((x3 + 1)) g3)))))))))
def wp_X4_fewestWakings (h : q_H) (Q : Int64 → q_H → Prop) : Prop := (∃ n5 : Nat, lp_X4_fewestWakings_4  (fun (y1_5 : Int64) (y3_5 : Int32) (g5 : q_H) => (Q y1_5 g5)) n5 (0) (0) h)
def wp_X4_timer (a1 : Int32) (a2 : Int32) (a3 : Int32) (a4 : Int32) (h : q_H) (Q : Int32 → q_H → Prop) : Prop := (wp_X4_isProgram (a1) h (fun (r2 : Int32) (g1 : q_H) => ((r2 = 0 → (Q (-1) g1)) ∧ (¬ (r2 = 0) → (wp_X4_isPart (a2) g1 (fun (r4 : Int32) (g3 : q_H) => ((r4 = 0 → (Q (-1) g3)) ∧ (¬ (r4 = 0) → ((a3 < 0 → (Q (-1) g3)) ∧ (¬ (a3 < 0) → ((a4 < a3 → (Q (-1) g3)) ∧ (¬ (a4 < a3) → ((a4 < 64 → (wp_X0_add (1) (a1) (a2) (a3) ((a4 + 1)) g3 (fun (r6 : Int32) (g5 : q_H) => (wp_X4_fewestWakings  g5 (fun (r8 : Int64) (g7 : q_H) => (wp_X4_gatherWants (0) ((-1)) (q_sL g7 0 0 5 r8) (fun (g9 : q_H) => (Q r6 g9)))))))) ∧ (¬ (a4 < 64) → (Q (-1) g3)))))))))))))))
def wp_X4_rule (a1 : Int32) (a2 : Int32) (a3 : Int32) (a4 : Int32) (h : q_H) (Q : Int32 → q_H → Prop) : Prop := (wp_X4_isPart (a1) h (fun (r2 : Int32) (g1 : q_H) => ((r2 = 0 → (Q 0 g1)) ∧ (¬ (r2 = 0) → (wp_X4_rises (a2) (a3) (a4) (64) g1 (fun (r4 : Int32) (g3 : q_H) => ((r4 = 0 → (Q 0 g3)) ∧ (¬ (r4 = 0) → (vp_in a1 6 ∧ (wp_X1_setThresholds ((Int32.toNatClampNeg a1)) (a2) (a3) (a4) g3 (fun (g6 : q_H) => (Q 1 g6))))))))))))
def wp_X4_layOutIdle (a1 : Int32) (h : q_H) (Q : q_H → Prop) : Prop := (wp_X3_ticksOf (0) (a1) h (fun (r2 : Int64) (g1 : q_H) => (wp_X2_layOut (r2) g1 (fun (g3 : q_H) => (Q g3)))))
def wp_X4_drainByRule (a1 : Int32) (h : q_H) (Q : Int32 → q_H → Prop) : Prop := (wp_X4_layOutIdle (a1) h (fun (g1 : q_H) => (vp_in a1 6 ∧ (wp_X3_ticksOf (0) (a1) g1 (fun (r4 : Int64) (g3 : q_H) => (wp_X1_drainAwake ((Int32.toNatClampNeg a1)) (r4) g3 (fun (r6 : Int32) (g5 : q_H) => (vp_in a1 6 ∧ (wp_X1_sumByRule ((Int32.toNatClampNeg a1)) g5 (fun (r9 : Int32) (g8 : q_H) => (Q (r6 + r9) g8)))))))))))
def wp_X4_learn (a1 : Int32) (h : q_H) (Q : Int32 → q_H → Prop) : Prop := (wp_X4_isPart (a1) h (fun (r2 : Int32) (g1 : q_H) => ((r2 = 0 → (Q (-1) g1)) ∧ (¬ (r2 = 0) → (wp_X4_layOutIdle (a1) g1 (fun (g3 : q_H) => (vp_in a1 6 ∧ (wp_X1_takeBestThresholds ((Int32.toNatClampNeg a1)) g3 (fun (g5 : q_H) => (wp_X4_drainByRule (a1) g5 (fun (r7 : Int32) (g6 : q_H) => (Q r7 g6))))))))))))
def wp_X4_look (a1 : Int32) (h : q_H) (Q : Int32 → q_H → Prop) : Prop := ((Int32.toInt a1 = 0 → (Q (Prod.fst h 0 0 1) h)) ∧ (Int32.toInt a1 = 1 → (wp_X0_size (0) h (fun (r2 : Int32) (g1 : q_H) => (Q r2 g1)))) ∧ (Int32.toInt a1 = 2 → (wp_X0_size (1) h (fun (r4 : Int32) (g3 : q_H) => (Q r4 g3)))) ∧ (Int32.toInt a1 = 3 → (wp_J13_bitCount_95d88 ((Prod.snd h 0 0 5)) h (fun (r6 : Int32) (g5 : q_H) => (Q r6 g5)))) ∧ ((Int32.toInt a1 < 0 ∨ 3 < Int32.toInt a1) → (Q (-1) h)))
def wp_X4_held (a1 : Int32) (a2 : Int32) (h : q_H) (Q : Int32 → q_H → Prop) : Prop := (wp_X0_has (0) (a1) h (fun (r2 : Int32) (g1 : q_H) => ((r2 = 0 → (Q (-1) g1)) ∧ (¬ (r2 = 0) → ((Int32.toInt a2 = 0 → (wp_X0_programOf (0) (a1) g1 (fun (r4 : Int32) (g3 : q_H) => (Q r4 g3)))) ∧ (Int32.toInt a2 = 1 → (wp_X0_partOf (0) (a1) g1 (fun (r6 : Int32) (g5 : q_H) => (Q r6 g5)))) ∧ (Int32.toInt a2 = 2 → (wp_X0_fromOf (0) (a1) g1 (fun (r8 : Int32) (g7 : q_H) => (Q r8 g7)))) ∧ (Int32.toInt a2 = 3 → (wp_X0_toOf (0) (a1) g1 (fun (r10 : Int32) (g9 : q_H) => (Q r10 g9)))) ∧ ((Int32.toInt a2 < 0 ∨ 3 < Int32.toInt a2) → (Q (-1) g1)))))))
def lp_X4_waking_10 (Q : Int32 → q_H → Prop) (E : Int32 → Int32 → q_H → Prop) : Nat → Int32 → Int32 → q_H → Prop
  | 0, _, _, _ => False
  | n + 1, x2, x3, h => ((64 ≤ x3 → (E (x2) (x3) h)) ∧ (¬ (64 ≤ x3) → (wp_X4_hasTick ((Prod.snd h 0 0 5)) (x3) h (fun (r2 : Int32) (g1 : q_H) => ((r2 = 0 → (lp_X4_waking_10  Q E n (x2) ((x3 + 1)) g1)) ∧ (¬ (r2 = 0) → ((x2 = 0 → (Q x3 g1)) ∧ (¬ (x2 = 0) → (lp_X4_waking_10  Q E n ((x2 + (-1))) ((x3 + 1)) g1)))))))))
def wp_X4_waking (a1 : Int32) (h : q_H) (Q : Int32 → q_H → Prop) : Prop := ((0 ≤ a1 → (∃ n3 : Nat, lp_X4_waking_10  Q (fun (y2_3 : Int32) (y3_3 : Int32) (g3 : q_H) => (Q (-1) g3)) n3 (a1) (0) h)) ∧ (¬ (0 ≤ a1) → (Q (-1) h)))
def wp_X4_fires (a1 : Int32) (h : q_H) (Q : Int32 → q_H → Prop) : Prop := (wp_X0_has (1) (a1) h (fun (r2 : Int32) (g1 : q_H) => ((r2 = 0 → (Q (-1) g1)) ∧ (¬ (r2 = 0) → (wp_X0_ticksOf (1) (a1) g1 (fun (r4 : Int64) (g3 : q_H) => (wp_X4_leastTick (((Prod.snd g1 0 0 5) &&& r4)) g3 (fun (r6 : Int32) (g5 : q_H) => (Q r6 g5)))))))))
def wp_X4_isTick (a0 : Int32) (h : q_H) (Q : Int32 → q_H → Prop) : Prop := ((a0 < 0 → (Q 0 h)) ∧ (¬ (a0 < 0) → ((64 ≤ a0 → (Q 0 h)) ∧ (¬ (64 ≤ a0) → (Q 1 h)))))
def wp_X4_wanted (a1 : Int32) (a2 : Int32) (h : q_H) (Q : Int32 → q_H → Prop) : Prop := (wp_X4_isPart (a1) h (fun (r2 : Int32) (g1 : q_H) => ((r2 = 0 → (Q (-1) g1)) ∧ (¬ (r2 = 0) → (wp_X4_isTick (a2) g1 (fun (r4 : Int32) (g3 : q_H) => ((r4 = 0 → (Q (-1) g3)) ∧ (¬ (r4 = 0) → (wp_X3_ticksOf (0) (a1) g3 (fun (r6 : Int64) (g5 : q_H) => (wp_X4_hasTick (r6) (a2) g5 (fun (r8 : Int32) (g7 : q_H) => ((r8 = 0 → (Q 0 g7)) ∧ (¬ (r8 = 0) → (Q 1 g7)))))))))))))))
def wp_X4_when (a1 : Int32) (h : q_H) (Q : Int64 → q_H → Prop) : Prop := (wp_X4_isPart (a1) h (fun (r2 : Int32) (g1 : q_H) => ((r2 = 0 → (Q 0 g1)) ∧ (¬ (r2 = 0) → (wp_X3_ticksOf (0) (a1) g1 (fun (r4 : Int64) (g3 : q_H) => (Q r4 g3)))))))
def wp_X4_spans (a1 : Int32) (h : q_H) (Q : Int32 → q_H → Prop) : Prop := (wp_X4_isPart (a1) h (fun (r2 : Int32) (g1 : q_H) => ((r2 = 0 → (Q (-1) g1)) ∧ (¬ (r2 = 0) → (wp_X4_layOutIdle (a1) g1 (fun (g3 : q_H) => (wp_X2_size  g3 (fun (r5 : Int32) (g4 : q_H) => (Q r5 g4)))))))))
def wp_X4_span (a1 : Int32) (a2 : Int32) (a3 : Int32) (h : q_H) (Q : Int32 → q_H → Prop) : Prop := (wp_X4_isPart (a1) h (fun (r2 : Int32) (g1 : q_H) => ((r2 = 0 → (Q (-1) g1)) ∧ (¬ (r2 = 0) → (wp_X4_layOutIdle (a1) g1 (fun (g3 : q_H) => (wp_X2_has (a2) g3 (fun (r5 : Int32) (g4 : q_H) => ((r5 = 0 → (Q (-1) g4)) ∧ (¬ (r5 = 0) → (wp_X2_lenOf (a2) g4 (fun (r7 : Int32) (g6 : q_H) => (wp_X2_endsAll (a2) g6 (fun (r9 : Int32) (g8 : q_H) => (vp_in a1 6 ∧ (wp_X1_bestState ((Int32.toNatClampNeg a1)) (r7) (r9) g8 (fun (r12 : Int32) (g11 : q_H) => ((Int32.toInt a3 = 0 → (wp_X2_firstOf (a2) g11 (fun (r14 : Int32) (g13 : q_H) => (Q r14 g13)))) ∧ (Int32.toInt a3 = 1 → (Q r7 g11)) ∧ (Int32.toInt a3 = 2 → (Q r12 g11)) ∧ (Int32.toInt a3 = 3 → (vp_in a1 6 ∧ (wp_X1_sumIn ((Int32.toNatClampNeg a1)) (r12) (r7) (r9) g11 (fun (r17 : Int32) (g16 : q_H) => (Q r17 g16))))) ∧ (Int32.toInt a3 = 4 → (vp_in a1 6 ∧ (wp_X1_sumIn ((Int32.toNatClampNeg a1)) (0) (r7) (r9) g11 (fun (r20 : Int32) (g19 : q_H) => (Q r20 g19))))) ∧ (Int32.toInt a3 = 5 → ((r9 = 0 → ((r12 = 0 → (Q (-1) g11)) ∧ (¬ (r12 = 0) → (wp_X2_firstOf (a2) g11 (fun (r22 : Int32) (g21 : q_H) => (vp_in a1 6 ∧ (wp_X1_restIn ((Int32.toNatClampNeg a1)) (r12) (r7) (r9) g21 (fun (r25 : Int32) (g24 : q_H) => (Q (r22 + r25) g24))))))))) ∧ (¬ (r9 = 0) → (Q (-1) g11)))) ∧ ((Int32.toInt a3 < 0 ∨ 5 < Int32.toInt a3) → (Q (-1) g11))))))))))))))))))))
def wp_X4_drainInPlan (a1 : Int32) (a2 : Int64) (h : q_H) (Q : Int32 → q_H → Prop) : Prop := (wp_X2_layOut (a2) h (fun (g1 : q_H) => (vp_in a1 6 ∧ (wp_X1_drainAwake ((Int32.toNatClampNeg a1)) (a2) g1 (fun (r4 : Int32) (g3 : q_H) => (vp_in a1 6 ∧ (wp_X1_planned ((Int32.toNatClampNeg a1)) g3 (fun (r7 : Int32) (g6 : q_H) => (Q (r4 + r7) g6)))))))))
def wp_X4_drain (a1 : Int32) (h : q_H) (Q : Int32 → q_H → Prop) : Prop := (wp_X4_isPart (a1) h (fun (r2 : Int32) (g1 : q_H) => ((r2 = 0 → (Q (-1) g1)) ∧ (¬ (r2 = 0) → (wp_X3_ticksOf (0) (a1) g1 (fun (r4 : Int64) (g3 : q_H) => (wp_X4_drainInPlan (a1) (r4) g3 (fun (r6 : Int32) (g5 : q_H) => (Q r6 g5)))))))))
def wp_X4_ruled (a1 : Int32) (h : q_H) (Q : Int32 → q_H → Prop) : Prop := (wp_X4_isPart (a1) h (fun (r2 : Int32) (g1 : q_H) => ((r2 = 0 → (Q (-1) g1)) ∧ (¬ (r2 = 0) → (wp_X4_drainByRule (a1) g1 (fun (r4 : Int32) (g3 : q_H) => (Q r4 g3)))))))
def wp_X4_state (a1 : Int32) (a2 : Int32) (h : q_H) (Q : Int32 → q_H → Prop) : Prop := (wp_X4_isPart (a1) h (fun (r2 : Int32) (g1 : q_H) => ((r2 = 0 → (Q (-1) g1)) ∧ (¬ (r2 = 0) → (wp_X4_isTick (a2) g1 (fun (r4 : Int32) (g3 : q_H) => ((r4 = 0 → (Q (-1) g3)) ∧ (¬ (r4 = 0) → (wp_X4_layOutIdle (a1) g3 (fun (g5 : q_H) => (wp_X2_find (a2) g5 (fun (r7 : Int32) (g6 : q_H) => ((r7 = (-1) → (Q 0 g6)) ∧ (¬ (r7 = (-1)) → (wp_X2_lenOf (r7) g6 (fun (r9 : Int32) (g8 : q_H) => (wp_X2_endsAll (r7) g8 (fun (r11 : Int32) (g10 : q_H) => (vp_in a1 6 ∧ (wp_X1_bestState ((Int32.toNatClampNeg a1)) (r9) (r11) g10 (fun (r14 : Int32) (g13 : q_H) => (wp_X2_firstOf (r7) g13 (fun (r16 : Int32) (g15 : q_H) => (vp_in a1 6 ∧ (wp_X1_restIn ((Int32.toNatClampNeg a1)) (r14) (r9) (r11) g15 (fun (r19 : Int32) (g18 : q_H) => ((r19 ≤ (a2 - r16) → (Q 0 g18)) ∧ (¬ (r19 ≤ (a2 - r16)) → (Q r14 g18)))))))))))))))))))))))))))))
def wp_X4_ruledState (a1 : Int32) (a2 : Int32) (h : q_H) (Q : Int32 → q_H → Prop) : Prop := (wp_X4_isPart (a1) h (fun (r2 : Int32) (g1 : q_H) => ((r2 = 0 → (Q (-1) g1)) ∧ (¬ (r2 = 0) → (wp_X4_isTick (a2) g1 (fun (r4 : Int32) (g3 : q_H) => ((r4 = 0 → (Q (-1) g3)) ∧ (¬ (r4 = 0) → (wp_X4_layOutIdle (a1) g3 (fun (g5 : q_H) => (wp_X2_find (a2) g5 (fun (r7 : Int32) (g6 : q_H) => ((r7 = (-1) → (Q 0 g6)) ∧ (¬ (r7 = (-1)) → (wp_X2_firstOf (r7) g6 (fun (r9 : Int32) (g8 : q_H) => (vp_in a1 6 ∧ (wp_X2_lenOf (r7) g8 (fun (r12 : Int32) (g11 : q_H) => (wp_X2_endsAll (r7) g11 (fun (r14 : Int32) (g13 : q_H) => (wp_X1_restByRule ((Int32.toNatClampNeg a1)) (r12) (r14) g13 (fun (r16 : Int32) (g15 : q_H) => ((r16 ≤ (a2 - r9) → (Q 0 g15)) ∧ (¬ (r16 ≤ (a2 - r9)) → (vp_in a1 6 ∧ (wp_X1_stateByRule ((Int32.toNatClampNeg a1)) ((a2 - r9)) g15 (fun (r19 : Int32) (g18 : q_H) => (Q r19 g18)))))))))))))))))))))))))))))
def lp_X4_drainOfAll_4 (w : Nat) (E : Int32 → Int32 → q_H → Prop) : Nat → Int32 → Int32 → q_H → Prop
  | 0, _, _, _ => False
  | n + 1, x2, x3, h => (((Prod.fst h 0 0 1) ≤ x3 → (E (x2) (x3) h)) ∧ (¬ ((Prod.fst h 0 0 1) ≤ x3) → (wp_X3_ticksOf (w) (x3) h (fun (r2 : Int64) (g1 : q_H) => (wp_X4_drainInPlan (x3) (r2) g1 (fun (r4 : Int32) (g3 : q_H) => (lp_X4_drainOfAll_4 w E n ((x2 + r4)) ((x3 + 1)) g3)))))))
def wp_X4_drainOfAll (w : Nat) (h : q_H) (Q : Int32 → q_H → Prop) : Prop := (∃ n5 : Nat, lp_X4_drainOfAll_4 w  (fun (y2_5 : Int32) (y3_5 : Int32) (g5 : q_H) => (Q y2_5 g5)) n5 (0) (0) h)
def wp_X4_all (h : q_H) (Q : Int32 → q_H → Prop) : Prop := (wp_X4_drainOfAll (0) h (fun (r2 : Int32) (g1 : q_H) => (Q r2 g1)))
def wp_X4_without (a1 : Int32) (h : q_H) (Q : Int32 → q_H → Prop) : Prop := (wp_X0_has (0) (a1) h (fun (r2 : Int32) (g1 : q_H) => ((r2 = 0 → (Q (-100001) g1)) ∧ (¬ (r2 = 0) → (wp_X4_gatherWants (1) (a1) g1 (fun (g3 : q_H) => (wp_X4_drainOfAll (0) g3 (fun (r5 : Int32) (g4 : q_H) => (wp_X4_drainOfAll (1) g4 (fun (r7 : Int32) (g6 : q_H) => (Q (r5 - r7) g6)))))))))))
def wp_X4_drainInSpans (a1 : Int32) (h : q_H) (Q : Int32 → q_H → Prop) : Prop := (wp_X4_layOutIdle (a1) h (fun (g1 : q_H) => (vp_in a1 6 ∧ (wp_X1_planned ((Int32.toNatClampNeg a1)) g1 (fun (r4 : Int32) (g3 : q_H) => (Q r4 g3))))))
def lp_X4_blameIn_16 (x1 : Int32) (x4 : Int64) (E : Int32 → Int32 → q_H → Prop) : Nat → Int32 → Int32 → q_H → Prop
  | 0, _, _, _ => False
  | n + 1, x3, x6, h => ((64 ≤ x6 → (E (x3) (x6) h)) ∧ (¬ (64 ≤ x6) → (wp_X4_hasTick (x4) (x6) h (fun (r4 : Int32) (g3 : q_H) => ((r4 = 0 → (lp_X4_blameIn_16 x1 x4 E n (x3) ((x6 + 1)) g3)) ∧ (¬ (r4 = 0) → (wp_X3_programsAt (0) (x1) (x6) g3 (fun (r6 : Int32) (g5 : q_H) => ((r6 ≤ 0 → (lp_X4_blameIn_16 x1 x4 E n ((x3 + 0)) ((x6 + 1)) g5)) ∧ (¬ (r6 ≤ 0) → (¬ r6 = 0 ∧ (lp_X4_blameIn_16 x1 x4 E n ((x3 + (840 / r6))) ((x6 + 1)) g5))))))))))))
def wp_X4_blameIn (a1 : Int32) (a2 : Int32) (h : q_H) (Q : Int32 → q_H → Prop) : Prop := (wp_X3_ticksBy (0) (a2) (a1) h (fun (r2 : Int64) (g1 : q_H) => (∃ n8 : Nat, lp_X4_blameIn_16 (a1) (r2) (fun (y3_8 : Int32) (y6_8 : Int32) (g8 : q_H) => (vp_in a1 6 ∧ (wp_X1_drainIn ((Int32.toNatClampNeg a1)) (0) g8 (fun (r11 : Int32) (g10 : q_H) => (Q (y3_8 * r11) g10))))) n8 (0) (0) g1)))
def lp_X4_blame_19 (x1 : Int32) (E : Int32 → Int32 → q_H → Prop) : Nat → Int32 → Int32 → q_H → Prop
  | 0, _, _, _ => False
  | n + 1, x2, x3, h => (((Prod.fst h 0 0 1) ≤ x3 → (E (x2) (x3) h)) ∧ (¬ ((Prod.fst h 0 0 1) ≤ x3) → ((x1 = 8 → (wp_X4_drainInSpans (x3) h (fun (r4 : Int32) (g3 : q_H) => (lp_X4_blame_19 x1 E n ((x2 + (840 * r4))) ((x3 + 1)) g3)))) ∧ (¬ (x1 = 8) → (wp_X4_blameIn (x3) (x1) h (fun (r2 : Int32) (g1 : q_H) => (lp_X4_blame_19 x1 E n ((x2 + r2)) ((x3 + 1)) g1)))))))
def wp_X4_blame (a1 : Int32) (h : q_H) (Q : Int32 → q_H → Prop) : Prop := ((a1 = 8 → (∃ n5 : Nat, lp_X4_blame_19 (a1) (fun (y2_5 : Int32) (y3_5 : Int32) (g5 : q_H) => (Q y2_5 g5)) n5 (0) (0) h)) ∧ (¬ (a1 = 8) → (wp_X4_isProgram (a1) h (fun (r7 : Int32) (g6 : q_H) => ((r7 = 0 → (Q (-1) g6)) ∧ (¬ (r7 = 0) → (∃ n8 : Nat, lp_X4_blame_19 (a1) (fun (y2_8 : Int32) (y3_8 : Int32) (g8 : q_H) => (Q y2_8 g8)) n8 (0) (0) g6)))))))
def lp_X4_gettingUp_4 (x1 : Int32) (E : Int32 → Int32 → q_H → Prop) : Nat → Int32 → Int32 → q_H → Prop
  | 0, _, _, _ => False
  | n + 1, x2, x3, h => (((Prod.fst h 0 0 1) ≤ x3 → (E (x2) (x3) h)) ∧ (¬ ((Prod.fst h 0 0 1) ≤ x3) → (wp_X3_ticksOf (0) (x3) h (fun (r2 : Int64) (g1 : q_H) => ((x1 ≤ 0 → (wp_X4_hasTick (r2) (x1) g1 (fun (r4 : Int32) (g3 : q_H) => ((r4 = 0 → (lp_X4_gettingUp_4 x1 E n (x2) ((x3 + 1)) g3)) ∧ (¬ (r4 = 0) → (lp_X4_gettingUp_4 x1 E n ((x2 ||| (1 <<< (x3 &&& 31)))) ((x3 + 1)) g3)))))) ∧ (¬ (x1 ≤ 0) → (wp_X4_hasTick (r2) ((x1 - 1)) g1 (fun (r6 : Int32) (g5 : q_H) => ((r6 = 0 → (wp_X4_hasTick (r2) (x1) g5 (fun (r8 : Int32) (g7 : q_H) => ((r8 = 0 → (lp_X4_gettingUp_4 x1 E n (x2) ((x3 + 1)) g7)) ∧ (¬ (r8 = 0) → (lp_X4_gettingUp_4 x1 E n ((x2 ||| (1 <<< (x3 &&& 31)))) ((x3 + 1)) g7)))))) ∧ (¬ (r6 = 0) → (wp_X4_hasTick (r2) (x1) g5 (fun (r10 : Int32) (g9 : q_H) => ((r10 = 0 → (lp_X4_gettingUp_4 x1 E n (x2) ((x3 + 1)) g9)) ∧ (¬ (r10 = 0) → (lp_X4_gettingUp_4 x1 E n (x2) ((x3 + 1)) g9)))))))))))))))
def wp_X4_gettingUp (a1 : Int32) (h : q_H) (Q : Int32 → q_H → Prop) : Prop := (∃ n11 : Nat, lp_X4_gettingUp_4 (a1) (fun (y2_11 : Int32) (y3_11 : Int32) (g11 : q_H) => (Q y2_11 g11)) n11 (0) (0) h)
def lp_X4_leastReady_2 (x1 : Int32) (Q : Int32 → q_H → Prop) (E : Int32 → q_H → Prop) : Nat → Int32 → q_H → Prop
  | 0, _, _ => False
  | n + 1, x2, h => ((6 ≤ x2 → (E (x2) h)) ∧ (¬ (6 ≤ x2) → (wp_X4_hasPart (x1) (x2) h (fun (r2 : Int32) (g1 : q_H) => ((r2 = 0 → (lp_X4_leastReady_2 x1 Q E n ((x2 + 1)) g1)) ∧ (¬ (r2 = 0) → (vp_in x2 6 ∧ ((((Prod.fst g1 7 0 (Int32.toNatClampNeg x2)) &&& x1) = 0 → (Q x2 g1)) ∧ (¬ (((Prod.fst g1 7 0 (Int32.toNatClampNeg x2)) &&& x1) = 0) → (lp_X4_leastReady_2 x1 Q E n ((x2 + 1)) g1))))))))))
def wp_X4_leastReady (a1 : Int32) (h : q_H) (Q : Int32 → q_H → Prop) : Prop := (∃ n4 : Nat, lp_X4_leastReady_2 (a1) Q (fun (y2_4 : Int32) (g4 : q_H) => (Q (-1) g4)) n4 (0) h)
def lp_X4_order_22 (x2 : Int32) (Q : Int32 → q_H → Prop) (E : Int32 → Int32 → q_H → Prop) : Nat → Int32 → Int32 → q_H → Prop
  | 0, _, _, _ => False
  | n + 1, x3, x4, h => ((6 ≤ x4 → (E (x3) (x4) h)) ∧ (¬ (6 ≤ x4) → ((x3 = 0 → (E (x3) (x4) h)) ∧ (¬ (x3 = 0) → (wp_X4_leastReady (x3) h (fun (r6 : Int32) (g5 : q_H) => ((x4 = x2 → (Q r6 g5)) ∧ (¬ (x4 = x2) → ((r6 = (-1) → (lp_X4_order_22 x2 Q E n (x3) ((x4 + 1)) g5)) ∧ (¬ (r6 = (-1)) → (lp_X4_order_22 x2 Q E n ((x3 &&& ((1 <<< (r6 &&& 31)) ^^^ (-1)))) ((x4 + 1)) g5)))))))))))
def wp_X4_order (a1 : Int32) (a2 : Int32) (h : q_H) (Q : Int32 → q_H → Prop) : Prop := (wp_X4_isTick (a1) h (fun (r2 : Int32) (g1 : q_H) => ((r2 = 0 → (Q (-1) g1)) ∧ (¬ (r2 = 0) → ((0 ≤ a2 → (wp_X4_gettingUp (a1) g1 (fun (r4 : Int32) (g3 : q_H) => (∃ n7 : Nat, lp_X4_order_22 (a2) Q (fun (y3_7 : Int32) (y4_7 : Int32) (g7 : q_H) => (Q (-1) g7)) n7 (r4) (0) g3)))) ∧ (¬ (0 ≤ a2) → (Q (-1) g1)))))))
def wp_X5_isIn (a0 : Int32) (a1 : Int32) (a2 : Int32) (h : q_H) (Q : Int32 → q_H → Prop) : Prop := ((a0 < a1 → (Q 0 h)) ∧ (¬ (a0 < a1) → ((a2 < a0 → (Q 0 h)) ∧ (¬ (a2 < a0) → (Q 1 h)))))
def wp_X5_isPart (a1 : Int32) (h : q_H) (Q : Int32 → q_H → Prop) : Prop := (wp_X5_isIn (a1) (0) (((Prod.fst h 18 0 0) - 1)) h (fun (r2 : Int32) (g1 : q_H) => ((r2 = 0 ∨ r2 = 1) ∧ Q r2 g1)))
def wp_X5_isTick (a0 : Int32) (h : q_H) (Q : Int32 → q_H → Prop) : Prop := (wp_X5_isIn (a0) (0) (63) h (fun (r2 : Int32) (g1 : q_H) => ((r2 = 0 ∨ r2 = 1) ∧ Q r2 g1)))
def lp_X5_part_115 (x5 : Int32) (E : Int32 → q_H → Prop) : Nat → Int32 → q_H → Prop
  | 0, _, _ => False
  | n + 1, x6, h => ((3 ≤ x6 → (E (x6) h)) ∧ (¬ (3 ≤ x6) → (vp_in ((3 * x5) + x6) 18 ∧ (lp_X5_part_115 x5 E n ((x6 + 1)) (q_sI h 22 0 (Int32.toNatClampNeg ((3 * x5) + x6)) 64)))))
def wp_X5_part (a1 : Int32) (a2 : Int32) (a3 : Int32) (a4 : Int32) (h : q_H) (Q : Int32 → q_H → Prop) : Prop := (wp_X5_isIn (a1) (0) (99) h (fun (r2 : Int32) (g1 : q_H) => ((r2 = 0 → (Q (-1) g1)) ∧ (¬ (r2 = 0) → (wp_X5_isIn (a2) (0) (a1) g1 (fun (r4 : Int32) (g3 : q_H) => ((r4 = 0 → (Q (-1) g3)) ∧ (¬ (r4 = 0) → (wp_X5_isIn (a3) (0) (a2) g3 (fun (r6 : Int32) (g5 : q_H) => ((r6 = 0 → (Q (-1) g5)) ∧ (¬ (r6 = 0) → (wp_X5_isIn (a4) (0) (a3) g5 (fun (r8 : Int32) (g7 : q_H) => ((r8 = 0 → (Q (-1) g7)) ∧ (¬ (r8 = 0) → (((Prod.fst g7 18 0 0) = 6 → (Q (-1) g7)) ∧ (¬ ((Prod.fst g7 18 0 0) = 6) → (vp_in (4 * (Prod.fst g7 18 0 0)) 24 ∧ (vp_in ((4 * (Prod.fst g7 18 0 0)) + 1) 24 ∧ (vp_in ((4 * (Prod.fst g7 18 0 0)) + 2) 24 ∧ (vp_in ((4 * (Prod.fst g7 18 0 0)) + 3) 24 ∧ (∃ n14 : Nat, lp_X5_part_115 ((Prod.fst g7 18 0 0)) (fun (y6_14 : Int32) (g14 : q_H) => (Q (Prod.fst g7 18 0 0) g14)) n14 (0) (q_sI (q_sI (q_sI (q_sI (q_sI g7 18 0 0 ((Prod.fst g7 18 0 0) + 1)) 19 0 (Int32.toNatClampNeg (4 * (Prod.fst g7 18 0 0))) a1) 19 0 (Int32.toNatClampNeg ((4 * (Prod.fst g7 18 0 0)) + 1)) a2) 19 0 (Int32.toNatClampNeg ((4 * (Prod.fst g7 18 0 0)) + 2)) a3) 19 0 (Int32.toNatClampNeg ((4 * (Prod.fst g7 18 0 0)) + 3)) a4))))))))))))))))))))))))
def wp_X5_rise (a1 : Int32) (a2 : Int32) (a3 : Int32) (a4 : Int32) (a5 : Int32) (a6 : Int32) (a7 : Int32) (h : q_H) (Q : Int32 → q_H → Prop) : Prop := (wp_X5_isPart (a1) h (fun (r2 : Int32) (g1 : q_H) => ((r2 = 0 → (Q 0 g1)) ∧ (¬ (r2 = 0) → (wp_X5_isIn (a2) (0) (999) g1 (fun (r4 : Int32) (g3 : q_H) => ((r4 = 0 → (Q 0 g3)) ∧ (¬ (r4 = 0) → (wp_X5_isIn (a3) (a2) (999) g3 (fun (r6 : Int32) (g5 : q_H) => ((r6 = 0 → (Q 0 g5)) ∧ (¬ (r6 = 0) → (wp_X5_isIn (a4) (a3) (999) g5 (fun (r8 : Int32) (g7 : q_H) => ((r8 = 0 → (Q 0 g7)) ∧ (¬ (r8 = 0) → (wp_X5_isIn (a5) (0) (9) g7 (fun (r10 : Int32) (g9 : q_H) => ((r10 = 0 → (Q 0 g9)) ∧ (¬ (r10 = 0) → (wp_X5_isIn (a6) (a5) (9) g9 (fun (r12 : Int32) (g11 : q_H) => ((r12 = 0 → (Q 0 g11)) ∧ (¬ (r12 = 0) → (wp_X5_isIn (a7) (a6) (9) g11 (fun (r14 : Int32) (g13 : q_H) => ((r14 = 0 → (Q 0 g13)) ∧ (¬ (r14 = 0) → (vp_in ((4 * a1) + 1) 24 ∧ (vp_in ((4 * a1) + 2) 24 ∧ (vp_in ((4 * a1) + 3) 24 ∧ (vp_in ((4 * a1) + 1) 24 ∧ (vp_in ((4 * a1) + 2) 24 ∧ (vp_in ((4 * a1) + 3) 24 ∧ (Q 1 (q_sI (q_sI (q_sI (q_sI (q_sI (q_sI g13 20 0 (Int32.toNatClampNeg ((4 * a1) + 1)) a2) 20 0 (Int32.toNatClampNeg ((4 * a1) + 2)) a3) 20 0 (Int32.toNatClampNeg ((4 * a1) + 3)) a4) 21 0 (Int32.toNatClampNeg ((4 * a1) + 1)) a5) 21 0 (Int32.toNatClampNeg ((4 * a1) + 2)) a6) 21 0 (Int32.toNatClampNeg ((4 * a1) + 3)) a7))))))))))))))))))))))))))))))))))))
def lp_X5_reaches_29 (x2 : Int32) (x4 : Int32) (x5 : Int32) (E : Int32 → Int32 → q_H → Prop) : Nat → Int32 → Int32 → q_H → Prop
  | 0, _, _, _ => False
  | n + 1, x3, x6, h => (((Prod.fst h 18 0 0) ≤ x6 → (E (x3) (x6) h)) ∧ (¬ ((Prod.fst h 18 0 0) ≤ x6) → ((((x3 >>> (x5 &&& 31)) &&& 1) = 1 → (vp_in ((6 * x5) + x6) 36 ∧ (((Prod.fst h 23 0 (Int32.toNatClampNeg ((6 * x5) + x6))) = 0 → (lp_X5_reaches_29 x2 x4 x5 E n (x3) ((x6 + 1)) h)) ∧ (¬ ((Prod.fst h 23 0 (Int32.toNatClampNeg ((6 * x5) + x6))) = 0) → (lp_X5_reaches_29 x2 x4 x5 E n ((x3 ||| (1 <<< (x6 &&& 31)))) ((x6 + 1)) h))))) ∧ (¬ (((x3 >>> (x5 &&& 31)) &&& 1) = 1) → (lp_X5_reaches_29 x2 x4 x5 E n (x3) ((x6 + 1)) h)))))
def lp_X5_reaches_17 (x2 : Int32) (x4 : Int32) (E : Int32 → Int32 → q_H → Prop) : Nat → Int32 → Int32 → q_H → Prop
  | 0, _, _, _ => False
  | n + 1, x3, x5, h => (((Prod.fst h 18 0 0) ≤ x5 → (E (x3) (x5) h)) ∧ (¬ ((Prod.fst h 18 0 0) ≤ x5) → (∃ n2 : Nat, lp_X5_reaches_29 (x2) (x4) (x5) (fun (y3_2 : Int32) (y6_2 : Int32) (g2 : q_H) => (lp_X5_reaches_17 x2 x4 E n (y3_2) ((x5 + 1)) g2)) n2 (x3) (0) h)))
def lp_X5_reaches_7 (x2 : Int32) (E : Int32 → Int32 → q_H → Prop) : Nat → Int32 → Int32 → q_H → Prop
  | 0, _, _, _ => False
  | n + 1, x3, x4, h => ((6 ≤ x4 → (E (x3) (x4) h)) ∧ (¬ (6 ≤ x4) → (∃ n3 : Nat, lp_X5_reaches_17 (x2) (x4) (fun (y3_3 : Int32) (y5_3 : Int32) (g3 : q_H) => (lp_X5_reaches_7 x2 E n (y3_3) ((x4 + 1)) g3)) n3 (x3) (0) h)))
def wp_X5_reaches (a1 : Int32) (a2 : Int32) (h : q_H) (Q : Int32 → q_H → Prop) : Prop := (∃ n4 : Nat, lp_X5_reaches_7 (a2) (fun (y3_4 : Int32) (y4_4 : Int32) (g4 : q_H) => ((((y3_4 >>> (a2 &&& 31)) &&& 1) = 1 → (Q 1 g4)) ∧ (¬ (((y3_4 >>> (a2 &&& 31)) &&& 1) = 1) → (Q 0 g4)))) n4 ((1 <<< (a1 &&& 31))) (0) h)
def wp_X5_need (a1 : Int32) (a2 : Int32) (a3 : Int32) (h : q_H) (Q : Int32 → q_H → Prop) : Prop := (wp_X5_isPart (a1) h (fun (r2 : Int32) (g1 : q_H) => ((r2 = 0 → (Q 0 g1)) ∧ (¬ (r2 = 0) → (wp_X5_isPart (a2) g1 (fun (r4 : Int32) (g3 : q_H) => ((r4 = 0 → (Q 0 g3)) ∧ (¬ (r4 = 0) → (vp_in ((6 * a1) + a2) 36 ∧ (((Prod.fst g3 23 0 (Int32.toNatClampNeg ((6 * a1) + a2))) = a3 → (Q 0 g3)) ∧ (¬ ((Prod.fst g3 23 0 (Int32.toNatClampNeg ((6 * a1) + a2))) = a3) → ((a3 = 0 → ((a3 = 0 ∨ a3 = 1) ∧ (vp_in ((6 * a1) + a2) 36 ∧ (Q 1 (q_sI g3 23 0 (Int32.toNatClampNeg ((6 * a1) + a2)) a3))))) ∧ (¬ (a3 = 0) → (wp_X5_reaches (a2) (a1) g3 (fun (r9 : Int32) (g8 : q_H) => ((r9 = 0 → ((a3 = 0 ∨ a3 = 1) ∧ (vp_in ((6 * a1) + a2) 36 ∧ (Q 1 (q_sI g8 23 0 (Int32.toNatClampNeg ((6 * a1) + a2)) a3))))) ∧ (¬ (r9 = 0) → (Q 0 g8))))))))))))))))))
def wp_X5_isProgram (a0 : Int32) (h : q_H) (Q : Int32 → q_H → Prop) : Prop := (wp_X5_isIn (a0) (0) (7) h (fun (r2 : Int32) (g1 : q_H) => ((r2 = 0 ∨ r2 = 1) ∧ Q r2 g1)))
def wp_X5_hold (a1 : Int32) (a2 : Int32) (a3 : Int32) (a4 : Int32) (h : q_H) (Q : Int32 → q_H → Prop) : Prop := (wp_X5_isProgram (a1) h (fun (r2 : Int32) (g1 : q_H) => ((r2 = 0 → (Q (-1) g1)) ∧ (¬ (r2 = 0) → (wp_X5_isPart (a2) g1 (fun (r4 : Int32) (g3 : q_H) => ((r4 = 0 → (Q (-1) g3)) ∧ (¬ (r4 = 0) → ((a3 < 0 → (Q (-1) g3)) ∧ (¬ (a3 < 0) → ((a4 ≤ a3 → (Q (-1) g3)) ∧ (¬ (a4 ≤ a3) → ((64 < a4 → (Q (-1) g3)) ∧ (¬ (64 < a4) → (((Prod.fst g3 18 0 1) = 20 → (Q (-1) g3)) ∧ (¬ ((Prod.fst g3 18 0 1) = 20) → (vp_in (4 * (Prod.fst g3 18 0 1)) 80 ∧ (vp_in ((4 * (Prod.fst g3 18 0 1)) + 1) 80 ∧ (vp_in ((4 * (Prod.fst g3 18 0 1)) + 2) 80 ∧ (vp_in ((4 * (Prod.fst g3 18 0 1)) + 3) 80 ∧ (Q (((Prod.fst g3 18 0 1) + 1) - 1) (q_sI (q_sI (q_sI (q_sI (q_sI g3 24 0 (Int32.toNatClampNeg (4 * (Prod.fst g3 18 0 1))) a1) 24 0 (Int32.toNatClampNeg ((4 * (Prod.fst g3 18 0 1)) + 1)) a2) 24 0 (Int32.toNatClampNeg ((4 * (Prod.fst g3 18 0 1)) + 2)) a3) 24 0 (Int32.toNatClampNeg ((4 * (Prod.fst g3 18 0 1)) + 3)) a4) 18 0 1 ((Prod.fst g3 18 0 1) + 1)))))))))))))))))))))))
def wp_X5_back (a1 : Int32) (a2 : Int32) (h : q_H) (Q : Int32 → q_H → Prop) : Prop := (wp_X5_isIn (a1) (0) (((Prod.fst h 18 0 1) - 1)) h (fun (r2 : Int32) (g1 : q_H) => ((r2 = 0 → (Q 0 g1)) ∧ (¬ (r2 = 0) → (vp_in ((4 * a1) + 2) 80 ∧ (vp_in ((4 * a1) + 3) 80 ∧ (wp_X5_isIn (a2) ((Prod.fst g1 24 0 (Int32.toNatClampNeg ((4 * a1) + 2)))) (((Prod.fst g1 24 0 (Int32.toNatClampNeg ((4 * a1) + 3))) - 1)) g1 (fun (r6 : Int32) (g5 : q_H) => ((r6 = 0 → (Q 0 g5)) ∧ (¬ (r6 = 0) → (vp_in ((4 * a1) + 3) 80 ∧ (Q 1 (q_sI g5 24 0 (Int32.toNatClampNeg ((4 * a1) + 3)) a2)))))))))))))
def wp_X5_timer (a1 : Int32) (a2 : Int32) (a3 : Int32) (a4 : Int32) (h : q_H) (Q : Int32 → q_H → Prop) : Prop := (wp_X5_isProgram (a1) h (fun (r2 : Int32) (g1 : q_H) => ((r2 = 0 → (Q (-1) g1)) ∧ (¬ (r2 = 0) → (wp_X5_isPart (a2) g1 (fun (r4 : Int32) (g3 : q_H) => ((r4 = 0 → (Q (-1) g3)) ∧ (¬ (r4 = 0) → (wp_X5_isTick (a3) g3 (fun (r6 : Int32) (g5 : q_H) => ((r6 = 0 → (Q (-1) g5)) ∧ (¬ (r6 = 0) → (wp_X5_isTick (a4) g5 (fun (r8 : Int32) (g7 : q_H) => ((r8 = 0 → (Q (-1) g7)) ∧ (¬ (r8 = 0) → ((a4 < a3 → (Q (-1) g7)) ∧ (¬ (a4 < a3) → (((Prod.fst g7 18 0 2) = 12 → (Q (-1) g7)) ∧ (¬ ((Prod.fst g7 18 0 2) = 12) → (vp_in (4 * (Prod.fst g7 18 0 2)) 48 ∧ (vp_in ((4 * (Prod.fst g7 18 0 2)) + 1) 48 ∧ (vp_in ((4 * (Prod.fst g7 18 0 2)) + 2) 48 ∧ (vp_in ((4 * (Prod.fst g7 18 0 2)) + 3) 48 ∧ (Q (((Prod.fst g7 18 0 2) + 1) - 1) (q_sI (q_sI (q_sI (q_sI (q_sI g7 25 0 (Int32.toNatClampNeg (4 * (Prod.fst g7 18 0 2))) a1) 25 0 (Int32.toNatClampNeg ((4 * (Prod.fst g7 18 0 2)) + 1)) a2) 25 0 (Int32.toNatClampNeg ((4 * (Prod.fst g7 18 0 2)) + 2)) a3) 25 0 (Int32.toNatClampNeg ((4 * (Prod.fst g7 18 0 2)) + 3)) a4) 18 0 2 ((Prod.fst g7 18 0 2) + 1)))))))))))))))))))))))))))
def wp_X5_rule (a1 : Int32) (a2 : Int32) (a3 : Int32) (a4 : Int32) (h : q_H) (Q : Int32 → q_H → Prop) : Prop := (wp_X5_isPart (a1) h (fun (r2 : Int32) (g1 : q_H) => ((r2 = 0 → (Q 0 g1)) ∧ (¬ (r2 = 0) → (wp_X5_isIn (a2) (0) (64) g1 (fun (r4 : Int32) (g3 : q_H) => ((r4 = 0 → (Q 0 g3)) ∧ (¬ (r4 = 0) → (wp_X5_isIn (a3) (a2) (64) g3 (fun (r6 : Int32) (g5 : q_H) => ((r6 = 0 → (Q 0 g5)) ∧ (¬ (r6 = 0) → (wp_X5_isIn (a4) (a3) (64) g5 (fun (r8 : Int32) (g7 : q_H) => ((r8 = 0 → (Q 0 g7)) ∧ (¬ (r8 = 0) → (vp_in (3 * a1) 18 ∧ (vp_in ((3 * a1) + 1) 18 ∧ (vp_in ((3 * a1) + 2) 18 ∧ (Q 1 (q_sI (q_sI (q_sI g7 22 0 (Int32.toNatClampNeg (3 * a1)) a2) 22 0 (Int32.toNatClampNeg ((3 * a1) + 1)) a3) 22 0 (Int32.toNatClampNeg ((3 * a1) + 2)) a4)))))))))))))))))))))
def lp_X5_wakes_20 (x1 : Int32) (x2 : Int32) (E : Int32 → Int32 → q_H → Prop) : Nat → Int32 → Int32 → q_H → Prop
  | 0, _, _, _ => False
  | n + 1, x3, x4, h => (((Prod.fst h 18 0 2) ≤ x4 → (E (x3) (x4) h)) ∧ (¬ ((Prod.fst h 18 0 2) ≤ x4) → ((x3 = 0 → (vp_in ((4 * x4) + 3) 48 ∧ (((Prod.fst h 25 0 (Int32.toNatClampNeg ((4 * x4) + 3))) = x2 → (vp_in ((4 * x4) + 2) 48 ∧ (((Prod.fst h 25 0 (Int32.toNatClampNeg ((4 * x4) + 2))) ≤ x1 → (lp_X5_wakes_20 x1 x2 E n (0) ((x4 + 1)) h)) ∧ (¬ ((Prod.fst h 25 0 (Int32.toNatClampNeg ((4 * x4) + 2))) ≤ x1) → (lp_X5_wakes_20 x1 x2 E n (1) ((x4 + 1)) h))))) ∧ (¬ ((Prod.fst h 25 0 (Int32.toNatClampNeg ((4 * x4) + 3))) = x2) → (lp_X5_wakes_20 x1 x2 E n (0) ((x4 + 1)) h))))) ∧ (¬ (x3 = 0) → (lp_X5_wakes_20 x1 x2 E n (1) ((x4 + 1)) h)))))
def lp_X5_wakes_9 (E : Int32 → Int32 → q_H → Prop) : Nat → Int32 → Int32 → q_H → Prop
  | 0, _, _, _ => False
  | n + 1, x1, x2, h => ((64 ≤ x2 → (E (x1) (x2) h)) ∧ (¬ (64 ≤ x2) → (∃ n3 : Nat, lp_X5_wakes_20 (x1) (x2) (fun (y3_3 : Int32) (y4_3 : Int32) (g3 : q_H) => ((y3_3 = 0 → (lp_X5_wakes_9  E n (x1) ((x2 + 1)) g3)) ∧ (¬ (y3_3 = 0) → (vp_in (Prod.fst g3 18 0 11) 12 ∧ (lp_X5_wakes_9  E n (x2) ((x2 + 1)) (q_sI (q_sI g3 26 0 (Int32.toNatClampNeg (Prod.fst g3 18 0 11)) x2) 18 0 11 ((Prod.fst g3 18 0 11) + 1))))))) n3 (0) (0) h)))
def wp_X5_wakes (h : q_H) (Q : q_H → Prop) : Prop := (∃ n5 : Nat, lp_X5_wakes_9  (fun (y1_5 : Int32) (y2_5 : Int32) (g5 : q_H) => (Q g5)) n5 ((-1)) (0) (q_sI h 18 0 11 0))
def lp_X5_firesAt_2 (x1 : Int32) (E : Int32 → q_H → Prop) : Nat → Int32 → q_H → Prop
  | 0, _, _ => False
  | n + 1, x2, h => (vp_in x2 12 ∧ (vp_in ((4 * x1) + 2) 48 ∧ (((Prod.fst h 25 0 (Int32.toNatClampNeg ((4 * x1) + 2))) ≤ (Prod.fst h 26 0 (Int32.toNatClampNeg x2)) → (E (x2) h)) ∧ (¬ ((Prod.fst h 25 0 (Int32.toNatClampNeg ((4 * x1) + 2))) ≤ (Prod.fst h 26 0 (Int32.toNatClampNeg x2))) → (lp_X5_firesAt_2 x1 E n ((x2 + 1)) h)))))
def wp_X5_firesAt (a1 : Int32) (h : q_H) (Q : Int32 → q_H → Prop) : Prop := (∃ n3 : Nat, lp_X5_firesAt_2 (a1) (fun (y2_3 : Int32) (g3 : q_H) => (vp_in y2_3 12 ∧ (Q (Prod.fst g3 26 0 (Int32.toNatClampNeg y2_3)) g3))) n3 (0) h)
def wp_X5_waking (a1 : Int32) (h : q_H) (Q : Int32 → q_H → Prop) : Prop := (wp_X5_wakes  h (fun (g1 : q_H) => (wp_X5_isIn (a1) (0) (((Prod.fst g1 18 0 11) - 1)) g1 (fun (r3 : Int32) (g2 : q_H) => ((r3 = 0 → (Q (-1) g2)) ∧ (¬ (r3 = 0) → (vp_in a1 12 ∧ (Q (Prod.fst g2 26 0 (Int32.toNatClampNeg a1)) g2))))))))
def wp_X5_fires (a1 : Int32) (h : q_H) (Q : Int32 → q_H → Prop) : Prop := (wp_X5_wakes  h (fun (g1 : q_H) => (wp_X5_isIn (a1) (0) (((Prod.fst g1 18 0 2) - 1)) g1 (fun (r3 : Int32) (g2 : q_H) => ((r3 = 0 → (Q (-1) g2)) ∧ (¬ (r3 = 0) → (wp_X5_firesAt (a1) g2 (fun (r5 : Int32) (g4 : q_H) => (Q r5 g4)))))))))
def wp_X5_look (a1 : Int32) (h : q_H) (Q : Int32 → q_H → Prop) : Prop := (wp_X5_wakes  h (fun (g1 : q_H) => ((a1 = 0 → (Q (Prod.fst g1 18 0 0) g1)) ∧ (¬ (a1 = 0) → ((a1 = 1 → (Q (Prod.fst g1 18 0 1) g1)) ∧ (¬ (a1 = 1) → ((a1 = 2 → (Q (Prod.fst g1 18 0 2) g1)) ∧ (¬ (a1 = 2) → ((a1 = 3 → (Q (Prod.fst g1 18 0 11) g1)) ∧ (¬ (a1 = 3) → (Q (-1) g1)))))))))))
def wp_X5_held (a1 : Int32) (a2 : Int32) (h : q_H) (Q : Int32 → q_H → Prop) : Prop := (wp_X5_isIn (a1) (0) (((Prod.fst h 18 0 1) - 1)) h (fun (r2 : Int32) (g1 : q_H) => ((r2 = 0 → (Q (-1) g1)) ∧ (¬ (r2 = 0) → (wp_X5_isIn (a2) (0) (3) g1 (fun (r4 : Int32) (g3 : q_H) => ((r4 = 0 → (Q (-1) g3)) ∧ (¬ (r4 = 0) → (vp_in ((4 * a1) + a2) 80 ∧ (Q (Prod.fst g3 24 0 (Int32.toNatClampNeg ((4 * a1) + a2))) g3))))))))))
def lp_X5_wants_6 (E : Int32 → q_H → Prop) : Nat → Int32 → q_H → Prop
  | 0, _, _ => False
  | n + 1, x1, h => ((384 ≤ x1 → (E (x1) h)) ∧ (¬ (384 ≤ x1) → (vp_in x1 384 ∧ (lp_X5_wants_6  E n ((x1 + 1)) (q_sI h 27 0 (Int32.toNatClampNeg x1) 0)))))
def lp_X5_wants_55 (x1 : Int32) (E : Int32 → q_H → Prop) : Nat → Int32 → q_H → Prop
  | 0, _, _ => False
  | n + 1, x2, h => (vp_in ((4 * x1) + 3) 80 ∧ (((Prod.fst h 24 0 (Int32.toNatClampNeg ((4 * x1) + 3))) ≤ x2 → (E (x2) h)) ∧ (¬ ((Prod.fst h 24 0 (Int32.toNatClampNeg ((4 * x1) + 3))) ≤ x2) → (vp_in ((4 * x1) + 1) 80 ∧ (vp_in ((64 * (Prod.fst h 24 0 (Int32.toNatClampNeg ((4 * x1) + 1)))) + x2) 384 ∧ (vp_in (4 * x1) 80 ∧ (vp_in ((64 * (Prod.fst h 24 0 (Int32.toNatClampNeg ((4 * x1) + 1)))) + x2) 384 ∧ (lp_X5_wants_55 x1 E n ((x2 + 1)) (q_sI h 27 0 (Int32.toNatClampNeg ((64 * (Prod.fst h 24 0 (Int32.toNatClampNeg ((4 * x1) + 1)))) + x2)) ((Prod.fst h 27 0 (Int32.toNatClampNeg ((64 * (Prod.fst h 24 0 (Int32.toNatClampNeg ((4 * x1) + 1)))) + x2))) ||| (1 <<< ((Prod.fst h 24 0 (Int32.toNatClampNeg (4 * x1))) &&& 31))))))))))))
def lp_X5_wants_28 (E : Int32 → q_H → Prop) : Nat → Int32 → q_H → Prop
  | 0, _, _ => False
  | n + 1, x1, h => (((Prod.fst h 18 0 1) ≤ x1 → (E (x1) h)) ∧ (¬ ((Prod.fst h 18 0 1) ≤ x1) → ((x1 = (Prod.fst h 18 0 13) → (lp_X5_wants_28  E n ((x1 + 1)) h)) ∧ (¬ (x1 = (Prod.fst h 18 0 13)) → (vp_in ((4 * x1) + 2) 80 ∧ (∃ n10 : Nat, lp_X5_wants_55 (x1) (fun (y2_10 : Int32) (g10 : q_H) => (lp_X5_wants_28  E n ((x1 + 1)) g10)) n10 ((Prod.fst h 24 0 (Int32.toNatClampNeg ((4 * x1) + 2)))) h))))))
def lp_X5_wants_116 (E : Int32 → q_H → Prop) : Nat → Int32 → q_H → Prop
  | 0, _, _ => False
  | n + 1, x1, h => (((Prod.fst h 18 0 2) ≤ x1 → (E (x1) h)) ∧ (¬ ((Prod.fst h 18 0 2) ≤ x1) → (vp_in ((4 * x1) + 1) 48 ∧ (wp_X5_firesAt (x1) h (fun (r14 : Int32) (g13 : q_H) => (vp_in ((64 * (Prod.fst h 25 0 (Int32.toNatClampNeg ((4 * x1) + 1)))) + r14) 384 ∧ (vp_in (4 * x1) 48 ∧ (vp_in ((64 * (Prod.fst h 25 0 (Int32.toNatClampNeg ((4 * x1) + 1)))) + r14) 384 ∧ (lp_X5_wants_116  E n ((x1 + 1)) (q_sI g13 27 0 (Int32.toNatClampNeg ((64 * (Prod.fst h 25 0 (Int32.toNatClampNeg ((4 * x1) + 1)))) + r14)) ((Prod.fst g13 27 0 (Int32.toNatClampNeg ((64 * (Prod.fst h 25 0 (Int32.toNatClampNeg ((4 * x1) + 1)))) + r14))) ||| (1 <<< ((Prod.fst g13 25 0 (Int32.toNatClampNeg (4 * x1))) &&& 31)))))))))))))
def lp_X5_wants_212 (x1 : Int32) (x2 : Int32) (x3 : Int32) (E : Int32 → q_H → Prop) : Nat → Int32 → q_H → Prop
  | 0, _, _ => False
  | n + 1, x4, h => ((64 ≤ x4 → (E (x4) h)) ∧ (¬ (64 ≤ x4) → (vp_in ((64 * x3) + x4) 384 ∧ (vp_in ((64 * x2) + x4) 384 ∧ (vp_in ((64 * x3) + x4) 384 ∧ (lp_X5_wants_212 x1 x2 x3 E n ((x4 + 1)) (q_sI h 27 0 (Int32.toNatClampNeg ((64 * x3) + x4)) ((Prod.fst h 27 0 (Int32.toNatClampNeg ((64 * x3) + x4))) ||| (Prod.fst h 27 0 (Int32.toNatClampNeg ((64 * x2) + x4)))))))))))
def lp_X5_wants_187 (x1 : Int32) (x2 : Int32) (E : Int32 → q_H → Prop) : Nat → Int32 → q_H → Prop
  | 0, _, _ => False
  | n + 1, x3, h => (((Prod.fst h 18 0 0) ≤ x3 → (E (x3) h)) ∧ (¬ ((Prod.fst h 18 0 0) ≤ x3) → (vp_in ((6 * x2) + x3) 36 ∧ (((Prod.fst h 23 0 (Int32.toNatClampNeg ((6 * x2) + x3))) = 0 → (lp_X5_wants_187 x1 x2 E n ((x3 + 1)) h)) ∧ (¬ ((Prod.fst h 23 0 (Int32.toNatClampNeg ((6 * x2) + x3))) = 0) → (∃ n23 : Nat, lp_X5_wants_212 (x1) (x2) (x3) (fun (y4_23 : Int32) (g23 : q_H) => (lp_X5_wants_187 x1 x2 E n ((x3 + 1)) g23)) n23 (0) h))))))
def lp_X5_wants_177 (x1 : Int32) (E : Int32 → q_H → Prop) : Nat → Int32 → q_H → Prop
  | 0, _, _ => False
  | n + 1, x2, h => (((Prod.fst h 18 0 0) ≤ x2 → (E (x2) h)) ∧ (¬ ((Prod.fst h 18 0 0) ≤ x2) → (∃ n24 : Nat, lp_X5_wants_187 (x1) (x2) (fun (y3_24 : Int32) (g24 : q_H) => (lp_X5_wants_177 x1 E n ((x2 + 1)) g24)) n24 (0) h)))
def lp_X5_wants_169 (E : Int32 → q_H → Prop) : Nat → Int32 → q_H → Prop
  | 0, _, _ => False
  | n + 1, x1, h => ((6 ≤ x1 → (E (x1) h)) ∧ (¬ (6 ≤ x1) → (∃ n25 : Nat, lp_X5_wants_177 (x1) (fun (y2_25 : Int32) (g25 : q_H) => (lp_X5_wants_169  E n ((x1 + 1)) g25)) n25 (0) h)))
def wp_X5_wants (h : q_H) (Q : q_H → Prop) : Prop := (wp_X5_wakes  h (fun (g1 : q_H) => (∃ n3 : Nat, lp_X5_wants_6  (fun (y1_3 : Int32) (g3 : q_H) => (∃ n11 : Nat, lp_X5_wants_28  (fun (y1_11 : Int32) (g11 : q_H) => (∃ n18 : Nat, lp_X5_wants_116  (fun (y1_18 : Int32) (g18 : q_H) => (∃ n26 : Nat, lp_X5_wants_169  (fun (y1_26 : Int32) (g26 : q_H) => (Q g26)) n26 (0) g18)) n18 (0) g11)) n11 (0) g3)) n3 (0) g1)))
def wp_X5_isWanted (a1 : Int32) (a2 : Int32) (h : q_H) (Q : Int32 → q_H → Prop) : Prop := (vp_in ((64 * a1) + a2) 384 ∧ (((Prod.fst h 27 0 (Int32.toNatClampNeg ((64 * a1) + a2))) = 0 → (Q 0 h)) ∧ (¬ ((Prod.fst h 27 0 (Int32.toNatClampNeg ((64 * a1) + a2))) = 0) → (Q 1 h))))
def wp_X5_wanted (a1 : Int32) (a2 : Int32) (h : q_H) (Q : Int32 → q_H → Prop) : Prop := (wp_X5_isPart (a1) h (fun (r2 : Int32) (g1 : q_H) => ((r2 = 0 → (Q (-1) g1)) ∧ (¬ (r2 = 0) → (wp_X5_isTick (a2) g1 (fun (r4 : Int32) (g3 : q_H) => ((r4 = 0 → (Q (-1) g3)) ∧ (¬ (r4 = 0) → (wp_X5_wants  g3 (fun (g5 : q_H) => (wp_X5_isWanted (a1) (a2) g5 (fun (r7 : Int32) (g6 : q_H) => ((r7 = 0 → (Q 0 g6)) ∧ (¬ (r7 = 0) → (Q 1 g6)))))))))))))))
def lp_X5_when_19 (x1 : Int32) (E : Int64 → Int32 → q_H → Prop) : Nat → Int64 → Int32 → q_H → Prop
  | 0, _, _, _ => False
  | n + 1, x2, x4, h => ((64 ≤ x4 → (E (x2) (x4) h)) ∧ (¬ (64 ≤ x4) → (wp_X5_isWanted (x1) (x4) h (fun (r5 : Int32) (g4 : q_H) => ((r5 = 0 → (lp_X5_when_19 x1 E n (x2) ((x4 + 1)) g4)) ∧ (¬ (r5 = 0) → (lp_X5_when_19 x1 E n ((x2 ||| (1 <<< (Int32.toInt64 x4 &&& 63)))) ((x4 + 1)) g4)))))))
def wp_X5_when (a1 : Int32) (h : q_H) (Q : Int64 → q_H → Prop) : Prop := (wp_X5_isPart (a1) h (fun (r2 : Int32) (g1 : q_H) => ((r2 = 0 → (Q 0 g1)) ∧ (¬ (r2 = 0) → (wp_X5_wants  g1 (fun (g3 : q_H) => (∃ n6 : Nat, lp_X5_when_19 (a1) (fun (y2_6 : Int64) (y4_6 : Int32) (g6 : q_H) => (Q y2_6 g6)) n6 (0) (0) g3)))))))
def lp_X5_begins_36 (x1 : Int32) (x2 : Int32) (E : q_H → Prop) : Nat → q_H → Prop
  | 0, _ => False
  | n + 1, h => ((64 ≤ (x2 + (Prod.fst h 18 0 15)) → (E  h)) ∧ (¬ (64 ≤ (x2 + (Prod.fst h 18 0 15))) → (wp_X5_isWanted (x1) ((x2 + (Prod.fst h 18 0 15))) h (fun (r4 : Int32) (g3 : q_H) => ((r4 = 0 → (lp_X5_begins_36 x1 x2 E n  (q_sI g3 18 0 15 ((Prod.fst g3 18 0 15) + 1)))) ∧ (¬ (r4 = 0) → (E  g3)))))))
def wp_X5_begins (a1 : Int32) (a2 : Int32) (h : q_H) (Q : Int32 → q_H → Prop) : Prop := (wp_X5_isWanted (a1) (a2) h (fun (r2 : Int32) (g1 : q_H) => ((r2 = 0 → ((a2 ≤ 0 → (∃ n5 : Nat, lp_X5_begins_36 (a1) (a2) (fun  (g5 : q_H) => (Q 1 g5)) n5  (q_sI (q_sI g1 18 0 14 a2) 18 0 15 0))) ∧ (¬ (a2 ≤ 0) → (wp_X5_isWanted (a1) ((a2 - 1)) g1 (fun (r7 : Int32) (g6 : q_H) => ((r7 = 0 → (Q 0 g6)) ∧ (¬ (r7 = 0) → (∃ n8 : Nat, lp_X5_begins_36 (a1) (a2) (fun  (g8 : q_H) => (Q 1 g8)) n8  (q_sI (q_sI g6 18 0 14 a2) 18 0 15 0))))))))) ∧ (¬ (r2 = 0) → (Q 0 g1)))))
def wp_X5_isLast (h : q_H) (Q : Int32 → q_H → Prop) : Prop := ((((Prod.fst h 18 0 14) + (Prod.fst h 18 0 15)) = 64 → (Q 1 h)) ∧ (¬ (((Prod.fst h 18 0 14) + (Prod.fst h 18 0 15)) = 64) → (Q 0 h)))
def wp_X5_costs (a1 : Int32) (a2 : Int32) (h : q_H) (Q : Int32 → q_H → Prop) : Prop := (vp_in ((4 * a1) + a2) 24 ∧ (wp_X5_isLast  h (fun (r3 : Int32) (g2 : q_H) => ((r3 = 0 → (vp_in ((4 * a1) + a2) 24 ∧ (((Prod.fst g2 21 0 (Int32.toNatClampNeg ((4 * a1) + a2))) ≤ (Prod.fst g2 18 0 15) → (vp_in (4 * a1) 24 ∧ (vp_in ((4 * a1) + a2) 24 ∧ (Q ((((Prod.fst h 19 0 (Int32.toNatClampNeg ((4 * a1) + a2))) * ((Prod.fst g2 18 0 15) - (Prod.fst g2 21 0 (Int32.toNatClampNeg ((4 * a1) + a2))))) + ((Prod.fst g2 19 0 (Int32.toNatClampNeg (4 * a1))) * (Prod.fst g2 21 0 (Int32.toNatClampNeg ((4 * a1) + a2))))) + (Prod.fst g2 20 0 (Int32.toNatClampNeg ((4 * a1) + a2)))) g2)))) ∧ (¬ ((Prod.fst g2 21 0 (Int32.toNatClampNeg ((4 * a1) + a2))) ≤ (Prod.fst g2 18 0 15)) → (Q (-1) g2))))) ∧ (¬ (r3 = 0) → (Q ((Prod.fst h 19 0 (Int32.toNatClampNeg ((4 * a1) + a2))) * (Prod.fst g2 18 0 15)) g2))))))
def lp_X5_choice_4 (x1 : Int32) (E : Int32 → Int32 → q_H → Prop) : Nat → Int32 → Int32 → q_H → Prop
  | 0, _, _, _ => False
  | n + 1, x2, x3, h => ((4 ≤ x3 → (E (x2) (x3) h)) ∧ (¬ (4 ≤ x3) → (wp_X5_costs (x1) (x3) h (fun (r2 : Int32) (g1 : q_H) => ((r2 = (-1) → (lp_X5_choice_4 x1 E n (x2) ((x3 + 1)) g1)) ∧ (¬ (r2 = (-1)) → (wp_X5_costs (x1) (x3) g1 (fun (r4 : Int32) (g3 : q_H) => (wp_X5_costs (x1) (x2) g3 (fun (r6 : Int32) (g5 : q_H) => ((r6 ≤ r4 → (lp_X5_choice_4 x1 E n (x2) ((x3 + 1)) g5)) ∧ (¬ (r6 ≤ r4) → (lp_X5_choice_4 x1 E n (x3) ((x3 + 1)) g5)))))))))))))
def wp_X5_choice (a1 : Int32) (h : q_H) (Q : Int32 → q_H → Prop) : Prop := (∃ n7 : Nat, lp_X5_choice_4 (a1) (fun (y2_7 : Int32) (y3_7 : Int32) (g7 : q_H) => (Q y2_7 g7)) n7 (0) (1) h)
def lp_X5_spans_18 (x1 : Int32) (E : Int32 → Int32 → q_H → Prop) : Nat → Int32 → Int32 → q_H → Prop
  | 0, _, _, _ => False
  | n + 1, x2, x3, h => ((64 ≤ x3 → (E (x2) (x3) h)) ∧ (¬ (64 ≤ x3) → (wp_X5_begins (x1) (x3) h (fun (r5 : Int32) (g4 : q_H) => ((r5 = 0 → (lp_X5_spans_18 x1 E n ((x2 + 0)) ((x3 + 1)) g4)) ∧ (¬ (r5 = 0) → (lp_X5_spans_18 x1 E n ((x2 + 1)) ((x3 + 1)) g4)))))))
def wp_X5_spans (a1 : Int32) (h : q_H) (Q : Int32 → q_H → Prop) : Prop := (wp_X5_isPart (a1) h (fun (r2 : Int32) (g1 : q_H) => ((r2 = 0 → (Q (-1) g1)) ∧ (¬ (r2 = 0) → (wp_X5_wants  g1 (fun (g3 : q_H) => (∃ n6 : Nat, lp_X5_spans_18 (a1) (fun (y2_6 : Int32) (y3_6 : Int32) (g6 : q_H) => (Q y2_6 g6)) n6 (0) (0) g3)))))))
def wp_X5_ofSpan (a1 : Int32) (a2 : Int32) (h : q_H) (Q : Int32 → q_H → Prop) : Prop := (wp_X5_choice (a1) h (fun (r2 : Int32) (g1 : q_H) => ((Int32.toInt a2 = 0 → (Q (Prod.fst g1 18 0 14) g1)) ∧ (Int32.toInt a2 = 1 → (Q (Prod.fst g1 18 0 15) g1)) ∧ (Int32.toInt a2 = 2 → (Q r2 g1)) ∧ (Int32.toInt a2 = 3 → (wp_X5_costs (a1) (r2) g1 (fun (r4 : Int32) (g3 : q_H) => (Q r4 g3)))) ∧ (Int32.toInt a2 = 4 → (wp_X5_costs (a1) (0) g1 (fun (r6 : Int32) (g5 : q_H) => (Q r6 g5)))) ∧ ((Int32.toInt a2 < 0 ∨ 4 < Int32.toInt a2) → ((r2 = 0 → (Q (-1) g1)) ∧ (¬ (r2 = 0) → (wp_X5_isLast  g1 (fun (r8 : Int32) (g7 : q_H) => ((r8 = 0 → (vp_in ((4 * a1) + r2) 24 ∧ (Q (((Prod.fst g7 18 0 14) + (Prod.fst g7 18 0 15)) - (Prod.fst g7 21 0 (Int32.toNatClampNeg ((4 * a1) + r2)))) g7))) ∧ (¬ (r8 = 0) → (Q (-1) g7)))))))))))
def lp_X5_span_29 (x1 : Int32) (x2 : Int32) (x3 : Int32) (Q : Int32 → q_H → Prop) (E : Int32 → Int32 → q_H → Prop) : Nat → Int32 → Int32 → q_H → Prop
  | 0, _, _, _ => False
  | n + 1, x4, x5, h => ((64 ≤ x5 → (E (x4) (x5) h)) ∧ (¬ (64 ≤ x5) → (wp_X5_begins (x1) (x5) h (fun (r7 : Int32) (g6 : q_H) => ((r7 = 0 → (lp_X5_span_29 x1 x2 x3 Q E n (x4) ((x5 + 1)) g6)) ∧ (¬ (r7 = 0) → ((x4 = x2 → (wp_X5_ofSpan (x1) (x3) g6 (fun (r9 : Int32) (g8 : q_H) => (Q r9 g8)))) ∧ (¬ (x4 = x2) → (lp_X5_span_29 x1 x2 x3 Q E n ((x4 + 1)) ((x5 + 1)) g6)))))))))
def wp_X5_span (a1 : Int32) (a2 : Int32) (a3 : Int32) (h : q_H) (Q : Int32 → q_H → Prop) : Prop := (wp_X5_isPart (a1) h (fun (r2 : Int32) (g1 : q_H) => ((r2 = 0 → (Q (-1) g1)) ∧ (¬ (r2 = 0) → (wp_X5_isIn (a3) (0) (5) g1 (fun (r4 : Int32) (g3 : q_H) => ((r4 = 0 → (Q (-1) g3)) ∧ (¬ (r4 = 0) → (wp_X5_wants  g3 (fun (g5 : q_H) => (∃ n10 : Nat, lp_X5_span_29 (a1) (a2) (a3) Q (fun (y4_10 : Int32) (y5_10 : Int32) (g10 : q_H) => (Q (-1) g10)) n10 (0) (0) g5)))))))))))
def lp_X5_drained_4 (x1 : Int32) (E : Int32 → Int32 → q_H → Prop) : Nat → Int32 → Int32 → q_H → Prop
  | 0, _, _, _ => False
  | n + 1, x2, x3, h => ((64 ≤ x3 → (E (x2) (x3) h)) ∧ (¬ (64 ≤ x3) → (wp_X5_isWanted (x1) (x3) h (fun (r2 : Int32) (g1 : q_H) => ((r2 = 0 → (wp_X5_begins (x1) (x3) g1 (fun (r4 : Int32) (g3 : q_H) => ((r4 = 0 → (lp_X5_drained_4 x1 E n (x2) ((x3 + 1)) g3)) ∧ (¬ (r4 = 0) → (wp_X5_choice (x1) g3 (fun (r6 : Int32) (g5 : q_H) => (wp_X5_costs (x1) (r6) g5 (fun (r8 : Int32) (g7 : q_H) => (lp_X5_drained_4 x1 E n ((x2 + r8)) ((x3 + 1)) g7)))))))))) ∧ (¬ (r2 = 0) → (vp_in (4 * x1) 24 ∧ (lp_X5_drained_4 x1 E n ((x2 + (Prod.fst g1 19 0 (Int32.toNatClampNeg (4 * x1))))) ((x3 + 1)) g1))))))))
def wp_X5_drained (a1 : Int32) (h : q_H) (Q : Int32 → q_H → Prop) : Prop := (∃ n10 : Nat, lp_X5_drained_4 (a1) (fun (y2_10 : Int32) (y3_10 : Int32) (g10 : q_H) => (Q y2_10 g10)) n10 (0) (0) h)
def wp_X5_drain (a1 : Int32) (h : q_H) (Q : Int32 → q_H → Prop) : Prop := (wp_X5_isPart (a1) h (fun (r2 : Int32) (g1 : q_H) => ((r2 = 0 → (Q (-1) g1)) ∧ (¬ (r2 = 0) → (wp_X5_wants  g1 (fun (g3 : q_H) => (wp_X5_drained (a1) g3 (fun (r5 : Int32) (g4 : q_H) => (Q r5 g4)))))))))
def lp_X5_state_34 (x1 : Int32) (x2 : Int32) (E : Int32 → q_H → Prop) : Nat → Int32 → q_H → Prop
  | 0, _, _ => False
  | n + 1, x3, h => ((x3 ≤ 0 → (E (x3) h)) ∧ (¬ (x3 ≤ 0) → (wp_X5_isWanted (x1) ((x3 - 1)) h (fun (r9 : Int32) (g8 : q_H) => ((r9 = 0 → (lp_X5_state_34 x1 x2 E n ((x3 + (-1))) g8)) ∧ (¬ (r9 = 0) → (E (x3) g8)))))))
def wp_X5_state (a1 : Int32) (a2 : Int32) (h : q_H) (Q : Int32 → q_H → Prop) : Prop := (wp_X5_isPart (a1) h (fun (r2 : Int32) (g1 : q_H) => ((r2 = 0 → (Q (-1) g1)) ∧ (¬ (r2 = 0) → (wp_X5_isTick (a2) g1 (fun (r4 : Int32) (g3 : q_H) => ((r4 = 0 → (Q (-1) g3)) ∧ (¬ (r4 = 0) → (wp_X5_wants  g3 (fun (g5 : q_H) => (wp_X5_isWanted (a1) (a2) g5 (fun (r7 : Int32) (g6 : q_H) => ((r7 = 0 → (∃ n10 : Nat, lp_X5_state_34 (a1) (a2) (fun (y3_10 : Int32) (g10 : q_H) => (wp_X5_begins (a1) (y3_10) g10 (fun (r12 : Int32) (g11 : q_H) => ((r12 = 0 → (Q (-1) g11)) ∧ (¬ (r12 = 0) → (wp_X5_choice (a1) g11 (fun (r14 : Int32) (g13 : q_H) => (wp_X5_isLast  g13 (fun (r16 : Int32) (g15 : q_H) => ((r16 = 0 → (vp_in ((4 * a1) + r14) 24 ∧ ((a2 < (((Prod.fst g15 18 0 14) + (Prod.fst g15 18 0 15)) - (Prod.fst g15 21 0 (Int32.toNatClampNeg ((4 * a1) + r14)))) → (Q r14 g15)) ∧ (¬ (a2 < (((Prod.fst g15 18 0 14) + (Prod.fst g15 18 0 15)) - (Prod.fst g15 21 0 (Int32.toNatClampNeg ((4 * a1) + r14))))) → (Q 0 g15))))) ∧ (¬ (r16 = 0) → (Q r14 g15)))))))))))) n10 (a2) g6)) ∧ (¬ (r7 = 0) → (Q 0 g6)))))))))))))))
def wp_X5_ruleState (a1 : Int32) (a2 : Int32) (h : q_H) (Q : Int32 → q_H → Prop) : Prop := (vp_in (3 * a1) 18 ∧ (((Prod.fst h 22 0 (Int32.toNatClampNeg (3 * a1))) ≤ a2 → (vp_in ((3 * a1) + 1) 18 ∧ (((Prod.fst h 22 0 (Int32.toNatClampNeg ((3 * a1) + 1))) ≤ a2 → (vp_in ((3 * a1) + 2) 18 ∧ (((Prod.fst h 22 0 (Int32.toNatClampNeg ((3 * a1) + 2))) ≤ a2 → (Q 3 h)) ∧ (¬ ((Prod.fst h 22 0 (Int32.toNatClampNeg ((3 * a1) + 2))) ≤ a2) → (Q 2 h))))) ∧ (¬ ((Prod.fst h 22 0 (Int32.toNatClampNeg ((3 * a1) + 1))) ≤ a2) → (Q 1 h))))) ∧ (¬ ((Prod.fst h 22 0 (Int32.toNatClampNeg (3 * a1))) ≤ a2) → (Q 0 h))))
def wp_X5_ahead (a1 : Int32) (a2 : Int32) (h : q_H) (Q : Int32 → q_H → Prop) : Prop := ((a2 = 0 → (Q 0 h)) ∧ (¬ (a2 = 0) → (wp_X5_ruleState (a1) ((a2 - 1)) h (fun (r2 : Int32) (g1 : q_H) => (Q r2 g1)))))
def lp_X5_rises_17 (x1 : Int32) (E : Int32 → q_H → Prop) : Nat → Int32 → q_H → Prop
  | 0, _, _ => False
  | n + 1, x2, h => (wp_X5_ahead (x1) (x2) h (fun (r4 : Int32) (g3 : q_H) => (vp_in ((4 * x1) + r4) 24 ∧ (((x2 + (Prod.fst g3 21 0 (Int32.toNatClampNeg ((4 * x1) + r4)))) ≤ (Prod.fst g3 18 0 15) → (E (x2) g3)) ∧ (¬ ((x2 + (Prod.fst g3 21 0 (Int32.toNatClampNeg ((4 * x1) + r4)))) ≤ (Prod.fst g3 18 0 15)) → (lp_X5_rises_17 x1 E n ((x2 + (-1))) g3))))))
def wp_X5_rises (a1 : Int32) (h : q_H) (Q : Int32 → q_H → Prop) : Prop := (wp_X5_isLast  h (fun (r2 : Int32) (g1 : q_H) => ((r2 = 0 → (∃ n6 : Nat, lp_X5_rises_17 (a1) (fun (y2_6 : Int32) (g6 : q_H) => (Q y2_6 g6)) n6 ((Prod.fst g1 18 0 15)) g1)) ∧ (¬ (r2 = 0) → (Q (Prod.fst g1 18 0 15) g1)))))
def lp_X5_ruledSpan_36 (x1 : Int32) (x2 : Int32) (E : Int32 → Int32 → q_H → Prop) : Nat → Int32 → Int32 → q_H → Prop
  | 0, _, _, _ => False
  | n + 1, x3, x4, h => (((Prod.fst h 18 0 15) ≤ x4 → (E (x3) (x4) h)) ∧ (¬ ((Prod.fst h 18 0 15) ≤ x4) → ((x2 ≤ x4 → (vp_in ((4 * x1) + 0) 24 ∧ (lp_X5_ruledSpan_36 x1 x2 E n ((x3 + (Prod.fst h 19 0 (Int32.toNatClampNeg ((4 * x1) + 0))))) ((x4 + 1)) h))) ∧ (¬ (x2 ≤ x4) → (wp_X5_ruleState (x1) (x4) h (fun (r10 : Int32) (g9 : q_H) => (vp_in ((4 * x1) + r10) 24 ∧ (lp_X5_ruledSpan_36 x1 x2 E n ((x3 + (Prod.fst g9 19 0 (Int32.toNatClampNeg ((4 * x1) + r10))))) ((x4 + 1)) g9))))))))
def wp_X5_ruledSpan (a1 : Int32) (h : q_H) (Q : Int32 → q_H → Prop) : Prop := (wp_X5_rises (a1) h (fun (r2 : Int32) (g1 : q_H) => (wp_X5_isLast  g1 (fun (r4 : Int32) (g3 : q_H) => ((r4 = 0 → (wp_X5_ahead (a1) (r2) g3 (fun (r6 : Int32) (g5 : q_H) => (vp_in ((4 * a1) + r6) 24 ∧ (∃ n12 : Nat, lp_X5_ruledSpan_36 (a1) (r2) (fun (y3_12 : Int32) (y4_12 : Int32) (g12 : q_H) => (Q y3_12 g12)) n12 ((Prod.fst g5 20 0 (Int32.toNatClampNeg ((4 * a1) + r6)))) (0) g5))))) ∧ (¬ (r4 = 0) → (∃ n13 : Nat, lp_X5_ruledSpan_36 (a1) (r2) (fun (y3_13 : Int32) (y4_13 : Int32) (g13 : q_H) => (Q y3_13 g13)) n13 (0) (0) g3)))))))
def lp_X5_ruledSum_4 (x1 : Int32) (E : Int32 → Int32 → q_H → Prop) : Nat → Int32 → Int32 → q_H → Prop
  | 0, _, _, _ => False
  | n + 1, x2, x3, h => ((64 ≤ x3 → (E (x2) (x3) h)) ∧ (¬ (64 ≤ x3) → (wp_X5_isWanted (x1) (x3) h (fun (r2 : Int32) (g1 : q_H) => ((r2 = 0 → (wp_X5_begins (x1) (x3) g1 (fun (r4 : Int32) (g3 : q_H) => ((r4 = 0 → (lp_X5_ruledSum_4 x1 E n (x2) ((x3 + 1)) g3)) ∧ (¬ (r4 = 0) → (wp_X5_ruledSpan (x1) g3 (fun (r6 : Int32) (g5 : q_H) => (lp_X5_ruledSum_4 x1 E n ((x2 + r6)) ((x3 + 1)) g5)))))))) ∧ (¬ (r2 = 0) → (vp_in (4 * x1) 24 ∧ (lp_X5_ruledSum_4 x1 E n ((x2 + (Prod.fst g1 19 0 (Int32.toNatClampNeg (4 * x1))))) ((x3 + 1)) g1))))))))
def wp_X5_ruledSum (a1 : Int32) (h : q_H) (Q : Int32 → q_H → Prop) : Prop := (∃ n8 : Nat, lp_X5_ruledSum_4 (a1) (fun (y2_8 : Int32) (y3_8 : Int32) (g8 : q_H) => (Q y2_8 g8)) n8 (0) (0) h)
def wp_X5_ruled (a1 : Int32) (h : q_H) (Q : Int32 → q_H → Prop) : Prop := (wp_X5_isPart (a1) h (fun (r2 : Int32) (g1 : q_H) => ((r2 = 0 → (Q (-1) g1)) ∧ (¬ (r2 = 0) → (wp_X5_wants  g1 (fun (g3 : q_H) => (wp_X5_ruledSum (a1) g3 (fun (r5 : Int32) (g4 : q_H) => (Q r5 g4)))))))))
def lp_X5_ruledState_34 (x1 : Int32) (x2 : Int32) (E : Int32 → q_H → Prop) : Nat → Int32 → q_H → Prop
  | 0, _, _ => False
  | n + 1, x3, h => ((x3 ≤ 0 → (E (x3) h)) ∧ (¬ (x3 ≤ 0) → (wp_X5_isWanted (x1) ((x3 - 1)) h (fun (r9 : Int32) (g8 : q_H) => ((r9 = 0 → (lp_X5_ruledState_34 x1 x2 E n ((x3 + (-1))) g8)) ∧ (¬ (r9 = 0) → (E (x3) g8)))))))
def wp_X5_ruledState (a1 : Int32) (a2 : Int32) (h : q_H) (Q : Int32 → q_H → Prop) : Prop := (wp_X5_isPart (a1) h (fun (r2 : Int32) (g1 : q_H) => ((r2 = 0 → (Q (-1) g1)) ∧ (¬ (r2 = 0) → (wp_X5_isTick (a2) g1 (fun (r4 : Int32) (g3 : q_H) => ((r4 = 0 → (Q (-1) g3)) ∧ (¬ (r4 = 0) → (wp_X5_wants  g3 (fun (g5 : q_H) => (wp_X5_isWanted (a1) (a2) g5 (fun (r7 : Int32) (g6 : q_H) => ((r7 = 0 → (∃ n10 : Nat, lp_X5_ruledState_34 (a1) (a2) (fun (y3_10 : Int32) (g10 : q_H) => (wp_X5_begins (a1) (y3_10) g10 (fun (r12 : Int32) (g11 : q_H) => ((r12 = 0 → (Q (-1) g11)) ∧ (¬ (r12 = 0) → (wp_X5_rises (a1) g11 (fun (r14 : Int32) (g13 : q_H) => ((r14 ≤ (a2 - (Prod.fst g11 18 0 14)) → (Q 0 g13)) ∧ (¬ (r14 ≤ (a2 - (Prod.fst g11 18 0 14))) → (wp_X5_ruleState (a1) ((a2 - (Prod.fst g13 18 0 14))) g13 (fun (r16 : Int32) (g15 : q_H) => (Q r16 g15)))))))))))) n10 (a2) g6)) ∧ (¬ (r7 = 0) → (Q 0 g6)))))))))))))))
def lp_X5_learn_49 (x1 : Int32) (x6 : Int32) (x7 : Int32) (E : Int32 → Int32 → Int32 → Int32 → Int32 → q_H → Prop) : Nat → Int32 → Int32 → Int32 → Int32 → Int32 → q_H → Prop
  | 0, _, _, _, _, _, _ => False
  | n + 1, x2, x3, x4, x5, x8, h => ((64 < x8 → (E (x2) (x3) (x4) (x5) (x8) h)) ∧ (¬ (64 < x8) → (vp_in (3 * x1) 18 ∧ (vp_in ((3 * x1) + 1) 18 ∧ (vp_in ((3 * x1) + 2) 18 ∧ (wp_X5_ruledSum (x1) (q_sI (q_sI (q_sI h 22 0 (Int32.toNatClampNeg (3 * x1)) x6) 22 0 (Int32.toNatClampNeg ((3 * x1) + 1)) x7) 22 0 (Int32.toNatClampNeg ((3 * x1) + 2)) x8) (fun (r8 : Int32) (g7 : q_H) => ((x2 = (-1) → (lp_X5_learn_49 x1 x6 x7 E n (r8) (x6) (x7) (x8) ((x8 + 1)) g7)) ∧ (¬ (x2 = (-1)) → ((r8 < x2 → (lp_X5_learn_49 x1 x6 x7 E n (r8) (x6) (x7) (x8) ((x8 + 1)) g7)) ∧ (¬ (r8 < x2) → (lp_X5_learn_49 x1 x6 x7 E n (x2) (x3) (x4) (x5) ((x8 + 1)) g7))))))))))))
def lp_X5_learn_38 (x1 : Int32) (x6 : Int32) (E : Int32 → Int32 → Int32 → Int32 → Int32 → q_H → Prop) : Nat → Int32 → Int32 → Int32 → Int32 → Int32 → q_H → Prop
  | 0, _, _, _, _, _, _ => False
  | n + 1, x2, x3, x4, x5, x7, h => ((64 < x7 → (E (x2) (x3) (x4) (x5) (x7) h)) ∧ (¬ (64 < x7) → (∃ n9 : Nat, lp_X5_learn_49 (x1) (x6) (x7) (fun (y2_9 : Int32) (y3_9 : Int32) (y4_9 : Int32) (y5_9 : Int32) (y8_9 : Int32) (g9 : q_H) => (lp_X5_learn_38 x1 x6 E n (y2_9) (y3_9) (y4_9) (y5_9) ((x7 + 1)) g9)) n9 (x2) (x3) (x4) (x5) (x7) h)))
def lp_X5_learn_27 (x1 : Int32) (E : Int32 → Int32 → Int32 → Int32 → Int32 → q_H → Prop) : Nat → Int32 → Int32 → Int32 → Int32 → Int32 → q_H → Prop
  | 0, _, _, _, _, _, _ => False
  | n + 1, x2, x3, x4, x5, x6, h => ((64 < x6 → (E (x2) (x3) (x4) (x5) (x6) h)) ∧ (¬ (64 < x6) → (∃ n10 : Nat, lp_X5_learn_38 (x1) (x6) (fun (y2_10 : Int32) (y3_10 : Int32) (y4_10 : Int32) (y5_10 : Int32) (y7_10 : Int32) (g10 : q_H) => (lp_X5_learn_27 x1 E n (y2_10) (y3_10) (y4_10) (y5_10) ((x6 + 1)) g10)) n10 (x2) (x3) (x4) (x5) (x6) h)))
def wp_X5_learn (a1 : Int32) (h : q_H) (Q : Int32 → q_H → Prop) : Prop := (wp_X5_isPart (a1) h (fun (r2 : Int32) (g1 : q_H) => ((r2 = 0 → (Q (-1) g1)) ∧ (¬ (r2 = 0) → (wp_X5_wants  g1 (fun (g3 : q_H) => (∃ n11 : Nat, lp_X5_learn_27 (a1) (fun (y2_11 : Int32) (y3_11 : Int32) (y4_11 : Int32) (y5_11 : Int32) (y6_11 : Int32) (g11 : q_H) => (vp_in (3 * a1) 18 ∧ (vp_in ((3 * a1) + 1) 18 ∧ (vp_in ((3 * a1) + 2) 18 ∧ (Q y2_11 (q_sI (q_sI (q_sI g11 22 0 (Int32.toNatClampNeg (3 * a1)) y3_11) 22 0 (Int32.toNatClampNeg ((3 * a1) + 1)) y4_11) 22 0 (Int32.toNatClampNeg ((3 * a1) + 2)) y5_11)))))) n11 ((-1)) (0) (0) (0) (0) g3)))))))
def lp_X5_all_8 (E : Int32 → Int32 → q_H → Prop) : Nat → Int32 → Int32 → q_H → Prop
  | 0, _, _, _ => False
  | n + 1, x1, x2, h => (((Prod.fst h 18 0 0) ≤ x2 → (E (x1) (x2) h)) ∧ (¬ ((Prod.fst h 18 0 0) ≤ x2) → (wp_X5_drained (x2) h (fun (r3 : Int32) (g2 : q_H) => (lp_X5_all_8  E n ((x1 + r3)) ((x2 + 1)) g2)))))
def wp_X5_all (h : q_H) (Q : Int32 → q_H → Prop) : Prop := (wp_X5_wants  h (fun (g1 : q_H) => (∃ n4 : Nat, lp_X5_all_8  (fun (y1_4 : Int32) (y2_4 : Int32) (g4 : q_H) => (Q y1_4 g4)) n4 (0) (0) g1)))
def wp_X5_without (a1 : Int32) (h : q_H) (Q : Int32 → q_H → Prop) : Prop := (wp_X5_isIn (a1) (0) (((Prod.fst h 18 0 1) - 1)) h (fun (r2 : Int32) (g1 : q_H) => ((r2 = 0 → (Q (-100001) g1)) ∧ (¬ (r2 = 0) → (wp_X5_all  g1 (fun (r4 : Int32) (g3 : q_H) => (wp_X5_all  (q_sI g3 18 0 13 a1) (fun (r6 : Int32) (g5 : q_H) => (Q (r4 - r6) (q_sI g5 18 0 13 (-1)))))))))))
def lp_X5_bits_4 (x0 : Int32) (E : Int32 → Int32 → q_H → Prop) : Nat → Int32 → Int32 → q_H → Prop
  | 0, _, _, _ => False
  | n + 1, x1, x2, h => ((8 ≤ x2 → (E (x1) (x2) h)) ∧ (¬ (8 ≤ x2) → (lp_X5_bits_4 x0 E n ((x1 + ((x0 >>> (x2 &&& 31)) &&& 1))) ((x2 + 1)) h)))
def wp_X5_bits (a0 : Int32) (h : q_H) (Q : Int32 → q_H → Prop) : Prop := (∃ n1 : Nat, lp_X5_bits_4 (a0) (fun (y1_1 : Int32) (y2_1 : Int32) (g1 : q_H) => (Q y1_1 g1)) n1 (0) (0) h)
def lp_X5_blame_31 (x1 : Int32) (x3 : Int32) (E : Int32 → Int32 → q_H → Prop) : Nat → Int32 → Int32 → q_H → Prop
  | 0, _, _, _ => False
  | n + 1, x2, x4, h => ((64 ≤ x4 → (E (x2) (x4) h)) ∧ (¬ (64 ≤ x4) → (vp_in ((64 * x3) + x4) 384 ∧ ((x1 = 8 → (wp_X5_begins (x3) (x4) h (fun (r10 : Int32) (g9 : q_H) => ((r10 = 0 → ((8 ≤ x1 → (lp_X5_blame_31 x1 x3 E n (x2) ((x4 + 1)) g9)) ∧ (¬ (8 ≤ x1) → (((((Prod.fst h 27 0 (Int32.toNatClampNeg ((64 * x3) + x4))) >>> (x1 &&& 31)) &&& 1) = 1 → (wp_X5_bits ((Prod.fst h 27 0 (Int32.toNatClampNeg ((64 * x3) + x4)))) g9 (fun (r12 : Int32) (g11 : q_H) => (¬ r12 = 0 ∧ (vp_in (4 * x3) 24 ∧ (lp_X5_blame_31 x1 x3 E n ((x2 + ((840 / r12) * (Prod.fst g11 19 0 (Int32.toNatClampNeg (4 * x3)))))) ((x4 + 1)) g11)))))) ∧ (¬ ((((Prod.fst h 27 0 (Int32.toNatClampNeg ((64 * x3) + x4))) >>> (x1 &&& 31)) &&& 1) = 1) → (lp_X5_blame_31 x1 x3 E n (x2) ((x4 + 1)) g9)))))) ∧ (¬ (r10 = 0) → (wp_X5_choice (x3) g9 (fun (r16 : Int32) (g15 : q_H) => (wp_X5_costs (x3) (r16) g15 (fun (r18 : Int32) (g17 : q_H) => ((8 ≤ x1 → (lp_X5_blame_31 x1 x3 E n ((x2 + (840 * r18))) ((x4 + 1)) g17)) ∧ (¬ (8 ≤ x1) → (((((Prod.fst h 27 0 (Int32.toNatClampNeg ((64 * x3) + x4))) >>> (x1 &&& 31)) &&& 1) = 1 → (wp_X5_bits ((Prod.fst h 27 0 (Int32.toNatClampNeg ((64 * x3) + x4)))) g17 (fun (r20 : Int32) (g19 : q_H) => (¬ r20 = 0 ∧ (vp_in (4 * x3) 24 ∧ (lp_X5_blame_31 x1 x3 E n (((x2 + (840 * r18)) + ((840 / r20) * (Prod.fst g19 19 0 (Int32.toNatClampNeg (4 * x3)))))) ((x4 + 1)) g19)))))) ∧ (¬ ((((Prod.fst h 27 0 (Int32.toNatClampNeg ((64 * x3) + x4))) >>> (x1 &&& 31)) &&& 1) = 1) → (lp_X5_blame_31 x1 x3 E n ((x2 + (840 * r18))) ((x4 + 1)) g17)))))))))))))) ∧ (¬ (x1 = 8) → ((8 ≤ x1 → (lp_X5_blame_31 x1 x3 E n (x2) ((x4 + 1)) h)) ∧ (¬ (8 ≤ x1) → (((((Prod.fst h 27 0 (Int32.toNatClampNeg ((64 * x3) + x4))) >>> (x1 &&& 31)) &&& 1) = 1 → (wp_X5_bits ((Prod.fst h 27 0 (Int32.toNatClampNeg ((64 * x3) + x4)))) h (fun (r6 : Int32) (g5 : q_H) => (¬ r6 = 0 ∧ (vp_in (4 * x3) 24 ∧ (lp_X5_blame_31 x1 x3 E n ((x2 + ((840 / r6) * (Prod.fst g5 19 0 (Int32.toNatClampNeg (4 * x3)))))) ((x4 + 1)) g5)))))) ∧ (¬ ((((Prod.fst h 27 0 (Int32.toNatClampNeg ((64 * x3) + x4))) >>> (x1 &&& 31)) &&& 1) = 1) → (lp_X5_blame_31 x1 x3 E n (x2) ((x4 + 1)) h))))))))))
def lp_X5_blame_20 (x1 : Int32) (E : Int32 → Int32 → q_H → Prop) : Nat → Int32 → Int32 → q_H → Prop
  | 0, _, _, _ => False
  | n + 1, x2, x3, h => (((Prod.fst h 18 0 0) ≤ x3 → (E (x2) (x3) h)) ∧ (¬ ((Prod.fst h 18 0 0) ≤ x3) → (∃ n23 : Nat, lp_X5_blame_31 (x1) (x3) (fun (y2_23 : Int32) (y4_23 : Int32) (g23 : q_H) => (lp_X5_blame_20 x1 E n (y2_23) ((x3 + 1)) g23)) n23 (x2) (0) h)))
def wp_X5_blame (a1 : Int32) (h : q_H) (Q : Int32 → q_H → Prop) : Prop := (wp_X5_isIn (a1) (0) (8) h (fun (r2 : Int32) (g1 : q_H) => ((r2 = 0 → (Q (-1) g1)) ∧ (¬ (r2 = 0) → (wp_X5_wants  g1 (fun (g3 : q_H) => (∃ n24 : Nat, lp_X5_blame_20 (a1) (fun (y2_24 : Int32) (y3_24 : Int32) (g24 : q_H) => (Q y2_24 g24)) n24 (0) (0) g3)))))))
def lp_X5_isFirst_15 (x1 : Int32) (x2 : Int32) (E : Int32 → Int32 → q_H → Prop) : Nat → Int32 → Int32 → q_H → Prop
  | 0, _, _, _ => False
  | n + 1, x3, x4, h => (((Prod.fst h 18 0 0) ≤ x4 → (E (x3) (x4) h)) ∧ (¬ ((Prod.fst h 18 0 0) ≤ x4) → ((x3 = 0 → (lp_X5_isFirst_15 x1 x2 E n (0) ((x4 + 1)) h)) ∧ (¬ (x3 = 0) → (vp_in ((6 * x1) + x4) 36 ∧ (((Prod.fst h 23 0 (Int32.toNatClampNeg ((6 * x1) + x4))) = 0 → (lp_X5_isFirst_15 x1 x2 E n (1) ((x4 + 1)) h)) ∧ (¬ ((Prod.fst h 23 0 (Int32.toNatClampNeg ((6 * x1) + x4))) = 0) → ((((x2 >>> (x4 &&& 31)) &&& 1) = 1 → (lp_X5_isFirst_15 x1 x2 E n (0) ((x4 + 1)) h)) ∧ (¬ (((x2 >>> (x4 &&& 31)) &&& 1) = 1) → (lp_X5_isFirst_15 x1 x2 E n (1) ((x4 + 1)) h))))))))))
def wp_X5_isFirst (a1 : Int32) (a2 : Int32) (h : q_H) (Q : Int32 → q_H → Prop) : Prop := ((((a2 >>> (a1 &&& 31)) &&& 1) = 0 → (Q 0 h)) ∧ (¬ (((a2 >>> (a1 &&& 31)) &&& 1) = 0) → (∃ n2 : Nat, lp_X5_isFirst_15 (a1) (a2) (fun (y3_2 : Int32) (y4_2 : Int32) (g2 : q_H) => ((y3_2 = 0 ∨ y3_2 = 1) ∧ Q y3_2 g2)) n2 (1) (0) h)))
def lp_X5_order_22 (x1 : Int32) (x2 : Int32) (E : Int32 → Int32 → q_H → Prop) : Nat → Int32 → Int32 → q_H → Prop
  | 0, _, _, _ => False
  | n + 1, x3, x4, h => (((Prod.fst h 18 0 0) ≤ x4 → (E (x3) (x4) h)) ∧ (¬ ((Prod.fst h 18 0 0) ≤ x4) → (wp_X5_isWanted (x4) (x1) h (fun (r5 : Int32) (g4 : q_H) => ((r5 = 0 → (lp_X5_order_22 x1 x2 E n (x3) ((x4 + 1)) g4)) ∧ (¬ (r5 = 0) → ((x1 = 0 → (lp_X5_order_22 x1 x2 E n ((x3 ||| (1 <<< (x4 &&& 31)))) ((x4 + 1)) g4)) ∧ (¬ (x1 = 0) → (wp_X5_isWanted (x4) ((x1 - 1)) g4 (fun (r7 : Int32) (g6 : q_H) => ((r7 = 0 → (lp_X5_order_22 x1 x2 E n ((x3 ||| (1 <<< (x4 &&& 31)))) ((x4 + 1)) g6)) ∧ (¬ (r7 = 0) → (lp_X5_order_22 x1 x2 E n (x3) ((x4 + 1)) g6)))))))))))))
def lp_X5_order_80 (x2 : Int32) (x3 : Int32) (x4 : Int32) (E : Int32 → q_H → Prop) : Nat → Int32 → q_H → Prop
  | 0, _, _ => False
  | n + 1, x5, h => (wp_X5_isFirst (x5) (x3) h (fun (r10 : Int32) (g9 : q_H) => ((r10 = 0 → (lp_X5_order_80 x2 x3 x4 E n ((x5 + 1)) g9)) ∧ (¬ (r10 = 0) → (E (x5) g9)))))
def lp_X5_order_73 (x2 : Int32) (Q : Int32 → q_H → Prop) (E : Int32 → Int32 → q_H → Prop) : Nat → Int32 → Int32 → q_H → Prop
  | 0, _, _, _ => False
  | n + 1, x3, x4, h => ((x3 = 0 → (E (x3) (x4) h)) ∧ (¬ (x3 = 0) → (∃ n11 : Nat, lp_X5_order_80 (x2) (x3) (x4) (fun (y5_11 : Int32) (g11 : q_H) => ((x4 = x2 → (Q y5_11 g11)) ∧ (¬ (x4 = x2) → (lp_X5_order_73 x2 Q E n ((x3 &&& ((1 <<< (y5_11 &&& 31)) ^^^ (-1)))) ((x4 + 1)) g11)))) n11 (0) h)))
def wp_X5_order (a1 : Int32) (a2 : Int32) (h : q_H) (Q : Int32 → q_H → Prop) : Prop := (wp_X5_isTick (a1) h (fun (r2 : Int32) (g1 : q_H) => ((r2 = 0 → (Q (-1) g1)) ∧ (¬ (r2 = 0) → ((0 ≤ a2 → (wp_X5_wants  g1 (fun (g3 : q_H) => (∃ n8 : Nat, lp_X5_order_22 (a1) (a2) (fun (y3_8 : Int32) (y4_8 : Int32) (g8 : q_H) => (∃ n12 : Nat, lp_X5_order_73 (a2) Q (fun (y3_12 : Int32) (y4_12 : Int32) (g12 : q_H) => (Q (-1) g12)) n12 (y3_8) (0) g8)) n8 (0) (0) g3)))) ∧ (¬ (0 ≤ a2) → (Q (-1) g1)))))))
def lp_L_law_18 (L : Nat) (xs : Nat → Int32) (Q : Int32 → q_H → Prop) (E : Int32 → q_H → Prop) : Nat → Int32 → q_H → Prop
  | 0, _, _ => False
  | n + 1, x3, h => ((((Int32.ofNat L) - 8) < x3 → (E (x3) h)) ∧ (¬ (((Int32.ofNat L) - 8) < x3) → (vp_in x3 L ∧ ((Int32.toInt ((xs (Int32.toNatClampNeg x3)) &&& 31) = 0 → (vp_in (x3 + 1) L ∧ (vp_in (x3 + 2) L ∧ (vp_in (x3 + 3) L ∧ (vp_in (x3 + 4) L ∧ (wp_X4_part ((xs (Int32.toNatClampNeg (x3 + 1)))) ((xs (Int32.toNatClampNeg (x3 + 2)))) ((xs (Int32.toNatClampNeg (x3 + 3)))) ((xs (Int32.toNatClampNeg (x3 + 4)))) h (fun (r7 : Int32) (g6 : q_H) => (vp_in (x3 + 1) L ∧ (vp_in (x3 + 2) L ∧ (vp_in (x3 + 3) L ∧ (vp_in (x3 + 4) L ∧ (wp_X5_part ((xs (Int32.toNatClampNeg (x3 + 1)))) ((xs (Int32.toNatClampNeg (x3 + 2)))) ((xs (Int32.toNatClampNeg (x3 + 3)))) ((xs (Int32.toNatClampNeg (x3 + 4)))) g6 (fun (r13 : Int32) (g12 : q_H) => ((r7 = r13 → (lp_L_law_18 L xs Q E n ((x3 + 8)) g12)) ∧ (¬ (r7 = r13) → (Q 0 g12)))))))))))))))) ∧ (Int32.toInt ((xs (Int32.toNatClampNeg x3)) &&& 31) = 1 → (vp_in (x3 + 1) L ∧ (vp_in (x3 + 2) L ∧ (vp_in (x3 + 3) L ∧ (vp_in (x3 + 4) L ∧ (vp_in (x3 + 5) L ∧ (vp_in (x3 + 6) L ∧ (vp_in (x3 + 7) L ∧ (wp_X4_rise ((xs (Int32.toNatClampNeg (x3 + 1)))) ((xs (Int32.toNatClampNeg (x3 + 2)))) ((xs (Int32.toNatClampNeg (x3 + 3)))) ((xs (Int32.toNatClampNeg (x3 + 4)))) ((xs (Int32.toNatClampNeg (x3 + 5)))) ((xs (Int32.toNatClampNeg (x3 + 6)))) ((xs (Int32.toNatClampNeg (x3 + 7)))) h (fun (r22 : Int32) (g21 : q_H) => (vp_in (x3 + 1) L ∧ (vp_in (x3 + 2) L ∧ (vp_in (x3 + 3) L ∧ (vp_in (x3 + 4) L ∧ (vp_in (x3 + 5) L ∧ (vp_in (x3 + 6) L ∧ (vp_in (x3 + 7) L ∧ (wp_X5_rise ((xs (Int32.toNatClampNeg (x3 + 1)))) ((xs (Int32.toNatClampNeg (x3 + 2)))) ((xs (Int32.toNatClampNeg (x3 + 3)))) ((xs (Int32.toNatClampNeg (x3 + 4)))) ((xs (Int32.toNatClampNeg (x3 + 5)))) ((xs (Int32.toNatClampNeg (x3 + 6)))) ((xs (Int32.toNatClampNeg (x3 + 7)))) g21 (fun (r31 : Int32) (g30 : q_H) => ((r22 = r31 → (lp_L_law_18 L xs Q E n ((x3 + 8)) g30)) ∧ (¬ (r22 = r31) → (Q 0 g30)))))))))))))))))))))) ∧ (Int32.toInt ((xs (Int32.toNatClampNeg x3)) &&& 31) = 2 → (vp_in (x3 + 1) L ∧ (vp_in (x3 + 2) L ∧ (vp_in (x3 + 3) L ∧ (((xs (Int32.toNatClampNeg (x3 + 3))) = 0 → (wp_X4_need ((xs (Int32.toNatClampNeg (x3 + 1)))) ((xs (Int32.toNatClampNeg (x3 + 2)))) (0) h (fun (r36 : Int32) (g35 : q_H) => (vp_in (x3 + 1) L ∧ (vp_in (x3 + 2) L ∧ (vp_in (x3 + 3) L ∧ (((xs (Int32.toNatClampNeg (x3 + 3))) = 0 → (wp_X5_need ((xs (Int32.toNatClampNeg (x3 + 1)))) ((xs (Int32.toNatClampNeg (x3 + 2)))) (0) g35 (fun (r41 : Int32) (g40 : q_H) => ((r36 = r41 → (lp_L_law_18 L xs Q E n ((x3 + 8)) g40)) ∧ (¬ (r36 = r41) → (Q 0 g40)))))) ∧ (¬ ((xs (Int32.toNatClampNeg (x3 + 3))) = 0) → (wp_X5_need ((xs (Int32.toNatClampNeg (x3 + 1)))) ((xs (Int32.toNatClampNeg (x3 + 2)))) (1) g35 (fun (r43 : Int32) (g42 : q_H) => ((r36 = r43 → (lp_L_law_18 L xs Q E n ((x3 + 8)) g42)) ∧ (¬ (r36 = r43) → (Q 0 g42))))))))))))) ∧ (¬ ((xs (Int32.toNatClampNeg (x3 + 3))) = 0) → (wp_X4_need ((xs (Int32.toNatClampNeg (x3 + 1)))) ((xs (Int32.toNatClampNeg (x3 + 2)))) (1) h (fun (r45 : Int32) (g44 : q_H) => (vp_in (x3 + 1) L ∧ (vp_in (x3 + 2) L ∧ (vp_in (x3 + 3) L ∧ (((xs (Int32.toNatClampNeg (x3 + 3))) = 0 → (wp_X5_need ((xs (Int32.toNatClampNeg (x3 + 1)))) ((xs (Int32.toNatClampNeg (x3 + 2)))) (0) g44 (fun (r50 : Int32) (g49 : q_H) => ((r45 = r50 → (lp_L_law_18 L xs Q E n ((x3 + 8)) g49)) ∧ (¬ (r45 = r50) → (Q 0 g49)))))) ∧ (¬ ((xs (Int32.toNatClampNeg (x3 + 3))) = 0) → (wp_X5_need ((xs (Int32.toNatClampNeg (x3 + 1)))) ((xs (Int32.toNatClampNeg (x3 + 2)))) (1) g44 (fun (r52 : Int32) (g51 : q_H) => ((r45 = r52 → (lp_L_law_18 L xs Q E n ((x3 + 8)) g51)) ∧ (¬ (r45 = r52) → (Q 0 g51)))))))))))))))))) ∧ (Int32.toInt ((xs (Int32.toNatClampNeg x3)) &&& 31) = 3 → (vp_in (x3 + 1) L ∧ (vp_in (x3 + 2) L ∧ (vp_in (x3 + 3) L ∧ (vp_in (x3 + 4) L ∧ (wp_X4_hold ((xs (Int32.toNatClampNeg (x3 + 1)))) ((xs (Int32.toNatClampNeg (x3 + 2)))) ((xs (Int32.toNatClampNeg (x3 + 3)))) ((xs (Int32.toNatClampNeg (x3 + 4)))) h (fun (r58 : Int32) (g57 : q_H) => (vp_in (x3 + 1) L ∧ (vp_in (x3 + 2) L ∧ (vp_in (x3 + 3) L ∧ (vp_in (x3 + 4) L ∧ (wp_X5_hold ((xs (Int32.toNatClampNeg (x3 + 1)))) ((xs (Int32.toNatClampNeg (x3 + 2)))) ((xs (Int32.toNatClampNeg (x3 + 3)))) ((xs (Int32.toNatClampNeg (x3 + 4)))) g57 (fun (r64 : Int32) (g63 : q_H) => ((r58 = r64 → (lp_L_law_18 L xs Q E n ((x3 + 8)) g63)) ∧ (¬ (r58 = r64) → (Q 0 g63)))))))))))))))) ∧ (Int32.toInt ((xs (Int32.toNatClampNeg x3)) &&& 31) = 4 → (vp_in (x3 + 1) L ∧ (vp_in (x3 + 2) L ∧ (wp_X4_back ((xs (Int32.toNatClampNeg (x3 + 1)))) ((xs (Int32.toNatClampNeg (x3 + 2)))) h (fun (r68 : Int32) (g67 : q_H) => (vp_in (x3 + 1) L ∧ (vp_in (x3 + 2) L ∧ (wp_X5_back ((xs (Int32.toNatClampNeg (x3 + 1)))) ((xs (Int32.toNatClampNeg (x3 + 2)))) g67 (fun (r72 : Int32) (g71 : q_H) => ((r68 = r72 → (lp_L_law_18 L xs Q E n ((x3 + 8)) g71)) ∧ (¬ (r68 = r72) → (Q 0 g71)))))))))))) ∧ (Int32.toInt ((xs (Int32.toNatClampNeg x3)) &&& 31) = 5 → (vp_in (x3 + 1) L ∧ (vp_in (x3 + 2) L ∧ (vp_in (x3 + 3) L ∧ (vp_in (x3 + 4) L ∧ (wp_X4_timer ((xs (Int32.toNatClampNeg (x3 + 1)))) ((xs (Int32.toNatClampNeg (x3 + 2)))) ((xs (Int32.toNatClampNeg (x3 + 3)))) ((xs (Int32.toNatClampNeg (x3 + 4)))) h (fun (r78 : Int32) (g77 : q_H) => (vp_in (x3 + 1) L ∧ (vp_in (x3 + 2) L ∧ (vp_in (x3 + 3) L ∧ (vp_in (x3 + 4) L ∧ (wp_X5_timer ((xs (Int32.toNatClampNeg (x3 + 1)))) ((xs (Int32.toNatClampNeg (x3 + 2)))) ((xs (Int32.toNatClampNeg (x3 + 3)))) ((xs (Int32.toNatClampNeg (x3 + 4)))) g77 (fun (r84 : Int32) (g83 : q_H) => ((r78 = r84 → (lp_L_law_18 L xs Q E n ((x3 + 8)) g83)) ∧ (¬ (r78 = r84) → (Q 0 g83)))))))))))))))) ∧ (Int32.toInt ((xs (Int32.toNatClampNeg x3)) &&& 31) = 6 → (vp_in (x3 + 1) L ∧ (vp_in (x3 + 2) L ∧ (vp_in (x3 + 3) L ∧ (vp_in (x3 + 4) L ∧ (wp_X4_rule ((xs (Int32.toNatClampNeg (x3 + 1)))) ((xs (Int32.toNatClampNeg (x3 + 2)))) ((xs (Int32.toNatClampNeg (x3 + 3)))) ((xs (Int32.toNatClampNeg (x3 + 4)))) h (fun (r90 : Int32) (g89 : q_H) => (vp_in (x3 + 1) L ∧ (vp_in (x3 + 2) L ∧ (vp_in (x3 + 3) L ∧ (vp_in (x3 + 4) L ∧ (wp_X5_rule ((xs (Int32.toNatClampNeg (x3 + 1)))) ((xs (Int32.toNatClampNeg (x3 + 2)))) ((xs (Int32.toNatClampNeg (x3 + 3)))) ((xs (Int32.toNatClampNeg (x3 + 4)))) g89 (fun (r96 : Int32) (g95 : q_H) => ((r90 = r96 → (lp_L_law_18 L xs Q E n ((x3 + 8)) g95)) ∧ (¬ (r90 = r96) → (Q 0 g95)))))))))))))))) ∧ (Int32.toInt ((xs (Int32.toNatClampNeg x3)) &&& 31) = 7 → (vp_in (x3 + 1) L ∧ (wp_X4_look ((xs (Int32.toNatClampNeg (x3 + 1)))) h (fun (r99 : Int32) (g98 : q_H) => (vp_in (x3 + 1) L ∧ (wp_X5_look ((xs (Int32.toNatClampNeg (x3 + 1)))) g98 (fun (r102 : Int32) (g101 : q_H) => ((r99 = r102 → (lp_L_law_18 L xs Q E n ((x3 + 8)) g101)) ∧ (¬ (r99 = r102) → (Q 0 g101)))))))))) ∧ (Int32.toInt ((xs (Int32.toNatClampNeg x3)) &&& 31) = 8 → (vp_in (x3 + 1) L ∧ (vp_in (x3 + 2) L ∧ (wp_X4_held ((xs (Int32.toNatClampNeg (x3 + 1)))) ((xs (Int32.toNatClampNeg (x3 + 2)))) h (fun (r106 : Int32) (g105 : q_H) => (vp_in (x3 + 1) L ∧ (vp_in (x3 + 2) L ∧ (wp_X5_held ((xs (Int32.toNatClampNeg (x3 + 1)))) ((xs (Int32.toNatClampNeg (x3 + 2)))) g105 (fun (r110 : Int32) (g109 : q_H) => ((r106 = r110 → (lp_L_law_18 L xs Q E n ((x3 + 8)) g109)) ∧ (¬ (r106 = r110) → (Q 0 g109)))))))))))) ∧ (Int32.toInt ((xs (Int32.toNatClampNeg x3)) &&& 31) = 9 → (vp_in (x3 + 1) L ∧ (wp_X4_waking ((xs (Int32.toNatClampNeg (x3 + 1)))) h (fun (r113 : Int32) (g112 : q_H) => (vp_in (x3 + 1) L ∧ (wp_X5_waking ((xs (Int32.toNatClampNeg (x3 + 1)))) g112 (fun (r116 : Int32) (g115 : q_H) => ((r113 = r116 → (lp_L_law_18 L xs Q E n ((x3 + 8)) g115)) ∧ (¬ (r113 = r116) → (Q 0 g115)))))))))) ∧ (Int32.toInt ((xs (Int32.toNatClampNeg x3)) &&& 31) = 10 → (vp_in (x3 + 1) L ∧ (wp_X4_fires ((xs (Int32.toNatClampNeg (x3 + 1)))) h (fun (r119 : Int32) (g118 : q_H) => (vp_in (x3 + 1) L ∧ (wp_X5_fires ((xs (Int32.toNatClampNeg (x3 + 1)))) g118 (fun (r122 : Int32) (g121 : q_H) => ((r119 = r122 → (lp_L_law_18 L xs Q E n ((x3 + 8)) g121)) ∧ (¬ (r119 = r122) → (Q 0 g121)))))))))) ∧ (Int32.toInt ((xs (Int32.toNatClampNeg x3)) &&& 31) = 11 → (vp_in (x3 + 1) L ∧ (vp_in (x3 + 2) L ∧ (wp_X4_wanted ((xs (Int32.toNatClampNeg (x3 + 1)))) ((xs (Int32.toNatClampNeg (x3 + 2)))) h (fun (r126 : Int32) (g125 : q_H) => (vp_in (x3 + 1) L ∧ (vp_in (x3 + 2) L ∧ (wp_X5_wanted ((xs (Int32.toNatClampNeg (x3 + 1)))) ((xs (Int32.toNatClampNeg (x3 + 2)))) g125 (fun (r130 : Int32) (g129 : q_H) => ((r126 = r130 → (lp_L_law_18 L xs Q E n ((x3 + 8)) g129)) ∧ (¬ (r126 = r130) → (Q 0 g129)))))))))))) ∧ (Int32.toInt ((xs (Int32.toNatClampNeg x3)) &&& 31) = 12 → (vp_in (x3 + 1) L ∧ (wp_X4_when ((xs (Int32.toNatClampNeg (x3 + 1)))) h (fun (r133 : Int64) (g132 : q_H) => (vp_in (x3 + 1) L ∧ (wp_X5_when ((xs (Int32.toNatClampNeg (x3 + 1)))) g132 (fun (r136 : Int64) (g135 : q_H) => (((lg_cmp r133 r136) = 0 → (lp_L_law_18 L xs Q E n ((x3 + 8)) g135)) ∧ (¬ ((lg_cmp r133 r136) = 0) → (Q 0 g135)))))))))) ∧ (Int32.toInt ((xs (Int32.toNatClampNeg x3)) &&& 31) = 13 → (vp_in (x3 + 1) L ∧ (wp_X4_spans ((xs (Int32.toNatClampNeg (x3 + 1)))) h (fun (r139 : Int32) (g138 : q_H) => (vp_in (x3 + 1) L ∧ (wp_X5_spans ((xs (Int32.toNatClampNeg (x3 + 1)))) g138 (fun (r142 : Int32) (g141 : q_H) => ((r139 = r142 → (lp_L_law_18 L xs Q E n ((x3 + 8)) g141)) ∧ (¬ (r139 = r142) → (Q 0 g141)))))))))) ∧ (Int32.toInt ((xs (Int32.toNatClampNeg x3)) &&& 31) = 14 → (vp_in (x3 + 1) L ∧ (vp_in (x3 + 2) L ∧ (vp_in (x3 + 3) L ∧ (wp_X4_span ((xs (Int32.toNatClampNeg (x3 + 1)))) ((xs (Int32.toNatClampNeg (x3 + 2)))) ((xs (Int32.toNatClampNeg (x3 + 3)))) h (fun (r147 : Int32) (g146 : q_H) => (vp_in (x3 + 1) L ∧ (vp_in (x3 + 2) L ∧ (vp_in (x3 + 3) L ∧ (wp_X5_span ((xs (Int32.toNatClampNeg (x3 + 1)))) ((xs (Int32.toNatClampNeg (x3 + 2)))) ((xs (Int32.toNatClampNeg (x3 + 3)))) g146 (fun (r152 : Int32) (g151 : q_H) => ((r147 = r152 → (lp_L_law_18 L xs Q E n ((x3 + 8)) g151)) ∧ (¬ (r147 = r152) → (Q 0 g151)))))))))))))) ∧ (Int32.toInt ((xs (Int32.toNatClampNeg x3)) &&& 31) = 15 → (vp_in (x3 + 1) L ∧ (wp_X4_drain ((xs (Int32.toNatClampNeg (x3 + 1)))) h (fun (r155 : Int32) (g154 : q_H) => (vp_in (x3 + 1) L ∧ (wp_X5_drain ((xs (Int32.toNatClampNeg (x3 + 1)))) g154 (fun (r158 : Int32) (g157 : q_H) => ((r155 = r158 → (lp_L_law_18 L xs Q E n ((x3 + 8)) g157)) ∧ (¬ (r155 = r158) → (Q 0 g157)))))))))) ∧ (Int32.toInt ((xs (Int32.toNatClampNeg x3)) &&& 31) = 16 → (vp_in (x3 + 1) L ∧ (wp_X4_ruled ((xs (Int32.toNatClampNeg (x3 + 1)))) h (fun (r161 : Int32) (g160 : q_H) => (vp_in (x3 + 1) L ∧ (wp_X5_ruled ((xs (Int32.toNatClampNeg (x3 + 1)))) g160 (fun (r164 : Int32) (g163 : q_H) => ((r161 = r164 → (lp_L_law_18 L xs Q E n ((x3 + 8)) g163)) ∧ (¬ (r161 = r164) → (Q 0 g163)))))))))) ∧ (Int32.toInt ((xs (Int32.toNatClampNeg x3)) &&& 31) = 17 → (vp_in (x3 + 1) L ∧ (vp_in (x3 + 2) L ∧ (wp_X4_state ((xs (Int32.toNatClampNeg (x3 + 1)))) ((xs (Int32.toNatClampNeg (x3 + 2)))) h (fun (r168 : Int32) (g167 : q_H) => (vp_in (x3 + 1) L ∧ (vp_in (x3 + 2) L ∧ (wp_X5_state ((xs (Int32.toNatClampNeg (x3 + 1)))) ((xs (Int32.toNatClampNeg (x3 + 2)))) g167 (fun (r172 : Int32) (g171 : q_H) => ((r168 = r172 → (lp_L_law_18 L xs Q E n ((x3 + 8)) g171)) ∧ (¬ (r168 = r172) → (Q 0 g171)))))))))))) ∧ (Int32.toInt ((xs (Int32.toNatClampNeg x3)) &&& 31) = 18 → (vp_in (x3 + 1) L ∧ (vp_in (x3 + 2) L ∧ (wp_X4_ruledState ((xs (Int32.toNatClampNeg (x3 + 1)))) ((xs (Int32.toNatClampNeg (x3 + 2)))) h (fun (r176 : Int32) (g175 : q_H) => (vp_in (x3 + 1) L ∧ (vp_in (x3 + 2) L ∧ (wp_X5_ruledState ((xs (Int32.toNatClampNeg (x3 + 1)))) ((xs (Int32.toNatClampNeg (x3 + 2)))) g175 (fun (r180 : Int32) (g179 : q_H) => ((r176 = r180 → (lp_L_law_18 L xs Q E n ((x3 + 8)) g179)) ∧ (¬ (r176 = r180) → (Q 0 g179)))))))))))) ∧ (Int32.toInt ((xs (Int32.toNatClampNeg x3)) &&& 31) = 19 → (wp_X4_all  h (fun (r182 : Int32) (g181 : q_H) => (wp_X5_all  g181 (fun (r184 : Int32) (g183 : q_H) => ((r182 = r184 → (lp_L_law_18 L xs Q E n ((x3 + 8)) g183)) ∧ (¬ (r182 = r184) → (Q 0 g183)))))))) ∧ (Int32.toInt ((xs (Int32.toNatClampNeg x3)) &&& 31) = 20 → (vp_in (x3 + 1) L ∧ (wp_X4_without ((xs (Int32.toNatClampNeg (x3 + 1)))) h (fun (r187 : Int32) (g186 : q_H) => (vp_in (x3 + 1) L ∧ (wp_X5_without ((xs (Int32.toNatClampNeg (x3 + 1)))) g186 (fun (r190 : Int32) (g189 : q_H) => ((r187 = r190 → (lp_L_law_18 L xs Q E n ((x3 + 8)) g189)) ∧ (¬ (r187 = r190) → (Q 0 g189)))))))))) ∧ (Int32.toInt ((xs (Int32.toNatClampNeg x3)) &&& 31) = 21 → (vp_in (x3 + 1) L ∧ (wp_X4_blame ((xs (Int32.toNatClampNeg (x3 + 1)))) h (fun (r193 : Int32) (g192 : q_H) => (vp_in (x3 + 1) L ∧ (wp_X5_blame ((xs (Int32.toNatClampNeg (x3 + 1)))) g192 (fun (r196 : Int32) (g195 : q_H) => ((r193 = r196 → (lp_L_law_18 L xs Q E n ((x3 + 8)) g195)) ∧ (¬ (r193 = r196) → (Q 0 g195)))))))))) ∧ (Int32.toInt ((xs (Int32.toNatClampNeg x3)) &&& 31) = 22 → (vp_in (x3 + 1) L ∧ (vp_in (x3 + 2) L ∧ (wp_X4_order ((xs (Int32.toNatClampNeg (x3 + 1)))) ((xs (Int32.toNatClampNeg (x3 + 2)))) h (fun (r200 : Int32) (g199 : q_H) => (vp_in (x3 + 1) L ∧ (vp_in (x3 + 2) L ∧ (wp_X5_order ((xs (Int32.toNatClampNeg (x3 + 1)))) ((xs (Int32.toNatClampNeg (x3 + 2)))) g199 (fun (r204 : Int32) (g203 : q_H) => ((r200 = r204 → (lp_L_law_18 L xs Q E n ((x3 + 8)) g203)) ∧ (¬ (r200 = r204) → (Q 0 g203)))))))))))) ∧ (Int32.toInt ((xs (Int32.toNatClampNeg x3)) &&& 31) = 23 → (vp_in (x3 + 1) L ∧ (wp_X4_learn ((xs (Int32.toNatClampNeg (x3 + 1)))) h (fun (r207 : Int32) (g206 : q_H) => (vp_in (x3 + 1) L ∧ (wp_X5_learn ((xs (Int32.toNatClampNeg (x3 + 1)))) g206 (fun (r210 : Int32) (g209 : q_H) => ((r207 = r210 → (lp_L_law_18 L xs Q E n ((x3 + 8)) g209)) ∧ (¬ (r207 = r210) → (Q 0 g209)))))))))) ∧ ((Int32.toInt ((xs (Int32.toNatClampNeg x3)) &&& 31) < 0 ∨ 23 < Int32.toInt ((xs (Int32.toNatClampNeg x3)) &&& 31)) → (lp_L_law_18 L xs Q E n ((x3 + 8)) h))))))
end
section
/-! ===== bits (the families bt, ts, wb of kit/laws/BITS.to-paste) ===== -/
def bt (x : Int32) (i : Nat) : Bool := x.toBitVec.getLsbD i
theorem b_ext {x y : Int32} (h : ∀ i, i < 32 → bt x i = bt y i) : x = y := Int32.toBitVec_inj.mp (BitVec.eq_of_getLsbD_eq (fun i hi => h i hi))
theorem b_or (x y : Int32) (i : Nat) : bt (x ||| y) i = (bt x i || bt y i) := by unfold bt; rw [Int32.toBitVec_or, BitVec.getLsbD_or]
theorem b_and (x y : Int32) (i : Nat) : bt (x &&& y) i = (bt x i && bt y i) := by unfold bt; rw [Int32.toBitVec_and, BitVec.getLsbD_and]
theorem b_xor (x y : Int32) (i : Nat) : bt (x ^^^ y) i = (bt x i ^^ bt y i) := by unfold bt; rw [Int32.toBitVec_xor, BitVec.getLsbD_xor]
theorem b_big {x : Int32} {i : Nat} (h : 32 ≤ i) : bt x i = false := BitVec.getLsbD_of_ge _ _ h
theorem b_255 (i : Nat) : bt 255 i = decide (i < 8) := by
  rcases Nat.lt_or_ge i 32 with h | h
  · exact (by decide +kernel : ∀ i, i < 32 → bt 255 i = decide (i < 8)) i h
  · rw [b_big h, decide_eq_false (by omega)]
theorem b_65535 (i : Nat) : bt 65535 i = decide (i < 16) := by
  rcases Nat.lt_or_ge i 32 with h | h
  · exact (by decide +kernel : ∀ i, i < 32 → bt 65535 i = decide (i < 16)) i h
  · rw [b_big h, decide_eq_false (by omega)]
theorem b_m1 : ∀ i, i < 32 → bt (-1) i = true := by decide +kernel
theorem b_0 (i : Nat) : bt 0 i = false := BitVec.getLsbD_zero
theorem s_l : ∀ n, n < 32 → ((nI n &&& 31).toBitVec.smod 32).toNat = n := by decide +kernel
theorem s_u : ∀ n, n < 32 → (((nI n).toUInt32 &&& Int32.toUInt32 31).toBitVec % 32).toNat = n := by decide +kernel
theorem b_shl (n : Nat) (hn : n < 32) (x : Int32) {i : Nat} (hi : i < 32) : bt (x <<< (nI n &&& 31)) i = (decide (n ≤ i) && bt x (i - n)) := by
  unfold bt
  rw [Int32.toBitVec_shiftLeft]
  show (x.toBitVec <<< ((nI n &&& 31).toBitVec.smod 32).toNat).getLsbD i = _
  rw [s_l n hn, BitVec.getLsbD_shiftLeft]
  rcases Nat.lt_or_ge i n with h | h
  · simp [h, Nat.not_le.mpr h]
  · simp [hi, h, Nat.not_lt.mpr h]
theorem b_ushr (n : Nat) (hn : n < 32) (x : Int32) (i : Nat) : bt ((x.toUInt32 >>> ((nI n).toUInt32 &&& Int32.toUInt32 31)).toInt32) i = bt x (n + i) := by
  show (x.toUInt32 >>> ((nI n).toUInt32 &&& Int32.toUInt32 31)).toBitVec.getLsbD i = x.toUInt32.toBitVec.getLsbD (n + i)
  rw [UInt32.toBitVec_shiftRight]
  show (x.toUInt32.toBitVec >>> (((nI n).toUInt32 &&& Int32.toUInt32 31).toBitVec % 32).toNat).getLsbD i = _
  rw [s_u n hn, BitVec.getLsbD_ushiftRight]
theorem b_sshr (n : Nat) (hn : n < 32) (x : Int32) {i : Nat} (hi : i < 32) : bt (x >>> (nI n &&& 31)) i = if n + i < 32 then bt x (n + i) else bt x 31 := by
  unfold bt
  rw [Int32.toBitVec_shiftRight]
  show (x.toBitVec.sshiftRight ((nI n &&& 31).toBitVec.smod 32).toNat).getLsbD i = _
  rw [s_l n hn, BitVec.getLsbD_sshiftRight, BitVec.msb_eq_getLsbD_last]
  simp [hi]
theorem ts_nf {x : Bool} (h : ¬ x = false) : x = true := by cases x <;> first | rfl | exact absurd rfl h
theorem ts_nt {x : Bool} (h : ¬ x = true) : x = false := by cases x <;> first | rfl | exact absurd rfl h
theorem ts_bit {w : Int64} {s : UInt64} {j : Nat} (hj : j < 64) (hs : s.toNat = j) : ((w.toUInt64 >>> s).toInt64 &&& 1) = 0 ↔ w.toBitVec.getLsbD j = false := by
  have e : (w.toUInt64 >>> s).toInt64.toBitVec = w.toBitVec >>> j := by
    apply BitVec.eq_of_toNat_eq
    show (w.toUInt64 >>> s).toNat = _
    rw [UInt64.toNat_shiftRight, hs, Nat.mod_eq_of_lt hj, BitVec.toNat_ushiftRight]
    rfl
  rw [← Int64.toBitVec_inj, Int64.toBitVec_and, e]
  show w.toBitVec >>> j &&& 1#64 = 0#64 ↔ _
  constructor
  · intro h
    have t := congrArg (fun x => x.getLsbD 0) h
    simpa using t
  · intro h
    apply BitVec.eq_of_getLsbD_eq
    intro i hi
    cases i with
    | zero => simp [h]
    | succ i => simp
theorem wb_tb (n : Nat) : (lN n).toBitVec = BitVec.ofNat 64 n := rfl
theorem wb_inj {a b : Int64} (h : a.toBitVec = b.toBitVec) : a = b := Int64.toBitVec_inj.mp h
theorem wb_tn {n : Nat} (h : n < 2 ^ 64) : (lN n).toBitVec.toNat = n := by rw [wb_tb, BitVec.toNat_ofNat, Nat.mod_eq_of_lt h]
theorem wb_of (x : Int64) : ∃ n, n < 2 ^ 64 ∧ x = lN n := ⟨x.toBitVec.toNat, x.toBitVec.isLt, wb_inj (by rw [wb_tb]; simp)⟩
theorem wb_of32 (x : Int32) : ∃ n, n < 2 ^ 32 ∧ x = nI n := ⟨x.toBitVec.toNat, x.toBitVec.isLt, Int32.toBitVec_inj.mp (by show _ = BitVec.ofNat 32 _; simp)⟩
theorem wb_c : ∀ k, k < 64 → ((nI k).toInt64 &&& 63) = lN k := by decide +kernel
theorem wb_cu : ∀ k, k < 64 → ((nI k).toInt64.toUInt64 &&& Int64.toUInt64 63) = UInt64.ofNat k := by decide +kernel
theorem wb_sm : ∀ k, k < 64 → (BitVec.ofNat 64 k).smod 64 = BitVec.ofNat 64 k := by decide +kernel
theorem wb_pw {a b : Nat} (h : a ≤ b) : 2 ^ b = 2 ^ a * 2 ^ (b - a) := by rw [← Nat.pow_add]; congr 1; omega
theorem wb_lt2 {a b : Nat} (h : a < b) : 2 ^ a < 2 ^ b := Nat.pow_lt_pow_right (by decide) h
theorem wb_mod (n : Nat) : lN n = lN (n % 2 ^ 64) := wb_inj (by rw [wb_tb, wb_tb]; apply BitVec.eq_of_toNat_eq; rw [BitVec.toNat_ofNat, BitVec.toNat_ofNat, Nat.mod_mod])
theorem wb_shr {n k : Nat} (hn : n < 2 ^ 64) (hk : k < 64) : ((lN n).toUInt64 >>> ((nI k).toInt64.toUInt64 &&& Int64.toUInt64 63)).toInt64 = lN (n / 2 ^ k) := by
  rw [wb_cu k hk]
  apply wb_inj
  apply BitVec.eq_of_toNat_eq
  show ((lN n).toUInt64 >>> UInt64.ofNat k).toNat = (BitVec.ofNat 64 _).toNat
  have h1 : (UInt64.ofNat k).toNat = k := by
    show (BitVec.ofNat 64 k).toNat = k
    rw [BitVec.toNat_ofNat, Nat.mod_eq_of_lt (by omega)]
  have h2 : (lN n).toUInt64.toNat = n := wb_tn hn
  rw [UInt64.toNat_shiftRight, h1, h2, Nat.mod_eq_of_lt hk, Nat.shiftRight_eq_div_pow, BitVec.toNat_ofNat, Nat.mod_eq_of_lt (Nat.lt_of_le_of_lt (Nat.div_le_self _ _) hn)]
theorem wb_shl (n : Nat) {k : Nat} (hk : k < 64) : lN n <<< ((nI k).toInt64 &&& 63) = lN (n * 2 ^ k) := by
  rw [wb_c k hk]
  apply wb_inj
  rw [Int64.toBitVec_shiftLeft, wb_tb, wb_tb, wb_tb, wb_sm k hk]
  apply BitVec.eq_of_toNat_eq
  rw [BitVec.shiftLeft_eq', BitVec.toNat_shiftLeft, BitVec.toNat_ofNat, BitVec.toNat_ofNat, BitVec.toNat_ofNat, Nat.mod_eq_of_lt (show k < 2 ^ 64 by omega), Nat.shiftLeft_eq, Nat.mul_mod, Nat.mod_mod, ← Nat.mul_mod]
theorem wb_and {a b : Nat} (ha : a < 2 ^ 64) (hb : b < 2 ^ 64) : lN a &&& lN b = lN (a &&& b) := by
  apply wb_inj
  rw [Int64.toBitVec_and, wb_tb, wb_tb, wb_tb]
  apply BitVec.eq_of_toNat_eq
  rw [BitVec.toNat_and, BitVec.toNat_ofNat, BitVec.toNat_ofNat, BitVec.toNat_ofNat, Nat.mod_eq_of_lt ha, Nat.mod_eq_of_lt hb, Nat.mod_eq_of_lt (Nat.and_lt_two_pow _ hb)]
theorem wb_or {a b : Nat} (ha : a < 2 ^ 64) (hb : b < 2 ^ 64) : lN a ||| lN b = lN (a ||| b) := by
  apply wb_inj
  rw [Int64.toBitVec_or, wb_tb, wb_tb, wb_tb]
  apply BitVec.eq_of_toNat_eq
  rw [BitVec.toNat_or, BitVec.toNat_ofNat, BitVec.toNat_ofNat, BitVec.toNat_ofNat, Nat.mod_eq_of_lt ha, Nat.mod_eq_of_lt hb, Nat.mod_eq_of_lt (Nat.or_lt_two_pow ha hb)]
theorem wb_mask {n k : Nat} (hn : n < 2 ^ 64) (hk : k < 64) : lN n &&& lN (2 ^ k - 1) = lN (n % 2 ^ k) := by
  rw [wb_and hn (by have := wb_lt2 hk; omega), Nat.and_two_pow_sub_one_eq_mod]
theorem wb_a1 {n : Nat} (hn : n < 2 ^ 64) : lN n &&& 1 = lN (n % 2) := wb_mask (k := 1) hn (by decide)
theorem wb_bit {n k : Nat} (hn : n < 2 ^ 64) (hk : k < 64) : ((lN n).toUInt64 >>> ((nI k).toInt64.toUInt64 &&& Int64.toUInt64 63)).toInt64 &&& 1 = lN (n / 2 ^ k % 2) := by
  rw [wb_shr hn hk, wb_a1 (Nat.lt_of_le_of_lt (Nat.div_le_self _ _) hn)]
/-! ===== Int64 by its bits ===== -/
def tb (x : Int64) (i : Nat) : Bool := x.toBitVec.getLsbD i
theorem tb_ext {x y : Int64} (h : ∀ i, i < 64 → tb x i = tb y i) : x = y := Int64.toBitVec_inj.mp (BitVec.eq_of_getLsbD_eq (fun i hi => h i hi))
theorem tb_or (x y : Int64) (i : Nat) : tb (x ||| y) i = (tb x i || tb y i) := by unfold tb; rw [Int64.toBitVec_or, BitVec.getLsbD_or]
theorem tb_and (x y : Int64) (i : Nat) : tb (x &&& y) i = (tb x i && tb y i) := by unfold tb; rw [Int64.toBitVec_and, BitVec.getLsbD_and]
theorem tb_xor (x y : Int64) (i : Nat) : tb (x ^^^ y) i = (tb x i ^^ tb y i) := by unfold tb; rw [Int64.toBitVec_xor, BitVec.getLsbD_xor]
theorem tb_0 (i : Nat) : tb 0 i = false := BitVec.getLsbD_zero
theorem tb_m1 : ∀ i, i < 64 → tb (-1) i = true := by decide +kernel
theorem tb_not (x : Int64) {i : Nat} (hi : i < 64) : tb (x ^^^ (-1)) i = !tb x i := by rw [tb_xor, tb_m1 i hi, Bool.xor_true]
theorem tb_lN (n : Nat) {i : Nat} (hi : i < 64) : tb (lN n) i = n.testBit i := by
  show (BitVec.ofNat 64 n).getLsbD i = _
  rw [BitVec.getLsbD_ofNat]
  simp [hi]
theorem lN_one : lN 1 = 1 := rfl
theorem tb_one {t i : Nat} (ht : t < 64) (hi : i < 64) : tb ((1 : Int64) <<< ((nI t).toInt64 &&& 63)) i = decide (i = t) := by
  rw [← lN_one, wb_shl 1 ht, tb_lN _ hi, Nat.one_mul, Nat.testBit_two_pow]
  by_cases h : t = i
  · simp [h]
  · simp [h, show ¬ i = t from fun q => h q.symm]
theorem tb_ahead {n i : Nat} (hn : n < 64) (hi : i < 64) : tb (((1 : Int64) <<< ((nI n).toInt64 &&& 63)) - 1) i = decide (i < n) := by
  have h1 : (1 : Nat) ≤ 1 * 2 ^ n := by rw [Nat.one_mul]; exact Nat.one_le_two_pow
  have e : ((1 : Int64) <<< ((nI n).toInt64 &&& 63)) - 1 = lN (2 ^ n - 1) := by
    have : lN (1 * 2 ^ n) - lN 1 = lN (1 * 2 ^ n - 1) := lN_sub h1
    rw [← lN_one, wb_shl 1 hn, this, Nat.one_mul]
  rw [e, tb_lN _ hi, Nat.testBit_two_pow_sub_one]
theorem lgc_0 (x : Int64) : lg_cmp x 0 = 0 ↔ x = 0 := by
  unfold lg_cmp
  constructor
  · intro h
    by_cases h1 : x > 0
    · rw [if_pos h1] at h; exact absurd h (by decide)
    · rw [if_neg h1] at h
      by_cases h2 : x = 0
      · exact h2
      · rw [if_neg h2] at h; exact absurd h (by decide)
  · intro h
    subst h
    decide +kernel
theorem tb_hit (x : Int64) {t : Nat} (ht : t < 64) : lg_cmp (((Int64.toUInt64 x >>> ((Int32.toInt64 (nI t)).toUInt64 &&& Int64.toUInt64 63)).toInt64) &&& 1) 0 = 0 ↔ tb x t = false := by
  rw [lgc_0]
  refine ts_bit ht ?_
  rw [wb_cu t ht]
  show (BitVec.ofNat 64 t).toNat = t
  rw [BitVec.toNat_ofNat, Nat.mod_eq_of_lt (by omega)]
/-! ===== one bit of an int ===== -/
theorem b_one {t i : Nat} (ht : t < 32) (hi : i < 32) : bt ((1 : Int32) <<< (nI t &&& 31)) i = decide (i = t) := by
  rw [b_shl t ht 1 hi]
  have h1 : ∀ j, j < 32 → bt 1 j = decide (j = 0) := by decide +kernel
  rcases Nat.lt_or_ge i t with h | h
  · rw [decide_eq_false (by omega), Bool.false_and, decide_eq_false (by omega)]
  · rw [h1 (i - t) (by omega), decide_eq_true h, Bool.true_and]
    by_cases e : i = t
    · rw [decide_eq_true (by omega), decide_eq_true e]
    · rw [decide_eq_false (by omega), decide_eq_false e]
theorem b_one1 : ∀ j, j < 32 → bt 1 j = decide (j = 0) := by decide +kernel
theorem b_and1 (x : Int32) : (x &&& 1) = 0 ↔ bt x 0 = false := by
  constructor
  · intro h
    have := congrArg (fun z => bt z 0) h
    simp only [b_and, b_0] at this
    rw [b_one1 0 (by omega)] at this
    simpa using this
  · intro h
    apply b_ext
    intro i hi
    rw [b_and, b_0, b_one1 i hi]
    by_cases e : i = 0
    · subst e; rw [h, Bool.false_and]
    · rw [decide_eq_false e, Bool.and_false]
theorem b_and1' (x : Int32) : (x &&& 1) = 1 ↔ bt x 0 = true := by
  have h01 : (x &&& 1) = 0 ∨ (x &&& 1) = 1 := by
    cases hx : bt x 0 with
    | false => exact Or.inl ((b_and1 x).mpr hx)
    | true =>
      right
      apply b_ext
      intro i hi
      rw [b_and, b_one1 i hi]
      by_cases e : i = 0
      · subst e; rw [hx]; rfl
      · rw [decide_eq_false e, Bool.and_false]
  constructor
  · intro h
    cases hx : bt x 0 with
    | true => rfl
    | false => rw [(b_and1 x).mpr hx] at h; exact absurd h (by decide)
  · intro h
    rcases h01 with h0 | h1
    · rw [(b_and1 x).mp h0] at h; cases h
    · exact h1
/-- the class's test of a bit -/
theorem b_hit (x : Int32) {t : Nat} (ht : t < 32) : ((((Int32.toUInt32 x >>> (Int32.toUInt32 (nI t) &&& Int32.toUInt32 31)).toInt32) &&& 1) = 0) ↔ bt x t = false := by
  rw [b_and1, b_ushr t ht, Nat.add_zero]
/-- the reference's test of a bit -/
theorem b_hitS (x : Int32) {t : Nat} (ht : t < 32) : ((x >>> (nI t &&& 31)) &&& 1) = 1 ↔ bt x t = true := by
  rw [b_and1', b_sshr t ht x (by omega), if_pos (by omega), Nat.add_zero]
theorem b_hitS0 (x : Int32) {t : Nat} (ht : t < 32) : ((x >>> (nI t &&& 31)) &&& 1) = 0 ↔ bt x t = false := by
  rw [b_and1, b_sshr t ht x (by omega), if_pos (by omega), Nat.add_zero]
/-! ===== whole rows of the heap ===== -/
def q_aI (h : q_H) (k i : Nat) (f : Nat → Int32) : q_H := (fun k1 i1 => if k1 = k ∧ i1 = i then f else h.1 k1 i1, h.2)
def q_aL (h : q_H) (k i : Nat) (f : Nat → Int64) : q_H := (h.1, fun k1 i1 => if k1 = k ∧ i1 = i then f else h.2 k1 i1)
theorem q_sI_a (h : q_H) (k i j : Nat) (v : Int32) : q_sI h k i j v = q_aI h k i (upd (h.1 k i) j v) := by
  refine Prod.ext ?_ rfl
  funext k1 i1 j1
  unfold q_sI q_aI upd
  by_cases e : k1 = k ∧ i1 = i
  · obtain ⟨rfl, rfl⟩ := e
    by_cases e2 : j1 = j
    · simp [e2]
    · simp [e2]
  · have : ¬ (k1 = k ∧ i1 = i ∧ j1 = j) := fun q => e ⟨q.1, q.2.1⟩
    simp only [if_neg this, if_neg e]
theorem q_sL_a (h : q_H) (k i j : Nat) (v : Int64) : q_sL h k i j v = q_aL h k i (vp_updL (h.2 k i) j v) := by
  refine Prod.ext rfl ?_
  funext k1 i1 j1
  unfold q_sL q_aL vp_updL
  by_cases e : k1 = k ∧ i1 = i
  · obtain ⟨rfl, rfl⟩ := e
    by_cases e2 : j1 = j
    · simp [e2]
    · simp [e2]
  · have : ¬ (k1 = k ∧ i1 = i ∧ j1 = j) := fun q => e ⟨q.1, q.2.1⟩
    simp only [if_neg this, if_neg e]
theorem q_aI_at (h : q_H) (k i : Nat) (f : Nat → Int32) : (q_aI h k i f).1 k i = f := if_pos ⟨rfl, rfl⟩
theorem q_aL_at (h : q_H) (k i : Nat) (f : Nat → Int64) : (q_aL h k i f).2 k i = f := if_pos ⟨rfl, rfl⟩
theorem q_aI_ne {h : q_H} {k i k1 i1 : Nat} {f : Nat → Int32} (n : ¬ (k1 = k ∧ i1 = i)) : (q_aI h k i f).1 k1 i1 = h.1 k1 i1 := if_neg n
theorem q_aL_ne {h : q_H} {k i k1 i1 : Nat} {f : Nat → Int64} (n : ¬ (k1 = k ∧ i1 = i)) : (q_aL h k i f).2 k1 i1 = h.2 k1 i1 := if_neg n
theorem q_aI_aI (h : q_H) (k i : Nat) (f g : Nat → Int32) : q_aI (q_aI h k i f) k i g = q_aI h k i g := by
  refine Prod.ext ?_ rfl
  funext k1 i1
  by_cases e : k1 = k ∧ i1 = i
  · obtain ⟨rfl, rfl⟩ := e; rw [q_aI_at, q_aI_at]
  · rw [q_aI_ne e, q_aI_ne e, q_aI_ne e]
theorem q_aL_aL (h : q_H) (k i : Nat) (f g : Nat → Int64) : q_aL (q_aL h k i f) k i g = q_aL h k i g := by
  refine Prod.ext rfl ?_
  funext k1 i1
  by_cases e : k1 = k ∧ i1 = i
  · obtain ⟨rfl, rfl⟩ := e; rw [q_aL_at, q_aL_at]
  · rw [q_aL_ne e, q_aL_ne e, q_aL_ne e]
theorem q_aI_self (h : q_H) (k i : Nat) : q_aI h k i (h.1 k i) = h := by
  refine Prod.ext ?_ rfl
  funext k1 i1
  by_cases e : k1 = k ∧ i1 = i
  · obtain ⟨rfl, rfl⟩ := e; rw [q_aI_at]
  · rw [q_aI_ne e]
theorem q_aL_self (h : q_H) (k i : Nat) : q_aL h k i (h.2 k i) = h := by
  refine Prod.ext rfl ?_
  funext k1 i1
  by_cases e : k1 = k ∧ i1 = i
  · obtain ⟨rfl, rfl⟩ := e; rw [q_aL_at]
  · rw [q_aL_ne e]
theorem vI_s (f : Nat → Int32) (k : Nat) (x : Int32) : upd f k x k = x := if_pos rfl
theorem vI_n {f : Nat → Int32} {k j : Nat} {x : Int32} (h : j ≠ k) : upd f k x j = f j := if_neg h
theorem vL_s (f : Nat → Int64) (k : Nat) (x : Int64) : vp_updL f k x k = x := if_pos rfl
theorem vL_n {f : Nat → Int64} {k j : Nat} {x : Int64} (h : j ≠ k) : vp_updL f k x j = f j := if_neg h
/-! ===== the simplest methods ===== -/
theorem s_hasTick {x : Int64} {t : Nat} {h : q_H} {Q : Int32 → q_H → Prop} (ht : t < 64) (k : Q (if tb x t = true then 1 else 0) h) : wp_X4_hasTick x (nI t) h Q := by
  unfold wp_X4_hasTick
  refine ⟨fun c => ?_, fun c => ?_⟩
  · have := (tb_hit x ht).mp c
    rw [this] at k
    exact k
  · have h1 : tb x t = true := by
      cases e : tb x t with
      | true => rfl
      | false => exact absurd ((tb_hit x ht).mpr e) c
    rw [h1] at k
    exact k
theorem s_hasPart {x : Int32} {t : Nat} {h : q_H} {Q : Int32 → q_H → Prop} (ht : t < 32) (k : Q (if bt x t = true then 1 else 0) h) : wp_X4_hasPart x (nI t) h Q := by
  unfold wp_X4_hasPart
  refine ⟨fun c => ?_, fun c => ?_⟩
  · have := (b_hit x ht).mp c
    rw [this] at k
    exact k
  · have h1 : bt x t = true := by
      cases e : bt x t with
      | true => rfl
      | false => exact absurd ((b_hit x ht).mpr e) c
    rw [h1] at k
    exact k
end
section
/-! ===== the state as numbers, and what the answers are ===== -/
/-- parts; drain, cost, rising, rule by part and place; needs; holds and their rows (program, part, from, to); timers and their rows (program, part, first, last) -/
abbrev q_S : Type := Nat × (Nat → Nat → Nat) × (Nat → Nat → Nat) × (Nat → Nat → Nat) × (Nat → Nat → Nat) × (Nat → Nat → Bool) × Nat × (Nat → Nat → Nat) × Nat × (Nat → Nat → Nat)
def z_np (m : q_S) : Nat := m.1
def z_dr (m : q_S) : Nat → Nat → Nat := m.2.1
def z_co (m : q_S) : Nat → Nat → Nat := m.2.2.1
def z_ri (m : q_S) : Nat → Nat → Nat := m.2.2.2.1
def z_ru (m : q_S) : Nat → Nat → Nat := m.2.2.2.2.1
def z_nd (m : q_S) : Nat → Nat → Bool := m.2.2.2.2.2.1
def z_nh (m : q_S) : Nat := m.2.2.2.2.2.2.1
def z_ho (m : q_S) : Nat → Nat → Nat := m.2.2.2.2.2.2.2.1
def z_nt (m : q_S) : Nat := m.2.2.2.2.2.2.2.2.1
def z_ti (m : q_S) : Nat → Nat → Nat := m.2.2.2.2.2.2.2.2.2
-- wakings: what ends at t, told the first free tick l behind the latest waking
def z_ends (m : q_S) (l t : Nat) : Bool := (List.range (z_nt m)).any (fun i => z_ti m i 3 == t && decide (l ≤ z_ti m i 2))
def z_lat (m : q_S) : Nat → Nat
  | 0 => 0
  | t + 1 => if z_ends m (z_lat m t) t = true then t + 1 else z_lat m t
def z_wk (m : q_S) (t : Nat) : Bool := z_ends m (z_lat m t) t
/-- the least n ≤ k at which f holds, k if there is none below -/
def z_least (f : Nat → Bool) : Nat → Nat → Nat
  | 0, s => s
  | n + 1, s => if f s = true then s else z_least f n (s + 1)
/-- the waking of timer i -/
def z_fi (m : q_S) (i : Nat) : Nat := z_least (z_wk m) 64 (z_ti m i 2)
-- who wants whom
def z_base (m : q_S) (lo : Int32) (g t p : Nat) : Bool :=
  (List.range (z_nh m)).any (fun i => !decide (nI i = lo) && (z_ho m i 0 == g && (z_ho m i 1 == p && (decide (z_ho m i 2 ≤ t) && decide (t < z_ho m i 3))))) ||
  (List.range (z_nt m)).any (fun i => z_ti m i 0 == g && (z_ti m i 1 == p && z_fi m i == t))
def z_clo (nd : Nat → Nat → Bool) : Nat → (Nat → Bool) → Nat → Bool
  | 0, S => S
  | k + 1, S => fun p => z_clo nd k S p || (List.range 6).any (fun q => z_clo nd k S q && nd q p)
def z_W (m : q_S) (lo : Int32) (p g t : Nat) : Bool := z_clo (z_nd m) 6 (z_base m lo g t) p
def z_w (m : q_S) (lo : Int32) (p t : Nat) : Bool := (List.range 8).any (fun g => z_W m lo p g t)
-- idle spans of a row w of ticks
def z_st (w : Nat → Bool) (t : Nat) : Bool := !w t && (t == 0 || w (t - 1))
def z_cnt (w : Nat → Bool) : Nat → Nat
  | 0 => 0
  | t + 1 => z_cnt w t + (if z_st w t = true then 1 else 0)
/-- how many ticks from t on are idle, n at most -/
def z_run (w : Nat → Bool) : Nat → Nat → Nat
  | 0, _ => 0
  | n + 1, t => if w t = true then 0 else z_run w n (t + 1) + 1
def z_len (w : Nat → Bool) (t : Nat) : Nat := z_run w (64 - t) t
/-- idle ticks just ahead of t -/
def z_cur (w : Nat → Bool) : Nat → Nat
  | 0 => 0
  | t + 1 => if w t = true then 0 else z_cur w t + 1
-- no ring
def z_acy (nd : Nat → Nat → Bool) : Prop := ∀ S : Nat → Bool, (∃ p, p < 6 ∧ S p = true) → ∃ p, p < 6 ∧ S p = true ∧ ∀ q, q < 6 → ¬ (nd p q = true ∧ S q = true)
def z_ok (m : q_S) : Prop :=
  (z_np m ≤ 6 ∧ z_nh m ≤ 20 ∧ z_nt m ≤ 12) ∧
  (∀ p s, z_dr m p s ≤ 99) ∧
  (∀ p s, z_co m p s ≤ 999) ∧
  (∀ p s, z_ri m p s ≤ 9) ∧
  (∀ p, z_co m p 0 = 0 ∧ z_ri m p 0 = 0 ∧ z_ri m p 1 ≤ z_ri m p 2 ∧ z_ri m p 2 ≤ z_ri m p 3 ∧ (z_np m ≤ p → z_ru m p 0 = 64)) ∧
  (∀ p, z_ru m p 0 ≤ z_ru m p 1 ∧ z_ru m p 1 ≤ z_ru m p 2 ∧ z_ru m p 2 ≤ 64) ∧
  ((∀ p q, z_nd m p q = true → p < z_np m ∧ q < z_np m) ∧ z_acy (z_nd m)) ∧
  (∀ i, i < z_nh m → z_ho m i 0 < 8 ∧ z_ho m i 1 < z_np m ∧ z_ho m i 2 ≤ z_ho m i 3 ∧ z_ho m i 3 ≤ 64) ∧
  (∀ i, i < z_nt m → z_ti m i 0 < 8 ∧ z_ti m i 1 < z_np m ∧ z_ti m i 2 ≤ z_ti m i 3 ∧ z_ti m i 3 < 64)
/-- the class's half of the heap holds m; its rows of wants are what lo -1 says -/
def z_rows (m : q_S) (lo : Int32) (f : Nat → Int64) : Prop := ∀ p, p < 6 → ∀ g, g < 8 → ∀ t, t < 64 → tb (f (p * 8 + g)) t = z_W m lo p g t
def z_C (m : q_S) (h : q_H) : Prop :=
  h.1 0 0 1 = nI (z_np m) ∧
  (∀ p, p < 6 → ∀ s, s < 4 → h.1 3 p s = nI (z_dr m p s)) ∧
  (∀ p, p < 6 → ∀ s, s < 4 → h.1 4 p s = nI (z_co m p s)) ∧
  (∀ p, p < 6 → ∀ s, s < 4 → h.1 5 p s = nI (z_ri m p s)) ∧
  (∀ p, p < 6 → h.1 6 p 0 = 0 ∧ h.1 6 p 1 = nI (z_ru m p 0) ∧ h.1 6 p 2 = nI (z_ru m p 1) ∧ h.1 6 p 3 = nI (z_ru m p 2) ∧ h.1 6 p 4 = 64) ∧
  (∀ p, p < 6 → ∀ q, q < 32 → bt (h.1 7 0 p) q = (decide (q < 6) && z_nd m p q)) ∧
  (h.1 8 0 4 = nI (z_nh m) ∧ ∀ i, i < z_nh m → h.1 9 0 i = nI (z_ho m i 0) ∧ h.1 10 0 i = nI (z_ho m i 1) ∧ h.1 11 0 i = nI (z_ho m i 2) ∧ h.1 12 0 i = nI (z_ho m i 3)) ∧
  (h.1 8 1 4 = nI (z_nt m) ∧ ∀ i, i < z_nt m → h.1 9 1 i = nI (z_ti m i 0) ∧ h.1 10 1 i = nI (z_ti m i 1) ∧ h.1 11 1 i = nI (z_ti m i 2) ∧ h.1 12 1 i = nI (z_ti m i 3 + 1)) ∧
  (∀ t, t < 64 → tb (h.2 0 0 5) t = z_wk m t) ∧
  z_rows m (-1) (h.2 14 0)
/-- the reference's half -/
def z_M (m : q_S) (h : q_H) : Prop :=
  (h.1 18 0 0 = nI (z_np m) ∧ h.1 18 0 1 = nI (z_nh m) ∧ h.1 18 0 2 = nI (z_nt m) ∧ h.1 18 0 13 = -1) ∧
  (∀ p, p < 6 → ∀ s, s < 4 → h.1 19 0 (4 * p + s) = nI (z_dr m p s)) ∧
  (∀ p, p < 6 → ∀ s, s < 4 → h.1 20 0 (4 * p + s) = nI (z_co m p s)) ∧
  (∀ p, p < 6 → ∀ s, s < 4 → h.1 21 0 (4 * p + s) = nI (z_ri m p s)) ∧
  (∀ p, p < z_np m → ∀ s, s < 3 → h.1 22 0 (3 * p + s) = nI (z_ru m p s)) ∧
  (∀ p, p < 6 → ∀ q, q < 6 → h.1 23 0 (6 * p + q) = if z_nd m p q = true then 1 else 0) ∧
  (∀ i, i < z_nh m → ∀ s, s < 4 → h.1 24 0 (4 * i + s) = nI (z_ho m i s)) ∧
  (∀ i, i < z_nt m → ∀ s, s < 4 → h.1 25 0 (4 * i + s) = nI (z_ti m i s))
/-- what a call of the class leaves of the reference, and the other way round -/
def z_Fc (h g : q_H) : Prop := ∀ k, 18 ≤ k → g.1 k = h.1 k
def z_Fm (h g : q_H) : Prop := (∀ k, k < 18 → g.1 k = h.1 k) ∧ g.2 = h.2
theorem z_Fc.rf (h : q_H) : z_Fc h h := fun _ _ => rfl
theorem z_Fm.rf (h : q_H) : z_Fm h h := ⟨fun _ _ => rfl, rfl⟩
theorem z_Fc.tr {h g k : q_H} (a : z_Fc h g) (b : z_Fc g k) : z_Fc h k := fun n hn => (b n hn).trans (a n hn)
theorem z_Fm.tr {h g k : q_H} (a : z_Fm h g) (b : z_Fm g k) : z_Fm h k := ⟨fun n hn => (b.1 n hn).trans (a.1 n hn), b.2.trans a.2⟩
theorem z_C.keep {m : q_S} {h g : q_H} (a : z_Fm h g) (c : z_C m h) : z_C m g := by
  obtain ⟨a1, a2⟩ := a
  unfold z_C at c ⊢
  rw [a1 0 (by omega), a1 3 (by omega), a1 4 (by omega), a1 5 (by omega), a1 6 (by omega), a1 7 (by omega), a1 8 (by omega), a1 9 (by omega), a1 10 (by omega), a1 11 (by omega), a1 12 (by omega), a2]
  exact c
theorem z_M.keep {m : q_S} {h g : q_H} (a : z_Fc h g) (c : z_M m h) : z_M m g := by
  unfold z_M at c ⊢
  rw [a 18 (by omega), a 19 (by omega), a 20 (by omega), a 21 (by omega), a 22 (by omega), a 23 (by omega), a 24 (by omega), a 25 (by omega)]
  exact c
/-! ===== closure of a set of parts under needs ===== -/
theorem z_any {n : Nat} {f : Nat → Bool} : (List.range n).any f = true ↔ ∃ i, i < n ∧ f i = true := by
  rw [List.any_eq_true]
  constructor
  · rintro ⟨x, h1, h2⟩; exact ⟨x, List.mem_range.mp h1, h2⟩
  · rintro ⟨x, h1, h2⟩; exact ⟨x, List.mem_range.mpr h1, h2⟩
theorem z_any_f {n : Nat} {f : Nat → Bool} : (List.range n).any f = false ↔ ∀ i, i < n → f i = false := by
  constructor
  · intro h i hi
    cases e : f i with
    | false => rfl
    | true => rw [z_any.mpr ⟨i, hi, e⟩] at h; cases h
  · intro h
    cases e : (List.range n).any f with
    | false => rfl
    | true => obtain ⟨i, hi, hf⟩ := z_any.mp e; rw [h i hi] at hf; cases hf
theorem z_beq {a b : Bool} (h : a = true ↔ b = true) : a = b := by
  cases a <;> cases b <;> simp_all
/-- closed: what a member needs is a member -/
def z_closed (nd : Nat → Nat → Bool) (T : Nat → Bool) : Prop := ∀ p q, p < 6 → q < 6 → T p = true → nd p q = true → T q = true
theorem z_clo_up (nd : Nat → Nat → Bool) (S : Nat → Bool) (k p : Nat) (h : z_clo nd k S p = true) : z_clo nd (k + 1) S p = true := by
  show (z_clo nd k S p || _) = true
  rw [h, Bool.true_or]
theorem z_clo_step (nd : Nat → Nat → Bool) (S : Nat → Bool) (k p q : Nat) (hp : p < 6) (h : z_clo nd k S p = true) (hn : nd p q = true) : z_clo nd (k + 1) S q = true := by
  show (z_clo nd k S q || _) = true
  rw [z_any.mpr ⟨p, hp, by rw [h, hn]; rfl⟩, Bool.or_true]
theorem z_clo_sub {nd : Nat → Nat → Bool} {S T : Nat → Bool} (hT : z_closed nd T) (hS : ∀ p, p < 6 → S p = true → T p = true) : ∀ k p, p < 6 → z_clo nd k S p = true → T p = true := by
  intro k
  induction k with
  | zero => exact hS
  | succ k ih =>
    intro p hp h
    have h : (z_clo nd k S p || (List.range 6).any (fun q => z_clo nd k S q && nd q p)) = true := h
    rcases Bool.or_eq_true_iff.mp h with h | h
    · exact ih p hp h
    · obtain ⟨q, hq, hh⟩ := z_any.mp h
      obtain ⟨h1, h2⟩ := Bool.and_eq_true_iff.mp hh
      exact hT q p hq hp (ih q hq h1) h2
def z_num (f : Nat → Bool) : Nat := (if f 0 = true then 1 else 0) + (if f 1 = true then 1 else 0) + (if f 2 = true then 1 else 0) + (if f 3 = true then 1 else 0) + (if f 4 = true then 1 else 0) + (if f 5 = true then 1 else 0)
theorem z_num_full {f : Nat → Bool} (h : 6 ≤ z_num f) : ∀ p, p < 6 → f p = true := by
  intro p hp
  unfold z_num at h
  cases e : f p with
  | true => rfl
  | false =>
    exfalso
    have c : ∀ b : Bool, (if b = true then 1 else 0) ≤ 1 := by intro b; cases b <;> decide
    have c0 := c (f 0); have c1 := c (f 1); have c2 := c (f 2); have c3 := c (f 3); have c4 := c (f 4); have c5 := c (f 5)
    match p, hp, e with
    | 0, _, e => rw [e] at h; simp only [Bool.false_eq_true, if_false] at h; omega
    | 1, _, e => rw [e] at h; simp only [Bool.false_eq_true, if_false] at h; omega
    | 2, _, e => rw [e] at h; simp only [Bool.false_eq_true, if_false] at h; omega
    | 3, _, e => rw [e] at h; simp only [Bool.false_eq_true, if_false] at h; omega
    | 4, _, e => rw [e] at h; simp only [Bool.false_eq_true, if_false] at h; omega
    | 5, _, e => rw [e] at h; simp only [Bool.false_eq_true, if_false] at h; omega
    | n + 6, hp, _ => omega
theorem z_num_lt {f g : Nat → Bool} (hs : ∀ p, p < 6 → f p = true → g p = true) {q : Nat} (hq : q < 6) (h1 : f q = false) (h2 : g q = true) : z_num f + 1 ≤ z_num g := by
  have c : ∀ p, p < 6 → (if f p = true then 1 else 0) ≤ (if g p = true then 1 else 0) := by
    intro p hp
    cases e : f p with
    | false => simp
    | true => rw [hs p hp e]; simp
  unfold z_num
  have c0 := c 0 (by omega); have c1 := c 1 (by omega); have c2 := c 2 (by omega); have c3 := c 3 (by omega); have c4 := c 4 (by omega); have c5 := c 5 (by omega)
  have d : (if f q = true then 1 else 0) + 1 ≤ (if g q = true then 1 else 0) := by rw [h1, h2]; simp
  match q, hq, d with
  | 0, _, d => omega
  | 1, _, d => omega
  | 2, _, d => omega
  | 3, _, d => omega
  | 4, _, d => omega
  | 5, _, d => omega
  | n + 6, hq, _ => omega
theorem z_clo_grow (nd : Nat → Nat → Bool) (S : Nat → Bool) (hne : ∃ p, p < 6 ∧ S p = true) : ∀ k, z_closed nd (z_clo nd k S) ∨ k + 1 ≤ z_num (z_clo nd k S) := by
  intro k
  induction k with
  | zero =>
    right
    obtain ⟨p, hp, h⟩ := hne
    have := z_num_lt (f := fun _ => false) (g := S) (fun _ _ h => by cases h) hp rfl h
    have e : z_num (fun _ => false) = 0 := rfl
    show 1 ≤ z_num S
    omega
  | succ k ih =>
    by_cases hc : z_closed nd (z_clo nd (k + 1) S)
    · exact Or.inl hc
    · right
      have hk : ¬ z_closed nd (z_clo nd k S) := by
        intro h
        apply hc
        intro p q hp hq h1 h2
        have e : z_clo nd k S p = true := by
          have h1 : (z_clo nd k S p || (List.range 6).any (fun q => z_clo nd k S q && nd q p)) = true := h1
          rcases Bool.or_eq_true_iff.mp h1 with h1 | h1
          · exact h1
          · obtain ⟨x, hx, hh⟩ := z_any.mp h1
            obtain ⟨g1, g2⟩ := Bool.and_eq_true_iff.mp hh
            exact h x p hx hp g1 g2
        exact z_clo_up _ _ _ _ (h p q hp hq e h2)
      have h3 : k + 1 ≤ z_num (z_clo nd k S) := ih.resolve_left hk
      have : ∃ p q, p < 6 ∧ q < 6 ∧ z_clo nd k S p = true ∧ nd p q = true ∧ z_clo nd k S q = false := by
        apply Classical.byContradiction
        intro hh
        apply hk
        intro p q hp hq h1 h2
        cases e : z_clo nd k S q with
        | true => rfl
        | false => exact absurd ⟨p, q, hp, hq, h1, h2, e⟩ hh
      obtain ⟨p, q, hp, hq, h1, h2, h4⟩ := this
      have := z_num_lt (f := z_clo nd k S) (g := z_clo nd (k + 1) S) (fun p _ h => z_clo_up _ _ _ _ h) hq h4 (z_clo_step _ _ _ _ _ hp h1 h2)
      omega
theorem z_clo_closed (nd : Nat → Nat → Bool) (S : Nat → Bool) {k : Nat} (hk : 5 ≤ k) : z_closed nd (z_clo nd k S) := by
  by_cases hne : ∃ p, p < 6 ∧ S p = true
  · rcases z_clo_grow nd S hne k with h | h
    · exact h
    · intro p q hp hq _ _
      exact z_num_full (by omega) q hq
  · have : ∀ p, p < 6 → S p = true → (fun _ => false : Nat → Bool) p = true := fun p hp h => absurd ⟨p, hp, h⟩ hne
    have h0 := z_clo_sub (nd := nd) (T := fun _ => false) (fun _ _ _ _ h _ => by cases h) this k
    intro p q hp hq h1 _
    exact absurd (h0 p hp h1) (by decide)
/-- a set that has S, k rounds of steps at least, and stays within what is closed -/
theorem z_clo_eq {nd : Nat → Nat → Bool} {S b : Nat → Bool} {k : Nat} (hk : 5 ≤ k) (hlo : ∀ p, p < 6 → z_clo nd k S p = true → b p = true) (hhi : ∀ T : Nat → Bool, z_closed nd T → (∀ p, p < 6 → S p = true → T p = true) → ∀ p, p < 6 → b p = true → T p = true) : ∀ p, p < 6 → b p = z_clo nd 6 S p := by
  intro p hp
  apply z_beq
  constructor
  · intro h
    refine hhi _ (z_clo_closed nd S (by omega)) (fun q hq hs => ?_) p hp h
    exact z_clo_sub (k := 0) (z_clo_closed nd S (by omega)) (fun q _ h => by
      have : ∀ j, z_clo nd j S q = true := by
        intro j
        induction j with
        | zero => exact h
        | succ j ih => exact z_clo_up _ _ _ _ ih
      exact this 6) q hq hs
  · intro h
    refine hlo p hp (z_clo_sub (z_clo_closed nd S hk) (fun q _ hs => ?_) 6 p hp h)
    have : ∀ j, z_clo nd j S q = true := by
      intro j
      induction j with
      | zero => exact hs
      | succ j ih => exact z_clo_up _ _ _ _ ih
    exact this k
end
section
/-! ===== Wants: rows of ticks ===== -/
theorem n8 : (8 : Int32) = nI 8 := rfl
theorem n6 : (6 : Int32) = nI 6 := rfl
theorem n64 : (64 : Int32) = nI 64 := rfl
theorem n1' : (1 : Int32) = nI 1 := rfl
theorem idx8 (p g : Nat) : nI p * 8 + nI g = nI (p * 8 + g) := by rw [n8, pk_mul, nI_add]
theorem vin {n N : Nat} (h : n < N) (hN : N < 2 ^ 31) : vp_in (nI n) N := vp_in_nI h hN
theorem cl {n : Nat} (h : n < 2 ^ 31) : (nI n).toNatClampNeg = n := nI_clamp h
theorem nle {a b : Nat} (h : a < b) (hb : b < 2 ^ 31) : ¬ nI b ≤ nI a := nI_ge h hb
theorem s_ticksBy {c p g : Nat} {h : q_H} {Q : Int64 → q_H → Prop} (hp : p < 6) (hg : g < 8) (k : Q (h.2 14 c (p * 8 + g)) h) : wp_X3_ticksBy c (nI g) (nI p) h Q := by
  unfold wp_X3_ticksBy
  rw [idx8, cl (by omega)]
  exact ⟨vin (by omega) (by omega), k⟩
theorem s_add {c p g : Nat} {x : Int64} {h : q_H} {Q : q_H → Prop} (hp : p < 6) (hg : g < 8) (k : Q (q_aL h 14 c (vp_updL (h.2 14 c) (p * 8 + g) (h.2 14 c (p * 8 + g) ||| x)))) : wp_X3_add c (nI g) (nI p) x h Q := by
  unfold wp_X3_add
  rw [idx8, cl (by omega), q_sL_a]
  exact ⟨vin (by omega) (by omega), vin (by omega) (by omega), k⟩
theorem s_clear {c : Nat} {h : q_H} {Q : q_H → Prop} (k : ∀ f : Nat → Int64, (∀ j, j < 48 → f j = 0) → Q (q_aL h 14 c f)) : wp_X3_clear c h Q := by
  unfold wp_X3_clear
  refine pk_loop (σ := q_H) (fun n i s => lp_X3_clear_2 c (fun _ g => Q g) n (nI i) s) (fun i s => ∃ f : Nat → Int64, s = q_aL h 14 c f ∧ ∀ j, j < i → f j = 0) 48 0 h (by omega) ⟨h.2 14 c, (q_aL_self h 14 c).symm, fun j hj => by omega⟩ ?_ ?_
  · rintro n s ⟨f, rfl, hf⟩
    unfold lp_X3_clear_2
    exact ⟨fun _ => k f hf, fun z => absurd (show nI 48 ≤ nI 48 from nI_le (by omega) (by omega)) z⟩
  · rintro n i s hi ⟨f, rfl, hf⟩ ih
    unfold lp_X3_clear_2
    refine ⟨fun z => absurd z (show ¬ nI 48 ≤ nI i from nle hi (by omega)), fun _ => ⟨vin hi (by omega), ?_⟩⟩
    rw [nI_1, cl (by omega), q_sL_a, q_aL_at, q_aL_aL]
    refine ih _ ⟨_, rfl, fun j hj => ?_⟩
    by_cases e : j = i
    · subst e; exact vL_s _ _ _
    · rw [vL_n e]; exact hf j (by omega)
theorem s_addAll {c p q : Nat} {h : q_H} {Q : q_H → Prop} (hp : p < 6) (hq : q < 6) (k : ∀ f : Nat → Int64, (∀ x g, x < 6 → g < 8 → f (x * 8 + g) = if x = q then h.2 14 c (q * 8 + g) ||| h.2 14 c (p * 8 + g) else h.2 14 c (x * 8 + g)) → Q (q_aL h 14 c f)) : wp_X3_addAll c (nI p) (nI q) h Q := by
  unfold wp_X3_addAll
  refine pk_loop (σ := q_H) (fun n i s => lp_X3_addAll_2 c (nI p) (nI q) (fun _ g => Q g) n (nI i) s) (fun i s => ∃ f : Nat → Int64, s = q_aL h 14 c f ∧ ∀ x g, x < 6 → g < 8 → f (x * 8 + g) = if x = q ∧ g < i then h.2 14 c (q * 8 + g) ||| h.2 14 c (p * 8 + g) else h.2 14 c (x * 8 + g)) 8 0 h (by omega) ⟨h.2 14 c, (q_aL_self h 14 c).symm, fun x g _ _ => by rw [if_neg (by omega)]⟩ ?_ ?_
  · rintro n s ⟨f, rfl, hf⟩
    unfold lp_X3_addAll_2
    refine ⟨fun _ => k f (fun x g hx hg => ?_), fun z => absurd (show nI 8 ≤ nI 8 from nI_le (by omega) (by omega)) z⟩
    rw [hf x g hx hg]
    by_cases e : x = q
    · rw [if_pos ⟨e, hg⟩, if_pos e]
    · rw [if_neg (fun z => e z.1), if_neg e]
  · rintro n i s hi ⟨f, rfl, hf⟩ ih
    unfold lp_X3_addAll_2
    refine ⟨fun z => absurd z (show ¬ nI 8 ≤ nI i from nle hi (by omega)), fun _ => ?_⟩
    refine s_ticksBy hp hi ?_
    refine s_add hq hi ?_
    rw [nI_1, q_aL_at, q_aL_aL]
    refine ih _ ⟨_, rfl, fun x g hx hg => ?_⟩
    by_cases e : x * 8 + g = q * 8 + i
    · have e1 : x = q := by omega
      have e2 : g = i := by omega
      subst e1; subst e2
      rw [vL_s, if_pos ⟨rfl, by omega⟩, hf x g hx hg, if_neg (by omega)]
      rw [hf p g hp hg]
      by_cases e3 : p = x
      · subst e3; rw [if_neg (by omega)]
      · rw [if_neg (by omega)]
    · rw [vL_n e, hf x g hx hg]
      by_cases e1 : x = q ∧ g < i
      · rw [if_pos e1, if_pos ⟨e1.1, by omega⟩]
      · rw [if_neg e1, if_neg (by omega)]
theorem s_ticksOf {c p : Nat} {h : q_H} {Q : Int64 → q_H → Prop} (hp : p < 6) (k : ∀ x : Int64, (∀ t, tb x t = (List.range 8).any (fun g => tb (h.2 14 c (p * 8 + g)) t)) → Q x h) : wp_X3_ticksOf c (nI p) h Q := by
  unfold wp_X3_ticksOf
  refine pk_loop (σ := Int64 × q_H) (fun n i s => lp_X3_ticksOf_5 c (nI p) (fun x _ g => Q x g) n s.1 (nI i) s.2) (fun i s => s.2 = h ∧ ∀ t, tb s.1 t = (List.range i).any (fun g => tb (h.2 14 c (p * 8 + g)) t)) 8 0 (0, h) (by omega) ⟨rfl, fun t => tb_0 t⟩ ?_ ?_
  · rintro n ⟨x, g⟩ ⟨e, hx⟩
    have e : g = h := e
    subst e
    unfold lp_X3_ticksOf_5
    exact ⟨fun _ => k x hx, fun z => absurd (show nI 8 ≤ nI 8 from nI_le (by omega) (by omega)) z⟩
  · rintro n i ⟨x, g⟩ hi ⟨e, hx⟩ ih
    have e : g = h := e
    subst e
    unfold lp_X3_ticksOf_5
    refine ⟨fun z => absurd z (show ¬ nI 8 ≤ nI i from nle hi (by omega)), fun _ => ?_⟩
    refine s_ticksBy hp hi ?_
    rw [nI_1]
    refine ih (_, _) ⟨rfl, fun t => ?_⟩
    show tb (x ||| _) t = _
    have hx : ∀ t, tb x t = (List.range i).any (fun g_1 => tb (g.2 14 c (p * 8 + g_1)) t) := hx
    rw [tb_or, hx t, List.range_succ, List.any_append]
    simp
def z_sum (f : Nat → Nat) : Nat → Nat
  | 0 => 0
  | n + 1 => z_sum f n + f n
theorem z_sum_le {f : Nat → Nat} {b : Nat} (h : ∀ i, f i ≤ b) : ∀ n, z_sum f n ≤ n * b
  | 0 => by simp [z_sum]
  | n + 1 => by
    have := z_sum_le h n
    have h2 := h n
    show z_sum f n + f n ≤ (n + 1) * b
    rw [Nat.succ_mul]
    omega
theorem s_programsAt {c p t : Nat} {h : q_H} {Q : Int32 → q_H → Prop} (hp : p < 6) (ht : t < 64) (k : Q (nI (z_sum (fun g => if tb (h.2 14 c (p * 8 + g)) t = true then 1 else 0) 8)) h) : wp_X3_programsAt c (nI p) (nI t) h Q := by
  unfold wp_X3_programsAt
  refine pk_loop (σ := Int32 × q_H) (fun n i s => lp_X3_programsAt_5 c (nI p) (nI t) (fun x _ g => Q x g) n s.1 (nI i) s.2) (fun i s => s.2 = h ∧ s.1 = nI (z_sum (fun g => if tb (h.2 14 c (p * 8 + g)) t = true then 1 else 0) i)) 8 0 (0, h) (by omega) ⟨rfl, rfl⟩ ?_ ?_
  · rintro n ⟨x, g⟩ ⟨e, hx⟩
    have e : g = h := e
    subst e
    unfold lp_X3_programsAt_5
    have hx : x = _ := hx
    subst hx
    exact ⟨fun _ => k, fun z => absurd (show nI 8 ≤ nI 8 from nI_le (by omega) (by omega)) z⟩
  · rintro n i ⟨x, g⟩ hi ⟨e, hx⟩ ih
    have e : g = h := e
    subst e
    have hx : x = _ := hx
    unfold lp_X3_programsAt_5
    refine ⟨fun z => absurd z (show ¬ nI 8 ≤ nI i from nle hi (by omega)), fun _ => ?_⟩
    refine s_ticksBy hp hi ?_
    refine s_hasTick ht ?_
    rw [nI_1]
    refine ⟨fun z => ?_, fun z => ?_⟩
    · refine ih (_, _) ⟨rfl, ?_⟩
      show x = _
      rw [hx]
      show _ = nI (z_sum _ i + _)
      have : ¬ tb (g.2 14 c (p * 8 + i)) t = true := by intro q; rw [if_pos q] at z; exact absurd z (by decide)
      simp [this]
    · refine ih (_, _) ⟨rfl, ?_⟩
      show x + 1 = _
      rw [hx, nI_1]
      show _ = nI (z_sum _ i + _)
      have : tb (g.2 14 c (p * 8 + i)) t = true := by
        cases e : tb (g.2 14 c (p * 8 + i)) t with
        | true => rfl
        | false => rw [e] at z; exact absurd rfl z
      simp [this]
/-- one round and more of needs: what the rows hold -/
def z_hi (nd : Nat → Nat → Bool) (S : Nat → Nat → Nat → Bool) (f : Nat → Int64) : Prop := ∀ g, g < 8 → ∀ t, t < 64 → ∀ T : Nat → Bool, z_closed nd T → (∀ p, p < 6 → S g t p = true → T p = true) → ∀ p, p < 6 → tb (f (p * 8 + g)) t = true → T p = true
def z_lo (nd : Nat → Nat → Bool) (S : Nat → Nat → Nat → Bool) (k : Nat) (f : Nat → Int64) : Prop := ∀ g, g < 8 → ∀ t, t < 64 → ∀ p, p < 6 → z_clo nd k (S g t) p = true → tb (f (p * 8 + g)) t = true
/-- the pairs ahead of (a, b) are done since the rows were f0 -/
def z_mid (nd : Nat → Nat → Bool) (f0 f : Nat → Int64) (a b : Nat) : Prop := ∀ g, g < 8 → ∀ t, t < 64 → (∀ p, p < 6 → tb (f0 (p * 8 + g)) t = true → tb (f (p * 8 + g)) t = true) ∧ ∀ p q, p < 6 → q < 6 → (p < a ∨ p = a ∧ q < b) → nd p q = true → tb (f0 (p * 8 + g)) t = true → tb (f (q * 8 + g)) t = true
theorem z_mid_next {nd : Nat → Nat → Bool} {f0 f : Nat → Int64} {a : Nat} (h : z_mid nd f0 f a 6) : z_mid nd f0 f (a + 1) 0 := fun g hg t ht => ⟨(h g hg t ht).1, fun p q hp hq hpq => (h g hg t ht).2 p q hp hq (by omega)⟩
theorem z_mid_skip {nd : Nat → Nat → Bool} {f0 f : Nat → Int64} {a b : Nat} (h : z_mid nd f0 f a b) (hn : nd a b = false) : z_mid nd f0 f a (b + 1) := fun g hg t ht => ⟨(h g hg t ht).1, fun p q hp hq hpq hd => by
  rcases (by omega : (p < a ∨ p = a ∧ q < b) ∨ (p = a ∧ q = b)) with h1 | ⟨rfl, rfl⟩
  · exact (h g hg t ht).2 p q hp hq h1 hd
  · rw [hn] at hd; cases hd⟩
theorem z_mid_put {nd : Nat → Nat → Bool} {f0 f f1 : Nat → Int64} {a b : Nat} (h : z_mid nd f0 f a b) (ha : a < 6) (hf : ∀ x g, x < 6 → g < 8 → f1 (x * 8 + g) = if x = b then f (b * 8 + g) ||| f (a * 8 + g) else f (x * 8 + g)) : z_mid nd f0 f1 a (b + 1) := by
  have up : ∀ g, g < 8 → ∀ t, t < 64 → ∀ x, x < 6 → tb (f (x * 8 + g)) t = true → tb (f1 (x * 8 + g)) t = true := by
    intro g hg t ht x hx h1
    rw [hf x g hx hg]
    by_cases e : x = b
    · subst e; rw [if_pos rfl, tb_or, h1, Bool.true_or]
    · rw [if_neg e]; exact h1
  intro g hg t ht
  refine ⟨fun p hp h1 => up g hg t ht p hp ((h g hg t ht).1 p hp h1), fun p q hp hq hpq hd h1 => ?_⟩
  rcases (by omega : (p < a ∨ p = a ∧ q < b) ∨ (p = a ∧ q = b)) with h2 | ⟨rfl, rfl⟩
  · exact up g hg t ht q hq ((h g hg t ht).2 p q hp hq h2 hd h1)
  · rw [hf q g hq hg, if_pos rfl, tb_or, (h g hg t ht).1 p hp h1, Bool.or_true]
theorem z_hi_put {nd : Nat → Nat → Bool} {S : Nat → Nat → Nat → Bool} {f f1 : Nat → Int64} {a b : Nat} (h : z_hi nd S f) (ha : a < 6) (hb : b < 6) (hn : nd a b = true) (hf : ∀ x g, x < 6 → g < 8 → f1 (x * 8 + g) = if x = b then f (b * 8 + g) ||| f (a * 8 + g) else f (x * 8 + g)) : z_hi nd S f1 := by
  intro g hg t ht T hT hS p hp h1
  rw [hf p g hp hg] at h1
  by_cases e : p = b
  · subst e
    rw [if_pos rfl, tb_or] at h1
    rcases Bool.or_eq_true_iff.mp h1 with h1 | h1
    · exact h g hg t ht T hT hS p hp h1
    · exact hT a p ha hp (h g hg t ht T hT hS a ha h1) hn
  · rw [if_neg e] at h1
    exact h g hg t ht T hT hS p hp h1
theorem z_lo_next {nd : Nat → Nat → Bool} {S : Nat → Nat → Nat → Bool} {k : Nat} {f0 f : Nat → Int64} (h : z_lo nd S k f0) (hm : z_mid nd f0 f 6 0) : z_lo nd S (k + 1) f := by
  intro g hg t ht p hp h1
  have h1 : (z_clo nd k (S g t) p || (List.range 6).any (fun q => z_clo nd k (S g t) q && nd q p)) = true := h1
  rcases Bool.or_eq_true_iff.mp h1 with h1 | h1
  · exact (hm g hg t ht).1 p hp (h g hg t ht p hp h1)
  · obtain ⟨q, hq, hh⟩ := z_any.mp h1
    obtain ⟨a1, a2⟩ := Bool.and_eq_true_iff.mp hh
    exact (hm g hg t ht).2 q p hq hp (by omega) a2 (h g hg t ht q hq a1)
theorem s_spread {c : Nat} {nd : Nat → Nat → Bool} {S : Nat → Nat → Nat → Bool} {h : q_H} {Q : q_H → Prop} (hnd : ∀ p, p < 6 → ∀ q, q < 6 → bt (h.1 7 0 p) q = nd p q) (hS : ∀ p g, p < 6 → g < 8 → ∀ t, t < 64 → tb (h.2 14 c (p * 8 + g)) t = S g t p)
    (k : ∀ f : Nat → Int64, (∀ p g, p < 6 → g < 8 → ∀ t, t < 64 → tb (f (p * 8 + g)) t = z_clo nd 6 (S g t) p) → Q (q_aL h 14 c f)) : wp_X3_spread c h Q := by
  unfold wp_X3_spread
  refine pk_loop (σ := q_H) (fun n i s => lp_X3_spread_2 c (fun _ g => Q g) n (nI i) s) (fun i s => ∃ f : Nat → Int64, s = q_aL h 14 c f ∧ 1 ≤ i ∧ z_hi nd S f ∧ z_lo nd S (i - 1) f) 6 1 h (by omega) ⟨h.2 14 c, (q_aL_self h 14 c).symm, Nat.le_refl 1, ?_, ?_⟩ ?_ ?_
  · intro g hg t ht T hT hs p hp h1
    rw [hS p g hp hg t ht] at h1
    exact hs p hp h1
  · intro g hg t ht p hp h1
    rw [hS p g hp hg t ht]
    exact h1
  · rintro n s ⟨f, rfl, h1i, hh, hl⟩
    unfold lp_X3_spread_2
    refine ⟨fun _ => k f (fun p g hp hg t ht => ?_), fun z => absurd (show nI 6 ≤ nI 6 from nI_le (by omega) (by omega)) z⟩
    exact z_clo_eq (b := fun p => tb (f (p * 8 + g)) t) (k := 5) (by omega) (fun p hp h1 => hl g hg t ht p hp h1) (fun T hT hs p hp h1 => hh g hg t ht T hT hs p hp h1) p hp
  · rintro n i s hi ⟨f0, rfl, h1i, hh, hl⟩ ih
    unfold lp_X3_spread_2
    refine ⟨fun z => absurd z (show ¬ nI 6 ≤ nI i from nle hi (by omega)), fun _ => ?_⟩
    refine pk_loop (σ := q_H) (fun n a s => lp_X3_spread_10 c (nI i) (fun _ g => lp_X3_spread_2 c (fun _ g => Q g) _ (nI i + 1) g) n (nI a) s) (fun a s => ∃ f : Nat → Int64, s = q_aL h 14 c f ∧ z_hi nd S f ∧ z_mid nd f0 f a 0) 6 0 _ (by omega) ⟨f0, rfl, hh, fun g hg t ht => ⟨fun _ _ h => h, fun p q _ _ hpq => by omega⟩⟩ ?_ ?_
    · rintro n2 s ⟨f, rfl, hh2, hm⟩
      unfold lp_X3_spread_10
      refine ⟨fun _ => ?_, fun z => absurd (show nI 6 ≤ nI 6 from nI_le (by omega) (by omega)) z⟩
      rw [nI_1 i]
      refine ih _ ⟨f, rfl, by omega, hh2, ?_⟩
      have := z_lo_next hl hm
      rwa [show i - 1 + 1 = i + 1 - 1 by omega] at this
    · rintro n2 a s ha ⟨f, rfl, hh2, hm⟩ ih2
      unfold lp_X3_spread_10
      refine ⟨fun z => absurd z (show ¬ nI 6 ≤ nI a from nle ha (by omega)), fun _ => ?_⟩
      refine pk_loop (σ := q_H) (fun n b s => lp_X3_spread_19 c (nI i) (nI a) (fun _ g => lp_X3_spread_10 c (nI i) _ _ (nI a + 1) g) n (nI b) s) (fun b s => ∃ f : Nat → Int64, s = q_aL h 14 c f ∧ z_hi nd S f ∧ z_mid nd f0 f a b) 6 0 _ (by omega) ⟨f, rfl, hh2, hm⟩ ?_ ?_
      · rintro n3 s ⟨f1, rfl, hh3, hm3⟩
        unfold lp_X3_spread_19
        refine ⟨fun _ => ?_, fun z => absurd (show nI 6 ≤ nI 6 from nI_le (by omega) (by omega)) z⟩
        rw [nI_1 a]
        exact ih2 _ ⟨f1, rfl, hh3, z_mid_next hm3⟩
      · rintro n3 b s hb ⟨f1, rfl, hh3, hm3⟩ ih3
        unfold lp_X3_spread_19
        refine ⟨fun z => absurd z (show ¬ nI 6 ≤ nI b from nle hb (by omega)), fun _ => ⟨vin ha (by omega), ?_⟩⟩
        rw [cl (by omega)]
        refine s_hasPart (by omega) ?_
        have hb2 : bt ((q_aL h 14 c f1).1 7 0 a) b = nd a b := hnd a ha b hb
        rw [hb2, nI_1 b]
        refine ⟨fun z => ?_, fun z => ?_⟩
        · have hn : nd a b = false := by
            cases e : nd a b with
            | false => rfl
            | true => rw [e] at z; exact absurd z (by decide)
          exact ih3 _ ⟨f1, rfl, hh3, z_mid_skip hm3 hn⟩
        · have hn : nd a b = true := by
            cases e : nd a b with
            | true => rfl
            | false => rw [e] at z; exact absurd rfl z
          refine s_addAll ha hb (fun f2 hf2 => ?_)
          rw [q_aL_at] at hf2
          rw [q_aL_aL]
          exact ih3 _ ⟨f2, rfl, z_hi_put hh3 ha hb hn hf2, z_mid_put hm3 ha hf2⟩
end
section
/-! ===== wakings, as numbers ===== -/
theorem z_ends_iff {m : q_S} {l t : Nat} : z_ends m l t = true ↔ ∃ i, i < z_nt m ∧ z_ti m i 3 = t ∧ l ≤ z_ti m i 2 := by
  unfold z_ends
  rw [z_any]
  constructor
  · rintro ⟨i, hi, h⟩
    obtain ⟨h1, h2⟩ := Bool.and_eq_true_iff.mp h
    exact ⟨i, hi, by simpa using h1, by simpa using h2⟩
  · rintro ⟨i, hi, h1, h2⟩
    exact ⟨i, hi, by simp [h1, h2]⟩
theorem z_lat_le (m : q_S) : ∀ t, z_lat m t ≤ t
  | 0 => Nat.le_refl 0
  | t + 1 => by
    show (if z_ends m (z_lat m t) t = true then t + 1 else z_lat m t) ≤ t + 1
    split
    · exact Nat.le_refl _
    · have := z_lat_le m t; omega
theorem z_lat_wk (m : q_S) : ∀ t, 0 < z_lat m t → z_wk m (z_lat m t - 1) = true
  | 0, h => absurd h (by show ¬ 0 < 0; omega)
  | t + 1, h => by
    by_cases e : z_ends m (z_lat m t) t = true
    · have e1 : z_lat m (t + 1) = t + 1 := if_pos e
      rw [e1]
      exact e
    · have e1 : z_lat m (t + 1) = z_lat m t := if_neg e
      rw [e1] at h ⊢
      exact z_lat_wk m t h
theorem z_lat_at {m : q_S} {t : Nat} (h : z_wk m t = true) : z_lat m (t + 1) = t + 1 := if_pos h
theorem z_lat_no {m : q_S} {t : Nat} (h : z_wk m t = false) : z_lat m (t + 1) = z_lat m t := if_neg (by show ¬ z_wk m t = true; rw [h]; decide)
theorem z_lat_up (m : q_S) {c : Nat} : ∀ {t : Nat}, c ≤ t → z_lat m c ≤ z_lat m t := by
  intro t h
  induction h with
  | refl => exact Nat.le_refl _
  | @step t h ih =>
    cases e : z_wk m t with
    | true => rw [z_lat_at e]; have := z_lat_le m t; omega
    | false => rw [z_lat_no e]; exact ih
theorem z_lat_stay {m : q_S} {c : Nat} : ∀ {t : Nat}, c ≤ t → (∀ x, c ≤ x → x < t → z_wk m x = false) → z_lat m t = z_lat m c := by
  intro t h
  induction h with
  | refl => intro _; rfl
  | @step t h ih =>
    intro hx
    rw [z_lat_no (hx t h (Nat.lt_succ_self t))]
    exact ih (fun x h1 h2 => hx x h1 (Nat.lt_succ_of_lt h2))
theorem z_lat_cut {m : q_S} {c : Nat} (h : c = 0 ∨ z_wk m (c - 1) = true) : z_lat m c = c := by
  rcases h with rfl | h
  · rfl
  · cases c with
    | zero => rfl
    | succ c => exact z_lat_at h
/-- every window has a waking -/
theorem z_cover {m : q_S} {i : Nat} (hi : i < z_nt m) (hw : z_ti m i 2 ≤ z_ti m i 3) : ∃ x, z_ti m i 2 ≤ x ∧ x ≤ z_ti m i 3 ∧ z_wk m x = true := by
  cases e : z_wk m (z_ti m i 3) with
  | true => exact ⟨_, hw, Nat.le_refl _, e⟩
  | false =>
    have h1 : ¬ z_lat m (z_ti m i 3) ≤ z_ti m i 2 := by
      intro h
      have : z_wk m (z_ti m i 3) = true := z_ends_iff.mpr ⟨i, hi, rfl, h⟩
      rw [e] at this
      cases this
    have h2 := z_lat_le m (z_ti m i 3)
    exact ⟨z_lat m (z_ti m i 3) - 1, by omega, by omega, z_lat_wk m _ (by omega)⟩
theorem z_none {m : q_S} {c i : Nat} (hi : i < z_nt m) (hw : z_ti m i 2 ≤ z_ti m i 3) (h64 : z_ti m i 3 < 64) (hc : c = 0 ∨ z_wk m (c - 1) = true) (hc64 : c ≤ 64) : (∀ t, t < 64 → z_ti m i 2 ≤ t → t ≤ z_ti m i 3 → z_wk m t = true → t < c → False) ↔ c ≤ z_ti m i 2 := by
  constructor
  · intro h
    apply Classical.byContradiction
    intro hn
    have hc1 : z_wk m (c - 1) = true := hc.resolve_left (by omega)
    by_cases h1 : c - 1 ≤ z_ti m i 3
    · exact h (c - 1) (by omega) (by omega) h1 hc1 (by omega)
    · obtain ⟨x, a, b, w⟩ := z_cover hi hw
      exact h x (by omega) a b w (by omega)
  · intro h t _ h1 _ _ h2
    omega
theorem z_sum_mono {f g : Nat → Nat} : ∀ n, (∀ i, i < n → f i ≤ g i) → z_sum f n ≤ z_sum g n
  | 0, _ => Nat.le_refl _
  | n + 1, h => by
    have h1 := z_sum_mono n (fun i hi => h i (by omega))
    have h2 := h n (by omega)
    show z_sum f n + f n ≤ z_sum g n + g n
    omega
theorem z_sum_lt {f g : Nat → Nat} {j : Nat} : ∀ n, (∀ i, i < n → f i ≤ g i) → j < n → f j + 1 ≤ g j → z_sum f n + 1 ≤ z_sum g n
  | 0, _, hj, _ => absurd hj (by omega)
  | n + 1, h, hj, h1 => by
    show z_sum f n + f n + 1 ≤ z_sum g n + g n
    by_cases e : j = n
    · subst e
      have := z_sum_mono j (fun i hi => h i (by omega))
      omega
    · have h2 := z_sum_lt n (fun i hi => h i (by omega)) (show j < n by omega) h1
      have h3 := h n (by omega)
      omega
theorem z_sum_0 {f : Nat → Nat} {j : Nat} : ∀ {n : Nat}, z_sum f n = 0 → j < n → f j = 0
  | 0, _, hj => absurd hj (by omega)
  | n + 1, h, hj => by
    have h : z_sum f n + f n = 0 := h
    by_cases e : j = n
    · subst e; omega
    · exact z_sum_0 (n := n) (by omega) (by omega)
def z_left (m : q_S) (c : Nat) : Nat := z_sum (fun i => if c ≤ z_ti m i 2 then 1 else 0) (z_nt m)
theorem z_left_all (m : q_S) : z_left m 0 ≤ z_nt m := by
  have := z_sum_le (f := fun i => if 0 ≤ z_ti m i 2 then 1 else 0) (b := 1) (fun i => by simp) (z_nt m)
  unfold z_left
  omega
/-- no window from c on: all wakings are ahead of c -/
theorem z_done {m : q_S} {c : Nat} (hc : c = 0 ∨ z_wk m (c - 1) = true) (h : ∀ i, i < z_nt m → z_ti m i 2 < c) (t : Nat) : z_wk m t = true → t < c := by
  intro hw
  apply Classical.byContradiction
  intro hn
  obtain ⟨i, hi, _, h2⟩ := z_ends_iff.mp (show z_ends m (z_lat m t) t = true from hw)
  have h3 := z_lat_up m (c := c) (t := t) (by omega)
  rw [z_lat_cut hc] at h3
  have := h i hi
  omega
/-- the next waking behind c is the least end of a window from c on -/
theorem z_next {m : q_S} {c j : Nat} (hc : c = 0 ∨ z_wk m (c - 1) = true) (hj : j < z_nt m) (hw : z_ti m j 2 ≤ z_ti m j 3) (hcj : c ≤ z_ti m j 2) (hmin : ∀ i, i < z_nt m → c ≤ z_ti m i 2 → z_ti m j 3 ≤ z_ti m i 3) : z_wk m (z_ti m j 3) = true ∧ ∀ t, c ≤ t → t < z_ti m j 3 → z_wk m t = false := by
  have h1 : ∀ t, c ≤ t → t < z_ti m j 3 → z_wk m t = false := by
    intro t h1 h2
    cases e : z_wk m t with
    | false => rfl
    | true =>
      obtain ⟨i, hi, h3, h4⟩ := z_ends_iff.mp (show z_ends m (z_lat m t) t = true from e)
      have h5 := z_lat_up m (c := c) (t := t) (by omega)
      rw [z_lat_cut hc] at h5
      have := hmin i hi (by omega)
      omega
  refine ⟨?_, h1⟩
  have h2 : z_lat m (z_ti m j 3) = c := by rw [z_lat_stay (c := c) (by omega) h1, z_lat_cut hc]
  exact z_ends_iff.mpr ⟨j, hj, rfl, by rw [h2]; exact hcj⟩
theorem z_least_spec {f : Nat → Bool} : ∀ n s x, s ≤ x → x < s + n → f x = true → f (z_least f n s) = true ∧ s ≤ z_least f n s ∧ z_least f n s ≤ x ∧ ∀ y, s ≤ y → y < z_least f n s → f y = false
  | 0, s, x, h1, h2, _ => absurd h2 (by omega)
  | n + 1, s, x, h1, h2, h3 => by
    by_cases e : f s = true
    · have e1 : z_least f (n + 1) s = s := if_pos e
      rw [e1]
      exact ⟨e, Nat.le_refl _, h1, fun y a b => by omega⟩
    · have e1 : z_least f (n + 1) s = z_least f n (s + 1) := if_neg e
      have hne : x ≠ s := fun q => e (q ▸ h3)
      obtain ⟨a1, a2, a3, a4⟩ := z_least_spec n (s + 1) x (by omega) (by omega) h3
      rw [e1]
      refine ⟨a1, by omega, a3, fun y b1 b2 => ?_⟩
      by_cases ey : y = s
      · subst ey; cases h : f y with
        | false => rfl
        | true => exact absurd h e
      · exact a4 y (by omega) b2
theorem z_fi_spec {m : q_S} {i : Nat} (hi : i < z_nt m) (hw : z_ti m i 2 ≤ z_ti m i 3) (h64 : z_ti m i 3 < 64) : z_wk m (z_fi m i) = true ∧ z_ti m i 2 ≤ z_fi m i ∧ z_fi m i ≤ z_ti m i 3 ∧ ∀ y, z_ti m i 2 ≤ y → y < z_fi m i → z_wk m y = false := by
  obtain ⟨x, a, b, w⟩ := z_cover hi hw
  obtain ⟨a1, a2, a3, a4⟩ := z_least_spec (f := z_wk m) 64 (z_ti m i 2) x a (by omega) w
  exact ⟨a1, a2, by show z_least _ _ _ ≤ _; omega, a4⟩
/-! ===== Claims ===== -/
theorem q_cap (c : Nat) : q_len 12 c ≤ 20 := by
  show (bif Nat.beq c 0 then 20 else 12) ≤ 20
  cases Nat.beq c 0 <;> decide
theorem s_ticksAhead {n : Nat} {h : q_H} {Q : Int64 → q_H → Prop} (hn : n ≤ 64) (k : ∀ x : Int64, (∀ t, t < 64 → tb x t = decide (t < n)) → Q x h) : wp_X4_ticksAhead (nI n) h Q := by
  unfold wp_X4_ticksAhead
  refine ⟨fun c => k _ (fun t ht => ?_), fun c => k _ (fun t ht => ?_)⟩
  · have : n < 64 := (nI_ltI (by omega) (by omega)).mp (show nI n < nI 64 from c)
    exact tb_ahead this ht
  · have : ¬ n < 64 := fun q => c (show nI n < nI 64 from nI_lt q (by omega))
    rw [tb_m1 t ht, decide_eq_true (by omega)]
theorem s_cticks {c i a b : Nat} {h : q_H} {Q : Int64 → q_H → Prop} (hi : i < q_len 12 c) (ha : h.1 11 c i = nI a) (hb : h.1 12 c i = nI b) (ha6 : a ≤ 64) (hb6 : b ≤ 64) (k : ∀ x : Int64, (∀ t, t < 64 → tb x t = (decide (a ≤ t) && decide (t < b))) → Q x h) : wp_X0_ticksOf c (nI i) h Q := by
  have := q_cap c
  unfold wp_X0_ticksOf
  rw [cl (by omega)]
  refine ⟨vin hi (by omega), ?_⟩
  rw [hb]
  refine s_ticksAhead hb6 (fun x hx => ⟨show vp_in (nI i) (q_len 12 c) from vin hi (by omega), ?_⟩)
  rw [ha]
  refine s_ticksAhead ha6 (fun y hy => k _ (fun t ht => ?_))
  rw [tb_and, tb_not y ht, hx t ht, hy t ht]
  rcases Nat.lt_or_ge t a with h1 | h1
  · rw [decide_eq_true h1, decide_eq_false (by omega : ¬ a ≤ t), Bool.not_true, Bool.and_false, Bool.false_and]
  · rw [decide_eq_false (by omega : ¬ t < a), decide_eq_true h1, Bool.not_false, Bool.and_true, Bool.true_and]
theorem s_leastTick {x : Int64} {h : q_H} {Q : Int32 → q_H → Prop} (k1 : ∀ t, t < 64 → tb x t = true → (∀ y, y < t → tb x y = false) → Q (nI t) h) (k2 : (∀ t, t < 64 → tb x t = false) → Q (-1) h) : wp_X4_leastTick x h Q := by
  unfold wp_X4_leastTick
  refine pk_loop (σ := q_H) (fun n i s => lp_X4_leastTick_2 x Q (fun _ g => Q (-1) g) n (nI i) s) (fun i s => s = h ∧ ∀ y, y < i → tb x y = false) 64 0 h (by omega) ⟨rfl, fun y hy => by omega⟩ ?_ ?_
  · rintro n s ⟨rfl, hs⟩
    unfold lp_X4_leastTick_2
    exact ⟨fun _ => k2 hs, fun z => absurd (show nI 64 ≤ nI 64 from nI_le (by omega) (by omega)) z⟩
  · rintro n i s hi ⟨rfl, hs⟩ ih
    unfold lp_X4_leastTick_2
    refine ⟨fun z => absurd z (show ¬ nI 64 ≤ nI i from nle hi (by omega)), fun _ => ?_⟩
    refine s_hasTick hi ?_
    refine ⟨fun z => ?_, fun z => ?_⟩
    · have hf : tb x i = false := by
        cases e : tb x i with
        | false => rfl
        | true => rw [e] at z; exact absurd z (by decide)
      rw [nI_1]
      refine ih _ ⟨rfl, fun y hy => ?_⟩
      by_cases e : y = i
      · subst e; exact hf
      · exact hs y (by omega)
    · have hf : tb x i = true := by
        cases e : tb x i with
        | true => rfl
        | false => rw [e] at z; exact absurd rfl z
      exact k1 i hi hf hs
theorem w_m1 (n : Nat) (hn : n < 2 ^ 31) : ¬ nI n = -1 := by
  intro h
  have h1 := congrArg Int32.toInt h
  rw [nI_toInt hn] at h1
  have h2 : Int32.toInt (-1) = -1 := by decide
  omega
theorem s_firstEnd {c N : Nat} {a b : Nat → Nat} {x : Int64} {h : q_H} {Q : Int32 → q_H → Prop} (hN : N ≤ q_len 12 c) (hc : h.1 8 c 4 = nI N) (ha : ∀ i, i < N → h.1 11 c i = nI (a i) ∧ a i ≤ 64) (hb : ∀ i, i < N → h.1 12 c i = nI (b i) ∧ b i ≤ 64)
    (k1 : (∀ i, i < N → ¬ (∀ t, t < 64 → a i ≤ t → t < b i → tb x t = false)) → Q (-1) h)
    (k2 : ∀ i, i < N → (∀ t, t < 64 → a i ≤ t → t < b i → tb x t = false) → (∀ j, j < N → (∀ t, t < 64 → a j ≤ t → t < b j → tb x t = false) → b i ≤ b j) → Q (nI (b i)) h) : wp_X0_firstEndWithNone c x h Q := by
  have hcap := q_cap c
  unfold wp_X0_firstEndWithNone
  refine pk_loop (σ := Int32 × q_H) (fun n i s => lp_X0_firstEndWithNone_5 c x (fun y _ g => Q y g) n s.1 (nI i) s.2) (fun i s => s.2 = h ∧ ((s.1 = -1 ∧ ∀ j, j < i → ¬ (∀ t, t < 64 → a j ≤ t → t < b j → tb x t = false)) ∨ ∃ j, j < i ∧ (∀ t, t < 64 → a j ≤ t → t < b j → tb x t = false) ∧ s.1 = nI (b j) ∧ ∀ l, l < i → (∀ t, t < 64 → a l ≤ t → t < b l → tb x t = false) → b j ≤ b l)) N 0 (-1, h) (by omega) ⟨rfl, Or.inl ⟨rfl, fun j hj => by omega⟩⟩ ?_ ?_
  · rintro n ⟨y, g⟩ ⟨e, hs⟩
    have e : g = h := e
    subst e
    unfold lp_X0_firstEndWithNone_5
    rw [hc]
    refine ⟨fun _ => ?_, fun z => absurd (nI_le (Nat.le_refl N) (by omega)) z⟩
    rcases hs with ⟨h1, h2⟩ | ⟨j, hj, h1, h2, h3⟩
    · have h1 : y = -1 := h1
      rw [h1]; exact k1 h2
    · have h2 : y = nI (b j) := h2
      rw [h2]; exact k2 j hj h1 h3
  · rintro n i ⟨y, g⟩ hi ⟨e, hs⟩ ih
    have e : g = h := e
    subst e
    unfold lp_X0_firstEndWithNone_5
    rw [hc]
    refine ⟨fun z => absurd z (nle hi (by omega)), fun _ => ?_⟩
    obtain ⟨hai, hai6⟩ := ha i hi
    obtain ⟨hbi, hbi6⟩ := hb i hi
    refine s_cticks (Nat.lt_of_lt_of_le hi hN) hai hbi hai6 hbi6 (fun w hw => ?_)
    have hcl : (nI i).toNatClampNeg = i := cl (by omega)
    have hnone : lg_cmp (w &&& x) 0 = 0 ↔ (∀ t, t < 64 → a i ≤ t → t < b i → tb x t = false) := by
      rw [lgc_0]
      constructor
      · intro hz t ht h1 h2
        have := congrArg (fun q => tb q t) hz
        simp only [tb_and, tb_0] at this
        rw [hw t ht, decide_eq_true h1, decide_eq_true h2] at this
        simpa using this
      · intro hz
        apply tb_ext
        intro t ht
        rw [tb_and, tb_0, hw t ht]
        by_cases h1 : a i ≤ t
        · by_cases h2 : t < b i
          · rw [hz t ht h1 h2, Bool.and_false]
          · rw [decide_eq_false h2, Bool.and_false, Bool.false_and]
        · rw [decide_eq_false h1, Bool.false_and, Bool.false_and]
    rw [hcl, hbi, nI_1 i]
    have hs : (y = -1 ∧ ∀ j, j < i → ¬ (∀ t, t < 64 → a j ≤ t → t < b j → tb x t = false)) ∨ ∃ j, j < i ∧ (∀ t, t < 64 → a j ≤ t → t < b j → tb x t = false) ∧ y = nI (b j) ∧ ∀ l, l < i → (∀ t, t < 64 → a l ≤ t → t < b l → tb x t = false) → b j ≤ b l := hs
    refine ⟨fun z => ?_, fun z => ?_⟩
    · have hz := hnone.mp z
      refine ⟨fun z1 => ⟨vin (Nat.lt_of_lt_of_le hi hN) (by omega), ?_⟩, fun z1 => ⟨vin (Nat.lt_of_lt_of_le hi hN) (by omega), ?_⟩⟩
      · refine ih (_, _) ⟨rfl, Or.inr ⟨i, Nat.lt_succ_self i, hz, rfl, fun l hl hh => ?_⟩⟩
        by_cases el : l = i
        · subst el; exact Nat.le_refl _
        · rcases hs with ⟨_, h2⟩ | ⟨j, hj, _, h2, _⟩
          · exact absurd hh (h2 l (by omega))
          · rw [h2] at z1; exact absurd z1 (w_m1 _ (by have := (hb j (by omega)).2; omega))
      · rcases hs with ⟨h1, _⟩ | ⟨j, hj, h1, h2, h3⟩
        · exact absurd h1 z1
        · have hbj := (hb j (by omega)).2
          rw [h2]
          refine ⟨fun z2 => ?_, fun z2 => ⟨vin (Nat.lt_of_lt_of_le hi hN) (by omega), ?_⟩⟩
          · have hle : b j ≤ b i := (nI_leI (by omega) (by omega)).mp z2
            refine ih (_, _) ⟨rfl, Or.inr ⟨j, by omega, h1, rfl, fun l hl hh => ?_⟩⟩
            by_cases el : l = i
            · subst el; exact hle
            · exact h3 l (by omega) hh
          · have hlt : b i < b j := Nat.lt_of_not_le (fun q => z2 ((nI_leI (by omega) (by omega)).mpr q))
            refine ih (_, _) ⟨rfl, Or.inr ⟨i, Nat.lt_succ_self i, hz, rfl, fun l hl hh => ?_⟩⟩
            by_cases el : l = i
            · subst el; exact Nat.le_refl _
            · have := h3 l (by omega) hh; omega
    · have hz : ¬ (∀ t, t < 64 → a i ≤ t → t < b i → tb x t = false) := fun q => z (hnone.mpr q)
      refine ih (_, _) ⟨rfl, ?_⟩
      rcases hs with ⟨h1, h2⟩ | ⟨j, hj, h1, h2, h3⟩
      · refine Or.inl ⟨h1, fun j hj => ?_⟩
        by_cases ej : j = i
        · subst ej; exact hz
        · exact h2 j (by omega)
      · refine Or.inr ⟨j, by omega, h1, h2, fun l hl hh => ?_⟩
        by_cases el : l = i
        · subst el; exact absurd hh hz
        · exact h3 l (by omega) hh
/-! ===== the class's timers, wakings, and wants ===== -/
/-- the class's half without wakings and rows -/
def z_C1 (m : q_S) (h : q_H) : Prop :=
  h.1 0 0 1 = nI (z_np m) ∧
  (∀ p, p < 6 → ∀ s, s < 4 → h.1 3 p s = nI (z_dr m p s)) ∧
  (∀ p, p < 6 → ∀ s, s < 4 → h.1 4 p s = nI (z_co m p s)) ∧
  (∀ p, p < 6 → ∀ s, s < 4 → h.1 5 p s = nI (z_ri m p s)) ∧
  (∀ p, p < 6 → h.1 6 p 0 = 0 ∧ h.1 6 p 1 = nI (z_ru m p 0) ∧ h.1 6 p 2 = nI (z_ru m p 1) ∧ h.1 6 p 3 = nI (z_ru m p 2) ∧ h.1 6 p 4 = 64) ∧
  (∀ p, p < 6 → ∀ q, q < 32 → bt (h.1 7 0 p) q = (decide (q < 6) && z_nd m p q)) ∧
  (h.1 8 0 4 = nI (z_nh m) ∧ ∀ i, i < z_nh m → h.1 9 0 i = nI (z_ho m i 0) ∧ h.1 10 0 i = nI (z_ho m i 1) ∧ h.1 11 0 i = nI (z_ho m i 2) ∧ h.1 12 0 i = nI (z_ho m i 3)) ∧
  (h.1 8 1 4 = nI (z_nt m) ∧ ∀ i, i < z_nt m → h.1 9 1 i = nI (z_ti m i 0) ∧ h.1 10 1 i = nI (z_ti m i 1) ∧ h.1 11 1 i = nI (z_ti m i 2) ∧ h.1 12 1 i = nI (z_ti m i 3 + 1))
theorem z_C_iff {m : q_S} {h : q_H} : z_C m h ↔ z_C1 m h ∧ (∀ t, t < 64 → tb (h.2 0 0 5) t = z_wk m t) ∧ z_rows m (-1) (h.2 14 0) := by
  unfold z_C z_C1
  constructor
  · rintro ⟨a, b, c, d, e, f, g, i, j, k⟩; exact ⟨⟨a, b, c, d, e, f, g, i⟩, j, k⟩
  · rintro ⟨⟨a, b, c, d, e, f, g, i⟩, j, k⟩; exact ⟨a, b, c, d, e, f, g, i, j, k⟩
/-- depends on the ints alone -/
theorem z_C1.ints {m : q_S} {h g : q_H} (e : ∀ k, k ≤ 12 → g.1 k = h.1 k) (c : z_C1 m h) : z_C1 m g := by
  unfold z_C1 at c ⊢
  rw [e 0 (by omega), e 3 (by omega), e 4 (by omega), e 5 (by omega), e 6 (by omega), e 7 (by omega), e 8 (by omega), e 9 (by omega), e 10 (by omega), e 11 (by omega), e 12 (by omega)]
  exact c
theorem s_fewest {m : q_S} {h : q_H} {Q : Int64 → q_H → Prop} (hok : z_ok m) (hc : z_C1 m h) (k : ∀ x : Int64, (∀ t, t < 64 → tb x t = z_wk m t) → Q x h) : wp_X4_fewestWakings h Q := by
  obtain ⟨⟨_, _, hnt⟩, _, _, _, _, _, _, _, hti⟩ := hok
  obtain ⟨_, _, _, _, _, _, _, hn, ht⟩ := hc
  have fin : ∀ (x : Int64) (c : Nat), (c = 0 ∨ z_wk m (c - 1) = true) → (∀ t, t < 64 → tb x t = (z_wk m t && decide (t < c))) → (∀ i, i < z_nt m → z_ti m i 2 < c) → Q x h := by
    intro x c h1 h2 h3
    refine k x (fun t ht => ?_)
    rw [h2 t ht]
    cases e : z_wk m t with
    | false => rfl
    | true => rw [decide_eq_true (z_done h1 h3 t e)]; rfl
  unfold wp_X4_fewestWakings
  refine pk_loop (σ := Int64 × q_H) (fun n i s => lp_X4_fewestWakings_4 (fun x _ g => Q x g) n s.1 (nI i) s.2) (fun i s => s.2 = h ∧ ∃ c, c ≤ 64 ∧ (c = 0 ∨ z_wk m (c - 1) = true) ∧ (∀ t, t < 64 → tb s.1 t = (z_wk m t && decide (t < c))) ∧ z_left m c + i ≤ z_nt m) (z_nt m) 0 (0, h) (by omega) ⟨rfl, 0, by omega, Or.inl rfl, fun t _ => by rw [tb_0, decide_eq_false (by omega), Bool.and_false], by have := z_left_all m; omega⟩ ?_ ?_
  · rintro n ⟨x, g⟩ ⟨e, c, h1, h2, h3, h4⟩
    have e : g = h := e
    subst e
    unfold lp_X4_fewestWakings_4 wp_X0_size
    rw [hn]
    refine ⟨fun _ => fin x c h2 h3 (fun i hi => ?_), fun z => absurd (nI_le (Nat.le_refl _) (by omega)) z⟩
    have h5 : z_left m c = 0 := by omega
    have h6 := z_sum_0 (f := fun i => if c ≤ z_ti m i 2 then 1 else 0) h5 hi
    apply Classical.byContradiction
    intro h7
    have h6 : (if c ≤ z_ti m i 2 then 1 else 0) = 0 := h6
    rw [if_pos (by omega)] at h6
    cases h6
  · rintro n i ⟨x, g⟩ hi ⟨e, c, h1, h2, h3, h4⟩ ih
    have e : g = h := e
    subst e
    have h3 : ∀ t, t < 64 → tb x t = (z_wk m t && decide (t < c)) := h3
    unfold lp_X4_fewestWakings_4 wp_X0_size
    rw [hn]
    refine ⟨fun z => absurd z (nle hi (by omega)), fun _ => ?_⟩
    have hnone : ∀ j, j < z_nt m → ((∀ t, t < 64 → z_ti m j 2 ≤ t → t < z_ti m j 3 + 1 → tb x t = false) ↔ c ≤ z_ti m j 2) := by
      intro j hj
      obtain ⟨_, _, a3, a4⟩ := hti j hj
      rw [← z_none hj a3 a4 h2 h1]
      constructor
      · intro h t ht b1 b2 b3 b4
        have := h t ht b1 (by omega)
        rw [h3 t ht, b3, decide_eq_true b4] at this
        cases this
      · intro h t ht b1 b2
        rw [h3 t ht]
        cases e1 : z_wk m t with
        | false => rfl
        | true =>
          by_cases e2 : t < c
          · exact absurd (h t ht b1 (by omega) e1 e2) id
          · rw [decide_eq_false e2]; rfl
    refine s_firstEnd (N := z_nt m) (a := fun j => z_ti m j 2) (b := fun j => z_ti m j 3 + 1) (show z_nt m ≤ 12 from hnt) hn (fun j hj => ⟨(ht j hj).2.2.1, by have := hti j hj; omega⟩) (fun j hj => ⟨(ht j hj).2.2.2, by have := hti j hj; omega⟩) (fun hall => ?_) (fun j hj hz hmin => ?_)
    · refine ⟨fun _ => ?_, fun z => absurd rfl z⟩
      refine fin x c h2 h3 (fun j hj => ?_)
      apply Classical.byContradiction
      intro h7
      exact hall j hj ((hnone j hj).mpr (by omega))
    · obtain ⟨_, _, a3, a4⟩ := hti j hj
      refine ⟨fun z => absurd z (w_m1 _ (by omega)), fun _ => ?_⟩
      have hcj := (hnone j hj).mp hz
      obtain ⟨n1, n2⟩ := z_next h2 hj a3 hcj (fun l hl hcl => by have := hmin l hl ((hnone l hl).mpr hcl); omega)
      rw [nI_pred, nI_1 i]
      refine ih (_, _) ⟨rfl, z_ti m j 3 + 1, by omega, Or.inr n1, fun t ht => ?_, ?_⟩
      · show tb (x ||| _) t = _
        rw [tb_or, tb_one a4 ht, h3 t ht]
        by_cases e1 : t = z_ti m j 3
        · subst e1; rw [n1]; simp
        · by_cases e2 : t < c
          · have : t < z_ti m j 3 + 1 := by omega
            simp [e1, e2, this]
          · by_cases e3 : t < z_ti m j 3 + 1
            · rw [n2 t (by omega) (by omega)]; simp [e1]
            · simp [e1, e2, e3]
      · have : z_left m (z_ti m j 3 + 1) + 1 ≤ z_left m c := by
          unfold z_left
          refine z_sum_lt (j := j) _ (fun i _ => ?_) hj ?_
          · by_cases e1 : z_ti m j 3 + 1 ≤ z_ti m i 2
            · rw [if_pos e1, if_pos (by omega)]; exact Nat.le_refl 1
            · rw [if_neg e1]; exact Nat.zero_le _
          · rw [if_neg (by omega), if_pos hcj]; exact Nat.le_refl 1
        omega
theorem s_gather {m : q_S} {lo : Int32} {c : Nat} {h : q_H} {Q : q_H → Prop} (hok : z_ok m) (hc : z_C1 m h) (hwk : ∀ t, t < 64 → tb (h.2 0 0 5) t = z_wk m t) (hcc : c < 2) (k : ∀ f : Nat → Int64, z_rows m lo f → Q (q_aL h 14 c f)) : wp_X4_gatherWants c lo h Q := by
  obtain ⟨⟨hnp, hnh, hnt⟩, _, _, _, _, _, _, hho, hti⟩ := hok
  obtain ⟨_, _, _, _, _, hnd, ⟨hn, ht⟩, hn2, ht2⟩ := hc
  unfold wp_X4_gatherWants
  refine s_clear (fun f0 hf0 => ?_)
  have neq : ∀ f : Nat → Int64, (q_aL h 14 c f).2 0 0 = h.2 0 0 := fun f => q_aL_ne (by omega)
  -- the holds
  refine pk_loop (σ := q_H) (fun n i s => lp_X4_gatherWants_6 c lo _ n (nI i) s) (fun i s => ∃ f : Nat → Int64, s = q_aL h 14 c f ∧ ∀ p g, p < 6 → g < 8 → ∀ t, t < 64 → tb (f (p * 8 + g)) t = (List.range i).any (fun i => !decide (nI i = lo) && (z_ho m i 0 == g && (z_ho m i 1 == p && (decide (z_ho m i 2 ≤ t) && decide (t < z_ho m i 3)))))) (z_nh m) 0 _ (by omega) ⟨f0, rfl, fun p g hp hg t _ => by rw [hf0 _ (by omega), tb_0]; rfl⟩ ?_ ?_
  · rintro n s ⟨f, rfl, hf⟩
    unfold lp_X4_gatherWants_6 wp_X0_size
    have hn' : (q_aL h 14 c f).1 8 0 4 = nI (z_nh m) := hn
    rw [hn']
    refine ⟨fun _ => ?_, fun z => absurd (nI_le (Nat.le_refl _) (by omega)) z⟩
    -- the timers
    refine pk_loop (σ := q_H) (fun n i s => lp_X4_gatherWants_58 c _ n (nI i) s) (fun i s => ∃ f1 : Nat → Int64, s = q_aL h 14 c f1 ∧ ∀ p g, p < 6 → g < 8 → ∀ t, t < 64 → tb (f1 (p * 8 + g)) t = (tb (f (p * 8 + g)) t || (List.range i).any (fun i => z_ti m i 0 == g && (z_ti m i 1 == p && z_fi m i == t)))) (z_nt m) 0 _ (by omega) ⟨f, rfl, fun p g _ _ t _ => by simp⟩ ?_ ?_
    · rintro n2 s ⟨f1, rfl, hf1⟩
      unfold lp_X4_gatherWants_58 wp_X0_size
      have hn' : (q_aL h 14 c f1).1 8 1 4 = nI (z_nt m) := hn2
      rw [hn']
      refine ⟨fun _ => ?_, fun z => absurd (nI_le (Nat.le_refl _) (by omega)) z⟩
      refine s_spread (nd := z_nd m) (S := fun g t p => z_base m lo g t p) (fun p hp q hq => ?_) (fun p g hp hg t ht => ?_) (fun f2 hf2 => ?_)
      · have := hnd p hp q (by omega)
        rw [decide_eq_true hq, Bool.true_and] at this
        exact this
      · rw [q_aL_at, hf1 p g hp hg t ht, hf p g hp hg t ht]
        rfl
      · rw [q_aL_aL]
        exact k f2 (fun p hp g hg t ht => hf2 p g hp hg t ht)
    · rintro n2 i s hi ⟨f1, rfl, hf1⟩ ih
      unfold lp_X4_gatherWants_58 wp_X0_size
      have hn' : (q_aL h 14 c f1).1 8 1 4 = nI (z_nt m) := hn2
      rw [hn']
      refine ⟨fun z => absurd z (nle hi (by omega)), fun _ => ?_⟩
      obtain ⟨b1, b2, b3, b4⟩ := hti i hi
      obtain ⟨g1, g2, g3, g4⟩ := ht2 i hi
      obtain ⟨w1, w2, w3, w4⟩ := z_fi_spec hi b3 b4
      refine s_cticks (c := 1) (show i < 12 by omega) g3 g4 (by omega) (by omega) (fun x hx => ?_)
      rw [neq]
      have hbit : ∀ t, t < 64 → tb (h.2 0 0 5 &&& x) t = (z_wk m t && (decide (z_ti m i 2 ≤ t) && decide (t < z_ti m i 3 + 1))) := fun t ht => by rw [tb_and, hwk t ht, hx t ht]
      refine s_leastTick (fun t ht h1 h2 => ?_) (fun hall => ?_)
      · refine ⟨fun z => absurd z (w_m1 _ (by omega)), fun _ => ?_⟩
        have et : t = z_fi m i := by
          rw [hbit t ht] at h1
          simp only [Bool.and_eq_true, decide_eq_true_eq] at h1
          rcases Nat.lt_trichotomy t (z_fi m i) with e | e | e
          · rw [w4 t h1.2.1 e] at h1; exact absurd h1.1 (by decide)
          · exact e
          · have := h2 _ e
            rw [hbit _ (by omega), w1] at this
            simp only [Bool.true_and, Bool.and_eq_false_iff, decide_eq_false_iff_not] at this
            omega
        subst et
        unfold wp_X0_programOf
        rw [cl (by omega)]
        refine ⟨show vp_in (nI i) 12 from vin (by omega) (by omega), ?_⟩
        unfold wp_X0_partOf
        rw [cl (by omega)]
        refine ⟨show vp_in (nI i) 12 from vin (by omega) (by omega), ?_⟩
        have e1 : (q_aL h 14 c f1).1 9 1 i = nI (z_ti m i 0) := g1
        have e2 : (q_aL h 14 c f1).1 10 1 i = nI (z_ti m i 1) := g2
        rw [e1, e2]
        refine s_add (by omega) b1 ?_
        rw [q_aL_at, q_aL_aL, nI_1 i]
        refine ih _ ⟨_, rfl, fun p g hp hg t ht => ?_⟩
        rw [List.range_succ, List.any_append]
        by_cases e : p * 8 + g = z_ti m i 1 * 8 + z_ti m i 0
        · have ep : p = z_ti m i 1 := by omega
          have eg : g = z_ti m i 0 := by omega
          rw [e, vL_s, tb_or, ← e, hf1 p g hp hg t ht, tb_one (by omega) ht]
          subst ep; subst eg
          rw [Bool.or_assoc]
          congr 2
          simp only [List.any_cons, List.any_nil, Bool.or_false, beq_self_eq_true, Bool.true_and]
          by_cases et : t = z_fi m i
          · subst et; simp
          · simp [et, show ¬ z_fi m i = t from fun q => et q.symm]
        · rw [vL_n e, hf1 p g hp hg t ht]
          have : ¬ (z_ti m i 0 = g ∧ z_ti m i 1 = p) := by omega
          congr 1
          simp only [List.any_cons, List.any_nil, Bool.or_false]
          have h0 : (z_ti m i 0 == g && (z_ti m i 1 == p && z_fi m i == t)) = false := by
            by_cases e3 : z_ti m i 0 = g
            · have e4 : ¬ z_ti m i 1 = p := fun q => this ⟨e3, q⟩
              simp [e4]
            · simp [e3]
          rw [h0, Bool.or_false]
      · have := hall (z_fi m i) (by omega)
        rw [hbit _ (by omega), w1, decide_eq_true w2, decide_eq_true (by omega)] at this
        cases this
  · rintro n i s hi ⟨f, rfl, hf⟩ ih
    unfold lp_X4_gatherWants_6 wp_X0_size
    have hn' : (q_aL h 14 c f).1 8 0 4 = nI (z_nh m) := hn
    rw [hn']
    refine ⟨fun z => absurd z (nle hi (by omega)), fun _ => ?_⟩
    obtain ⟨b1, b2, b3, b4⟩ := hho i hi
    obtain ⟨g1, g2, g3, g4⟩ := ht i hi
    refine ⟨fun z => ?_, fun z => ?_⟩
    · rw [nI_1 i]
      refine ih _ ⟨f, rfl, fun p g hp hg t ht => ?_⟩
      rw [hf p g hp hg t ht, List.range_succ, List.any_append]
      simp [z]
    · unfold wp_X0_programOf
      rw [cl (by omega)]
      refine ⟨show vp_in (nI i) 20 from vin (by omega) (by omega), ?_⟩
      unfold wp_X0_partOf
      rw [cl (by omega)]
      refine ⟨show vp_in (nI i) 20 from vin (by omega) (by omega), ?_⟩
      refine s_cticks (c := 0) (show i < 20 by omega) g3 g4 (by omega) (by omega) (fun x hx => ?_)
      have e1 : (q_aL h 14 c f).1 9 0 i = nI (z_ho m i 0) := g1
      have e2 : (q_aL h 14 c f).1 10 0 i = nI (z_ho m i 1) := g2
      rw [e1, e2]
      refine s_add (by omega) b1 ?_
      rw [q_aL_at, q_aL_aL, nI_1 i]
      refine ih _ ⟨_, rfl, fun p g hp hg t ht => ?_⟩
      rw [List.range_succ, List.any_append]
      by_cases e : p * 8 + g = z_ho m i 1 * 8 + z_ho m i 0
      · have ep : p = z_ho m i 1 := by omega
        have eg : g = z_ho m i 0 := by omega
        rw [e, vL_s, tb_or, ← e, hf p g hp hg t ht, hx t ht]
        subst ep; subst eg
        simp [z]
      · rw [vL_n e, hf p g hp hg t ht]
        have : ¬ (z_ho m i 0 = g ∧ z_ho m i 1 = p) := by omega
        simp only [List.any_cons, List.any_nil, Bool.or_false]
        have h0 : (!decide (nI i = lo) && (z_ho m i 0 == g && (z_ho m i 1 == p && (decide (z_ho m i 2 ≤ t) && decide (t < z_ho m i 3))))) = false := by
          by_cases e3 : z_ho m i 0 = g
          · have e4 : ¬ z_ho m i 1 = p := fun q => this ⟨e3, q⟩
            simp [e4]
          · simp [e3]
        rw [h0, Bool.or_false]
end
section
/-! ===== idle spans, as numbers ===== -/
theorem z_cur_le (w : Nat → Bool) : ∀ t, z_cur w t ≤ t
  | 0 => Nat.le_refl 0
  | t + 1 => by
    show (if w t = true then 0 else z_cur w t + 1) ≤ t + 1
    split
    · exact Nat.zero_le _
    · have := z_cur_le w t; omega
theorem z_cur_idle (w : Nat → Bool) : ∀ t x, t - z_cur w t ≤ x → x < t → w x = false
  | 0, x, _, h => absurd h (by omega)
  | t + 1, x, h1, h2 => by
    by_cases e : w t = true
    · have e1 : z_cur w (t + 1) = 0 := if_pos e
      rw [e1] at h1
      omega
    · have e1 : z_cur w (t + 1) = z_cur w t + 1 := if_neg e
      rw [e1] at h1
      by_cases ex : x = t
      · subst ex; cases h : w x with
        | false => rfl
        | true => exact absurd h e
      · exact z_cur_idle w t x (by omega) (by omega)
theorem z_cur_edge (w : Nat → Bool) : ∀ t, z_cur w t < t → w (t - z_cur w t - 1) = true
  | 0, h => absurd h (by omega)
  | t + 1, h => by
    by_cases e : w t = true
    · have e1 : z_cur w (t + 1) = 0 := if_pos e
      rw [e1]
      exact e
    · have e1 : z_cur w (t + 1) = z_cur w t + 1 := if_neg e
      rw [e1] at h ⊢
      have := z_cur_edge w t (by omega)
      rwa [show t + 1 - (z_cur w t + 1) - 1 = t - z_cur w t - 1 by omega]
theorem z_st_iff {w : Nat → Bool} {t : Nat} : z_st w t = true ↔ w t = false ∧ (t = 0 ∨ w (t - 1) = true) := by
  unfold z_st
  simp
theorem z_st_cur {w : Nat → Bool} {t : Nat} : z_st w t = true ↔ w t = false ∧ z_cur w t = 0 := by
  rw [z_st_iff]
  constructor
  · rintro ⟨h1, h2⟩
    refine ⟨h1, ?_⟩
    cases t with
    | zero => rfl
    | succ t =>
      have : w t = true := h2.resolve_left (by omega)
      exact if_pos this
  · rintro ⟨h1, h2⟩
    refine ⟨h1, ?_⟩
    cases t with
    | zero => exact Or.inl rfl
    | succ t =>
      right
      have := z_cur_edge w (t + 1) (by omega)
      rwa [h2] at this
theorem z_cnt_le (w : Nat → Bool) : ∀ t, z_cnt w t ≤ t
  | 0 => Nat.le_refl 0
  | t + 1 => by
    have := z_cnt_le w t
    show z_cnt w t + (if z_st w t = true then 1 else 0) ≤ t + 1
    split <;> omega
theorem z_cnt_up (w : Nat → Bool) {a : Nat} : ∀ {b : Nat}, a ≤ b → z_cnt w a ≤ z_cnt w b := by
  intro b h
  induction h with
  | refl => exact Nat.le_refl _
  | @step b _ ih => exact Nat.le_trans ih (Nat.le_add_right _ _)
theorem z_cnt_st {w : Nat → Bool} {t : Nat} (h : z_st w t = true) : z_cnt w (t + 1) = z_cnt w t + 1 := by
  show z_cnt w t + (if z_st w t = true then 1 else 0) = _
  rw [if_pos h]
theorem z_cnt_no {w : Nat → Bool} {t : Nat} (h : z_st w t = false) : z_cnt w (t + 1) = z_cnt w t := by
  show z_cnt w t + (if z_st w t = true then 1 else 0) = _
  rw [h]; rfl
theorem z_cnt_same {w : Nat → Bool} {a : Nat} : ∀ {b : Nat}, a ≤ b → (∀ x, a ≤ x → x < b → z_st w x = false) → z_cnt w b = z_cnt w a := by
  intro b h
  induction h with
  | refl => intro _; rfl
  | @step b h ih =>
    intro hx
    rw [z_cnt_no (hx b h (Nat.lt_succ_self b))]
    exact ih (fun x h1 h2 => hx x h1 (Nat.lt_succ_of_lt h2))
theorem z_cnt_lt {w : Nat → Bool} {a b : Nat} (h : z_st w a = true) (hab : a < b) : z_cnt w a < z_cnt w b := by
  have := z_cnt_up w (a := a + 1) (b := b) hab
  rw [z_cnt_st h] at this
  omega
theorem z_cnt_inj {w : Nat → Bool} {a b : Nat} (ha : z_st w a = true) (hb : z_st w b = true) (h : z_cnt w a = z_cnt w b) : a = b := by
  rcases Nat.lt_trichotomy a b with e | e | e
  · have := z_cnt_lt ha e; omega
  · exact e
  · have := z_cnt_lt hb e; omega
theorem z_cnt_hit {w : Nat → Bool} : ∀ {n i : Nat}, i < z_cnt w n → ∃ s, s < n ∧ z_st w s = true ∧ z_cnt w s = i
  | 0, i, h => absurd h (by show ¬ i < 0; omega)
  | n + 1, i, h => by
    cases e : z_st w n with
    | false =>
      rw [z_cnt_no e] at h
      obtain ⟨s, h1, h2, h3⟩ := z_cnt_hit h
      exact ⟨s, by omega, h2, h3⟩
    | true =>
      rw [z_cnt_st e] at h
      by_cases ei : i = z_cnt w n
      · exact ⟨n, by omega, e, ei.symm⟩
      · obtain ⟨s, h1, h2, h3⟩ := z_cnt_hit (w := w) (n := n) (i := i) (by omega)
        exact ⟨s, by omega, h2, h3⟩
theorem z_run_le (w : Nat → Bool) : ∀ n t, z_run w n t ≤ n
  | 0, _ => Nat.le_refl 0
  | n + 1, t => by
    show (if w t = true then 0 else z_run w n (t + 1) + 1) ≤ n + 1
    split
    · exact Nat.zero_le _
    · have := z_run_le w n (t + 1); omega
theorem z_run_idle (w : Nat → Bool) : ∀ n t x, x < z_run w n t → w (t + x) = false
  | 0, _, x, h => absurd h (by show ¬ x < 0; omega)
  | n + 1, t, x, h => by
    by_cases e : w t = true
    · have e1 : z_run w (n + 1) t = 0 := if_pos e
      rw [e1] at h; omega
    · have e1 : z_run w (n + 1) t = z_run w n (t + 1) + 1 := if_neg e
      rw [e1] at h
      cases x with
      | zero => cases h1 : w t with
        | false => rfl
        | true => exact absurd h1 e
      | succ x =>
        have := z_run_idle w n (t + 1) x (by omega)
        rwa [show t + (x + 1) = t + 1 + x by omega]
theorem z_run_end (w : Nat → Bool) : ∀ n t, z_run w n t < n → w (t + z_run w n t) = true
  | 0, _, h => absurd h (by omega)
  | n + 1, t, h => by
    by_cases e : w t = true
    · have e1 : z_run w (n + 1) t = 0 := if_pos e
      rw [e1]; exact e
    · have e1 : z_run w (n + 1) t = z_run w n (t + 1) + 1 := if_neg e
      rw [e1] at h ⊢
      have := z_run_end w n (t + 1) (by omega)
      rwa [show t + (z_run w n (t + 1) + 1) = t + 1 + z_run w n (t + 1) by omega]
theorem z_run_ge {w : Nat → Bool} {n t k : Nat} (hk : k ≤ n) (h : ∀ x, x < k → w (t + x) = false) : k ≤ z_run w n t := by
  apply Classical.byContradiction
  intro hn
  have := z_run_end w n t (by omega)
  rw [h _ (by omega)] at this
  cases this
theorem z_run_lt {w : Nat → Bool} {n t x : Nat} (h : w (t + x) = true) : z_run w n t ≤ x := by
  apply Classical.byContradiction
  intro hn
  have := z_run_idle w n t x (by omega)
  rw [h] at this
  cases this
theorem z_len_le (w : Nat → Bool) {t : Nat} (ht : t ≤ 64) : t + z_len w t ≤ 64 := by
  have := z_run_le w (64 - t) t
  unfold z_len
  omega
theorem z_len_pos {w : Nat → Bool} {t : Nat} (ht : t < 64) (h : w t = false) : 1 ≤ z_len w t := z_run_ge (by omega) (fun x hx => by rw [show t + x = t by omega]; exact h)
/-- the beginning of the span in which an idle tick is -/
theorem z_from {w : Nat → Bool} {t : Nat} (h : w t = false) : z_st w (t - z_cur w t) = true ∧ t - z_cur w t ≤ t ∧ (t < 64 → t < t - z_cur w t + z_len w (t - z_cur w t)) := by
  have h1 := z_cur_le w t
  have hid : ∀ x, t - z_cur w t ≤ x → x ≤ t → w x = false := by
    intro x a b
    by_cases e : x = t
    · subst e; exact h
    · exact z_cur_idle w t x a (by omega)
  refine ⟨z_st_iff.mpr ⟨hid _ (Nat.le_refl _) (by omega), ?_⟩, by omega, fun ht => ?_⟩
  · by_cases e : z_cur w t < t
    · exact Or.inr (z_cur_edge w t e)
    · exact Or.inl (by omega)
  · have : z_cur w t + 1 ≤ z_len w (t - z_cur w t) := z_run_ge (by omega) (fun x hx => hid _ (by omega) (by omega))
    omega
/-- a span that has the tick t begins where z_from says -/
theorem z_from_uniq {w : Nat → Bool} {t s : Nat} (hs : z_st w s = true) (h1 : s ≤ t) (h2 : t < s + z_len w s) : s = t - z_cur w t ∧ w t = false := by
  have hid : ∀ x, s ≤ x → x ≤ t → w x = false := fun x a b => by
    have := z_run_idle w (64 - s) s (x - s) (by unfold z_len at h2; omega)
    rwa [show s + (x - s) = x by omega] at this
  have hw := hid t h1 (Nat.le_refl t)
  refine ⟨?_, hw⟩
  have hc := z_cur_le w t
  rcases Nat.lt_trichotomy s (t - z_cur w t) with e | e | e
  · have := z_cur_edge w t (by omega)
    rw [hid _ (by omega) (by omega)] at this
    cases this
  · exact e
  · obtain ⟨_, h3⟩ := z_st_iff.mp hs
    have h4 : w (s - 1) = true := h3.resolve_left (by omega)
    rw [z_cur_idle w t (s - 1) (by omega) (by omega)] at h4
    cases h4
/-! ===== Spans of the class ===== -/
def z_F3 (h g : q_H) : Prop := (∀ k, k ≠ 15 → k ≠ 16 → k ≠ 17 → g.1 k = h.1 k) ∧ g.2 = h.2
theorem z_F3.rf (h : q_H) : z_F3 h h := ⟨fun _ _ _ _ => rfl, rfl⟩
theorem z_F3.tr {h g k : q_H} (a : z_F3 h g) (b : z_F3 g k) : z_F3 h k := ⟨fun n x y z => (b.1 n x y z).trans (a.1 n x y z), b.2.trans a.2⟩
theorem z_F3_sI {h g : q_H} {k i j : Nat} {v : Int32} (hk : k = 15 ∨ k = 16 ∨ k = 17) (a : z_F3 h g) : z_F3 h (q_sI g k i j v) := by
  refine ⟨fun n x y z => ?_, a.2⟩
  rw [← a.1 n x y z]
  funext i1 j1
  exact if_neg (by omega)
theorem z_F3.fc {h g : q_H} (a : z_F3 h g) : z_Fc h g := fun k hk => a.1 k (by omega) (by omega) (by omega)
theorem z_F3.C {m : q_S} {h g : q_H} (a : z_F3 h g) (c : z_C m h) : z_C m g := by
  rw [z_C_iff] at c ⊢
  refine ⟨c.1.ints (fun k hk => a.1 k (by omega) (by omega) (by omega)), ?_, ?_⟩
  · rw [a.2]; exact c.2.1
  · rw [a.2]; exact c.2.2
/-- the spans of the row w are laid out -/
def z_Sp (w : Nat → Bool) (g : q_H) : Prop := g.1 15 0 2 = nI (z_cnt w 64) ∧ ∀ s, s < 64 → z_st w s = true → g.1 16 0 (z_cnt w s) = nI s ∧ g.1 17 0 (z_cnt w s) = nI (z_len w s)
theorem q_sI_r {h : q_H} {k i j : Nat} {v : Int32} : (q_sI h k i j v).1 k i j = v := if_pos ⟨rfl, rfl, rfl⟩
theorem q_sI_o {h : q_H} {k i j k1 i1 j1 : Nat} {v : Int32} (hn : ¬ (k1 = k ∧ i1 = i ∧ j1 = j)) : (q_sI h k i j v).1 k1 i1 j1 = h.1 k1 i1 j1 := if_neg hn
theorem s_layOut {w : Nat → Bool} {x : Int64} {h : q_H} {Q : q_H → Prop} (hx : ∀ t, t < 64 → tb x t = w t) (k : ∀ g, z_F3 h g → z_Sp w g → Q g) : wp_X2_layOut x h Q := by
  unfold wp_X2_layOut
  refine pk_loop (σ := Int32 × q_H) (fun n i s => lp_X2_layOut_10 x (fun _ _ g => Q g) n s.1 (nI i) s.2) (fun t s => s.1 = nI (z_cur w t) ∧ z_F3 h s.2 ∧ s.2.1 15 0 2 = nI (z_cnt w t) ∧ ∀ s0, s0 < t → z_st w s0 = true → s.2.1 16 0 (z_cnt w s0) = nI s0 ∧ s.2.1 17 0 (z_cnt w s0) = nI (min (z_len w s0) (t - s0))) 64 0 (0, _) (by omega) ⟨rfl, z_F3_sI (Or.inl rfl) (z_F3.rf h), q_sI_r, fun s0 h0 => by omega⟩ ?_ ?_
  · rintro n ⟨y, g⟩ ⟨h1, h2, h3, h4⟩
    unfold lp_X2_layOut_10
    refine ⟨fun _ => k g h2 ⟨h3, fun s hs hst => ?_⟩, fun z => absurd (show nI 64 ≤ nI 64 from nI_le (by omega) (by omega)) z⟩
    obtain ⟨a, b⟩ := h4 s hs hst
    refine ⟨a, b.trans ?_⟩
    have := z_len_le w (show s ≤ 64 by omega)
    rw [Nat.min_eq_left (by omega)]
  · rintro n t ⟨y, g⟩ ht ⟨h1, h2, h3, h4⟩ ih
    have h1 : y = nI (z_cur w t) := h1
    have h3 : g.1 15 0 2 = nI (z_cnt w t) := h3
    have h2 : z_F3 h g := h2
    have h4 : ∀ s0, s0 < t → z_st w s0 = true → g.1 16 0 (z_cnt w s0) = nI s0 ∧ g.1 17 0 (z_cnt w s0) = nI (min (z_len w s0) (t - s0)) := h4
    have hcl := z_cnt_le w t
    have hcu := z_cur_le w t
    unfold lp_X2_layOut_10
    refine ⟨fun z => absurd z (show ¬ nI 64 ≤ nI t from nle ht (by omega)), fun _ => ?_⟩
    refine s_hasTick ht ?_
    rw [hx t ht, nI_1 t]
    refine ⟨fun z => ?_, fun z => ?_⟩
    · have hw : w t = false := by
        cases e : w t with
        | false => rfl
        | true => rw [e] at z; exact absurd z (by decide)
      have hcur : z_cur w (t + 1) = z_cur w t + 1 := if_neg (by rw [hw]; decide)
      dsimp only
      rw [h1, h3, nI_1 (z_cur w t), nI_1 (z_cnt w t)]
      refine ⟨fun z1 => ⟨vin (by omega) (by omega), fun z2 => ?_, fun _ => ?_⟩, fun z1 => ⟨fun z2 => ?_, fun _ => ?_⟩⟩
      · exact absurd z2 (show ¬ nI (z_cur w t + 1) ≤ nI 0 from nle (by omega) (by omega))
      · -- a span begins
        have hc0 : z_cur w t = 0 := by
          have := (nI_eq (a := z_cur w t + 1) (b := 1) (by omega) (by omega)).mp z1
          omega
        have hst : z_st w t = true := z_st_cur.mpr ⟨hw, hc0⟩
        rw [nI_pred, cl (by omega)]
        refine ⟨vin (by omega) (by omega), ?_⟩
        refine ih (_, _) ⟨by show nI _ = nI _; rw [hcur], z_F3_sI (by omega) (z_F3_sI (by omega) (z_F3_sI (by omega) h2)), ?_, fun s0 hs0 hst0 => ?_⟩
        · show (q_sI (q_sI (q_sI g 16 0 _ _) 15 0 2 _) 17 0 _ _).1 15 0 2 = _
          rw [q_sI_o (by omega), q_sI_r, z_cnt_st hst]
        · show (q_sI (q_sI (q_sI g 16 0 _ _) 15 0 2 _) 17 0 _ _).1 16 0 _ = _ ∧ (q_sI (q_sI (q_sI g 16 0 _ _) 15 0 2 _) 17 0 _ _).1 17 0 _ = _
          by_cases e : s0 = t
          · subst e
            have hp := z_len_pos ht hw
            rw [q_sI_o (by omega), q_sI_o (by omega), q_sI_r, q_sI_r]
            refine ⟨rfl, ?_⟩
            rw [hc0, show min (z_len w s0) (s0 + 1 - s0) = 1 by omega]
          · have hlt : s0 < t := by omega
            have hne : z_cnt w s0 < z_cnt w t := z_cnt_lt hst0 hlt
            obtain ⟨a, b⟩ := h4 s0 hlt hst0
            rw [q_sI_o (by omega), q_sI_o (by omega), q_sI_o (by omega), q_sI_o (by omega), q_sI_o (by omega), q_sI_o (by omega)]
            refine ⟨a, b.trans ?_⟩
            have hw1 : w (t - 1) = true := by
              have := z_cur_edge w t (by omega)
              rwa [hc0] at this
            have : z_len w s0 ≤ t - 1 - s0 := z_run_lt (by rw [show s0 + (t - 1 - s0) = t - 1 by omega]; exact hw1)
            rw [Nat.min_eq_left (by omega), Nat.min_eq_left (by omega)]
      · exact absurd z2 (show ¬ nI (z_cur w t + 1) ≤ nI 0 from nle (by omega) (by omega))
      · -- a span goes on
        have hc0 : 0 < z_cur w t := by
          rcases Nat.eq_zero_or_pos (z_cur w t) with e | e
          · exact absurd (by rw [e]; rfl) z1
          · exact e
        have hnst : z_st w t = false := by
          cases e : z_st w t with
          | false => rfl
          | true => have := (z_st_cur.mp e).2; omega
        have hs : z_st w (t - z_cur w t) = true := by
          refine z_st_iff.mpr ⟨z_cur_idle w t _ (Nat.le_refl _) (by omega), ?_⟩
          by_cases e : z_cur w t < t
          · exact Or.inr (z_cur_edge w t e)
          · exact Or.inl (by omega)
        have hcs : z_cnt w t = z_cnt w (t - z_cur w t) + 1 := by
          rw [← z_cnt_st hs]
          refine z_cnt_same (by omega) (fun x a b => ?_)
          cases e : z_st w x with
          | false => rfl
          | true =>
            obtain ⟨_, h5⟩ := z_st_iff.mp e
            have h6 : w (x - 1) = true := h5.resolve_left (by omega)
            rw [z_cur_idle w t (x - 1) (by omega) (by omega)] at h6
            cases h6
        have hpr : nI (z_cnt w t) - 1 = nI (z_cnt w (t - z_cur w t)) := by rw [hcs, nI_pred]
        have hcl2 := z_cnt_le w (t - z_cur w t)
        rw [hpr, cl (by omega)]
        refine ⟨vin (by omega) (by omega), ?_⟩
        refine ih (_, _) ⟨by show nI _ = nI _; rw [hcur], z_F3_sI (by omega) h2, ?_, fun s0 hs0 hst0 => ?_⟩
        · show (q_sI g 17 0 _ _).1 15 0 2 = _
          rw [q_sI_o (by omega), h3, z_cnt_no hnst]
        · show (q_sI g 17 0 _ _).1 16 0 _ = _ ∧ (q_sI g 17 0 _ _).1 17 0 _ = _
          have hne : s0 ≠ t := fun q => by rw [q, hnst] at hst0; cases hst0
          obtain ⟨a, b⟩ := h4 s0 (by omega) hst0
          rw [q_sI_o (by omega)]
          refine ⟨a, ?_⟩
          by_cases e : s0 = t - z_cur w t
          · subst e
            rw [q_sI_r]
            have : z_cur w t + 1 ≤ z_len w (t - z_cur w t) := z_run_ge (by omega) (fun x hx => by
              by_cases e : t - z_cur w t + x = t
              · rw [e]; exact hw
              · exact z_cur_idle w t _ (by omega) (by omega))
            rw [Nat.min_eq_right (by omega), show t + 1 - (t - z_cur w t) = z_cur w t + 1 by omega]
          · have hlt : s0 < t - z_cur w t := by
              rcases Nat.lt_trichotomy s0 (t - z_cur w t) with e1 | e1 | e1
              · exact e1
              · exact absurd e1 e
              · obtain ⟨_, h5⟩ := z_st_iff.mp hst0
                have h6 : w (s0 - 1) = true := h5.resolve_left (by omega)
                rw [z_cur_idle w t (s0 - 1) (by omega) (by omega)] at h6
                cases h6
            have hne2 : z_cnt w s0 < z_cnt w (t - z_cur w t) := z_cnt_lt hst0 hlt
            rw [q_sI_o (by omega)]
            refine b.trans ?_
            have hw1 : w (t - z_cur w t - 1) = true := z_cur_edge w t (by omega)
            have : z_len w s0 ≤ t - z_cur w t - 1 - s0 := z_run_lt (by rw [show s0 + (t - z_cur w t - 1 - s0) = t - z_cur w t - 1 by omega]; exact hw1)
            rw [Nat.min_eq_left (by omega), Nat.min_eq_left (by omega)]
    · have hw : w t = true := by
        cases e : w t with
        | true => rfl
        | false => rw [e] at z; exact absurd rfl z
      have hcur : z_cur w (t + 1) = 0 := if_pos hw
      have hnst : z_st w t = false := by
        cases e : z_st w t with
        | false => rfl
        | true => have := (z_st_iff.mp e).1; rw [hw] at this; cases this
      refine ih (_, _) ⟨by show (0 : Int32) = nI _; rw [hcur]; rfl, h2, ?_, fun s0 hs0 hst0 => ?_⟩
      · show g.1 15 0 2 = _
        rw [h3, z_cnt_no hnst]
      · have hne : s0 ≠ t := fun q => by rw [q, hnst] at hst0; cases hst0
        obtain ⟨a, b⟩ := h4 s0 (by omega) hst0
        refine ⟨a, b.trans ?_⟩
        have : z_len w s0 ≤ t - s0 := z_run_lt (by rw [show s0 + (t - s0) = t by omega]; exact hw)
        rw [Nat.min_eq_left (by omega), Nat.min_eq_left (by omega)]
end
section
/-! ===== what a part drains in a span: plan and rule, as numbers ===== -/
def bI (b : Bool) : Int32 := if b = true then 1 else 0
theorem bI_0 {b : Bool} : bI b = 0 ↔ b = false := by cases b <;> decide
def z_cost (m : q_S) (p s len : Nat) (last : Bool) : Nat := if last = true then len * z_dr m p s else (len - z_ri m p s) * z_dr m p s + z_ri m p s * z_dr m p 0 + z_co m p s
def z_can (m : q_S) (p s len : Nat) (last : Bool) : Prop := last = true ∨ z_ri m p s ≤ len
def z_bst (m : q_S) (p len : Nat) (last : Bool) : Nat → Nat
  | 0 => 0
  | s + 1 => if (last = true ∨ z_ri m p s ≤ len) ∧ z_cost m p s len last < z_cost m p (z_bst m p len last s) len last then s else z_bst m p len last s
def z_best (m : q_S) (p len : Nat) (last : Bool) : Nat := z_bst m p len last 4
theorem z_cost_le {m : q_S} (hok : z_ok m) {p s len : Nat} {last : Bool} (hl : len ≤ 64) : z_cost m p s len last ≤ 8226 := by
  obtain ⟨_, hd, hc, hr, _⟩ := hok
  have h1 := hd p s; have h2 := hd p 0; have h3 := hc p s; have h4 := hr p s
  unfold z_cost
  split
  · have : len * z_dr m p s ≤ 64 * 99 := Nat.mul_le_mul hl h1
    omega
  · have a : (len - z_ri m p s) * z_dr m p s ≤ 64 * 99 := Nat.mul_le_mul (by omega) h1
    have b : z_ri m p s * z_dr m p 0 ≤ 9 * 99 := Nat.mul_le_mul h4 h2
    omega
theorem z_bst_can {m : q_S} (hok : z_ok m) (p len : Nat) (last : Bool) : ∀ s, z_can m p (z_bst m p len last s) len last
  | 0 => Or.inr (by show z_ri m p 0 ≤ len; rw [(hok.2.2.2.2.1 p).2.1]; exact Nat.zero_le _)
  | s + 1 => by
    show z_can m p (if _ then _ else _) len last
    split
    · next h => exact h.1
    · exact z_bst_can hok p len last s
theorem z_bst_lt (m : q_S) (p len : Nat) (last : Bool) : ∀ s, z_bst m p len last s < s + 1
  | 0 => Nat.lt_succ_self 0
  | s + 1 => by
    show (if _ then _ else _) < s + 2
    have := z_bst_lt m p len last s
    split <;> omega
theorem z_best_lt (m : q_S) (p len : Nat) (last : Bool) : z_best m p len last < 4 := by
  have h3 := z_bst_lt m p len last 3
  unfold z_best
  show (if _ then _ else _) < 4
  split <;> omega
/-- a part's numbers -/
def z_P (m : q_S) (p : Nat) (h : q_H) : Prop := ∀ s, s < 4 → h.1 3 p s = nI (z_dr m p s) ∧ h.1 4 p s = nI (z_co m p s) ∧ h.1 5 p s = nI (z_ri m p s)
def z_T (p a b c : Nat) (h : q_H) : Prop := h.1 6 p 0 = nI 0 ∧ h.1 6 p 1 = nI a ∧ h.1 6 p 2 = nI b ∧ h.1 6 p 3 = nI c ∧ h.1 6 p 4 = nI 64
theorem z_C1.P {m : q_S} {h : q_H} (c : z_C1 m h) {p : Nat} (hp : p < 6) : z_P m p h := fun s hs => ⟨c.2.1 p hp s hs, c.2.2.1 p hp s hs, c.2.2.2.1 p hp s hs⟩
theorem z_C1.T {m : q_S} {h : q_H} (c : z_C1 m h) {p : Nat} (hp : p < 6) : z_T p (z_ru m p 0) (z_ru m p 1) (z_ru m p 2) h := c.2.2.2.2.1 p hp
theorem s_restIn {m : q_S} {p s len : Nat} {last : Bool} {h : q_H} {Q : Int32 → q_H → Prop} (hP : z_P m p h) (hs : s < 4) (hcan : z_can m p s len last) (k : Q (nI (if last = true then len else len - z_ri m p s)) h) : wp_X1_restIn p (nI s) (nI len) (bI last) h Q := by
  unfold wp_X1_restIn
  rw [cl (by omega), (hP s hs).2.2]
  cases last with
  | true => exact ⟨fun z => absurd z (by decide), fun _ => k⟩
  | false =>
    refine ⟨fun _ => ⟨vin hs (by omega), ?_⟩, fun z => absurd rfl z⟩
    have : z_ri m p s ≤ len := hcan.resolve_left (by decide)
    rw [pk_sub this]
    exact k
theorem s_sumIn {m : q_S} {p s len : Nat} {last : Bool} {h : q_H} {Q : Int32 → q_H → Prop} (hok : z_ok m) (hP : z_P m p h) (hs : s < 4) (hcan : z_can m p s len last) (k : Q (nI (z_cost m p s len last)) h) : wp_X1_sumIn p (nI s) (nI len) (bI last) h Q := by
  unfold wp_X1_sumIn
  refine s_restIn hP hs hcan ?_
  refine ⟨vin hs (by omega), ?_⟩
  rw [cl (by omega), (hP s hs).1, (hP s hs).2.1, (hP 0 (by omega)).1]
  cases last with
  | true =>
    refine ⟨fun z => absurd z (by decide), fun _ => ?_⟩
    have e : nI len * nI (z_dr m p s) + (nI len - nI len) * nI (z_dr m p 0) + 0 = nI (z_cost m p s len true) := by
      rw [pk_sub (Nat.le_refl len), pk_mul, pk_mul, nI_add, show (0 : Int32) = nI 0 from rfl, nI_add]
      congr 1
      simp [z_cost]
    rw [← e] at k
    exact k
  | false =>
    refine ⟨fun _ => ⟨vin hs (by omega), ?_⟩, fun z => absurd rfl z⟩
    have hle : z_ri m p s ≤ len := hcan.resolve_left (by decide)
    have e : nI (len - z_ri m p s) * nI (z_dr m p s) + (nI len - nI (len - z_ri m p s)) * nI (z_dr m p 0) + nI (z_co m p s) = nI (z_cost m p s len false) := by
      rw [pk_sub (show len - z_ri m p s ≤ len by omega), pk_mul, pk_mul, nI_add, nI_add]
      congr 1
      simp [z_cost, show len - (len - z_ri m p s) = z_ri m p s by omega]
    rw [← e] at k
    exact k
theorem s_best {m : q_S} {p len : Nat} {last : Bool} {h : q_H} {Q : Int32 → q_H → Prop} (hok : z_ok m) (hP : z_P m p h) (hl : len ≤ 64) (k : Q (nI (z_best m p len last)) h) : wp_X1_bestState p (nI len) (bI last) h Q := by
  unfold wp_X1_bestState
  refine pk_loop (σ := Int32 × q_H) (fun n i s => lp_X1_bestState_5 p (nI len) (bI last) (fun x _ g => Q x g) n s.1 (nI i) s.2) (fun i s => s.2 = h ∧ s.1 = nI (z_bst m p len last i)) 4 1 (0, h) (by omega) ⟨rfl, ?_⟩ ?_ ?_
  · show (0 : Int32) = nI (if _ then _ else _)
    rw [if_neg (fun z => Nat.lt_irrefl _ z.2)]
    rfl
  · rintro n ⟨x, g⟩ ⟨e, hx⟩
    have e : g = h := e
    subst e
    have hx : x = nI (z_best m p len last) := hx
    unfold lp_X1_bestState_5
    refine ⟨fun _ => by rw [hx]; exact k, fun z => absurd (show nI 4 ≤ nI 4 from nI_le (by omega) (by omega)) z⟩
  · rintro n i ⟨x, g⟩ hi ⟨e, hx⟩ ih
    have e : g = h := e
    subst e
    have hx : x = nI (z_bst m p len last i) := hx
    subst hx
    have hbc := z_bst_can hok p len last i
    have hbl := z_bst_lt m p len last i
    have hri := hok.2.2.2.1 p i
    have stay : ¬ ((last = true ∨ z_ri m p i ≤ len) ∧ z_cost m p i len last < z_cost m p (z_bst m p len last i) len last) → z_bst m p len last (i + 1) = z_bst m p len last i := fun q => if_neg q
    unfold lp_X1_bestState_5
    refine ⟨fun z => absurd z (show ¬ nI 4 ≤ nI i from nle hi (by omega)), fun _ => ?_⟩
    rw [nI_1 i]
    by_cases hcan : z_can m p i len last
    · refine s_restIn hP hi hcan ?_
      have hb0 : (if last = true then len else len - z_ri m p i) < 2 ^ 31 := by split <;> omega
      refine ⟨fun z => absurd z (nI_pos hb0), fun _ => ?_⟩
      refine s_sumIn hok hP hi hcan ?_
      by_cases hb4 : z_bst m p len last i < 4
      · refine s_sumIn hok hP hb4 hbc ?_
        have c1 := z_cost_le hok (p := p) (s := i) (last := last) hl
        have c2 := z_cost_le hok (p := p) (s := z_bst m p len last i) (last := last) hl
        refine ⟨fun z => ?_, fun z => ?_⟩
        · have := (nI_leI (by omega) (by omega)).mp z
          exact ih (_, _) ⟨rfl, by show nI _ = nI _; rw [stay (fun q => by omega)]⟩
        · have : ¬ z_cost m p (z_bst m p len last i) len last ≤ z_cost m p i len last := fun q => z ((nI_leI (by omega) (by omega)).mpr q)
          refine ih (_, _) ⟨rfl, ?_⟩
          show nI i = nI (if _ then _ else _)
          rw [if_pos ⟨hcan, by omega⟩]
      · omega
    · have hlf : last = false := by
        cases e : last with
        | false => rfl
        | true => exact absurd (Or.inl e) hcan
      subst hlf
      have hgt : len < z_ri m p i := Nat.lt_of_not_le (fun q => hcan (Or.inr q))
      unfold wp_X1_restIn
      rw [cl (by omega), (hP i hi).2.2]
      refine ⟨fun _ => ⟨vin hi (by omega), ?_⟩, fun z => absurd rfl z⟩
      refine ⟨fun _ => ih (_, _) ⟨rfl, by show nI _ = nI _; rw [stay (fun q => hcan q.1)]⟩, fun z => absurd (pk_sneg (by omega) hgt) z⟩
/-! ===== sums over spans ===== -/
def z_ss (w : Nat → Bool) (G : Nat → Nat) (t : Nat) : Nat := if z_st w t = true then G t else 0
theorem z_ss_same {w : Nat → Bool} {G : Nat → Nat} {a : Nat} : ∀ {b : Nat}, a ≤ b → z_cnt w a = z_cnt w b → z_sum (z_ss w G) b = z_sum (z_ss w G) a := by
  intro b h
  induction h with
  | refl => intro _; rfl
  | @step b hab ih =>
    intro hc
    have h1 := z_cnt_up w (a := a) (b := b) hab
    have hn : z_st w b = false := by
      cases e : z_st w b with
      | false => rfl
      | true => rw [z_cnt_st e] at hc; omega
    rw [z_cnt_no hn] at hc
    show z_sum (z_ss w G) b + z_ss w G b = _
    rw [ih hc]
    show _ + (if z_st w b = true then G b else 0) = _
    rw [hn]; rfl
theorem z_ss_eq {w : Nat → Bool} {G : Nat → Nat} {a b : Nat} (h : z_cnt w a = z_cnt w b) : z_sum (z_ss w G) a = z_sum (z_ss w G) b := by
  rcases Nat.le_total a b with e | e
  · exact (z_ss_same e h).symm
  · exact z_ss_same e h.symm
theorem z_ss_st {w : Nat → Bool} {G : Nat → Nat} {s : Nat} (h : z_st w s = true) : z_sum (z_ss w G) (s + 1) = z_sum (z_ss w G) s + G s := by
  show _ + (if z_st w s = true then G s else 0) = _
  rw [if_pos h]
theorem z_ss_le {w : Nat → Bool} {G : Nat → Nat} {B : Nat} (h : ∀ s, s < 64 → G s ≤ B) : ∀ n, n ≤ 64 → z_sum (z_ss w G) n ≤ n * B
  | 0, _ => by simp [z_sum]
  | n + 1, hn => by
    have h1 := z_ss_le (w := w) h n (by omega)
    have h2 := h n (by omega)
    show z_sum (z_ss w G) n + (if z_st w n = true then G n else 0) ≤ (n + 1) * B
    rw [Nat.succ_mul]
    split <;> omega
def z_lst (w : Nat → Bool) (s : Nat) : Bool := decide (s + z_len w s = 64)
theorem s_size {h : q_H} {Q : Int32 → q_H → Prop} (k : Q (h.1 15 0 2) h) : wp_X2_size h Q := k
theorem s_lenOf {w : Nat → Bool} {s : Nat} {h : q_H} {Q : Int32 → q_H → Prop} (hS : z_Sp w h) (hs : s < 64) (hst : z_st w s = true) (k : Q (nI (z_len w s)) h) : wp_X2_lenOf (nI (z_cnt w s)) h Q := by
  have := z_cnt_le w s
  unfold wp_X2_lenOf
  rw [cl (by omega), (hS.2 s hs hst).2]
  exact ⟨vin (by omega) (by omega), k⟩
theorem s_firstOf {w : Nat → Bool} {s : Nat} {h : q_H} {Q : Int32 → q_H → Prop} (hS : z_Sp w h) (hs : s < 64) (hst : z_st w s = true) (k : Q (nI s) h) : wp_X2_firstOf (nI (z_cnt w s)) h Q := by
  have := z_cnt_le w s
  unfold wp_X2_firstOf
  rw [cl (by omega), (hS.2 s hs hst).1]
  exact ⟨vin (by omega) (by omega), k⟩
theorem s_endsAll {w : Nat → Bool} {s : Nat} {h : q_H} {Q : Int32 → q_H → Prop} (hS : z_Sp w h) (hs : s < 64) (hst : z_st w s = true) (k : Q (bI (z_lst w s)) h) : wp_X2_endsAll (nI (z_cnt w s)) h Q := by
  have := z_cnt_le w s
  have hl := z_len_le w (show s ≤ 64 by omega)
  unfold wp_X2_endsAll
  rw [cl (by omega), (hS.2 s hs hst).1, (hS.2 s hs hst).2, nI_add]
  refine ⟨vin (by omega) (by omega), vin (by omega) (by omega), fun z => ?_, fun z => ?_⟩
  · have e := (nI_eq (a := s + z_len w s) (b := 64) (by omega) (by omega)).mp z
    rw [show z_lst w s = true from decide_eq_true e] at k
    exact k
  · have e : ¬ s + z_len w s = 64 := fun q => z (by rw [q]; rfl)
    rw [show z_lst w s = false from decide_eq_false e] at k
    exact k
def z_G (m : q_S) (p : Nat) (w : Nat → Bool) (s : Nat) : Nat := z_cost m p (z_best m p (z_len w s) (z_lst w s)) (z_len w s) (z_lst w s)
theorem z_G_le {m : q_S} (hok : z_ok m) (p : Nat) (w : Nat → Bool) : ∀ s, s < 64 → z_G m p w s ≤ 8226 := fun s hs => z_cost_le hok (by have := z_len_le w (show s ≤ 64 by omega); omega)
theorem s_planned {m : q_S} {p : Nat} {w : Nat → Bool} {h : q_H} {Q : Int32 → q_H → Prop} (hok : z_ok m) (hP : z_P m p h) (hS : z_Sp w h) (k : Q (nI (z_sum (z_ss w (z_G m p w)) 64)) h) : wp_X1_planned p h Q := by
  have hc64 := z_cnt_le w 64
  unfold wp_X1_planned
  refine pk_loop (σ := Int32 × q_H) (fun n i s => lp_X1_planned_4 p (fun x _ g => Q x g) n s.1 (nI i) s.2) (fun i s => s.2 = h ∧ ∀ n, n ≤ 64 → z_cnt w n = i → s.1 = nI (z_sum (z_ss w (z_G m p w)) n)) (z_cnt w 64) 0 (0, h) (by omega) ⟨rfl, fun n _ hn => ?_⟩ ?_ ?_
  · show (0 : Int32) = _
    rw [z_ss_eq (a := n) (b := 0) hn]; rfl
  · rintro n ⟨x, g⟩ ⟨e, hx⟩
    have e : g = h := e
    subst e
    have hx : x = _ := hx 64 (Nat.le_refl _) rfl
    unfold lp_X1_planned_4
    refine s_size ?_
    rw [hS.1]
    refine ⟨fun _ => by rw [hx]; exact k, fun z => absurd (nI_le (Nat.le_refl _) (by omega)) z⟩
  · rintro n i ⟨x, g⟩ hi ⟨e, hx⟩ ih
    have e : g = h := e
    subst e
    obtain ⟨s, hs, hst, hcs⟩ := z_cnt_hit hi
    subst hcs
    have hx : x = nI (z_sum (z_ss w (z_G m p w)) s) := hx s (by omega) rfl
    subst hx
    have hl := z_len_le w (show s ≤ 64 by omega)
    unfold lp_X1_planned_4
    refine s_size ?_
    rw [hS.1]
    refine ⟨fun z => absurd z (nle hi (by omega)), fun _ => ?_⟩
    refine s_lenOf hS hs hst ?_
    refine s_endsAll hS hs hst ?_
    refine s_best hok hP (by omega) ?_
    refine s_sumIn hok hP (z_best_lt _ _ _ _) (z_bst_can hok _ _ _ _) ?_
    rw [nI_1, nI_add]
    refine ih (_, _) ⟨rfl, fun n2 hn2 hc2 => ?_⟩
    show nI _ = nI _
    rw [z_ss_eq (a := n2) (b := s + 1) (by rw [hc2, z_cnt_st hst]), z_ss_st hst]
    rfl
end
section
/-! ===== a rule by waiting, as numbers: thresholds a ≤ b ≤ c ===== -/
def z_rs (a b c i : Nat) : Nat := if i < a then 0 else if i < b then 1 else if i < c then 2 else 3
def z_ah (a b c r : Nat) : Nat := if r = 0 then 0 else z_rs a b c (r - 1)
def z_rest (m : q_S) (p a b c len : Nat) (last : Bool) : Nat :=
  if last = true then len
  else if c + z_ri m p 3 < len ∧ c < 64 then len - z_ri m p 3
  else if b + z_ri m p 2 < len ∧ b < c then min (len - z_ri m p 2) c
  else if a + z_ri m p 1 < len ∧ a < b then min (len - z_ri m p 1) b
  else min len a
theorem z_rest_le (m : q_S) (p a b c len : Nat) (last : Bool) : z_rest m p a b c len last ≤ len := by
  unfold z_rest
  repeat' split
  all_goals omega
theorem z_rs_lt (a b c i : Nat) : z_rs a b c i < 4 := by
  unfold z_rs
  repeat' split
  all_goals omega
theorem z_ah_lt (a b c r : Nat) : z_ah a b c r < 4 := by
  unfold z_ah
  split
  · omega
  · exact z_rs_lt _ _ _ _
/-- the rest is the latest place at which it can rise -/
theorem z_rest_ok {m : q_S} (hok : z_ok m) {p a b c len : Nat} (hab : a ≤ b) (hbc : b ≤ c) (hc : c ≤ 64) (hl : len ≤ 64) : z_rest m p a b c len false + z_ri m p (z_ah a b c (z_rest m p a b c len false)) ≤ len ∧ ∀ r, z_rest m p a b c len false < r → r ≤ len → len < r + z_ri m p (z_ah a b c r) := by
  obtain ⟨_, r0, r12, r23, _⟩ := hok.2.2.2.2.1 p
  have hah : ∀ r, (r = 0 ∧ z_ah a b c r = 0) ∨ (0 < r ∧ r - 1 < a ∧ z_ah a b c r = 0) ∨ (0 < r ∧ a ≤ r - 1 ∧ r - 1 < b ∧ z_ah a b c r = 1) ∨ (0 < r ∧ b ≤ r - 1 ∧ r - 1 < c ∧ z_ah a b c r = 2) ∨ (0 < r ∧ c ≤ r - 1 ∧ z_ah a b c r = 3) := by
    intro r
    unfold z_ah z_rs
    by_cases e : r = 0
    · left; exact ⟨e, if_pos e⟩
    · rw [if_neg e]
      repeat' split
      all_goals omega
  have val : ∀ r, (z_ah a b c r = 0 → z_ri m p (z_ah a b c r) = 0) ∧ (z_ah a b c r = 1 → z_ri m p (z_ah a b c r) = z_ri m p 1) ∧ (z_ah a b c r = 2 → z_ri m p (z_ah a b c r) = z_ri m p 2) ∧ (z_ah a b c r = 3 → z_ri m p (z_ah a b c r) = z_ri m p 3) := by
    intro r
    refine ⟨fun e => by rw [e]; exact r0, fun e => by rw [e], fun e => by rw [e], fun e => by rw [e]⟩
  have key : ∀ R, R = z_rest m p a b c len false → R + z_ri m p (z_ah a b c R) ≤ len ∧ ∀ r, R < r → r ≤ len → len < r + z_ri m p (z_ah a b c r) := by
    intro R hR
    have hR2 : R = if c + z_ri m p 3 < len ∧ c < 64 then len - z_ri m p 3 else if b + z_ri m p 2 < len ∧ b < c then min (len - z_ri m p 2) c else if a + z_ri m p 1 < len ∧ a < b then min (len - z_ri m p 1) b else min len a := by
      rw [hR]; unfold z_rest; rw [if_neg (by decide)]
    clear hR
    constructor
    · have h1 := hah R
      obtain ⟨v0, v1, v2, v3⟩ := val R
      generalize z_ri m p (z_ah a b c R) = V at *
      generalize z_ah a b c R = S at *
      repeat' split at hR2
      all_goals omega
    · intro r hr1 hr2
      have h1 := hah r
      obtain ⟨v0, v1, v2, v3⟩ := val r
      generalize z_ri m p (z_ah a b c r) = V at *
      generalize z_ah a b c r = S at *
      repeat' split at hR2
      all_goals omega
  exact key _ rfl
/-- what it drains in a span by the rule -/
def z_rsum (m : q_S) (p a b c r : Nat) : Nat → Nat := z_sum (fun i => z_dr m p (if i < r then z_rs a b c i else 0))
def z_rspan (m : q_S) (p a b c len : Nat) (last : Bool) : Nat := z_rsum m p a b c (z_rest m p a b c len last) len + (if last = true then 0 else z_co m p (z_ah a b c (z_rest m p a b c len last)))
def z_bgn (a b c s : Nat) : Nat := if s = 0 then 0 else if s = 1 then a else if s = 2 then b else if s = 3 then c else 64
def z_cls (m : q_S) (p a b c r : Nat) : Nat → Nat := z_sum (fun s => z_dr m p s * (min (z_bgn a b c (s + 1)) r - min (z_bgn a b c s) r))
theorem z_cls_step {m : q_S} {p a b c r : Nat} (hab : a ≤ b) (hbc : b ≤ c) (hc : c ≤ 64) (hr : r < 64) : z_cls m p a b c (r + 1) 4 = z_cls m p a b c r 4 + z_dr m p (z_rs a b c r) := by
  have e : ∀ r, z_cls m p a b c r 4 = z_dr m p 0 * (min a r - 0) + z_dr m p 1 * (min b r - min a r) + z_dr m p 2 * (min c r - min b r) + z_dr m p 3 * (min 64 r - min c r) := by
    intro r
    show 0 + z_dr m p 0 * (min a r - min 0 r) + z_dr m p 1 * (min b r - min a r) + z_dr m p 2 * (min c r - min b r) + z_dr m p 3 * (min 64 r - min c r) = _
    rw [Nat.zero_add, Nat.zero_min]
  rw [e, e]
  unfold z_rs
  by_cases h1 : r < a
  · rw [if_pos h1, show min a (r + 1) = r + 1 by omega, show min b (r + 1) = r + 1 by omega, show min c (r + 1) = r + 1 by omega, show min 64 (r + 1) = r + 1 by omega, show min a r = r by omega, show min b r = r by omega, show min c r = r by omega, show min 64 r = r by omega]
    simp only [Nat.sub_self, Nat.mul_zero, Nat.sub_zero, Nat.add_zero, Nat.mul_succ]
  · rw [if_neg h1]
    by_cases h2 : r < b
    · rw [if_pos h2, show min a (r + 1) = a by omega, show min b (r + 1) = r + 1 by omega, show min c (r + 1) = r + 1 by omega, show min 64 (r + 1) = r + 1 by omega, show min a r = a by omega, show min b r = r by omega, show min c r = r by omega, show min 64 r = r by omega, show r + 1 - a = (r - a) + 1 by omega]
      simp only [Nat.sub_self, Nat.mul_zero, Nat.sub_zero, Nat.add_zero, Nat.mul_succ]
      omega
    · rw [if_neg h2]
      by_cases h3 : r < c
      · rw [if_pos h3, show min a (r + 1) = a by omega, show min b (r + 1) = b by omega, show min c (r + 1) = r + 1 by omega, show min 64 (r + 1) = r + 1 by omega, show min a r = a by omega, show min b r = b by omega, show min c r = r by omega, show min 64 r = r by omega, show r + 1 - b = (r - b) + 1 by omega]
        simp only [Nat.sub_self, Nat.mul_zero, Nat.sub_zero, Nat.add_zero, Nat.mul_succ]
        omega
      · rw [if_neg h3, show min a (r + 1) = a by omega, show min b (r + 1) = b by omega, show min c (r + 1) = c by omega, show min 64 (r + 1) = r + 1 by omega, show min a r = a by omega, show min b r = b by omega, show min c r = c by omega, show min 64 r = r by omega, show r + 1 - c = (r - c) + 1 by omega]
        simp only [Nat.sub_zero, Nat.mul_succ]
        omega
theorem z_cls_eq {m : q_S} {p a b c : Nat} (hab : a ≤ b) (hbc : b ≤ c) (hc : c ≤ 64) : ∀ r, r ≤ 64 → z_cls m p a b c r 4 = z_sum (fun i => z_dr m p (z_rs a b c i)) r
  | 0, _ => by
    show 0 + z_dr m p 0 * (min a 0 - min 0 0) + z_dr m p 1 * (min b 0 - min a 0) + z_dr m p 2 * (min c 0 - min b 0) + z_dr m p 3 * (min 64 0 - min c 0) = 0
    simp only [Nat.min_zero, Nat.sub_self, Nat.mul_zero, Nat.add_zero]
  | r + 1, h => by
    rw [z_cls_step hab hbc hc (by omega), z_cls_eq hab hbc hc r (by omega)]
    rfl
theorem z_sum_congr {f g : Nat → Nat} : ∀ n, (∀ i, i < n → f i = g i) → z_sum f n = z_sum g n
  | 0, _ => rfl
  | n + 1, h => by
    show z_sum f n + f n = z_sum g n + g n
    rw [z_sum_congr n (fun i hi => h i (by omega)), h n (by omega)]
theorem z_rsum_split (m : q_S) (p a b c r : Nat) : ∀ len, r ≤ len → z_rsum m p a b c r len = (len - r) * z_dr m p 0 + z_sum (fun i => z_dr m p (z_rs a b c i)) r := by
  intro len h
  induction h with
  | refl =>
    rw [Nat.sub_self, Nat.zero_mul, Nat.zero_add]
    exact z_sum_congr r (fun i hi => by show z_dr m p (if i < r then _ else _) = _; rw [if_pos hi])
  | @step len hle ih =>
    have hle : r ≤ len := hle
    show z_rsum m p a b c r len + z_dr m p (if len < r then z_rs a b c len else 0) = _
    rw [ih, if_neg (by omega), show len + 1 - r = (len - r) + 1 by omega, Nat.succ_mul]
    omega
theorem z_rspan_le {m : q_S} (hok : z_ok m) {p a b c len : Nat} {last : Bool} (hl : len ≤ 64) : z_rspan m p a b c len last ≤ 8226 := by
  obtain ⟨_, hd, hc, _⟩ := hok
  have h1 := z_sum_le (f := fun i => z_dr m p (if i < z_rest m p a b c len last then z_rs a b c i else 0)) (b := 99) (fun i => hd _ _) len
  have h2 := hc p (z_ah a b c (z_rest m p a b c len last))
  unfold z_rspan z_rsum
  split <;> omega
/-! ===== the class's rule ===== -/
theorem s_stateAt {p a b c r : Nat} {h : q_H} {Q : Int32 → q_H → Prop} (hT : z_T p a b c h) (hab : a ≤ b) (hbc : b ≤ c) (hc : c ≤ 64) (hr : r ≤ 64) (k : Q (nI (z_ah a b c r)) h) : wp_X1_stateByRule p (nI r - 1) h Q := by
  obtain ⟨t0, t1, t2, t3, t4⟩ := hT
  have cmp : ∀ x, x ≤ 64 → ((nI r - 1 < nI x) ↔ r ≤ x) := by
    intro x hx
    have e : (nI r - 1).toInt = (r : Int) - 1 := pk_sub_toInt (a := r) (b := 1) (by omega) (by omega)
    rw [Int32.lt_iff_toInt_lt, e, nI_toInt (by omega)]
    omega
  unfold wp_X1_stateByRule
  refine ⟨4, ?_⟩
  have hz : (if r ≤ a then 0 else if r ≤ b then 1 else if r ≤ c then 2 else 3) = z_ah a b c r := by
    unfold z_ah z_rs
    repeat' split
    all_goals omega
  rw [← hz] at k
  unfold lp_X1_stateByRule_2
  refine ⟨fun z => absurd z (by decide), fun _ => ⟨q_vp (by decide), ?_⟩⟩
  rw [show Int32.toNatClampNeg 3 = 3 by decide, t3]
  refine ⟨fun z3 => ?_, fun z3 => ?_⟩
  · have h3 := (cmp c hc).mp z3
    rw [show (3 : Int32) + (-1) = 2 by decide]
    unfold lp_X1_stateByRule_2
    refine ⟨fun z => absurd z (by decide), fun _ => ⟨q_vp (by decide), ?_⟩⟩
    rw [show Int32.toNatClampNeg 2 = 2 by decide, t2]
    refine ⟨fun z2 => ?_, fun z2 => ?_⟩
    · have h2 := (cmp b (by omega)).mp z2
      rw [show (2 : Int32) + (-1) = 1 by decide]
      unfold lp_X1_stateByRule_2
      refine ⟨fun z => absurd z (by decide), fun _ => ⟨q_vp (by decide), ?_⟩⟩
      rw [show Int32.toNatClampNeg 1 = 1 by decide, t1]
      refine ⟨fun z1 => ?_, fun z1 => ?_⟩
      · have h1 := (cmp a (by omega)).mp z1
        rw [show (1 : Int32) + (-1) = 0 by decide]
        unfold lp_X1_stateByRule_2
        refine ⟨fun _ => ?_, fun z => absurd (by decide) z⟩
        rw [if_pos h1] at k
        exact k
      · have h1 : ¬ r ≤ a := fun q => z1 ((cmp a (by omega)).mpr q)
        rw [if_neg h1, if_pos h2] at k
        exact k
    · have h2 : ¬ r ≤ b := fun q => z2 ((cmp b (by omega)).mpr q)
      rw [if_neg (by omega), if_neg h2, if_pos h3] at k
      exact k
  · have h3 : ¬ r ≤ c := fun q => z3 ((cmp c hc).mpr q)
    rw [if_neg (by omega), if_neg (by omega), if_neg h3] at k
    exact k
theorem s_restBy {m : q_S} {p a b c len : Nat} {last : Bool} {h : q_H} {Q : Int32 → q_H → Prop} (hok : z_ok m) (hP : z_P m p h) (hT : z_T p a b c h) (hab : a ≤ b) (hbc : b ≤ c) (hc : c ≤ 64) (hl : len ≤ 64) (k : Q (nI (z_rest m p a b c len last)) h) : wp_X1_restByRule p (nI len) (bI last) h Q := by
  obtain ⟨t0, t1, t2, t3, t4⟩ := hT
  have hr := hok.2.2.2.1 p
  have hr1 := hr 1; have hr2 := hr 2; have hr3 := hr 3
  have le : ∀ x y, x ≤ 64 → y ≤ 9 → ((nI len - nI y ≤ nI x) ↔ ¬ x + y < len) := by
    intro x y hx hy
    have e : (nI len - nI y).toInt = (len : Int) - y := pk_sub_toInt (a := len) (b := y) (by omega) (by omega)
    rw [Int32.le_iff_toInt_le, e, nI_toInt (by omega)]
    omega
  have ge : ∀ x y, x ≤ 64 → y ≤ 9 → ((nI x ≤ nI len - nI y) ↔ x + y ≤ len) := by
    intro x y hx hy
    have e : (nI len - nI y).toInt = (len : Int) - y := pk_sub_toInt (a := len) (b := y) (by omega) (by omega)
    rw [Int32.le_iff_toInt_le, e, nI_toInt (by omega)]
    omega
  unfold wp_X1_restByRule
  cases last with
  | true => exact ⟨fun z => absurd z (by decide), fun _ => k⟩
  | false =>
    refine ⟨fun _ => ⟨4, ?_⟩, fun z => absurd rfl z⟩
    unfold z_rest at k
    rw [if_neg (by decide)] at k
    unfold lp_X1_restByRule_8
    refine ⟨fun z => absurd z (by decide), fun _ => ⟨q_vp (by decide), q_vp (by decide), ?_⟩⟩
    rw [show Int32.toNatClampNeg 3 = 3 by decide, show (3 : Int32) + 1 = 4 by decide, show Int32.toNatClampNeg 4 = 4 by decide, t3, t4, (hP 3 (by omega)).2.2]
    have next2 : ¬ (c + z_ri m p 3 < len ∧ c < 64) → lp_X1_restByRule_8 p (nI len) Q (fun _ g7 => (g7.1 6 p 1 ≤ nI len → Q (g7.1 6 p 1) g7) ∧ (¬ g7.1 6 p 1 ≤ nI len → Q (nI len) g7)) 3 (3 + -1) h := by
      intro n1
      rw [if_neg n1] at k
      rw [show (3 : Int32) + (-1) = 2 by decide]
      unfold lp_X1_restByRule_8
      refine ⟨fun z => absurd z (by decide), fun _ => ⟨q_vp (by decide), q_vp (by decide), ?_⟩⟩
      rw [show Int32.toNatClampNeg 2 = 2 by decide, show (2 : Int32) + 1 = 3 by decide, show Int32.toNatClampNeg 3 = 3 by decide, t2, t3, (hP 2 (by omega)).2.2]
      have next1 : ¬ (b + z_ri m p 2 < len ∧ b < c) → lp_X1_restByRule_8 p (nI len) Q (fun _ g7 => (g7.1 6 p 1 ≤ nI len → Q (g7.1 6 p 1) g7) ∧ (¬ g7.1 6 p 1 ≤ nI len → Q (nI len) g7)) 2 (2 + -1) h := by
        intro n2
        rw [if_neg n2] at k
        rw [show (2 : Int32) + (-1) = 1 by decide]
        unfold lp_X1_restByRule_8
        refine ⟨fun z => absurd z (by decide), fun _ => ⟨q_vp (by decide), q_vp (by decide), ?_⟩⟩
        rw [show Int32.toNatClampNeg 1 = 1 by decide, show (1 : Int32) + 1 = 2 by decide, show Int32.toNatClampNeg 2 = 2 by decide, t1, t2, (hP 1 (by omega)).2.2]
        have next0 : ¬ (a + z_ri m p 1 < len ∧ a < b) → lp_X1_restByRule_8 p (nI len) Q (fun _ g7 => (g7.1 6 p 1 ≤ nI len → Q (g7.1 6 p 1) g7) ∧ (¬ g7.1 6 p 1 ≤ nI len → Q (nI len) g7)) 1 (1 + -1) h := by
          intro n3
          rw [if_neg n3] at k
          rw [show (1 : Int32) + (-1) = 0 by decide]
          unfold lp_X1_restByRule_8
          refine ⟨fun _ => ?_, fun z => absurd (by decide) z⟩
          rw [t1]
          refine ⟨fun z => ?_, fun z => ?_⟩
          · have := (nI_leI (a := a) (b := len) (by omega) (by omega)).mp z
            rw [Nat.min_eq_right this] at k
            exact k
          · have : ¬ a ≤ len := fun q => z (nI_le q (by omega))
            rw [Nat.min_eq_left (by omega)] at k
            exact k
        refine ⟨fun z => next0 (fun q => (le a _ (by omega) hr1).mp z q.1), fun z => ⟨q_vp (by decide), q_vp (by decide), fun z1 => next0 (fun q => ?_), fun z1 => ⟨q_vp (by decide), fun z2 => ⟨q_vp (by decide), ?_⟩, fun z2 => ?_⟩⟩⟩
        · have := (nI_leI (a := b) (b := a) (by omega) (by omega)).mp z1
          omega
        · have h1 : a + z_ri m p 1 < len := Classical.byContradiction (fun q => z ((le a _ (by omega) hr1).mpr q))
          have h2 : ¬ b ≤ a := fun q => z1 (nI_le q (by omega))
          have h3 := (ge b _ (by omega) hr1).mp z2
          rw [if_pos ⟨h1, by omega⟩, Nat.min_eq_right (by omega)] at k
          exact k
        · have h1 : a + z_ri m p 1 < len := Classical.byContradiction (fun q => z ((le a _ (by omega) hr1).mpr q))
          have h2 : ¬ b ≤ a := fun q => z1 (nI_le q (by omega))
          have h3 : ¬ b + z_ri m p 1 ≤ len := fun q => z2 ((ge b _ (by omega) hr1).mpr q)
          rw [if_pos ⟨h1, by omega⟩, Nat.min_eq_left (by omega), ← pk_sub (by omega)] at k
          exact k
      refine ⟨fun z => next1 (fun q => (le b _ (by omega) hr2).mp z q.1), fun z => ⟨q_vp (by decide), q_vp (by decide), fun z1 => next1 (fun q => ?_), fun z1 => ⟨q_vp (by decide), fun z2 => ⟨q_vp (by decide), ?_⟩, fun z2 => ?_⟩⟩⟩
      · have := (nI_leI (a := c) (b := b) (by omega) (by omega)).mp z1
        omega
      · have h1 : b + z_ri m p 2 < len := Classical.byContradiction (fun q => z ((le b _ (by omega) hr2).mpr q))
        have h2 : ¬ c ≤ b := fun q => z1 (nI_le q (by omega))
        have h3 := (ge c _ (by omega) hr2).mp z2
        rw [if_pos ⟨h1, by omega⟩, Nat.min_eq_right (by omega)] at k
        exact k
      · have h1 : b + z_ri m p 2 < len := Classical.byContradiction (fun q => z ((le b _ (by omega) hr2).mpr q))
        have h2 : ¬ c ≤ b := fun q => z1 (nI_le q (by omega))
        have h3 : ¬ c + z_ri m p 2 ≤ len := fun q => z2 ((ge c _ (by omega) hr2).mpr q)
        rw [if_pos ⟨h1, by omega⟩, Nat.min_eq_left (by omega), ← pk_sub (by omega)] at k
        exact k
    refine ⟨fun z => next2 (fun q => (le c _ (by omega) hr3).mp z q.1), fun z => ⟨q_vp (by decide), q_vp (by decide), fun z1 => next2 (fun q => ?_), fun z1 => ⟨q_vp (by decide), fun z2 => ⟨q_vp (by decide), ?_⟩, fun z2 => ?_⟩⟩⟩
    · have := (nI_leI (a := 64) (b := c) (by omega) (by omega)).mp z1
      omega
    · have h1 : c + z_ri m p 3 < len := Classical.byContradiction (fun q => z ((le c _ (by omega) hr3).mpr q))
      have h2 : ¬ 64 ≤ c := fun q => z1 (nI_le q (by omega))
      have h3 := (ge 64 _ (by omega) hr3).mp z2
      rw [if_pos ⟨h1, by omega⟩, show len - z_ri m p 3 = 64 by omega] at k
      exact k
    · have h1 : c + z_ri m p 3 < len := Classical.byContradiction (fun q => z ((le c _ (by omega) hr3).mpr q))
      have h2 : ¬ 64 ≤ c := fun q => z1 (nI_le q (by omega))
      rw [if_pos ⟨h1, by omega⟩, ← pk_sub (by omega)] at k
      exact k
theorem nI_min (x y : Nat) (hx : x < 2 ^ 31) (hy : y < 2 ^ 31) : (if nI y < nI x then nI y else nI x) = nI (min x y) := by
  by_cases e : y < x
  · rw [if_pos (nI_lt e hx), Nat.min_eq_right (by omega)]
  · rw [if_neg (fun q => e ((nI_ltI hy hx).mp q)), Nat.min_eq_left (by omega)]
theorem z_T.at {p a b c : Nat} {h : q_H} (hT : z_T p a b c h) {s : Nat} (hs : s < 5) : h.1 6 p s = nI (z_bgn a b c s) := by
  obtain ⟨t0, t1, t2, t3, t4⟩ := hT
  match s, hs with
  | 0, _ => exact t0
  | 1, _ => exact t1
  | 2, _ => exact t2
  | 3, _ => exact t3
  | 4, _ => exact t4
  | n + 5, h => omega
theorem s_spanBy {m : q_S} {p a b c len : Nat} {last : Bool} {h : q_H} {Q : Int32 → q_H → Prop} (hok : z_ok m) (hP : z_P m p h) (hT : z_T p a b c h) (hab : a ≤ b) (hbc : b ≤ c) (hc : c ≤ 64) (hl : len ≤ 64) (k : Q (nI (z_rspan m p a b c len last)) h) : wp_X1_spanByRule p (nI len) (bI last) h Q := by
  unfold wp_X1_spanByRule
  refine s_restBy hok hP hT hab hbc hc hl ?_
  have hrl := z_rest_le m p a b c len last
  have hspan : z_rspan m p a b c len last = (len - z_rest m p a b c len last) * z_dr m p 0 + z_cls m p a b c (z_rest m p a b c len last) 4 + (if last = true then 0 else z_co m p (z_ah a b c (z_rest m p a b c len last))) := by
    unfold z_rspan
    rw [z_rsum_split _ _ _ _ _ _ _ hrl, z_cls_eq hab hbc hc _ (by omega)]
  rw [hspan] at k
  generalize z_rest m p a b c len last = r at hrl k ⊢
  rw [(hP 0 (by omega)).1, pk_sub hrl, pk_mul]
  have hbg : ∀ s, z_bgn a b c s ≤ 64 := by
    intro s; unfold z_bgn; repeat' split
    all_goals omega
  have hbm : ∀ s, s < 4 → z_bgn a b c s ≤ z_bgn a b c (s + 1) := by
    intro s hs
    match s, hs with
    | 0, _ => exact Nat.zero_le _
    | 1, _ => exact hab
    | 2, _ => exact hbc
    | 3, _ => exact hc
    | n + 4, h => omega
  refine pk_loop (σ := Int32 × q_H) (fun n i s => lp_X1_spanByRule_22 p (bI last) (nI r) _ n s.1 (nI i) s.2) (fun i s => s.2 = h ∧ s.1 = nI ((len - r) * z_dr m p 0 + z_cls m p a b c r i)) 4 0 (_, h) (by omega) ⟨rfl, rfl⟩ ?_ ?_
  · rintro n ⟨x, g⟩ ⟨e, hx⟩
    have e : g = h := e
    subst e
    have hx : x = _ := hx
    subst hx
    unfold lp_X1_spanByRule_22
    refine ⟨fun _ => ⟨fun z => ?_, fun z => ?_⟩, fun z => absurd (show nI 4 ≤ nI 4 from nI_le (by omega) (by omega)) z⟩
    · have hlf := bI_0.mp z
      subst hlf
      refine s_stateAt hT hab hbc hc (by omega) ?_
      have ha := z_ah_lt a b c r
      refine ⟨vin ha (by omega), ?_⟩
      rw [cl (by omega), (hP _ ha).2.1, nI_add]
      exact k
    · have hlt : last = true := by
        cases e : last with
        | true => rfl
        | false => rw [e] at z; exact absurd rfl z
      subst hlt
      exact k
  · rintro n i ⟨x, g⟩ hi ⟨e, hx⟩ ih
    have e : g = h := e
    subst e
    have hx : x = _ := hx
    subst hx
    unfold lp_X1_spanByRule_22
    refine ⟨fun z => absurd z (show ¬ nI 4 ≤ nI i from nle hi (by omega)), fun _ => ?_⟩
    rw [nI_1 i, cl (by omega), cl (by omega), (hP i hi).1, hT.at (s := i + 1) (by omega), hT.at (s := i) (by omega)]
    refine ⟨vin hi (by omega), vin (by omega) (by omega), vin (by omega) (by omega), ?_⟩
    have h1 := hbg i; have h2 := hbg (i + 1); have h3 := hbm i hi
    rw [nI_min _ _ (by omega) (by omega), nI_min _ _ (by omega) (by omega), pk_sub (by omega), pk_mul, nI_add]
    refine ih (_, _) ⟨rfl, ?_⟩
    show nI _ = nI _
    congr 1
    show _ = (len - r) * z_dr m p 0 + (z_cls m p a b c r i + z_dr m p i * (min (z_bgn a b c (i + 1)) r - min (z_bgn a b c i) r))
    omega
def z_R (m : q_S) (p a b c : Nat) (w : Nat → Bool) (s : Nat) : Nat := z_rspan m p a b c (z_len w s) (z_lst w s)
theorem z_R_le {m : q_S} (hok : z_ok m) (p a b c : Nat) (w : Nat → Bool) : ∀ s, s < 64 → z_R m p a b c w s ≤ 8226 := fun s hs => z_rspan_le hok (by have := z_len_le w (show s ≤ 64 by omega); omega)
theorem s_sumBy {m : q_S} {p a b c : Nat} {w : Nat → Bool} {h : q_H} {Q : Int32 → q_H → Prop} (hok : z_ok m) (hP : z_P m p h) (hT : z_T p a b c h) (hab : a ≤ b) (hbc : b ≤ c) (hc : c ≤ 64) (hS : z_Sp w h) (k : Q (nI (z_sum (z_ss w (z_R m p a b c w)) 64)) h) : wp_X1_sumByRule p h Q := by
  have hc64 := z_cnt_le w 64
  unfold wp_X1_sumByRule
  refine pk_loop (σ := Int32 × q_H) (fun n i s => lp_X1_sumByRule_4 p (fun x _ g => Q x g) n s.1 (nI i) s.2) (fun i s => s.2 = h ∧ ∀ n, n ≤ 64 → z_cnt w n = i → s.1 = nI (z_sum (z_ss w (z_R m p a b c w)) n)) (z_cnt w 64) 0 (0, h) (by omega) ⟨rfl, fun n _ hn => ?_⟩ ?_ ?_
  · show (0 : Int32) = _
    rw [z_ss_eq (a := n) (b := 0) hn]; rfl
  · rintro n ⟨x, g⟩ ⟨e, hx⟩
    have e : g = h := e
    subst e
    have hx : x = _ := hx 64 (Nat.le_refl _) rfl
    unfold lp_X1_sumByRule_4
    refine s_size ?_
    rw [hS.1]
    refine ⟨fun _ => by rw [hx]; exact k, fun z => absurd (nI_le (Nat.le_refl _) (by omega)) z⟩
  · rintro n i ⟨x, g⟩ hi ⟨e, hx⟩ ih
    have e : g = h := e
    subst e
    obtain ⟨s, hs, hst, hcs⟩ := z_cnt_hit hi
    subst hcs
    have hx : x = nI (z_sum (z_ss w (z_R m p a b c w)) s) := hx s (by omega) rfl
    subst hx
    have hl := z_len_le w (show s ≤ 64 by omega)
    unfold lp_X1_sumByRule_4
    refine s_size ?_
    rw [hS.1]
    refine ⟨fun z => absurd z (nle hi (by omega)), fun _ => ?_⟩
    refine s_lenOf hS hs hst ?_
    refine s_endsAll hS hs hst ?_
    refine s_spanBy hok hP hT hab hbc hc (by omega) ?_
    rw [nI_1, nI_add]
    refine ih (_, _) ⟨rfl, fun n2 hn2 hc2 => ?_⟩
    show nI _ = nI _
    rw [z_ss_eq (a := n2) (b := s + 1) (by rw [hc2, z_cnt_st hst]), z_ss_st hst]
    rfl
end
section
/-! ===== Long.bitCount counts bits ===== -/
def y_mk (a : Nat) : Nat → Nat
  | 0 => 0
  | k + 1 => 256 * y_mk a k + a
theorem y_and {a b c d : Nat} (hb : b < 256) (hd : d < 256) : (256 * a + b) &&& (256 * c + d) = 256 * (a &&& c) + (b &&& d) := by
  have hbd : b &&& d < 2 ^ 8 := Nat.and_lt_two_pow b (show d < 2 ^ 8 from hd)
  apply Nat.eq_of_testBit_eq
  intro i
  rw [Nat.testBit_and]
  have e : (256 : Nat) = 2 ^ 8 := rfl
  rw [e, Nat.testBit_two_pow_mul_add a (show b < 2 ^ 8 from hb), Nat.testBit_two_pow_mul_add c (show d < 2 ^ 8 from hd), Nat.testBit_two_pow_mul_add (a &&& c) hbd]
  split
  · rw [Nat.testBit_and]
  · rw [Nat.testBit_and]
def y_F1 (k n : Nat) : Nat := n - ((n / 2) &&& y_mk 85 k)
def y_F2 (k n : Nat) : Nat := (n &&& y_mk 51 k) + ((n / 4) &&& y_mk 51 k)
def y_F3 (k n : Nat) : Nat := (n + n / 16) &&& y_mk 15 k
def y_f1 (r : Nat) : Nat := r - ((r / 2) &&& 85)
def y_f2 (r : Nat) : Nat := (r &&& 51) + ((r / 4) &&& 51)
def y_f3 (r : Nat) : Nat := (r + r / 16) &&& 15
theorem y_b1 : ∀ r, r < 256 → ∀ b, b < 2 → (128 * b + r / 2) &&& 85 = (r / 2) &&& 85 := by decide +kernel
theorem y_b2 : ∀ r, r < 256 → ∀ b, b < 4 → (64 * b + r / 4) &&& 51 = (r / 4) &&& 51 := by decide +kernel
theorem y_b3 : ∀ r, r < 80 → ∀ b, b < 5 → (r + r / 16 + 16 * b) &&& 15 = (r + r / 16) &&& 15 := by decide +kernel
theorem y_c1 : ∀ r, r < 256 → y_f1 r < 256 ∧ ((r / 2) &&& 85) ≤ r := by decide +kernel
theorem y_c2 : ∀ r, r < 256 → y_f2 r < 256 := by decide +kernel
theorem y_c3 : ∀ r, r < 256 → y_f2 (y_f1 r) < 69 ∧ y_f2 (y_f1 r) % 16 ≤ 4 := by decide +kernel
def y_pc (r : Nat) : Nat := y_f3 (y_f2 (y_f1 r))
theorem y_pc_ok : ∀ r, r < 256 → y_pc r = z_sum (fun i => if r.testBit i = true then 1 else 0) 8 ∧ y_pc r ≤ 8 := by decide +kernel
theorem y_F1_s (k q r : Nat) (hr : r < 256) : y_F1 (k + 1) (256 * q + r) = 256 * y_F1 k q + y_f1 r := by
  have e1 : (256 * q + r) / 2 = 256 * (q / 2) + (128 * (q % 2) + r / 2) := by omega
  have h1 : ((q / 2) &&& y_mk 85 k) ≤ q := Nat.le_trans Nat.and_le_left (Nat.div_le_self _ _)
  have h2 := (y_c1 r hr).2
  show (256 * q + r) - (((256 * q + r) / 2) &&& (256 * y_mk 85 k + 85)) = 256 * (q - ((q / 2) &&& y_mk 85 k)) + (r - ((r / 2) &&& 85))
  rw [e1, y_and (by omega) (by omega), y_b1 r hr (q % 2) (by omega)]
  omega
theorem y_F2_s (k q r : Nat) (hr : r < 256) : y_F2 (k + 1) (256 * q + r) = 256 * y_F2 k q + y_f2 r := by
  have e1 : (256 * q + r) / 4 = 256 * (q / 4) + (64 * (q % 4) + r / 4) := by omega
  show ((256 * q + r) &&& (256 * y_mk 51 k + 51)) + (((256 * q + r) / 4) &&& (256 * y_mk 51 k + 51)) = 256 * ((q &&& y_mk 51 k) + ((q / 4) &&& y_mk 51 k)) + ((r &&& 51) + ((r / 4) &&& 51))
  rw [e1, y_and hr (by omega), y_and (by omega) (by omega), y_b2 r hr (q % 4) (by omega)]
  omega
theorem y_F3_s (k q r : Nat) (hr : r < 69) (hq : q % 16 ≤ 4) : y_F3 (k + 1) (256 * q + r) = 256 * y_F3 k q + y_f3 r := by
  have e1 : 256 * q + r + (256 * q + r) / 16 = 256 * (q + q / 16) + (r + r / 16 + 16 * (q % 16)) := by omega
  show (256 * q + r + (256 * q + r) / 16) &&& (256 * y_mk 15 k + 15) = 256 * ((q + q / 16) &&& y_mk 15 k) + ((r + r / 16) &&& 15)
  rw [e1, y_and (by omega) (by omega), y_b3 r (by omega) (q % 16) (by omega)]
theorem y_split (n : Nat) : n = 256 * (n / 256) + n % 256 := by omega
theorem y_N (k q : Nat) : y_F2 k (y_F1 k q) % 16 ≤ 4 := by
  cases k with
  | zero => show ((_ &&& 0) + (_ &&& 0)) % 16 ≤ 4; rw [Nat.and_zero, Nat.and_zero]; decide
  | succ k =>
    have hr : q % 256 < 256 := Nat.mod_lt _ (by decide)
    rw [y_split q, y_F1_s k _ _ hr, y_F2_s k _ _ (y_c1 _ hr).1]
    have := (y_c3 _ hr).2
    omega
def y_G (k n : Nat) : Nat := y_F3 k (y_F2 k (y_F1 k n))
theorem y_G_0 (n : Nat) : y_G 0 n = 0 := Nat.and_zero _
theorem y_G_s (k n : Nat) : y_G (k + 1) n = 256 * y_G k (n / 256) + y_pc (n % 256) := by
  have hr : n % 256 < 256 := Nat.mod_lt _ (by decide)
  show y_F3 (k + 1) (y_F2 (k + 1) (y_F1 (k + 1) n)) = _
  conv => lhs; rw [y_split n]
  rw [y_F1_s k _ _ hr, y_F2_s k _ _ (y_c1 _ hr).1, y_F3_s k _ _ (y_c3 _ hr).1 (y_N _ _)]
  rfl
theorem z_sum_8 (f : Nat → Nat) : ∀ N, z_sum f (8 + N) = z_sum f 8 + z_sum (fun t => f (t + 8)) N
  | 0 => rfl
  | N + 1 => by
    show z_sum f (8 + N) + f (8 + N) = z_sum f 8 + (z_sum (fun t => f (t + 8)) N + f (N + 8))
    rw [z_sum_8 f N, Nat.add_comm 8 N]
    omega
def y_bits (n : Nat) : Nat → Nat := z_sum (fun t => if n.testBit t = true then 1 else 0)
theorem y_bits_8 (n N : Nat) : y_bits n (8 + N) = y_pc (n % 256) + y_bits (n / 256) N := by
  have hr : n % 256 < 256 := Nat.mod_lt _ (by decide)
  unfold y_bits
  rw [z_sum_8, (y_pc_ok _ hr).1]
  congr 1
  · refine z_sum_congr 8 (fun i hi => ?_)
    have : (n % 2 ^ 8).testBit i = n.testBit i := by rw [Nat.testBit_mod_two_pow]; simp [hi]
    show (if n.testBit i = true then 1 else 0) = (if (n % 256).testBit i = true then 1 else 0)
    rw [show (256 : Nat) = 2 ^ 8 from rfl, this]
  · refine z_sum_congr N (fun i hi => ?_)
    show (if n.testBit (i + 8) = true then 1 else 0) = (if (n / 256).testBit i = true then 1 else 0)
    rw [show (256 : Nat) = 2 ^ 8 from rfl, Nat.testBit_div_two_pow]
theorem y_k {A B C X Z : Nat} (h : A = 256 * B + C) (hB : B ≤ X) (hC : C ≤ 8) (hZ : 256 * X + 8 = Z) : A ≤ Z := by omega
theorem y_d {A B C : Nat} (h : A = 256 * B + C) (hC : C < 256) : A / 256 = B := by omega
theorem y_a {A B C A' B' C' : Nat} (h : A = 256 * B + C) (h' : A' = 256 * B' + C') : A + A' = 256 * (B + B') + (C + C') := by omega
theorem y_8 {a : Nat} (ha : a ≤ 8) : a < 256 := by omega
theorem y_16 {a b : Nat} (ha : a ≤ 8) (hb : b ≤ 8) : a + b < 256 := by omega
theorem y_32 {a b c d : Nat} (ha : a ≤ 8) (hb : b ≤ 8) (hc : c ≤ 8) (hd : d ≤ 8) : a + b + (c + d) < 256 := by omega
theorem y_end {y Y1 Y2 Y3 Y4 Y5 Y6 Y7 Z a0 a1 a2 a3 a4 a5 a6 a7 : Nat} (h : y + Y1 + (Y2 + Y3) + (Y4 + Y5 + (Y6 + Y7)) = 256 * Z + (a0 + a1 + (a2 + a3) + (a4 + a5 + (a6 + a7)))) (h0 : a0 ≤ 8) (h1 : a1 ≤ 8) (h2 : a2 ≤ 8) (h3 : a3 ≤ 8) (h4 : a4 ≤ 8) (h5 : a5 ≤ 8) (h6 : a6 ≤ 8) (h7 : a7 ≤ 8) (k0 : y ≤ 578721382704613384) (k1 : Y1 ≤ 2260630401189896) (k2 : Y2 ≤ 8830587504648) (k3 : Y3 ≤ 34494482440) (k4 : Y4 ≤ 134744072) (k5 : Y5 ≤ 526344) (k6 : Y6 ≤ 2056) (k7 : Y7 ≤ 8) :
    y < 1085102592571150096 ∧ (y + Y1 + (Y2 + Y3) + (Y4 + Y5 + (Y6 + Y7))) % 128 = a0 + (a1 + (a2 + (a3 + (a4 + (a5 + (a6 + (a7 + 0))))))) ∧ y + Y1 + (Y2 + Y3) + (Y4 + Y5 + (Y6 + Y7)) < 2 ^ 64 := by
  refine ⟨by omega, ?_, by omega⟩
  rw [h]
  omega
theorem y_final (n : Nat) : ∃ y, y = y_G 8 n ∧ y < 1085102592571150096 ∧ (y + y / 256 + (y + y / 256) / 65536 + (y + y / 256 + (y + y / 256) / 65536) / 4294967296) % 128 = y_bits n 64 ∧ y + y / 256 + (y + y / 256) / 65536 + (y + y / 256 + (y + y / 256) / 65536) / 4294967296 < 2 ^ 64 := by
  refine ⟨_, rfl, ?_⟩
  have hb : ∀ n, y_pc (n % 256) ≤ 8 := fun n => (y_pc_ok _ (Nat.mod_lt _ (by decide))).2
  have e : y_bits n 64 = y_pc (n % 256) + (y_pc (n / 256 % 256) + (y_pc (n / 256 / 256 % 256) + (y_pc (n / 256 / 256 / 256 % 256) + (y_pc (n / 256 / 256 / 256 / 256 % 256) + (y_pc (n / 256 / 256 / 256 / 256 / 256 % 256) + (y_pc (n / 256 / 256 / 256 / 256 / 256 / 256 % 256) + (y_pc (n / 256 / 256 / 256 / 256 / 256 / 256 / 256 % 256) + 0))))))) := by
    rw [y_bits_8 _ 56, y_bits_8 _ 48, y_bits_8 _ 40, y_bits_8 _ 32, y_bits_8 _ 24, y_bits_8 _ 16, y_bits_8 _ 8, y_bits_8 _ 0]
    rfl
  rw [e, y_G_s, y_G_s, y_G_s, y_G_s, y_G_s, y_G_s, y_G_s, y_G_s, y_G_0]
  have h0 := hb n; have h1 := hb (n / 256); have h2 := hb (n / 256 / 256); have h3 := hb (n / 256 / 256 / 256); have h4 := hb (n / 256 / 256 / 256 / 256); have h5 := hb (n / 256 / 256 / 256 / 256 / 256); have h6 := hb (n / 256 / 256 / 256 / 256 / 256 / 256); have h7 := hb (n / 256 / 256 / 256 / 256 / 256 / 256 / 256)
  generalize y_pc (n % 256) = a0 at *
  generalize y_pc (n / 256 % 256) = a1 at *
  generalize y_pc (n / 256 / 256 % 256) = a2 at *
  generalize y_pc (n / 256 / 256 / 256 % 256) = a3 at *
  generalize y_pc (n / 256 / 256 / 256 / 256 % 256) = a4 at *
  generalize y_pc (n / 256 / 256 / 256 / 256 / 256 % 256) = a5 at *
  generalize y_pc (n / 256 / 256 / 256 / 256 / 256 / 256 % 256) = a6 at *
  generalize y_pc (n / 256 / 256 / 256 / 256 / 256 / 256 / 256 % 256) = a7 at *
  obtain ⟨Y7, hY7⟩ : ∃ z, z = 256 * 0 + a7 := ⟨_, rfl⟩
  rw [← hY7]
  obtain ⟨Y6, hY6⟩ : ∃ z, z = 256 * Y7 + a6 := ⟨_, rfl⟩
  rw [← hY6]
  obtain ⟨Y5, hY5⟩ : ∃ z, z = 256 * Y6 + a5 := ⟨_, rfl⟩
  rw [← hY5]
  obtain ⟨Y4, hY4⟩ : ∃ z, z = 256 * Y5 + a4 := ⟨_, rfl⟩
  rw [← hY4]
  obtain ⟨Y3, hY3⟩ : ∃ z, z = 256 * Y4 + a3 := ⟨_, rfl⟩
  rw [← hY3]
  obtain ⟨Y2, hY2⟩ : ∃ z, z = 256 * Y3 + a2 := ⟨_, rfl⟩
  rw [← hY2]
  obtain ⟨Y1, hY1⟩ : ∃ z, z = 256 * Y2 + a1 := ⟨_, rfl⟩
  rw [← hY1]
  obtain ⟨y, hy⟩ : ∃ z, z = 256 * Y1 + a0 := ⟨_, rfl⟩
  rw [← hy]
  have k7 : Y7 ≤ 8 := y_k (X := 0) hY7 (Nat.le_refl 0) h7 rfl
  have k6 : Y6 ≤ 2056 := y_k hY6 k7 h6 rfl
  have k5 : Y5 ≤ 526344 := y_k hY5 k6 h5 rfl
  have k4 : Y4 ≤ 134744072 := y_k hY4 k5 h4 rfl
  have k3 : Y3 ≤ 34494482440 := y_k hY3 k4 h3 rfl
  have k2 : Y2 ≤ 8830587504648 := y_k hY2 k3 h2 rfl
  have k1 : Y1 ≤ 2260630401189896 := y_k hY1 k2 h1 rfl
  have k0 : y ≤ 578721382704613384 := y_k hy k1 h0 rfl
  have d1 : y / 256 = Y1 := y_d hy (y_8 h0)
  have d2 : (y + Y1) / 65536 = Y2 + Y3 := by
    rw [show (65536 : Nat) = 256 * 256 from rfl, ← Nat.div_div_eq_div_mul, y_d (y_a hy hY1) (y_16 h0 h1)]
    exact y_d (y_a hY1 hY2) (y_16 h1 h2)
  have d3 : (y + Y1 + (Y2 + Y3)) / 4294967296 = Y4 + Y5 + (Y6 + Y7) := by
    rw [show (4294967296 : Nat) = 256 * 256 * 256 * 256 from rfl, ← Nat.div_div_eq_div_mul, ← Nat.div_div_eq_div_mul, ← Nat.div_div_eq_div_mul]
    rw [y_d (y_a (y_a hy hY1) (y_a hY2 hY3)) (y_32 h0 h1 h2 h3), y_d (y_a (y_a hY1 hY2) (y_a hY3 hY4)) (y_32 h1 h2 h3 h4), y_d (y_a (y_a hY2 hY3) (y_a hY4 hY5)) (y_32 h2 h3 h4 h5)]
    exact y_d (y_a (y_a hY3 hY4) (y_a hY5 hY6)) (y_32 h3 h4 h5 h6)
  rw [d1, d2, d3]
  have d4 := y_a (y_a (y_a hy hY1) (y_a hY2 hY3)) (y_a (y_a hY4 hY5) (y_a hY6 hY7))
  exact y_end d4 h0 h1 h2 h3 h4 h5 h6 h7 k0 k1 k2 k3 k4 k5 k6 k7
theorem y_1 : lN 6148914691236517205 = 6148914691236517205 := rfl
theorem y_2 : lN 3689348814741910323 = 3689348814741910323 := rfl
theorem y_3 : lN 1085102592571150095 = 1085102592571150095 := rfl
theorem s_bitCount {x : Int64} {h : q_H} {Q : Int32 → q_H → Prop} (k : Q (nI (z_sum (fun t => if tb x t = true then 1 else 0) 64)) h) : wp_J13_bitCount_95d88 x h Q := by
  obtain ⟨n, hn, rfl⟩ := wb_of x
  have hsum : z_sum (fun t => if tb (lN n) t = true then 1 else 0) 64 = y_bits n 64 := z_sum_congr 64 (fun t ht => by show (if _ then 1 else 0) = (if _ then 1 else 0); rw [tb_lN n ht])
  rw [hsum] at k
  have sh : ∀ (a : Nat) (s : Int32) (j : Nat), j < 64 → nI j = s → a < 2 ^ 64 → ((Int64.toUInt64 (lN a)) >>> ((Int32.toInt64 s).toUInt64 &&& Int64.toUInt64 63)).toInt64 = lN (a / 2 ^ j) := by
    intro a s j hj hs ha
    rw [← hs]
    exact wb_shr ha hj
  have m1 : y_mk 85 8 = 6148914691236517205 := by decide +kernel
  have m2 : y_mk 51 8 = 3689348814741910323 := by decide +kernel
  have m3 : y_mk 15 8 = 1085102592571150095 := by decide +kernel
  -- the six steps
  have s1 : lN n - (((Int64.toUInt64 (lN n)) >>> ((Int32.toInt64 1).toUInt64 &&& Int64.toUInt64 63)).toInt64 &&& 6148914691236517205) = lN (y_F1 8 n) := by
    rw [sh n 1 1 (by omega) rfl hn, ← y_1, wb_and (Nat.lt_of_le_of_lt (Nat.div_le_self _ _) hn) (by decide), lN_sub (Nat.le_trans Nat.and_le_left (Nat.div_le_self _ _)), ← m1]
    rfl
  have b1 : y_F1 8 n < 2 ^ 64 := Nat.lt_of_le_of_lt (Nat.sub_le _ _) hn
  have m51 : ∀ a, (a &&& 3689348814741910323) ≤ 3689348814741910323 := fun a => Nat.and_le_right
  have m15 : ∀ a, (a &&& 1085102592571150095) ≤ 1085102592571150095 := fun a => Nat.and_le_right
  have s2 : ∀ a, a < 2 ^ 64 → (lN a &&& 3689348814741910323) + (((Int64.toUInt64 (lN a)) >>> ((Int32.toInt64 2).toUInt64 &&& Int64.toUInt64 63)).toInt64 &&& 3689348814741910323) = lN (y_F2 8 a) ∧ y_F2 8 a ≤ 7378697629483820646 := by
    intro a ha
    rw [sh a 2 2 (by omega) rfl ha, ← y_2, wb_and ha (by decide), wb_and (Nat.lt_of_le_of_lt (Nat.div_le_self _ _) ha) (by decide), lN_add]
    have e : y_F2 8 a = (a &&& 3689348814741910323) + ((a / 2 ^ 2) &&& 3689348814741910323) := by unfold y_F2; rw [m2]
    rw [e]
    refine ⟨rfl, ?_⟩
    have c1 := m51 a; have c2 := m51 (a / 2 ^ 2)
    omega
  have s3 : ∀ a, a ≤ 7378697629483820646 → (lN a + ((Int64.toUInt64 (lN a)) >>> ((Int32.toInt64 4).toUInt64 &&& Int64.toUInt64 63)).toInt64) &&& 1085102592571150095 = lN (y_F3 8 a) := by
    intro a ha
    rw [sh a 4 4 (by omega) rfl (by omega), lN_add, ← y_3, wb_and (by have := Nat.div_le_self a (2 ^ 4); omega) (by decide)]
    have e : y_F3 8 a = (a + a / 2 ^ 4) &&& 1085102592571150095 := by unfold y_F3; rw [m3]
    rw [e]
  have s4 : ∀ a (s : Int32) (j : Nat), j < 64 → nI j = s → a < 2 ^ 64 → lN a + ((Int64.toUInt64 (lN a)) >>> ((Int32.toInt64 s).toUInt64 &&& Int64.toUInt64 63)).toInt64 = lN (a + a / 2 ^ j) := by
    intro a s j hj hs ha
    rw [sh a s j hj hs ha, lN_add]
  have s5 : ∀ a, (Int64.toInt32 (lN a)) &&& 127 = nI (a % 128) := by
    intro a
    rw [lN_i, pk_and (nI a) (m := 127) 7 (by decide)]
    congr 1
    show (BitVec.ofNat 32 a).toNat % 2 ^ 7 = a % 128
    rw [BitVec.toNat_ofNat]
    omega
  obtain ⟨y, hy, hy1, hy2, hy3⟩ := y_final n
  unfold wp_J13_bitCount_95d88
  rw [s1]
  obtain ⟨e2, l2⟩ := s2 _ b1
  rw [e2, s3 _ l2]
  have ey : y_F3 8 (y_F2 8 (y_F1 8 n)) = y := hy.symm
  rw [ey]
  have q1 := Nat.div_le_self y (2 ^ 8)
  rw [s4 y 8 8 (by omega) rfl (by omega)]
  have q2 := Nat.div_le_self (y + y / 2 ^ 8) (2 ^ 16)
  rw [s4 (y + y / 2 ^ 8) 16 16 (by omega) rfl (by omega)]
  rw [s4 (y + y / 2 ^ 8 + (y + y / 2 ^ 8) / 2 ^ 16) 32 32 (by omega) rfl (by omega), s5]
  have e6 : (y + y / 2 ^ 8 + (y + y / 2 ^ 8) / 2 ^ 16 + (y + y / 2 ^ 8 + (y + y / 2 ^ 8) / 2 ^ 16) / 2 ^ 32) % 128 = y_bits n 64 := hy2
  rw [e6]
  exact k
end
section
/-! ===== the answers, out of the numbers ===== -/
abbrev y_isP (m : q_S) (a : Int32) : Prop := ¬ a < 0 ∧ ¬ nI (z_np m) ≤ a
abbrev y_isT (a : Int32) : Prop := ¬ a < 0 ∧ ¬ nI 64 ≤ a
abbrev y_isG (a : Int32) : Prop := ¬ a < 0 ∧ ¬ nI 8 ≤ a
theorem y_in {n : Nat} (hn : n < 2 ^ 31) {a : Int32} (h : ¬ a < 0 ∧ ¬ nI n ≤ a) : ∃ j, j < n ∧ a = nI j := by
  rcases pk_ix a hn with e | e | e
  · exact absurd e h.1
  · exact absurd e h.2
  · exact e
theorem y_of {n j : Nat} (hn : n < 2 ^ 31) (h : j < n) : ¬ nI j < 0 ∧ ¬ nI n ≤ nI j := ⟨nI_pos (by omega), nle h hn⟩
def z_bldL (w : Nat → Bool) : Nat → Int64
  | 0 => 0
  | n + 1 => if w n = true then z_bldL w n ||| ((1 : Int64) <<< ((nI n).toInt64 &&& 63)) else z_bldL w n
theorem z_bldL_tb (w : Nat → Bool) : ∀ n, n ≤ 64 → ∀ t, t < 64 → tb (z_bldL w n) t = (decide (t < n) && w t)
  | 0, _, t, _ => by show tb 0 t = _; rw [tb_0, decide_eq_false (by omega)]; rfl
  | n + 1, hn, t, ht => by
    have ih := z_bldL_tb w n (by omega) t ht
    show tb (if w n = true then _ else _) t = _
    by_cases e : w n = true
    · rw [if_pos e, tb_or, ih, tb_one (by omega) ht]
      by_cases e2 : t = n
      · subst e2; simp [e]
      · by_cases e3 : t < n
        · simp [e2, e3, show t < n + 1 by omega]
        · simp [e2, e3, show ¬ t < n + 1 by omega]
    · rw [if_neg e, ih]
      by_cases e2 : t = n
      · subst e2; simp [e]
      · by_cases e3 : t < n
        · simp [e3, show t < n + 1 by omega]
        · simp [e3, show ¬ t < n + 1 by omega]
def z_plan (m : q_S) (lo : Int32) (p : Nat) : Nat := z_sum (fun t => if z_w m lo p t = true then 1 else 0) 64 * z_dr m p 0 + z_sum (z_ss (z_w m lo p) (z_G m p (z_w m lo p))) 64
def z_byrule (m : q_S) (p a b c : Nat) : Nat := z_sum (fun t => if z_w m (-1) p t = true then 1 else 0) 64 * z_dr m p 0 + z_sum (z_ss (z_w m (-1) p) (z_R m p a b c (z_w m (-1) p))) 64
def z_sti (w : Nat → Bool) (i : Nat) : Nat := z_least (fun t => z_st w t && decide (z_cnt w t = i)) 64 0
theorem z_sti_eq {w : Nat → Bool} {s : Nat} (hs : s < 64) (hst : z_st w s = true) : z_sti w (z_cnt w s) = s := by
  obtain ⟨a, _, _, _⟩ := z_least_spec (f := fun t => z_st w t && decide (z_cnt w t = z_cnt w s)) 64 0 s (Nat.zero_le _) (by omega) (by simp [hst])
  simp only [Bool.and_eq_true, decide_eq_true_eq] at a
  exact z_cnt_inj a.1 hst a.2
def z_nw (m : q_S) : Nat → Nat := z_sum (fun t => if z_wk m t = true then 1 else 0)
def z_wki (m : q_S) (i : Nat) : Nat := z_least (fun t => z_wk m t && decide (z_nw m t = i)) 64 0
def v_wanted (m : q_S) (a b : Int32) : Int32 := if y_isP m a ∧ y_isT b then (if z_w m (-1) a.toNatClampNeg b.toNatClampNeg = true then 1 else 0) else -1
def v_when (m : q_S) (a : Int32) : Int64 := if y_isP m a then z_bldL (z_w m (-1) a.toNatClampNeg) 64 else 0
def v_spans (m : q_S) (a : Int32) : Int32 := if y_isP m a then nI (z_cnt (z_w m (-1) a.toNatClampNeg) 64) else -1
def z_spanv (m : q_S) (p s : Nat) (w : Nat → Bool) (c : Int32) : Int32 :=
  if c.toInt = 0 then nI s else if c.toInt = 1 then nI (z_len w s) else if c.toInt = 2 then nI (z_best m p (z_len w s) (z_lst w s)) else if c.toInt = 3 then nI (z_G m p w s)
  else if c.toInt = 4 then nI (z_cost m p 0 (z_len w s) (z_lst w s)) else if c.toInt = 5 then (if z_lst w s = true ∨ z_best m p (z_len w s) (z_lst w s) = 0 then -1 else nI (s + (z_len w s - z_ri m p (z_best m p (z_len w s) (z_lst w s))))) else -1
def v_span (m : q_S) (a b c : Int32) : Int32 := if y_isP m a ∧ (¬ b < 0 ∧ ¬ nI (z_cnt (z_w m (-1) a.toNatClampNeg) 64) ≤ b) then z_spanv m a.toNatClampNeg (z_sti (z_w m (-1) a.toNatClampNeg) b.toNatClampNeg) (z_w m (-1) a.toNatClampNeg) c else -1
def v_drain (m : q_S) (a : Int32) : Int32 := if y_isP m a then nI (z_plan m (-1) a.toNatClampNeg) else -1
def v_ruled (m : q_S) (a : Int32) : Int32 := if y_isP m a then nI (z_byrule m a.toNatClampNeg (z_ru m a.toNatClampNeg 0) (z_ru m a.toNatClampNeg 1) (z_ru m a.toNatClampNeg 2)) else -1
def z_stv (m : q_S) (p t : Nat) (w : Nat → Bool) : Int32 := if w t = true then 0 else if z_cur w t < (if z_lst w (t - z_cur w t) = true then z_len w (t - z_cur w t) else z_len w (t - z_cur w t) - z_ri m p (z_best m p (z_len w (t - z_cur w t)) (z_lst w (t - z_cur w t)))) then nI (z_best m p (z_len w (t - z_cur w t)) (z_lst w (t - z_cur w t))) else 0
def v_state (m : q_S) (a b : Int32) : Int32 := if y_isP m a ∧ y_isT b then z_stv m a.toNatClampNeg b.toNatClampNeg (z_w m (-1) a.toNatClampNeg) else -1
def z_rsv (m : q_S) (p t : Nat) (w : Nat → Bool) : Int32 := if w t = true then 0 else if z_cur w t < z_rest m p (z_ru m p 0) (z_ru m p 1) (z_ru m p 2) (z_len w (t - z_cur w t)) (z_lst w (t - z_cur w t)) then nI (z_rs (z_ru m p 0) (z_ru m p 1) (z_ru m p 2) (z_cur w t)) else 0
def v_ruledState (m : q_S) (a b : Int32) : Int32 := if y_isP m a ∧ y_isT b then z_rsv m a.toNatClampNeg b.toNatClampNeg (z_w m (-1) a.toNatClampNeg) else -1
def v_all (m : q_S) (lo : Int32) : Int32 := nI (z_sum (z_plan m lo) (z_np m))
def v_without (m : q_S) (a : Int32) : Int32 := if ¬ a < 0 ∧ ¬ nI (z_nh m) ≤ a then v_all m (-1) - v_all m a else -100001
def z_shr (m : q_S) (p g t : Nat) : Nat := if z_W m (-1) p g t = true then 840 / z_sum (fun x => if z_W m (-1) p x t = true then 1 else 0) 8 else 0
def v_blame (m : q_S) (a : Int32) : Int32 :=
  if a = 8 then nI (z_sum (fun p => 840 * z_sum (z_ss (z_w m (-1) p) (z_G m p (z_w m (-1) p))) 64) (z_np m))
  else if y_isG a then nI (z_sum (fun p => z_sum (z_shr m p a.toNatClampNeg) 64 * z_dr m p 0) (z_np m)) else -1
def v_look (m : q_S) (a : Int32) : Int32 := if a.toInt = 0 then nI (z_np m) else if a.toInt = 1 then nI (z_nh m) else if a.toInt = 2 then nI (z_nt m) else if a.toInt = 3 then nI (z_nw m 64) else -1
def v_held (m : q_S) (a b : Int32) : Int32 := if (¬ a < 0 ∧ ¬ nI (z_nh m) ≤ a) ∧ (¬ b < 0 ∧ ¬ nI 4 ≤ b) then nI (z_ho m a.toNatClampNeg b.toNatClampNeg) else -1
def v_waking (m : q_S) (a : Int32) : Int32 := if ¬ a < 0 ∧ ¬ nI (z_nw m 64) ≤ a then nI (z_wki m a.toNatClampNeg) else -1
def v_fires (m : q_S) (a : Int32) : Int32 := if ¬ a < 0 ∧ ¬ nI (z_nt m) ≤ a then nI (z_fi m a.toNatClampNeg) else -1
/-! ===== the class's questions ===== -/
theorem s_isPart {m : q_S} {a : Int32} {h : q_H} {Q : Int32 → q_H → Prop} (hok : z_ok m) (hc : h.1 0 0 1 = nI (z_np m)) (k0 : ¬ y_isP m a → Q 0 h) (k1 : ∀ p, p < z_np m → a = nI p → y_isP m a → Q 1 h) : wp_X4_isPart a h Q := by
  have := hok.1.1
  unfold wp_X4_isPart
  rw [hc]
  refine ⟨fun z => k0 (fun q => q.1 z), fun z => ⟨fun z1 => k0 (fun q => q.2 z1), fun z1 => ?_⟩⟩
  obtain ⟨p, hp, e⟩ := y_in (by omega) ⟨z, z1⟩
  exact k1 p hp e ⟨z, z1⟩
theorem s_isTick {a : Int32} {h : q_H} {Q : Int32 → q_H → Prop} (k0 : ¬ y_isT a → Q 0 h) (k1 : ∀ t, t < 64 → a = nI t → y_isT a → Q 1 h) : wp_X4_isTick a h Q := by
  unfold wp_X4_isTick
  refine ⟨fun z => k0 (fun q => q.1 z), fun z => ⟨fun z1 => k0 (fun q => q.2 z1), fun z1 => ?_⟩⟩
  obtain ⟨p, hp, e⟩ := y_in (n := 64) (by omega) ⟨z, z1⟩
  exact k1 p hp e ⟨z, z1⟩
theorem s_isProgram {a : Int32} {h : q_H} {Q : Int32 → q_H → Prop} (k0 : ¬ y_isG a → Q 0 h) (k1 : ∀ g, g < 8 → a = nI g → y_isG a → Q 1 h) : wp_X4_isProgram a h Q := by
  unfold wp_X4_isProgram
  refine ⟨fun z => k0 (fun q => q.1 z), fun z => ⟨fun z1 => k0 (fun q => q.2 z1), fun z1 => ?_⟩⟩
  obtain ⟨p, hp, e⟩ := y_in (n := 8) (by omega) ⟨z, z1⟩
  exact k1 p hp e ⟨z, z1⟩
theorem s_ticks {m : q_S} {lo : Int32} {c p : Nat} {h : q_H} {Q : Int64 → q_H → Prop} (hr : z_rows m lo (h.2 14 c)) (hp : p < 6) (k : ∀ x : Int64, (∀ t, t < 64 → tb x t = z_w m lo p t) → Q x h) : wp_X3_ticksOf c (nI p) h Q := by
  refine s_ticksOf hp (fun x hx => k x (fun t ht => ?_))
  rw [hx t]
  unfold z_w
  apply z_beq
  rw [z_any, z_any]
  constructor
  · rintro ⟨g, hg, e⟩; exact ⟨g, hg, by rw [← hr p hp g hg t ht]; exact e⟩
  · rintro ⟨g, hg, e⟩; exact ⟨g, hg, by rw [hr p hp g hg t ht]; exact e⟩
theorem s_layIdle {m : q_S} {p : Nat} {h : q_H} {Q : q_H → Prop} (hr : z_rows m (-1) (h.2 14 0)) (hp : p < 6) (k : ∀ g, z_F3 h g → z_Sp (z_w m (-1) p) g → Q g) : wp_X4_layOutIdle (nI p) h Q := by
  unfold wp_X4_layOutIdle
  refine s_ticks hr hp (fun x hx => ?_)
  exact s_layOut hx k
theorem z_C.rows {m : q_S} {h : q_H} (c : z_C m h) : z_rows m (-1) (h.2 14 0) := (z_C_iff.mp c).2.2
theorem z_C.one {m : q_S} {h : q_H} (c : z_C m h) : z_C1 m h := (z_C_iff.mp c).1
theorem C_wanted {m : q_S} {a b : Int32} {h : q_H} {Q : Int32 → q_H → Prop} (hok : z_ok m) (hc : z_C m h) (k : Q (v_wanted m a b) h) : wp_X4_wanted a b h Q := by
  have := hok.1.1
  unfold wp_X4_wanted v_wanted at *
  refine s_isPart hok hc.1 (fun n => ⟨fun _ => ?_, fun z => absurd rfl z⟩) (fun p hp e ha => ⟨fun z => absurd z (by decide), fun _ => ?_⟩)
  · rw [if_neg (fun q => n q.1)] at k; exact k
  refine s_isTick (fun n => ⟨fun _ => ?_, fun z => absurd rfl z⟩) (fun t ht e2 hb => ⟨fun z => absurd z (by decide), fun _ => ?_⟩)
  · rw [if_neg (fun q => n q.2)] at k; exact k
  rw [if_pos ⟨ha, hb⟩] at k
  subst e; subst e2
  rw [cl (by omega), cl (by omega)] at k
  refine s_ticks hc.rows (by omega) (fun x hx => s_hasTick ht ?_)
  rw [hx t ht]
  refine ⟨fun z => ?_, fun z => ?_⟩
  · cases e : z_w m (-1) p t with
    | false => rw [e] at k; exact k
    | true => rw [e] at z; exact absurd z (by decide)
  · cases e : z_w m (-1) p t with
    | true => rw [e] at k; exact k
    | false => rw [e] at z; exact absurd rfl z
theorem C_when {m : q_S} {a : Int32} {h : q_H} {Q : Int64 → q_H → Prop} (hok : z_ok m) (hc : z_C m h) (k : Q (v_when m a) h) : wp_X4_when a h Q := by
  have := hok.1.1
  unfold wp_X4_when v_when at *
  refine s_isPart hok hc.1 (fun n => ⟨fun _ => ?_, fun z => absurd rfl z⟩) (fun p hp e ha => ⟨fun z => absurd z (by decide), fun _ => ?_⟩)
  · rw [if_neg n] at k; exact k
  rw [if_pos ha] at k
  subst e
  rw [cl (by omega)] at k
  refine s_ticks hc.rows (by omega) (fun x hx => ?_)
  have : x = z_bldL (z_w m (-1) p) 64 := by
    apply tb_ext
    intro t ht
    rw [hx t ht, z_bldL_tb _ _ (Nat.le_refl _) t ht, decide_eq_true ht, Bool.true_and]
  rw [this]
  exact k
theorem C_spans {m : q_S} {a : Int32} {h : q_H} {Q : Int32 → q_H → Prop} (hok : z_ok m) (hc : z_C m h) (k : ∀ g, z_F3 h g → Q (v_spans m a) g) : wp_X4_spans a h Q := by
  have := hok.1.1
  unfold wp_X4_spans v_spans at *
  refine s_isPart hok hc.1 (fun n => ⟨fun _ => ?_, fun z => absurd rfl z⟩) (fun p hp e ha => ⟨fun z => absurd z (by decide), fun _ => ?_⟩)
  · have := k h (z_F3.rf h); rw [if_neg n] at this; exact this
  rw [if_pos ha] at k
  subst e
  rw [cl (by omega)] at k
  refine s_layIdle hc.rows (by omega) (fun g hg hS => ?_)
  refine s_size ?_
  rw [hS.1]
  exact k g hg
theorem C_span {m : q_S} {a b c : Int32} {h : q_H} {Q : Int32 → q_H → Prop} (hok : z_ok m) (hc : z_C m h) (k : ∀ g, z_F3 h g → Q (v_span m a b c) g) : wp_X4_span a b c h Q := by
  have := hok.1.1
  unfold wp_X4_span v_span at *
  refine s_isPart hok hc.1 (fun n => ⟨fun _ => ?_, fun z => absurd rfl z⟩) (fun p hp e ha => ⟨fun z => absurd z (by decide), fun _ => ?_⟩)
  · have := k h (z_F3.rf h); rw [if_neg (fun q => n q.1)] at this; exact this
  subst e
  rw [cl (by omega)] at k
  have h64 := z_cnt_le (z_w m (-1) p) 64
  refine s_layIdle hc.rows (by omega) (fun g hg hS => ?_)
  have hP : z_P m p g := (hg.C hc).one.P (by omega)
  unfold wp_X2_has
  rw [hS.1]
  have kn : ¬ (¬ b < 0 ∧ ¬ nI (z_cnt (z_w m (-1) p) 64) ≤ b) → Q (-1) g := fun n => by
    have := k g hg; rw [if_neg (fun q => n q.2)] at this; exact this
  refine ⟨fun z => ⟨fun _ => kn (fun q => q.1 z), fun y => absurd rfl y⟩, fun z => ⟨fun z1 => ⟨fun _ => kn (fun q => q.2 z1), fun y => absurd rfl y⟩, fun z1 => ⟨fun y => absurd y (by decide), fun _ => ?_⟩⟩⟩
  obtain ⟨i, hi, e⟩ := y_in (by omega) ⟨z, z1⟩
  subst e
  obtain ⟨s, hs, hst, hcs⟩ := z_cnt_hit hi
  subst hcs
  have h64s := z_cnt_le (z_w m (-1) p) s
  have kk := k g hg
  rw [if_pos ⟨ha, z, z1⟩, cl (by omega), z_sti_eq hs hst] at kk
  have hlen := z_len_le (z_w m (-1) p) (show s ≤ 64 by omega)
  have hbl := z_best_lt m p (z_len (z_w m (-1) p) s) (z_lst (z_w m (-1) p) s)
  have hbc : z_can m p (z_best m p (z_len (z_w m (-1) p) s) (z_lst (z_w m (-1) p) s)) (z_len (z_w m (-1) p) s) (z_lst (z_w m (-1) p) s) := z_bst_can hok _ _ _ _
  refine s_lenOf hS hs hst ?_
  refine s_endsAll hS hs hst ?_
  refine ⟨vin (by omega) (by omega), ?_⟩
  rw [cl (by omega)]
  refine s_best hok hP (by omega) ?_
  unfold z_spanv at kk
  refine ⟨fun y => ?_, fun y => ?_, fun y => ?_, fun y => ?_, fun y => ?_, fun y => ?_, fun y => ?_⟩
  · rw [if_pos y] at kk
    exact s_firstOf hS hs hst kk
  · rw [if_neg (by omega), if_pos y] at kk; exact kk
  · rw [if_neg (by omega), if_neg (by omega), if_pos y] at kk; exact kk
  · rw [if_neg (by omega), if_neg (by omega), if_neg (by omega), if_pos y] at kk
    exact ⟨vin (by omega) (by omega), s_sumIn hok hP hbl hbc kk⟩
  · rw [if_neg (by omega), if_neg (by omega), if_neg (by omega), if_neg (by omega), if_pos y] at kk
    exact ⟨vin (by omega) (by omega), s_sumIn (s := 0) hok hP (by omega) (Or.inr (by rw [(hok.2.2.2.2.1 p).2.1]; exact Nat.zero_le _)) kk⟩
  · rw [if_neg (by omega), if_neg (by omega), if_neg (by omega), if_neg (by omega), if_neg (by omega), if_pos y] at kk
    refine ⟨fun y1 => ⟨fun y2 => ?_, fun y2 => ?_⟩, fun y1 => ?_⟩
    · have hl := bI_0.mp y1
      have hb : z_best m p (z_len (z_w m (-1) p) s) (z_lst (z_w m (-1) p) s) = 0 := (nI_eq (b := 0) (by omega) (by omega)).mp y2
      rw [if_pos (Or.inr hb)] at kk
      exact kk
    · have hl := bI_0.mp y1
      have hb : ¬ z_best m p (z_len (z_w m (-1) p) s) (z_lst (z_w m (-1) p) s) = 0 := fun q => y2 (by rw [q]; rfl)
      have hno : ¬ (z_lst (z_w m (-1) p) s = true ∨ z_best m p (z_len (z_w m (-1) p) s) (z_lst (z_w m (-1) p) s) = 0) := by
        rintro (q | q)
        · rw [hl] at q; cases q
        · exact hb q
      rw [if_neg hno] at kk
      refine s_firstOf hS hs hst ⟨vin (by omega) (by omega), ?_⟩
      refine s_restIn hP hbl hbc ?_
      rw [nI_add]
      have e9 : (if z_lst (z_w m (-1) p) s = true then z_len (z_w m (-1) p) s else z_len (z_w m (-1) p) s - z_ri m p (z_best m p (z_len (z_w m (-1) p) s) (z_lst (z_w m (-1) p) s))) = z_len (z_w m (-1) p) s - z_ri m p (z_best m p (z_len (z_w m (-1) p) s) (z_lst (z_w m (-1) p) s)) := if_neg (by rw [hl]; decide)
      rw [e9]
      exact kk
    · have hl : z_lst (z_w m (-1) p) s = true := by
        cases e : z_lst (z_w m (-1) p) s with
        | true => rfl
        | false => rw [e] at y1; exact absurd rfl y1
      rw [if_pos (Or.inl hl)] at kk
      exact kk
  · rw [if_neg (by omega), if_neg (by omega), if_neg (by omega), if_neg (by omega), if_neg (by omega), if_neg (by omega)] at kk
    exact kk
end
section
theorem s_drainAwake {m : q_S} {p : Nat} {w : Nat → Bool} {x : Int64} {h : q_H} {Q : Int32 → q_H → Prop} (hP : z_P m p h) (hx : ∀ t, t < 64 → tb x t = w t) (k : Q (nI (z_sum (fun t => if w t = true then 1 else 0) 64 * z_dr m p 0)) h) : wp_X1_drainAwake p x h Q := by
  unfold wp_X1_drainAwake
  refine s_bitCount ?_
  have e : z_sum (fun t => if tb x t = true then 1 else 0) 64 = z_sum (fun t => if w t = true then 1 else 0) 64 := z_sum_congr 64 (fun t ht => by show (if _ then 1 else 0) = (if _ then 1 else 0); rw [hx t ht])
  rw [e, (hP 0 (by omega)).1, pk_mul]
  exact k
theorem s_plan {m : q_S} {lo : Int32} {p : Nat} {x : Int64} {h : q_H} {Q : Int32 → q_H → Prop} (hok : z_ok m) (hP : z_P m p h) (hp : p < 6) (hx : ∀ t, t < 64 → tb x t = z_w m lo p t) (k : ∀ g, z_F3 h g → Q (nI (z_plan m lo p)) g) : wp_X4_drainInPlan (nI p) x h Q := by
  unfold wp_X4_drainInPlan
  refine s_layOut hx (fun g hg hS => ⟨vin hp (by omega), ?_⟩)
  have hP' : z_P m p g := by
    intro s hs
    rw [hg.1 3 (by omega) (by omega) (by omega), hg.1 4 (by omega) (by omega) (by omega), hg.1 5 (by omega) (by omega) (by omega)]
    exact hP s hs
  rw [cl (by omega)]
  refine s_drainAwake hP' hx ⟨vin hp (by omega), ?_⟩
  refine s_planned hok hP' hS ?_
  rw [nI_add]
  exact k g hg
theorem C_drain {m : q_S} {a : Int32} {h : q_H} {Q : Int32 → q_H → Prop} (hok : z_ok m) (hc : z_C m h) (k : ∀ g, z_F3 h g → Q (v_drain m a) g) : wp_X4_drain a h Q := by
  have := hok.1.1
  unfold wp_X4_drain v_drain at *
  refine s_isPart hok hc.1 (fun n => ⟨fun _ => ?_, fun z => absurd rfl z⟩) (fun p hp e ha => ⟨fun z => absurd z (by decide), fun _ => ?_⟩)
  · have := k h (z_F3.rf h); rw [if_neg n] at this; exact this
  rw [if_pos ha] at k
  subst e
  rw [cl (by omega)] at k
  refine s_ticks hc.rows (by omega) (fun x hx => ?_)
  exact s_plan hok (hc.one.P (by omega)) (by omega) hx k
theorem s_byRule {m : q_S} {p a b c : Nat} {h : q_H} {Q : Int32 → q_H → Prop} (hok : z_ok m) (hr : z_rows m (-1) (h.2 14 0)) (hP : z_P m p h) (hT : z_T p a b c h) (hab : a ≤ b) (hbc : b ≤ c) (hc : c ≤ 64) (hp : p < 6) (k : ∀ g, z_F3 h g → Q (nI (z_byrule m p a b c)) g) : wp_X4_drainByRule (nI p) h Q := by
  unfold wp_X4_drainByRule
  refine s_layIdle hr hp (fun g hg hS => ⟨vin hp (by omega), ?_⟩)
  have hr' : z_rows m (-1) (g.2 14 0) := by rw [hg.2]; exact hr
  have hP' : z_P m p g := by
    intro s hs
    rw [hg.1 3 (by omega) (by omega) (by omega), hg.1 4 (by omega) (by omega) (by omega), hg.1 5 (by omega) (by omega) (by omega)]
    exact hP s hs
  have hT' : z_T p a b c g := by
    unfold z_T
    rw [hg.1 6 (by omega) (by omega) (by omega)]
    exact hT
  refine s_ticks hr' hp (fun x hx => ?_)
  rw [cl (by omega)]
  refine s_drainAwake hP' hx ⟨vin hp (by omega), ?_⟩
  refine s_sumBy hok hP' hT' hab hbc hc hS ?_
  rw [nI_add]
  exact k g hg
theorem C_ruled {m : q_S} {a : Int32} {h : q_H} {Q : Int32 → q_H → Prop} (hok : z_ok m) (hc : z_C m h) (k : ∀ g, z_F3 h g → Q (v_ruled m a) g) : wp_X4_ruled a h Q := by
  have := hok.1.1
  unfold wp_X4_ruled v_ruled at *
  refine s_isPart hok hc.1 (fun n => ⟨fun _ => ?_, fun z => absurd rfl z⟩) (fun p hp e ha => ⟨fun z => absurd z (by decide), fun _ => ?_⟩)
  · have := k h (z_F3.rf h); rw [if_neg n] at this; exact this
  rw [if_pos ha] at k
  subst e
  rw [cl (by omega)] at k
  obtain ⟨r1, r2, r3⟩ := hok.2.2.2.2.2.1 p
  exact s_byRule hok hc.rows (hc.one.P (by omega)) (hc.one.T (by omega)) r1 r2 r3 (by omega) k
theorem s_find {w : Nat → Bool} {t : Nat} {h : q_H} {Q : Int32 → q_H → Prop} (hS : z_Sp w h) (ht : t < 64) (k0 : w t = true → Q (-1) h) (k1 : w t = false → Q (nI (z_cnt w (t - z_cur w t))) h) : wp_X2_find (nI t) h Q := by
  have h64 := z_cnt_le w 64
  unfold wp_X2_find
  refine pk_loop (σ := q_H) (fun n i s => lp_X2_find_2 (nI t) Q (fun _ g => Q (-1) g) n (nI i) s) (fun i s => s = h ∧ ∀ s0, s0 < 64 → z_st w s0 = true → z_cnt w s0 < i → ¬ (s0 ≤ t ∧ t < s0 + z_len w s0)) (z_cnt w 64) 0 h (by omega) ⟨rfl, fun s0 _ _ hlt => by omega⟩ ?_ ?_
  · rintro n s ⟨rfl, hs⟩
    unfold lp_X2_find_2
    rw [hS.1]
    refine ⟨fun _ => ?_, fun z => absurd (nI_le (Nat.le_refl _) (by omega)) z⟩
    cases e : w t with
    | true => exact k0 e
    | false =>
      obtain ⟨a, b, c⟩ := z_from e
      exact absurd ⟨b, c ht⟩ (hs _ (by omega) a (z_cnt_lt a (by omega)))
  · rintro n i s hi ⟨rfl, hs⟩ ih
    obtain ⟨s0, hs0, hst, hcs⟩ := z_cnt_hit hi
    subst hcs
    have hcl := z_cnt_le w s0
    have hlen := z_len_le w (show s0 ≤ 64 by omega)
    obtain ⟨f1, f2⟩ := hS.2 s0 hs0 hst
    unfold lp_X2_find_2
    rw [hS.1, cl (by omega), f1, f2, nI_add, nI_1 (z_cnt w s0)]
    refine ⟨fun z => absurd z (nle hi (by omega)), fun _ => ⟨vin (by omega) (by omega), ?_⟩⟩
    have next : ¬ (s0 ≤ t ∧ t < s0 + z_len w s0) → ∀ s1, s1 < 64 → z_st w s1 = true → z_cnt w s1 < z_cnt w s0 + 1 → ¬ (s1 ≤ t ∧ t < s1 + z_len w s1) := by
      intro hn s1 h1 h2 h3
      by_cases e : z_cnt w s1 = z_cnt w s0
      · have := z_cnt_inj h2 hst e
        subst this; exact hn
      · exact hs s1 h1 h2 (by omega)
    refine ⟨fun z => ih _ ⟨rfl, next (fun q => ?_)⟩, fun z => ⟨vin (by omega) (by omega), vin (by omega) (by omega), fun z1 => ih _ ⟨rfl, next (fun q => ?_)⟩, fun z1 => ?_⟩⟩
    · have := (nI_ltI (by omega) (by omega)).mp z; omega
    · have := (nI_leI (by omega) (by omega)).mp z1; omega
    · have a1 : ¬ t < s0 := fun q => z (nI_lt q (by omega))
      have a2 : ¬ s0 + z_len w s0 ≤ t := fun q => z1 (nI_le q (by omega))
      obtain ⟨e1, e2⟩ := z_from_uniq hst (by omega) (by omega : t < s0 + z_len w s0)
      have := k1 e2
      rw [← e1] at this
      exact this
theorem C_state {m : q_S} {a b : Int32} {h : q_H} {Q : Int32 → q_H → Prop} (hok : z_ok m) (hc : z_C m h) (k : ∀ g, z_F3 h g → Q (v_state m a b) g) : wp_X4_state a b h Q := by
  have := hok.1.1
  unfold wp_X4_state v_state at *
  refine s_isPart hok hc.1 (fun n => ⟨fun _ => ?_, fun z => absurd rfl z⟩) (fun p hp e ha => ⟨fun z => absurd z (by decide), fun _ => ?_⟩)
  · have := k h (z_F3.rf h); rw [if_neg (fun q => n q.1)] at this; exact this
  refine s_isTick (fun n => ⟨fun _ => ?_, fun z => absurd rfl z⟩) (fun t ht e2 hb => ⟨fun z => absurd z (by decide), fun _ => ?_⟩)
  · have := k h (z_F3.rf h); rw [if_neg (fun q => n q.2)] at this; exact this
  rw [if_pos ⟨ha, hb⟩] at k
  subst e; subst e2
  rw [cl (by omega), cl (by omega)] at k
  unfold z_stv at k
  refine s_layIdle hc.rows (by omega) (fun g hg hS => ?_)
  have hP : z_P m p g := (hg.C hc).one.P (by omega)
  have kk := k g hg
  refine s_find hS ht (fun hw => ⟨fun _ => ?_, fun z => absurd rfl z⟩) (fun hw => ?_)
  · rw [if_pos hw] at kk; exact kk
  rw [if_neg (by rw [hw]; decide)] at kk
  obtain ⟨f1, f2, f3⟩ := z_from hw
  have hcu := z_cur_le (z_w m (-1) p) t
  have hs64 : t - z_cur (z_w m (-1) p) t < 64 := by omega
  have hcl := z_cnt_le (z_w m (-1) p) (t - z_cur (z_w m (-1) p) t)
  have hlen := z_len_le (z_w m (-1) p) (show t - z_cur (z_w m (-1) p) t ≤ 64 by omega)
  refine ⟨fun z => absurd z (w_m1 _ (by omega)), fun _ => ?_⟩
  refine s_lenOf hS hs64 f1 ?_
  refine s_endsAll hS hs64 f1 ⟨vin (by omega) (by omega), ?_⟩
  rw [cl (by omega)]
  refine s_best hok hP (by omega) ?_
  refine s_firstOf hS hs64 f1 ⟨vin (by omega) (by omega), ?_⟩
  refine s_restIn hP (z_best_lt _ _ _ _) (z_bst_can hok _ _ _ _) ?_
  rw [pk_sub f2, show t - (t - z_cur (z_w m (-1) p) t) = z_cur (z_w m (-1) p) t by omega]
  have hb1 : (if z_lst (z_w m (-1) p) (t - z_cur (z_w m (-1) p) t) = true then z_len (z_w m (-1) p) (t - z_cur (z_w m (-1) p) t) else z_len (z_w m (-1) p) (t - z_cur (z_w m (-1) p) t) - z_ri m p (z_best m p (z_len (z_w m (-1) p) (t - z_cur (z_w m (-1) p) t)) (z_lst (z_w m (-1) p) (t - z_cur (z_w m (-1) p) t)))) ≤ 64 := by split <;> omega
  refine ⟨fun z => ?_, fun z => ?_⟩
  · have := (nI_leI (by omega) (by omega)).mp z
    rw [if_neg (by omega)] at kk; exact kk
  · have : ¬ _ ≤ _ := fun q => z ((nI_leI (by omega) (by omega)).mpr q)
    rw [if_pos (by omega)] at kk; exact kk
theorem C_ruledState {m : q_S} {a b : Int32} {h : q_H} {Q : Int32 → q_H → Prop} (hok : z_ok m) (hc : z_C m h) (k : ∀ g, z_F3 h g → Q (v_ruledState m a b) g) : wp_X4_ruledState a b h Q := by
  have := hok.1.1
  unfold wp_X4_ruledState v_ruledState at *
  refine s_isPart hok hc.1 (fun n => ⟨fun _ => ?_, fun z => absurd rfl z⟩) (fun p hp e ha => ⟨fun z => absurd z (by decide), fun _ => ?_⟩)
  · have := k h (z_F3.rf h); rw [if_neg (fun q => n q.1)] at this; exact this
  refine s_isTick (fun n => ⟨fun _ => ?_, fun z => absurd rfl z⟩) (fun t ht e2 hb => ⟨fun z => absurd z (by decide), fun _ => ?_⟩)
  · have := k h (z_F3.rf h); rw [if_neg (fun q => n q.2)] at this; exact this
  rw [if_pos ⟨ha, hb⟩] at k
  subst e; subst e2
  rw [cl (by omega), cl (by omega)] at k
  unfold z_rsv at k
  refine s_layIdle hc.rows (by omega) (fun g hg hS => ?_)
  have hP : z_P m p g := (hg.C hc).one.P (by omega)
  have hT := (hg.C hc).one.T (show p < 6 by omega)
  obtain ⟨r1, r2, r3⟩ := hok.2.2.2.2.2.1 p
  have kk := k g hg
  refine s_find hS ht (fun hw => ⟨fun _ => ?_, fun z => absurd rfl z⟩) (fun hw => ?_)
  · rw [if_pos hw] at kk; exact kk
  rw [if_neg (by rw [hw]; decide)] at kk
  obtain ⟨f1, f2, f3⟩ := z_from hw
  have hcu := z_cur_le (z_w m (-1) p) t
  have hs64 : t - z_cur (z_w m (-1) p) t < 64 := by omega
  have hcl := z_cnt_le (z_w m (-1) p) (t - z_cur (z_w m (-1) p) t)
  have hlen := z_len_le (z_w m (-1) p) (show t - z_cur (z_w m (-1) p) t ≤ 64 by omega)
  refine ⟨fun z => absurd z (w_m1 _ (by omega)), fun _ => ?_⟩
  refine s_firstOf hS hs64 f1 ⟨vin (by omega) (by omega), ?_⟩
  refine s_lenOf hS hs64 f1 ?_
  refine s_endsAll hS hs64 f1 ?_
  rw [cl (by omega)]
  refine s_restBy hok hP hT r1 r2 r3 (by omega) ?_
  have hrl := z_rest_le m p (z_ru m p 0) (z_ru m p 1) (z_ru m p 2) (z_len (z_w m (-1) p) (t - z_cur (z_w m (-1) p) t)) (z_lst (z_w m (-1) p) (t - z_cur (z_w m (-1) p) t))
  rw [pk_sub f2, show t - (t - z_cur (z_w m (-1) p) t) = z_cur (z_w m (-1) p) t by omega]
  refine ⟨fun z => ?_, fun z => ⟨vin (by omega) (by omega), ?_⟩⟩
  · have := (nI_leI (by omega) (by omega)).mp z
    rw [if_neg (by omega)] at kk; exact kk
  · have hlt : ¬ _ ≤ _ := fun q => z ((nI_leI (by omega) (by omega)).mpr q)
    rw [if_pos (by omega)] at kk
    rw [← nI_pred (z_cur (z_w m (-1) p) t)]
    refine s_stateAt hT r1 r2 r3 (by omega) ?_
    have e : z_ah (z_ru m p 0) (z_ru m p 1) (z_ru m p 2) (z_cur (z_w m (-1) p) t + 1) = z_rs (z_ru m p 0) (z_ru m p 1) (z_ru m p 2) (z_cur (z_w m (-1) p) t) := by
      unfold z_ah; rw [if_neg (by omega)]; rfl
    rw [e]
    exact kk
theorem s_ofAll {m : q_S} {lo : Int32} {c : Nat} {h : q_H} {Q : Int32 → q_H → Prop} (hok : z_ok m) (hc : z_C1 m h) (hr : z_rows m lo (h.2 14 c)) (k : ∀ g, z_F3 h g → Q (v_all m lo) g) : wp_X4_drainOfAll c h Q := by
  have hnp := hok.1.1
  unfold wp_X4_drainOfAll
  refine pk_loop (σ := Int32 × q_H) (fun n i s => lp_X4_drainOfAll_4 c (fun x _ g => Q x g) n s.1 (nI i) s.2) (fun i s => z_F3 h s.2 ∧ s.1 = nI (z_sum (z_plan m lo) i)) (z_np m) 0 (0, h) (by omega) ⟨z_F3.rf h, rfl⟩ ?_ ?_
  · rintro n ⟨x, g⟩ ⟨hg, hx⟩
    have hx : x = _ := hx
    subst hx
    have hg : z_F3 h g := hg
    have hn : g.1 0 0 1 = nI (z_np m) := by rw [hg.1 0 (by omega) (by omega) (by omega)]; exact hc.1
    unfold lp_X4_drainOfAll_4
    rw [hn]
    exact ⟨fun _ => k g hg, fun z => absurd (nI_le (Nat.le_refl _) (by omega)) z⟩
  · rintro n i ⟨x, g⟩ hi ⟨hg, hx⟩ ih
    have hx : x = _ := hx
    subst hx
    have hg : z_F3 h g := hg
    have hc' : z_C1 m g := hc.ints (fun k hk => hg.1 k (by omega) (by omega) (by omega))
    have hr' : z_rows m lo (g.2 14 c) := by rw [hg.2]; exact hr
    unfold lp_X4_drainOfAll_4
    rw [hc'.1]
    refine ⟨fun z => absurd z (nle hi (by omega)), fun _ => ?_⟩
    refine s_ticks hr' (by omega) (fun y hy => ?_)
    refine s_plan hok (hc'.P (by omega)) (by omega) hy (fun g2 hg2 => ?_)
    rw [nI_add, nI_1 i]
    exact ih (_, _) ⟨hg.tr hg2, rfl⟩
theorem C_all {m : q_S} {h : q_H} {Q : Int32 → q_H → Prop} (hok : z_ok m) (hc : z_C m h) (k : ∀ g, z_F3 h g → Q (v_all m (-1)) g) : wp_X4_all h Q := s_ofAll hok hc.one hc.rows k
theorem s_chas {m : q_S} {c n : Nat} {a : Int32} {h : q_H} {Q : Int32 → q_H → Prop} (hn : n < 2 ^ 31) (hc : h.1 8 c 4 = nI n) (k0 : ¬ (¬ a < 0 ∧ ¬ nI n ≤ a) → Q 0 h) (k1 : ∀ i, i < n → a = nI i → (¬ a < 0 ∧ ¬ nI n ≤ a) → Q 1 h) : wp_X0_has c a h Q := by
  unfold wp_X0_has
  rw [hc]
  refine ⟨fun z => k0 (fun q => q.1 z), fun z => ⟨fun z1 => k0 (fun q => q.2 z1), fun z1 => ?_⟩⟩
  obtain ⟨p, hp, e⟩ := y_in hn ⟨z, z1⟩
  exact k1 p hp e ⟨z, z1⟩
theorem C_without {m : q_S} {a : Int32} {h : q_H} {Q : Int32 → q_H → Prop} (hok : z_ok m) (hc : z_C m h) (k : ∀ g, z_C m g → z_Fc h g → Q (v_without m a) g) : wp_X4_without a h Q := by
  have hnh := hok.1.2.1
  obtain ⟨c1, cw, cr⟩ := z_C_iff.mp hc
  unfold wp_X4_without
  refine s_chas (m := m) (n := z_nh m) (by omega) c1.2.2.2.2.2.2.1.1 (fun n => ⟨fun _ => ?_, fun z => absurd rfl z⟩) (fun i hi e ha => ⟨fun z => absurd z (by decide), fun _ => ?_⟩)
  · have := k h hc (z_Fc.rf h)
    unfold v_without at this
    rw [if_neg n] at this; exact this
  refine s_gather (lo := a) hok c1 cw (by omega) (fun f hf => ?_)
  have hg1 : z_C m (q_aL h 14 1 f) := by
    rw [z_C_iff]
    refine ⟨c1.ints (fun _ _ => rfl), ?_, ?_⟩
    · rw [q_aL_ne (by omega)]; exact cw
    · rw [q_aL_ne (by omega)]; exact cr
  refine s_ofAll (lo := -1) hok hg1.one hg1.rows (fun g2 hg2 => ?_)
  have hg2c := hg2.C hg1
  refine s_ofAll (lo := a) hok hg2c.one (by rw [hg2.2, q_aL_at]; exact hf) (fun g3 hg3 => ?_)
  have := k g3 (hg3.C hg2c) ((show z_Fc h (q_aL h 14 1 f) from fun _ _ => rfl).tr (hg2.fc.tr hg3.fc))
  unfold v_without at this
  rw [if_pos ha] at this
  exact this
theorem s_inSpans {m : q_S} {p : Nat} {h : q_H} {Q : Int32 → q_H → Prop} (hok : z_ok m) (hc : z_C m h) (hp : p < 6) (k : ∀ g, z_F3 h g → Q (nI (z_sum (z_ss (z_w m (-1) p) (z_G m p (z_w m (-1) p))) 64)) g) : wp_X4_drainInSpans (nI p) h Q := by
  unfold wp_X4_drainInSpans
  refine s_layIdle hc.rows hp (fun g hg hS => ⟨vin hp (by omega), ?_⟩)
  rw [cl (by omega)]
  exact s_planned hok ((hg.C hc).one.P hp) hS (k g hg)
theorem s_blameIn {m : q_S} {p g : Nat} {h : q_H} {Q : Int32 → q_H → Prop} (hok : z_ok m) (hc : z_C m h) (hp : p < 6) (hg : g < 8) (k : Q (nI (z_sum (z_shr m p g) 64 * z_dr m p 0)) h) : wp_X4_blameIn (nI p) (nI g) h Q := by
  have hr := hc.rows
  unfold wp_X4_blameIn
  refine s_ticksBy hp hg ?_
  refine pk_loop (σ := Int32 × q_H) (fun n i s => lp_X4_blameIn_16 (nI p) (h.2 14 0 (p * 8 + g)) _ n s.1 (nI i) s.2) (fun i s => s.2 = h ∧ s.1 = nI (z_sum (z_shr m p g) i)) 64 0 (0, h) (by omega) ⟨rfl, rfl⟩ ?_ ?_
  · rintro n ⟨x, u⟩ ⟨e, hx⟩
    have e : u = h := e
    subst e
    have hx : x = _ := hx
    subst hx
    unfold lp_X4_blameIn_16
    refine ⟨fun _ => ⟨vin hp (by omega), ?_⟩, fun z => absurd (show nI 64 ≤ nI 64 from nI_le (by omega) (by omega)) z⟩
    unfold wp_X1_drainIn
    dsimp only
    rw [show Int32.toNatClampNeg 0 = 0 by decide, cl (by omega), (hc.one.P hp 0 (by omega)).1, pk_mul]
    exact ⟨q_vp (by decide), k⟩
  · rintro n t ⟨x, u⟩ ht ⟨e, hx⟩ ih
    have e : u = h := e
    subst e
    have hx : x = _ := hx
    subst hx
    unfold lp_X4_blameIn_16
    refine ⟨fun z => absurd z (show ¬ nI 64 ≤ nI t from nle ht (by omega)), fun _ => ?_⟩
    refine s_hasTick ht ?_
    rw [hr p hp g hg t ht, nI_1 t]
    have hcnt : z_sum (fun x => if tb (u.2 14 0 (p * 8 + x)) t = true then 1 else 0) 8 = z_sum (fun x => if z_W m (-1) p x t = true then 1 else 0) 8 := z_sum_congr 8 (fun x hx => by show (if _ then 1 else 0) = (if _ then 1 else 0); rw [hr p hp x hx t ht])
    refine ⟨fun z => ?_, fun z => ?_⟩
    · have hf : z_W m (-1) p g t = false := by
        cases e : z_W m (-1) p g t with
        | false => rfl
        | true => rw [e] at z; exact absurd z (by decide)
      refine ih (_, _) ⟨rfl, ?_⟩
      show nI _ = nI (_ + z_shr m p g t)
      unfold z_shr
      rw [hf]; rfl
    · have hf : z_W m (-1) p g t = true := by
        cases e : z_W m (-1) p g t with
        | true => rfl
        | false => rw [e] at z; exact absurd rfl z
      refine s_programsAt hp ht ?_
      rw [hcnt]
      have hpos : 1 ≤ z_sum (fun x => if z_W m (-1) p x t = true then 1 else 0) 8 := by
        have := z_sum_lt (f := fun _ => 0) (g := fun x => if z_W m (-1) p x t = true then 1 else 0) (j := g) 8 (fun i _ => Nat.zero_le _) hg (by simp [hf])
        have e0 : z_sum (fun _ => 0) 8 = 0 := rfl
        omega
      have hle : z_sum (fun x => if z_W m (-1) p x t = true then 1 else 0) 8 ≤ 8 * 1 := z_sum_le (fun i => by show (if _ then 1 else 0) ≤ 1; split <;> omega) 8
      refine ⟨fun z1 => absurd z1 (nI_nle (by omega) (by omega)), fun _ => ⟨nI_ne0 (by omega) (by omega), ?_⟩⟩
      rw [show (840 : Int32) = nI 840 from rfl, pk_div (by omega) (by omega) (by omega), nI_add]
      refine ih (_, _) ⟨rfl, ?_⟩
      show nI _ = nI (_ + z_shr m p g t)
      unfold z_shr
      rw [if_pos hf]
theorem C_blame {m : q_S} {a : Int32} {h : q_H} {Q : Int32 → q_H → Prop} (hok : z_ok m) (hc : z_C m h) (k : ∀ g, z_F3 h g → Q (v_blame m a) g) : wp_X4_blame a h Q := by
  have hnp := hok.1.1
  unfold wp_X4_blame v_blame at *
  refine ⟨fun z => ?_, fun z => ?_⟩
  · rw [if_pos z] at k
    refine pk_loop (σ := Int32 × q_H) (fun n i s => lp_X4_blame_19 a (fun x _ g => Q x g) n s.1 (nI i) s.2) (fun i s => z_F3 h s.2 ∧ s.1 = nI (z_sum (fun p => 840 * z_sum (z_ss (z_w m (-1) p) (z_G m p (z_w m (-1) p))) 64) i)) (z_np m) 0 (0, h) (by omega) ⟨z_F3.rf h, rfl⟩ ?_ ?_
    · rintro n ⟨x, g⟩ ⟨hg, hx⟩
      have hx : x = _ := hx
      subst hx
      have hg : z_F3 h g := hg
      unfold lp_X4_blame_19
      rw [(hg.C hc).1]
      exact ⟨fun _ => k g hg, fun z => absurd (nI_le (Nat.le_refl _) (by omega)) z⟩
    · rintro n i ⟨x, g⟩ hi ⟨hg, hx⟩ ih
      have hx : x = _ := hx
      subst hx
      have hg : z_F3 h g := hg
      unfold lp_X4_blame_19
      rw [(hg.C hc).1]
      refine ⟨fun z => absurd z (nle hi (by omega)), fun _ => ⟨fun _ => ?_, fun y => absurd z y⟩⟩
      refine s_inSpans hok (hg.C hc) (by omega) (fun g2 hg2 => ?_)
      rw [show (840 : Int32) = nI 840 from rfl, pk_mul, nI_add, nI_1 i]
      exact ih (_, _) ⟨hg.tr hg2, rfl⟩
  · rw [if_neg z] at k
    refine s_isProgram (fun n => ⟨fun _ => ?_, fun z => absurd rfl z⟩) (fun g hg e ha => ⟨fun z => absurd z (by decide), fun _ => ?_⟩)
    · have := k h (z_F3.rf h); rw [if_neg n] at this; exact this
    have kk := k h (z_F3.rf h)
    rw [if_pos ha] at kk
    subst e
    rw [cl (by omega)] at kk
    refine pk_loop (σ := Int32 × q_H) (fun n i s => lp_X4_blame_19 (nI g) (fun x _ g => Q x g) n s.1 (nI i) s.2) (fun i s => s.2 = h ∧ s.1 = nI (z_sum (fun p => z_sum (z_shr m p g) 64 * z_dr m p 0) i)) (z_np m) 0 (0, h) (by omega) ⟨rfl, rfl⟩ ?_ ?_
    · rintro n ⟨x, u⟩ ⟨e, hx⟩
      have e : u = h := e
      subst e
      have hx : x = _ := hx
      subst hx
      unfold lp_X4_blame_19
      rw [hc.1]
      exact ⟨fun _ => kk, fun z => absurd (nI_le (Nat.le_refl _) (by omega)) z⟩
    · rintro n i ⟨x, u⟩ hi ⟨e, hx⟩ ih
      have e : u = h := e
      subst e
      have hx : x = _ := hx
      subst hx
      unfold lp_X4_blame_19
      rw [hc.1]
      refine ⟨fun z => absurd z (nle hi (by omega)), fun _ => ⟨fun y => absurd y z, fun _ => ?_⟩⟩
      refine s_blameIn hok hc (by omega) hg ?_
      rw [nI_add, nI_1 i]
      exact ih (_, _) ⟨rfl, rfl⟩
theorem C_look {m : q_S} {a : Int32} {h : q_H} {Q : Int32 → q_H → Prop} (hok : z_ok m) (hc : z_C m h) (k : Q (v_look m a) h) : wp_X4_look a h Q := by
  obtain ⟨c1, cw, cr⟩ := z_C_iff.mp hc
  unfold wp_X4_look v_look at *
  refine ⟨fun y => ?_, fun y => ?_, fun y => ?_, fun y => ?_, fun y => ?_⟩
  · rw [if_pos y] at k; rw [hc.1]; exact k
  · rw [if_neg (by omega), if_pos y] at k; unfold wp_X0_size; rw [c1.2.2.2.2.2.2.1.1]; exact k
  · rw [if_neg (by omega), if_neg (by omega), if_pos y] at k; unfold wp_X0_size; rw [c1.2.2.2.2.2.2.2.1]; exact k
  · rw [if_neg (by omega), if_neg (by omega), if_neg (by omega), if_pos y] at k
    refine s_bitCount ?_
    have e : z_sum (fun t => if tb (h.2 0 0 5) t = true then 1 else 0) 64 = z_nw m 64 := z_sum_congr 64 (fun t ht => by show (if _ then 1 else 0) = (if _ then 1 else 0); rw [cw t ht])
    rw [e]; exact k
  · rw [if_neg (by omega), if_neg (by omega), if_neg (by omega), if_neg (by omega)] at k; exact k
theorem C_held {m : q_S} {a b : Int32} {h : q_H} {Q : Int32 → q_H → Prop} (hok : z_ok m) (hc : z_C m h) (k : Q (v_held m a b) h) : wp_X4_held a b h Q := by
  have hnh := hok.1.2.1
  obtain ⟨c1, cw, cr⟩ := z_C_iff.mp hc
  unfold wp_X4_held v_held at *
  refine s_chas (m := m) (n := z_nh m) (by omega) c1.2.2.2.2.2.2.1.1 (fun n => ⟨fun _ => ?_, fun z => absurd rfl z⟩) (fun i hi e ha => ⟨fun z => absurd z (by decide), fun _ => ?_⟩)
  · rw [if_neg (fun q => n q.1)] at k; exact k
  subst e
  obtain ⟨g1, g2, g3, g4⟩ := c1.2.2.2.2.2.2.1.2 i hi
  have hlt : ∀ j, j < 4 → b = nI j → Q (nI (z_ho m i j)) h := by
    intro j hj e
    subst e
    rw [if_pos ⟨ha, y_of (by omega) hj⟩, cl (by omega), cl (by omega)] at k
    exact k
  have hb : ∀ j : Nat, j < 4 → b.toInt = (j : Int) → b = nI j := by
    intro j hj e
    apply Int32.toInt_inj.mp
    rw [e, nI_toInt (by omega)]
  refine ⟨fun y => ?_, fun y => ?_, fun y => ?_, fun y => ?_, fun y => ?_⟩
  · unfold wp_X0_programOf; rw [cl (by omega), g1]
    exact ⟨show vp_in (nI i) 20 from vin (by omega) (by omega), hlt 0 (by omega) (hb 0 (by omega) y)⟩
  · unfold wp_X0_partOf; rw [cl (by omega), g2]
    exact ⟨show vp_in (nI i) 20 from vin (by omega) (by omega), hlt 1 (by omega) (hb 1 (by omega) y)⟩
  · unfold wp_X0_fromOf; rw [cl (by omega), g3]
    exact ⟨show vp_in (nI i) 20 from vin (by omega) (by omega), hlt 2 (by omega) (hb 2 (by omega) y)⟩
  · unfold wp_X0_toOf; rw [cl (by omega), g4]
    exact ⟨show vp_in (nI i) 20 from vin (by omega) (by omega), hlt 3 (by omega) (hb 3 (by omega) y)⟩
  · rw [if_neg] at k
    · exact k
    · rintro ⟨_, q1, q2⟩
      obtain ⟨j, hj, e⟩ := y_in (n := 4) (by omega) ⟨q1, q2⟩
      rw [e, nI_toInt (by omega)] at y
      omega
end
section
theorem z_nw_up (m : q_S) {a : Nat} : ∀ {b : Nat}, a ≤ b → z_nw m a ≤ z_nw m b := by
  intro b h
  induction h with
  | refl => exact Nat.le_refl _
  | @step b _ ih => exact Nat.le_trans ih (Nat.le_add_right _ _)
theorem z_nw_1 {m : q_S} {t : Nat} (h : z_wk m t = true) : z_nw m (t + 1) = z_nw m t + 1 := by
  show z_nw m t + (if z_wk m t = true then 1 else 0) = _
  rw [if_pos h]
theorem z_nw_0 {m : q_S} {t : Nat} (h : z_wk m t = false) : z_nw m (t + 1) = z_nw m t := by
  show z_nw m t + (if z_wk m t = true then 1 else 0) = _
  rw [h]; rfl
theorem z_wki_eq {m : q_S} {t : Nat} (ht : t < 64) (h : z_wk m t = true) : z_wki m (z_nw m t) = t := by
  obtain ⟨a, _, b, _⟩ := z_least_spec (f := fun x => z_wk m x && decide (z_nw m x = z_nw m t)) 64 0 t (Nat.zero_le _) (by omega) (by simp [h])
  simp only [Bool.and_eq_true, decide_eq_true_eq] at a
  have e : z_wki m (z_nw m t) ≤ t := b
  rcases Nat.lt_or_ge (z_wki m (z_nw m t)) t with h1 | h1
  · have := z_nw_up m (a := z_wki m (z_nw m t) + 1) (b := t) h1
    rw [z_nw_1 (t := z_wki m (z_nw m t)) a.1] at this
    have a2 : z_nw m (z_wki m (z_nw m t)) = z_nw m t := a.2
    omega
  · omega
theorem z_nw_le (m : q_S) : z_nw m 64 ≤ 64 * 1 := z_sum_le (fun i => by show (if _ then 1 else 0) ≤ 1; split <;> omega) 64
theorem C_waking {m : q_S} {a : Int32} {h : q_H} {Q : Int32 → q_H → Prop} (hok : z_ok m) (hc : z_C m h) (k : Q (v_waking m a) h) : wp_X4_waking a h Q := by
  obtain ⟨c1, cw, cr⟩ := z_C_iff.mp hc
  have h64 := z_nw_le m
  unfold wp_X4_waking v_waking at *
  refine ⟨fun z => ?_, fun z => ?_⟩
  · have hn : ¬ a < 0 := by
      rw [Int32.lt_iff_toInt_lt]
      have := Int32.le_iff_toInt_le.mp z
      omega
    obtain ⟨i, hi, e⟩ := nI_of hn
    subst e
    rw [cl hi] at k
    refine pk_loop (σ := Int32 × q_H) (fun n t s => lp_X4_waking_10 Q (fun _ _ g => Q (-1) g) n s.1 (nI t) s.2) (fun t s => s.2 = h ∧ z_nw m t ≤ i ∧ s.1 = nI (i - z_nw m t)) 64 0 (nI i, h) (by omega) ⟨rfl, Nat.zero_le _, rfl⟩ ?_ ?_
    · rintro n ⟨x, g⟩ ⟨e, h1, h2⟩
      have e : g = h := e
      subst e
      unfold lp_X4_waking_10
      refine ⟨fun _ => ?_, fun z => absurd (show nI 64 ≤ nI 64 from nI_le (by omega) (by omega)) z⟩
      rw [if_neg (fun q => q.2 (nI_le h1 hi))] at k
      exact k
    · rintro n t ⟨x, g⟩ ht ⟨e, h1, h2⟩ ih
      have e : g = h := e
      subst e
      have h2 : x = _ := h2
      subst h2
      unfold lp_X4_waking_10
      refine ⟨fun z => absurd z (show ¬ nI 64 ≤ nI t from nle ht (by omega)), fun _ => ?_⟩
      refine s_hasTick ht ?_
      rw [cw t ht, nI_1 t]
      refine ⟨fun z => ?_, fun z => ?_⟩
      · have hf : z_wk m t = false := by
          cases e : z_wk m t with
          | false => rfl
          | true => rw [e] at z; exact absurd z (by decide)
        exact ih (_, _) ⟨rfl, by rw [z_nw_0 hf]; exact h1, by rw [z_nw_0 hf]⟩
      · have hf : z_wk m t = true := by
          cases e : z_wk m t with
          | true => rfl
          | false => rw [e] at z; exact absurd rfl z
        have hup := z_nw_up m (a := t + 1) (b := 64) (by omega)
        rw [z_nw_1 hf] at hup
        refine ⟨fun z1 => ?_, fun z1 => ?_⟩
        · have e0 : i - z_nw m t = 0 := (nI_eq (b := 0) (by omega) (by omega)).mp z1
          have ei : i = z_nw m t := by omega
          rw [if_pos (y_of (by omega) (by omega)), ei, z_wki_eq ht hf] at k
          exact k
        · have e0 : ¬ i - z_nw m t = 0 := fun q => z1 (by show nI _ = nI 0; rw [q])
          have e1 : nI (i - z_nw m t) + (-1) = nI (i - z_nw m (t + 1)) := by
            rw [z_nw_1 hf, show i - z_nw m t = (i - (z_nw m t + 1)) + 1 by omega, pk_m1]
          rw [e1]
          exact ih (_, _) ⟨rfl, by rw [z_nw_1 hf]; omega, rfl⟩
  · have hn : a < 0 := by
      rw [Int32.lt_iff_toInt_lt]
      have : ¬ _ := fun q => z (Int32.le_iff_toInt_le.mpr q)
      omega
    rw [if_neg (fun q => q.1 hn)] at k
    exact k
theorem C_fires {m : q_S} {a : Int32} {h : q_H} {Q : Int32 → q_H → Prop} (hok : z_ok m) (hc : z_C m h) (k : Q (v_fires m a) h) : wp_X4_fires a h Q := by
  obtain ⟨c1, cw, cr⟩ := z_C_iff.mp hc
  have hnt := hok.1.2.2
  unfold wp_X4_fires v_fires at *
  refine s_chas (m := m) (n := z_nt m) (by omega) c1.2.2.2.2.2.2.2.1 (fun n => ⟨fun _ => ?_, fun z => absurd rfl z⟩) (fun i hi e ha => ⟨fun z => absurd z (by decide), fun _ => ?_⟩)
  · rw [if_neg n] at k; exact k
  rw [if_pos ha] at k
  subst e
  rw [cl (by omega)] at k
  obtain ⟨b1, b2, b3, b4⟩ := hok.2.2.2.2.2.2.2.2 i hi
  obtain ⟨g1, g2, g3, g4⟩ := c1.2.2.2.2.2.2.2.2 i hi
  obtain ⟨w1, w2, w3, w4⟩ := z_fi_spec hi b3 b4
  refine s_cticks (c := 1) (show i < 12 by omega) g3 g4 (by omega) (by omega) (fun x hx => ?_)
  have hbit : ∀ t, t < 64 → tb (h.2 0 0 5 &&& x) t = (z_wk m t && (decide (z_ti m i 2 ≤ t) && decide (t < z_ti m i 3 + 1))) := fun t ht => by rw [tb_and, cw t ht, hx t ht]
  refine s_leastTick (fun t ht h1 h2 => ?_) (fun hall => ?_)
  · have et : t = z_fi m i := by
      rw [hbit t ht] at h1
      simp only [Bool.and_eq_true, decide_eq_true_eq] at h1
      rcases Nat.lt_trichotomy t (z_fi m i) with e | e | e
      · rw [w4 t h1.2.1 e] at h1; exact absurd h1.1 (by decide)
      · exact e
      · have := h2 _ e
        rw [hbit _ (by omega), w1] at this
        simp only [Bool.true_and, Bool.and_eq_false_iff, decide_eq_false_iff_not] at this
        omega
    rw [et]; exact k
  · have := hall (z_fi m i) (by omega)
    rw [hbit _ (by omega), w1, decide_eq_true w2, decide_eq_true (by omega)] at this
    cases this
/-! ===== the order ===== -/
def z_free (nd : Nat → Nat → Bool) (S : Nat → Bool) (p : Nat) : Bool := S p && !(List.range 6).any (fun q => nd p q && S q)
def z_rdy (nd : Nat → Nat → Bool) (S : Nat → Bool) : Nat := z_least (z_free nd S) 6 0
def z_off (S : Nat → Bool) (p : Nat) : Nat → Bool := fun q => S q && !decide (q = p)
def z_some (S : Nat → Bool) : Bool := (List.range 6).any S
def z_ordv (nd : Nat → Nat → Bool) : Nat → (Nat → Bool) → Nat → Int32
  | 0, _, _ => -1
  | n + 1, S, i => if z_some S = true then (if i = 0 then nI (z_rdy nd S) else z_ordv nd n (z_off S (z_rdy nd S)) (i - 1)) else -1
def z_up (m : q_S) (t p : Nat) : Bool := decide (p < z_np m) && (z_w m (-1) p t && !(decide (0 < t) && z_w m (-1) p (t - 1)))
def v_order (m : q_S) (a b : Int32) : Int32 := if y_isT a ∧ ¬ b < 0 then z_ordv (z_nd m) 6 (z_up m a.toNatClampNeg) b.toNatClampNeg else -1
theorem z_rdy_ok {nd : Nat → Nat → Bool} (ha : z_acy nd) {S : Nat → Bool} (h : z_some S = true) : z_rdy nd S < 6 ∧ z_free nd S (z_rdy nd S) = true ∧ ∀ q, q < z_rdy nd S → z_free nd S q = false := by
  obtain ⟨p, hp, hs⟩ := z_any.mp h
  obtain ⟨x, hx, h1, h2⟩ := ha S ⟨p, hp, hs⟩
  have hf : z_free nd S x = true := by
    unfold z_free
    rw [h1, Bool.true_and, Bool.not_eq_true', z_any_f]
    intro q hq
    cases e : (nd x q && S q) with
    | false => rfl
    | true => exact absurd (Bool.and_eq_true_iff.mp e) (h2 q hq)
  obtain ⟨a1, _, a2, a3⟩ := z_least_spec (f := z_free nd S) 6 0 x (Nat.zero_le _) (by omega) hf
  exact ⟨by have : z_rdy nd S ≤ x := a2; omega, a1, fun q hq => a3 q (Nat.zero_le _) hq⟩
def z_set (S : Nat → Bool) (x : Int32) : Prop := ∀ q, q < 32 → bt x q = (decide (q < 6) && S q)
theorem z_set_0 {S : Nat → Bool} {x : Int32} (h : z_set S x) : x = 0 ↔ z_some S = false := by
  constructor
  · intro e
    subst e
    refine z_any_f.mpr (fun q hq => ?_)
    have := h q (by omega)
    rw [b_0, decide_eq_true hq, Bool.true_and] at this
    exact this.symm
  · intro e
    apply b_ext
    intro q hq
    rw [h q hq, b_0]
    by_cases e1 : q < 6
    · rw [z_any_f.mp e q e1, Bool.and_false]
    · rw [decide_eq_false e1, Bool.false_and]
theorem z_set_off {S : Nat → Bool} {x : Int32} (h : z_set S x) {p : Nat} (hp : p < 6) : z_set (z_off S p) (x &&& (((1 : Int32) <<< (nI p &&& 31)) ^^^ (-1))) := by
  intro q hq
  rw [b_and, b_xor, b_one (by omega) hq, b_m1 q hq, h q hq]
  unfold z_off
  rw [Bool.xor_true, Bool.and_assoc]
theorem z_set_and {nd : Nat → Nat → Bool} {S : Nat → Bool} {x y : Int32} {p : Nat} (h : z_set S x) (hy : ∀ q, q < 32 → bt y q = (decide (q < 6) && nd p q)) : (y &&& x) = 0 ↔ (List.range 6).any (fun q => nd p q && S q) = false := by
  constructor
  · intro e
    refine z_any_f.mpr (fun q hq => ?_)
    have := congrArg (fun z => bt z q) e
    simp only [b_and, b_0] at this
    rw [hy q (by omega), h q (by omega), decide_eq_true hq, Bool.true_and, Bool.true_and] at this
    exact this
  · intro e
    apply b_ext
    intro q hq
    rw [b_and, b_0, hy q hq, h q hq]
    by_cases e1 : q < 6
    · rw [decide_eq_true e1, Bool.true_and, Bool.true_and]; exact z_any_f.mp e q e1
    · rw [decide_eq_false e1, Bool.false_and, Bool.false_and]
theorem s_leastReady {m : q_S} {S : Nat → Bool} {x : Int32} {h : q_H} {Q : Int32 → q_H → Prop} (hok : z_ok m) (hc : z_C m h) (hx : z_set S x) (hs : z_some S = true) (k : Q (nI (z_rdy (z_nd m) S)) h) : wp_X4_leastReady x h Q := by
  obtain ⟨r1, r2, r3⟩ := z_rdy_ok hok.2.2.2.2.2.2.1.2 hs
  have hnd := hc.one.2.2.2.2.2.1
  unfold wp_X4_leastReady
  refine pk_loop (σ := q_H) (fun n i s => lp_X4_leastReady_2 x Q (fun _ g => Q (-1) g) n (nI i) s) (fun i s => s = h ∧ i ≤ z_rdy (z_nd m) S) 6 0 h (by omega) ⟨rfl, Nat.zero_le _⟩ ?_ ?_
  · rintro n s ⟨rfl, h1⟩
    omega
  · rintro n i s hi ⟨rfl, h1⟩ ih
    unfold lp_X4_leastReady_2
    refine ⟨fun z => absurd z (show ¬ nI 6 ≤ nI i from nle hi (by omega)), fun _ => ?_⟩
    refine s_hasPart (by omega) ?_
    rw [hx i (by omega), decide_eq_true hi, Bool.true_and, nI_1 i, cl (by omega)]
    have stop : z_free (z_nd m) S i = true → Q (nI i) s := by
      intro hf
      rcases Nat.lt_or_ge i (z_rdy (z_nd m) S) with e | e
      · rw [r3 i e] at hf; cases hf
      · rw [show z_rdy (z_nd m) S = i by omega] at k; exact k
    have go : z_free (z_nd m) S i = false → i + 1 ≤ z_rdy (z_nd m) S := by
      intro hf
      rcases Nat.lt_or_ge i (z_rdy (z_nd m) S) with e | e
      · exact e
      · rw [show z_rdy (z_nd m) S = i by omega, hf] at r2; cases r2
    have hset := z_set_and (p := i) hx (hnd i hi)
    refine ⟨fun z => ?_, fun z => ⟨vin hi (by omega), fun z1 => ?_, fun z1 => ?_⟩⟩
    · refine ih _ ⟨rfl, go ?_⟩
      have : S i = false := by
        cases e : S i with
        | false => rfl
        | true => rw [e] at z; exact absurd z (by decide)
      unfold z_free; rw [this]; rfl
    · have : S i = true := by
        cases e : S i with
        | true => rfl
        | false => rw [e] at z; exact absurd rfl z
      refine stop ?_
      unfold z_free; rw [this, hset.mp z1]; rfl
    · refine ih _ ⟨rfl, go ?_⟩
      unfold z_free
      have : (List.range 6).any (fun q => z_nd m i q && S q) = true := by
        cases e : (List.range 6).any (fun q => z_nd m i q && S q) with
        | true => rfl
        | false => exact absurd (hset.mpr e) z1
      rw [this]; simp
theorem s_gettingUp {m : q_S} {t : Nat} {h : q_H} {Q : Int32 → q_H → Prop} (hok : z_ok m) (hc : z_C m h) (ht : t < 64) (k : ∀ x, z_set (z_up m t) x → Q x h) : wp_X4_gettingUp (nI t) h Q := by
  have hnp := hok.1.1
  unfold wp_X4_gettingUp
  refine pk_loop (σ := Int32 × q_H) (fun n i s => lp_X4_gettingUp_4 (nI t) (fun x _ g => Q x g) n s.1 (nI i) s.2) (fun i s => s.2 = h ∧ ∀ q, q < 32 → bt s.1 q = (decide (q < i) && z_up m t q)) (z_np m) 0 (0, h) (by omega) ⟨rfl, fun q _ => by show bt 0 q = _; rw [b_0, decide_eq_false (by omega)]; rfl⟩ ?_ ?_
  · rintro n ⟨x, g⟩ ⟨e, hx⟩
    have e : g = h := e
    subst e
    have hx : ∀ q, q < 32 → bt x q = (decide (q < z_np m) && z_up m t q) := hx
    unfold lp_X4_gettingUp_4
    rw [hc.1]
    refine ⟨fun _ => k x (fun q hq => ?_), fun z => absurd (nI_le (Nat.le_refl _) (by omega)) z⟩
    rw [hx q hq]
    by_cases e : q < z_np m
    · rw [decide_eq_true e, decide_eq_true (by omega)]
    · have : z_up m t q = false := by unfold z_up; rw [decide_eq_false e]; rfl
      rw [this, Bool.and_false, Bool.and_false]
  · rintro n i ⟨x, g⟩ hi ⟨e, hx⟩ ih
    have e : g = h := e
    subst e
    have hx : ∀ q, q < 32 → bt x q = (decide (q < i) && z_up m t q) := hx
    have stay : z_up m t i = false → ∀ q, q < 32 → bt x q = (decide (q < i + 1) && z_up m t q) := by
      intro hf q hq
      rw [hx q hq]
      by_cases e : q = i
      · subst e; rw [hf, Bool.and_false, Bool.and_false]
      · congr 1
        by_cases e2 : q < i
        · rw [decide_eq_true e2, decide_eq_true (by omega)]
        · rw [decide_eq_false e2, decide_eq_false (by omega)]
    have put : z_up m t i = true → ∀ q, q < 32 → bt (x ||| ((1 : Int32) <<< (nI i &&& 31))) q = (decide (q < i + 1) && z_up m t q) := by
      intro hf q hq
      rw [b_or, b_one (by omega) hq, hx q hq]
      by_cases e : q = i
      · subst e; simp [hf]
      · by_cases e2 : q < i
        · simp [e, e2, show q < i + 1 by omega]
        · simp [e, e2, show ¬ q < i + 1 by omega]
    unfold lp_X4_gettingUp_4
    rw [hc.1]
    refine ⟨fun z => absurd z (nle hi (by omega)), fun _ => ?_⟩
    refine s_ticks hc.rows (by omega) (fun y hy => ?_)
    have hup : z_up m t i = (z_w m (-1) i t && !(decide (0 < t) && z_w m (-1) i (t - 1))) := by unfold z_up; rw [decide_eq_true hi, Bool.true_and]
    rw [nI_1 i]
    refine ⟨fun z => ?_, fun z => ?_⟩
    · have t0 : t = 0 := by
        rcases Nat.eq_zero_or_pos t with e | e
        · exact e
        · exact absurd z (show ¬ nI t ≤ nI 0 from nle e (by omega))
      refine s_hasTick ht ?_
      rw [hy t ht]
      rw [t0, decide_eq_false (by omega), Bool.false_and, Bool.not_false, Bool.and_true] at hup
      refine ⟨fun z1 => ih (_, _) ⟨rfl, stay ?_⟩, fun z1 => ih (_, _) ⟨rfl, put ?_⟩⟩
      · rw [t0, hup]
        cases e : z_w m (-1) i t with
        | false => rw [t0] at e; exact e
        | true => rw [e] at z1; exact absurd z1 (by decide)
      · rw [t0, hup]
        cases e : z_w m (-1) i t with
        | true => rw [t0] at e; exact e
        | false => rw [e] at z1; exact absurd rfl z1
    · have t0 : 0 < t := by
        rcases Nat.eq_zero_or_pos t with e | e
        · exact absurd (show nI t ≤ nI 0 by rw [e]; exact nI_le (Nat.le_refl _) (by omega)) z
        · exact e
      rw [decide_eq_true t0, Bool.true_and] at hup
      have ep : nI t - 1 = nI (t - 1) := by
        have := nI_pred (t - 1)
        rwa [show t - 1 + 1 = t by omega] at this
      rw [ep]
      refine s_hasTick (by omega) ?_
      rw [hy (t - 1) (by omega)]
      refine ⟨fun z1 => ?_, fun z1 => ?_⟩
      · have e1 : z_w m (-1) i (t - 1) = false := by
          cases e : z_w m (-1) i (t - 1) with
          | false => rfl
          | true => rw [e] at z1; exact absurd z1 (by decide)
        rw [e1, Bool.not_false, Bool.and_true] at hup
        refine s_hasTick ht ?_
        rw [hy t ht]
        refine ⟨fun z2 => ih (_, _) ⟨rfl, stay ?_⟩, fun z2 => ih (_, _) ⟨rfl, put ?_⟩⟩
        · rw [hup]
          cases e : z_w m (-1) i t with
          | false => rfl
          | true => rw [e] at z2; exact absurd z2 (by decide)
        · rw [hup]
          cases e : z_w m (-1) i t with
          | true => rfl
          | false => rw [e] at z2; exact absurd rfl z2
      · have e1 : z_w m (-1) i (t - 1) = true := by
          cases e : z_w m (-1) i (t - 1) with
          | true => rfl
          | false => rw [e] at z1; exact absurd rfl z1
        rw [e1, Bool.not_true, Bool.and_false] at hup
        refine s_hasTick ht ?_
        exact ⟨fun _ => ih (_, _) ⟨rfl, stay hup⟩, fun _ => ih (_, _) ⟨rfl, stay hup⟩⟩
theorem C_order {m : q_S} {a b : Int32} {h : q_H} {Q : Int32 → q_H → Prop} (hok : z_ok m) (hc : z_C m h) (k : Q (v_order m a b) h) : wp_X4_order a b h Q := by
  unfold wp_X4_order v_order at *
  refine s_isTick (fun n => ⟨fun _ => ?_, fun z => absurd rfl z⟩) (fun t ht e ha => ⟨fun z => absurd z (by decide), fun _ => ⟨fun z => ?_, fun z => ?_⟩⟩)
  · rw [if_neg (fun q => n q.1)] at k; exact k
  · have hn : ¬ b < 0 := by
      rw [Int32.lt_iff_toInt_lt]
      have := Int32.le_iff_toInt_le.mp z
      omega
    obtain ⟨i, hi, e2⟩ := nI_of hn
    rw [if_pos ⟨ha, hn⟩] at k
    subst e; subst e2
    rw [cl (by omega), cl hi] at k
    refine s_gettingUp hok hc ht (fun x hx => ?_)
    -- n rounds are done, n ≤ i
    refine pk_loop (σ := Int32 × q_H) (fun f n s => lp_X4_order_22 (nI i) Q (fun _ _ g => Q (-1) g) f s.1 (nI n) s.2) (fun n s => s.2 = h ∧ n ≤ i ∧ ∃ S, z_set S s.1 ∧ z_ordv (z_nd m) 6 (z_up m t) i = z_ordv (z_nd m) (6 - n) S (i - n)) 6 0 (x, h) (by omega) ⟨rfl, Nat.zero_le _, z_up m t, hx, rfl⟩ ?_ ?_
    · rintro n ⟨y, g⟩ ⟨e, h1, S, hS, he⟩
      have e : g = h := e
      subst e
      unfold lp_X4_order_22
      refine ⟨fun _ => ?_, fun z => absurd (show nI 6 ≤ nI 6 from nI_le (by omega) (by omega)) z⟩
      rw [he] at k
      exact k
    · rintro f n ⟨y, g⟩ hn6 ⟨e, h1, S, hS, he⟩ ih
      have e : g = h := e
      subst e
      have hS : z_set S y := hS
      unfold lp_X4_order_22
      rw [show 6 - n = (6 - (n + 1)) + 1 by omega] at he
      refine ⟨fun z => absurd z (show ¬ nI 6 ≤ nI n from nle hn6 (by omega)), fun _ => ⟨fun z1 => ?_, fun z1 => ?_⟩⟩
      · have e0 := (z_set_0 hS).mp z1
        have he : _ = (if z_some S = true then _ else _) := he
        rw [e0] at he
        rw [he] at k
        exact k
      · have e0 : z_some S = true := by
          cases e : z_some S with
          | true => rfl
          | false => exact absurd ((z_set_0 hS).mpr e) z1
        obtain ⟨r1, _, _⟩ := z_rdy_ok hok.2.2.2.2.2.2.1.2 e0
        have he : z_ordv (z_nd m) 6 (z_up m t) i = (if z_some S = true then (if i - n = 0 then nI (z_rdy (z_nd m) S) else z_ordv (z_nd m) (6 - (n + 1)) (z_off S (z_rdy (z_nd m) S)) (i - n - 1)) else -1) := he
        rw [if_pos e0] at he
        refine s_leastReady hok hc hS e0 ?_
        rw [nI_1 n]
        refine ⟨fun z2 => ?_, fun z2 => ⟨fun z3 => absurd z3 (w_m1 _ (by omega)), fun _ => ?_⟩⟩
        · have := (nI_eq (by omega) hi).mp z2
          rw [if_pos (by omega)] at he
          rw [he] at k
          exact k
        · have : n ≠ i := fun q => z2 (by rw [q])
          rw [if_neg (by omega)] at he
          exact ih (_, _) ⟨rfl, by omega, _, z_set_off hS r1, by rw [he, show i - n - 1 = i - (n + 1) by omega]⟩
  · have hn : b < 0 := by
      rw [Int32.lt_iff_toInt_lt]
      have : ¬ _ := fun q => z (Int32.le_iff_toInt_le.mpr q)
      omega
    rw [if_neg (fun q => q.2 hn)] at k
    exact k
end
section
/-! ===== what changes the state ===== -/
def z_s2 (f : Nat → Nat → Nat) (p s v : Nat) : Nat → Nat → Nat := fun a b => if a = p ∧ b = s then v else f a b
abbrev y_up3 (a b c : Int32) (M : Int32) : Prop := ¬ a < 0 ∧ ¬ b < a ∧ ¬ c < b ∧ ¬ M < c
-- part
def z_part (m : q_S) (a b c d : Nat) : q_S := (z_np m + 1, fun p s => if p = z_np m then (if s = 0 then a else if s = 1 then b else if s = 2 then c else if s = 3 then d else z_dr m p s) else z_dr m p s, z_co m, z_ri m, fun p s => if p = z_np m then 64 else z_ru m p s, z_nd m, z_nh m, z_ho m, z_nt m, z_ti m)
abbrev y_partOk (m : q_S) (a b c d : Int32) : Prop := z_np m < 6 ∧ y_up3 d c b 99 ∧ ¬ a < b ∧ ¬ 99 < a
-- rise
def z_rise (m : q_S) (p : Nat) (a b c x y z : Nat) : q_S := (z_np m, z_dr m, fun q s => if q = p then (if s = 1 then a else if s = 2 then b else if s = 3 then c else z_co m q s) else z_co m q s, fun q s => if q = p then (if s = 1 then x else if s = 2 then y else if s = 3 then z else z_ri m q s) else z_ri m q s, z_ru m, z_nd m, z_nh m, z_ho m, z_nt m, z_ti m)
abbrev y_riseOk (m : q_S) (p a b c x y z : Int32) : Prop := y_isP m p ∧ y_up3 a b c 999 ∧ y_up3 x y z 9
-- rule
def z_rule (m : q_S) (p a b c : Nat) : q_S := (z_np m, z_dr m, z_co m, z_ri m, fun q s => if q = p then (if s = 0 then a else if s = 1 then b else if s = 2 then c else z_ru m q s) else z_ru m q s, z_nd m, z_nh m, z_ho m, z_nt m, z_ti m)
abbrev y_ruleOk (m : q_S) (p a b c : Int32) : Prop := y_isP m p ∧ y_up3 a b c 64
-- need
def z_need (m : q_S) (p q : Nat) (is : Bool) : q_S := (z_np m, z_dr m, z_co m, z_ri m, z_ru m, fun a b => if a = p ∧ b = q then is else z_nd m a b, z_nh m, z_ho m, z_nt m, z_ti m)
def z_leads (m : q_S) (p q : Nat) : Bool := z_clo (z_nd m) 6 (fun x => decide (x = p)) q
-- hold, back, timer
def z_hold (m : q_S) (g p a b : Nat) : q_S := (z_np m, z_dr m, z_co m, z_ri m, z_ru m, z_nd m, z_nh m + 1, fun i s => if i = z_nh m then (if s = 0 then g else if s = 1 then p else if s = 2 then a else if s = 3 then b else z_ho m i s) else z_ho m i s, z_nt m, z_ti m)
def z_back (m : q_S) (i t : Nat) : q_S := (z_np m, z_dr m, z_co m, z_ri m, z_ru m, z_nd m, z_nh m, fun j s => if j = i ∧ s = 3 then t else z_ho m j s, z_nt m, z_ti m)
def z_timer (m : q_S) (g p a b : Nat) : q_S := (z_np m, z_dr m, z_co m, z_ri m, z_ru m, z_nd m, z_nh m, z_ho m, z_nt m + 1, fun i s => if i = z_nt m then (if s = 0 then g else if s = 1 then p else if s = 2 then a else if s = 3 then b else z_ti m i s) else z_ti m i s)
theorem y_up3_nat {a b c : Int32} {M : Nat} (hM : M < 2 ^ 31) (h : y_up3 a b c (nI M)) : ∃ x y z, a = nI x ∧ b = nI y ∧ c = nI z ∧ x ≤ y ∧ y ≤ z ∧ z ≤ M := by
  obtain ⟨h1, h2, h3, h4⟩ := h
  obtain ⟨x, hx, rfl⟩ := nI_of h1
  have hb : ¬ b < 0 := by
    intro q
    apply h2
    rw [Int32.lt_iff_toInt_lt] at q ⊢
    rw [nI_toInt hx]
    rw [Int32.toInt_zero] at q
    omega
  obtain ⟨y, hy, rfl⟩ := nI_of hb
  have hc : ¬ c < 0 := by
    intro q
    apply h3
    rw [Int32.lt_iff_toInt_lt] at q ⊢
    rw [nI_toInt hy]
    rw [Int32.toInt_zero] at q
    omega
  obtain ⟨z, hz, rfl⟩ := nI_of hc
  have e1 : x ≤ y := Nat.le_of_not_lt (fun q => h2 (nI_lt q hx))
  have e2 : y ≤ z := Nat.le_of_not_lt (fun q => h3 (nI_lt q hy))
  have e3 : z ≤ M := Nat.le_of_not_lt (fun q => h4 (nI_lt q hz))
  exact ⟨x, y, z, rfl, rfl, rfl, e1, e2, e3⟩
theorem s_rises {a b c M : Int32} {h : q_H} {Q : Int32 → q_H → Prop} (k0 : ¬ y_up3 a b c M → Q 0 h) (k1 : y_up3 a b c M → Q 1 h) : wp_X4_rises a b c M h Q := by
  unfold wp_X4_rises
  refine ⟨fun z => k0 (fun q => q.1 z), fun z => ⟨fun z1 => k0 (fun q => q.2.1 z1), fun z1 => ⟨fun z2 => k0 (fun q => q.2.2.1 z2), fun z2 => ⟨fun z3 => k0 (fun q => q.2.2.2 z3), fun z3 => k1 ⟨z, z1, z2, z3⟩⟩⟩⟩⟩
theorem z_acy_np {m : q_S} (hok : z_ok m) : ∀ p q, z_nd m p q = true → p < z_np m ∧ q < z_np m := hok.2.2.2.2.2.2.1.1
theorem z_part_ok {m : q_S} (hok : z_ok m) (h6 : z_np m < 6) {a b c d : Nat} (ha : a ≤ 99) (hb : b ≤ 99) (hc : c ≤ 99) (hd : d ≤ 99) : z_ok (z_part m a b c d) := by
  obtain ⟨⟨h1, h2, h3⟩, h4, h5, h7, h8, h9, ⟨h10, h11⟩, h12, h13⟩ := hok
  refine ⟨⟨by show z_np m + 1 ≤ 6; omega, h2, h3⟩, fun p s => ?_, h5, h7, fun p => ?_, fun p => ?_, ⟨fun p q h => ?_, h11⟩, fun i hi => ?_, fun i hi => ?_⟩
  · have := h4 p s
    show (if p = z_np m then (if s = 0 then a else if s = 1 then b else if s = 2 then c else if s = 3 then d else z_dr m p s) else z_dr m p s) ≤ 99
    repeat' split
    all_goals assumption
  · obtain ⟨g1, g2, g3, g4, g5⟩ := h8 p
    refine ⟨g1, g2, g3, g4, fun hp => ?_⟩
    have hp : z_np m + 1 ≤ p := hp
    show (if p = z_np m then 64 else z_ru m p 0) = 64
    rw [if_neg (by omega)]
    exact g5 (by omega)
  · have := h9 p
    show (if p = z_np m then 64 else z_ru m p 0) ≤ (if p = z_np m then 64 else z_ru m p 1) ∧ (if p = z_np m then 64 else z_ru m p 1) ≤ (if p = z_np m then 64 else z_ru m p 2) ∧ (if p = z_np m then 64 else z_ru m p 2) ≤ 64
    split
    · omega
    · exact this
  · have := h10 p q h
    exact ⟨Nat.lt_succ_of_lt this.1, Nat.lt_succ_of_lt this.2⟩
  · have := h12 i hi
    exact ⟨this.1, Nat.lt_succ_of_lt this.2.1, this.2.2⟩
  · have := h13 i hi
    exact ⟨this.1, Nat.lt_succ_of_lt this.2.1, this.2.2⟩
theorem z_ru_64 {m : q_S} (hok : z_ok m) {p s : Nat} (hp : z_np m ≤ p) (hs : s < 3) : z_ru m p s = 64 := by
  have h0 := (hok.2.2.2.2.1 p).2.2.2.2 hp
  obtain ⟨h1, h2, h3⟩ := hok.2.2.2.2.2.1 p
  match s, hs with
  | 0, _ => exact h0
  | 1, _ => omega
  | 2, _ => omega
  | n + 3, hs => omega
/-- what stays of the class's half when only ints of kinds ahead of 7 and the number of parts change -/
theorem z_wk_same {m m' : q_S} (h1 : z_nt m' = z_nt m) (h2 : z_ti m' = z_ti m) : z_wk m' = z_wk m := by
  have e : z_ends m' = z_ends m := by funext l t; unfold z_ends; rw [h1, h2]
  have l : z_lat m' = z_lat m := by
    funext t
    induction t with
    | zero => rfl
    | succ t ih => show (if z_ends m' (z_lat m' t) t = true then t + 1 else z_lat m' t) = (if z_ends m (z_lat m t) t = true then t + 1 else z_lat m t); rw [e, ih]
  funext t
  unfold z_wk
  rw [e, l]
theorem z_W_same {m m' : q_S} (h1 : z_nt m' = z_nt m) (h2 : z_ti m' = z_ti m) (h3 : z_nh m' = z_nh m) (h4 : z_ho m' = z_ho m) (h5 : z_nd m' = z_nd m) (lo : Int32) : z_W m' lo = z_W m lo := by
  have e : z_base m' lo = z_base m lo := by
    funext g t p
    unfold z_base z_fi
    rw [h1, h2, h3, h4, z_wk_same h1 h2]
  funext p g t
  unfold z_W
  rw [e, h5]
theorem z_wk_part (m : q_S) (a b c d : Nat) : z_wk (z_part m a b c d) = z_wk m := z_wk_same (m := m) (m' := z_part m a b c d) rfl rfl
theorem z_W_part (m : q_S) (a b c d : Nat) (lo : Int32) : z_W (z_part m a b c d) lo = z_W m lo := z_W_same (m := m) (m' := z_part m a b c d) rfl rfl rfl rfl rfl lo
theorem z_wk_rise (m : q_S) (p a b c x y z : Nat) : z_wk (z_rise m p a b c x y z) = z_wk m := z_wk_same (m := m) (m' := z_rise m p a b c x y z) rfl rfl
theorem z_W_rise (m : q_S) (p a b c x y z : Nat) (lo : Int32) : z_W (z_rise m p a b c x y z) lo = z_W m lo := z_W_same (m := m) (m' := z_rise m p a b c x y z) rfl rfl rfl rfl rfl lo
theorem z_wk_rule (m : q_S) (p a b c : Nat) : z_wk (z_rule m p a b c) = z_wk m := z_wk_same (m := m) (m' := z_rule m p a b c) rfl rfl
theorem z_W_rule (m : q_S) (p a b c : Nat) (lo : Int32) : z_W (z_rule m p a b c) lo = z_W m lo := z_W_same (m := m) (m' := z_rule m p a b c) rfl rfl rfl rfl rfl lo
theorem C_part {m : q_S} {a b c d : Int32} {h : q_H} {Q : Int32 → q_H → Prop} (hok : z_ok m) (hc : z_C m h) (k0 : ¬ y_partOk m a b c d → Q (-1) h) (k1 : y_partOk m a b c d → ∀ g, z_C (z_part m a.toNatClampNeg b.toNatClampNeg c.toNatClampNeg d.toNatClampNeg) g → z_Fc h g → Q (nI (z_np m)) g) : wp_X4_part a b c d h Q := by
  have hnp := hok.1.1
  obtain ⟨c1, cw, cr⟩ := z_C_iff.mp hc
  unfold wp_X4_part
  rw [hc.1]
  refine ⟨fun z => k0 (fun q => ?_), fun z => ?_⟩
  · have := (nI_leI (a := 6) (b := z_np m) (by omega) (by omega)).mp z
    have := q.1; omega
  have h6 : z_np m < 6 := Nat.lt_of_not_le (fun q => z (nI_le q (by omega)))
  refine s_rises (fun n => ⟨fun _ => k0 (fun q => n q.2.1), fun y => absurd rfl y⟩) (fun hu => ⟨fun y => absurd y (by decide), fun _ => ⟨fun z1 => k0 (fun q => q.2.2.1 z1), fun z1 => ⟨fun z2 => ?_, fun z2 => k0 (fun q => ?_)⟩⟩⟩)
  · have h99 : ¬ 99 < a := by
      rw [Int32.lt_iff_toInt_lt]
      have := Int32.le_iff_toInt_le.mp z2
      omega
    have okp : y_partOk m a b c d := ⟨h6, hu, z1, h99⟩
    obtain ⟨x, y, w, rfl, rfl, rfl, e1, e2, e3⟩ := y_up3_nat (M := 99) (by omega) hu
    have ha : ¬ a < 0 := by
      intro q
      apply z1
      rw [Int32.lt_iff_toInt_lt] at q ⊢
      rw [nI_toInt (by omega)]
      rw [Int32.toInt_zero] at q
      omega
    obtain ⟨v, hv, rfl⟩ := nI_of ha
    have hv9 : v ≤ 99 := (nI_leI hv (by omega)).mp z2
    rw [hc.1, cl (by omega)]
    refine ⟨vin h6 (by omega), ?_⟩
    unfold wp_X1_setDrains
    have k1 := k1 okp
    rw [cl hv, cl (by omega), cl (by omega), cl (by omega)] at k1
    have er : (q_sI (q_sI (q_sI (q_sI h 3 (z_np m) 0 (nI v)) 3 (z_np m) 1 (nI w)) 3 (z_np m) 2 (nI y)) 3 (z_np m) 3 (nI x)).1 0 0 1 = nI (z_np m) := hc.1
    dsimp only
    rw [er, nI_1, nI_pred]
    refine k1 _ ?_ (fun k hk => ?_)
    · rw [z_C_iff]
      refine ⟨?_, ?_, ?_⟩
      · obtain ⟨d1, d2, d3, d4, d5, d6, d7, d8⟩ := c1
        refine ⟨q_sI_r, fun p hp s hs => ?_, d3, d4, fun p hp => ?_, d6, d7, d8⟩
        · show (q_sI (q_sI (q_sI (q_sI (q_sI h 3 (z_np m) 0 (nI v)) 3 (z_np m) 1 (nI w)) 3 (z_np m) 2 (nI y)) 3 (z_np m) 3 (nI x)) 0 0 1 _).1 3 p s = nI (if p = z_np m then (if s = 0 then v else if s = 1 then w else if s = 2 then y else if s = 3 then x else z_dr m p s) else z_dr m p s)
          rw [q_sI_o (by omega)]
          by_cases e : p = z_np m
          · subst e
            rw [if_pos rfl]
            match s, hs with
            | 0, _ => rw [q_sI_o (by omega), q_sI_o (by omega), q_sI_o (by omega), q_sI_r]; rfl
            | 1, _ => rw [q_sI_o (by omega), q_sI_o (by omega), q_sI_r]; rfl
            | 2, _ => rw [q_sI_o (by omega), q_sI_r]; rfl
            | 3, _ => rw [q_sI_r]; rfl
            | n + 4, hs => omega
          · rw [if_neg e, q_sI_o (by omega), q_sI_o (by omega), q_sI_o (by omega), q_sI_o (by omega)]
            exact d2 p hp s hs
        · have hru : ∀ s, s < 3 → z_ru (z_part m v w y x) p s = z_ru m p s := by
            intro s hs
            show (if p = z_np m then 64 else z_ru m p s) = _
            by_cases e : p = z_np m
            · rw [if_pos e, z_ru_64 hok (by omega) hs]
            · rw [if_neg e]
          rw [hru 0 (by omega), hru 1 (by omega), hru 2 (by omega)]
          exact d5 p hp
      · rw [z_wk_part]; exact cw
      · intro p hp g hg t ht
        rw [z_W_part]
        exact cr p hp g hg t ht
    · funext i j
      rw [q_sI_o (by omega), q_sI_o (by omega), q_sI_o (by omega), q_sI_o (by omega), q_sI_o (by omega)]
  · have h99 := q.2.2.2
    rw [Int32.lt_iff_toInt_lt] at h99
    apply z2
    rw [Int32.le_iff_toInt_le]
    omega
end
section
theorem z_rise_ok {m : q_S} (hok : z_ok m) {p a b c x y z : Nat} (h1 : a ≤ b) (h2 : b ≤ c) (h3 : c ≤ 999) (h4 : x ≤ y) (h5 : y ≤ z) (h6 : z ≤ 9) : z_ok (z_rise m p a b c x y z) := by
  obtain ⟨g1, g4, g5, g7, g8, g9, g10, g12, g13⟩ := hok
  refine ⟨g1, g4, fun q s => ?_, fun q s => ?_, fun q => ?_, g9, g10, g12, g13⟩
  · have := g5 q s
    show (if q = p then (if s = 1 then a else if s = 2 then b else if s = 3 then c else z_co m q s) else z_co m q s) ≤ 999
    repeat' split
    all_goals omega
  · have := g7 q s
    show (if q = p then (if s = 1 then x else if s = 2 then y else if s = 3 then z else z_ri m q s) else z_ri m q s) ≤ 9
    repeat' split
    all_goals omega
  · obtain ⟨e1, e2, e3, e4, e5⟩ := g8 q
    show (if q = p then z_co m q 0 else z_co m q 0) = 0 ∧ (if q = p then z_ri m q 0 else z_ri m q 0) = 0 ∧ (if q = p then x else z_ri m q 1) ≤ (if q = p then y else z_ri m q 2) ∧ (if q = p then y else z_ri m q 2) ≤ (if q = p then z else z_ri m q 3) ∧ _
    refine ⟨by split <;> exact e1, by split <;> exact e2, by split <;> omega, by split <;> omega, e5⟩
theorem C_rise {m : q_S} {p a b c x y z : Int32} {h : q_H} {Q : Int32 → q_H → Prop} (hok : z_ok m) (hc : z_C m h) (k0 : ¬ y_riseOk m p a b c x y z → Q 0 h) (k1 : y_riseOk m p a b c x y z → ∀ g, z_C (z_rise m p.toNatClampNeg a.toNatClampNeg b.toNatClampNeg c.toNatClampNeg x.toNatClampNeg y.toNatClampNeg z.toNatClampNeg) g → z_Fc h g → Q 1 g) : wp_X4_rise p a b c x y z h Q := by
  have hnp := hok.1.1
  obtain ⟨c1, cw, cr⟩ := z_C_iff.mp hc
  unfold wp_X4_rise
  refine s_isPart hok hc.1 (fun n => ⟨fun _ => k0 (fun q => n q.1), fun y => absurd rfl y⟩) (fun j hj e hp => ⟨fun y => absurd y (by decide), fun _ => ?_⟩)
  refine s_rises (fun n => ⟨fun _ => k0 (fun q => n q.2.1), fun y => absurd rfl y⟩) (fun hu => ⟨fun y => absurd y (by decide), fun _ => ?_⟩)
  refine s_rises (fun n => ⟨fun _ => k0 (fun q => n q.2.2), fun y => absurd rfl y⟩) (fun hv => ⟨fun y => absurd y (by decide), fun _ => ?_⟩)
  have k1 := k1 ⟨hp, hu, hv⟩
  obtain ⟨a', b', c', rfl, rfl, rfl, e1, e2, e3⟩ := y_up3_nat (M := 999) (by omega) hu
  obtain ⟨x', y', z', rfl, rfl, rfl, e4, e5, e6⟩ := y_up3_nat (M := 9) (by omega) hv
  subst e
  rw [cl (by omega), cl (by omega), cl (by omega), cl (by omega), cl (by omega), cl (by omega), cl (by omega)] at k1
  rw [cl (by omega)]
  refine ⟨vin (by omega) (by omega), ?_⟩
  unfold wp_X1_setCosts
  refine ⟨vin (by omega) (by omega), ?_⟩
  unfold wp_X1_setRising
  dsimp only
  refine k1 _ ?_ (fun k hk => ?_)
  · rw [z_C_iff]
    refine ⟨?_, ?_, ?_⟩
    · obtain ⟨d1, d2, d3, d4, d5, d6, d7, d8⟩ := c1
      refine ⟨d1, d2, fun p hp s hs => ?_, fun p hp s hs => ?_, d5, d6, d7, d8⟩
      · show (q_sI (q_sI (q_sI h 4 j 1 (nI a')) 4 j 2 (nI b')) 4 j 3 (nI c')).1 4 p s = nI (if p = j then (if s = 1 then a' else if s = 2 then b' else if s = 3 then c' else z_co m p s) else z_co m p s)
        by_cases e : p = j
        · subst e
          rw [if_pos rfl]
          match s, hs with
          | 0, _ => rw [q_sI_o (by omega), q_sI_o (by omega), q_sI_o (by omega)]; exact d3 p (by omega) 0 (by omega)
          | 1, _ => rw [q_sI_o (by omega), q_sI_o (by omega), q_sI_r]; rfl
          | 2, _ => rw [q_sI_o (by omega), q_sI_r]; rfl
          | 3, _ => rw [q_sI_r]; rfl
          | n + 4, hs => omega
        · rw [if_neg e, q_sI_o (by omega), q_sI_o (by omega), q_sI_o (by omega)]
          exact d3 p hp s hs
      · show (q_sI (q_sI (q_sI h 5 j 1 (nI x')) 5 j 2 (nI y')) 5 j 3 (nI z')).1 5 p s = nI (if p = j then (if s = 1 then x' else if s = 2 then y' else if s = 3 then z' else z_ri m p s) else z_ri m p s)
        by_cases e : p = j
        · subst e
          rw [if_pos rfl]
          match s, hs with
          | 0, _ => rw [q_sI_o (by omega), q_sI_o (by omega), q_sI_o (by omega)]; exact d4 p (by omega) 0 (by omega)
          | 1, _ => rw [q_sI_o (by omega), q_sI_o (by omega), q_sI_r]; rfl
          | 2, _ => rw [q_sI_o (by omega), q_sI_r]; rfl
          | 3, _ => rw [q_sI_r]; rfl
          | n + 4, hs => omega
        · rw [if_neg e, q_sI_o (by omega), q_sI_o (by omega), q_sI_o (by omega)]
          exact d4 p hp s hs
    · rw [z_wk_rise]; exact cw
    · intro p hp g hg t ht
      rw [z_W_rise]
      exact cr p hp g hg t ht
  · funext i j
    rw [q_sI_o (by omega), q_sI_o (by omega), q_sI_o (by omega), q_sI_o (by omega), q_sI_o (by omega), q_sI_o (by omega)]
theorem z_rule_ok {m : q_S} (hok : z_ok m) {p a b c : Nat} (hp : p < z_np m) (h1 : a ≤ b) (h2 : b ≤ c) (h3 : c ≤ 64) : z_ok (z_rule m p a b c) := by
  obtain ⟨g1, g4, g5, g7, g8, g9, g10, g12, g13⟩ := hok
  refine ⟨g1, g4, g5, g7, fun q => ?_, fun q => ?_, g10, g12, g13⟩
  · obtain ⟨e1, e2, e3, e4, e5⟩ := g8 q
    refine ⟨e1, e2, e3, e4, fun hq => ?_⟩
    have hq : z_np m ≤ q := hq
    show (if q = p then a else z_ru m q 0) = 64
    rw [if_neg (by omega)]
    exact e5 hq
  · have := g9 q
    show (if q = p then a else z_ru m q 0) ≤ (if q = p then b else z_ru m q 1) ∧ (if q = p then b else z_ru m q 1) ≤ (if q = p then c else z_ru m q 2) ∧ (if q = p then c else z_ru m q 2) ≤ 64
    split
    · omega
    · exact this
/-- the class's half with other thresholds of part p -/
theorem z_C_rule {m : q_S} {p a b c : Nat} {h : q_H} (hc : z_C m h) (hp : p < 6) : z_C (z_rule m p a b c) (q_sI (q_sI (q_sI h 6 p 1 (nI a)) 6 p 2 (nI b)) 6 p 3 (nI c)) := by
  obtain ⟨c1, cw, cr⟩ := z_C_iff.mp hc
  rw [z_C_iff]
  refine ⟨?_, ?_, ?_⟩
  · obtain ⟨d1, d2, d3, d4, d5, d6, d7, d8⟩ := c1
    refine ⟨d1, d2, d3, d4, fun q hq => ?_, d6, d7, d8⟩
    show _ = _ ∧ _ = nI (if q = p then a else z_ru m q 0) ∧ _ = nI (if q = p then b else z_ru m q 1) ∧ _ = nI (if q = p then c else z_ru m q 2) ∧ _
    obtain ⟨f0, f1, f2, f3, f4⟩ := d5 q hq
    by_cases e : q = p
    · subst e
      rw [if_pos rfl, if_pos rfl, if_pos rfl]
      refine ⟨?_, ?_, ?_, q_sI_r, ?_⟩
      · rw [q_sI_o (by omega), q_sI_o (by omega), q_sI_o (by omega)]; exact f0
      · rw [q_sI_o (by omega), q_sI_o (by omega), q_sI_r]
      · rw [q_sI_o (by omega), q_sI_r]
      · rw [q_sI_o (by omega), q_sI_o (by omega), q_sI_o (by omega)]; exact f4
    · rw [if_neg e, if_neg e, if_neg e, q_sI_o (by omega), q_sI_o (by omega), q_sI_o (by omega), q_sI_o (by omega), q_sI_o (by omega), q_sI_o (by omega), q_sI_o (by omega), q_sI_o (by omega), q_sI_o (by omega), q_sI_o (by omega), q_sI_o (by omega), q_sI_o (by omega), q_sI_o (by omega), q_sI_o (by omega), q_sI_o (by omega)]
      exact ⟨f0, f1, f2, f3, f4⟩
  · rw [z_wk_rule]; exact cw
  · intro p hp g hg t ht
    rw [z_W_rule]
    exact cr p hp g hg t ht
theorem z_Fc_rule {h : q_H} {p : Nat} {x y z : Int32} : z_Fc h (q_sI (q_sI (q_sI h 6 p 1 x) 6 p 2 y) 6 p 3 z) := by
  intro k hk
  funext i j
  rw [q_sI_o (by omega), q_sI_o (by omega), q_sI_o (by omega)]
theorem C_rule {m : q_S} {p a b c : Int32} {h : q_H} {Q : Int32 → q_H → Prop} (hok : z_ok m) (hc : z_C m h) (k0 : ¬ y_ruleOk m p a b c → Q 0 h) (k1 : y_ruleOk m p a b c → ∀ g, z_C (z_rule m p.toNatClampNeg a.toNatClampNeg b.toNatClampNeg c.toNatClampNeg) g → z_Fc h g → Q 1 g) : wp_X4_rule p a b c h Q := by
  have hnp := hok.1.1
  unfold wp_X4_rule
  refine s_isPart hok hc.1 (fun n => ⟨fun _ => k0 (fun q => n q.1), fun y => absurd rfl y⟩) (fun j hj e hp => ⟨fun y => absurd y (by decide), fun _ => ?_⟩)
  refine s_rises (fun n => ⟨fun _ => k0 (fun q => n q.2), fun y => absurd rfl y⟩) (fun hu => ⟨fun y => absurd y (by decide), fun _ => ?_⟩)
  have k1 := k1 ⟨hp, hu⟩
  obtain ⟨a', b', c', rfl, rfl, rfl, e1, e2, e3⟩ := y_up3_nat (M := 64) (by omega) hu
  subst e
  rw [cl (by omega), cl (by omega), cl (by omega), cl (by omega)] at k1
  rw [cl (by omega)]
  refine ⟨vin (by omega) (by omega), ?_⟩
  unfold wp_X1_setThresholds
  exact k1 _ (z_C_rule hc (by omega)) z_Fc_rule
/-- after the needs, holds, timers or wakings have changed: the rows are gathered anew -/
theorem s_regather {m : q_S} {h : q_H} {Q : q_H → Prop} (hok : z_ok m) (hc : z_C1 m h) (hw : ∀ t, t < 64 → tb (h.2 0 0 5) t = z_wk m t) (k : ∀ g, z_C m g → z_Fc h g → Q g) : wp_X4_gatherWants 0 (-1) h Q := by
  refine s_gather hok hc hw (by omega) (fun f hf => k _ ?_ (fun _ _ => rfl))
  rw [z_C_iff]
  refine ⟨hc.ints (fun _ _ => rfl), ?_, ?_⟩
  · rw [q_aL_ne (by omega)]; exact hw
  · rw [q_aL_at]; exact hf
/-! need -/
/-- a set in an int, k rounds of steps from p at least, and within what is closed -/
def z_J (m : q_S) (p k : Nat) (x : Int32) : Prop := (∀ a, a < 32 → 6 ≤ a → bt x a = false) ∧ (∀ a, a < 6 → z_clo (z_nd m) k (fun x => decide (x = p)) a = true → bt x a = true) ∧ ∀ T, z_closed (z_nd m) T → T p = true → ∀ a, a < 6 → bt x a = true → T a = true
/-- in a round from x0 the parts ahead of n are done -/
def z_J1 (m : q_S) (p n : Nat) (x0 x : Int32) : Prop := (∀ a, a < 32 → 6 ≤ a → bt x a = false) ∧ (∀ a, a < 6 → bt x0 a = true → bt x a = true) ∧ (∀ a b, a < n → a < 6 → b < 6 → bt x0 a = true → z_nd m a b = true → bt x b = true) ∧ ∀ T, z_closed (z_nd m) T → T p = true → ∀ a, a < 6 → bt x a = true → T a = true
theorem z_J_0 (m : q_S) {p : Nat} (hp : p < 6) : z_J m p 0 ((1 : Int32) <<< (nI p &&& 31)) := by
  refine ⟨fun a ha h6 => ?_, fun a ha h => ?_, fun T _ hT a ha h => ?_⟩
  · rw [b_one (by omega) ha, decide_eq_false (by omega)]
  · have h : decide (a = p) = true := h
    rw [b_one (by omega) (by omega)]; exact h
  · rw [b_one (by omega) (by omega)] at h
    have : a = p := of_decide_eq_true h
    rw [this]; exact hT
theorem z_J_1 {m : q_S} {p k : Nat} {x : Int32} (h : z_J m p k x) : z_J1 m p 0 x x := ⟨h.1, fun _ _ h => h, fun a b h => absurd h (by omega), h.2.2⟩
theorem z_J_n {m : q_S} {p k : Nat} {x0 x : Int32} (h : z_J m p k x0) (h1 : z_J1 m p 6 x0 x) : z_J m p (k + 1) x := by
  refine ⟨h1.1, fun a ha h2 => ?_, h1.2.2.2⟩
  have h2 : (z_clo (z_nd m) k (fun x => decide (x = p)) a || (List.range 6).any (fun q => z_clo (z_nd m) k (fun x => decide (x = p)) q && z_nd m q a)) = true := h2
  rcases Bool.or_eq_true_iff.mp h2 with h2 | h2
  · exact h1.2.1 a ha (h.2.1 a ha h2)
  · obtain ⟨q, hq, hh⟩ := z_any.mp h2
    obtain ⟨g1, g2⟩ := Bool.and_eq_true_iff.mp hh
    exact h1.2.2.1 q a hq hq ha (h.2.1 q hq g1) g2
theorem z_J_end {m : q_S} {p k : Nat} {x : Int32} (hp : p < 6) (hk : 5 ≤ k) (h : z_J m p k x) : ∀ q, q < 6 → bt x q = z_leads m p q := by
  refine z_clo_eq (S := fun x => decide (x = p)) hk h.2.1 (fun T hT hS a ha h1 => h.2.2 T hT (hS p hp (decide_eq_true rfl)) a ha h1)
theorem s_leadsTo {m : q_S} {p q : Nat} {h : q_H} {Q : Int32 → q_H → Prop} (hc : z_C1 m h) (hp : p < 6) (hq : q < 6) (k : Q (bI (z_leads m p q)) h) : wp_X4_leadsTo (nI p) (nI q) h Q := by
  have hnd := hc.2.2.2.2.2.1
  unfold wp_X4_leadsTo
  refine pk_loop (σ := Int32 × q_H) (fun n i s => lp_X4_leadsTo_7 (nI q) _ n s.1 (nI i) s.2) (fun i s => s.2 = h ∧ 1 ≤ i ∧ z_J m p (i - 1) s.1) 6 1 (_, h) (by omega) ⟨rfl, Nat.le_refl 1, z_J_0 m hp⟩ ?_ ?_
  · rintro n ⟨x, g⟩ ⟨e, h1, hJ⟩
    have e : g = h := e
    subst e
    have hJ : z_J m p 5 x := hJ
    unfold lp_X4_leadsTo_7
    refine ⟨fun _ => ?_, fun z => absurd (show nI 6 ≤ nI 6 from nI_le (by omega) (by omega)) z⟩
    refine s_hasPart (by omega) ?_
    rw [z_J_end hp (Nat.le_refl 5) hJ q hq]
    refine ⟨?_, k⟩
    cases z_leads m p q
    · left; rfl
    · right; rfl
  · rintro n i ⟨x0, g⟩ hi ⟨e, h1, hJ⟩ ih
    have e : g = h := e
    subst e
    have hJ : z_J m p (i - 1) x0 := hJ
    unfold lp_X4_leadsTo_7
    refine ⟨fun z => absurd z (show ¬ nI 6 ≤ nI i from nle hi (by omega)), fun _ => ?_⟩
    refine pk_loop (σ := Int32 × q_H) (fun n a s => lp_X4_leadsTo_17 (nI q) (nI i) _ n s.1 (nI a) s.2) (fun a s => s.2 = g ∧ z_J1 m p a x0 s.1) 6 0 (x0, g) (by omega) ⟨rfl, z_J_1 hJ⟩ ?_ ?_
    · rintro n2 ⟨x, u⟩ ⟨e, hx⟩
      have e : u = g := e
      subst e
      unfold lp_X4_leadsTo_17
      refine ⟨fun _ => ?_, fun z => absurd (show nI 6 ≤ nI 6 from nI_le (by omega) (by omega)) z⟩
      rw [nI_1 i]
      refine ih (_, _) ⟨rfl, by omega, ?_⟩
      have := z_J_n hJ hx
      rwa [show i - 1 + 1 = i + 1 - 1 by omega] at this
    · rintro n2 a ⟨x, u⟩ ha ⟨e, hx⟩ ih2
      have e : u = g := e
      subst e
      have hx : z_J1 m p a x0 x := hx
      obtain ⟨j1, j2, j3, j4⟩ := hx
      unfold lp_X4_leadsTo_17
      refine ⟨fun z => absurd z (show ¬ nI 6 ≤ nI a from nle ha (by omega)), fun _ => ?_⟩
      refine s_hasPart (by omega) ?_
      rw [nI_1 a, cl (by omega)]
      refine ⟨fun z => ?_, fun z => ⟨vin ha (by omega), ?_⟩⟩
      · have hf : bt x a = false := by
          cases e : bt x a with
          | false => rfl
          | true => rw [e] at z; exact absurd z (by decide)
        refine ih2 (_, _) ⟨rfl, j1, j2, fun b c hb hb6 hc6 h0 hn => ?_, j4⟩
        by_cases e : b = a
        · subst e
          rw [j2 b hb6 h0] at hf; cases hf
        · exact j3 b c (by omega) hb6 hc6 h0 hn
      · have hf : bt x a = true := by
          cases e : bt x a with
          | true => rfl
          | false => rw [e] at z; exact absurd rfl z
        refine ih2 (_, _) ⟨rfl, fun b hb h6 => ?_, fun b hb h0 => ?_, fun b c hb hb6 hc6 h0 hn => ?_, fun T hT hTp b hb h0 => ?_⟩
        · show bt (x ||| _) b = false
          rw [b_or, j1 b hb h6, hnd a ha b hb, decide_eq_false (by omega)]; rfl
        · show bt (x ||| _) b = true
          rw [b_or, j2 b hb h0, Bool.true_or]
        · show bt (x ||| _) c = true
          rw [b_or]
          by_cases e : b = a
          · subst e
            rw [hnd b ha c (by omega), hn, decide_eq_true hc6]; simp
          · rw [j3 b c (by omega) hb6 hc6 h0 hn, Bool.true_or]
        · have h0 : bt (x ||| _) b = true := h0
          rw [b_or, hnd a ha b (by omega), decide_eq_true hb, Bool.true_and] at h0
          rcases Bool.or_eq_true_iff.mp h0 with h0 | h0
          · exact j4 T hT hTp b hb h0
          · exact hT a b ha hb (j4 T hT hTp a ha hf) h0
end
section
abbrev y_needOk (m : q_S) (a b c : Int32) : Prop := y_isP m a ∧ y_isP m b ∧ ¬ bI (z_nd m a.toNatClampNeg b.toNatClampNeg) = c ∧ (c = 0 ∨ z_leads m b.toNatClampNeg a.toNatClampNeg = false)
theorem z_leads_self (m : q_S) {p : Nat} : z_leads m p p = true := by
  have : ∀ j, z_clo (z_nd m) j (fun x => decide (x = p)) p = true := by
    intro j
    induction j with
    | zero => exact decide_eq_true rfl
    | succ j ih => exact z_clo_up _ _ _ _ ih
  exact this 6
theorem z_need_ok {m : q_S} (hok : z_ok m) {p q : Nat} {is : Bool} (hp : p < z_np m) (hq : q < z_np m) (h : is = false ∨ z_leads m q p = false) : z_ok (z_need m p q is) := by
  obtain ⟨g1, g4, g5, g7, g8, g9, ⟨g10, g11⟩, g12, g13⟩ := hok
  have hnp := g1.1
  refine ⟨g1, g4, g5, g7, g8, g9, ⟨fun a b hab => ?_, ?_⟩, g12, g13⟩
  · have hab : (if a = p ∧ b = q then is else z_nd m a b) = true := hab
    by_cases e : a = p ∧ b = q
    · rw [e.1, e.2]; exact ⟨hp, hq⟩
    · rw [if_neg e] at hab; exact g10 a b hab
  · show z_acy (fun a b => if a = p ∧ b = q then is else z_nd m a b)
    intro S hS
    cases is with
    | false =>
      obtain ⟨r, hr, h1, h2⟩ := g11 S hS
      refine ⟨r, hr, h1, fun b hb hh => ?_⟩
      dsimp only at hh
      by_cases e : r = p ∧ b = q
      · rw [if_pos e] at hh; exact absurd hh.1 (by decide)
      · rw [if_neg e] at hh; exact h2 b hb hh
    | true =>
      have hl : z_leads m q p = false := h.resolve_left (by decide)
      have hcl : z_closed (z_nd m) (z_leads m q) := z_clo_closed (z_nd m) _ (by omega)
      by_cases hx : ∃ x, x < 6 ∧ (S x && z_leads m q x) = true
      · obtain ⟨r, hr, h1, h2⟩ := g11 (fun x => S x && z_leads m q x) hx
        obtain ⟨h3, h4⟩ := Bool.and_eq_true_iff.mp h1
        refine ⟨r, hr, h3, fun b hb hh => ?_⟩
        dsimp only at hh
        by_cases e : r = p ∧ b = q
        · rw [e.1, hl] at h4; cases h4
        · rw [if_neg e] at hh
          exact h2 b hb ⟨hh.1, by rw [hh.2, hcl r b hr hb h4 hh.1]; rfl⟩
      · obtain ⟨r, hr, h1, h2⟩ := g11 S hS
        refine ⟨r, hr, h1, fun b hb hh => ?_⟩
        dsimp only at hh
        by_cases e : r = p ∧ b = q
        · exact hx ⟨b, hb, by rw [hh.2, e.2, z_leads_self]; rfl⟩
        · rw [if_neg e] at hh; exact h2 b hb hh
theorem bI_v (b : Bool) : bI b = 0 ∨ bI b = 1 := by cases b <;> simp [bI]
theorem C_need {m : q_S} {a b c : Int32} {h : q_H} {Q : Int32 → q_H → Prop} (hok : z_ok m) (hc : z_C m h) (hc01 : c = 0 ∨ c = 1) (k0 : ¬ y_needOk m a b c → Q 0 h) (k1 : y_needOk m a b c → ∀ g, z_C (z_need m a.toNatClampNeg b.toNatClampNeg (decide (c = 1))) g → z_Fc h g → Q 1 g) : wp_X4_need a b c h Q := by
  have hnp := hok.1.1
  obtain ⟨c1, cw, cr⟩ := z_C_iff.mp hc
  have hnd := c1.2.2.2.2.2.1
  unfold wp_X4_need
  refine s_isPart hok hc.1 (fun n => ⟨fun _ => k0 (fun q => n q.1), fun y => absurd rfl y⟩) (fun p hp e ha => ⟨fun y => absurd y (by decide), fun _ => ?_⟩)
  refine s_isPart hok hc.1 (fun n => ⟨fun _ => k0 (fun q => n q.2.1), fun y => absurd rfl y⟩) (fun q hq e2 hb => ⟨fun y => absurd y (by decide), fun _ => ?_⟩)
  subst e; subst e2
  rw [cl (by omega), cl (by omega)] at k1
  have k0' : (bI (z_nd m p q) = c ∨ ¬ (c = 0 ∨ z_leads m q p = false)) → Q 0 h := by
    intro hh
    refine k0 (fun ⟨_, _, y1, y2⟩ => ?_)
    rw [cl (by omega), cl (by omega)] at y1 y2
    rcases hh with hh | hh
    · exact y1 hh
    · exact hh y2
  refine ⟨vin (by omega) (by omega), ?_⟩
  rw [cl (by omega)]
  refine s_hasPart (by omega) ?_
  rw [hnd p (by omega) q (by omega), decide_eq_true (show q < 6 by omega), Bool.true_and]
  refine ⟨fun z => k0' (Or.inl z), fun z => ?_⟩
  have hbit : c = if z_nd m p q = true then 0 else 1 := by
    have z : ¬ (if z_nd m p q = true then (1 : Int32) else 0) = c := z
    cases e : z_nd m p q with
    | true => rw [e] at z; rcases hc01 with e1 | e1; · rw [e1]; rfl
              · rw [e1] at z; exact absurd rfl z
    | false => rw [e] at z; rcases hc01 with e1 | e1; · rw [e1] at z; exact absurd rfl z
               · rw [e1]; rfl
  have fin : (c = 0 ∨ z_leads m q p = false) → wp_X4_gatherWants 0 (-1) (q_sI h 7 0 p (h.1 7 0 p ^^^ ((1 : Int32) <<< (nI q &&& 31)))) (fun g => Q 1 g) := by
    intro hl
    have ok : y_needOk m (nI p) (nI q) c := by
      refine ⟨ha, hb, ?_, ?_⟩
      · rw [cl (by omega), cl (by omega)]; exact z
      · rw [cl (by omega), cl (by omega)]; exact hl
    have hc1' : (decide (c = 1)) = false ∨ z_leads m q p = false := by
      rcases hl with hl | hl
      · left; rw [hl]; rfl
      · exact Or.inr hl
    refine s_regather (z_need_ok hok hp hq hc1') ?_ ?_ (fun g hg hf => k1 ok g hg ?_)
    · obtain ⟨d1, d2, d3, d4, d5, d6, d7, d8⟩ := c1
      refine ⟨d1, d2, d3, d4, d5, fun a ha6 b hb32 => ?_, d7, d8⟩
      show bt ((q_sI h 7 0 p _).1 7 0 a) b = (decide (b < 6) && (if a = p ∧ b = q then decide (c = 1) else z_nd m a b))
      by_cases e : a = p
      · subst e
        rw [q_sI_r, b_xor, d6 a ha6 b hb32, b_one (by omega) hb32]
        by_cases e2 : b = q
        · subst e2
          rw [if_pos ⟨rfl, rfl⟩, decide_eq_true (show b < 6 by omega), hbit]
          rw [decide_eq_true (rfl : b = b)]
          cases z_nd m a b <;> decide
        · rw [if_neg (fun q => e2 q.2), decide_eq_false e2, Bool.xor_false]
      · rw [q_sI_o (by omega), if_neg (fun q => e q.1)]
        exact d6 a ha6 b hb32
    · show ∀ t, t < 64 → tb (h.2 0 0 5) t = _
      intro t ht
      rw [cw t ht, z_wk_same (m := m) (m' := z_need m p q (decide (c = 1))) rfl rfl]
    · exact (show z_Fc h (q_sI h 7 0 p _) from fun k hk => by funext i j; rw [q_sI_o (by omega)]).tr hf
  refine ⟨fun z1 => ⟨vin (by omega) (by omega), vin (by omega) (by omega), ?_⟩, fun z1 => ?_⟩
  · exact fin (Or.inl z1)
  · refine s_leadsTo c1 (by omega) (by omega) ?_
    refine ⟨fun z2 => ⟨vin (by omega) (by omega), vin (by omega) (by omega), ?_⟩, fun z2 => k0' (Or.inr ?_)⟩
    · exact fin (Or.inr (bI_0.mp z2))
    · rintro (q1 | q1)
      · exact z1 q1
      · exact z2 (bI_0.mpr q1)
abbrev y_win (a b : Int32) : Prop := ¬ a < 0 ∧ ¬ b ≤ a ∧ b ≤ 64
abbrev y_holdOk (m : q_S) (g p a b : Int32) : Prop := y_isG g ∧ y_isP m p ∧ y_win a b
theorem y_win_nat {a b : Int32} (h : y_win a b) : ∃ x y, a = nI x ∧ b = nI y ∧ x < y ∧ y ≤ 64 := by
  obtain ⟨h1, h2, h3⟩ := h
  obtain ⟨x, hx, rfl⟩ := nI_of h1
  have hb : ¬ b < 0 := by
    intro q
    apply h2
    rw [Int32.le_iff_toInt_le, nI_toInt hx]
    rw [Int32.lt_iff_toInt_lt, Int32.toInt_zero] at q
    omega
  obtain ⟨y, hy, rfl⟩ := nI_of hb
  exact ⟨x, y, rfl, rfl, Nat.lt_of_not_le (fun q => h2 (nI_le q hx)), (nI_leI hy (by omega)).mp h3⟩
theorem z_hold_ok {m : q_S} (hok : z_ok m) (hn : z_nh m < 20) {g p a b : Nat} (hg : g < 8) (hp : p < z_np m) (hab : a ≤ b) (hb : b ≤ 64) : z_ok (z_hold m g p a b) := by
  obtain ⟨⟨h1, h2, h3⟩, g4, g5, g7, g8, g9, g10, g12, g13⟩ := hok
  refine ⟨⟨h1, by show z_nh m + 1 ≤ 20; omega, h3⟩, g4, g5, g7, g8, g9, g10, fun i hi => ?_, g13⟩
  have hi : i < z_nh m + 1 := hi
  show (if i = z_nh m then g else z_ho m i 0) < 8 ∧ (if i = z_nh m then p else z_ho m i 1) < z_np m ∧ (if i = z_nh m then a else z_ho m i 2) ≤ (if i = z_nh m then b else z_ho m i 3) ∧ (if i = z_nh m then b else z_ho m i 3) ≤ 64
  by_cases e : i = z_nh m
  · rw [if_pos e, if_pos e, if_pos e, if_pos e]; exact ⟨hg, hp, hab, hb⟩
  · rw [if_neg e, if_neg e, if_neg e, if_neg e]; exact g12 i (by omega)
theorem C_hold {m : q_S} {g p a b : Int32} {h : q_H} {Q : Int32 → q_H → Prop} (hok : z_ok m) (hc : z_C m h) (k0 : ¬ (y_holdOk m g p a b ∧ z_nh m < 20) → ∀ u, z_C m u → z_Fc h u → Q (-1) u) (k1 : y_holdOk m g p a b → z_nh m < 20 → ∀ u, z_C (z_hold m g.toNatClampNeg p.toNatClampNeg a.toNatClampNeg b.toNatClampNeg) u → z_Fc h u → Q (nI (z_nh m)) u) : wp_X4_hold g p a b h Q := by
  have hnp := hok.1.1
  have hnh := hok.1.2.1
  obtain ⟨c1, cw, cr⟩ := z_C_iff.mp hc
  have k00 : ¬ y_holdOk m g p a b → Q (-1) h := fun n => k0 (fun q => n q.1) h hc (z_Fc.rf h)
  unfold wp_X4_hold
  refine s_isProgram (fun n => ⟨fun _ => k00 (fun q => n q.1), fun y => absurd rfl y⟩) (fun gg hgg e ha => ⟨fun y => absurd y (by decide), fun _ => ?_⟩)
  refine s_isPart hok hc.1 (fun n => ⟨fun _ => k00 (fun q => n q.2.1), fun y => absurd rfl y⟩) (fun pp hpp e2 hb => ⟨fun y => absurd y (by decide), fun _ => ?_⟩)
  refine ⟨fun z => k00 (fun q => q.2.2.1 z), fun z => ⟨fun z1 => k00 (fun q => q.2.2.2.1 z1), fun z1 => ⟨fun z2 => ?_, fun z2 => k00 (fun q => z2 q.2.2.2.2)⟩⟩⟩
  have ok : y_holdOk m g p a b := ⟨ha, hb, z, z1, z2⟩
  obtain ⟨x, y, rfl, rfl, hxy, hy64⟩ := y_win_nat ⟨z, z1, z2⟩
  have k1 := k1 ok
  subst e; subst e2
  rw [cl (by omega), cl (by omega), cl (by omega), cl (by omega)] at k1
  unfold wp_X0_add
  obtain ⟨d1, d2, d3, d4, d5, d6, ⟨d7, d7'⟩, d8⟩ := id c1
  rw [d7, cl (by omega)]
  refine ⟨fun y1 => ?_, fun y1 => ?_⟩
  · have h20 : z_nh m < 20 := (nI_ltI (by omega) (by omega)).mp (show nI (z_nh m) < nI 20 from y1)
    refine ⟨show vp_in _ 20 from vin h20 (by omega), show vp_in _ 20 from vin h20 (by omega), show vp_in _ 20 from vin h20 (by omega), show vp_in _ 20 from vin h20 (by omega), ?_⟩
    rw [nI_1, q_sI_r, nI_pred]
    refine s_regather (z_hold_ok hok h20 hgg hpp (by omega : x ≤ y) hy64) ?_ ?_ (fun u hu hf => k1 h20 u hu ?_)
    · refine ⟨d1, d2, d3, d4, d5, d6, ⟨q_sI_r, fun i hi => ?_⟩, d8⟩
      have hi : i < z_nh m + 1 := hi
      show _ = nI (if i = z_nh m then gg else z_ho m i 0) ∧ _ = nI (if i = z_nh m then pp else z_ho m i 1) ∧ _ = nI (if i = z_nh m then x else z_ho m i 2) ∧ _ = nI (if i = z_nh m then y else z_ho m i 3)
      by_cases e : i = z_nh m
      · subst e
        rw [if_pos rfl, if_pos rfl, if_pos rfl, if_pos rfl]
        refine ⟨?_, ?_, ?_, ?_⟩
        · rw [q_sI_o (by omega), q_sI_o (by omega), q_sI_o (by omega), q_sI_o (by omega), q_sI_r]
        · rw [q_sI_o (by omega), q_sI_o (by omega), q_sI_o (by omega), q_sI_r]
        · rw [q_sI_o (by omega), q_sI_o (by omega), q_sI_r]
        · rw [q_sI_o (by omega), q_sI_r]
      · rw [if_neg e, if_neg e, if_neg e, if_neg e]
        obtain ⟨f1, f2, f3, f4⟩ := d7' i (by omega)
        refine ⟨?_, ?_, ?_, ?_⟩
        · rw [q_sI_o (by omega), q_sI_o (by omega), q_sI_o (by omega), q_sI_o (by omega), q_sI_o (by omega)]; exact f1
        · rw [q_sI_o (by omega), q_sI_o (by omega), q_sI_o (by omega), q_sI_o (by omega), q_sI_o (by omega)]; exact f2
        · rw [q_sI_o (by omega), q_sI_o (by omega), q_sI_o (by omega), q_sI_o (by omega), q_sI_o (by omega)]; exact f3
        · rw [q_sI_o (by omega), q_sI_o (by omega), q_sI_o (by omega), q_sI_o (by omega), q_sI_o (by omega)]; exact f4
    · show ∀ t, t < 64 → tb (h.2 0 0 5) t = _
      intro t ht
      rw [cw t ht, z_wk_same (m := m) (m' := z_hold m gg pp x y) rfl rfl]
    · exact (show z_Fc h _ from fun k hk => by funext i j; rw [q_sI_o (by omega), q_sI_o (by omega), q_sI_o (by omega), q_sI_o (by omega), q_sI_o (by omega)]).tr hf
  · have h20 : ¬ z_nh m < 20 := fun q => y1 (show nI (z_nh m) < nI 20 from nI_lt q (by omega))
    refine s_regather hok c1 cw (fun u hu hf => k0 (fun q => h20 q.2) u hu hf)
abbrev y_backOk (m : q_S) (a b : Int32) : Prop := (¬ a < 0 ∧ ¬ nI (z_nh m) ≤ a) ∧ ¬ b < nI (z_ho m a.toNatClampNeg 2) ∧ b < nI (z_ho m a.toNatClampNeg 3)
theorem z_back_ok {m : q_S} (hok : z_ok m) {i t : Nat} (hi : i < z_nh m) (h1 : z_ho m i 2 ≤ t) (h2 : t < z_ho m i 3) : z_ok (z_back m i t) := by
  obtain ⟨g1, g4, g5, g7, g8, g9, g10, g12, g13⟩ := hok
  refine ⟨g1, g4, g5, g7, g8, g9, g10, fun j hj => ?_, g13⟩
  obtain ⟨e1, e2, e3, e4⟩ := g12 j hj
  show (if j = i ∧ 0 = 3 then t else z_ho m j 0) < 8 ∧ (if j = i ∧ 1 = 3 then t else z_ho m j 1) < z_np m ∧ (if j = i ∧ 2 = 3 then t else z_ho m j 2) ≤ (if j = i ∧ 3 = 3 then t else z_ho m j 3) ∧ (if j = i ∧ 3 = 3 then t else z_ho m j 3) ≤ 64
  rw [if_neg (by omega), if_neg (by omega), if_neg (by omega)]
  refine ⟨e1, e2, ?_, ?_⟩
  · split
    · next q => rw [q.1]; exact h1
    · exact e3
  · split
    · next q => rw [q.1] at e4; omega
    · exact e4
theorem C_back {m : q_S} {a b : Int32} {h : q_H} {Q : Int32 → q_H → Prop} (hok : z_ok m) (hc : z_C m h) (k0 : ¬ y_backOk m a b → Q 0 h) (k1 : y_backOk m a b → ∀ u, z_C (z_back m a.toNatClampNeg b.toNatClampNeg) u → z_Fc h u → Q 1 u) : wp_X4_back a b h Q := by
  have hnh := hok.1.2.1
  obtain ⟨c1, cw, cr⟩ := z_C_iff.mp hc
  obtain ⟨d1, d2, d3, d4, d5, d6, ⟨d7, d7'⟩, d8⟩ := id c1
  unfold wp_X4_back
  refine s_chas (m := m) (n := z_nh m) (by omega) d7 (fun n => ⟨fun _ => k0 (fun q => n q.1), fun z => absurd rfl z⟩) (fun i hi e ha => ⟨fun z => absurd z (by decide), fun _ => ?_⟩)
  subst e
  obtain ⟨f1, f2, f3, f4⟩ := d7' i hi
  obtain ⟨b1, b2, b3, b4⟩ := hok.2.2.2.2.2.2.2.1 i hi
  rw [cl (by omega)] at k1
  have k0' : ¬ (¬ b < nI (z_ho m i 2) ∧ b < nI (z_ho m i 3)) → Q 0 h := fun n => k0 (fun q => n (by have := q.2; rwa [cl (by omega)] at this))
  unfold wp_X0_fromOf
  rw [cl (by omega), f3]
  refine ⟨show vp_in _ 20 from vin (by omega) (by omega), fun z => k0' (fun q => q.1 z), fun z => ?_⟩
  unfold wp_X0_toOf
  rw [cl (by omega), f4]
  refine ⟨show vp_in _ 20 from vin (by omega) (by omega), fun z1 => ?_, fun z1 => k0' (fun q => z1 q.2)⟩
  have ok : y_backOk m (nI i) b := ⟨ha, by rw [cl (by omega)]; exact ⟨z, z1⟩⟩
  have hb : ¬ b < 0 := by
    intro q
    apply z
    rw [Int32.lt_iff_toInt_lt] at q ⊢
    rw [nI_toInt (by omega)]
    rw [Int32.toInt_zero] at q
    omega
  obtain ⟨t, ht, rfl⟩ := nI_of hb
  have t1 : z_ho m i 2 ≤ t := Nat.le_of_not_lt (fun q => z (nI_lt q (by omega)))
  have t2 : t < z_ho m i 3 := (nI_ltI ht (by omega)).mp z1
  have k1 := k1 ok
  rw [cl ht] at k1
  unfold wp_X0_endAhead
  rw [cl (by omega)]
  refine ⟨show vp_in _ 20 from vin (by omega) (by omega), ?_⟩
  refine s_regather (z_back_ok hok hi t1 t2) ?_ ?_ (fun u hu hf => k1 u hu ?_)
  · refine ⟨d1, d2, d3, d4, d5, d6, ⟨d7, fun j hj => ?_⟩, ⟨d8.1, fun j hj => ?_⟩⟩
    · obtain ⟨p1, p2, p3, p4⟩ := d7' j hj
      show _ = nI (if j = i ∧ 0 = 3 then t else z_ho m j 0) ∧ _ = nI (if j = i ∧ 1 = 3 then t else z_ho m j 1) ∧ _ = nI (if j = i ∧ 2 = 3 then t else z_ho m j 2) ∧ _ = nI (if j = i ∧ 3 = 3 then t else z_ho m j 3)
      rw [if_neg (by omega), if_neg (by omega), if_neg (by omega)]
      refine ⟨p1, p2, p3, ?_⟩
      by_cases e : j = i
      · subst e; rw [if_pos ⟨rfl, rfl⟩, q_sI_r]
      · rw [if_neg (fun q => e q.1), q_sI_o (by omega)]; exact p4
    · obtain ⟨p1, p2, p3, p4⟩ := d8.2 j hj
      exact ⟨p1, p2, p3, by rw [q_sI_o (by omega)]; exact p4⟩
  · show ∀ t, t < 64 → tb (h.2 0 0 5) t = _
    intro x hx
    rw [cw x hx, z_wk_same (m := m) (m' := z_back m i t) rfl rfl]
  · exact (show z_Fc h _ from fun k hk => by funext i j; rw [q_sI_o (by omega)]).tr hf
abbrev y_timerOk (m : q_S) (g p a b : Int32) : Prop := y_isG g ∧ y_isP m p ∧ ¬ a < 0 ∧ ¬ b < a ∧ b < 64
theorem z_timer_ok {m : q_S} (hok : z_ok m) (hn : z_nt m < 12) {g p a b : Nat} (hg : g < 8) (hp : p < z_np m) (hab : a ≤ b) (hb : b < 64) : z_ok (z_timer m g p a b) := by
  obtain ⟨⟨h1, h2, h3⟩, g4, g5, g7, g8, g9, g10, g12, g13⟩ := hok
  refine ⟨⟨h1, h2, by show z_nt m + 1 ≤ 12; omega⟩, g4, g5, g7, g8, g9, g10, g12, fun i hi => ?_⟩
  have hi : i < z_nt m + 1 := hi
  show (if i = z_nt m then g else z_ti m i 0) < 8 ∧ (if i = z_nt m then p else z_ti m i 1) < z_np m ∧ (if i = z_nt m then a else z_ti m i 2) ≤ (if i = z_nt m then b else z_ti m i 3) ∧ (if i = z_nt m then b else z_ti m i 3) < 64
  by_cases e : i = z_nt m
  · rw [if_pos e, if_pos e, if_pos e, if_pos e]; exact ⟨hg, hp, hab, hb⟩
  · rw [if_neg e, if_neg e, if_neg e, if_neg e]; exact g13 i (by omega)
/-- wakings and rows anew -/
theorem s_rewake {m : q_S} {h : q_H} {r : Int32} {Q : Int32 → q_H → Prop} (hok : z_ok m) (hc : z_C1 m h) (k : ∀ g, z_C m g → z_Fc h g → Q r g) : wp_X4_fewestWakings h (fun r8 g7 => wp_X4_gatherWants 0 (-1) (q_sL g7 0 0 5 r8) (fun g9 => Q r g9)) := by
  refine s_fewest hok hc (fun x hx => ?_)
  refine s_regather hok (hc.ints (fun _ _ => rfl)) (fun t ht => ?_) (fun g hg hf => k g hg ((show z_Fc h (q_sL h 0 0 5 x) from fun _ _ => rfl).tr hf))
  rw [← hx t ht]
  congr 1
theorem C_timer {m : q_S} {g p a b : Int32} {h : q_H} {Q : Int32 → q_H → Prop} (hok : z_ok m) (hc : z_C m h) (k0 : ¬ (y_timerOk m g p a b ∧ z_nt m < 12) → ∀ u, z_C m u → z_Fc h u → Q (-1) u) (k1 : y_timerOk m g p a b → z_nt m < 12 → ∀ u, z_C (z_timer m g.toNatClampNeg p.toNatClampNeg a.toNatClampNeg b.toNatClampNeg) u → z_Fc h u → Q (nI (z_nt m)) u) : wp_X4_timer g p a b h Q := by
  have hnp := hok.1.1
  have hnt := hok.1.2.2
  obtain ⟨c1, cw, cr⟩ := z_C_iff.mp hc
  have k00 : ¬ y_timerOk m g p a b → Q (-1) h := fun n => k0 (fun q => n q.1) h hc (z_Fc.rf h)
  unfold wp_X4_timer
  refine s_isProgram (fun n => ⟨fun _ => k00 (fun q => n q.1), fun y => absurd rfl y⟩) (fun gg hgg e ha => ⟨fun y => absurd y (by decide), fun _ => ?_⟩)
  refine s_isPart hok hc.1 (fun n => ⟨fun _ => k00 (fun q => n q.2.1), fun y => absurd rfl y⟩) (fun pp hpp e2 hb => ⟨fun y => absurd y (by decide), fun _ => ?_⟩)
  refine ⟨fun z => k00 (fun q => q.2.2.1 z), fun z => ⟨fun z1 => k00 (fun q => q.2.2.2.1 z1), fun z1 => ⟨fun z2 => ?_, fun z2 => k00 (fun q => z2 q.2.2.2.2)⟩⟩⟩
  have ok : y_timerOk m g p a b := ⟨ha, hb, z, z1, z2⟩
  obtain ⟨x, hx, rfl⟩ := nI_of z
  have hbn : ¬ b < 0 := by
    intro q
    apply z1
    rw [Int32.lt_iff_toInt_lt] at q ⊢
    rw [nI_toInt hx]
    rw [Int32.toInt_zero] at q
    omega
  obtain ⟨y, hy, rfl⟩ := nI_of hbn
  have hxy : x ≤ y := Nat.le_of_not_lt (fun q => z1 (nI_lt q hx))
  have hy64 : y < 64 := (nI_ltI hy (by omega)).mp (show nI y < nI 64 from z2)
  have k1 := k1 ok
  subst e; subst e2
  rw [cl (by omega), cl (by omega), cl (by omega), cl (by omega)] at k1
  unfold wp_X0_add
  obtain ⟨d1, d2, d3, d4, d5, d6, d7, ⟨d8, d8'⟩⟩ := id c1
  rw [d8, cl (by omega), nI_1 y]
  refine ⟨fun y1 => ?_, fun y1 => ?_⟩
  · have h20 : z_nt m < 12 := (nI_ltI (by omega) (by omega)).mp (show nI (z_nt m) < nI 12 from y1)
    refine ⟨show vp_in _ 12 from vin h20 (by omega), show vp_in _ 12 from vin h20 (by omega), show vp_in _ 12 from vin h20 (by omega), show vp_in _ 12 from vin h20 (by omega), ?_⟩
    rw [nI_1, q_sI_r, nI_pred]
    refine s_rewake (z_timer_ok hok h20 hgg hpp hxy hy64) ?_ (fun u hu hf => k1 h20 u hu ?_)
    · refine ⟨d1, d2, d3, d4, d5, d6, ⟨d7.1, fun i hi => ?_⟩, ⟨q_sI_r, fun i hi => ?_⟩⟩
      · obtain ⟨f1, f2, f3, f4⟩ := d7.2 i hi
        refine ⟨?_, ?_, ?_, ?_⟩
        · rw [q_sI_o (by omega), q_sI_o (by omega), q_sI_o (by omega), q_sI_o (by omega), q_sI_o (by omega)]; exact f1
        · rw [q_sI_o (by omega), q_sI_o (by omega), q_sI_o (by omega), q_sI_o (by omega), q_sI_o (by omega)]; exact f2
        · rw [q_sI_o (by omega), q_sI_o (by omega), q_sI_o (by omega), q_sI_o (by omega), q_sI_o (by omega)]; exact f3
        · rw [q_sI_o (by omega), q_sI_o (by omega), q_sI_o (by omega), q_sI_o (by omega), q_sI_o (by omega)]; exact f4
      have hi : i < z_nt m + 1 := hi
      show _ = nI (if i = z_nt m then gg else z_ti m i 0) ∧ _ = nI (if i = z_nt m then pp else z_ti m i 1) ∧ _ = nI (if i = z_nt m then x else z_ti m i 2) ∧ _ = nI ((if i = z_nt m then y else z_ti m i 3) + 1)
      by_cases e : i = z_nt m
      · subst e
        rw [if_pos rfl, if_pos rfl, if_pos rfl, if_pos rfl]
        refine ⟨?_, ?_, ?_, ?_⟩
        · rw [q_sI_o (by omega), q_sI_o (by omega), q_sI_o (by omega), q_sI_o (by omega), q_sI_r]
        · rw [q_sI_o (by omega), q_sI_o (by omega), q_sI_o (by omega), q_sI_r]
        · rw [q_sI_o (by omega), q_sI_o (by omega), q_sI_r]
        · rw [q_sI_o (by omega), q_sI_r]
      · rw [if_neg e, if_neg e, if_neg e, if_neg e]
        obtain ⟨f1, f2, f3, f4⟩ := d8' i (by omega)
        refine ⟨?_, ?_, ?_, ?_⟩
        · rw [q_sI_o (by omega), q_sI_o (by omega), q_sI_o (by omega), q_sI_o (by omega), q_sI_o (by omega)]; exact f1
        · rw [q_sI_o (by omega), q_sI_o (by omega), q_sI_o (by omega), q_sI_o (by omega), q_sI_o (by omega)]; exact f2
        · rw [q_sI_o (by omega), q_sI_o (by omega), q_sI_o (by omega), q_sI_o (by omega), q_sI_o (by omega)]; exact f3
        · rw [q_sI_o (by omega), q_sI_o (by omega), q_sI_o (by omega), q_sI_o (by omega), q_sI_o (by omega)]; exact f4
    · exact (show z_Fc h _ from fun k hk => by funext i j; rw [q_sI_o (by omega), q_sI_o (by omega), q_sI_o (by omega), q_sI_o (by omega), q_sI_o (by omega)]).tr hf
  · have h20 : ¬ z_nt m < 12 := fun q => y1 (show nI (z_nt m) < nI 12 from nI_lt q (by omega))
    exact s_rewake hok c1 (fun u hu hf => k0 (fun q => h20 q.2) u hu hf)
end
section
/-! ===== the reference: frames, questions of range ===== -/
def z_Ml (m : q_S) (lo : Int32) (h : q_H) : Prop :=
  (h.1 18 0 0 = nI (z_np m) ∧ h.1 18 0 1 = nI (z_nh m) ∧ h.1 18 0 2 = nI (z_nt m) ∧ h.1 18 0 13 = lo) ∧
  (∀ p, p < 6 → ∀ s, s < 4 → h.1 19 0 (4 * p + s) = nI (z_dr m p s)) ∧
  (∀ p, p < 6 → ∀ s, s < 4 → h.1 20 0 (4 * p + s) = nI (z_co m p s)) ∧
  (∀ p, p < 6 → ∀ s, s < 4 → h.1 21 0 (4 * p + s) = nI (z_ri m p s)) ∧
  (∀ p, p < z_np m → ∀ s, s < 3 → h.1 22 0 (3 * p + s) = nI (z_ru m p s)) ∧
  (∀ p, p < 6 → ∀ q, q < 6 → h.1 23 0 (6 * p + q) = if z_nd m p q = true then 1 else 0) ∧
  (∀ i, i < z_nh m → ∀ s, s < 4 → h.1 24 0 (4 * i + s) = nI (z_ho m i s)) ∧
  (∀ i, i < z_nt m → ∀ s, s < 4 → h.1 25 0 (4 * i + s) = nI (z_ti m i s))
theorem z_M_iff {m : q_S} {h : q_H} : z_M m h ↔ z_Ml m (-1) h := Iff.rfl
/-- what a question leaves -/
def z_K (h g : q_H) : Prop := (∀ k, k ≠ 18 → k ≠ 26 → k ≠ 27 → g.1 k = h.1 k) ∧ (∀ j, j ≠ 11 → j ≠ 14 → j ≠ 15 → g.1 18 0 j = h.1 18 0 j) ∧ g.2 = h.2
def z_K1 (h g : q_H) : Prop := (∀ k, k ≠ 18 → g.1 k = h.1 k) ∧ (∀ j, j ≠ 14 → j ≠ 15 → g.1 18 0 j = h.1 18 0 j) ∧ g.2 = h.2
theorem z_K.rf (h : q_H) : z_K h h := ⟨fun _ _ _ _ => rfl, fun _ _ _ _ => rfl, rfl⟩
theorem z_K1.rf (h : q_H) : z_K1 h h := ⟨fun _ _ => rfl, fun _ _ _ => rfl, rfl⟩
theorem z_K.tr {h g k : q_H} (a : z_K h g) (b : z_K g k) : z_K h k := ⟨fun n x y z => (b.1 n x y z).trans (a.1 n x y z), fun n x y z => (b.2.1 n x y z).trans (a.2.1 n x y z), b.2.2.trans a.2.2⟩
theorem z_K1.tr {h g k : q_H} (a : z_K1 h g) (b : z_K1 g k) : z_K1 h k := ⟨fun n x => (b.1 n x).trans (a.1 n x), fun n x y => (b.2.1 n x y).trans (a.2.1 n x y), b.2.2.trans a.2.2⟩
theorem z_K1.K {h g : q_H} (a : z_K1 h g) : z_K h g := ⟨fun n x _ _ => a.1 n x, fun n _ y z => a.2.1 n y z, a.2.2⟩
theorem z_K.fm {h g : q_H} (a : z_K h g) : z_Fm h g := ⟨fun n hn => a.1 n (by omega) (by omega) (by omega), a.2.2⟩
theorem z_K_sI {h g : q_H} {k i j : Nat} {v : Int32} (hk : k = 26 ∨ k = 27 ∨ (k = 18 ∧ (j = 11 ∨ j = 14 ∨ j = 15))) (a : z_K h g) : z_K h (q_sI g k i j v) := by
  refine ⟨fun n x y z => ?_, fun n x y z => ?_, a.2.2⟩
  · rw [← a.1 n x y z]
    funext i1 j1
    exact if_neg (by omega)
  · rw [← a.2.1 n x y z]
    exact if_neg (by omega)
theorem z_K1_sI {h g : q_H} {i j : Nat} {v : Int32} (hk : j = 14 ∨ j = 15) (a : z_K1 h g) : z_K1 h (q_sI g 18 i j v) := by
  refine ⟨fun n x => ?_, fun n x y => ?_, a.2.2⟩
  · rw [← a.1 n x]
    funext i1 j1
    exact if_neg (by omega)
  · rw [← a.2.1 n x y]
    exact if_neg (by omega)
theorem z_K.M {m : q_S} {lo : Int32} {h g : q_H} (a : z_K h g) (c : z_Ml m lo h) : z_Ml m lo g := by
  obtain ⟨a1, a2, a3⟩ := a
  unfold z_Ml at c ⊢
  rw [a1 19 (by omega) (by omega) (by omega), a1 20 (by omega) (by omega) (by omega), a1 21 (by omega) (by omega) (by omega), a1 22 (by omega) (by omega) (by omega), a1 23 (by omega) (by omega) (by omega), a1 24 (by omega) (by omega) (by omega), a1 25 (by omega) (by omega) (by omega), a2 0 (by omega) (by omega) (by omega), a2 1 (by omega) (by omega) (by omega), a2 2 (by omega) (by omega) (by omega), a2 13 (by omega) (by omega) (by omega)]
  exact c
theorem ix4 (p s : Nat) : 4 * nI p + nI s = nI (4 * p + s) := by rw [show (4 : Int32) = nI 4 from rfl, pk_mul, nI_add]
theorem ix40 (p : Nat) : 4 * nI p = nI (4 * p + 0) := by rw [show (4 : Int32) = nI 4 from rfl, pk_mul]; rfl
theorem ix41 (p : Nat) : 4 * nI p + 1 = nI (4 * p + 1) := ix4 p 1
theorem ix42 (p : Nat) : 4 * nI p + 2 = nI (4 * p + 2) := ix4 p 2
theorem ix43 (p : Nat) : 4 * nI p + 3 = nI (4 * p + 3) := ix4 p 3
theorem ix3 (p s : Nat) : 3 * nI p + nI s = nI (3 * p + s) := by rw [show (3 : Int32) = nI 3 from rfl, pk_mul, nI_add]
theorem ix30 (p : Nat) : 3 * nI p = nI (3 * p + 0) := by rw [show (3 : Int32) = nI 3 from rfl, pk_mul]; rfl
theorem ix31 (p : Nat) : 3 * nI p + 1 = nI (3 * p + 1) := ix3 p 1
theorem ix32 (p : Nat) : 3 * nI p + 2 = nI (3 * p + 2) := ix3 p 2
theorem ix6 (p s : Nat) : 6 * nI p + nI s = nI (6 * p + s) := by rw [show (6 : Int32) = nI 6 from rfl, pk_mul, nI_add]
theorem ix64 (p s : Nat) : 64 * nI p + nI s = nI (64 * p + s) := by rw [show (64 : Int32) = nI 64 from rfl, pk_mul, nI_add]
theorem s5_in {a lo hi : Int32} {h : q_H} {Q : Int32 → q_H → Prop} (k0 : ¬ (¬ a < lo ∧ ¬ hi < a) → Q 0 h) (k1 : ¬ a < lo → ¬ hi < a → Q 1 h) : wp_X5_isIn a lo hi h Q :=
  ⟨fun z => k0 (fun q => q.1 z), fun z => ⟨fun z1 => k0 (fun q => q.2 z1), fun z1 => k1 z z1⟩⟩
theorem nI_below {n : Nat} (hn : n < 2 ^ 31) (a : Int32) (h0 : ¬ a < 0) : nI n - 1 < a ↔ nI n ≤ a := by
  obtain ⟨j, hj, rfl⟩ := nI_of h0
  cases n with
  | zero =>
    constructor
    · intro _; exact nI_le (by omega) hj
    · intro _
      rw [Int32.lt_iff_toInt_lt, nI_toInt hj]
      have : (nI 0 - 1 : Int32).toInt = -1 := by decide
      omega
  | succ n =>
    rw [nI_pred, nI_ltI (by omega) hj, nI_leI (by omega) hj]
    omega
theorem s5_ix {n : Nat} {a : Int32} {h : q_H} {Q : Int32 → q_H → Prop} (hn : n < 2 ^ 31) (k0 : ¬ (¬ a < 0 ∧ ¬ nI n ≤ a) → Q 0 h) (k1 : ∀ i, i < n → a = nI i → (¬ a < 0 ∧ ¬ nI n ≤ a) → Q 1 h) : wp_X5_isIn a 0 (nI n - 1) h Q := by
  refine s5_in (fun z => k0 (fun q => z ⟨q.1, fun q1 => q.2 ((nI_below hn a q.1).mp q1)⟩)) (fun z z1 => ?_)
  have z2 : ¬ nI n ≤ a := fun q => z1 ((nI_below hn a z).mpr q)
  obtain ⟨i, hi, e⟩ := y_in hn ⟨z, z2⟩
  exact k1 i hi e ⟨z, z2⟩
theorem s5_isPart {m : q_S} {a : Int32} {h : q_H} {Q : Int32 → q_H → Prop} (hok : z_ok m) (hc : h.1 18 0 0 = nI (z_np m)) (k0 : ¬ y_isP m a → Q 0 h) (k1 : ∀ p, p < z_np m → a = nI p → y_isP m a → Q 1 h) : wp_X5_isPart a h Q := by
  have := hok.1.1
  unfold wp_X5_isPart
  rw [hc]
  exact s5_ix (by omega) (fun z => ⟨Or.inl rfl, k0 z⟩) (fun p hp e z => ⟨Or.inr rfl, k1 p hp e z⟩)
theorem s5_isTick {a : Int32} {h : q_H} {Q : Int32 → q_H → Prop} (k0 : ¬ y_isT a → Q 0 h) (k1 : ∀ t, t < 64 → a = nI t → y_isT a → Q 1 h) : wp_X5_isTick a h Q :=
  s5_ix (n := 64) (by omega) (fun z => ⟨Or.inl rfl, k0 z⟩) (fun p hp e z => ⟨Or.inr rfl, k1 p hp e z⟩)
theorem s5_isProgram {a : Int32} {h : q_H} {Q : Int32 → q_H → Prop} (k0 : ¬ y_isG a → Q 0 h) (k1 : ∀ t, t < 8 → a = nI t → y_isG a → Q 1 h) : wp_X5_isProgram a h Q :=
  s5_ix (n := 8) (by omega) (fun z => ⟨Or.inl rfl, k0 z⟩) (fun p hp e z => ⟨Or.inr rfl, k1 p hp e z⟩)
/-! ===== the reference: wakings ===== -/
theorem z_left_lt {m : q_S} {t : Nat} (hok : z_ok m) (h : z_wk m t = true) : z_left m (t + 1) + 1 ≤ z_left m (z_lat m t) := by
  obtain ⟨i, hi, h1, h2⟩ := z_ends_iff.mp (show z_ends m (z_lat m t) t = true from h)
  have h3 := z_lat_le m t
  have hw := (hok.2.2.2.2.2.2.2.2 i hi).2.2.1
  refine z_sum_lt (j := i) (z_nt m) (fun j _ => ?_) hi ?_
  · split
    · rw [if_pos (by omega)]; omega
    · omega
  · rw [if_neg (by omega), if_pos h2]; omega
/-- wakings are laid out -/
def z_Wk (m : q_S) (g : q_H) : Prop := g.1 18 0 11 = nI (z_nw m 64) ∧ ∀ x, x < 64 → z_wk m x = true → g.1 26 0 (z_nw m x) = nI x
theorem s5_ends {m : q_S} {lo : Int32} {t : Nat} {h : q_H} {E : Int32 → Int32 → q_H → Prop} (hok : z_ok m) (hc : z_Ml m lo h) (ht : t < 64) (k : ∀ y, E (bI (z_wk m t)) y h) : ∃ n, lp_X5_wakes_20 (nI (z_lat m t) - 1) (nI t) E n 0 0 h := by
  have hnt := hok.1.2.2
  have hti := hok.2.2.2.2.2.2.2.2
  have hl := z_lat_le m t
  refine pk_loop (σ := Int32 × q_H) (fun n i s => lp_X5_wakes_20 (nI (z_lat m t) - 1) (nI t) E n s.1 (nI i) s.2) (fun i s => s.2 = h ∧ s.1 = bI ((List.range i).any (fun i => z_ti m i 3 == t && decide (z_lat m t ≤ z_ti m i 2)))) (z_nt m) 0 (0, h) (by omega) ⟨rfl, rfl⟩ ?_ ?_
  · rintro n ⟨x, g⟩ ⟨e, hx⟩
    have e : g = h := e
    subst e
    have hx : x = _ := hx
    subst hx
    unfold lp_X5_wakes_20
    rw [hc.1.2.2.1]
    exact ⟨fun _ => k _, fun z => absurd (nI_le (Nat.le_refl _) (by omega)) z⟩
  · rintro n i ⟨x, g⟩ hi ⟨e, hx⟩ ih
    have e : g = h := e
    subst e
    have hx : x = bI ((List.range i).any (fun i => z_ti m i 3 == t && decide (z_lat m t ≤ z_ti m i 2))) := hx
    have hstep : (List.range (i + 1)).any (fun i => z_ti m i 3 == t && decide (z_lat m t ≤ z_ti m i 2)) = ((List.range i).any (fun i => z_ti m i 3 == t && decide (z_lat m t ≤ z_ti m i 2)) || (z_ti m i 3 == t && decide (z_lat m t ≤ z_ti m i 2))) := by
      rw [List.range_succ, List.any_append]; simp
    obtain ⟨_, _, a3, a4⟩ := hti i hi
    unfold lp_X5_wakes_20
    rw [hc.1.2.2.1]
    refine ⟨fun z => absurd z (nle hi (by omega)), fun _ => ?_⟩
    dsimp only
    rw [ix43, ix42, cl (by omega), cl (by omega), nI_1 i, hc.2.2.2.2.2.2.2 i hi 3 (by omega), hc.2.2.2.2.2.2.2 i hi 2 (by omega)]
    refine ⟨fun z => ⟨vin (by omega) (by omega), fun z1 => ⟨vin (by omega) (by omega), fun z2 => ?_, fun z2 => ?_⟩, fun z1 => ?_⟩, fun z => ?_⟩
    all_goals refine ih (_, _) ⟨rfl, ?_⟩
    all_goals rw [hstep]
    all_goals show (_ : Int32) = _
    · have e1 := bI_0.mp (hx.symm.trans z)
      have e2 : z_ti m i 3 = t := (nI_eq (by omega) (by omega)).mp z1
      have e3 : ¬ z_lat m t ≤ z_ti m i 2 := by
        intro q
        have h0 := nI_pos (n := z_ti m i 2) (by omega)
        have : ¬ nI (z_ti m i 2) ≤ nI (z_lat m t) - 1 := by
          rw [Int32.not_le]
          exact (nI_below (by omega) _ h0).mpr (nI_le q (by omega))
        exact this z2
      rw [e1, decide_eq_false e3, Bool.and_false]
      rfl
    · have e1 := bI_0.mp (hx.symm.trans z)
      have e2 : z_ti m i 3 = t := (nI_eq (by omega) (by omega)).mp z1
      have e3 : z_lat m t ≤ z_ti m i 2 := by
        have h0 := nI_pos (n := z_ti m i 2) (by omega)
        rw [Int32.not_le] at z2
        exact (nI_leI (by omega) (by omega)).mp ((nI_below (by omega) _ h0).mp z2)
      rw [e1, decide_eq_true e3, e2]
      simp [bI]
    · have e1 := bI_0.mp (hx.symm.trans z)
      have e2 : ¬ z_ti m i 3 = t := fun q => z1 (by rw [q])
      rw [e1, show (z_ti m i 3 == t) = false by simpa using e2]
      rfl
    · have e1 : (List.range i).any (fun i => z_ti m i 3 == t && decide (z_lat m t ≤ z_ti m i 2)) = true := ts_nf (fun q => z (hx.trans (by rw [q]; rfl)))
      rw [e1]
      rfl
theorem s5_wakes {m : q_S} {lo : Int32} {h : q_H} {Q : q_H → Prop} (hok : z_ok m) (hc : z_Ml m lo h) (k : ∀ g, z_K h g → z_Wk m g → Q g) : wp_X5_wakes h Q := by
  have hnt := hok.1.2.2
  unfold wp_X5_wakes
  refine pk_loop (σ := Int32 × q_H) (fun n i s => lp_X5_wakes_9 (fun _ _ g => Q g) n s.1 (nI i) s.2) (fun t s => s.1 = nI (z_lat m t) - 1 ∧ z_K h s.2 ∧ s.2.1 18 0 11 = nI (z_nw m t) ∧ (z_nw m t + z_left m (z_lat m t) ≤ z_nt m) ∧ ∀ x, x < t → z_wk m x = true → s.2.1 26 0 (z_nw m x) = nI x) 64 0 (-1, _) (by omega) ⟨rfl, z_K_sI (by omega) (z_K.rf h), q_sI_r, by have := z_left_all m; show 0 + z_left m 0 ≤ _; omega, fun x hx => by omega⟩ ?_ ?_
  · rintro n ⟨x, g⟩ ⟨h1, h2, h3, h4, h5⟩
    unfold lp_X5_wakes_9
    exact ⟨fun _ => k g h2 ⟨h3, h5⟩, fun z => absurd (show nI 64 ≤ nI 64 from nI_le (by omega) (by omega)) z⟩
  · rintro n t ⟨x, g⟩ ht ⟨h1, h2, h3, h4, h5⟩ ih
    have h1 : x = nI (z_lat m t) - 1 := h1
    subst h1
    have h2 : z_K h g := h2
    have h3 : g.1 18 0 11 = nI (z_nw m t) := h3
    have h5 : ∀ x, x < t → z_wk m x = true → g.1 26 0 (z_nw m x) = nI x := h5
    unfold lp_X5_wakes_9
    refine ⟨fun z => absurd z (show ¬ nI 64 ≤ nI t from nle ht (by omega)), fun _ => ?_⟩
    refine s5_ends hok (h2.M hc) ht (fun y => ?_)
    dsimp only
    rw [nI_1 t, h3]
    refine ⟨fun z => ?_, fun z => ?_⟩
    · have hw := bI_0.mp z
      refine ih (_, _) ⟨by show _ = _; rw [z_lat_no hw], h2, by show g.1 18 0 11 = _; rw [h3, z_nw_0 hw], by rw [z_nw_0 hw, z_lat_no hw]; exact h4, fun x hx hwx => ?_⟩
      by_cases e : x = t
      · subst e; rw [hw] at hwx; cases hwx
      · exact h5 x (by omega) hwx
    · have hw : z_wk m t = true := ts_nf (fun q => z (by rw [q]; rfl))
      have hlt := z_left_lt hok hw
      rw [cl (by omega), nI_1 (z_nw m t)]
      refine ⟨vin (by omega) (by omega), ?_⟩
      refine ih (_, _) ⟨by show nI t = nI _ - 1; rw [z_lat_at hw, nI_pred], z_K_sI (by omega) (z_K_sI (by omega) h2), by rw [z_nw_1 hw]; exact q_sI_r, by rw [z_nw_1 hw, z_lat_at hw]; omega, fun x hx hwx => ?_⟩
      show (q_sI (q_sI g 26 0 _ _) 18 0 11 _).1 26 0 _ = _
      rw [q_sI_o (by omega)]
      by_cases e : x = t
      · subst e; exact q_sI_r
      · have hlt2 : z_nw m (x + 1) ≤ z_nw m t := z_nw_up m (by omega)
        rw [z_nw_1 hwx] at hlt2
        rw [q_sI_o (by omega)]
        exact h5 x (by omega) hwx
theorem z_nw_12 {m : q_S} (hok : z_ok m) : ∀ t, z_nw m t + z_left m (z_lat m t) ≤ z_nt m
  | 0 => by have := z_left_all m; show 0 + z_left m 0 ≤ _; omega
  | t + 1 => by
    have ih := z_nw_12 hok t
    cases e : z_wk m t with
    | false => rw [z_nw_0 e, z_lat_no e]; exact ih
    | true =>
      have := z_left_lt hok e
      rw [z_nw_1 e, z_lat_at e]
      omega
theorem z_nw_hit {m : q_S} : ∀ {n i : Nat}, i < z_nw m n → ∃ x, x < n ∧ z_wk m x = true ∧ z_nw m x = i
  | 0, i, h => absurd h (by show ¬ i < 0; omega)
  | n + 1, i, h => by
    cases e : z_wk m n with
    | false =>
      rw [z_nw_0 e] at h
      obtain ⟨s, h1, h2, h3⟩ := z_nw_hit h
      exact ⟨s, by omega, h2, h3⟩
    | true =>
      rw [z_nw_1 e] at h
      by_cases ei : i = z_nw m n
      · exact ⟨n, by omega, e, ei.symm⟩
      · obtain ⟨s, h1, h2, h3⟩ := z_nw_hit (m := m) (n := n) (i := i) (by omega)
        exact ⟨s, by omega, h2, h3⟩
theorem s5_firesAt {m : q_S} {lo : Int32} {i : Nat} {h : q_H} {Q : Int32 → q_H → Prop} (hok : z_ok m) (hc : z_Ml m lo h) (hw : z_Wk m h) (hi : i < z_nt m) (k : Q (nI (z_fi m i)) h) : wp_X5_firesAt (nI i) h Q := by
  have hnt := hok.1.2.2
  obtain ⟨_, _, a3, a4⟩ := hok.2.2.2.2.2.2.2.2 i hi
  obtain ⟨b1, b2, b3, b4⟩ := z_fi_spec hi a3 a4
  have hlt : z_nw m (z_fi m i) < 12 := by
    have h1 := z_nw_12 hok (z_fi m i + 1)
    rw [z_nw_1 b1] at h1
    omega
  have hre := hc.2.2.2.2.2.2.2 i hi 2 (by omega)
  have hat := hw.2 (z_fi m i) (by omega) b1
  unfold wp_X5_firesAt
  refine pk_loop (σ := q_H) (fun n j s => lp_X5_firesAt_2 (nI i) (fun y g => vp_in y 12 ∧ Q (g.1 26 0 y.toNatClampNeg) g) n (nI j) s) (fun j s => s = h) (z_nw m (z_fi m i)) 0 h (by omega) rfl ?_ ?_
  · rintro n s rfl
    unfold lp_X5_firesAt_2
    rw [ix42, cl (by omega), hre, cl (by omega), hat]
    refine ⟨vin hlt (by omega), vin (by omega) (by omega), fun _ => ⟨vin hlt (by omega), k⟩, fun z => absurd (nI_le b2 (by omega)) z⟩
  · rintro n j s hj rfl ih
    unfold lp_X5_firesAt_2
    rw [ix42, cl (by omega), hre, cl (by omega), nI_1 j]
    refine ⟨vin (by omega) (by omega), vin (by omega) (by omega), fun z => ?_, fun _ => ih _ rfl⟩
    exfalso
    obtain ⟨x, hx1, hx2, hx3⟩ := z_nw_hit (m := m) (n := z_fi m i) hj
    rw [← hx3, hw.2 x (by omega) hx2] at z
    have := (nI_leI (by omega) (by omega)).mp z
    rw [b4 x this hx1] at hx2
    cases hx2
end
section
/-! ===== the reference: who wants whom ===== -/
def z_by (S : Nat → Nat → Nat → Bool) (f : Nat → Int32) : Prop := ∀ p, p < 6 → ∀ t, t < 64 → ∀ g, g < 32 → bt (f (64 * p + t)) g = S p t g
theorem z_by.congr {S S' : Nat → Nat → Nat → Bool} {f : Nat → Int32} (h : z_by S f) (e : ∀ p, p < 6 → ∀ t, t < 64 → ∀ g, g < 32 → S p t g = S' p t g) : z_by S' f := fun p hp t ht g hg => (h p hp t ht g hg).trans (e p hp t ht g hg)
theorem z_by_put {S : Nat → Nat → Nat → Bool} {f : Nat → Int32} (h : z_by S f) {p0 t0 g0 : Nat} (hp0 : p0 < 6) (ht0 : t0 < 64) (hg0 : g0 < 32) : z_by (fun p t g => S p t g || (decide (g0 = g) && (decide (p0 = p) && decide (t0 = t)))) (upd f (64 * p0 + t0) (f (64 * p0 + t0) ||| ((1 : Int32) <<< (nI g0 &&& 31)))) := by
  intro p hp t ht g hg
  by_cases e : 64 * p + t = 64 * p0 + t0
  · have e1 : p = p0 := by omega
    have e2 : t = t0 := by omega
    subst e1; subst e2
    rw [vI_s, b_or, b_one hg0 hg, h p hp t ht g hg]
    by_cases e3 : g = g0
    · subst e3; simp
    · simp [e3, show ¬ g0 = g from fun q => e3 q.symm]
  · rw [vI_n e, h p hp t ht g hg]
    have : ¬ (p0 = p ∧ t0 = t) := fun q => e (by rw [q.1, q.2])
    by_cases e3 : p0 = p
    · have e4 : ¬ t0 = t := fun q => this ⟨e3, q⟩
      simp [e4]
    · simp [e3]
theorem z_K_aI {h g : q_H} {f : Nat → Int32} (a : z_K h g) : z_K h (q_aI g 27 0 f) := by
  refine ⟨fun n x y z => ?_, fun n x y z => ?_, a.2.2⟩
  · rw [← a.1 n x y z]
    funext i1
    exact q_aI_ne (by omega)
  · rw [← a.2.1 n x y z, q_aI_ne (by omega)]
theorem z_Wk_aI {m : q_S} {g : q_H} {f : Nat → Int32} (a : z_Wk m g) : z_Wk m (q_aI g 27 0 f) := by
  unfold z_Wk
  rw [q_aI_ne (by omega), q_aI_ne (by omega)]
  exact a
theorem s5_clear {h : q_H} {E : Int32 → q_H → Prop} (k : ∀ y (f : Nat → Int32), (∀ j, j < 384 → f j = 0) → E y (q_aI h 27 0 f)) : ∃ n, lp_X5_wants_6 E n 0 h := by
  refine pk_loop (σ := q_H) (fun n i s => lp_X5_wants_6 E n (nI i) s) (fun i s => ∃ f : Nat → Int32, s = q_aI h 27 0 f ∧ ∀ j, j < i → f j = 0) 384 0 h (by omega) ⟨h.1 27 0, (q_aI_self h 27 0).symm, fun j hj => by omega⟩ ?_ ?_
  · rintro n s ⟨f, rfl, hf⟩
    unfold lp_X5_wants_6
    exact ⟨fun _ => k _ f hf, fun z => absurd (show nI 384 ≤ nI 384 from nI_le (by omega) (by omega)) z⟩
  · rintro n i s hi ⟨f, rfl, hf⟩ ih
    unfold lp_X5_wants_6
    refine ⟨fun z => absurd z (show ¬ nI 384 ≤ nI i from nle hi (by omega)), fun _ => ⟨vin hi (by omega), ?_⟩⟩
    rw [nI_1, cl (by omega), q_sI_a, q_aI_at, q_aI_aI]
    refine ih _ ⟨_, rfl, fun j hj => ?_⟩
    by_cases e : j = i
    · subst e; exact vI_s _ _ _
    · rw [vI_n e]; exact hf j (by omega)
theorem s5_hold1 {m : q_S} {lo : Int32} {i : Nat} {S : Nat → Nat → Nat → Bool} {h : q_H} {f : Nat → Int32} {E : Int32 → q_H → Prop} (hok : z_ok m) (hc : z_Ml m lo h) (hi : i < z_nh m) (hf : z_by S f) (k : ∀ y (f1 : Nat → Int32), z_by (fun p t g => S p t g || (z_ho m i 0 == g && (z_ho m i 1 == p && (decide (z_ho m i 2 ≤ t) && decide (t < z_ho m i 3))))) f1 → E y (q_aI h 27 0 f1)) : ∃ n, lp_X5_wants_55 (nI i) E n (nI (z_ho m i 2)) (q_aI h 27 0 f) := by
  have hnh := hok.1.2.1
  have hnp := hok.1.1
  obtain ⟨a0, a1, a2, a3⟩ := hok.2.2.2.2.2.2.2.1 i hi
  refine pk_loop (σ := q_H) (fun n x s => lp_X5_wants_55 (nI i) E n (nI x) s) (fun x s => z_ho m i 2 ≤ x ∧ ∃ f1 : Nat → Int32, s = q_aI h 27 0 f1 ∧ z_by (fun p t g => S p t g || (z_ho m i 0 == g && (z_ho m i 1 == p && (decide (z_ho m i 2 ≤ t) && decide (t < x))))) f1) (z_ho m i 3) (z_ho m i 2) _ a2 ⟨Nat.le_refl _, f, rfl, hf.congr (fun p _ t _ g _ => ?_)⟩ ?_ ?_
  · have : (decide (z_ho m i 2 ≤ t) && decide (t < z_ho m i 2)) = false := by
      by_cases e : z_ho m i 2 ≤ t
      · rw [decide_eq_false (show ¬ t < z_ho m i 2 by omega), Bool.and_false]
      · rw [decide_eq_false e, Bool.false_and]
    rw [this, Bool.and_false, Bool.and_false, Bool.or_false]
  · rintro n s ⟨_, f1, rfl, hf1⟩
    have hc' : z_Ml m lo (q_aI h 27 0 f1) := (z_K_aI (z_K.rf h)).M hc
    unfold lp_X5_wants_55
    rw [ix43, cl (by omega), hc'.2.2.2.2.2.2.1 i hi 3 (by omega)]
    exact ⟨vin (by omega) (by omega), fun _ => k _ f1 hf1, fun z => absurd (nI_le (Nat.le_refl _) (by omega)) z⟩
  · rintro n x s hx ⟨hx2, f1, rfl, hf1⟩ ih
    have hc' : z_Ml m lo (q_aI h 27 0 f1) := (z_K_aI (z_K.rf h)).M hc
    unfold lp_X5_wants_55
    rw [ix43, ix41, ix40, cl (show 4 * i + 3 < 2 ^ 31 by omega), cl (show 4 * i + 1 < 2 ^ 31 by omega), cl (show 4 * i + 0 < 2 ^ 31 by omega), hc'.2.2.2.2.2.2.1 i hi 3 (by omega), hc'.2.2.2.2.2.2.1 i hi 1 (by omega), hc'.2.2.2.2.2.2.1 i hi 0 (by omega), ix64, cl (show 64 * z_ho m i 1 + x < 2 ^ 31 by omega), nI_1 x]
    refine ⟨vin (by omega) (by omega), fun z => absurd z (nle hx (by omega)), fun _ => ⟨vin (by omega) (by omega), vin (by omega) (by omega), vin (by omega) (by omega), vin (by omega) (by omega), ?_⟩⟩
    rw [q_sI_a, q_aI_at, q_aI_aI]
    refine ih _ ⟨by omega, _, rfl, (z_by_put hf1 (show z_ho m i 1 < 6 by omega) (show x < 64 by omega) (show z_ho m i 0 < 32 by omega)).congr (fun p hp t ht g hg => ?_)⟩
    by_cases e1 : z_ho m i 0 = g
    · by_cases e2 : z_ho m i 1 = p
      · by_cases e3 : x = t
        · subst e3
          simp [e1, e2, hx2]
        · have : decide (t < x + 1) = decide (t < x) := decide_eq_decide.mpr (by omega)
          simp [e1, e2, e3, this]
      · rw [show (z_ho m i 1 == p) = false by simpa using e2, decide_eq_false e2]
        simp
    · rw [show (z_ho m i 0 == g) = false by simpa using e1, decide_eq_false e1]
      simp
theorem any_succ (i : Nat) (F : Nat → Bool) : (List.range (i + 1)).any F = ((List.range i).any F || F i) := by
  rw [List.range_succ, List.any_append]; simp
def z_bh (m : q_S) (lo : Int32) (n p t g : Nat) : Bool := (List.range n).any (fun i => !decide (nI i = lo) && (z_ho m i 0 == g && (z_ho m i 1 == p && (decide (z_ho m i 2 ≤ t) && decide (t < z_ho m i 3)))))
def z_bt (m : q_S) (n p t g : Nat) : Bool := (List.range n).any (fun i => z_ti m i 0 == g && (z_ti m i 1 == p && z_fi m i == t))
theorem s5_holds {m : q_S} {lo : Int32} {h : q_H} {f : Nat → Int32} {E : Int32 → q_H → Prop} (hok : z_ok m) (hc : z_Ml m lo h) (hf : ∀ j, j < 384 → f j = 0) (k : ∀ y (f1 : Nat → Int32), z_by (z_bh m lo (z_nh m)) f1 → E y (q_aI h 27 0 f1)) : ∃ n, lp_X5_wants_28 E n 0 (q_aI h 27 0 f) := by
  have hnh := hok.1.2.1
  refine pk_loop (σ := q_H) (fun n i s => lp_X5_wants_28 E n (nI i) s) (fun i s => ∃ f1 : Nat → Int32, s = q_aI h 27 0 f1 ∧ z_by (z_bh m lo i) f1) (z_nh m) 0 _ (by omega) ⟨f, rfl, fun p hp t ht g hg => by rw [hf _ (by omega), b_0]; rfl⟩ ?_ ?_
  · rintro n s ⟨f1, rfl, hf1⟩
    have hc' : z_Ml m lo (q_aI h 27 0 f1) := (z_K_aI (z_K.rf h)).M hc
    unfold lp_X5_wants_28
    rw [hc'.1.2.1]
    exact ⟨fun _ => k _ f1 hf1, fun z => absurd (nI_le (Nat.le_refl _) (by omega)) z⟩
  · rintro n i s hi ⟨f1, rfl, hf1⟩ ih
    have hc' : z_Ml m lo (q_aI h 27 0 f1) := (z_K_aI (z_K.rf h)).M hc
    unfold lp_X5_wants_28
    rw [hc'.1.2.1, hc'.1.2.2.2, nI_1 i, ix42, cl (show 4 * i + 2 < 2 ^ 31 by omega), hc'.2.2.2.2.2.2.1 i hi 2 (by omega)]
    refine ⟨fun z => absurd z (nle hi (by omega)), fun _ => ⟨fun z => ?_, fun z => ⟨vin (by omega) (by omega), ?_⟩⟩⟩
    · refine ih _ ⟨f1, rfl, hf1.congr (fun p _ t _ g _ => ?_)⟩
      unfold z_bh
      rw [any_succ, decide_eq_true z, Bool.not_true, Bool.false_and, Bool.or_false]
    · refine s5_hold1 hok hc hi hf1 (fun y f2 hf2 => ?_)
      refine ih _ ⟨f2, rfl, hf2.congr (fun p _ t _ g _ => ?_)⟩
      unfold z_bh
      rw [any_succ, decide_eq_false z, Bool.not_false, Bool.true_and]
theorem s5_timers {m : q_S} {lo : Int32} {h : q_H} {f : Nat → Int32} {E : Int32 → q_H → Prop} (hok : z_ok m) (hc : z_Ml m lo h) (hw : z_Wk m h) (hf : z_by (z_bh m lo (z_nh m)) f) (k : ∀ y (f1 : Nat → Int32), z_by (fun p t g => z_base m lo g t p) f1 → E y (q_aI h 27 0 f1)) : ∃ n, lp_X5_wants_116 E n 0 (q_aI h 27 0 f) := by
  have hnt := hok.1.2.2
  have hnp := hok.1.1
  refine pk_loop (σ := q_H) (fun n i s => lp_X5_wants_116 E n (nI i) s) (fun i s => ∃ f1 : Nat → Int32, s = q_aI h 27 0 f1 ∧ z_by (fun p t g => z_bh m lo (z_nh m) p t g || z_bt m i p t g) f1) (z_nt m) 0 _ (by omega) ⟨f, rfl, hf.congr (fun p _ t _ g _ => by rw [show z_bt m 0 p t g = false from rfl, Bool.or_false])⟩ ?_ ?_
  · rintro n s ⟨f1, rfl, hf1⟩
    have hc' : z_Ml m lo (q_aI h 27 0 f1) := (z_K_aI (z_K.rf h)).M hc
    unfold lp_X5_wants_116
    rw [hc'.1.2.2.1]
    exact ⟨fun _ => k _ f1 hf1, fun z => absurd (nI_le (Nat.le_refl _) (by omega)) z⟩
  · rintro n i s hi ⟨f1, rfl, hf1⟩ ih
    have hc' : z_Ml m lo (q_aI h 27 0 f1) := (z_K_aI (z_K.rf h)).M hc
    obtain ⟨a0, a1, a2, a3⟩ := hok.2.2.2.2.2.2.2.2 i hi
    obtain ⟨b1, b2, b3, b4⟩ := z_fi_spec hi a2 a3
    unfold lp_X5_wants_116
    rw [hc'.1.2.2.1, nI_1 i, ix41, ix40, cl (show 4 * i + 1 < 2 ^ 31 by omega), hc'.2.2.2.2.2.2.2 i hi 1 (by omega)]
    refine ⟨fun z => absurd z (nle hi (by omega)), fun _ => ⟨vin (by omega) (by omega), ?_⟩⟩
    refine s5_firesAt hok hc' (z_Wk_aI hw) hi ?_
    rw [cl (show 4 * i + 0 < 2 ^ 31 by omega), hc'.2.2.2.2.2.2.2 i hi 0 (by omega), ix64, cl (show 64 * z_ti m i 1 + z_fi m i < 2 ^ 31 by omega)]
    refine ⟨vin (by omega) (by omega), vin (by omega) (by omega), vin (by omega) (by omega), ?_⟩
    rw [q_sI_a, q_aI_at, q_aI_aI]
    refine ih _ ⟨_, rfl, (z_by_put hf1 (show z_ti m i 1 < 6 by omega) (show z_fi m i < 64 by omega) (show z_ti m i 0 < 32 by omega)).congr (fun p hp t ht g hg => ?_)⟩
    unfold z_bt
    rw [any_succ, Bool.or_assoc]
    congr 2
theorem s5_addAll {a b : Nat} {h : q_H} {f : Nat → Int32} {y0 : Int32} {E : Int32 → q_H → Prop} (ha : a < 6) (hb : b < 6) (k : ∀ y (f1 : Nat → Int32), (∀ x t, x < 6 → t < 64 → f1 (64 * x + t) = if x = b then f (64 * b + t) ||| f (64 * a + t) else f (64 * x + t)) → E y (q_aI h 27 0 f1)) : ∃ n, lp_X5_wants_212 y0 (nI a) (nI b) E n 0 (q_aI h 27 0 f) := by
  refine pk_loop (σ := q_H) (fun n i s => lp_X5_wants_212 y0 (nI a) (nI b) E n (nI i) s) (fun i s => ∃ f1 : Nat → Int32, s = q_aI h 27 0 f1 ∧ ∀ x t, x < 6 → t < 64 → f1 (64 * x + t) = if x = b ∧ t < i then f (64 * b + t) ||| f (64 * a + t) else f (64 * x + t)) 64 0 _ (by omega) ⟨f, rfl, fun x t _ _ => by rw [if_neg (by omega)]⟩ ?_ ?_
  · rintro n s ⟨f1, rfl, hf⟩
    unfold lp_X5_wants_212
    refine ⟨fun _ => k _ f1 (fun x t hx ht => ?_), fun z => absurd (show nI 64 ≤ nI 64 from nI_le (by omega) (by omega)) z⟩
    rw [hf x t hx ht]
    by_cases e : x = b
    · rw [if_pos ⟨e, ht⟩, if_pos e]
    · rw [if_neg (fun z => e z.1), if_neg e]
  · rintro n i s hi ⟨f1, rfl, hf⟩ ih
    unfold lp_X5_wants_212
    refine ⟨fun z => absurd z (show ¬ nI 64 ≤ nI i from nle hi (by omega)), fun _ => ?_⟩
    rw [ix64, ix64, cl (show 64 * b + i < 2 ^ 31 by omega), cl (show 64 * a + i < 2 ^ 31 by omega), nI_1 i, q_sI_a, q_aI_at, q_aI_aI]
    refine ⟨vin (by omega) (by omega), vin (by omega) (by omega), vin (by omega) (by omega), ?_⟩
    refine ih _ ⟨_, rfl, fun x t hx ht => ?_⟩
    by_cases e : 64 * x + t = 64 * b + i
    · have e1 : x = b := by omega
      have e2 : t = i := by omega
      subst e1; subst e2
      rw [vI_s, if_pos ⟨rfl, by omega⟩, hf x t hx ht, if_neg (by omega)]
      rw [hf a t ha ht]
      rw [if_neg (by omega)]
    · rw [vI_n e, hf x t hx ht]
      by_cases e1 : x = b ∧ t < i
      · rw [if_pos e1, if_pos ⟨e1.1, by omega⟩]
      · rw [if_neg e1, if_neg (by omega)]
/-- the reference's rows, turned the way the class lays them -/
def z_tn (f : Nat → Int32) (j : Nat) : Int64 := z_bldL (fun t => bt (f (64 * (j / 8) + t)) (j % 8)) 64
theorem z_tn_tb (f : Nat → Int32) {p g t : Nat} (hg : g < 8) (ht : t < 64) : tb (z_tn f (p * 8 + g)) t = bt (f (64 * p + t)) g := by
  unfold z_tn
  rw [z_bldL_tb _ 64 (by omega) t ht, decide_eq_true ht, Bool.true_and, show (p * 8 + g) / 8 = p by omega, show (p * 8 + g) % 8 = g by omega]
theorem z_tn_put {f f1 : Nat → Int32} {a b : Nat} (ha : a < 6) (hb : b < 6) (hf : ∀ x t, x < 6 → t < 64 → f1 (64 * x + t) = if x = b then f (64 * b + t) ||| f (64 * a + t) else f (64 * x + t)) : ∀ x g, x < 6 → g < 8 → z_tn f1 (x * 8 + g) = if x = b then z_tn f (b * 8 + g) ||| z_tn f (a * 8 + g) else z_tn f (x * 8 + g) := by
  intro x g hx hg
  apply tb_ext
  intro t ht
  rw [z_tn_tb f1 hg ht, hf x t hx ht]
  by_cases e : x = b
  · rw [if_pos e, if_pos e, b_or, tb_or, z_tn_tb f hg ht, z_tn_tb f hg ht]
  · rw [if_neg e, if_neg e, z_tn_tb f hg ht]
def z_top (f : Nat → Int32) : Prop := ∀ p, p < 6 → ∀ t, t < 64 → ∀ g, 8 ≤ g → g < 32 → bt (f (64 * p + t)) g = false
theorem z_top_put {f f1 : Nat → Int32} {a b : Nat} (h : z_top f) (ha : a < 6) (hb : b < 6) (hf : ∀ x t, x < 6 → t < 64 → f1 (64 * x + t) = if x = b then f (64 * b + t) ||| f (64 * a + t) else f (64 * x + t)) : z_top f1 := by
  intro p hp t ht g hg hg2
  rw [hf p t hp ht]
  by_cases e : p = b
  · rw [if_pos e, b_or, h b hb t ht g hg hg2, h a ha t ht g hg hg2]; rfl
  · rw [if_neg e]; exact h p hp t ht g hg hg2
/-- who wants whom is laid out -/
def z_B (m : q_S) (lo : Int32) (h : q_H) : Prop := ∀ p, p < 6 → ∀ t, t < 64 → ∀ g, g < 32 → bt (h.1 27 0 (64 * p + t)) g = (decide (g < 8) && z_W m lo p g t)
theorem s5_spread {m : q_S} {lo : Int32} {h : q_H} {f : Nat → Int32} {E : Int32 → q_H → Prop} (hok : z_ok m) (hc : z_Ml m lo h) (hf : z_by (fun p t g => z_base m lo g t p) f) (k : ∀ y (f1 : Nat → Int32), z_B m lo (q_aI h 27 0 f1) → E y (q_aI h 27 0 f1)) : ∃ n, lp_X5_wants_169 E n 0 (q_aI h 27 0 f) := by
  have hnp := hok.1.1
  have hnn := hok.2.2.2.2.2.2.1.1
  have htop : z_top f := by
    intro p hp t ht g hg hg2
    rw [hf p hp t ht g hg2]
    unfold z_base
    rw [Bool.or_eq_false_iff]
    constructor
    · refine z_any_f.mpr (fun i hi => ?_)
      have := (hok.2.2.2.2.2.2.2.1 i hi).1
      rw [show (z_ho m i 0 == g) = false by simp; omega, Bool.false_and, Bool.and_false]
    · refine z_any_f.mpr (fun i hi => ?_)
      have := (hok.2.2.2.2.2.2.2.2 i hi).1
      rw [show (z_ti m i 0 == g) = false by simp; omega, Bool.false_and]
  refine pk_loop (σ := q_H) (fun n i s => lp_X5_wants_169 E n (nI i) s) (fun i s => ∃ f1 : Nat → Int32, s = q_aI h 27 0 f1 ∧ z_top f1 ∧ z_hi (z_nd m) (z_base m lo) (z_tn f1) ∧ z_lo (z_nd m) (z_base m lo) i (z_tn f1)) 6 0 _ (by omega) ⟨f, rfl, htop, ?_, ?_⟩ ?_ ?_
  · intro g hg t ht T hT hs p hp h1
    rw [z_tn_tb f hg ht, hf p hp t ht g (by omega)] at h1
    exact hs p hp h1
  · intro g hg t ht p hp h1
    rw [z_tn_tb f hg ht, hf p hp t ht g (by omega)]
    exact h1
  · rintro n s ⟨f1, rfl, h0, hh, hl⟩
    unfold lp_X5_wants_169
    refine ⟨fun _ => k _ f1 (fun p hp t ht g hg => ?_), fun z => absurd (show nI 6 ≤ nI 6 from nI_le (by omega) (by omega)) z⟩
    rw [q_aI_at]
    by_cases e : g < 8
    · rw [decide_eq_true e, Bool.true_and, ← z_tn_tb f1 e ht]
      exact z_clo_eq (b := fun p => tb (z_tn f1 (p * 8 + g)) t) (k := 6) (by omega) (fun p hp h1 => hl g e t ht p hp h1) (fun T hT hs p hp h1 => hh g e t ht T hT hs p hp h1) p hp
    · rw [decide_eq_false e, Bool.false_and]
      exact h0 p hp t ht g (by omega) hg
  · rintro n i s hi ⟨f0, rfl, h0, hh, hl⟩ ih
    unfold lp_X5_wants_169
    refine ⟨fun z => absurd z (show ¬ nI 6 ≤ nI i from nle hi (by omega)), fun _ => ?_⟩
    refine pk_loop (σ := q_H) (fun n a s => lp_X5_wants_177 (nI i) (fun _ g => lp_X5_wants_169 E _ (nI i + 1) g) n (nI a) s) (fun a s => ∃ f1 : Nat → Int32, s = q_aI h 27 0 f1 ∧ z_top f1 ∧ z_hi (z_nd m) (z_base m lo) (z_tn f1) ∧ z_mid (z_nd m) (z_tn f0) (z_tn f1) a 0) (z_np m) 0 _ (by omega) ⟨f0, rfl, h0, hh, fun g hg t ht => ⟨fun _ _ h => h, fun p q _ _ hpq => by omega⟩⟩ ?_ ?_
    · rintro n2 s ⟨f1, rfl, h2, hh2, hm⟩
      have hc' : z_Ml m lo (q_aI h 27 0 f1) := (z_K_aI (z_K.rf h)).M hc
      unfold lp_X5_wants_177
      rw [hc'.1.1]
      refine ⟨fun _ => ?_, fun z => absurd (nI_le (Nat.le_refl _) (by omega)) z⟩
      rw [nI_1 i]
      refine ih _ ⟨f1, rfl, h2, hh2, z_lo_next hl (fun g hg t ht => ⟨(hm g hg t ht).1, fun p q hp hq _ hd => (hm g hg t ht).2 p q hp hq (Or.inl (hnn p q hd).1) hd⟩)⟩
    · rintro n2 a s ha ⟨f1, rfl, h2, hh2, hm⟩ ih2
      have hc' : z_Ml m lo (q_aI h 27 0 f1) := (z_K_aI (z_K.rf h)).M hc
      unfold lp_X5_wants_177
      rw [hc'.1.1]
      refine ⟨fun z => absurd z (nle ha (by omega)), fun _ => ?_⟩
      refine pk_loop (σ := q_H) (fun n b s => lp_X5_wants_187 (nI i) (nI a) (fun _ g => lp_X5_wants_177 (nI i) _ _ (nI a + 1) g) n (nI b) s) (fun b s => ∃ f1 : Nat → Int32, s = q_aI h 27 0 f1 ∧ z_top f1 ∧ z_hi (z_nd m) (z_base m lo) (z_tn f1) ∧ z_mid (z_nd m) (z_tn f0) (z_tn f1) a b) (z_np m) 0 _ (by omega) ⟨f1, rfl, h2, hh2, hm⟩ ?_ ?_
      · rintro n3 s ⟨f2, rfl, h3, hh3, hm3⟩
        have hc2 : z_Ml m lo (q_aI h 27 0 f2) := (z_K_aI (z_K.rf h)).M hc
        unfold lp_X5_wants_187
        rw [hc2.1.1]
        refine ⟨fun _ => ?_, fun z => absurd (nI_le (Nat.le_refl _) (by omega)) z⟩
        rw [nI_1 a]
        exact ih2 _ ⟨f2, rfl, h3, hh3, fun g hg t ht => ⟨(hm3 g hg t ht).1, fun p q hp hq hpq hd => (hm3 g hg t ht).2 p q hp hq (by have := (hnn p q hd).2; omega) hd⟩⟩
      · rintro n3 b s hb ⟨f2, rfl, h3, hh3, hm3⟩ ih3
        have hc2 : z_Ml m lo (q_aI h 27 0 f2) := (z_K_aI (z_K.rf h)).M hc
        unfold lp_X5_wants_187
        rw [hc2.1.1, ix6, cl (show 6 * a + b < 2 ^ 31 by omega), hc2.2.2.2.2.2.1 a (by omega) b (by omega), nI_1 b]
        refine ⟨fun z => absurd z (nle hb (by omega)), fun _ => ⟨vin (by omega) (by omega), fun z => ?_, fun z => ?_⟩⟩
        · have hn : z_nd m a b = false := by
            cases e : z_nd m a b with
            | false => rfl
            | true => rw [e] at z; exact absurd z (by decide)
          exact ih3 _ ⟨f2, rfl, h3, hh3, z_mid_skip hm3 hn⟩
        · have hn : z_nd m a b = true := by
            cases e : z_nd m a b with
            | true => rfl
            | false => rw [e] at z; exact absurd rfl z
          refine s5_addAll (by omega) (by omega) (fun y f3 hf3 => ?_)
          have ht := z_tn_put (f := f2) (f1 := f3) (show a < 6 by omega) (show b < 6 by omega) hf3
          exact ih3 _ ⟨f3, rfl, z_top_put h3 (by omega) (by omega) hf3, z_hi_put hh3 (by omega) (by omega) hn ht, z_mid_put hm3 (by omega) ht⟩
theorem s5_wants {m : q_S} {lo : Int32} {h : q_H} {Q : q_H → Prop} (hok : z_ok m) (hc : z_Ml m lo h) (k : ∀ g, z_K h g → z_B m lo g → Q g) : wp_X5_wants h Q := by
  unfold wp_X5_wants
  refine s5_wakes hok hc (fun g hg hw => ?_)
  have hcg := hg.M hc
  refine s5_clear (fun _ f hf => ?_)
  refine s5_holds hok hcg hf (fun _ f1 hf1 => ?_)
  refine s5_timers hok hcg hw hf1 (fun _ f2 hf2 => ?_)
  exact s5_spread hok hcg hf2 (fun _ f3 hf3 => k _ (z_K_aI hg) hf3)
end
section
/-! ===== the reference: spans, costs, choices ===== -/
def z_N (m : q_S) (lo : Int32) (h : q_H) : Prop := z_Ml m lo h ∧ z_B m lo h
theorem z_N.k {m : q_S} {lo : Int32} {h g : q_H} (c : z_N m lo h) (a : z_K1 h g) : z_N m lo g := by
  refine ⟨a.K.M c.1, ?_⟩
  unfold z_B
  rw [a.1 27 (by omega)]
  exact c.2
theorem z_w_iff {m : q_S} {lo : Int32} {h : q_H} (hB : z_B m lo h) {p t : Nat} (hp : p < 6) (ht : t < 64) : h.1 27 0 (64 * p + t) = 0 ↔ z_w m lo p t = false := by
  unfold z_w
  rw [z_any_f]
  constructor
  · intro e g hg
    have := hB p hp t ht g (by omega)
    rw [e, b_0, decide_eq_true hg, Bool.true_and] at this
    exact this.symm
  · intro e
    apply b_ext
    intro g hg
    rw [hB p hp t ht g hg, b_0]
    by_cases h8 : g < 8
    · rw [e g h8, Bool.and_false]
    · rw [decide_eq_false h8, Bool.false_and]
theorem s5_isWanted {m : q_S} {lo : Int32} {p t : Nat} {h : q_H} {Q : Int32 → q_H → Prop} (hB : z_B m lo h) (hp : p < 6) (ht : t < 64) (k : Q (bI (z_w m lo p t)) h) : wp_X5_isWanted (nI p) (nI t) h Q := by
  unfold wp_X5_isWanted
  rw [ix64, cl (by omega)]
  refine ⟨vin (by omega) (by omega), fun z => ?_, fun z => ?_⟩
  · rw [(z_w_iff hB hp ht).mp z] at k; exact k
  · rw [ts_nf (fun q => z ((z_w_iff hB hp ht).mpr q))] at k; exact k
theorem s5_run {m : q_S} {lo : Int32} {p t : Nat} {h : q_H} {E : q_H → Prop} (hB : z_N m lo h) (hp : p < 6) (ht : t < 64) (h14 : h.1 18 0 14 = nI t) (h15 : h.1 18 0 15 = 0) (k : ∀ g, z_K1 h g → g.1 18 0 14 = nI t → g.1 18 0 15 = nI (z_len (z_w m lo p) t) → E g) : ∃ n, lp_X5_begins_36 (nI p) (nI t) E n h := by
  have hlen := z_len_le (z_w m lo p) (show t ≤ 64 by omega)
  refine pk_loop (σ := q_H) (fun n _ s => lp_X5_begins_36 (nI p) (nI t) E n s) (fun i s => z_K1 h s ∧ s.1 18 0 14 = nI t ∧ s.1 18 0 15 = nI i) (z_len (z_w m lo p) t) 0 h (by omega) ⟨z_K1.rf h, h14, h15⟩ ?_ ?_
  · rintro n s ⟨a1, a2, a3⟩
    unfold lp_X5_begins_36
    rw [a3, nI_add]
    refine ⟨fun _ => k s a1 a2 a3, fun z => ?_⟩
    have hlt : t + z_len (z_w m lo p) t < 64 := Nat.lt_of_not_le (fun q => z (nI_le q (by omega)))
    refine s5_isWanted (hB.k a1).2 hp hlt ?_
    have hw : z_w m lo p (t + z_len (z_w m lo p) t) = true := z_run_end (z_w m lo p) (64 - t) t (by unfold z_len at hlt; omega)
    rw [hw]
    exact ⟨fun z => absurd z (by decide), fun _ => k s a1 a2 a3⟩
  · rintro n i s hi ⟨a1, a2, a3⟩ ih
    unfold lp_X5_begins_36
    rw [a3, nI_add]
    refine ⟨fun z => absurd z (show ¬ nI 64 ≤ nI (t + i) from nle (by omega) (by omega)), fun _ => ?_⟩
    refine s5_isWanted (hB.k a1).2 hp (by omega) ?_
    rw [z_run_idle (z_w m lo p) (64 - t) t i hi]
    refine ⟨fun _ => ih _ ⟨z_K1_sI (by omega) a1, ?_, ?_⟩, fun z => absurd rfl z⟩
    · rw [q_sI_o (by omega)]; exact a2
    · rw [q_sI_r, a3, nI_1 i]
theorem s5_begins {m : q_S} {lo : Int32} {p t : Nat} {h : q_H} {Q : Int32 → q_H → Prop} (hB : z_N m lo h) (hp : p < 6) (ht : t < 64) (k0 : z_st (z_w m lo p) t = false → Q 0 h) (k1 : z_st (z_w m lo p) t = true → ∀ g, z_K1 h g → g.1 18 0 14 = nI t → g.1 18 0 15 = nI (z_len (z_w m lo p) t) → Q 1 g) : wp_X5_begins (nI p) (nI t) h Q := by
  have run : z_st (z_w m lo p) t = true → ∃ n, lp_X5_begins_36 (nI p) (nI t) (fun g => Q 1 g) n (q_sI (q_sI h 18 0 14 (nI t)) 18 0 15 0) := by
    intro hst
    have a1 : z_K1 h (q_sI (q_sI h 18 0 14 (nI t)) 18 0 15 0) := z_K1_sI (by omega) (z_K1_sI (by omega) (z_K1.rf h))
    exact s5_run (hB.k a1) hp ht (by rw [q_sI_o (by omega)]; exact q_sI_r) q_sI_r (fun g hg b1 b2 => k1 hst g (a1.tr hg) b1 b2)
  unfold wp_X5_begins
  refine s5_isWanted hB.2 hp ht ?_
  cases hw : z_w m lo p t with
  | true => exact ⟨fun z => absurd z (by decide), fun _ => k0 (ts_nt (fun q => by have := (z_st_iff.mp q).1; rw [hw] at this; cases this))⟩
  | false =>
    refine ⟨fun _ => ⟨fun z => ?_, fun z => ?_⟩, fun z => absurd rfl z⟩
    · have : t = 0 := by
        have := (nI_leI (b := 0) (by omega) (by omega)).mp z
        omega
      exact run (z_st_iff.mpr ⟨hw, Or.inl this⟩)
    · obtain ⟨t', rfl⟩ : ∃ t', t = t' + 1 := by
        cases t with
        | zero => exact absurd (show nI 0 ≤ nI 0 from nI_le (Nat.le_refl _) (by omega)) z
        | succ t' => exact ⟨t', rfl⟩
      rw [nI_pred]
      refine s5_isWanted hB.2 hp (by omega) ?_
      cases hw1 : z_w m lo p t' with
      | true => exact ⟨fun z => absurd z (by decide), fun _ => run (z_st_iff.mpr ⟨hw, Or.inr hw1⟩)⟩
      | false =>
        refine ⟨fun _ => k0 (ts_nt (fun q => ?_)), fun z => absurd rfl z⟩
        have := (z_st_iff.mp q).2.resolve_left (by omega)
        rw [show t' + 1 - 1 = t' by omega, hw1] at this
        cases this
/-- the span in hand -/
def z_H (s l : Nat) (h : q_H) : Prop := h.1 18 0 14 = nI s ∧ h.1 18 0 15 = nI l
theorem s5_isLast {s l : Nat} {h : q_H} {Q : Int32 → q_H → Prop} (hH : z_H s l h) (hs : s ≤ 64) (hl : l ≤ 64) (k : Q (bI (decide (s + l = 64))) h) : wp_X5_isLast h Q := by
  unfold wp_X5_isLast
  rw [hH.1, hH.2, nI_add]
  refine ⟨fun z => ?_, fun z => ?_⟩
  · rw [decide_eq_true ((nI_eq (b := 64) (by omega) (by omega)).mp z)] at k; exact k
  · rw [decide_eq_false (fun q => z (by rw [q]; rfl))] at k; exact k
theorem s5_costs {m : q_S} {lo : Int32} {p x s l : Nat} {h : q_H} {Q : Int32 → q_H → Prop} (hc : z_Ml m lo h) (hok : z_ok m) (hp : p < 6) (hx : x < 4) (hH : z_H s l h) (hs : s ≤ 64) (hl : l ≤ 64) (k0 : ¬ z_can m p x l (decide (s + l = 64)) → Q (-1) h) (k1 : z_can m p x l (decide (s + l = 64)) → Q (nI (z_cost m p x l (decide (s + l = 64)))) h) : wp_X5_costs (nI p) (nI x) h Q := by
  have hri := hok.2.2.2.1 p x
  unfold wp_X5_costs
  rw [ix4, ix40, cl (show 4 * p + x < 2 ^ 31 by omega), cl (show 4 * p + 0 < 2 ^ 31 by omega)]
  refine ⟨vin (by omega) (by omega), s5_isLast hH hs hl ?_⟩
  rw [hc.2.1 p hp x hx, hc.2.1 p hp 0 (by omega), hc.2.2.1 p hp x hx, hc.2.2.2.1 p hp x hx, hH.2]
  cases e : decide (s + l = 64) with
  | true =>
    rw [e] at k1
    refine ⟨fun z => absurd z (by decide), fun _ => ?_⟩
    have := k1 (Or.inl rfl)
    rw [show z_cost m p x l true = z_dr m p x * l by simp [z_cost, Nat.mul_comm]] at this
    rw [pk_mul]
    exact this
  | false =>
    rw [e] at k0 k1
    refine ⟨fun _ => ⟨vin (by omega) (by omega), fun z => ⟨vin (by omega) (by omega), vin (by omega) (by omega), ?_⟩, fun z => ?_⟩, fun z => absurd rfl z⟩
    · have hle : z_ri m p x ≤ l := (nI_leI (by omega) (by omega)).mp z
      have := k1 (Or.inr hle)
      rw [show z_cost m p x l false = z_dr m p x * (l - z_ri m p x) + z_dr m p 0 * z_ri m p x + z_co m p x by simp [z_cost, Nat.mul_comm]] at this
      rw [pk_sub hle, pk_mul, pk_mul, nI_add, nI_add]
      exact this
    · refine k0 (fun q => z (nI_le (q.resolve_left (by decide)) (by omega)))
theorem s5_choice {m : q_S} {lo : Int32} {p s l : Nat} {h : q_H} {Q : Int32 → q_H → Prop} (hc : z_Ml m lo h) (hok : z_ok m) (hp : p < 6) (hH : z_H s l h) (hs : s ≤ 64) (hl : l ≤ 64) (k : Q (nI (z_best m p l (decide (s + l = 64)))) h) : wp_X5_choice (nI p) h Q := by
  generalize hlast : decide (s + l = 64) = last at k
  unfold wp_X5_choice
  refine pk_loop (σ := Int32 × q_H) (fun n i s => lp_X5_choice_4 (nI p) (fun x _ g => Q x g) n s.1 (nI i) s.2) (fun i s => s.2 = h ∧ s.1 = nI (z_bst m p l last i)) 4 1 (0, h) (by omega) ⟨rfl, ?_⟩ ?_ ?_
  · show (0 : Int32) = nI (if _ then _ else _)
    rw [if_neg (fun z => Nat.lt_irrefl _ z.2)]
    rfl
  · rintro n ⟨x, g⟩ ⟨e, hx⟩
    have e : g = h := e
    subst e
    have hx : x = nI (z_best m p l last) := hx
    unfold lp_X5_choice_4
    refine ⟨fun _ => by rw [hx]; exact k, fun z => absurd (show nI 4 ≤ nI 4 from nI_le (by omega) (by omega)) z⟩
  · rintro n i ⟨x, g⟩ hi ⟨e, hx⟩ ih
    have e : g = h := e
    subst e
    have hx : x = nI (z_bst m p l last i) := hx
    subst hx
    have hbc := z_bst_can hok p l last i
    have hbl := z_bst_lt m p l last i
    have stay : ¬ ((last = true ∨ z_ri m p i ≤ l) ∧ z_cost m p i l last < z_cost m p (z_bst m p l last i) l last) → z_bst m p l last (i + 1) = z_bst m p l last i := fun q => if_neg q
    have c1 := z_cost_le hok (p := p) (s := i) (last := last) hl
    have c2 := z_cost_le hok (p := p) (s := z_bst m p l last i) (last := last) hl
    have hb4 : z_bst m p l last i < 4 := by
      cases i with
      | zero => show 0 < 4; omega
      | succ i =>
        have := z_bst_lt m p l last i
        show (if _ then _ else _) < 4
        split <;> omega
    unfold lp_X5_choice_4
    refine ⟨fun z => absurd z (show ¬ nI 4 ≤ nI i from nle hi (by omega)), fun _ => ?_⟩
    rw [nI_1 i]
    refine s5_costs hc hok hp hi hH hs hl (fun hn => ?_) (fun hcan => ?_)
    · rw [hlast] at hn
      exact ⟨fun _ => ih (_, _) ⟨rfl, by show nI _ = nI _; rw [stay (fun q => hn q.1)]⟩, fun z => absurd rfl z⟩
    · refine ⟨fun z => absurd z (w_m1 _ (by rw [hlast]; omega)), fun _ => ?_⟩
      refine s5_costs hc hok hp hi hH hs hl (fun hn => absurd hcan hn) (fun _ => ?_)
      refine s5_costs hc hok hp hb4 hH hs hl (fun hn => absurd (by rw [hlast]; exact hbc) hn) (fun _ => ?_)
      rw [hlast]
      rw [hlast] at hcan
      refine ⟨fun z => ?_, fun z => ?_⟩
      · have := (nI_leI (by omega) (by omega)).mp z
        exact ih (_, _) ⟨rfl, by show nI _ = nI _; rw [stay (fun q => by omega)]⟩
      · have : ¬ z_cost m p (z_bst m p l last i) l last ≤ z_cost m p i l last := fun q => z ((nI_leI (by omega) (by omega)).mpr q)
        refine ih (_, _) ⟨rfl, ?_⟩
        show nI i = nI (if _ then _ else _)
        rw [if_pos ⟨hcan, by omega⟩]
end
section
/-! ===== the reference's questions ===== -/
theorem i_at (a : Int32) {n : Nat} (hn : n < 2 ^ 31) : a = nI n ↔ a.toInt = (n : Int) := by
  constructor
  · intro e; rw [e, nI_toInt hn]
  · intro e; exact Int32.toInt_inj.mp (by rw [e, nI_toInt hn])
theorem M_look {m : q_S} {a : Int32} {h : q_H} {Q : Int32 → q_H → Prop} (hok : z_ok m) (hc : z_M m h) (k : ∀ g, z_K h g → Q (v_look m a) g) : wp_X5_look a h Q := by
  unfold wp_X5_look
  refine s5_wakes hok (z_M_iff.mp hc) (fun g hg hw => ?_)
  have hcg := hg.M (z_M_iff.mp hc)
  have kk := k g hg
  unfold v_look at kk
  rw [hcg.1.1, hcg.1.2.1, hcg.1.2.2.1, hw.1]
  have e0 : a = 0 ↔ a.toInt = 0 := i_at a (n := 0) (by omega)
  have e1 : a = 1 ↔ a.toInt = 1 := i_at a (n := 1) (by omega)
  have e2 : a = 2 ↔ a.toInt = 2 := i_at a (n := 2) (by omega)
  have e3 : a = 3 ↔ a.toInt = 3 := i_at a (n := 3) (by omega)
  refine ⟨fun z => ?_, fun z => ⟨fun z1 => ?_, fun z1 => ⟨fun z2 => ?_, fun z2 => ⟨fun z3 => ?_, fun z3 => ?_⟩⟩⟩⟩
  · rw [if_pos (e0.mp z)] at kk; exact kk
  · rw [if_neg (fun q => z (e0.mpr q)), if_pos (e1.mp z1)] at kk; exact kk
  · rw [if_neg (fun q => z (e0.mpr q)), if_neg (fun q => z1 (e1.mpr q)), if_pos (e2.mp z2)] at kk; exact kk
  · rw [if_neg (fun q => z (e0.mpr q)), if_neg (fun q => z1 (e1.mpr q)), if_neg (fun q => z2 (e2.mpr q)), if_pos (e3.mp z3)] at kk; exact kk
  · rw [if_neg (fun q => z (e0.mpr q)), if_neg (fun q => z1 (e1.mpr q)), if_neg (fun q => z2 (e2.mpr q)), if_neg (fun q => z3 (e3.mpr q))] at kk; exact kk
theorem M_held {m : q_S} {a b : Int32} {h : q_H} {Q : Int32 → q_H → Prop} (hok : z_ok m) (hc : z_M m h) (k : ∀ g, z_K h g → Q (v_held m a b) g) : wp_X5_held a b h Q := by
  have hnh := hok.1.2.1
  have hc := z_M_iff.mp hc
  have kk := k h (z_K.rf h)
  unfold wp_X5_held
  unfold v_held at kk
  rw [hc.1.2.1]
  refine s5_ix (by omega) (fun n => ⟨fun _ => ?_, fun z => absurd rfl z⟩) (fun i hi e ha => ⟨fun z => absurd z (by decide), fun _ => ?_⟩)
  · rw [if_neg (fun q => n q.1)] at kk; exact kk
  refine s5_ix (n := 4) (by omega) (fun n => ⟨fun _ => ?_, fun z => absurd rfl z⟩) (fun j hj e2 hb => ⟨fun z => absurd z (by decide), fun _ => ?_⟩)
  · rw [if_neg (fun q => n q.2)] at kk; exact kk
  rw [if_pos ⟨ha, hb⟩] at kk
  subst e; subst e2
  rw [cl (by omega), cl (by omega)] at kk
  rw [ix4, cl (show 4 * i + j < 2 ^ 31 by omega), hc.2.2.2.2.2.2.1 i hi j hj]
  exact ⟨vin (by omega) (by omega), kk⟩
theorem M_waking {m : q_S} {a : Int32} {h : q_H} {Q : Int32 → q_H → Prop} (hok : z_ok m) (hc : z_M m h) (k : ∀ g, z_K h g → Q (v_waking m a) g) : wp_X5_waking a h Q := by
  have h12 := z_nw_12 hok 64
  have hnt := hok.1.2.2
  unfold wp_X5_waking
  refine s5_wakes hok (z_M_iff.mp hc) (fun g hg hw => ?_)
  have kk := k g hg
  unfold v_waking at kk
  rw [hw.1]
  refine s5_ix (by omega) (fun n => ⟨fun _ => ?_, fun z => absurd rfl z⟩) (fun i hi e ha => ⟨fun z => absurd z (by decide), fun _ => ?_⟩)
  · rw [if_neg n] at kk; exact kk
  rw [if_pos ha] at kk
  subst e
  rw [cl (by omega)] at kk ⊢
  refine ⟨vin (by omega) (by omega), ?_⟩
  obtain ⟨x, hx, hxw, rfl⟩ := z_nw_hit hi
  rw [hw.2 x hx hxw]
  rw [z_wki_eq hx hxw] at kk
  exact kk
theorem M_fires {m : q_S} {a : Int32} {h : q_H} {Q : Int32 → q_H → Prop} (hok : z_ok m) (hc : z_M m h) (k : ∀ g, z_K h g → Q (v_fires m a) g) : wp_X5_fires a h Q := by
  have hnt := hok.1.2.2
  unfold wp_X5_fires
  refine s5_wakes hok (z_M_iff.mp hc) (fun g hg hw => ?_)
  have hcg := hg.M (z_M_iff.mp hc)
  have kk := k g hg
  unfold v_fires at kk
  rw [hcg.1.2.2.1]
  refine s5_ix (by omega) (fun n => ⟨fun _ => ?_, fun z => absurd rfl z⟩) (fun i hi e ha => ⟨fun z => absurd z (by decide), fun _ => ?_⟩)
  · rw [if_neg n] at kk; exact kk
  rw [if_pos ha] at kk
  subst e
  rw [cl (by omega)] at kk
  exact s5_firesAt hok hcg hw hi kk
theorem M_wanted {m : q_S} {a b : Int32} {h : q_H} {Q : Int32 → q_H → Prop} (hok : z_ok m) (hc : z_M m h) (k : ∀ g, z_K h g → Q (v_wanted m a b) g) : wp_X5_wanted a b h Q := by
  have := hok.1.1
  have hc := z_M_iff.mp hc
  unfold wp_X5_wanted v_wanted at *
  refine s5_isPart hok hc.1.1 (fun n => ⟨fun _ => ?_, fun z => absurd rfl z⟩) (fun p hp e ha => ⟨fun z => absurd z (by decide), fun _ => ?_⟩)
  · have := k h (z_K.rf h); rw [if_neg (fun q => n q.1)] at this; exact this
  refine s5_isTick (fun n => ⟨fun _ => ?_, fun z => absurd rfl z⟩) (fun t ht e2 hb => ⟨fun z => absurd z (by decide), fun _ => ?_⟩)
  · have := k h (z_K.rf h); rw [if_neg (fun q => n q.2)] at this; exact this
  rw [if_pos ⟨ha, hb⟩] at k
  subst e; subst e2
  rw [cl (by omega), cl (by omega)] at k
  refine s5_wants hok hc (fun g hg hB => ?_)
  have kk := k g hg
  refine s5_isWanted hB (by omega) ht ?_
  cases e : z_w m (-1) p t with
  | false => rw [e] at kk; exact ⟨fun _ => kk, fun z => absurd rfl z⟩
  | true => rw [e] at kk; exact ⟨fun z => absurd z (by decide), fun _ => kk⟩
theorem M_when {m : q_S} {a : Int32} {h : q_H} {Q : Int64 → q_H → Prop} (hok : z_ok m) (hc : z_M m h) (k : ∀ g, z_K h g → Q (v_when m a) g) : wp_X5_when a h Q := by
  have := hok.1.1
  have hc := z_M_iff.mp hc
  unfold wp_X5_when v_when at *
  refine s5_isPart hok hc.1.1 (fun n => ⟨fun _ => ?_, fun z => absurd rfl z⟩) (fun p hp e ha => ⟨fun z => absurd z (by decide), fun _ => ?_⟩)
  · have := k h (z_K.rf h); rw [if_neg n] at this; exact this
  rw [if_pos ha] at k
  subst e
  rw [cl (by omega)] at k
  refine s5_wants hok hc (fun g hg hB => ?_)
  have kk := k g hg
  refine pk_loop (σ := Int64 × q_H) (fun n i s => lp_X5_when_19 (nI p) (fun x _ g => Q x g) n s.1 (nI i) s.2) (fun i s => s.2 = g ∧ s.1 = z_bldL (z_w m (-1) p) i) 64 0 (0, g) (by omega) ⟨rfl, rfl⟩ ?_ ?_
  · rintro n ⟨x, u⟩ ⟨e, hx⟩
    have e : u = g := e
    subst e
    have hx : x = _ := hx
    subst hx
    unfold lp_X5_when_19
    exact ⟨fun _ => kk, fun z => absurd (show nI 64 ≤ nI 64 from nI_le (by omega) (by omega)) z⟩
  · rintro n i ⟨x, u⟩ hi ⟨e, hx⟩ ih
    have e : u = g := e
    subst e
    have hx : x = z_bldL (z_w m (-1) p) i := hx
    subst hx
    unfold lp_X5_when_19
    refine ⟨fun z => absurd z (show ¬ nI 64 ≤ nI i from nle hi (by omega)), fun _ => ?_⟩
    refine s5_isWanted hB (by omega) hi ?_
    rw [nI_1 i]
    cases e : z_w m (-1) p i with
    | false => exact ⟨fun _ => ih (_, _) ⟨rfl, (if_neg (by rw [e]; decide)).symm⟩, fun z => absurd rfl z⟩
    | true => exact ⟨fun z => absurd z (by decide), fun _ => ih (_, _) ⟨rfl, (if_pos e).symm⟩⟩
theorem M_spans {m : q_S} {a : Int32} {h : q_H} {Q : Int32 → q_H → Prop} (hok : z_ok m) (hc : z_M m h) (k : ∀ g, z_K h g → Q (v_spans m a) g) : wp_X5_spans a h Q := by
  have := hok.1.1
  have hc := z_M_iff.mp hc
  unfold wp_X5_spans v_spans at *
  refine s5_isPart hok hc.1.1 (fun n => ⟨fun _ => ?_, fun z => absurd rfl z⟩) (fun p hp e ha => ⟨fun z => absurd z (by decide), fun _ => ?_⟩)
  · have := k h (z_K.rf h); rw [if_neg n] at this; exact this
  rw [if_pos ha] at k
  subst e
  rw [cl (by omega)] at k
  refine s5_wants hok hc (fun g hg hB => ?_)
  have hN : z_N m (-1) g := ⟨hg.M hc, hB⟩
  refine pk_loop (σ := Int32 × q_H) (fun n i s => lp_X5_spans_18 (nI p) (fun x _ g => Q x g) n s.1 (nI i) s.2) (fun i s => z_K1 g s.2 ∧ s.1 = nI (z_cnt (z_w m (-1) p) i)) 64 0 (0, g) (by omega) ⟨z_K1.rf g, rfl⟩ ?_ ?_
  · rintro n ⟨x, u⟩ ⟨e, hx⟩
    have hx : x = _ := hx
    subst hx
    have e : z_K1 g u := e
    unfold lp_X5_spans_18
    exact ⟨fun _ => k u (hg.tr e.K), fun z => absurd (show nI 64 ≤ nI 64 from nI_le (by omega) (by omega)) z⟩
  · rintro n i ⟨x, u⟩ hi ⟨e, hx⟩ ih
    have e : z_K1 g u := e
    have hx : x = nI (z_cnt (z_w m (-1) p) i) := hx
    subst hx
    unfold lp_X5_spans_18
    refine ⟨fun z => absurd z (show ¬ nI 64 ≤ nI i from nle hi (by omega)), fun _ => ?_⟩
    rw [nI_1 i]
    refine s5_begins (hN.k e) (by omega) hi (fun hs => ⟨fun _ => ?_, fun z => absurd rfl z⟩) (fun hs v hv _ _ => ⟨fun z => absurd z (by decide), fun _ => ?_⟩)
    · refine ih (_, _) ⟨e, ?_⟩
      show _ + (0 : Int32) = _
      rw [Int32.add_zero, z_cnt_no hs]
    · refine ih (_, _) ⟨e.tr hv, ?_⟩
      show _ + (1 : Int32) = _
      rw [nI_1, z_cnt_st hs]
theorem s5_ofSpan {m : q_S} {lo : Int32} {p s : Nat} {w : Nat → Bool} {c : Int32} {h : q_H} {Q : Int32 → q_H → Prop} (hc : z_Ml m lo h) (hok : z_ok m) (hp : p < 6) (hs : s < 64) (hH : z_H s (z_len w s) h) (k : Q (z_spanv m p s w c) h) (hc5 : ¬ c < 0 ∧ ¬ nI 6 ≤ c) : wp_X5_ofSpan (nI p) c h Q := by
  have hlen := z_len_le w (show s ≤ 64 by omega)
  have hbl := z_best_lt m p (z_len w s) (z_lst w s)
  have hbc : z_can m p (z_best m p (z_len w s) (z_lst w s)) (z_len w s) (z_lst w s) := z_bst_can hok _ _ _ _
  obtain ⟨j, hj, hcj⟩ := y_in (by omega) hc5
  have hcI : c.toInt = (j : Int) := by rw [hcj, nI_toInt (by omega)]
  unfold wp_X5_ofSpan
  unfold z_spanv at k
  refine s5_choice hc hok hp hH (by omega) (by omega) ?_
  rw [show decide (s + z_len w s = 64) = z_lst w s from rfl]
  refine ⟨fun y => ?_, fun y => ?_, fun y => ?_, fun y => ?_, fun y => ?_, fun y => ?_⟩
  · rw [if_pos y] at k; rw [hH.1]; exact k
  · rw [if_neg (by omega), if_pos y] at k; rw [hH.2]; exact k
  · rw [if_neg (by omega), if_neg (by omega), if_pos y] at k; exact k
  · rw [if_neg (by omega), if_neg (by omega), if_neg (by omega), if_pos y] at k
    exact s5_costs hc hok hp hbl hH (by omega) (by omega) (fun n => absurd hbc n) (fun _ => k)
  · rw [if_neg (by omega), if_neg (by omega), if_neg (by omega), if_neg (by omega), if_pos y] at k
    exact s5_costs (x := 0) hc hok hp (by omega) hH (by omega) (by omega) (fun n => absurd (Or.inr (by rw [(hok.2.2.2.2.1 p).2.1]; exact Nat.zero_le _)) n) (fun _ => k)
  · rw [if_neg (by omega), if_neg (by omega), if_neg (by omega), if_neg (by omega), if_neg (by omega), if_pos (by omega)] at k
    refine ⟨fun y1 => ?_, fun y1 => ?_⟩
    · have hb : z_best m p (z_len w s) (z_lst w s) = 0 := (nI_eq (b := 0) (by omega) (by omega)).mp y1
      rw [if_pos (Or.inr hb)] at k; exact k
    · have hb : ¬ z_best m p (z_len w s) (z_lst w s) = 0 := fun q => y1 (by rw [q]; rfl)
      refine s5_isLast hH (by omega) (by omega) ?_
      refine ⟨fun y2 => ?_, fun y2 => ?_⟩
      · have hl : z_lst w s = false := bI_0.mp y2
        have hno : ¬ (z_lst w s = true ∨ z_best m p (z_len w s) (z_lst w s) = 0) := by
          rintro (q | q)
          · rw [hl] at q; cases q
          · exact hb q
        rw [if_neg hno] at k
        have hle : z_ri m p (z_best m p (z_len w s) (z_lst w s)) ≤ z_len w s := hbc.resolve_left (by rw [hl]; decide)
        rw [ix4]
        refine ⟨vin (show 4 * p + z_best m p (z_len w s) (z_lst w s) < 24 by omega) (by omega), ?_⟩
        rw [cl (show 4 * p + z_best m p (z_len w s) (z_lst w s) < 2 ^ 31 by omega), hH.1, hH.2]
        have e1 : h.1 21 0 (4 * p + z_best m p (z_len w s) (z_lst w s)) = _ := hc.2.2.2.1 p hp _ hbl
        have e2 : nI s + nI (z_len w s) - h.1 21 0 (4 * p + z_best m p (z_len w s) (z_lst w s)) = nI (s + (z_len w s - z_ri m p (z_best m p (z_len w s) (z_lst w s)))) := by
          rw [e1, nI_add, pk_sub (by omega)]
          congr 1
          omega
        rw [← e2] at k
        exact k
      · have hl : z_lst w s = true := ts_nf (fun q => y2 (by show bI (z_lst w s) = 0; rw [q]; rfl))
        rw [if_pos (Or.inl hl)] at k; exact k
theorem M_span {m : q_S} {a b c : Int32} {h : q_H} {Q : Int32 → q_H → Prop} (hok : z_ok m) (hc : z_M m h) (k : ∀ g, z_K h g → Q (v_span m a b c) g) : wp_X5_span a b c h Q := by
  have := hok.1.1
  have hc := z_M_iff.mp hc
  unfold wp_X5_span v_span at *
  refine s5_isPart hok hc.1.1 (fun n => ⟨fun _ => ?_, fun z => absurd rfl z⟩) (fun p hp e ha => ⟨fun z => absurd z (by decide), fun _ => ?_⟩)
  · have := k h (z_K.rf h); rw [if_neg (fun q => n q.1)] at this; exact this
  subst e
  rw [cl (by omega)] at k
  have h64 := z_cnt_le (z_w m (-1) p) 64
  refine s5_ix (n := 6) (by omega) (fun n => ⟨fun _ => ?_, fun z => absurd rfl z⟩) (fun j hj e2 hc5 => ⟨fun z => absurd z (by decide), fun _ => ?_⟩)
  · have kk := k h (z_K.rf h)
    have e3 : ∀ s, z_spanv m p s (z_w m (-1) p) c = -1 := by
      intro s
      have hx : ∀ j : Nat, j < 6 → ¬ c.toInt = (j : Int) := fun j hj q => n (by rw [(i_at c (by omega)).mpr q]; exact y_of (by omega) hj)
      unfold z_spanv
      have x0 : ¬ c.toInt = 0 := hx 0 (by omega)
      have x1 : ¬ c.toInt = 1 := hx 1 (by omega)
      have x2 : ¬ c.toInt = 2 := hx 2 (by omega)
      have x3 : ¬ c.toInt = 3 := hx 3 (by omega)
      have x4 : ¬ c.toInt = 4 := hx 4 (by omega)
      have x5 : ¬ c.toInt = 5 := hx 5 (by omega)
      rw [if_neg x0, if_neg x1, if_neg x2, if_neg x3, if_neg x4, if_neg x5]
    rw [e3] at kk
    split at kk <;> exact kk
  refine s5_wants hok hc (fun g hg hB => ?_)
  have hN : z_N m (-1) g := ⟨hg.M hc, hB⟩
  refine pk_loop (σ := Int32 × q_H) (fun n i s => lp_X5_span_29 (nI p) b c Q (fun _ _ g => Q (-1) g) n s.1 (nI i) s.2) (fun i s => z_K1 g s.2 ∧ s.1 = nI (z_cnt (z_w m (-1) p) i) ∧ ∀ j, j < z_cnt (z_w m (-1) p) i → ¬ b = nI j) 64 0 (0, g) (by omega) ⟨z_K1.rf g, rfl, fun j hj => absurd hj (by show ¬ j < 0; omega)⟩ ?_ ?_
  · rintro n ⟨x, u⟩ ⟨e, hx, hb⟩
    have hx : x = _ := hx
    subst hx
    have e : z_K1 g u := e
    have kk := k u (hg.tr e.K)
    unfold lp_X5_span_29
    refine ⟨fun _ => ?_, fun z => absurd (show nI 64 ≤ nI 64 from nI_le (by omega) (by omega)) z⟩
    rw [if_neg (fun q => ?_)] at kk
    · exact kk
    · obtain ⟨i, hi, e⟩ := y_in (by omega) q.2
      exact hb i hi e
  · rintro n i ⟨x, u⟩ hi ⟨e, hx, hb⟩ ih
    have e : z_K1 g u := e
    have hx : x = nI (z_cnt (z_w m (-1) p) i) := hx
    subst hx
    have hci := z_cnt_le (z_w m (-1) p) i
    unfold lp_X5_span_29
    refine ⟨fun z => absurd z (show ¬ nI 64 ≤ nI i from nle hi (by omega)), fun _ => ?_⟩
    dsimp only
    rw [nI_1 i]
    refine s5_begins (hN.k e) (by omega) hi (fun hs => ⟨fun _ => ?_, fun z => absurd rfl z⟩) (fun hs v hv h14 h15 => ⟨fun z => absurd z (by decide), fun _ => ⟨fun z => ?_, fun z => ?_⟩⟩)
    · exact ih (_, _) ⟨e, by show nI _ = nI _; rw [z_cnt_no hs], by rw [z_cnt_no hs]; exact hb⟩
    · have kk := k v (hg.tr (e.tr hv).K)
      have hlt : z_cnt (z_w m (-1) p) i < z_cnt (z_w m (-1) p) 64 := z_cnt_lt hs hi
      rw [← z, if_pos ⟨ha, y_of (by omega) hlt⟩, cl (by omega), z_sti_eq hi hs] at kk
      exact s5_ofSpan (w := z_w m (-1) p) (hN.k (e.tr hv)).1 hok (by omega) hi ⟨h14, h15⟩ kk hc5
    · rw [nI_1]
      refine ih (_, _) ⟨e.tr hv, by show nI _ = nI _; rw [z_cnt_st hs], fun j hj => ?_⟩
      rw [z_cnt_st hs] at hj
      by_cases ej : j = z_cnt (z_w m (-1) p) i
      · subst ej; exact fun q => z q.symm
      · exact hb j (by omega)
end
section
/-! ===== the reference: sums over the day ===== -/
theorem ix400 (p : Nat) : 4 * nI p + 0 = nI (4 * p + 0) := ix4 p 0
def z_aw (w : Nat → Bool) : Nat → Nat := z_sum (fun t => if w t = true then 1 else 0)
theorem z_aw_1 {w : Nat → Bool} {t : Nat} (h : w t = true) : z_aw w (t + 1) = z_aw w t + 1 := by
  show _ + (if w t = true then 1 else 0) = _
  rw [if_pos h]; rfl
theorem z_aw_0 {w : Nat → Bool} {t : Nat} (h : w t = false) : z_aw w (t + 1) = z_aw w t := by
  show _ + (if w t = true then 1 else 0) = _
  rw [h]; rfl
theorem z_ss_no {w : Nat → Bool} {G : Nat → Nat} {s : Nat} (h : z_st w s = false) : z_sum (z_ss w G) (s + 1) = z_sum (z_ss w G) s := by
  show _ + (if z_st w s = true then G s else 0) = _
  rw [h]; rfl
theorem z_st_w {w : Nat → Bool} {t : Nat} (h : w t = true) : z_st w t = false := ts_nt (fun q => by have := (z_st_iff.mp q).1; rw [h] at this; cases this)
theorem s5_drained {m : q_S} {lo : Int32} {p : Nat} {h : q_H} {Q : Int32 → q_H → Prop} (hok : z_ok m) (hN : z_N m lo h) (hp : p < 6) (k : ∀ g, z_K1 h g → Q (nI (z_plan m lo p)) g) : wp_X5_drained (nI p) h Q := by
  unfold wp_X5_drained
  refine pk_loop (σ := Int32 × q_H) (fun n i s => lp_X5_drained_4 (nI p) (fun x _ g => Q x g) n s.1 (nI i) s.2) (fun i s => z_K1 h s.2 ∧ s.1 = nI (z_aw (z_w m lo p) i * z_dr m p 0 + z_sum (z_ss (z_w m lo p) (z_G m p (z_w m lo p))) i)) 64 0 (0, h) (by omega) ⟨z_K1.rf h, by show (0 : Int32) = nI (0 * _ + 0); rw [Nat.zero_mul]; rfl⟩ ?_ ?_
  · rintro n ⟨x, u⟩ ⟨e, hx⟩
    have hx : x = _ := hx
    subst hx
    unfold lp_X5_drained_4
    exact ⟨fun _ => k u e, fun z => absurd (show nI 64 ≤ nI 64 from nI_le (by omega) (by omega)) z⟩
  · rintro n t ⟨x, u⟩ ht ⟨e, hx⟩ ih
    have e : z_K1 h u := e
    have hx : x = nI (z_aw (z_w m lo p) t * z_dr m p 0 + z_sum (z_ss (z_w m lo p) (z_G m p (z_w m lo p))) t) := hx
    subst hx
    have hNu := hN.k e
    unfold lp_X5_drained_4
    refine ⟨fun z => absurd z (show ¬ nI 64 ≤ nI t from nle ht (by omega)), fun _ => ?_⟩
    refine s5_isWanted hNu.2 hp ht ?_
    dsimp only
    rw [nI_1 t, ix40, cl (show 4 * p + 0 < 2 ^ 31 by omega), hNu.1.2.1 p hp 0 (by omega)]
    cases hw : z_w m lo p t with
    | true =>
      refine ⟨fun z => absurd z (by decide), fun _ => ⟨vin (by omega) (by omega), ?_⟩⟩
      refine ih (_, _) ⟨e, ?_⟩
      show nI _ + nI _ = nI _
      rw [nI_add, z_aw_1 hw, z_ss_no (z_st_w hw), Nat.succ_mul]
      congr 1; omega
    | false =>
      refine ⟨fun _ => ?_, fun z => absurd rfl z⟩
      refine s5_begins hNu hp ht (fun hs => ⟨fun _ => ?_, fun z => absurd rfl z⟩) (fun hs v hv h14 h15 => ⟨fun z => absurd z (by decide), fun _ => ?_⟩)
      · refine ih (_, _) ⟨e, ?_⟩
        show nI _ = nI _
        rw [z_aw_0 hw, z_ss_no hs]
      · have hlen := z_len_le (z_w m lo p) (show t ≤ 64 by omega)
        have hNv := hNu.k hv
        refine s5_choice hNv.1 hok hp ⟨h14, h15⟩ (by omega) (by omega) ?_
        refine s5_costs hNv.1 hok hp (z_best_lt _ _ _ _) ⟨h14, h15⟩ (by omega) (by omega) (fun n => absurd (z_bst_can hok _ _ _ _) n) (fun _ => ?_)
        refine ih (_, _) ⟨e.tr hv, ?_⟩
        show nI _ + nI _ = nI _
        rw [nI_add, z_aw_0 hw, z_ss_st hs, ← Nat.add_assoc]
        rfl
theorem M_drain {m : q_S} {a : Int32} {h : q_H} {Q : Int32 → q_H → Prop} (hok : z_ok m) (hc : z_M m h) (k : ∀ g, z_K h g → Q (v_drain m a) g) : wp_X5_drain a h Q := by
  have := hok.1.1
  have hc := z_M_iff.mp hc
  unfold wp_X5_drain v_drain at *
  refine s5_isPart hok hc.1.1 (fun n => ⟨fun _ => ?_, fun z => absurd rfl z⟩) (fun p hp e ha => ⟨fun z => absurd z (by decide), fun _ => ?_⟩)
  · have := k h (z_K.rf h); rw [if_neg n] at this; exact this
  rw [if_pos ha] at k
  subst e
  rw [cl (by omega)] at k
  refine s5_wants hok hc (fun g hg hB => ?_)
  exact s5_drained hok ⟨hg.M hc, hB⟩ (by omega) (fun u hu => k u (hg.tr hu.K))
theorem s5_all {m : q_S} {lo : Int32} {h : q_H} {Q : Int32 → q_H → Prop} (hok : z_ok m) (hc : z_Ml m lo h) (k : ∀ g, z_K h g → Q (v_all m lo) g) : wp_X5_all h Q := by
  have hnp := hok.1.1
  unfold wp_X5_all
  refine s5_wants hok hc (fun g hg hB => ?_)
  have hN : z_N m lo g := ⟨hg.M hc, hB⟩
  refine pk_loop (σ := Int32 × q_H) (fun n i s => lp_X5_all_8 (fun x _ g => Q x g) n s.1 (nI i) s.2) (fun i s => z_K1 g s.2 ∧ s.1 = nI (z_sum (z_plan m lo) i)) (z_np m) 0 (0, g) (by omega) ⟨z_K1.rf g, rfl⟩ ?_ ?_
  · rintro n ⟨x, u⟩ ⟨e, hx⟩
    have hx : x = _ := hx
    subst hx
    have e : z_K1 g u := e
    unfold lp_X5_all_8
    dsimp only
    rw [(hN.k e).1.1.1]
    exact ⟨fun _ => k u (hg.tr e.K), fun z => absurd (nI_le (Nat.le_refl _) (by omega)) z⟩
  · rintro n i ⟨x, u⟩ hi ⟨e, hx⟩ ih
    have e : z_K1 g u := e
    have hx : x = nI (z_sum (z_plan m lo) i) := hx
    subst hx
    unfold lp_X5_all_8
    dsimp only
    rw [(hN.k e).1.1.1]
    refine ⟨fun z => absurd z (nle hi (by omega)), fun _ => ?_⟩
    refine s5_drained hok (hN.k e) (by omega) (fun v hv => ?_)
    rw [nI_add, nI_1 i]
    exact ih (_, _) ⟨e.tr hv, rfl⟩
theorem M_all {m : q_S} {h : q_H} {Q : Int32 → q_H → Prop} (hok : z_ok m) (hc : z_M m h) (k : ∀ g, z_K h g → Q (v_all m (-1)) g) : wp_X5_all h Q := s5_all hok (z_M_iff.mp hc) k
theorem z_Ml_lo {m : q_S} {lo lo' : Int32} {h : q_H} (hc : z_Ml m lo h) : z_Ml m lo' (q_sI h 18 0 13 lo') := by
  have f : ∀ k, k ≠ 18 → (q_sI h 18 0 13 lo').1 k = h.1 k := by
    intro k hk
    funext i1 j1
    exact if_neg (by omega)
  obtain ⟨⟨a1, a2, a3, a4⟩, b⟩ := hc
  unfold z_Ml
  rw [f 19 (by omega), f 20 (by omega), f 21 (by omega), f 22 (by omega), f 23 (by omega), f 24 (by omega), f 25 (by omega), q_sI_o (by omega), q_sI_o (by omega), q_sI_o (by omega), q_sI_r]
  exact ⟨⟨a1, a2, a3, rfl⟩, b⟩
theorem z_Fm_sI {h g : q_H} {k i j : Nat} {v : Int32} (hk : 18 ≤ k) (a : z_Fm h g) : z_Fm h (q_sI g k i j v) := by
  refine ⟨fun n hn => ?_, a.2⟩
  rw [← a.1 n hn]
  funext i1 j1
  exact if_neg (by omega)
theorem M_without {m : q_S} {a : Int32} {h : q_H} {Q : Int32 → q_H → Prop} (hok : z_ok m) (hc : z_M m h) (k : ∀ g, z_M m g → z_Fm h g → Q (v_without m a) g) : wp_X5_without a h Q := by
  have hnh := hok.1.2.1
  have hcl := z_M_iff.mp hc
  unfold wp_X5_without
  unfold v_without at k
  rw [hcl.1.2.1]
  refine s5_ix (by omega) (fun n => ⟨fun _ => ?_, fun z => absurd rfl z⟩) (fun i hi e ha => ⟨fun z => absurd z (by decide), fun _ => ?_⟩)
  · have := k h hc (z_Fm.rf h); rw [if_neg n] at this; exact this
  rw [if_pos ha] at k
  refine s5_all hok hcl (fun g hg => ?_)
  refine s5_all hok (z_Ml_lo (lo' := a) (hg.M hcl)) (fun u hu => ?_)
  refine k _ (z_M_iff.mpr (z_Ml_lo (hu.M (z_Ml_lo (hg.M hcl))))) ?_
  exact z_Fm_sI (by omega) (((z_Fm_sI (by omega) hg.fm)).tr hu.fm)
theorem s5_back1 {m : q_S} {lo : Int32} {p t : Nat} {x2 : Int32} {h : q_H} {E : Int32 → q_H → Prop} (hB : z_B m lo h) (hp : p < 6) (ht : t < 64) (k : E (nI (t - z_cur (z_w m lo p) t)) h) : ∃ n, lp_X5_state_34 (nI p) x2 E n (nI t) h := by
  have hcu := z_cur_le (z_w m lo p) t
  refine pk_loop (σ := q_H) (fun n i s => lp_X5_state_34 (nI p) x2 E n (nI (t - i)) s) (fun i s => s = h) (z_cur (z_w m lo p) t) 0 h (by omega) rfl ?_ ?_
  · rintro n s rfl
    unfold lp_X5_state_34
    refine ⟨fun _ => k, fun z => ?_⟩
    obtain ⟨j, hj⟩ : ∃ j, t - z_cur (z_w m lo p) t = j + 1 := by
      cases e : t - z_cur (z_w m lo p) t with
      | zero => rw [e] at z; exact absurd (show nI 0 ≤ nI 0 from nI_le (Nat.le_refl _) (by omega)) z
      | succ j => exact ⟨j, rfl⟩
    have hw : z_w m lo p (t - z_cur (z_w m lo p) t - 1) = true := z_cur_edge _ t (by omega)
    rw [hj] at k hw ⊢
    rw [nI_pred]
    refine s5_isWanted hB hp (by omega) ?_
    rw [show j + 1 - 1 = j by omega] at hw
    rw [hw]
    exact ⟨fun z => absurd z (by decide), fun _ => k⟩
  · rintro n i s hi rfl ih
    unfold lp_X5_state_34
    obtain ⟨j, hj⟩ : ∃ j, t - i = j + 1 := ⟨t - i - 1, by omega⟩
    rw [hj, nI_pred, pk_m1]
    refine ⟨fun z => absurd z (show ¬ nI (j + 1) ≤ nI 0 from nle (by omega) (by omega)), fun _ => ?_⟩
    refine s5_isWanted hB hp (by omega) ?_
    rw [z_cur_idle (z_w m lo p) t j (by omega) (by omega)]
    refine ⟨fun _ => ?_, fun z => absurd rfl z⟩
    have := ih s rfl
    rw [show t - (i + 1) = j by omega] at this
    exact this
theorem s5_back2 {m : q_S} {lo : Int32} {p t : Nat} {x2 : Int32} {h : q_H} {E : Int32 → q_H → Prop} (hB : z_B m lo h) (hp : p < 6) (ht : t < 64) (k : E (nI (t - z_cur (z_w m lo p) t)) h) : ∃ n, lp_X5_ruledState_34 (nI p) x2 E n (nI t) h := by
  have hcu := z_cur_le (z_w m lo p) t
  refine pk_loop (σ := q_H) (fun n i s => lp_X5_ruledState_34 (nI p) x2 E n (nI (t - i)) s) (fun i s => s = h) (z_cur (z_w m lo p) t) 0 h (by omega) rfl ?_ ?_
  · rintro n s rfl
    unfold lp_X5_ruledState_34
    refine ⟨fun _ => k, fun z => ?_⟩
    obtain ⟨j, hj⟩ : ∃ j, t - z_cur (z_w m lo p) t = j + 1 := by
      cases e : t - z_cur (z_w m lo p) t with
      | zero => rw [e] at z; exact absurd (show nI 0 ≤ nI 0 from nI_le (Nat.le_refl _) (by omega)) z
      | succ j => exact ⟨j, rfl⟩
    have hw : z_w m lo p (t - z_cur (z_w m lo p) t - 1) = true := z_cur_edge _ t (by omega)
    rw [hj] at k hw ⊢
    rw [nI_pred]
    refine s5_isWanted hB hp (by omega) ?_
    rw [show j + 1 - 1 = j by omega] at hw
    rw [hw]
    exact ⟨fun z => absurd z (by decide), fun _ => k⟩
  · rintro n i s hi rfl ih
    unfold lp_X5_ruledState_34
    obtain ⟨j, hj⟩ : ∃ j, t - i = j + 1 := ⟨t - i - 1, by omega⟩
    rw [hj, nI_pred, pk_m1]
    refine ⟨fun z => absurd z (show ¬ nI (j + 1) ≤ nI 0 from nle (by omega) (by omega)), fun _ => ?_⟩
    refine s5_isWanted hB hp (by omega) ?_
    rw [z_cur_idle (z_w m lo p) t j (by omega) (by omega)]
    refine ⟨fun _ => ?_, fun z => absurd rfl z⟩
    have := ih s rfl
    rw [show t - (i + 1) = j by omega] at this
    exact this
theorem M_state {m : q_S} {a b : Int32} {h : q_H} {Q : Int32 → q_H → Prop} (hok : z_ok m) (hc : z_M m h) (k : ∀ g, z_K h g → Q (v_state m a b) g) : wp_X5_state a b h Q := by
  have := hok.1.1
  have hc := z_M_iff.mp hc
  unfold wp_X5_state v_state at *
  refine s5_isPart hok hc.1.1 (fun n => ⟨fun _ => ?_, fun z => absurd rfl z⟩) (fun p hp e ha => ⟨fun z => absurd z (by decide), fun _ => ?_⟩)
  · have := k h (z_K.rf h); rw [if_neg (fun q => n q.1)] at this; exact this
  refine s5_isTick (fun n => ⟨fun _ => ?_, fun z => absurd rfl z⟩) (fun t ht e2 hb => ⟨fun z => absurd z (by decide), fun _ => ?_⟩)
  · have := k h (z_K.rf h); rw [if_neg (fun q => n q.2)] at this; exact this
  rw [if_pos ⟨ha, hb⟩] at k
  subst e; subst e2
  rw [cl (by omega), cl (by omega)] at k
  unfold z_stv at k
  refine s5_wants hok hc (fun g hg hB => ?_)
  have hN : z_N m (-1) g := ⟨hg.M hc, hB⟩
  refine s5_isWanted hB (by omega) ht ?_
  cases hw : z_w m (-1) p t with
  | true =>
    have kk := k g hg
    rw [if_pos hw] at kk
    exact ⟨fun z => absurd z (by decide), fun _ => kk⟩
  | false =>
    refine ⟨fun _ => ?_, fun z => absurd rfl z⟩
    refine s5_back1 hB (by omega) ht ?_
    obtain ⟨f1, f2, f3⟩ := z_from hw
    have f3 := f3 ht
    have hcu := z_cur_le (z_w m (-1) p) t
    generalize hsd : t - z_cur (z_w m (-1) p) t = s at *
    have hlen := z_len_le (z_w m (-1) p) (show s ≤ 64 by omega)
    refine s5_begins hN (by omega) (by omega) (fun hs => by rw [f1] at hs; cases hs) (fun hs v hv h14 h15 => ⟨fun z => absurd z (by decide), fun _ => ?_⟩)
    have kk := k v (hg.tr hv.K)
    rw [if_neg (by rw [hw]; decide)] at kk
    have hNv := hN.k hv
    refine s5_choice hNv.1 hok (by omega) ⟨h14, h15⟩ (by omega) (by omega) ?_
    refine s5_isLast ⟨h14, h15⟩ (by omega) (by omega) ?_
    rw [show decide (s + z_len (z_w m (-1) p) s = 64) = z_lst (z_w m (-1) p) s from rfl]
    have hbl := z_best_lt m p (z_len (z_w m (-1) p) s) (z_lst (z_w m (-1) p) s)
    have hbc : z_can m p (z_best m p (z_len (z_w m (-1) p) s) (z_lst (z_w m (-1) p) s)) (z_len (z_w m (-1) p) s) (z_lst (z_w m (-1) p) s) := z_bst_can hok _ _ _ _
    refine ⟨fun z => ⟨?_, ?_⟩, fun z => ?_⟩
    · rw [ix4]; exact vin (by omega) (by omega)
    · have hl := bI_0.mp z
      have hle := hbc.resolve_left (by rw [hl]; decide)
      have e9 : (if z_lst (z_w m (-1) p) s = true then z_len (z_w m (-1) p) s else z_len (z_w m (-1) p) s - z_ri m p (z_best m p (z_len (z_w m (-1) p) s) (z_lst (z_w m (-1) p) s))) = z_len (z_w m (-1) p) s - z_ri m p (z_best m p (z_len (z_w m (-1) p) s) (z_lst (z_w m (-1) p) s)) := if_neg (by rw [hl]; decide)
      rw [e9] at kk
      rw [ix4, cl (by omega), h14, h15, hNv.1.2.2.2.1 p (by omega) _ hbl, nI_add, pk_sub (by omega)]
      refine ⟨fun z1 => ?_, fun z1 => ?_⟩
      · have := (nI_ltI (by omega) (by omega)).mp z1
        rw [if_pos (by omega)] at kk; exact kk
      · have : ¬ _ < _ := fun q => z1 ((nI_ltI (by omega) (by omega)).mpr q)
        rw [if_neg (by omega)] at kk; exact kk
    · have hl : z_lst (z_w m (-1) p) s = true := ts_nf (fun q => z (by rw [q]; rfl))
      have e9 : (if z_lst (z_w m (-1) p) s = true then z_len (z_w m (-1) p) s else z_len (z_w m (-1) p) s - z_ri m p (z_best m p (z_len (z_w m (-1) p) s) (z_lst (z_w m (-1) p) s))) = z_len (z_w m (-1) p) s := if_pos hl
      rw [e9, if_pos (by omega)] at kk
      exact kk
/-! ===== the reference: the rule ===== -/
theorem s5_ruleState {m : q_S} {lo : Int32} {p i : Nat} {h : q_H} {Q : Int32 → q_H → Prop} (hok : z_ok m) (hc : z_Ml m lo h) (hp : p < z_np m) (hi : i ≤ 64) (k : Q (nI (z_rs (z_ru m p 0) (z_ru m p 1) (z_ru m p 2) i)) h) : wp_X5_ruleState (nI p) (nI i) h Q := by
  have hnp := hok.1.1
  obtain ⟨r1, r2, r3⟩ := hok.2.2.2.2.2.1 p
  unfold wp_X5_ruleState
  unfold z_rs at k
  rw [ix31, ix32, ix30, cl (show 3 * p + 0 < 2 ^ 31 by omega), cl (show 3 * p + 1 < 2 ^ 31 by omega), cl (show 3 * p + 2 < 2 ^ 31 by omega), hc.2.2.2.2.1 p hp 0 (by omega), hc.2.2.2.2.1 p hp 1 (by omega), hc.2.2.2.2.1 p hp 2 (by omega)]
  refine ⟨vin (by omega) (by omega), fun z => ⟨vin (by omega) (by omega), fun z1 => ⟨vin (by omega) (by omega), fun z2 => ?_, fun z2 => ?_⟩, fun z1 => ?_⟩, fun z => ?_⟩
  · have h0 := (nI_leI (by omega) (by omega)).mp z
    have h1 := (nI_leI (by omega) (by omega)).mp z1
    have h2 := (nI_leI (by omega) (by omega)).mp z2
    rw [if_neg (by omega), if_neg (by omega), if_neg (by omega)] at k; exact k
  · have h0 := (nI_leI (by omega) (by omega)).mp z
    have h1 := (nI_leI (by omega) (by omega)).mp z1
    have h2 : ¬ _ ≤ _ := fun q => z2 ((nI_leI (by omega) (by omega)).mpr q)
    rw [if_neg (by omega), if_neg (by omega), if_pos (by omega)] at k; exact k
  · have h0 := (nI_leI (by omega) (by omega)).mp z
    have h1 : ¬ _ ≤ _ := fun q => z1 ((nI_leI (by omega) (by omega)).mpr q)
    rw [if_neg (by omega), if_pos (by omega)] at k; exact k
  · have h0 : ¬ _ ≤ _ := fun q => z ((nI_leI (by omega) (by omega)).mpr q)
    rw [if_pos (by omega)] at k; exact k
theorem s5_ahead {m : q_S} {lo : Int32} {p r : Nat} {h : q_H} {Q : Int32 → q_H → Prop} (hok : z_ok m) (hc : z_Ml m lo h) (hp : p < z_np m) (hr : r ≤ 64) (k : Q (nI (z_ah (z_ru m p 0) (z_ru m p 1) (z_ru m p 2) r)) h) : wp_X5_ahead (nI p) (nI r) h Q := by
  unfold wp_X5_ahead
  unfold z_ah at k
  refine ⟨fun z => ?_, fun z => ?_⟩
  · rw [if_pos ((nI_eq (b := 0) (by omega) (by omega)).mp z)] at k; exact k
  · have h0 : ¬ r = 0 := fun q => z (by rw [q]; rfl)
    rw [if_neg h0] at k
    obtain ⟨j, rfl⟩ : ∃ j, r = j + 1 := ⟨r - 1, by omega⟩
    rw [nI_pred]
    exact s5_ruleState hok hc hp (by omega) k
theorem s5_rises {m : q_S} {lo : Int32} {p s l : Nat} {h : q_H} {Q : Int32 → q_H → Prop} (hok : z_ok m) (hc : z_Ml m lo h) (hp : p < z_np m) (hH : z_H s l h) (hs : s ≤ 64) (hl : l ≤ 64) (k : Q (nI (z_rest m p (z_ru m p 0) (z_ru m p 1) (z_ru m p 2) l (decide (s + l = 64)))) h) : wp_X5_rises (nI p) h Q := by
  have hnp := hok.1.1
  obtain ⟨r1, r2, r3⟩ := hok.2.2.2.2.2.1 p
  unfold wp_X5_rises
  refine s5_isLast hH hs hl ?_
  cases e : decide (s + l = 64) with
  | true =>
    refine ⟨fun z => absurd z (by decide), fun _ => ?_⟩
    rw [e] at k
    rw [hH.2]
    exact k
  | false =>
    refine ⟨fun _ => ?_, fun z => absurd rfl z⟩
    rw [e] at k
    obtain ⟨o1, o2⟩ := z_rest_ok hok (p := p) r1 r2 r3 hl
    generalize z_rest m p (z_ru m p 0) (z_ru m p 1) (z_ru m p 2) l false = R at *
    have hR : R ≤ l := by omega
    have hri : ∀ x, z_ri m p x ≤ 9 := hok.2.2.2.1 p
    rw [hH.2]
    refine pk_loop (σ := q_H) (fun n i s => lp_X5_rises_17 (nI p) (fun x g => Q x g) n (nI (l - i)) s) (fun i s => s = h) (l - R) 0 h (by omega) rfl ?_ ?_
    · rintro n u rfl
      rw [show l - (l - R) = R by omega]
      have hah := z_ah_lt (z_ru m p 0) (z_ru m p 1) (z_ru m p 2) R
      unfold lp_X5_rises_17
      refine s5_ahead hok hc hp (by omega) ?_
      rw [ix4, cl (by omega), hc.2.2.2.1 p (by omega) _ hah, nI_add, hH.2]
      exact ⟨vin (by omega) (by omega), fun _ => k, fun z => absurd (nI_le o1 (by omega)) z⟩
    · rintro n i u hi rfl ih
      have hah := z_ah_lt (z_ru m p 0) (z_ru m p 1) (z_ru m p 2) (l - i)
      have hlt := o2 (l - i) (by omega) (by omega)
      have hri2 := hri (z_ah (z_ru m p 0) (z_ru m p 1) (z_ru m p 2) (l - i))
      unfold lp_X5_rises_17
      refine s5_ahead hok hc hp (by omega) ?_
      rw [ix4, cl (by omega), hc.2.2.2.1 p (by omega) _ hah, nI_add, hH.2]
      refine ⟨vin (by omega) (by omega), fun z => absurd z (nle hlt (by omega)), fun _ => ?_⟩
      obtain ⟨j, hj⟩ : ∃ j, l - i = j + 1 := ⟨l - i - 1, by omega⟩
      rw [hj, pk_m1]
      have := ih u rfl
      rw [show l - (i + 1) = j by omega] at this
      exact this
theorem s5_rsum {m : q_S} {lo : Int32} {p r l x : Nat} {h : q_H} {E : Int32 → Int32 → q_H → Prop} (hok : z_ok m) (hc : z_Ml m lo h) (hp : p < z_np m) (h15 : h.1 18 0 15 = nI l) (hr : r ≤ 64) (hl : l ≤ 64) (k : ∀ y, E (nI (x + z_rsum m p (z_ru m p 0) (z_ru m p 1) (z_ru m p 2) r l)) y h) : ∃ n, lp_X5_ruledSpan_36 (nI p) (nI r) E n (nI x) 0 h := by
  have hnp := hok.1.1
  refine pk_loop (σ := Int32 × q_H) (fun n i s => lp_X5_ruledSpan_36 (nI p) (nI r) E n s.1 (nI i) s.2) (fun i s => s.2 = h ∧ s.1 = nI (x + z_rsum m p (z_ru m p 0) (z_ru m p 1) (z_ru m p 2) r i)) l 0 (nI x, h) (by omega) ⟨rfl, rfl⟩ ?_ ?_
  · rintro n ⟨y, u⟩ ⟨e, hx⟩
    have e : u = h := e
    subst e
    have hx : y = _ := hx
    subst hx
    unfold lp_X5_ruledSpan_36
    rw [h15]
    exact ⟨fun _ => k _, fun z => absurd (nI_le (Nat.le_refl _) (by omega)) z⟩
  · rintro n i ⟨y, u⟩ hi ⟨e, hx⟩ ih
    have e : u = h := e
    subst e
    have hx : y = nI (x + z_rsum m p (z_ru m p 0) (z_ru m p 1) (z_ru m p 2) r i) := hx
    subst hx
    unfold lp_X5_ruledSpan_36
    dsimp only
    rw [h15, nI_1 i, ix400, cl (show 4 * p + 0 < 2 ^ 31 by omega), hc.2.1 p (by omega) 0 (by omega)]
    refine ⟨fun z => absurd z (nle hi (by omega)), fun _ => ⟨fun z => ⟨vin (by omega) (by omega), ?_⟩, fun z => ?_⟩⟩
    · have hle := (nI_leI (by omega) (by omega)).mp z
      refine ih (_, _) ⟨rfl, ?_⟩
      show nI _ + nI _ = nI (x + (z_rsum m p _ _ _ r i + z_dr m p (if i < r then _ else 0)))
      rw [if_neg (by omega), nI_add, Nat.add_assoc]
    · have hlt : ¬ _ ≤ _ := fun q => z ((nI_leI (by omega) (by omega)).mpr q)
      have hrs := z_rs_lt (z_ru m p 0) (z_ru m p 1) (z_ru m p 2) i
      refine s5_ruleState hok hc hp (by omega) ?_
      rw [ix4, cl (by omega), hc.2.1 p (by omega) _ hrs]
      refine ⟨vin (by omega) (by omega), ?_⟩
      refine ih (_, _) ⟨rfl, ?_⟩
      show nI _ + nI _ = nI (x + (z_rsum m p _ _ _ r i + z_dr m p (if i < r then _ else 0)))
      rw [if_pos (by omega), nI_add, Nat.add_assoc]
theorem s5_ruledSpan {m : q_S} {lo : Int32} {p s l : Nat} {h : q_H} {Q : Int32 → q_H → Prop} (hok : z_ok m) (hc : z_Ml m lo h) (hp : p < z_np m) (hH : z_H s l h) (hs : s ≤ 64) (hl : l ≤ 64) (k : Q (nI (z_rspan m p (z_ru m p 0) (z_ru m p 1) (z_ru m p 2) l (decide (s + l = 64)))) h) : wp_X5_ruledSpan (nI p) h Q := by
  have hnp := hok.1.1
  unfold wp_X5_ruledSpan
  unfold z_rspan at k
  have hrl := z_rest_le m p (z_ru m p 0) (z_ru m p 1) (z_ru m p 2) l (decide (s + l = 64))
  refine s5_rises hok hc hp hH hs hl ?_
  refine s5_isLast hH hs hl ?_
  cases e : decide (s + l = 64) with
  | true =>
    rw [e] at k hrl
    refine ⟨fun z => absurd z (by decide), fun _ => ?_⟩
    refine s5_rsum (x := 0) hok hc hp hH.2 (by omega) hl (fun y => ?_)
    rw [Nat.zero_add]
    rw [if_pos rfl, Nat.add_zero] at k
    exact k
  | false =>
    rw [e] at k hrl
    refine ⟨fun _ => ?_, fun z => absurd rfl z⟩
    have hah := z_ah_lt (z_ru m p 0) (z_ru m p 1) (z_ru m p 2) (z_rest m p (z_ru m p 0) (z_ru m p 1) (z_ru m p 2) l false)
    refine s5_ahead hok hc hp (by omega) ?_
    rw [ix4, cl (by omega), hc.2.2.1 p (by omega) _ hah]
    refine ⟨vin (by omega) (by omega), ?_⟩
    refine s5_rsum hok hc hp hH.2 (by omega) hl (fun y => ?_)
    rw [if_neg (by decide), Nat.add_comm] at k
    exact k
theorem s5_ruledSum {m : q_S} {p : Nat} {h : q_H} {Q : Int32 → q_H → Prop} (hok : z_ok m) (hN : z_N m (-1) h) (hp : p < z_np m) (k : ∀ g, z_K1 h g → Q (nI (z_byrule m p (z_ru m p 0) (z_ru m p 1) (z_ru m p 2))) g) : wp_X5_ruledSum (nI p) h Q := by
  have hnp := hok.1.1
  unfold wp_X5_ruledSum
  refine pk_loop (σ := Int32 × q_H) (fun n i s => lp_X5_ruledSum_4 (nI p) (fun x _ g => Q x g) n s.1 (nI i) s.2) (fun i s => z_K1 h s.2 ∧ s.1 = nI (z_aw (z_w m (-1) p) i * z_dr m p 0 + z_sum (z_ss (z_w m (-1) p) (z_R m p (z_ru m p 0) (z_ru m p 1) (z_ru m p 2) (z_w m (-1) p))) i)) 64 0 (0, h) (by omega) ⟨z_K1.rf h, by show (0 : Int32) = nI (0 * _ + 0); rw [Nat.zero_mul]; rfl⟩ ?_ ?_
  · rintro n ⟨x, u⟩ ⟨e, hx⟩
    have hx : x = _ := hx
    subst hx
    unfold lp_X5_ruledSum_4
    exact ⟨fun _ => k u e, fun z => absurd (show nI 64 ≤ nI 64 from nI_le (by omega) (by omega)) z⟩
  · rintro n t ⟨x, u⟩ ht ⟨e, hx⟩ ih
    have e : z_K1 h u := e
    have hx : x = nI (z_aw (z_w m (-1) p) t * z_dr m p 0 + z_sum (z_ss (z_w m (-1) p) (z_R m p (z_ru m p 0) (z_ru m p 1) (z_ru m p 2) (z_w m (-1) p))) t) := hx
    subst hx
    have hNu := hN.k e
    unfold lp_X5_ruledSum_4
    refine ⟨fun z => absurd z (show ¬ nI 64 ≤ nI t from nle ht (by omega)), fun _ => ?_⟩
    refine s5_isWanted hNu.2 (by omega) ht ?_
    dsimp only
    rw [nI_1 t, ix40, cl (show 4 * p + 0 < 2 ^ 31 by omega), hNu.1.2.1 p (by omega) 0 (by omega)]
    cases hw : z_w m (-1) p t with
    | true =>
      refine ⟨fun z => absurd z (by decide), fun _ => ⟨vin (by omega) (by omega), ?_⟩⟩
      refine ih (_, _) ⟨e, ?_⟩
      show nI _ + nI _ = nI _
      rw [nI_add, z_aw_1 hw, z_ss_no (z_st_w hw), Nat.succ_mul]
      congr 1; omega
    | false =>
      refine ⟨fun _ => ?_, fun z => absurd rfl z⟩
      refine s5_begins hNu (by omega) ht (fun hs => ⟨fun _ => ?_, fun z => absurd rfl z⟩) (fun hs v hv h14 h15 => ⟨fun z => absurd z (by decide), fun _ => ?_⟩)
      · refine ih (_, _) ⟨e, ?_⟩
        show nI _ = nI _
        rw [z_aw_0 hw, z_ss_no hs]
      · have hlen := z_len_le (z_w m (-1) p) (show t ≤ 64 by omega)
        have hNv := hNu.k hv
        refine s5_ruledSpan hok hNv.1 hp ⟨h14, h15⟩ (by omega) (by omega) ?_
        refine ih (_, _) ⟨e.tr hv, ?_⟩
        show nI _ + nI _ = nI _
        rw [nI_add, z_aw_0 hw, z_ss_st hs, ← Nat.add_assoc]
        rfl
theorem M_ruled {m : q_S} {a : Int32} {h : q_H} {Q : Int32 → q_H → Prop} (hok : z_ok m) (hc : z_M m h) (k : ∀ g, z_K h g → Q (v_ruled m a) g) : wp_X5_ruled a h Q := by
  have := hok.1.1
  have hc := z_M_iff.mp hc
  unfold wp_X5_ruled v_ruled at *
  refine s5_isPart hok hc.1.1 (fun n => ⟨fun _ => ?_, fun z => absurd rfl z⟩) (fun p hp e ha => ⟨fun z => absurd z (by decide), fun _ => ?_⟩)
  · have := k h (z_K.rf h); rw [if_neg n] at this; exact this
  rw [if_pos ha] at k
  subst e
  rw [cl (by omega)] at k
  refine s5_wants hok hc (fun g hg hB => ?_)
  exact s5_ruledSum hok ⟨hg.M hc, hB⟩ hp (fun u hu => k u (hg.tr hu.K))
theorem M_ruledState {m : q_S} {a b : Int32} {h : q_H} {Q : Int32 → q_H → Prop} (hok : z_ok m) (hc : z_M m h) (k : ∀ g, z_K h g → Q (v_ruledState m a b) g) : wp_X5_ruledState a b h Q := by
  have := hok.1.1
  have hc := z_M_iff.mp hc
  unfold wp_X5_ruledState v_ruledState at *
  refine s5_isPart hok hc.1.1 (fun n => ⟨fun _ => ?_, fun z => absurd rfl z⟩) (fun p hp e ha => ⟨fun z => absurd z (by decide), fun _ => ?_⟩)
  · have := k h (z_K.rf h); rw [if_neg (fun q => n q.1)] at this; exact this
  refine s5_isTick (fun n => ⟨fun _ => ?_, fun z => absurd rfl z⟩) (fun t ht e2 hb => ⟨fun z => absurd z (by decide), fun _ => ?_⟩)
  · have := k h (z_K.rf h); rw [if_neg (fun q => n q.2)] at this; exact this
  rw [if_pos ⟨ha, hb⟩] at k
  subst e; subst e2
  rw [cl (by omega), cl (by omega)] at k
  unfold z_rsv at k
  refine s5_wants hok hc (fun g hg hB => ?_)
  have hN : z_N m (-1) g := ⟨hg.M hc, hB⟩
  refine s5_isWanted hB (by omega) ht ?_
  cases hw : z_w m (-1) p t with
  | true =>
    have kk := k g hg
    rw [if_pos hw] at kk
    exact ⟨fun z => absurd z (by decide), fun _ => kk⟩
  | false =>
    refine ⟨fun _ => ?_, fun z => absurd rfl z⟩
    refine s5_back2 hB (by omega) ht ?_
    obtain ⟨f1, f2, f3⟩ := z_from hw
    have f3 := f3 ht
    have hcu := z_cur_le (z_w m (-1) p) t
    have hcs : t - (t - z_cur (z_w m (-1) p) t) = z_cur (z_w m (-1) p) t := by omega
    generalize hsd : t - z_cur (z_w m (-1) p) t = s at *
    have hlen := z_len_le (z_w m (-1) p) (show s ≤ 64 by omega)
    refine s5_begins hN (by omega) (by omega) (fun hs => by rw [f1] at hs; cases hs) (fun hs v hv h14 h15 => ⟨fun z => absurd z (by decide), fun _ => ?_⟩)
    have kk := k v (hg.tr hv.K)
    rw [if_neg (by rw [hw]; decide)] at kk
    have hNv := hN.k hv
    have hrl := z_rest_le m p (z_ru m p 0) (z_ru m p 1) (z_ru m p 2) (z_len (z_w m (-1) p) s) (z_lst (z_w m (-1) p) s)
    refine s5_rises hok hNv.1 hp ⟨h14, h15⟩ (by omega) (by omega) ?_
    rw [show decide (s + z_len (z_w m (-1) p) s = 64) = z_lst (z_w m (-1) p) s from rfl, h14, pk_sub (by omega), hcs]
    refine ⟨fun z => ?_, fun z => ?_⟩
    · have := (nI_leI (by omega) (by omega)).mp z
      rw [if_neg (by omega)] at kk; exact kk
    · have hlt : ¬ _ ≤ _ := fun q => z ((nI_leI (by omega) (by omega)).mpr q)
      rw [if_pos (by omega)] at kk
      exact s5_ruleState hok hNv.1 hp (by omega) kk
end
section
/-! ===== the reference's updates ===== -/
theorem i_l0 : (0 : Int32).toInt = 0 := by decide
theorem i_l99 : (99 : Int32).toInt = 99 := by decide
theorem i_l999 : (999 : Int32).toInt = 999 := by decide
theorem i_l9 : (9 : Int32).toInt = 9 := by decide
theorem i_l64 : (64 : Int32).toInt = 64 := by decide
theorem M_part {m : q_S} {a b c d : Int32} {h : q_H} {Q : Int32 → q_H → Prop} (hok : z_ok m) (hc : z_M m h) (k0 : ¬ y_partOk m a b c d → Q (-1) h) (k1 : y_partOk m a b c d → ∀ g, z_M (z_part m a.toNatClampNeg b.toNatClampNeg c.toNatClampNeg d.toNatClampNeg) g → z_Fm h g → Q (nI (z_np m)) g) : wp_X5_part a b c d h Q := by
  have hnp := hok.1.1
  have hc := z_M_iff.mp hc
  have key : ∀ (P : Prop), (y_partOk m a b c d → P) → (a.toInt ≤ 99 → b.toInt ≤ a.toInt → c.toInt ≤ b.toInt → d.toInt ≤ c.toInt → 0 ≤ d.toInt → z_np m < 6 → P) := by
    intro P hP h1 h2 h3 h4 h5 h6
    refine hP ⟨h6, ⟨?_, ?_, ?_, ?_⟩, ?_, ?_⟩
    all_goals rw [Int32.lt_iff_toInt_lt]
    · rw [i_l0]; omega
    · omega
    · omega
    · rw [i_l99]; omega
    · omega
    · rw [i_l99]; omega
  have key2 : y_partOk m a b c d → a.toInt ≤ 99 ∧ b.toInt ≤ a.toInt ∧ c.toInt ≤ b.toInt ∧ d.toInt ≤ c.toInt ∧ 0 ≤ d.toInt ∧ z_np m < 6 := by
    rintro ⟨h1, ⟨h2, h3, h4, h5⟩, h6, h7⟩
    rw [Int32.lt_iff_toInt_lt] at h2 h3 h4 h5 h6 h7
    rw [i_l0] at h2
    rw [i_l99] at h5 h7
    omega
  unfold wp_X5_part
  refine s5_in (fun n => ⟨fun _ => k0 (fun q => n ?_), fun y => absurd rfl y⟩) (fun a1 a2 => ⟨fun y => absurd y (by decide), fun _ => ?_⟩)
  · have := key2 q
    rw [Int32.lt_iff_toInt_lt, Int32.lt_iff_toInt_lt, i_l0, i_l99]; omega
  refine s5_in (fun n => ⟨fun _ => k0 (fun q => n ?_), fun y => absurd rfl y⟩) (fun b1 b2 => ⟨fun y => absurd y (by decide), fun _ => ?_⟩)
  · have := key2 q
    rw [Int32.lt_iff_toInt_lt, Int32.lt_iff_toInt_lt, i_l0]; omega
  refine s5_in (fun n => ⟨fun _ => k0 (fun q => n ?_), fun y => absurd rfl y⟩) (fun c1 c2 => ⟨fun y => absurd y (by decide), fun _ => ?_⟩)
  · have := key2 q
    rw [Int32.lt_iff_toInt_lt, Int32.lt_iff_toInt_lt, i_l0]; omega
  refine s5_in (fun n => ⟨fun _ => k0 (fun q => n ?_), fun y => absurd rfl y⟩) (fun d1 d2 => ⟨fun y => absurd y (by decide), fun _ => ?_⟩)
  · have := key2 q
    rw [Int32.lt_iff_toInt_lt, Int32.lt_iff_toInt_lt, i_l0]; omega
  rw [hc.1.1]
  refine ⟨fun z => k0 (fun q => ?_), fun z => ?_⟩
  · have := (nI_eq (a := z_np m) (b := 6) (by omega) (by omega)).mp z
    have := q.1; omega
  have h6 : z_np m < 6 := by
    have : ¬ z_np m = 6 := fun q => z (by rw [q]; rfl)
    omega
  have ok : y_partOk m a b c d := by
    rw [Int32.lt_iff_toInt_lt] at a1 a2 b1 b2 c1 c2 d1 d2
    rw [i_l0] at a1 b1 c1 d1
    rw [i_l99] at a2
    exact key _ id (by omega) (by omega) (by omega) (by omega) (by omega) h6
  have k1 := k1 ok
  obtain ⟨x, hx, rfl⟩ := nI_of a1
  obtain ⟨y, hy, rfl⟩ := nI_of b1
  obtain ⟨w, hw, rfl⟩ := nI_of c1
  obtain ⟨v, hv, rfl⟩ := nI_of d1
  rw [cl hx, cl hy, cl hw, cl hv] at k1
  rw [ix41, ix42, ix43, ix40, cl (show 4 * z_np m + 0 < 2 ^ 31 by omega), cl (show 4 * z_np m + 1 < 2 ^ 31 by omega), cl (show 4 * z_np m + 2 < 2 ^ 31 by omega), cl (show 4 * z_np m + 3 < 2 ^ 31 by omega), nI_1 (z_np m)]
  refine ⟨vin (by omega) (by omega), vin (by omega) (by omega), vin (by omega) (by omega), vin (by omega) (by omega), ?_⟩
  generalize hg : q_sI (q_sI (q_sI (q_sI (q_sI h 18 0 0 (nI (z_np m + 1))) 19 0 (4 * z_np m + 0) (nI x)) 19 0 (4 * z_np m + 1) (nI y)) 19 0 (4 * z_np m + 2) (nI w)) 19 0 (4 * z_np m + 3) (nI v) = g
  have gF : z_Fm h g := by
    rw [← hg]
    exact z_Fm_sI (by omega) (z_Fm_sI (by omega) (z_Fm_sI (by omega) (z_Fm_sI (by omega) (z_Fm_sI (by omega) (z_Fm.rf h)))))
  have g18 : g.1 18 0 0 = nI (z_np m + 1) ∧ ∀ j, j ≠ 0 → g.1 18 0 j = h.1 18 0 j := by
    rw [← hg]
    refine ⟨?_, fun j hj => ?_⟩
    · rw [q_sI_o (by omega), q_sI_o (by omega), q_sI_o (by omega), q_sI_o (by omega), q_sI_r]
    · rw [q_sI_o (by omega), q_sI_o (by omega), q_sI_o (by omega), q_sI_o (by omega), q_sI_o (by omega)]
  have g19 : ∀ p, p < 6 → ∀ s, s < 4 → g.1 19 0 (4 * p + s) = nI (z_dr (z_part m x y w v) p s) := by
    intro p hp s hs
    show _ = nI (if p = z_np m then (if s = 0 then x else if s = 1 then y else if s = 2 then w else if s = 3 then v else z_dr m p s) else z_dr m p s)
    rw [← hg]
    by_cases e : p = z_np m
    · subst e
      rw [if_pos rfl]
      match s, hs with
      | 0, _ => rw [q_sI_o (by omega), q_sI_o (by omega), q_sI_o (by omega), q_sI_r]; rfl
      | 1, _ => rw [q_sI_o (by omega), q_sI_o (by omega), q_sI_r]; rfl
      | 2, _ => rw [q_sI_o (by omega), q_sI_r]; rfl
      | 3, _ => rw [q_sI_r]; rfl
      | n + 4, hs => omega
    · rw [if_neg e, q_sI_o (by omega), q_sI_o (by omega), q_sI_o (by omega), q_sI_o (by omega), q_sI_o (by omega)]
      exact hc.2.1 p hp s hs
  have gO : ∀ k, k ≠ 18 → k ≠ 19 → g.1 k = h.1 k := by
    intro k h18 h19
    funext i j
    rw [← hg, q_sI_o (by omega), q_sI_o (by omega), q_sI_o (by omega), q_sI_o (by omega), q_sI_o (by omega)]
  refine pk_loop (σ := q_H) (fun n i s => lp_X5_part_115 (nI (z_np m)) (fun _ g => Q (nI (z_np m)) g) n (nI i) s) (fun i s => ∃ f : Nat → Int32, s = q_aI g 22 0 f ∧ (∀ j, j < 3 * z_np m → f j = g.1 22 0 j) ∧ ∀ s, s < i → f (3 * z_np m + s) = 64) 3 0 g (by omega) ⟨g.1 22 0, (q_aI_self g 22 0).symm, fun _ _ => rfl, fun s hs => by omega⟩ ?_ ?_
  · rintro n s ⟨f, rfl, f1, f2⟩
    unfold lp_X5_part_115
    refine ⟨fun _ => k1 _ (z_M_iff.mpr ?_) ?_, fun z => absurd (show nI 3 ≤ nI 3 from nI_le (by omega) (by omega)) z⟩
    · obtain ⟨⟨d1, d2, d3, d4⟩, d5, d6, d7, d8, d9, d10, d11⟩ := hc
      have fo : ∀ k, k ≠ 22 → (q_aI g 22 0 f).1 k = g.1 k := by
        intro k hk
        funext i
        exact q_aI_ne (by omega)
      unfold z_Ml
      rw [fo 18 (by omega), fo 19 (by omega), fo 20 (by omega), fo 21 (by omega), fo 23 (by omega), fo 24 (by omega), fo 25 (by omega), q_aI_at, gO 20 (by omega) (by omega), gO 21 (by omega) (by omega), gO 23 (by omega) (by omega), gO 24 (by omega) (by omega), gO 25 (by omega) (by omega), g18.2 1 (by omega), g18.2 2 (by omega), g18.2 13 (by omega)]
      refine ⟨⟨g18.1, d2, d3, d4⟩, g19, d6, d7, fun p hp s hs => ?_, d9, d10, d11⟩
      have hp : p < z_np m + 1 := hp
      show _ = nI (if p = z_np m then 64 else z_ru m p s)
      by_cases e : p = z_np m
      · rw [if_pos e, e, f2 s hs]; rfl
      · rw [if_neg e, f1 _ (by omega), gO 22 (by omega) (by omega)]
        exact d8 p (by omega) s hs
    · refine gF.tr ⟨fun k hk => ?_, rfl⟩
      funext i
      exact q_aI_ne (by omega)
  · rintro n i s hi ⟨f, rfl, f1, f2⟩ ih
    unfold lp_X5_part_115
    refine ⟨fun z => absurd z (show ¬ nI 3 ≤ nI i from nle hi (by omega)), fun _ => ?_⟩
    rw [ix3, cl (by omega), nI_1 i, q_sI_a, q_aI_at, q_aI_aI]
    refine ⟨vin (by omega) (by omega), ih _ ⟨_, rfl, fun j hj => ?_, fun s hs => ?_⟩⟩
    · rw [vI_n (by omega)]; exact f1 j hj
    · by_cases e : s = i
      · subst e; exact vI_s _ _ _
      · rw [vI_n (by omega)]; exact f2 s (by omega)
theorem M_rise {m : q_S} {p a b c x y z : Int32} {h : q_H} {Q : Int32 → q_H → Prop} (hok : z_ok m) (hc : z_M m h) (k0 : ¬ y_riseOk m p a b c x y z → Q 0 h) (k1 : y_riseOk m p a b c x y z → ∀ g, z_M (z_rise m p.toNatClampNeg a.toNatClampNeg b.toNatClampNeg c.toNatClampNeg x.toNatClampNeg y.toNatClampNeg z.toNatClampNeg) g → z_Fm h g → Q 1 g) : wp_X5_rise p a b c x y z h Q := by
  have hnp := hok.1.1
  have hc := z_M_iff.mp hc
  have up : ∀ {a b c M : Int32}, y_up3 a b c M → 0 ≤ a.toInt ∧ a.toInt ≤ b.toInt ∧ b.toInt ≤ c.toInt ∧ c.toInt ≤ M.toInt := by
    rintro a b c M ⟨h1, h2, h3, h4⟩
    rw [Int32.lt_iff_toInt_lt] at h1 h2 h3 h4
    rw [i_l0] at h1
    omega
  unfold wp_X5_rise
  refine s5_isPart hok hc.1.1 (fun n => ⟨fun _ => k0 (fun q => n q.1), fun y => absurd rfl y⟩) (fun pp hpp e ha => ⟨fun y => absurd y (by decide), fun _ => ?_⟩)
  refine s5_in (fun n => ⟨fun _ => k0 (fun q => n ?_), fun y => absurd rfl y⟩) (fun a1 a2 => ⟨fun y => absurd y (by decide), fun _ => ?_⟩)
  · have u := up q.2.1
    rw [i_l999] at u
    rw [Int32.lt_iff_toInt_lt, Int32.lt_iff_toInt_lt, i_l0, i_l999]; omega
  refine s5_in (fun n => ⟨fun _ => k0 (fun q => n ?_), fun y => absurd rfl y⟩) (fun b1 b2 => ⟨fun y => absurd y (by decide), fun _ => ?_⟩)
  · have u := up q.2.1
    rw [i_l999] at u
    rw [Int32.lt_iff_toInt_lt, Int32.lt_iff_toInt_lt, i_l999]; omega
  refine s5_in (fun n => ⟨fun _ => k0 (fun q => n ?_), fun y => absurd rfl y⟩) (fun c1 c2 => ⟨fun y => absurd y (by decide), fun _ => ?_⟩)
  · have u := up q.2.1
    rw [i_l999] at u
    rw [Int32.lt_iff_toInt_lt, Int32.lt_iff_toInt_lt, i_l999]; omega
  refine s5_in (fun n => ⟨fun _ => k0 (fun q => n ?_), fun y => absurd rfl y⟩) (fun x1 x2 => ⟨fun y => absurd y (by decide), fun _ => ?_⟩)
  · have u := up q.2.2
    rw [i_l9] at u
    rw [Int32.lt_iff_toInt_lt, Int32.lt_iff_toInt_lt, i_l0, i_l9]; omega
  refine s5_in (fun n => ⟨fun _ => k0 (fun q => n ?_), fun y => absurd rfl y⟩) (fun y1 y2 => ⟨fun y => absurd y (by decide), fun _ => ?_⟩)
  · have u := up q.2.2
    rw [i_l9] at u
    rw [Int32.lt_iff_toInt_lt, Int32.lt_iff_toInt_lt, i_l9]; omega
  refine s5_in (fun n => ⟨fun _ => k0 (fun q => n ?_), fun y => absurd rfl y⟩) (fun z1 z2 => ⟨fun y => absurd y (by decide), fun _ => ?_⟩)
  · have u := up q.2.2
    rw [i_l9] at u
    rw [Int32.lt_iff_toInt_lt, Int32.lt_iff_toInt_lt, i_l9]; omega
  have ok : y_riseOk m p a b c x y z := ⟨ha, ⟨a1, b1, c1, c2⟩, ⟨x1, y1, z1, z2⟩⟩
  have k1 := k1 ok
  obtain ⟨va, vb, vc, rfl, rfl, rfl, e1, e2, e3⟩ := y_up3_nat (M := 999) (by omega) ok.2.1
  obtain ⟨vx, vy, vz, rfl, rfl, rfl, e4, e5, e6⟩ := y_up3_nat (M := 9) (by omega) ok.2.2
  subst e
  rw [cl (by omega), cl (by omega), cl (by omega), cl (by omega), cl (by omega), cl (by omega), cl (by omega)] at k1
  rw [ix41, ix42, ix43, cl (show 4 * pp + 1 < 2 ^ 31 by omega), cl (show 4 * pp + 2 < 2 ^ 31 by omega), cl (show 4 * pp + 3 < 2 ^ 31 by omega)]
  refine ⟨vin (by omega) (by omega), vin (by omega) (by omega), vin (by omega) (by omega), vin (by omega) (by omega), vin (by omega) (by omega), vin (by omega) (by omega), ?_⟩
  refine k1 _ (z_M_iff.mpr ?_) (z_Fm_sI (by omega) (z_Fm_sI (by omega) (z_Fm_sI (by omega) (z_Fm_sI (by omega) (z_Fm_sI (by omega) (z_Fm_sI (by omega) (z_Fm.rf h)))))))
  generalize hg : q_sI (q_sI (q_sI (q_sI (q_sI (q_sI h 20 0 (4 * pp + 1) (nI va)) 20 0 (4 * pp + 2) (nI vb)) 20 0 (4 * pp + 3) (nI vc)) 21 0 (4 * pp + 1) (nI vx)) 21 0 (4 * pp + 2) (nI vy)) 21 0 (4 * pp + 3) (nI vz) = g
  have gO : ∀ k, k ≠ 20 → k ≠ 21 → g.1 k = h.1 k := by
    intro k h18 h19
    funext i j
    rw [← hg, q_sI_o (by omega), q_sI_o (by omega), q_sI_o (by omega), q_sI_o (by omega), q_sI_o (by omega), q_sI_o (by omega)]
  have g20 : ∀ p, p < 6 → ∀ s, s < 4 → g.1 20 0 (4 * p + s) = nI (z_co (z_rise m pp va vb vc vx vy vz) p s) := by
    intro p hp s hs
    show _ = nI (if p = pp then (if s = 1 then va else if s = 2 then vb else if s = 3 then vc else z_co m p s) else z_co m p s)
    rw [← hg, q_sI_o (by omega), q_sI_o (by omega), q_sI_o (by omega)]
    by_cases e : p = pp
    · subst e
      rw [if_pos rfl]
      match s, hs with
      | 0, _ => rw [q_sI_o (by omega), q_sI_o (by omega), q_sI_o (by omega)]; exact hc.2.2.1 p hp 0 (by omega)
      | 1, _ => rw [q_sI_o (by omega), q_sI_o (by omega), q_sI_r]; rfl
      | 2, _ => rw [q_sI_o (by omega), q_sI_r]; rfl
      | 3, _ => rw [q_sI_r]; rfl
      | n + 4, hs => omega
    · rw [if_neg e, q_sI_o (by omega), q_sI_o (by omega), q_sI_o (by omega)]
      exact hc.2.2.1 p hp s hs
  have g21 : ∀ p, p < 6 → ∀ s, s < 4 → g.1 21 0 (4 * p + s) = nI (z_ri (z_rise m pp va vb vc vx vy vz) p s) := by
    intro p hp s hs
    show _ = nI (if p = pp then (if s = 1 then vx else if s = 2 then vy else if s = 3 then vz else z_ri m p s) else z_ri m p s)
    rw [← hg]
    by_cases e : p = pp
    · subst e
      rw [if_pos rfl]
      match s, hs with
      | 0, _ => rw [q_sI_o (by omega), q_sI_o (by omega), q_sI_o (by omega), q_sI_o (by omega), q_sI_o (by omega), q_sI_o (by omega)]; exact hc.2.2.2.1 p hp 0 (by omega)
      | 1, _ => rw [q_sI_o (by omega), q_sI_o (by omega), q_sI_r]; rfl
      | 2, _ => rw [q_sI_o (by omega), q_sI_r]; rfl
      | 3, _ => rw [q_sI_r]; rfl
      | n + 4, hs => omega
    · rw [if_neg e, q_sI_o (by omega), q_sI_o (by omega), q_sI_o (by omega), q_sI_o (by omega), q_sI_o (by omega), q_sI_o (by omega)]
      exact hc.2.2.2.1 p hp s hs
  obtain ⟨d1, d5, d6, d7, d8⟩ := hc
  unfold z_Ml
  rw [gO 18 (by omega) (by omega), gO 19 (by omega) (by omega), gO 22 (by omega) (by omega), gO 23 (by omega) (by omega), gO 24 (by omega) (by omega), gO 25 (by omega) (by omega)]
  exact ⟨d1, d5, g20, g21, d8⟩
/-- thresholds of a part laid down -/
theorem z_Ml_rule {m : q_S} {lo : Int32} {p a b c : Nat} {h : q_H} (hc : z_Ml m lo h) : z_Ml (z_rule m p a b c) lo (q_sI (q_sI (q_sI h 22 0 (3 * p + 0) (nI a)) 22 0 (3 * p + 1) (nI b)) 22 0 (3 * p + 2) (nI c)) := by
  generalize hg : q_sI (q_sI (q_sI h 22 0 (3 * p + 0) (nI a)) 22 0 (3 * p + 1) (nI b)) 22 0 (3 * p + 2) (nI c) = g
  have gO : ∀ k, k ≠ 22 → g.1 k = h.1 k := by
    intro k h18
    funext i j
    rw [← hg, q_sI_o (by omega), q_sI_o (by omega), q_sI_o (by omega)]
  obtain ⟨d1, d5, d6, d7, d8, d9⟩ := hc
  unfold z_Ml
  rw [gO 18 (by omega), gO 19 (by omega), gO 20 (by omega), gO 21 (by omega), gO 23 (by omega), gO 24 (by omega), gO 25 (by omega)]
  refine ⟨d1, d5, d6, d7, fun q hq s hs => ?_, d9⟩
  show _ = nI (if q = p then (if s = 0 then a else if s = 1 then b else if s = 2 then c else z_ru m q s) else z_ru m q s)
  rw [← hg]
  by_cases e : q = p
  · subst e
    rw [if_pos rfl]
    match s, hs with
    | 0, _ => rw [q_sI_o (by omega), q_sI_o (by omega), q_sI_r]; rfl
    | 1, _ => rw [q_sI_o (by omega), q_sI_r]; rfl
    | 2, _ => rw [q_sI_r]; rfl
    | n + 3, hs => omega
  · rw [if_neg e, q_sI_o (by omega), q_sI_o (by omega), q_sI_o (by omega)]
    exact d8 q hq s hs
theorem M_rule {m : q_S} {p a b c : Int32} {h : q_H} {Q : Int32 → q_H → Prop} (hok : z_ok m) (hc : z_M m h) (k0 : ¬ y_ruleOk m p a b c → Q 0 h) (k1 : y_ruleOk m p a b c → ∀ g, z_M (z_rule m p.toNatClampNeg a.toNatClampNeg b.toNatClampNeg c.toNatClampNeg) g → z_Fm h g → Q 1 g) : wp_X5_rule p a b c h Q := by
  have hnp := hok.1.1
  have hc := z_M_iff.mp hc
  have up : ∀ {a b c M : Int32}, y_up3 a b c M → 0 ≤ a.toInt ∧ a.toInt ≤ b.toInt ∧ b.toInt ≤ c.toInt ∧ c.toInt ≤ M.toInt := by
    rintro a b c M ⟨h1, h2, h3, h4⟩
    rw [Int32.lt_iff_toInt_lt] at h1 h2 h3 h4
    rw [i_l0] at h1
    omega
  unfold wp_X5_rule
  refine s5_isPart hok hc.1.1 (fun n => ⟨fun _ => k0 (fun q => n q.1), fun y => absurd rfl y⟩) (fun pp hpp e ha => ⟨fun y => absurd y (by decide), fun _ => ?_⟩)
  refine s5_in (fun n => ⟨fun _ => k0 (fun q => n ?_), fun y => absurd rfl y⟩) (fun a1 a2 => ⟨fun y => absurd y (by decide), fun _ => ?_⟩)
  · have u := up q.2
    rw [i_l64] at u
    rw [Int32.lt_iff_toInt_lt, Int32.lt_iff_toInt_lt, i_l0, i_l64]; omega
  refine s5_in (fun n => ⟨fun _ => k0 (fun q => n ?_), fun y => absurd rfl y⟩) (fun b1 b2 => ⟨fun y => absurd y (by decide), fun _ => ?_⟩)
  · have u := up q.2
    rw [i_l64] at u
    rw [Int32.lt_iff_toInt_lt, Int32.lt_iff_toInt_lt, i_l64]; omega
  refine s5_in (fun n => ⟨fun _ => k0 (fun q => n ?_), fun y => absurd rfl y⟩) (fun c1 c2 => ⟨fun y => absurd y (by decide), fun _ => ?_⟩)
  · have u := up q.2
    rw [i_l64] at u
    rw [Int32.lt_iff_toInt_lt, Int32.lt_iff_toInt_lt, i_l64]; omega
  have ok : y_ruleOk m p a b c := ⟨ha, ⟨a1, b1, c1, c2⟩⟩
  have k1 := k1 ok
  obtain ⟨va, vb, vc, rfl, rfl, rfl, e1, e2, e3⟩ := y_up3_nat (M := 64) (by omega) ok.2
  subst e
  rw [cl (by omega), cl (by omega), cl (by omega), cl (by omega)] at k1
  rw [ix31, ix32, ix30, cl (show 3 * pp + 0 < 2 ^ 31 by omega), cl (show 3 * pp + 1 < 2 ^ 31 by omega), cl (show 3 * pp + 2 < 2 ^ 31 by omega)]
  refine ⟨vin (by omega) (by omega), vin (by omega) (by omega), vin (by omega) (by omega), ?_⟩
  exact k1 _ (z_M_iff.mpr (z_Ml_rule hc)) (z_Fm_sI (by omega) (z_Fm_sI (by omega) (z_Fm_sI (by omega) (z_Fm.rf h))))
end
section
/-! ===== the reference: need, hold, back, timer ===== -/
def z_J2 (m : q_S) (p a b : Nat) (x0 x : Int32) : Prop := (∀ c, c < 32 → 6 ≤ c → bt x c = false) ∧ (∀ c, c < 6 → bt x0 c = true → bt x c = true) ∧ (∀ c d, (c < a ∨ c = a ∧ d < b) → c < 6 → d < 6 → bt x0 c = true → z_nd m c d = true → bt x d = true) ∧ ∀ T, z_closed (z_nd m) T → T p = true → ∀ c, c < 6 → bt x c = true → T c = true
theorem s5_reaches {m : q_S} {lo : Int32} {p q : Nat} {h : q_H} {Q : Int32 → q_H → Prop} (hok : z_ok m) (hc : z_Ml m lo h) (hp : p < 6) (hq : q < 6) (k : Q (bI (z_leads m p q)) h) : wp_X5_reaches (nI p) (nI q) h Q := by
  have hnp := hok.1.1
  have hnn := hok.2.2.2.2.2.2.1.1
  unfold wp_X5_reaches
  refine pk_loop (σ := Int32 × q_H) (fun n i s => lp_X5_reaches_7 (nI q) _ n s.1 (nI i) s.2) (fun i s => s.2 = h ∧ z_J m p i s.1) 6 0 (_, h) (by omega) ⟨rfl, z_J_0 m hp⟩ ?_ ?_
  · rintro n ⟨x, g⟩ ⟨e, hJ⟩
    have e : g = h := e
    subst e
    have hJ : z_J m p 6 x := hJ
    have hb := z_J_end hp (by omega) hJ q hq
    unfold lp_X5_reaches_7
    refine ⟨fun _ => ⟨fun z => ?_, fun z => ?_⟩, fun z => absurd (show nI 6 ≤ nI 6 from nI_le (by omega) (by omega)) z⟩
    · rw [← hb, (b_hitS x (by omega)).mp z] at k; exact k
    · rw [← hb, ts_nt (fun y => z ((b_hitS x (by omega)).mpr y))] at k; exact k
  · rintro n i ⟨x0, g⟩ hi ⟨e, hJ⟩ ih
    have e : g = h := e
    subst e
    have hJ : z_J m p i x0 := hJ
    unfold lp_X5_reaches_7
    refine ⟨fun z => absurd z (show ¬ nI 6 ≤ nI i from nle hi (by omega)), fun _ => ?_⟩
    refine pk_loop (σ := Int32 × q_H) (fun n a s => lp_X5_reaches_17 (nI q) (nI i) _ n s.1 (nI a) s.2) (fun a s => s.2 = g ∧ z_J1 m p a x0 s.1) (z_np m) 0 (x0, g) (by omega) ⟨rfl, z_J_1 hJ⟩ ?_ ?_
    · rintro n2 ⟨x, u⟩ ⟨e, hx⟩
      have e : u = g := e
      subst e
      have hx : z_J1 m p (z_np m) x0 x := hx
      unfold lp_X5_reaches_17
      rw [hc.1.1]
      refine ⟨fun _ => ?_, fun z => absurd (nI_le (Nat.le_refl _) (by omega)) z⟩
      rw [nI_1 i]
      refine ih (_, _) ⟨rfl, z_J_n hJ ⟨hx.1, hx.2.1, fun a b _ ha hb h0 hn => hx.2.2.1 a b (hnn a b hn).1 ha hb h0 hn, hx.2.2.2⟩⟩
    · rintro n2 a ⟨x, u⟩ ha ⟨e, hx⟩ ih2
      have e : u = g := e
      subst e
      have hx : z_J1 m p a x0 x := hx
      obtain ⟨j1, j2, j3, j4⟩ := hx
      unfold lp_X5_reaches_17
      rw [hc.1.1]
      refine ⟨fun z => absurd z (nle ha (by omega)), fun _ => ?_⟩
      refine pk_loop (σ := Int32 × q_H) (fun n b s => lp_X5_reaches_29 (nI q) (nI i) (nI a) _ n s.1 (nI b) s.2) (fun b s => s.2 = u ∧ z_J2 m p a b x0 s.1) (z_np m) 0 (x, u) (by omega) ⟨rfl, j1, j2, fun c d hcd c6 d6 h0 hn => j3 c d (by omega) c6 d6 h0 hn, j4⟩ ?_ ?_
      · rintro n3 ⟨x1, v⟩ ⟨e, hx1⟩
        have e : v = u := e
        subst e
        have hx1 : z_J2 m p a (z_np m) x0 x1 := hx1
        unfold lp_X5_reaches_29
        rw [hc.1.1]
        refine ⟨fun _ => ?_, fun z => absurd (nI_le (Nat.le_refl _) (by omega)) z⟩
        rw [nI_1 a]
        exact ih2 (_, _) ⟨rfl, hx1.1, hx1.2.1, fun c d hcd c6 d6 h0 hn => hx1.2.2.1 c d (by have := (hnn c d hn).2; omega) c6 d6 h0 hn, hx1.2.2.2⟩
      · rintro n3 b ⟨x1, v⟩ hb ⟨e, hx1⟩ ih3
        have e : v = u := e
        subst e
        have hx1 : z_J2 m p a b x0 x1 := hx1
        obtain ⟨i1, i2, i3, i4⟩ := hx1
        unfold lp_X5_reaches_29
        dsimp only
        rw [hc.1.1, ix6, cl (show 6 * a + b < 2 ^ 31 by omega), nI_1 b, hc.2.2.2.2.2.1 a (by omega) b (by omega)]
        refine ⟨fun z => absurd z (nle hb (by omega)), fun _ => ⟨fun z => ⟨vin (by omega) (by omega), fun z1 => ?_, fun z1 => ?_⟩, fun z => ?_⟩⟩
        · have hn : z_nd m a b = false := by
            cases e : z_nd m a b with
            | false => rfl
            | true => rw [e] at z1; exact absurd z1 (by decide)
          refine ih3 (_, _) ⟨rfl, i1, i2, fun c d hcd c6 d6 h0 hnd => ?_, i4⟩
          rcases (by omega : (c < a ∨ c = a ∧ d < b) ∨ (c = a ∧ d = b)) with h1 | ⟨rfl, rfl⟩
          · exact i3 c d h1 c6 d6 h0 hnd
          · rw [hn] at hnd; cases hnd
        · have hn : z_nd m a b = true := by
            cases e : z_nd m a b with
            | true => rfl
            | false => rw [e] at z1; exact absurd rfl z1
          have hxa : bt x1 a = true := (b_hitS x1 (by omega)).mp z
          refine ih3 (_, _) ⟨rfl, fun c hc32 c6 => ?_, fun c c6 h0 => ?_, fun c d hcd c6 d6 h0 hnd => ?_, fun T hT hTp c c6 h0 => ?_⟩
          · show bt (x1 ||| _) c = false
            rw [b_or, i1 c hc32 c6, b_one (by omega) hc32, decide_eq_false (by omega)]; rfl
          · show bt (x1 ||| _) c = true
            rw [b_or, i2 c c6 h0, Bool.true_or]
          · show bt (x1 ||| _) d = true
            rw [b_or]
            rcases (by omega : (c < a ∨ c = a ∧ d < b) ∨ (c = a ∧ d = b)) with h1 | ⟨rfl, rfl⟩
            · rw [i3 c d h1 c6 d6 h0 hnd, Bool.true_or]
            · rw [b_one (by omega) (by omega), decide_eq_true rfl, Bool.or_true]
          · have h0 : bt (x1 ||| _) c = true := h0
            rw [b_or, b_one (by omega) (by omega)] at h0
            rcases Bool.or_eq_true_iff.mp h0 with h0 | h0
            · exact i4 T hT hTp c c6 h0
            · have : c = b := of_decide_eq_true h0
              subst this
              exact hT a c (by omega) c6 (i4 T hT hTp a (by omega) hxa) hn
        · have hxa : bt x1 a = false := ts_nt (fun y => z ((b_hitS x1 (by omega)).mpr y))
          refine ih3 (_, _) ⟨rfl, i1, i2, fun c d hcd c6 d6 h0 hnd => ?_, i4⟩
          rcases (by omega : (c < a ∨ c = a ∧ d < b) ∨ (c = a ∧ d = b)) with h1 | ⟨rfl, rfl⟩
          · exact i3 c d h1 c6 d6 h0 hnd
          · rw [i2 c c6 h0] at hxa; cases hxa
theorem M_need {m : q_S} {a b c : Int32} {h : q_H} {Q : Int32 → q_H → Prop} (hok : z_ok m) (hc : z_M m h) (hc01 : c = 0 ∨ c = 1) (k0 : ¬ y_needOk m a b c → Q 0 h) (k1 : y_needOk m a b c → ∀ g, z_M (z_need m a.toNatClampNeg b.toNatClampNeg (decide (c = 1))) g → z_Fm h g → Q 1 g) : wp_X5_need a b c h Q := by
  have hnp := hok.1.1
  have hc := z_M_iff.mp hc
  unfold wp_X5_need
  refine s5_isPart hok hc.1.1 (fun n => ⟨fun _ => k0 (fun q => n q.1), fun y => absurd rfl y⟩) (fun p hp e ha => ⟨fun y => absurd y (by decide), fun _ => ?_⟩)
  refine s5_isPart hok hc.1.1 (fun n => ⟨fun _ => k0 (fun q => n q.2.1), fun y => absurd rfl y⟩) (fun q hq e2 hb => ⟨fun y => absurd y (by decide), fun _ => ?_⟩)
  subst e; subst e2
  rw [cl (by omega), cl (by omega)] at k1
  have k0' : (bI (z_nd m p q) = c ∨ ¬ (c = 0 ∨ z_leads m q p = false)) → Q 0 h := by
    intro hh
    refine k0 (fun ⟨_, _, y1, y2⟩ => ?_)
    rw [cl (by omega), cl (by omega)] at y1 y2
    rcases hh with hh | hh
    · exact y1 hh
    · exact hh y2
  rw [ix6, cl (show 6 * p + q < 2 ^ 31 by omega), hc.2.2.2.2.2.1 p (by omega) q (by omega)]
  refine ⟨vin (by omega) (by omega), fun z => k0' (Or.inl z), fun z => ?_⟩
  have fin : (c = 0 ∨ z_leads m q p = false) → Q 1 (q_sI h 23 0 (6 * p + q) c) := by
    intro hl
    have ok : y_needOk m (nI p) (nI q) c := by
      refine ⟨ha, hb, ?_, ?_⟩
      · rw [cl (by omega), cl (by omega)]; exact z
      · rw [cl (by omega), cl (by omega)]; exact hl
    refine k1 ok _ (z_M_iff.mpr ?_) (z_Fm_sI (by omega) (z_Fm.rf h))
    have gO : ∀ k, k ≠ 23 → (q_sI h 23 0 (6 * p + q) c).1 k = h.1 k := by
      intro k hk
      funext i j
      rw [q_sI_o (by omega)]
    obtain ⟨d1, d5, d6, d7, d8, d9, d10⟩ := hc
    unfold z_Ml
    rw [gO 18 (by omega), gO 19 (by omega), gO 20 (by omega), gO 21 (by omega), gO 22 (by omega), gO 24 (by omega), gO 25 (by omega)]
    refine ⟨d1, d5, d6, d7, d8, fun x hx y hy => ?_, d10⟩
    show _ = if (if x = p ∧ y = q then decide (c = 1) else z_nd m x y) = true then 1 else 0
    by_cases e : x = p ∧ y = q
    · rw [if_pos e, e.1, e.2, q_sI_r]
      rcases hc01 with e1 | e1
      · rw [e1]; decide
      · rw [e1]; decide
    · rw [if_neg e, q_sI_o (by omega)]
      exact d9 x hx y hy
  refine ⟨fun z1 => ⟨hc01, vin (by omega) (by omega), fin (Or.inl z1)⟩, fun z1 => ?_⟩
  refine s5_reaches hok hc (by omega) (by omega) ?_
  refine ⟨fun z2 => ⟨hc01, vin (by omega) (by omega), fin (Or.inr (bI_0.mp z2))⟩, fun z2 => k0' (Or.inr ?_)⟩
  rintro (q1 | q1)
  · exact z1 q1
  · exact z2 (bI_0.mpr q1)
theorem M_hold {m : q_S} {g p a b : Int32} {h : q_H} {Q : Int32 → q_H → Prop} (hok : z_ok m) (hc : z_M m h) (k0 : ¬ (y_holdOk m g p a b ∧ z_nh m < 20) → Q (-1) h) (k1 : y_holdOk m g p a b → z_nh m < 20 → ∀ u, z_M (z_hold m g.toNatClampNeg p.toNatClampNeg a.toNatClampNeg b.toNatClampNeg) u → z_Fm h u → Q (nI (z_nh m)) u) : wp_X5_hold g p a b h Q := by
  have hnp := hok.1.1
  have hnh := hok.1.2.1
  have hc := z_M_iff.mp hc
  have k00 : ¬ y_holdOk m g p a b → Q (-1) h := fun n => k0 (fun q => n q.1)
  unfold wp_X5_hold
  refine s5_isProgram (fun n => ⟨fun _ => k00 (fun q => n q.1), fun y => absurd rfl y⟩) (fun gg hgg e ha => ⟨fun y => absurd y (by decide), fun _ => ?_⟩)
  refine s5_isPart hok hc.1.1 (fun n => ⟨fun _ => k00 (fun q => n q.2.1), fun y => absurd rfl y⟩) (fun pp hpp e2 hb => ⟨fun y => absurd y (by decide), fun _ => ?_⟩)
  refine ⟨fun z => k00 (fun q => q.2.2.1 z), fun z => ⟨fun z1 => k00 (fun q => q.2.2.2.1 z1), fun z1 => ⟨fun z2 => k00 (fun q => Int32.not_le.mpr z2 q.2.2.2.2), fun z2 => ?_⟩⟩⟩
  have z2 := Int32.not_lt.mp z2
  have ok : y_holdOk m g p a b := ⟨ha, hb, z, z1, z2⟩
  obtain ⟨x, y, rfl, rfl, hxy, hy64⟩ := y_win_nat ⟨z, z1, z2⟩
  have k1 := k1 ok
  subst e; subst e2
  rw [cl (by omega), cl (by omega), cl (by omega), cl (by omega)] at k1
  rw [hc.1.2.1]
  refine ⟨fun y1 => k0 (fun q => ?_), fun y1 => ?_⟩
  · have := (nI_eq (a := z_nh m) (b := 20) (by omega) (by omega)).mp y1
    have := q.2; omega
  have h20 : z_nh m < 20 := by
    have : ¬ z_nh m = 20 := fun q => y1 (by rw [q]; rfl)
    omega
  rw [ix41, ix42, ix43, ix40, cl (show 4 * z_nh m + 0 < 2 ^ 31 by omega), cl (show 4 * z_nh m + 1 < 2 ^ 31 by omega), cl (show 4 * z_nh m + 2 < 2 ^ 31 by omega), cl (show 4 * z_nh m + 3 < 2 ^ 31 by omega), nI_1 (z_nh m), nI_pred]
  refine ⟨vin (by omega) (by omega), vin (by omega) (by omega), vin (by omega) (by omega), vin (by omega) (by omega), ?_⟩
  refine k1 h20 _ (z_M_iff.mpr ?_) (z_Fm_sI (by omega) (z_Fm_sI (by omega) (z_Fm_sI (by omega) (z_Fm_sI (by omega) (z_Fm_sI (by omega) (z_Fm.rf h))))))
  generalize hu : q_sI (q_sI (q_sI (q_sI (q_sI h 24 0 (4 * z_nh m + 0) (nI gg)) 24 0 (4 * z_nh m + 1) (nI pp)) 24 0 (4 * z_nh m + 2) (nI x)) 24 0 (4 * z_nh m + 3) (nI y)) 18 0 1 (nI (z_nh m + 1)) = u
  have gO : ∀ k, k ≠ 18 → k ≠ 24 → u.1 k = h.1 k := by
    intro k h18 h19
    funext i j
    rw [← hu, q_sI_o (by omega), q_sI_o (by omega), q_sI_o (by omega), q_sI_o (by omega), q_sI_o (by omega)]
  have g18 : u.1 18 0 1 = nI (z_nh m + 1) ∧ ∀ j, j ≠ 1 → u.1 18 0 j = h.1 18 0 j := by
    rw [← hu]
    refine ⟨q_sI_r, fun j hj => ?_⟩
    rw [q_sI_o (by omega), q_sI_o (by omega), q_sI_o (by omega), q_sI_o (by omega), q_sI_o (by omega)]
  obtain ⟨⟨d1, d2, d3, d4⟩, d5, d6, d7, d8, d9, d10, d11⟩ := hc
  unfold z_Ml
  rw [gO 19 (by omega) (by omega), gO 20 (by omega) (by omega), gO 21 (by omega) (by omega), gO 22 (by omega) (by omega), gO 23 (by omega) (by omega), gO 25 (by omega) (by omega), g18.2 0 (by omega), g18.2 2 (by omega), g18.2 13 (by omega)]
  refine ⟨⟨d1, g18.1, d3, d4⟩, d5, d6, d7, d8, d9, fun i hi s hs => ?_, d11⟩
  have hi : i < z_nh m + 1 := hi
  show _ = nI (if i = z_nh m then (if s = 0 then gg else if s = 1 then pp else if s = 2 then x else if s = 3 then y else z_ho m i s) else z_ho m i s)
  rw [← hu, q_sI_o (by omega)]
  by_cases e : i = z_nh m
  · subst e
    rw [if_pos rfl]
    match s, hs with
    | 0, _ => rw [q_sI_o (by omega), q_sI_o (by omega), q_sI_o (by omega), q_sI_r]; rfl
    | 1, _ => rw [q_sI_o (by omega), q_sI_o (by omega), q_sI_r]; rfl
    | 2, _ => rw [q_sI_o (by omega), q_sI_r]; rfl
    | 3, _ => rw [q_sI_r]; rfl
    | n + 4, hs => omega
  · rw [if_neg e, q_sI_o (by omega), q_sI_o (by omega), q_sI_o (by omega), q_sI_o (by omega)]
    exact d10 i (by omega) s hs
theorem M_back {m : q_S} {a b : Int32} {h : q_H} {Q : Int32 → q_H → Prop} (hok : z_ok m) (hc : z_M m h) (k0 : ¬ y_backOk m a b → Q 0 h) (k1 : y_backOk m a b → ∀ u, z_M (z_back m a.toNatClampNeg b.toNatClampNeg) u → z_Fm h u → Q 1 u) : wp_X5_back a b h Q := by
  have hnh := hok.1.2.1
  have hc := z_M_iff.mp hc
  unfold wp_X5_back
  rw [hc.1.2.1]
  refine s5_ix (by omega) (fun n => ⟨fun _ => k0 (fun q => n q.1), fun z => absurd rfl z⟩) (fun i hi e ha => ⟨fun z => absurd z (by decide), fun _ => ?_⟩)
  subst e
  obtain ⟨b1, b2, b3, b4⟩ := hok.2.2.2.2.2.2.2.1 i hi
  rw [cl (by omega)] at k1
  have k0' : ¬ (¬ b < nI (z_ho m i 2) ∧ b < nI (z_ho m i 3)) → Q 0 h := fun n => k0 (fun q => n (by have := q.2; rwa [cl (by omega)] at this))
  have bel : ¬ b < nI (z_ho m i 2) → (nI (z_ho m i 3) - 1 < b ↔ nI (z_ho m i 3) ≤ b) := by
    intro hb
    refine nI_below (by omega) b ?_
    intro q
    apply hb
    rw [Int32.lt_iff_toInt_lt] at q ⊢
    rw [nI_toInt (by omega)]
    rw [Int32.toInt_zero] at q
    omega
  rw [ix42, ix43, cl (show 4 * i + 2 < 2 ^ 31 by omega), cl (show 4 * i + 3 < 2 ^ 31 by omega), hc.2.2.2.2.2.2.1 i hi 2 (by omega), hc.2.2.2.2.2.2.1 i hi 3 (by omega)]
  refine ⟨vin (by omega) (by omega), vin (by omega) (by omega), ?_⟩
  refine s5_in (fun n => ⟨fun _ => k0' (fun q => n ⟨q.1, fun y => ?_⟩), fun y => absurd rfl y⟩) (fun z z1 => ⟨fun y => absurd y (by decide), fun _ => ?_⟩)
  · exact Int32.not_le.mpr q.2 ((bel q.1).mp y)
  have z1 : b < nI (z_ho m i 3) := Int32.not_le.mp (fun y => z1 ((bel z).mpr y))
  have ok : y_backOk m (nI i) b := ⟨ha, by rw [cl (by omega)]; exact ⟨z, z1⟩⟩
  have hb : ¬ b < 0 := by
    intro q
    apply z
    rw [Int32.lt_iff_toInt_lt] at q ⊢
    rw [nI_toInt (by omega)]
    rw [Int32.toInt_zero] at q
    omega
  obtain ⟨t, ht, rfl⟩ := nI_of hb
  have k1 := k1 ok
  rw [cl ht] at k1
  refine ⟨vin (by omega) (by omega), ?_⟩
  refine k1 _ (z_M_iff.mpr ?_) (z_Fm_sI (by omega) (z_Fm.rf h))
  have gO : ∀ k, k ≠ 24 → (q_sI h 24 0 (4 * i + 3) (nI t)).1 k = h.1 k := by
    intro k hk
    funext i j
    rw [q_sI_o (by omega)]
  obtain ⟨d1, d5, d6, d7, d8, d9, d10, d11⟩ := hc
  unfold z_Ml
  rw [gO 18 (by omega), gO 19 (by omega), gO 20 (by omega), gO 21 (by omega), gO 22 (by omega), gO 23 (by omega), gO 25 (by omega)]
  refine ⟨d1, d5, d6, d7, d8, d9, fun j hj s hs => ?_, d11⟩
  show _ = nI (if j = i ∧ s = 3 then t else z_ho m j s)
  by_cases e : j = i ∧ s = 3
  · rw [if_pos e, e.1, e.2, q_sI_r]
  · rw [if_neg e, q_sI_o (by omega)]
    exact d10 j hj s hs
theorem M_timer {m : q_S} {g p a b : Int32} {h : q_H} {Q : Int32 → q_H → Prop} (hok : z_ok m) (hc : z_M m h) (k0 : ¬ (y_timerOk m g p a b ∧ z_nt m < 12) → Q (-1) h) (k1 : y_timerOk m g p a b → z_nt m < 12 → ∀ u, z_M (z_timer m g.toNatClampNeg p.toNatClampNeg a.toNatClampNeg b.toNatClampNeg) u → z_Fm h u → Q (nI (z_nt m)) u) : wp_X5_timer g p a b h Q := by
  have hnp := hok.1.1
  have hnt := hok.1.2.2
  have hc := z_M_iff.mp hc
  have k00 : ¬ y_timerOk m g p a b → Q (-1) h := fun n => k0 (fun q => n q.1)
  have key : y_timerOk m g p a b → 0 ≤ a.toInt ∧ a.toInt ≤ b.toInt ∧ b.toInt < 64 := by
    rintro ⟨_, _, h1, h2, h3⟩
    rw [Int32.lt_iff_toInt_lt] at h1 h2 h3
    rw [i_l0] at h1
    rw [i_l64] at h3
    omega
  have n64 : (nI 64).toInt = 64 := nI_toInt (by omega)
  unfold wp_X5_timer
  refine s5_isProgram (fun n => ⟨fun _ => k00 (fun q => n q.1), fun y => absurd rfl y⟩) (fun gg hgg e ha => ⟨fun y => absurd y (by decide), fun _ => ?_⟩)
  refine s5_isPart hok hc.1.1 (fun n => ⟨fun _ => k00 (fun q => n q.2.1), fun y => absurd rfl y⟩) (fun pp hpp e2 hb => ⟨fun y => absurd y (by decide), fun _ => ?_⟩)
  refine s5_isTick (fun n => ⟨fun _ => k00 (fun q => n ?_), fun y => absurd rfl y⟩) (fun x hx e3 ht => ⟨fun y => absurd y (by decide), fun _ => ?_⟩)
  · have := key q
    rw [y_isT, Int32.lt_iff_toInt_lt, Int32.le_iff_toInt_le, i_l0, n64]; omega
  refine s5_isTick (fun n => ⟨fun _ => k00 (fun q => n ?_), fun y => absurd rfl y⟩) (fun y hy e4 ht2 => ⟨fun y => absurd y (by decide), fun _ => ?_⟩)
  · have := key q
    rw [y_isT, Int32.lt_iff_toInt_lt, Int32.le_iff_toInt_le, i_l0, n64]; omega
  refine ⟨fun z1 => k00 (fun q => q.2.2.2.1 z1), fun z1 => ?_⟩
  have ok : y_timerOk m g p a b := by
    refine ⟨ha, hb, ht.1, z1, ?_⟩
    rw [e4]
    exact show nI y < nI 64 from nI_lt hy (by omega)
  have k1 := k1 ok
  subst e; subst e2; subst e3; subst e4
  have hxy : x ≤ y := Nat.le_of_not_lt (fun q => z1 (nI_lt q (by omega)))
  rw [cl (by omega), cl (by omega), cl (by omega), cl (by omega)] at k1
  rw [hc.1.2.2.1]
  refine ⟨fun y1 => k0 (fun q => ?_), fun y1 => ?_⟩
  · have := (nI_eq (a := z_nt m) (b := 12) (by omega) (by omega)).mp y1
    have := q.2; omega
  have h20 : z_nt m < 12 := by
    have : ¬ z_nt m = 12 := fun q => y1 (by rw [q]; rfl)
    omega
  rw [ix41, ix42, ix43, ix40, cl (show 4 * z_nt m + 0 < 2 ^ 31 by omega), cl (show 4 * z_nt m + 1 < 2 ^ 31 by omega), cl (show 4 * z_nt m + 2 < 2 ^ 31 by omega), cl (show 4 * z_nt m + 3 < 2 ^ 31 by omega), nI_1 (z_nt m), nI_pred]
  refine ⟨vin (by omega) (by omega), vin (by omega) (by omega), vin (by omega) (by omega), vin (by omega) (by omega), ?_⟩
  refine k1 h20 _ (z_M_iff.mpr ?_) (z_Fm_sI (by omega) (z_Fm_sI (by omega) (z_Fm_sI (by omega) (z_Fm_sI (by omega) (z_Fm_sI (by omega) (z_Fm.rf h))))))
  generalize hu : q_sI (q_sI (q_sI (q_sI (q_sI h 25 0 (4 * z_nt m + 0) (nI gg)) 25 0 (4 * z_nt m + 1) (nI pp)) 25 0 (4 * z_nt m + 2) (nI x)) 25 0 (4 * z_nt m + 3) (nI y)) 18 0 2 (nI (z_nt m + 1)) = u
  have gO : ∀ k, k ≠ 18 → k ≠ 25 → u.1 k = h.1 k := by
    intro k h18 h19
    funext i j
    rw [← hu, q_sI_o (by omega), q_sI_o (by omega), q_sI_o (by omega), q_sI_o (by omega), q_sI_o (by omega)]
  have g18 : u.1 18 0 2 = nI (z_nt m + 1) ∧ ∀ j, j ≠ 2 → u.1 18 0 j = h.1 18 0 j := by
    rw [← hu]
    refine ⟨q_sI_r, fun j hj => ?_⟩
    rw [q_sI_o (by omega), q_sI_o (by omega), q_sI_o (by omega), q_sI_o (by omega), q_sI_o (by omega)]
  obtain ⟨⟨d1, d2, d3, d4⟩, d5, d6, d7, d8, d9, d10, d11⟩ := hc
  unfold z_Ml
  rw [gO 19 (by omega) (by omega), gO 20 (by omega) (by omega), gO 21 (by omega) (by omega), gO 22 (by omega) (by omega), gO 23 (by omega) (by omega), gO 24 (by omega) (by omega), g18.2 0 (by omega), g18.2 1 (by omega), g18.2 13 (by omega)]
  refine ⟨⟨d1, d2, g18.1, d4⟩, d5, d6, d7, d8, d9, d10, fun i hi s hs => ?_⟩
  have hi : i < z_nt m + 1 := hi
  show _ = nI (if i = z_nt m then (if s = 0 then gg else if s = 1 then pp else if s = 2 then x else if s = 3 then y else z_ti m i s) else z_ti m i s)
  rw [← hu, q_sI_o (by omega)]
  by_cases e : i = z_nt m
  · subst e
    rw [if_pos rfl]
    match s, hs with
    | 0, _ => rw [q_sI_o (by omega), q_sI_o (by omega), q_sI_o (by omega), q_sI_r]; rfl
    | 1, _ => rw [q_sI_o (by omega), q_sI_o (by omega), q_sI_r]; rfl
    | 2, _ => rw [q_sI_o (by omega), q_sI_r]; rfl
    | 3, _ => rw [q_sI_r]; rfl
    | n + 4, hs => omega
  · rw [if_neg e, q_sI_o (by omega), q_sI_o (by omega), q_sI_o (by omega), q_sI_o (by omega)]
    exact d11 i (by omega) s hs
end
section
/-! ===== the reference: blame, order ===== -/
def z_pop (x : Int32) : Nat → Nat := z_sum (fun g => if bt x g = true then 1 else 0)
theorem s5_bits {x : Int32} {h : q_H} {Q : Int32 → q_H → Prop} (k : Q (nI (z_pop x 8)) h) : wp_X5_bits x h Q := by
  unfold wp_X5_bits
  refine pk_loop (σ := Int32 × q_H) (fun n i s => lp_X5_bits_4 x (fun y _ g => Q y g) n s.1 (nI i) s.2) (fun i s => s.2 = h ∧ s.1 = nI (z_pop x i)) 8 0 (0, h) (by omega) ⟨rfl, rfl⟩ ?_ ?_
  · rintro n ⟨y, u⟩ ⟨e, hx⟩
    have e : u = h := e
    subst e
    have hx : y = _ := hx
    subst hx
    unfold lp_X5_bits_4
    exact ⟨fun _ => k, fun z => absurd (show nI 8 ≤ nI 8 from nI_le (by omega) (by omega)) z⟩
  · rintro n i ⟨y, u⟩ hi ⟨e, hx⟩ ih
    have e : u = h := e
    subst e
    have hx : y = _ := hx
    subst hx
    unfold lp_X5_bits_4
    refine ⟨fun z => absurd z (show ¬ nI 8 ≤ nI i from nle hi (by omega)), fun _ => ?_⟩
    rw [nI_1 i]
    refine ih (_, _) ⟨rfl, ?_⟩
    show nI (z_pop x i) + _ = nI (z_pop x i + (if bt x i = true then 1 else 0))
    cases e : bt x i with
    | true => rw [(b_hitS x (by omega)).mpr e, if_pos rfl, nI_1]
    | false => rw [(b_hitS0 x (by omega)).mpr e, if_neg (by decide), Int32.add_zero, Nat.add_zero]
theorem z_pop_B {m : q_S} {lo : Int32} {h : q_H} (hB : z_B m lo h) {p t : Nat} (hp : p < 6) (ht : t < 64) : z_pop (h.1 27 0 (64 * p + t)) 8 = z_sum (fun x => if z_W m lo p x t = true then 1 else 0) 8 := z_sum_congr 8 (fun x hx => by
  show (if _ then 1 else 0) = (if _ then 1 else 0)
  rw [hB p hp t ht x (by omega), decide_eq_true hx, Bool.true_and])
theorem s5_blame8 {m : q_S} {p b : Nat} {h : q_H} {E : Int32 → Int32 → q_H → Prop} (hok : z_ok m) (hN : z_N m (-1) h) (hp : p < 6) (k : ∀ y g, z_K1 h g → E (nI (b + 840 * z_sum (z_ss (z_w m (-1) p) (z_G m p (z_w m (-1) p))) 64)) y g) : ∃ n, lp_X5_blame_31 8 (nI p) E n (nI b) 0 h := by
  refine pk_loop (σ := Int32 × q_H) (fun n i s => lp_X5_blame_31 8 (nI p) E n s.1 (nI i) s.2) (fun i s => z_K1 h s.2 ∧ s.1 = nI (b + 840 * z_sum (z_ss (z_w m (-1) p) (z_G m p (z_w m (-1) p))) i)) 64 0 (nI b, h) (by omega) ⟨z_K1.rf h, rfl⟩ ?_ ?_
  · rintro n ⟨x, u⟩ ⟨e, hx⟩
    have hx : x = _ := hx
    subst hx
    unfold lp_X5_blame_31
    exact ⟨fun _ => k _ u e, fun z => absurd (show nI 64 ≤ nI 64 from nI_le (by omega) (by omega)) z⟩
  · rintro n t ⟨x, u⟩ ht ⟨e, hx⟩ ih
    have e : z_K1 h u := e
    have hx : x = _ := hx
    subst hx
    have hNu := hN.k e
    unfold lp_X5_blame_31
    refine ⟨fun z => absurd z (show ¬ nI 64 ≤ nI t from nle ht (by omega)), fun _ => ⟨?_, fun _ => ?_, fun z => absurd rfl z⟩⟩
    · rw [ix64]; exact vin (by omega) (by omega)
    rw [nI_1 t]
    refine s5_begins hNu hp ht (fun hs => ⟨fun _ => ⟨fun _ => ?_, fun z => absurd (by decide) z⟩, fun z => absurd rfl z⟩) (fun hs v hv h14 h15 => ⟨fun z => absurd z (by decide), fun _ => ?_⟩)
    · refine ih (_, _) ⟨e, ?_⟩
      show nI _ = nI _
      rw [z_ss_no hs]
    · have hlen := z_len_le (z_w m (-1) p) (show t ≤ 64 by omega)
      have hNv := hNu.k hv
      refine s5_choice hNv.1 hok hp ⟨h14, h15⟩ (by omega) (by omega) ?_
      refine s5_costs hNv.1 hok hp (z_best_lt _ _ _ _) ⟨h14, h15⟩ (by omega) (by omega) (fun n => absurd (z_bst_can hok _ _ _ _) n) (fun _ => ?_)
      refine ⟨fun _ => ?_, fun z => absurd (by decide) z⟩
      refine ih (_, _) ⟨e.tr hv, ?_⟩
      show nI _ + nI 840 * nI (z_G m p (z_w m (-1) p) t) = nI _
      rw [pk_mul, nI_add, z_ss_st hs, Nat.mul_add, Nat.add_assoc]
theorem s5_blameG {m : q_S} {p b g : Nat} {h : q_H} {E : Int32 → Int32 → q_H → Prop} (hok : z_ok m) (hN : z_N m (-1) h) (hp : p < 6) (hg : g < 8) (k : ∀ y, E (nI (b + z_sum (z_shr m p g) 64 * z_dr m p 0)) y h) : ∃ n, lp_X5_blame_31 (nI g) (nI p) E n (nI b) 0 h := by
  have hg8 : ¬ nI g = 8 := fun q => by have := (nI_eq (b := 8) (by omega) (by omega)).mp q; omega
  have hg8' : ¬ (8 : Int32) ≤ nI g := show ¬ nI 8 ≤ nI g from nle hg (by omega)
  refine pk_loop (σ := Int32 × q_H) (fun n i s => lp_X5_blame_31 (nI g) (nI p) E n s.1 (nI i) s.2) (fun i s => s.2 = h ∧ s.1 = nI (b + z_sum (z_shr m p g) i * z_dr m p 0)) 64 0 (nI b, h) (by omega) ⟨rfl, by show nI b = nI (b + 0 * _); rw [Nat.zero_mul]; rfl⟩ ?_ ?_
  · rintro n ⟨x, u⟩ ⟨e, hx⟩
    have e : u = h := e
    subst e
    have hx : x = _ := hx
    subst hx
    unfold lp_X5_blame_31
    exact ⟨fun _ => k _, fun z => absurd (show nI 64 ≤ nI 64 from nI_le (by omega) (by omega)) z⟩
  · rintro n t ⟨x, u⟩ ht ⟨e, hx⟩ ih
    have e : u = h := e
    subst e
    have hx : x = _ := hx
    subst hx
    have hB := hN.2 p hp t ht g (by omega)
    rw [decide_eq_true hg, Bool.true_and] at hB
    unfold lp_X5_blame_31
    refine ⟨fun z => absurd z (show ¬ nI 64 ≤ nI t from nle ht (by omega)), fun _ => ⟨?_, fun z => absurd z hg8, fun _ => ⟨fun z => absurd z hg8', fun _ => ⟨fun z => ?_, fun z => ?_⟩⟩⟩⟩
    · rw [ix64]; exact vin (by omega) (by omega)
    · dsimp only at z ⊢
      rw [ix64, cl (show 64 * p + t < 2 ^ 31 by omega)] at z ⊢
      have hf : z_W m (-1) p g t = true := by rw [← hB]; exact (b_hitS _ (by omega)).mp z
      refine s5_bits ?_
      rw [z_pop_B hN.2 hp ht]
      have hpos : 1 ≤ z_sum (fun x => if z_W m (-1) p x t = true then 1 else 0) 8 := by
        have := z_sum_lt (f := fun _ => 0) (g := fun x => if z_W m (-1) p x t = true then 1 else 0) (j := g) 8 (fun i _ => Nat.zero_le _) hg (by simp [hf])
        have e0 : z_sum (fun _ => 0) 8 = 0 := rfl
        omega
      have hle : z_sum (fun x => if z_W m (-1) p x t = true then 1 else 0) 8 ≤ 8 * 1 := z_sum_le (fun i => by show (if _ then 1 else 0) ≤ 1; split <;> omega) 8
      refine ⟨nI_ne0 (by omega) (by omega), ?_, ?_⟩
      · rw [ix40]; exact vin (by omega) (by omega)
      rw [ix40, cl (show 4 * p + 0 < 2 ^ 31 by omega), hN.1.2.1 p hp 0 (by omega), show (840 : Int32) = nI 840 from rfl, pk_div (by omega) (by omega) (by omega), pk_mul, nI_add, nI_1 t]
      refine ih (_, _) ⟨rfl, ?_⟩
      show nI _ = nI (b + (z_sum (z_shr m p g) t + z_shr m p g t) * z_dr m p 0)
      rw [show z_shr m p g t = 840 / z_sum (fun x => if z_W m (-1) p x t = true then 1 else 0) 8 from if_pos hf, Nat.add_mul, Nat.add_assoc]
    · dsimp only at z ⊢
      rw [ix64, cl (show 64 * p + t < 2 ^ 31 by omega)] at z
      have hf : z_W m (-1) p g t = false := by rw [← hB]; exact ts_nt (fun q => z ((b_hitS _ (by omega)).mpr q))
      rw [nI_1 t]
      refine ih (_, _) ⟨rfl, ?_⟩
      show nI _ = nI (b + (z_sum (z_shr m p g) t + z_shr m p g t) * z_dr m p 0)
      rw [show z_shr m p g t = 0 from if_neg (by rw [hf]; decide), Nat.add_zero]
theorem M_blame {m : q_S} {a : Int32} {h : q_H} {Q : Int32 → q_H → Prop} (hok : z_ok m) (hc : z_M m h) (k : ∀ g, z_K h g → Q (v_blame m a) g) : wp_X5_blame a h Q := by
  have hnp := hok.1.1
  have hc := z_M_iff.mp hc
  unfold wp_X5_blame v_blame at *
  refine s5_ix (n := 9) (by omega) (fun n => ⟨fun _ => ?_, fun z => absurd rfl z⟩) (fun g hg e ha => ⟨fun z => absurd z (by decide), fun _ => ?_⟩)
  · have kk := k h (z_K.rf h)
    rw [if_neg (fun q => n (by rw [q]; exact y_of (j := 8) (by omega) (by omega))), if_neg (fun q => ?_)] at kk
    · exact kk
    · obtain ⟨j, hj, e⟩ := y_in (by omega) q
      exact n (by rw [e]; exact y_of (by omega) (by omega))
  subst e
  refine s5_wants hok hc (fun u hu hB => ?_)
  have hN : z_N m (-1) u := ⟨hu.M hc, hB⟩
  by_cases e8 : g = 8
  · subst e8
    have k : ∀ g, z_K h g → Q (nI (z_sum (fun p => 840 * z_sum (z_ss (z_w m (-1) p) (z_G m p (z_w m (-1) p))) 64) (z_np m))) g := fun g hg => by
      have := k g hg
      rw [if_pos (show nI 8 = 8 from rfl)] at this
      exact this
    refine pk_loop (σ := Int32 × q_H) (fun n i s => lp_X5_blame_20 8 (fun x _ g => Q x g) n s.1 (nI i) s.2) (fun i s => z_K1 u s.2 ∧ s.1 = nI (z_sum (fun p => 840 * z_sum (z_ss (z_w m (-1) p) (z_G m p (z_w m (-1) p))) 64) i)) (z_np m) 0 (0, u) (by omega) ⟨z_K1.rf u, rfl⟩ ?_ ?_
    · rintro n ⟨x, v⟩ ⟨e, hx⟩
      have e : z_K1 u v := e
      have hx : x = _ := hx
      subst hx
      unfold lp_X5_blame_20
      dsimp only
      rw [(hN.k e).1.1.1]
      exact ⟨fun _ => k v (hu.tr e.K), fun z => absurd (nI_le (Nat.le_refl _) (by omega)) z⟩
    · rintro n i ⟨x, v⟩ hi ⟨e, hx⟩ ih
      have e : z_K1 u v := e
      have hx : x = _ := hx
      subst hx
      unfold lp_X5_blame_20
      dsimp only
      rw [(hN.k e).1.1.1]
      refine ⟨fun z => absurd z (nle hi (by omega)), fun _ => ?_⟩
      refine s5_blame8 hok (hN.k e) (by omega) (fun y w hw => ?_)
      rw [nI_1 i]
      exact ih (_, _) ⟨e.tr hw, rfl⟩
  · have hg8 : ¬ nI g = 8 := fun q => by have := (nI_eq (b := 8) (by omega) (by omega)).mp q; omega
    have kk := k u hu
    rw [if_neg hg8, if_pos (y_of (by omega) (by omega)), cl (by omega)] at kk
    refine pk_loop (σ := Int32 × q_H) (fun n i s => lp_X5_blame_20 (nI g) (fun x _ g => Q x g) n s.1 (nI i) s.2) (fun i s => s.2 = u ∧ s.1 = nI (z_sum (fun p => z_sum (z_shr m p g) 64 * z_dr m p 0) i)) (z_np m) 0 (0, u) (by omega) ⟨rfl, rfl⟩ ?_ ?_
    · rintro n ⟨x, v⟩ ⟨e, hx⟩
      have e : v = u := e
      subst e
      have hx : x = _ := hx
      subst hx
      unfold lp_X5_blame_20
      dsimp only
      rw [hN.1.1.1]
      exact ⟨fun _ => kk, fun z => absurd (nI_le (Nat.le_refl _) (by omega)) z⟩
    · rintro n i ⟨x, v⟩ hi ⟨e, hx⟩ ih
      have e : v = u := e
      subst e
      have hx : x = _ := hx
      subst hx
      unfold lp_X5_blame_20
      dsimp only
      rw [hN.1.1.1]
      refine ⟨fun z => absurd z (nle hi (by omega)), fun _ => ?_⟩
      refine s5_blameG hok hN (by omega) (by omega) (fun y => ?_)
      rw [nI_1 i]
      exact ih (_, _) ⟨rfl, rfl⟩
theorem s5_isFirst {m : q_S} {lo : Int32} {S : Nat → Bool} {x : Int32} {p : Nat} {h : q_H} {Q : Int32 → q_H → Prop} (hok : z_ok m) (hc : z_Ml m lo h) (hx : z_set S x) (hp : p < 6) (k : Q (bI (z_free (z_nd m) S p)) h) : wp_X5_isFirst (nI p) x h Q := by
  have hnp := hok.1.1
  have hnn := hok.2.2.2.2.2.2.1.1
  have hxb : ∀ q, q < 6 → bt x q = S q := fun q hq => by rw [hx q (by omega), decide_eq_true hq, Bool.true_and]
  unfold wp_X5_isFirst
  unfold z_free at k
  refine ⟨fun z => ?_, fun z => ?_⟩
  · have hs : S p = false := by rw [← hxb p hp]; exact (b_hitS0 x (by omega)).mp z
    rw [hs, Bool.false_and] at k
    exact k
  · have hs : S p = true := by rw [← hxb p hp]; exact ts_nf (fun q => z ((b_hitS0 x (by omega)).mpr q))
    rw [hs, Bool.true_and] at k
    refine pk_loop (σ := Int32 × q_H) (fun n i s => lp_X5_isFirst_15 (nI p) x (fun y _ g => (y = 0 ∨ y = 1) ∧ Q y g) n s.1 (nI i) s.2) (fun i s => s.2 = h ∧ s.1 = bI (!(List.range i).any (fun q => z_nd m p q && S q))) (z_np m) 0 (1, h) (by omega) ⟨rfl, rfl⟩ ?_ ?_
    · rintro n ⟨y, u⟩ ⟨e, hy⟩
      have e : u = h := e
      subst e
      have hy : y = _ := hy
      subst hy
      unfold lp_X5_isFirst_15
      rw [hc.1.1]
      refine ⟨fun _ => ⟨bI_v _, ?_⟩, fun z => absurd (nI_le (Nat.le_refl _) (by omega)) z⟩
      have : (List.range (z_np m)).any (fun q => z_nd m p q && S q) = (List.range 6).any (fun q => z_nd m p q && S q) := by
        apply z_beq
        rw [z_any, z_any]
        constructor
        · rintro ⟨q, h1, h2⟩; exact ⟨q, by omega, h2⟩
        · rintro ⟨q, h1, h2⟩; exact ⟨q, (hnn p q (Bool.and_eq_true_iff.mp h2).1).2, h2⟩
      rw [this]
      exact k
    · rintro n i ⟨y, u⟩ hi ⟨e, hy⟩ ih
      have e : u = h := e
      subst e
      have hy : y = bI (!(List.range i).any (fun q => z_nd m p q && S q)) := hy
      have hstep : (List.range (i + 1)).any (fun q => z_nd m p q && S q) = ((List.range i).any (fun q => z_nd m p q && S q) || (z_nd m p i && S i)) := any_succ i _
      unfold lp_X5_isFirst_15
      dsimp only
      rw [hc.1.1, ix6, cl (show 6 * p + i < 2 ^ 31 by omega), nI_1 i, hc.2.2.2.2.2.1 p hp i (by omega)]
      refine ⟨fun z => absurd z (nle hi (by omega)), fun _ => ⟨fun z => ?_, fun z => ⟨vin (by omega) (by omega), fun z1 => ?_, fun z1 => ⟨fun z2 => ?_, fun z2 => ?_⟩⟩⟩⟩
      all_goals refine ih (_, _) ⟨rfl, ?_⟩
      all_goals rw [hstep]
      all_goals show (_ : Int32) = _
      · have e1 : (!(List.range i).any (fun q => z_nd m p q && S q)) = false := bI_0.mp (hy.symm.trans z)
        rw [Bool.not_eq_false'] at e1
        rw [e1]; rfl
      all_goals
        have e1 : (!(List.range i).any (fun q => z_nd m p q && S q)) = true := ts_nf (fun q => z (hy.trans (by rw [q]; rfl)))
        rw [Bool.not_eq_true'] at e1
        rw [e1]
      · have hn : z_nd m p i = false := by
          cases e : z_nd m p i with
          | false => rfl
          | true => rw [e] at z1; exact absurd z1 (by decide)
        rw [hn]; rfl
      · have hn : z_nd m p i = true := by
          cases e : z_nd m p i with
          | true => rfl
          | false => rw [e] at z1; exact absurd rfl z1
        have hsi : S i = true := by rw [← hxb i (by omega)]; exact (b_hitS x (by omega)).mp z2
        rw [hn, hsi]; rfl
      · have hsi : S i = false := by rw [← hxb i (by omega)]; exact ts_nt (fun q => z2 ((b_hitS x (by omega)).mpr q))
        rw [hsi, Bool.and_false]; rfl
theorem z_num_le (f : Nat → Bool) : z_num f ≤ 6 := by
  have c : ∀ b : Bool, (if b = true then 1 else 0) ≤ 1 := by intro b; cases b <;> decide
  have c0 := c (f 0); have c1 := c (f 1); have c2 := c (f 2); have c3 := c (f 3); have c4 := c (f 4); have c5 := c (f 5)
  unfold z_num
  omega
theorem z_num_0 {S : Nat → Bool} (h : z_num S = 0) : z_some S = false := by
  refine ts_nt (fun q => ?_)
  obtain ⟨p, hp, hs⟩ := z_any.mp q
  have := z_num_lt (f := fun _ => false) (g := S) (fun _ _ h => by cases h) hp rfl hs
  omega
theorem M_order {m : q_S} {a b : Int32} {h : q_H} {Q : Int32 → q_H → Prop} (hok : z_ok m) (hc : z_M m h) (k : ∀ g, z_K h g → Q (v_order m a b) g) : wp_X5_order a b h Q := by
  have hnp := hok.1.1
  have hc := z_M_iff.mp hc
  unfold wp_X5_order v_order at *
  refine s5_isTick (fun n => ⟨fun _ => ?_, fun z => absurd rfl z⟩) (fun t ht e ha => ⟨fun z => absurd z (by decide), fun _ => ⟨fun z => ?_, fun z => ?_⟩⟩)
  · have := k h (z_K.rf h); rw [if_neg (fun q => n q.1)] at this; exact this
  · have hn : ¬ b < 0 := by
      rw [Int32.lt_iff_toInt_lt]
      have := Int32.le_iff_toInt_le.mp z
      omega
    obtain ⟨i, hi, e2⟩ := nI_of hn
    rw [if_pos ⟨ha, hn⟩] at k
    subst e; subst e2
    rw [cl (by omega), cl hi] at k
    refine s5_wants hok hc (fun u hu hB => ?_)
    have hN : z_N m (-1) u := ⟨hu.M hc, hB⟩
    have kk := k u hu
    refine pk_loop (σ := Int32 × q_H) (fun f n s => lp_X5_order_22 (nI t) (nI i) _ f s.1 (nI n) s.2) (fun p s => s.2 = u ∧ ∀ q, q < 32 → bt s.1 q = (decide (q < p) && z_up m t q)) (z_np m) 0 (0, u) (by omega) ⟨rfl, fun q _ => by rw [b_0, decide_eq_false (by omega), Bool.false_and]⟩ ?_ ?_
    · rintro n0 ⟨x, v⟩ ⟨e, hx⟩
      have e : v = u := e
      subst e
      have hx : ∀ q, q < 32 → bt x q = (decide (q < z_np m) && z_up m t q) := hx
      unfold lp_X5_order_22
      rw [hN.1.1.1]
      refine ⟨fun _ => ?_, fun z => absurd (nI_le (Nat.le_refl _) (by omega)) z⟩
      have hxs : z_set (z_up m t) x := by
        intro q hq
        rw [hx q hq]
        unfold z_up
        by_cases e : q < z_np m
        · rw [decide_eq_true e, decide_eq_true (show q < 6 by omega)]
        · rw [decide_eq_false e, Bool.false_and, Bool.false_and, Bool.and_false]
      refine pk_loop (σ := Int32 × q_H) (fun f n s => lp_X5_order_73 (nI i) Q (fun _ _ g => Q (-1) g) f s.1 (nI n) s.2) (fun n s => s.2 = v ∧ n ≤ i ∧ ∃ S, z_set S s.1 ∧ z_num S + n ≤ 6 ∧ z_ordv (z_nd m) 6 (z_up m t) i = z_ordv (z_nd m) (6 - n) S (i - n)) 6 0 (x, v) (by omega) ⟨rfl, Nat.zero_le _, z_up m t, hxs, by have := z_num_le (z_up m t); omega, rfl⟩ ?_ ?_
      · rintro n ⟨y, g⟩ ⟨e, h1, S, hS, hnum, he⟩
        have e : g = v := e
        subst e
        unfold lp_X5_order_73
        refine ⟨fun _ => ?_, fun z => absurd ((z_set_0 hS).mpr (z_num_0 (by omega))) z⟩
        rw [he] at kk
        exact kk
      · rintro f n ⟨y, g⟩ hn6 ⟨e, h1, S, hS, hnum, he⟩ ih
        have e : g = v := e
        subst e
        have hS : z_set S y := hS
        unfold lp_X5_order_73
        rw [show 6 - n = (6 - (n + 1)) + 1 by omega] at he
        refine ⟨fun z1 => ?_, fun z1 => ?_⟩
        · have e0 := (z_set_0 hS).mp z1
          have he : _ = (if z_some S = true then _ else _) := he
          rw [e0] at he
          rw [he] at kk
          exact kk
        · have e0 : z_some S = true := ts_nf (fun q => z1 ((z_set_0 hS).mpr q))
          obtain ⟨r1, r2, r3⟩ := z_rdy_ok hok.2.2.2.2.2.2.1.2 e0
          have hSr : S (z_rdy (z_nd m) S) = true := by
            unfold z_free at r2
            exact (Bool.and_eq_true_iff.mp r2).1
          have he : z_ordv (z_nd m) 6 (z_up m t) i = (if z_some S = true then (if i - n = 0 then nI (z_rdy (z_nd m) S) else z_ordv (z_nd m) (6 - (n + 1)) (z_off S (z_rdy (z_nd m) S)) (i - n - 1)) else -1) := he
          rw [if_pos e0] at he
          have hnum2 : z_num (z_off S (z_rdy (z_nd m) S)) + 1 ≤ z_num S := z_num_lt (f := z_off S (z_rdy (z_nd m) S)) (g := S) (fun p _ h => (Bool.and_eq_true_iff.mp h).1) r1 (by unfold z_off; rw [decide_eq_true rfl]; simp) hSr
          have fin : (nI n = nI i → Q (nI (z_rdy (z_nd m) S)) g) ∧ (¬ nI n = nI i → lp_X5_order_73 (nI i) Q (fun _ _ g => Q (-1) g) f (y &&& (((1 : Int32) <<< (nI (z_rdy (z_nd m) S) &&& 31)) ^^^ (-1))) (nI n + 1) g) := by
            refine ⟨fun z2 => ?_, fun z2 => ?_⟩
            · have := (nI_eq (by omega) hi).mp z2
              rw [if_pos (by omega)] at he
              rw [he] at kk
              exact kk
            · have : n ≠ i := fun q => z2 (by rw [q])
              rw [if_neg (by omega)] at he
              rw [nI_1 n]
              exact ih (_, _) ⟨rfl, by omega, _, z_set_off hS r1, by omega, by rw [he, show i - n - 1 = i - (n + 1) by omega]⟩
          refine pk_loop (σ := q_H) (fun f2 p s => lp_X5_order_80 (nI i) y (nI n) _ f2 (nI p) s) (fun p s => s = g) (z_rdy (z_nd m) S) 0 g (Nat.zero_le _) rfl ?_ ?_
          · rintro f2 s rfl
            unfold lp_X5_order_80
            refine s5_isFirst hok hN.1 hS r1 ?_
            rw [r2]
            exact ⟨fun z => absurd z (by decide), fun _ => fin⟩
          · rintro f2 p s hp rfl ih2
            unfold lp_X5_order_80
            refine s5_isFirst hok hN.1 hS (by omega) ?_
            rw [r3 p hp, nI_1 p]
            exact ⟨fun _ => ih2 _ rfl, fun z => absurd rfl z⟩
    · rintro n0 p ⟨x, v⟩ hp ⟨e, hx⟩ ih
      have e : v = u := e
      subst e
      have hx : ∀ q, q < 32 → bt x q = (decide (q < p) && z_up m t q) := hx
      have keep : z_up m t p = false → ∀ q, q < 32 → bt x q = (decide (q < p + 1) && z_up m t q) := by
        intro hf q hq
        rw [hx q hq]
        by_cases e : q = p
        · rw [e, hf, Bool.and_false, Bool.and_false]
        · rw [show decide (q < p + 1) = decide (q < p) from decide_eq_decide.mpr (by omega)]
      have add : z_up m t p = true → ∀ q, q < 32 → bt (x ||| ((1 : Int32) <<< (nI p &&& 31))) q = (decide (q < p + 1) && z_up m t q) := by
        intro hf q hq
        rw [b_or, hx q hq, b_one (by omega) hq]
        by_cases e : q = p
        · rw [e, hf, decide_eq_true (show p < p + 1 by omega), decide_eq_true rfl, Bool.or_true]; rfl
        · rw [show decide (q < p + 1) = decide (q < p) from decide_eq_decide.mpr (by omega), decide_eq_false e, Bool.or_false]
      unfold lp_X5_order_22
      rw [hN.1.1.1]
      refine ⟨fun z => absurd z (nle hp (by omega)), fun _ => ?_⟩
      refine s5_isWanted hB (by omega) ht ?_
      rw [nI_1 p]
      cases hw : z_w m (-1) p t with
      | false =>
        refine ⟨fun _ => ih (_, _) ⟨rfl, keep ?_⟩, fun z => absurd rfl z⟩
        unfold z_up; rw [hw, Bool.false_and, Bool.and_false]
      | true =>
        refine ⟨fun z => absurd z (by decide), fun _ => ⟨fun z => ?_, fun z => ?_⟩⟩
        · have : t = 0 := (nI_eq (b := 0) (by omega) (by omega)).mp z
          refine ih (_, _) ⟨rfl, add ?_⟩
          unfold z_up; rw [hw, decide_eq_true hp, this]; rfl
        · obtain ⟨t', rfl⟩ : ∃ t', t = t' + 1 := by
            cases t with
            | zero => exact absurd rfl z
            | succ t' => exact ⟨t', rfl⟩
          rw [nI_pred]
          refine s5_isWanted hB (by omega) (by omega) ?_
          cases hw1 : z_w m (-1) p t' with
          | false =>
            refine ⟨fun _ => ih (_, _) ⟨rfl, add ?_⟩, fun z => absurd rfl z⟩
            unfold z_up; rw [hw, decide_eq_true hp, show t' + 1 - 1 = t' by omega, hw1, Bool.and_false]; rfl
          | true =>
            refine ⟨fun z => absurd z (by decide), fun _ => ih (_, _) ⟨rfl, keep ?_⟩⟩
            unfold z_up; rw [hw, show t' + 1 - 1 = t' by omega, hw1, decide_eq_true (show 0 < t' + 1 by omega), Bool.and_true, Bool.not_true, Bool.and_false, Bool.and_false]
  · have hn : b < 0 := by
      rw [Int32.lt_iff_toInt_lt]
      have : ¬ _ := fun q => z (Int32.le_iff_toInt_le.mpr q)
      omega
    have := k h (z_K.rf h)
    rw [if_neg (fun q => q.2 hn)] at this
    exact this
end
section
/-! ===== learn: the best thresholds, as numbers ===== -/
/-- what the spans of the row w drain by thresholds a, b, c -/
def z_ST (m : q_S) (p : Nat) (w : Nat → Bool) (a b c : Nat) : Nat := z_sum (z_ss w (z_R m p a b c w)) 64
def z_key (S a b c : Nat) : Nat := S * 274625 + a * 4225 + b * 65 + c
def z_opt (m : q_S) (p : Nat) (w : Nat → Bool) (a b c : Nat) : Prop := a ≤ b ∧ b ≤ c ∧ c ≤ 64 ∧ ∀ x y z, x ≤ y → y ≤ z → z ≤ 64 → z_key (z_ST m p w a b c) a b c ≤ z_key (z_ST m p w x y z) x y z
theorem z_opt_uniq {m : q_S} {p : Nat} {w : Nat → Bool} {a b c a' b' c' : Nat} (h : z_opt m p w a b c) (h' : z_opt m p w a' b' c') : a = a' ∧ b = b' ∧ c = c' := by
  obtain ⟨h1, h2, h3, h4⟩ := h
  obtain ⟨g1, g2, g3, g4⟩ := h'
  have k1 := h4 a' b' c' g1 g2 g3
  have k2 := g4 a b c h1 h2 h3
  unfold z_key at k1 k2
  generalize z_ST m p w a b c = S at *
  generalize z_ST m p w a' b' c' = S' at *
  have e1 : S = S' := by omega
  have e2 : a = a' := by omega
  have e3 : b = b' := by omega
  exact ⟨e2, e3, by omega⟩
theorem z_ST_le {m : q_S} (hok : z_ok m) (p : Nat) (w : Nat → Bool) (a b c : Nat) : z_ST m p w a b c ≤ 526464 := z_ss_le (w := w) (z_R_le hok p a b c w) 64 (Nat.le_refl _)
theorem z_ah_of {a b c a' b' c' r : Nat} (h : 0 < r → z_rs a b c (r - 1) = z_rs a' b' c' (r - 1)) : z_ah a b c r = z_ah a' b' c' r := by
  unfold z_ah
  by_cases e : r = 0
  · rw [if_pos e, if_pos e]
  · rw [if_neg e, if_neg e, h (by omega)]
/-- R is the latest place at which it can rise -/
def z_late (m : q_S) (p a b c len R : Nat) : Prop := R + z_ri m p (z_ah a b c R) ≤ len ∧ ∀ r, R < r → r ≤ len → len < r + z_ri m p (z_ah a b c r)
theorem z_late_eq {m : q_S} {p a b c a' b' c' len R R' : Nat} (h : z_late m p a b c len R) (h' : z_late m p a' b' c' len R') (e : z_ah a b c R = z_ah a' b' c' R) (e' : z_ah a b c R' = z_ah a' b' c' R') : R = R' := by
  obtain ⟨h1, h2⟩ := h
  obtain ⟨g1, g2⟩ := h'
  rcases Nat.lt_trichotomy R R' with q | q | q
  · have := h2 R' q (by omega)
    rw [e'] at this
    omega
  · exact q
  · have := g2 R q (by omega)
    rw [← e] at this
    omega
theorem z_rspan_eq {m : q_S} (hok : z_ok m) {p a b c a' b' c' len : Nat} {last : Bool} (hab : a ≤ b) (hbc : b ≤ c) (hc : c ≤ 64) (hab' : a' ≤ b') (hbc' : b' ≤ c') (hc' : c' ≤ 64) (hl : len ≤ 64) (h : ∀ i, i < len → z_rs a b c i = z_rs a' b' c' i) : z_rspan m p a b c len last = z_rspan m p a' b' c' len last := by
  have hah : ∀ r, r ≤ len → z_ah a b c r = z_ah a' b' c' r := fun r hr => z_ah_of (fun h0 => h _ (by omega))
  have hr : z_rest m p a b c len last = z_rest m p a' b' c' len last := by
    cases last with
    | true => rfl
    | false => exact z_late_eq (z_rest_ok hok hab hbc hc hl) (z_rest_ok hok hab' hbc' hc' hl) (hah _ (z_rest_le _ _ _ _ _ _ _)) (hah _ (z_rest_le _ _ _ _ _ _ _))
  have hle := z_rest_le m p a' b' c' len last
  unfold z_rspan
  rw [hr, hah _ hle]
  congr 1
  refine z_sum_congr len (fun i hi => ?_)
  show z_dr m p (if i < _ then _ else 0) = z_dr m p (if i < _ then _ else 0)
  rw [h i hi]
/-- thresholds above the longest span do as its length does -/
theorem z_rs_clamp {a b c L i : Nat} (hi : i < L) : z_rs (min a L) (min b L) (min c L) i = z_rs a b c i := by
  unfold z_rs
  repeat' split
  all_goals omega
def z_cap (w : Nat → Bool) (L : Nat) : Prop := ∀ s, s < 64 → z_st w s = true → z_len w s ≤ L
theorem z_ST_clamp {m : q_S} (hok : z_ok m) {p a b c L : Nat} {w : Nat → Bool} (hL : L ≤ 64) (hcap : z_cap w L) (hab : a ≤ b) (hbc : b ≤ c) (hc : c ≤ 64) : z_ST m p w (min a L) (min b L) (min c L) = z_ST m p w a b c := by
  refine z_sum_congr 64 (fun s hs => ?_)
  show (if z_st w s = true then _ else 0) = (if z_st w s = true then _ else 0)
  by_cases e : z_st w s = true
  · rw [if_pos e, if_pos e]
    have h1 := hcap s hs e
    exact z_rspan_eq hok (by omega) (by omega) (by omega) hab hbc hc (by omega) (fun i hi => z_rs_clamp (by omega))
  · rw [if_neg e, if_neg e]
theorem z_sum4 {f g f' g' : Nat → Nat} : ∀ n, (∀ i, i < n → f i + g i = f' i + g' i) → z_sum f n + z_sum g n = z_sum f' n + z_sum g' n
  | 0, _ => rfl
  | n + 1, h => by
    have h1 := z_sum4 n (fun i hi => h i (by omega))
    have h2 := h n (by omega)
    show z_sum f n + f n + (z_sum g n + g n) = z_sum f' n + f' n + (z_sum g' n + g' n)
    omega
theorem z_rs_lo {a b c c' i : Nat} (h : i < b) : z_rs a b c i = z_rs a b c' i := by
  unfold z_rs
  by_cases e : i < a
  · rw [if_pos e, if_pos e]
  · rw [if_neg e, if_neg e, if_pos h, if_pos h]
theorem z_rs_hi {a b c i : Nat} (hab : a ≤ b) (h : b ≤ i) : z_rs a b c i = z_rs 0 b c i := by
  unfold z_rs
  rw [if_neg (show ¬ i < a by omega), if_neg (show ¬ i < 0 by omega)]
theorem z_rs_2 {a b c : Nat} (hab : a ≤ b) (h : b < c) : z_rs a b c b = 2 := by
  unfold z_rs
  rw [if_neg (by omega), if_neg (by omega), if_pos h]
/-- if SLEEP comes at all, a span gets as far as SLEEP or not by its own threshold alone -/
theorem z_R_short {m : q_S} (hok : z_ok m) {p a b c len R : Nat} (hab : a ≤ b) (hR : z_late m p a b c len R) (h : len ≤ b + z_ri m p 2) : R ≤ b := by
  apply Classical.byContradiction
  intro hn
  obtain ⟨_, r0, r12, r23, _⟩ := hok.2.2.2.2.1 p
  obtain ⟨h1, _⟩ := hR
  have e : z_ah a b c R = 2 ∨ z_ah a b c R = 3 := by
    unfold z_ah z_rs
    rw [if_neg (show ¬ R = 0 by omega), if_neg (show ¬ R - 1 < a by omega), if_neg (show ¬ R - 1 < b by omega)]
    split
    · exact Or.inl rfl
    · exact Or.inr rfl
  rcases e with e | e <;> rw [e] at h1 <;> omega
theorem z_R_long {m : q_S} {p a b c len R : Nat} (hab : a ≤ b) (hbc : b < c) (hR : z_late m p a b c len R) (h : b + z_ri m p 2 < len) : b + 1 ≤ R := by
  apply Classical.byContradiction
  intro hn
  have h2 := hR.2 (b + 1) (by omega) (by omega)
  have e : z_ah a b c (b + 1) = 2 := by
    unfold z_ah
    rw [if_neg (by omega)]
    exact z_rs_2 hab hbc
  rw [e] at h2
  omega
theorem z_rspan_cross {m : q_S} (hok : z_ok m) {p a b c c' len : Nat} {last : Bool} (hab : a ≤ b) (hbc : b < c) (hc : c ≤ 64) (hbc' : b < c') (hc' : c' ≤ 64) (hl : len ≤ 64) : z_rspan m p a b c len last + z_rspan m p 0 b c' len last = z_rspan m p a b c' len last + z_rspan m p 0 b c len last := by
  -- the sums, told the rests
  have sums : ∀ R R', (∀ i, i < b → i < len → (i < R ↔ i < R')) → z_rsum m p a b c R len + z_rsum m p 0 b c' R' len = z_rsum m p a b c' R' len + z_rsum m p 0 b c R len := by
    intro R R' hRR
    refine z_sum4 len (fun i hi => ?_)
    show z_dr m p (if i < R then z_rs a b c i else 0) + z_dr m p (if i < R' then z_rs 0 b c' i else 0) = z_dr m p (if i < R' then z_rs a b c' i else 0) + z_dr m p (if i < R then z_rs 0 b c i else 0)
    by_cases e : i < b
    · rw [z_rs_lo (a := a) (c' := c) (c := c') e, z_rs_lo (a := 0) (c' := c) (c := c') e]
      by_cases e1 : i < R
      · rw [if_pos e1, if_pos ((hRR i e hi).mp e1), if_pos e1, if_pos ((hRR i e hi).mp e1)]
      · rw [if_neg e1, if_neg (fun q => e1 ((hRR i e hi).mpr q)), if_neg e1, if_neg (fun q => e1 ((hRR i e hi).mpr q))]
    · rw [z_rs_hi (c := c) hab (show b ≤ i by omega), z_rs_hi (c := c') hab (show b ≤ i by omega), Nat.add_comm]
  cases last with
  | true =>
    have := sums len len (fun i _ _ => Iff.rfl)
    unfold z_rspan
    show z_rsum m p a b c len len + 0 + (z_rsum m p 0 b c' len len + 0) = z_rsum m p a b c' len len + 0 + (z_rsum m p 0 b c len len + 0)
    omega
  | false =>
    have o1 : z_late m p a b c len (z_rest m p a b c len false) := z_rest_ok hok hab (by omega) hc hl
    have o2 : z_late m p a b c' len (z_rest m p a b c' len false) := z_rest_ok hok hab (by omega) hc' hl
    have o3 : z_late m p 0 b c len (z_rest m p 0 b c len false) := z_rest_ok hok (by omega) (by omega) hc hl
    have o4 : z_late m p 0 b c' len (z_rest m p 0 b c' len false) := z_rest_ok hok (by omega) (by omega) hc' hl
    unfold z_rspan
    rw [if_neg (by decide), if_neg (by decide), if_neg (by decide), if_neg (by decide)]
    generalize z_rest m p a b c len false = R1 at *
    generalize z_rest m p a b c' len false = R2 at *
    generalize z_rest m p 0 b c len false = R3 at *
    generalize z_rest m p 0 b c' len false = R4 at *
    by_cases hs : b + z_ri m p 2 < len
    · have l1 := z_R_long hab hbc o1 hs
      have l2 := z_R_long hab hbc' o2 hs
      have l3 := z_R_long (Nat.zero_le b) hbc o3 hs
      have l4 := z_R_long (Nat.zero_le b) hbc' o4 hs
      have hi : ∀ c r, b + 1 ≤ r → z_ah a b c r = z_ah 0 b c r := fun c r hr => z_ah_of (fun _ => z_rs_hi hab (by omega))
      have e13 : R1 = R3 := z_late_eq o1 o3 (hi c _ l1) (hi c _ l3)
      have e24 : R2 = R4 := z_late_eq o2 o4 (hi c' _ l2) (hi c' _ l4)
      subst e13; subst e24
      have := sums R1 R2 (fun i h1 _ => ⟨fun _ => by omega, fun _ => by omega⟩)
      rw [hi c _ l1, hi c' _ l2]
      omega
    · have l1 := z_R_short hok hab o1 (by omega)
      have l2 := z_R_short hok hab o2 (by omega)
      have l3 := z_R_short hok (Nat.zero_le b) o3 (by omega)
      have l4 := z_R_short hok (Nat.zero_le b) o4 (by omega)
      have lo : ∀ a r, r ≤ b → z_ah a b c r = z_ah a b c' r := fun a r hr => z_ah_of (fun _ => z_rs_lo (by omega))
      have e12 : R1 = R2 := z_late_eq o1 o2 (lo a _ l1) (lo a _ l2)
      have e34 : R3 = R4 := z_late_eq o3 o4 (lo 0 _ l3) (lo 0 _ l4)
      subst e12; subst e34
      have s1 : z_rsum m p a b c R1 len = z_rsum m p a b c' R1 len := z_sum_congr len (fun i _ => by
        show z_dr m p (if i < R1 then _ else 0) = z_dr m p (if i < R1 then _ else 0)
        by_cases e : i < R1
        · rw [if_pos e, if_pos e, z_rs_lo (by omega)]
        · rw [if_neg e, if_neg e])
      have s2 : z_rsum m p 0 b c R3 len = z_rsum m p 0 b c' R3 len := z_sum_congr len (fun i _ => by
        show z_dr m p (if i < R3 then _ else 0) = z_dr m p (if i < R3 then _ else 0)
        by_cases e : i < R3
        · rw [if_pos e, if_pos e, z_rs_lo (by omega)]
        · rw [if_neg e, if_neg e])
      rw [lo a _ l1, lo 0 _ l3, s1, s2]
theorem z_ST_cross {m : q_S} (hok : z_ok m) {p a b c c' : Nat} {w : Nat → Bool} (hab : a ≤ b) (hbc : b < c) (hc : c ≤ 64) (hbc' : b < c') (hc' : c' ≤ 64) : z_ST m p w a b c + z_ST m p w 0 b c' = z_ST m p w a b c' + z_ST m p w 0 b c := by
  refine z_sum4 64 (fun s hs => ?_)
  show (if z_st w s = true then _ else 0) + (if z_st w s = true then _ else 0) = (if z_st w s = true then _ else 0) + (if z_st w s = true then _ else 0)
  by_cases e : z_st w s = true
  · rw [if_pos e, if_pos e, if_pos e, if_pos e]
    have := z_len_le w (show s ≤ 64 by omega)
    exact z_rspan_cross hok hab hbc hc hbc' hc' (by omega)
  · rw [if_neg e, if_neg e, if_neg e, if_neg e]
/-- the best threshold of OFF behind that of SLEEP -/
def z_lof (m : q_S) (p : Nat) (w : Nat → Bool) (y L b : Nat) : Prop := y ≤ b ∧ b ≤ L ∧ (b = y → L ≤ y) ∧ ∀ z, y < z → z ≤ L → z_ST m p w 0 y b * 65 + b ≤ z_ST m p w 0 y z * 65 + z
theorem z_lof_all {m : q_S} (hok : z_ok m) {p x y L b : Nat} {w : Nat → Bool} (hL : L ≤ 64) (hxy : x ≤ y) (h : z_lof m p w y L b) : ∀ z, y ≤ z → z ≤ L → z_ST m p w x y (if z_ST m p w x y b < z_ST m p w x y y then b else y) * 65 + (if z_ST m p w x y b < z_ST m p w x y y then b else y) ≤ z_ST m p w x y z * 65 + z := by
  obtain ⟨h1, h2, h3, h4⟩ := h
  intro z hz hzL
  by_cases e : z = y
  · subst e
    split <;> omega
  · have hyb : y < b := by
      apply Classical.byContradiction
      intro q
      have := h3 (by omega)
      omega
    have h5 := h4 z (by omega) hzL
    have h6 := z_ST_cross hok (p := p) (w := w) hxy (show y < z by omega) (by omega) hyb (by omega)
    split <;> omega
/-- what the class has found so far: all below (Y, X) in its order -/
def z_J5 (m : q_S) (p : Nat) (w : Nat → Bool) (L Y X a b c : Nat) : Prop := a ≤ b ∧ b ≤ c ∧ c ≤ L ∧ (b < Y ∨ (b = Y ∧ a < X) ∨ (b = c ∧ b ≤ Y)) ∧ ∀ x y z, x ≤ y → y ≤ z → z ≤ L → (y < Y ∨ (y = Y ∧ x < X)) → z_key (z_ST m p w a b c) a b c ≤ z_key (z_ST m p w x y z) x y z
theorem z_J5_0 (m : q_S) (p : Nat) (w : Nat → Bool) (L : Nat) : z_J5 m p w L 0 0 0 0 0 := ⟨Nat.le_refl _, Nat.le_refl _, Nat.zero_le _, Or.inr (Or.inr ⟨rfl, Nat.le_refl _⟩), fun x y z _ _ _ h => by omega⟩
theorem z_J5_row {m : q_S} {p : Nat} {w : Nat → Bool} {L Y a b c : Nat} (h : z_J5 m p w L Y (Y + 1) a b c) : z_J5 m p w L (Y + 1) 0 a b c := by
  obtain ⟨h1, h2, h3, h4, h5⟩ := h
  exact ⟨h1, h2, h3, by omega, fun x y z e1 e2 e3 e4 => h5 x y z e1 e2 e3 (by omega)⟩
theorem z_J5_take {m : q_S} (hok : z_ok m) {p : Nat} {w : Nat → Bool} {L Y X a b c l : Nat} (hL : L ≤ 64) (hX : X ≤ Y) (hY : Y ≤ L) (hl : z_lof m p w Y L l) (h : z_J5 m p w L Y X a b c) (ht : min (z_ST m p w X Y Y) (z_ST m p w X Y l) < z_ST m p w a b c ∨ (min (z_ST m p w X Y Y) (z_ST m p w X Y l) = z_ST m p w a b c ∧ X < a)) : z_J5 m p w L Y (X + 1) X Y (if z_ST m p w X Y l < z_ST m p w X Y Y then l else Y) := by
  have hall := z_lof_all hok hL hX hl
  have hS : z_ST m p w X Y (if z_ST m p w X Y l < z_ST m p w X Y Y then l else Y) = min (z_ST m p w X Y Y) (z_ST m p w X Y l) := by split <;> omega
  have hz : Y ≤ (if z_ST m p w X Y l < z_ST m p w X Y Y then l else Y) ∧ (if z_ST m p w X Y l < z_ST m p w X Y Y then l else Y) ≤ L := by
    have := hl.1; have := hl.2.1
    split <;> omega
  rw [← hS] at ht
  generalize (if z_ST m p w X Y l < z_ST m p w X Y Y then l else Y) = Z at *
  obtain ⟨h1, h2, h3, h4, h5⟩ := h
  refine ⟨hX, hz.1, hz.2, by omega, fun x y z e1 e2 e3 e4 => ?_⟩
  by_cases e : y = Y ∧ x = X
  · obtain ⟨rfl, rfl⟩ := e
    have := hall z e2 e3
    unfold z_key
    omega
  · have := h5 x y z e1 e2 e3 (by omega)
    refine Nat.le_trans ?_ this
    unfold z_key
    generalize z_ST m p w X Y Z = S1 at *
    generalize z_ST m p w a b c = S2 at *
    clear h5 hall this
    omega
theorem z_J5_leave {m : q_S} (hok : z_ok m) {p : Nat} {w : Nat → Bool} {L Y X a b c l : Nat} (hL : L ≤ 64) (hX : X ≤ Y) (hY : Y ≤ L) (hl : z_lof m p w Y L l) (h : z_J5 m p w L Y X a b c) (ht : ¬ (min (z_ST m p w X Y Y) (z_ST m p w X Y l) < z_ST m p w a b c ∨ (min (z_ST m p w X Y Y) (z_ST m p w X Y l) = z_ST m p w a b c ∧ X < a))) : z_J5 m p w L Y (X + 1) a b c := by
  have hall := z_lof_all hok hL hX hl
  have hS : z_ST m p w X Y (if z_ST m p w X Y l < z_ST m p w X Y Y then l else Y) = min (z_ST m p w X Y Y) (z_ST m p w X Y l) := by split <;> omega
  rw [← hS] at ht
  have hz : Y ≤ (if z_ST m p w X Y l < z_ST m p w X Y Y then l else Y) ∧ (if z_ST m p w X Y l < z_ST m p w X Y Y then l else Y) ≤ L := by
    have := hl.1; have := hl.2.1
    split <;> omega
  generalize (if z_ST m p w X Y l < z_ST m p w X Y Y then l else Y) = Z at *
  obtain ⟨h1, h2, h3, h4, h5⟩ := h
  refine ⟨h1, h2, h3, by omega, fun x y z e1 e2 e3 e4 => ?_⟩
  by_cases e : y = Y ∧ x = X
  · obtain ⟨rfl, rfl⟩ := e
    have := hall z e2 e3
    unfold z_key
    omega
  · exact h5 x y z e1 e2 e3 (by omega)
theorem z_J5_end {m : q_S} (hok : z_ok m) {p : Nat} {w : Nat → Bool} {L a b c : Nat} (hL : L ≤ 64) (hcap : z_cap w L) (h : z_J5 m p w L (L + 1) 0 a b c) : z_opt m p w a b c := by
  obtain ⟨h1, h2, h3, h4, h5⟩ := h
  refine ⟨h1, h2, by omega, fun x y z e1 e2 e3 => ?_⟩
  have := h5 (min x L) (min y L) (min z L) (by omega) (by omega) (by omega) (by omega)
  rw [z_ST_clamp hok hL hcap e1 e2 e3] at this
  refine Nat.le_trans this ?_
  unfold z_key
  generalize z_ST m p w x y z = S1 at *
  omega
end
section
/-! ===== learn of the class ===== -/
/-- what setting thresholds of part p leaves -/
def z_FT (p : Nat) (h g : q_H) : Prop := (∀ k, k ≠ 6 → g.1 k = h.1 k) ∧ (∀ q, q ≠ p → g.1 6 q = h.1 6 q) ∧ (∀ j, j ≠ 1 → j ≠ 2 → j ≠ 3 → g.1 6 p j = h.1 6 p j) ∧ g.2 = h.2
theorem z_FT.rf (p : Nat) (h : q_H) : z_FT p h h := ⟨fun _ _ => rfl, fun _ _ => rfl, fun _ _ _ _ => rfl, rfl⟩
theorem z_FT.tr {p : Nat} {h g k : q_H} (a : z_FT p h g) (b : z_FT p g k) : z_FT p h k := ⟨fun n x => (b.1 n x).trans (a.1 n x), fun n x => (b.2.1 n x).trans (a.2.1 n x), fun n x y z => (b.2.2.1 n x y z).trans (a.2.2.1 n x y z), b.2.2.2.trans a.2.2.2⟩
theorem z_FT.fc {p : Nat} {h g : q_H} (a : z_FT p h g) : z_Fc h g := fun k hk => a.1 k (by omega)
theorem z_FT_set (p : Nat) (h : q_H) (x y z : Int32) : z_FT p h (q_sI (q_sI (q_sI h 6 p 1 x) 6 p 2 y) 6 p 3 z) := by
  refine ⟨fun k hk => ?_, fun q hq => ?_, fun j h1 h2 h3 => ?_, rfl⟩
  · funext i j
    rw [q_sI_o (by omega), q_sI_o (by omega), q_sI_o (by omega)]
  · funext j
    rw [q_sI_o (by omega), q_sI_o (by omega), q_sI_o (by omega)]
  · rw [q_sI_o (by omega), q_sI_o (by omega), q_sI_o (by omega)]
/-- what the tries of part p rest on -/
def z_Y (m : q_S) (p : Nat) (w : Nat → Bool) (h : q_H) : Prop := z_P m p h ∧ (h.1 6 p 0 = nI 0 ∧ h.1 6 p 4 = nI 64) ∧ z_Sp w h
theorem z_Y.ft {m : q_S} {p : Nat} {w : Nat → Bool} {h g : q_H} (y : z_Y m p w h) (a : z_FT p h g) : z_Y m p w g := by
  obtain ⟨y1, y2, y3⟩ := y
  refine ⟨fun s hs => ?_, ?_, ?_⟩
  · rw [a.1 3 (by omega), a.1 4 (by omega), a.1 5 (by omega)]
    exact y1 s hs
  · rw [a.2.2.1 0 (by omega) (by omega) (by omega), a.2.2.1 4 (by omega) (by omega) (by omega)]
    exact y2
  · unfold z_Sp
    rw [a.1 15 (by omega), a.1 16 (by omega), a.1 17 (by omega)]
    exact y3
theorem z_T_set {p a b c : Nat} {h : q_H} (y : h.1 6 p 0 = nI 0 ∧ h.1 6 p 4 = nI 64) : z_T p a b c (q_sI (q_sI (q_sI h 6 p 1 (nI a)) 6 p 2 (nI b)) 6 p 3 (nI c)) := by
  refine ⟨?_, ?_, ?_, q_sI_r, ?_⟩
  · rw [q_sI_o (by omega), q_sI_o (by omega), q_sI_o (by omega)]; exact y.1
  · rw [q_sI_o (by omega), q_sI_o (by omega), q_sI_r]
  · rw [q_sI_o (by omega), q_sI_r]
  · rw [q_sI_o (by omega), q_sI_o (by omega), q_sI_o (by omega)]; exact y.2
theorem s_try {m : q_S} {p a b c : Nat} {w : Nat → Bool} {h : q_H} {Q : Int32 → q_H → Prop} (hok : z_ok m) (hY : z_Y m p w h) (hab : a ≤ b) (hbc : b ≤ c) (hc : c ≤ 64) (k : ∀ g, z_FT p h g → Q (nI (z_ST m p w a b c)) g) : wp_X1_sumOfTry p (nI a) (nI b) (nI c) h Q := by
  unfold wp_X1_sumOfTry wp_X1_setThresholds
  have hF := z_FT_set p h (nI a) (nI b) (nI c)
  have hY' := hY.ft hF
  exact s_sumBy hok hY'.1 (z_T_set hY.2.1) hab hbc hc hY'.2.2 (k _ hF)
theorem s_longest {w : Nat → Bool} {h : q_H} {Q : Int32 → q_H → Prop} (hS : z_Sp w h) (k : ∀ L, L ≤ 64 → z_cap w L → Q (nI L) h) : wp_X2_longest h Q := by
  have hc64 := z_cnt_le w 64
  unfold wp_X2_longest
  refine pk_loop (σ := Int32 × q_H) (fun n i s => lp_X2_longest_4 (fun x _ g => Q x g) n s.1 (nI i) s.2) (fun i s => s.2 = h ∧ ∃ L, L ≤ 64 ∧ s.1 = nI L ∧ ∀ s0, s0 < 64 → z_st w s0 = true → z_cnt w s0 < i → z_len w s0 ≤ L) (z_cnt w 64) 0 (0, h) (by omega) ⟨rfl, 0, by omega, rfl, fun s0 _ _ hlt => by omega⟩ ?_ ?_
  · rintro n ⟨x, g⟩ ⟨e, L, hL, hx, hcap⟩
    have e : g = h := e
    subst e
    have hx : x = nI L := hx
    subst hx
    unfold lp_X2_longest_4
    rw [hS.1]
    exact ⟨fun _ => k L hL (fun s hs hst => hcap s hs hst (z_cnt_lt hst (by omega))), fun z => absurd (nI_le (Nat.le_refl _) (by omega)) z⟩
  · rintro n i ⟨x, g⟩ hi ⟨e, L, hL, hx, hcap⟩ ih
    have e : g = h := e
    subst e
    have hx : x = nI L := hx
    subst hx
    obtain ⟨s, hs, hst, hcs⟩ := z_cnt_hit hi
    subst hcs
    have hcl := z_cnt_le w s
    have hl := z_len_le w (show s ≤ 64 by omega)
    unfold lp_X2_longest_4
    rw [hS.1, cl (by omega), (hS.2 s hs hst).2, nI_1 (z_cnt w s)]
    refine ⟨fun z => absurd z (nle hi (by omega)), fun _ => ⟨vin (by omega) (by omega), ?_⟩⟩
    have next : ∀ M, L ≤ M → z_len w s ≤ M → ∀ s0, s0 < 64 → z_st w s0 = true → z_cnt w s0 < z_cnt w s + 1 → z_len w s0 ≤ M := by
      intro M h1 h2 s0 h3 h4 h5
      by_cases e : z_cnt w s0 = z_cnt w s
      · have := z_cnt_inj h4 hst e
        subst this; exact h2
      · have := hcap s0 h3 h4 (by omega)
        omega
    refine ih (_, _) ⟨rfl, if L < z_len w s then z_len w s else L, by split <;> omega, ?_, next _ (by split <;> omega) (by split <;> omega)⟩
    show (if nI L < nI (z_len w s) then nI (z_len w s) else nI L) = nI (if L < z_len w s then z_len w s else L)
    by_cases e : L < z_len w s
    · rw [if_pos (nI_lt e (by omega)), if_pos e]
    · rw [if_neg (fun q => e ((nI_ltI (by omega) (by omega)).mp q)), if_neg e]
theorem s_laterOff {m : q_S} {p y L : Nat} {w : Nat → Bool} {h : q_H} {Q : Int32 → q_H → Prop} (hok : z_ok m) (hY : z_Y m p w h) (hyL : y ≤ L) (hL : L ≤ 64) (k : ∀ b g, z_FT p h g → z_lof m p w y L b → Q (nI b) g) : wp_X1_bestLaterOff p (nI y) (nI L) h Q := by
  have hST := z_ST_le hok p w
  unfold wp_X1_bestLaterOff
  rw [nI_1 y]
  refine pk_loop (σ := (Int32 × Int32) × q_H) (fun n i s => lp_X1_bestLaterOff_11 p (nI y) (nI L) (fun x _ _ g => Q x g) n s.1.1 s.1.2 (nI i) s.2) (fun i s => z_FT p h s.2 ∧ ∃ b, s.1.1 = nI b ∧ y ≤ b ∧ b < i ∧ (b = y → i = y + 1) ∧ (b ≠ y → s.1.2 = nI (z_ST m p w 0 y b)) ∧ ∀ z, y < z → z < i → z_ST m p w 0 y b * 65 + b ≤ z_ST m p w 0 y z * 65 + z) (L + 1) (y + 1) ((nI y, 0), h) (by omega) ⟨z_FT.rf p h, y, rfl, Nat.le_refl _, by omega, fun _ => rfl, fun q => absurd rfl q, fun z h1 h2 => by omega⟩ ?_ ?_
  · rintro n ⟨⟨x, l⟩, g⟩ ⟨hF, b, hx, h1, h2, h3, h4, h5⟩
    have hx : x = nI b := hx
    subst hx
    unfold lp_X1_bestLaterOff_11
    refine ⟨fun _ => k b g hF ⟨h1, by omega, fun e => ?_, fun z e1 e2 => h5 z e1 (by omega)⟩, fun z => absurd (nI_lt (show L < L + 1 by omega) (by omega)) z⟩
    have := h3 e
    omega
  · rintro n i ⟨⟨x, l⟩, g⟩ hi ⟨hF, b, hx, h1, h2, h3, h4, h5⟩ ih
    have hx : x = nI b := hx
    subst hx
    have hF : z_FT p h g := hF
    have h4 : b ≠ y → l = nI (z_ST m p w 0 y b) := h4
    have b1 := hST 0 y b
    have b2 := hST 0 y i
    unfold lp_X1_bestLaterOff_11
    refine ⟨fun z => absurd ((nI_ltI (by omega) (by omega)).mp z) (by omega), fun _ => ?_⟩
    refine s_try (a := 0) (b := y) (c := i) hok (hY.ft hF) (by omega) (by omega) (by omega) (fun u hu => ?_)
    rw [nI_1 i]
    refine ⟨fun z => ?_, fun z => ?_⟩
    · have e := (nI_eq (a := b) (b := y) (by omega) (by omega)).mp z
      have e2 := h3 e
      refine ih ((_, _), _) ⟨hF.tr hu, i, rfl, by omega, by omega, fun q => by omega, fun _ => rfl, fun z e3 e4 => ?_⟩
      have : z = i := by omega
      subst this; exact Nat.le_refl _
    · have e : b ≠ y := fun q => z (by rw [q])
      have e4 := h4 e
      subst e4
      refine ⟨fun z1 => ?_, fun z1 => ?_⟩
      · have hle := (nI_leI (by omega) (by omega)).mp z1
        refine ih ((_, _), _) ⟨hF.tr hu, b, rfl, h1, by omega, fun q => absurd q e, fun _ => rfl, fun z e3 e4 => ?_⟩
        by_cases e5 : z = i
        · subst e5; omega
        · exact h5 z e3 (by omega)
      · have hlt : ¬ _ ≤ _ := fun q => z1 ((nI_leI (by omega) (by omega)).mpr q)
        refine ih ((_, _), _) ⟨hF.tr hu, i, rfl, by omega, by omega, fun q => by omega, fun _ => rfl, fun z e3 e4 => ?_⟩
        by_cases e5 : z = i
        · subst e5; exact Nat.le_refl _
        · have := h5 z e3 (by omega)
          omega
theorem s_bestRow {m : q_S} {p Y L l a b c : Nat} {w : Nat → Bool} {h : q_H} {E : Int32 → Int32 → Int32 → Int32 → Int32 → q_H → Prop} (hok : z_ok m) (hY : z_Y m p w h) (hyL : Y ≤ L) (hL : L ≤ 64) (hl : z_lof m p w Y L l) (hJ : z_J5 m p w L Y 0 a b c) (k : ∀ a b c x g, z_FT p h g → z_J5 m p w L (Y + 1) 0 a b c → E (nI a) (nI b) (nI c) (nI (z_ST m p w a b c)) x g) : ∃ n, lp_X1_takeBestThresholds_45 p (nI L) (nI Y) (nI l) E n (nI a) (nI b) (nI c) (nI (z_ST m p w a b c)) 0 h := by
  have hST := z_ST_le hok p w
  have hl1 := hl.1
  have hl2 := hl.2.1
  refine pk_loop (σ := (Int32 × Int32 × Int32 × Int32) × q_H) (fun n i s => lp_X1_takeBestThresholds_45 p (nI L) (nI Y) (nI l) E n s.1.1 s.1.2.1 s.1.2.2.1 s.1.2.2.2 (nI i) s.2) (fun i s => z_FT p h s.2 ∧ ∃ a b c, s.1 = (nI a, nI b, nI c, nI (z_ST m p w a b c)) ∧ z_J5 m p w L Y i a b c) (Y + 1) 0 ((nI a, nI b, nI c, nI (z_ST m p w a b c)), h) (by omega) ⟨z_FT.rf p h, a, b, c, rfl, hJ⟩ ?_ ?_
  · rintro n ⟨s, g⟩ ⟨hF, a, b, c, hx, hJ⟩
    have hx : s = (nI a, nI b, nI c, nI (z_ST m p w a b c)) := hx
    subst hx
    unfold lp_X1_takeBestThresholds_45
    exact ⟨fun _ => k a b c _ g hF (z_J5_row hJ), fun z => absurd (nI_lt (show Y < Y + 1 by omega) (by omega)) z⟩
  · rintro n X ⟨s, g⟩ hX ⟨hF, a, b, c, hx, hJ⟩ ih
    have hx : s = (nI a, nI b, nI c, nI (z_ST m p w a b c)) := hx
    subst hx
    have hF : z_FT p h g := hF
    have b1 := hST X Y Y
    have b2 := hST X Y l
    have b3 := hST a b c
    have ha : a ≤ 64 := by have := hJ.1; have := hJ.2.1; have := hJ.2.2.1; omega
    unfold lp_X1_takeBestThresholds_45
    refine ⟨fun z => absurd ((nI_ltI (by omega) (by omega)).mp z) (by omega), fun _ => ?_⟩
    refine s_try (a := X) (b := Y) (c := Y) hok (hY.ft hF) (by omega) (by omega) (by omega) (fun u hu => ?_)
    refine s_try (a := X) (b := Y) (c := l) hok ((hY.ft hF).ft hu) (by omega) (by omega) (by omega) (fun v hv => ?_)
    have hFv : z_FT p h v := (hF.tr hu).tr hv
    rw [nI_1 X, nI_min _ _ (by omega) (by omega)]
    have take : (min (z_ST m p w X Y Y) (z_ST m p w X Y l) < z_ST m p w a b c ∨ (min (z_ST m p w X Y Y) (z_ST m p w X Y l) = z_ST m p w a b c ∧ X < a)) → (nI (z_ST m p w X Y l) < nI (z_ST m p w X Y Y) → lp_X1_takeBestThresholds_45 p (nI L) (nI Y) (nI l) E n (nI X) (nI Y) (nI l) (nI (min (z_ST m p w X Y Y) (z_ST m p w X Y l))) (nI (X + 1)) v) ∧ (¬ nI (z_ST m p w X Y l) < nI (z_ST m p w X Y Y) → lp_X1_takeBestThresholds_45 p (nI L) (nI Y) (nI l) E n (nI X) (nI Y) (nI Y) (nI (min (z_ST m p w X Y Y) (z_ST m p w X Y l))) (nI (X + 1)) v) := by
      intro ht
      have hJ' := z_J5_take hok hL (by omega) hyL hl hJ ht
      refine ⟨fun z => ?_, fun z => ?_⟩
      · have hlt := (nI_ltI (by omega) (by omega)).mp z
        rw [if_pos hlt] at hJ'
        rw [Nat.min_eq_right (by omega)]
        exact ih ((_, _, _, _), _) ⟨hFv, X, Y, l, rfl, hJ'⟩
      · have hlt : ¬ _ < _ := fun q => z ((nI_ltI (by omega) (by omega)).mpr q)
        rw [if_neg hlt] at hJ'
        rw [Nat.min_eq_left (by omega)]
        exact ih ((_, _, _, _), _) ⟨hFv, X, Y, Y, rfl, hJ'⟩
    have leave : ¬ (min (z_ST m p w X Y Y) (z_ST m p w X Y l) < z_ST m p w a b c ∨ (min (z_ST m p w X Y Y) (z_ST m p w X Y l) = z_ST m p w a b c ∧ X < a)) → lp_X1_takeBestThresholds_45 p (nI L) (nI Y) (nI l) E n (nI a) (nI b) (nI c) (nI (z_ST m p w a b c)) (nI (X + 1)) v := by
      intro ht
      exact ih ((_, _, _, _), _) ⟨hFv, a, b, c, rfl, z_J5_leave hok hL (by omega) hyL hl hJ ht⟩
    have bm : min (z_ST m p w X Y Y) (z_ST m p w X Y l) ≤ 526464 := by omega
    generalize min (z_ST m p w X Y Y) (z_ST m p w X Y l) = M at *
    refine ⟨fun z => take (Or.inl ((nI_ltI (by omega) (by omega)).mp z)), fun z => ⟨fun z1 => ⟨fun z2 => ?_, fun z2 => ?_⟩, fun z1 => ?_⟩⟩
    · have e2 := (nI_leI (by omega) (by omega)).mp z2
      have e0 : ¬ _ < _ := fun q => z ((nI_ltI (by omega) (by omega)).mpr q)
      exact leave (fun q => by omega)
    · have e2 : ¬ _ ≤ _ := fun q => z2 ((nI_leI (by omega) (by omega)).mpr q)
      have e1 := (nI_eq (by omega) (by omega)).mp z1
      exact take (Or.inr ⟨e1, by omega⟩)
    · have e1 : ¬ M = _ := fun q => z1 (by rw [q])
      have e0 : ¬ _ < _ := fun q => z ((nI_ltI (by omega) (by omega)).mpr q)
      exact leave (fun q => by omega)
theorem s_takeBest {m : q_S} {p : Nat} {w : Nat → Bool} {h : q_H} {Q : q_H → Prop} (hok : z_ok m) (hY : z_Y m p w h) (k : ∀ a b c g, z_opt m p w a b c → z_FT p h g → z_T p a b c g → Q g) : wp_X1_takeBestThresholds p h Q := by
  unfold wp_X1_takeBestThresholds
  refine s_longest hY.2.2 (fun L hL hcap => ?_)
  refine s_try (a := 0) (b := 0) (c := 0) hok hY (by omega) (by omega) (by omega) (fun u hu => ?_)
  refine pk_loop (σ := (Int32 × Int32 × Int32 × Int32) × q_H) (fun n i s => lp_X1_takeBestThresholds_26 p (nI L) _ n s.1.1 s.1.2.1 s.1.2.2.1 s.1.2.2.2 (nI i) s.2) (fun i s => z_FT p h s.2 ∧ ∃ a b c, s.1 = (nI a, nI b, nI c, nI (z_ST m p w a b c)) ∧ z_J5 m p w L i 0 a b c) (L + 1) 0 ((nI 0, nI 0, nI 0, nI (z_ST m p w 0 0 0)), u) (by omega) ⟨hu, 0, 0, 0, rfl, z_J5_0 m p w L⟩ ?_ ?_
  · rintro n ⟨s, g⟩ ⟨hF, a, b, c, hx, hJ⟩
    have hx : s = (nI a, nI b, nI c, nI (z_ST m p w a b c)) := hx
    subst hx
    have hF : z_FT p h g := hF
    unfold lp_X1_takeBestThresholds_26
    refine ⟨fun _ => ?_, fun z => absurd (nI_lt (show L < L + 1 by omega) (by omega)) z⟩
    unfold wp_X1_setThresholds
    exact k a b c _ (z_J5_end hok hL hcap hJ) (hF.tr (z_FT_set p g _ _ _)) (z_T_set (hY.ft hF).2.1)
  · rintro n Y ⟨s, g⟩ hi ⟨hF, a, b, c, hx, hJ⟩ ih
    have hx : s = (nI a, nI b, nI c, nI (z_ST m p w a b c)) := hx
    subst hx
    have hF : z_FT p h g := hF
    unfold lp_X1_takeBestThresholds_26
    refine ⟨fun z => absurd ((nI_ltI (by omega) (by omega)).mp z) (by omega), fun _ => ?_⟩
    refine s_laterOff hok (hY.ft hF) (by omega) hL (fun l v hv hl => ?_)
    refine s_bestRow hok ((hY.ft hF).ft hv) (by omega) hL hl hJ (fun a b c x t ht hJ' => ?_)
    rw [nI_1 Y]
    exact ih ((_, _, _, _), _) ⟨(hF.tr hv).tr ht, a, b, c, rfl, hJ'⟩
theorem z_C_ruleF {m : q_S} {p a b c : Nat} {h g : q_H} (hc : z_C m h) (hp : p < 6) (hF : z_FT p h g) (hT : z_T p a b c g) : z_C (z_rule m p a b c) g := by
  obtain ⟨c1, cw, cr⟩ := z_C_iff.mp hc
  rw [z_C_iff]
  refine ⟨?_, ?_, ?_⟩
  · obtain ⟨d1, d2, d3, d4, d5, d6, d7, d8⟩ := c1
    unfold z_C1
    rw [hF.1 0 (by omega), hF.1 3 (by omega), hF.1 4 (by omega), hF.1 5 (by omega), hF.1 7 (by omega), hF.1 8 (by omega), hF.1 9 (by omega), hF.1 10 (by omega), hF.1 11 (by omega), hF.1 12 (by omega)]
    refine ⟨d1, d2, d3, d4, fun q hq => ?_, d6, d7, d8⟩
    show _ = _ ∧ _ = nI (if q = p then a else z_ru m q 0) ∧ _ = nI (if q = p then b else z_ru m q 1) ∧ _ = nI (if q = p then c else z_ru m q 2) ∧ _
    by_cases e : q = p
    · subst e
      rw [if_pos rfl, if_pos rfl, if_pos rfl]
      exact hT
    · rw [if_neg e, if_neg e, if_neg e, hF.2.1 q e]
      exact d5 q hq
  · rw [z_wk_rule, hF.2.2.2]; exact cw
  · intro p hp g hg t ht
    rw [z_W_rule, hF.2.2.2]
    exact cr p hp g hg t ht
theorem C_learn {m : q_S} {a : Int32} {h : q_H} {Q : Int32 → q_H → Prop} (hok : z_ok m) (hc : z_C m h) (k0 : ¬ y_isP m a → Q (-1) h) (k1 : ∀ p, p < z_np m → a = nI p → ∀ x y z, z_opt m p (z_w m (-1) p) x y z → ∀ g, z_C (z_rule m p x y z) g → z_Fc h g → Q (nI (z_byrule m p x y z)) g) : wp_X4_learn a h Q := by
  have hnp := hok.1.1
  unfold wp_X4_learn
  refine s_isPart hok hc.1 (fun n => ⟨fun _ => k0 n, fun z => absurd rfl z⟩) (fun p hp e ha => ⟨fun z => absurd z (by decide), fun _ => ?_⟩)
  have kk := k1 p hp e
  subst e
  refine s_layIdle hc.rows (by omega) (fun g hg hS => ⟨vin (by omega) (by omega), ?_⟩)
  have hcg := hg.C hc
  have hT := hcg.one.T (show p < 6 by omega)
  rw [cl (by omega)]
  refine s_takeBest hok ⟨hcg.one.P (by omega), ⟨hT.1, hT.2.2.2.2⟩, hS⟩ (fun x y z u ho hF hTu => ?_)
  have hcu := z_C_ruleF hcg (by omega) hF hTu
  have o1 := ho.1; have o2 := ho.2.1; have o3 := ho.2.2.1
  have hru : z_rows m (-1) (u.2 14 0) := by rw [hF.2.2.2]; exact hcg.rows
  have hPu : z_P m p u := hcu.one.P (by omega)
  refine s_byRule hok hru hPu hTu o1 o2 o3 (by omega) (fun v hv => ?_)
  exact kk x y z ho v (hv.C hcu) ((hg.fc.tr hF.fc).tr hv.fc)
end
section
/-! ===== learn of the reference ===== -/
theorem z_rule_rule (m : q_S) (p a b c x y z : Nat) : z_rule (z_rule m p a b c) p x y z = z_rule m p x y z := by
  have e : z_ru (z_rule (z_rule m p a b c) p x y z) = z_ru (z_rule m p x y z) := by
    funext q s
    show (if q = p then (if s = 0 then x else if s = 1 then y else if s = 2 then z else (if q = p then (if s = 0 then a else if s = 1 then b else if s = 2 then c else z_ru m q s) else z_ru m q s)) else (if q = p then (if s = 0 then a else if s = 1 then b else if s = 2 then c else z_ru m q s) else z_ru m q s)) = (if q = p then (if s = 0 then x else if s = 1 then y else if s = 2 then z else z_ru m q s) else z_ru m q s)
    by_cases e : q = p
    · rw [if_pos e, if_pos e, if_pos e]
      by_cases e0 : s = 0
      · rw [if_pos e0, if_pos e0]
      · rw [if_neg e0, if_neg e0, if_neg e0]
        by_cases e1 : s = 1
        · rw [if_pos e1, if_pos e1]
        · rw [if_neg e1, if_neg e1, if_neg e1]
          by_cases e2 : s = 2
          · rw [if_pos e2, if_pos e2]
          · rw [if_neg e2, if_neg e2, if_neg e2]
    · rw [if_neg e, if_neg e, if_neg e]
  exact congrArg (fun f => ((z_np m, z_dr m, z_co m, z_ri m, f, z_nd m, z_nh m, z_ho m, z_nt m, z_ti m) : q_S)) e
theorem z_w_rule (m : q_S) (p a b c : Nat) (lo : Int32) : z_w (z_rule m p a b c) lo = z_w m lo := by
  funext q t
  unfold z_w
  rw [z_W_rule]
theorem z_byrule_rule (m : q_S) (p a b c x y z : Nat) : z_byrule (z_rule m p a b c) p x y z = z_byrule m p x y z := by
  unfold z_byrule
  rw [z_w_rule]
  rfl
theorem z_ru_rule (m : q_S) (p a b c : Nat) : z_ru (z_rule m p a b c) p 0 = a ∧ z_ru (z_rule m p a b c) p 1 = b ∧ z_ru (z_rule m p a b c) p 2 = c := ⟨if_pos rfl, if_pos rfl, if_pos rfl⟩
/-- the reference's heap with some thresholds of part p laid down, its wants laid out -/
def z_V (m : q_S) (p : Nat) (h g : q_H) : Prop := z_Fm h g ∧ ∃ m', (∀ x y z, z_rule m' p x y z = z_rule m p x y z) ∧ z_N m' (-1) g
theorem z_V_set {m : q_S} {p x y z : Nat} {h g : q_H} (hV : z_V m p h g) : z_Fm h (q_sI (q_sI (q_sI g 22 0 (3 * p + 0) (nI x)) 22 0 (3 * p + 1) (nI y)) 22 0 (3 * p + 2) (nI z)) ∧ z_N (z_rule m p x y z) (-1) (q_sI (q_sI (q_sI g 22 0 (3 * p + 0) (nI x)) 22 0 (3 * p + 1) (nI y)) 22 0 (3 * p + 2) (nI z)) := by
  obtain ⟨hF, m', hm, hN⟩ := hV
  refine ⟨z_Fm_sI (by omega) (z_Fm_sI (by omega) (z_Fm_sI (by omega) hF)), ?_⟩
  rw [← hm]
  refine ⟨z_Ml_rule hN.1, fun q hq t ht g' hg' => ?_⟩
  rw [q_sI_o (by omega), q_sI_o (by omega), q_sI_o (by omega), z_W_rule]
  exact hN.2 q hq t ht g' hg'
/-- what the reference has found so far: all whose code is below N -/
def z_U (m : q_S) (p N : Nat) (s : Int32 × Int32 × Int32 × Int32) : Prop := (s.1 = -1 ∧ N = 0) ∨ ∃ a b c, s = (nI (z_byrule m p a b c), nI a, nI b, nI c) ∧ a ≤ b ∧ b ≤ c ∧ c ≤ 64 ∧ a * 4225 + b * 65 + c < N ∧ ∀ x y z, x ≤ y → y ≤ z → z ≤ 64 → x * 4225 + y * 65 + z < N → z_key (z_ST m p (z_w m (-1) p) a b c) a b c ≤ z_key (z_ST m p (z_w m (-1) p) x y z) x y z
theorem z_U.up {m : q_S} {p N N' : Nat} {s : Int32 × Int32 × Int32 × Int32} (h : z_U m p N s) (h0 : N = 0 → N' = 0) (hN : N ≤ N') (hg : ∀ x y z, x ≤ y → y ≤ z → z ≤ 64 → x * 4225 + y * 65 + z < N' → x * 4225 + y * 65 + z < N) : z_U m p N' s := by
  rcases h with ⟨h1, h2⟩ | ⟨a, b, c, h1, h2, h3, h4, h5, h6⟩
  · exact Or.inl ⟨h1, h0 h2⟩
  · exact Or.inr ⟨a, b, c, h1, h2, h3, h4, by omega, fun x y z e1 e2 e3 e4 => h6 x y z e1 e2 e3 (hg x y z e1 e2 e3 e4)⟩
theorem z_by_ST (m : q_S) (p a b c : Nat) : z_byrule m p a b c = z_sum (fun t => if z_w m (-1) p t = true then 1 else 0) 64 * z_dr m p 0 + z_ST m p (z_w m (-1) p) a b c := rfl
theorem z_by_le {m : q_S} (hok : z_ok m) (p a b c : Nat) : z_byrule m p a b c ≤ 532800 := by
  have h1 := z_ST_le hok p (z_w m (-1) p) a b c
  have h2 : z_sum (fun t => if z_w m (-1) p t = true then 1 else 0) 64 ≤ 64 * 1 := z_sum_le (fun i => by show (if _ then 1 else 0) ≤ 1; split <;> omega) 64
  have h3 := hok.2.1 p 0
  have h4 : z_sum (fun t => if z_w m (-1) p t = true then 1 else 0) 64 * z_dr m p 0 ≤ 64 * 99 := Nat.mul_le_mul (by omega) h3
  rw [z_by_ST]
  omega
/-- codes go by their numbers -/
theorem z_cd {x u X U : Nat} (hu : u < 4225) (h : x * 4225 + u < X * 4225 + U) (hU : U ≤ 4225) : x < X ∨ (x = X ∧ u < U) := by
  rcases Nat.lt_trichotomy x X with e | e | e
  · exact Or.inl e
  · subst e; exact Or.inr ⟨rfl, by omega⟩
  · omega
theorem z_cd3 {x y z X Y Z : Nat} (hy : y ≤ 64) (hz : z ≤ 64) (hY : Y ≤ 64) (hZ : Z ≤ 65) (h : x * 4225 + y * 65 + z < X * 4225 + Y * 65 + Z) : x < X ∨ (x = X ∧ (y < Y ∨ (y = Y ∧ z < Z))) := by
  rw [Nat.add_assoc, Nat.add_assoc] at h
  rcases z_cd (by omega) h (by omega) with e | ⟨e1, e2⟩
  · exact Or.inl e
  · refine Or.inr ⟨e1, ?_⟩
    rcases Nat.lt_trichotomy y Y with e | e | e
    · exact Or.inl e
    · subst e; exact Or.inr ⟨rfl, by omega⟩
    · omega
theorem z_cdr {x y z X Y Z : Nat} (hy : y ≤ 64) (hz : z ≤ 64) (h : x < X ∨ (x = X ∧ (y < Y ∨ (y = Y ∧ z < Z)))) : x * 4225 + y * 65 + z < X * 4225 + Y * 65 + Z := by
  rcases h with h | ⟨rfl, h | ⟨rfl, h⟩⟩ <;> omega
theorem z_cd65 {x y z : Nat} (h1 : x ≤ y) (h2 : y ≤ z) (h3 : z ≤ 64) : x * 4225 + y * 65 + z < 65 * 4225 := by
  have t := z_cdr (x := x) (y := y) (z := z) (X := 65) (Y := 0) (Z := 0) (by omega) h3 (Or.inl (by omega))
  rwa [Nat.add_zero] at t
theorem z_U_Y {m : q_S} {p X Y : Nat} {s : Int32 × Int32 × Int32 × Int32} (hXY : X ≤ Y) (hY : Y ≤ 64) (h : z_U m p (X * 4225 + Y * 65) s) : z_U m p (X * 4225 + Y * 65 + Y) s := by
  refine h.up (by omega) (by omega) (fun x y z h1 h2 h3 h4 => ?_)
  have q := z_cd3 (by omega) h3 hY (by omega) h4
  have t := z_cdr (x := x) (y := y) (z := z) (X := X) (Y := Y) (Z := 0) (by omega) h3 (by omega)
  rwa [Nat.add_zero] at t
theorem z_U_X {m : q_S} {p X : Nat} {s : Int32 × Int32 × Int32 × Int32} (hX : X ≤ 64) (h : z_U m p (X * 4225) s) : z_U m p (X * 4225 + X * 65) s := by
  refine h.up (by omega) (by omega) (fun x y z h1 h2 h3 h4 => ?_)
  rw [← Nat.add_zero (X * 4225 + X * 65)] at h4
  have q := z_cd3 (by omega) h3 hX (by omega) h4
  have t := z_cdr (x := x) (y := y) (z := z) (X := X) (Y := 0) (Z := 0) (by omega) h3 (by omega)
  rwa [Nat.add_zero] at t
theorem s5_learnZ {m : q_S} {p X Y : Nat} {s : Int32 × Int32 × Int32 × Int32} {h g : q_H} {E : Int32 → Int32 → Int32 → Int32 → Int32 → q_H → Prop} (hok : z_ok m) (hp : p < z_np m) (hXY : X ≤ Y) (hY : Y ≤ 64) (hV : z_V m p h g) (hU : z_U m p (X * 4225 + Y * 65) s) (k : ∀ s x g, z_V m p h g → z_U m p (X * 4225 + (Y + 1) * 65) s → E s.1 s.2.1 s.2.2.1 s.2.2.2 x g) : ∃ n, lp_X5_learn_49 (nI p) (nI X) (nI Y) E n s.1 s.2.1 s.2.2.1 s.2.2.2 (nI Y) g := by
  have hnp := hok.1.1
  refine pk_loop (σ := (Int32 × Int32 × Int32 × Int32) × q_H) (fun n i s => lp_X5_learn_49 (nI p) (nI X) (nI Y) E n s.1.1 s.1.2.1 s.1.2.2.1 s.1.2.2.2 (nI i) s.2) (fun i s => Y ≤ i ∧ z_V m p h s.2 ∧ z_U m p (X * 4225 + Y * 65 + i) s.1) 65 Y (s, g) (by omega) ⟨Nat.le_refl _, hV, z_U_Y hXY hY hU⟩ ?_ ?_
  · rintro n ⟨s, u⟩ ⟨_, hV, hU⟩
    have hU : z_U m p (X * 4225 + Y * 65 + 65) s := hU
    unfold lp_X5_learn_49
    refine ⟨fun _ => k s _ u hV ?_, fun z => absurd (show nI 64 < nI 65 from nI_lt (by omega) (by omega)) z⟩
    rw [show X * 4225 + (Y + 1) * 65 = X * 4225 + Y * 65 + 65 by omega]
    exact hU
  · rintro n Z ⟨⟨s1, s2, s3, s4⟩, u⟩ hZ ⟨hZY, hV, hU⟩ ih
    have hV : z_V m p h u := hV
    have hU : z_U m p (X * 4225 + Y * 65 + Z) (s1, s2, s3, s4) := hU
    unfold lp_X5_learn_49
    refine ⟨fun z => absurd ((nI_ltI (a := 64) (by omega) (by omega)).mp z) (by omega), fun _ => ?_⟩
    rw [ix31, ix32, ix30, cl (show 3 * p + 0 < 2 ^ 31 by omega), cl (show 3 * p + 1 < 2 ^ 31 by omega), cl (show 3 * p + 2 < 2 ^ 31 by omega), nI_1 Z]
    refine ⟨vin (by omega) (by omega), vin (by omega) (by omega), vin (by omega) (by omega), ?_⟩
    obtain ⟨hF', hN'⟩ := z_V_set (x := X) (y := Y) (z := Z) hV
    refine s5_ruledSum (z_rule_ok hok hp hXY hZY (by omega)) hN' hp (fun v hv => ?_)
    obtain ⟨e1, e2, e3⟩ := z_ru_rule m p X Y Z
    rw [e1, e2, e3, z_byrule_rule]
    have hV' : z_V m p h v := ⟨hF'.tr hv.K.fm, z_rule m p X Y Z, fun x y z => z_rule_rule _ _ _ _ _ _ _ _, hN'.k hv⟩
    have bX := z_by_le hok p X Y Z
    have hZ64 : Z ≤ 64 := by omega
    have hZ1 : X * 4225 + Y * 65 + Z < X * 4225 + Y * 65 + (Z + 1) := by clear bX; omega
    have done : ∀ s', z_U m p (X * 4225 + Y * 65 + (Z + 1)) s' → lp_X5_learn_49 (nI p) (nI X) (nI Y) E n s'.1 s'.2.1 s'.2.2.1 s'.2.2.2 (nI (Z + 1)) v := fun s' hs' => ih (s', v) ⟨by omega, hV', hs'⟩
    have only : ∀ x y z, y ≤ 64 → z ≤ 64 → x * 4225 + y * 65 + z < X * 4225 + Y * 65 + (Z + 1) → x * 4225 + y * 65 + z < X * 4225 + Y * 65 + Z ∨ (x = X ∧ y = Y ∧ z = Z) := by
      intro x y z hy hz hh
      have := z_cd3 hy hz hY (by omega) hh
      by_cases e : x = X ∧ y = Y ∧ z = Z
      · exact Or.inr e
      · exact Or.inl (z_cdr hy hz (by omega))
    rcases hU with ⟨hU1, hU2⟩ | ⟨a, b, c, hU1, hU2, hU3, hU4, hU5, hU6⟩
    · have hU1 : s1 = -1 := hU1
      refine ⟨fun _ => done (_, _, _, _) (Or.inr ⟨X, Y, Z, rfl, hXY, hZY, by omega, by omega, fun x y z g1 g2 g3 g4 => ?_⟩), fun z => absurd hU1 z⟩
      rcases only x y z (by omega) g3 g4 with q | ⟨rfl, rfl, rfl⟩
      · omega
      · exact Nat.le_refl _
    · have hU1 : (s1, s2, s3, s4) = (nI (z_byrule m p a b c), nI a, nI b, nI c) := hU1
      obtain ⟨rfl, rfl, rfl, rfl⟩ : s1 = _ ∧ s2 = _ ∧ s3 = _ ∧ s4 = _ := by
        simp only [Prod.mk.injEq] at hU1
        exact hU1
      have bA := z_by_le hok p a b c
      have lts : z_byrule m p X Y Z < z_byrule m p a b c ↔ z_ST m p (z_w m (-1) p) X Y Z < z_ST m p (z_w m (-1) p) a b c := by
        rw [z_by_ST, z_by_ST m p a b c]
        exact Nat.add_lt_add_iff_left
      refine ⟨fun z => absurd z (w_m1 _ (by omega)), fun _ => ⟨fun z => ?_, fun z => ?_⟩⟩
      · have hlt := (nI_ltI (by omega) (by omega)).mp z
        have hlt := lts.mp hlt
        refine done (_, _, _, _) (Or.inr ⟨X, Y, Z, rfl, hXY, hZY, hZ64, hZ1, fun x y z g1 g2 g3 g4 => ?_⟩)
        rcases only x y z (by omega) g3 g4 with q | ⟨rfl, rfl, rfl⟩
        · refine Nat.le_trans ?_ (hU6 x y z g1 g2 g3 q)
          unfold z_key
          generalize z_ST m p (z_w m (-1) p) X Y Z = S1 at *
          generalize z_ST m p (z_w m (-1) p) a b c = S2 at *
          omega
        · exact Nat.le_refl _
      · have hlt : ¬ _ < _ := fun q => z ((nI_ltI (by omega) (by omega)).mpr q)
        have hlt := fun q => hlt (lts.mpr q)
        refine done (_, _, _, _) (Or.inr ⟨a, b, c, rfl, hU2, hU3, hU4, Nat.lt_trans hU5 hZ1, fun x y z g1 g2 g3 g4 => ?_⟩)
        rcases only x y z (by omega) g3 g4 with q | ⟨q1, q2, q3⟩
        · exact hU6 x y z g1 g2 g3 q
        · rw [q1, q2, q3]
          unfold z_key
          generalize z_ST m p (z_w m (-1) p) X Y Z = S1 at *
          generalize z_ST m p (z_w m (-1) p) a b c = S2 at *
          omega
theorem s5_learnY {m : q_S} {p X : Nat} {s : Int32 × Int32 × Int32 × Int32} {h g : q_H} {E : Int32 → Int32 → Int32 → Int32 → Int32 → q_H → Prop} (hok : z_ok m) (hp : p < z_np m) (hX : X ≤ 64) (hV : z_V m p h g) (hU : z_U m p (X * 4225) s) (k : ∀ s x g, z_V m p h g → z_U m p ((X + 1) * 4225) s → E s.1 s.2.1 s.2.2.1 s.2.2.2 x g) : ∃ n, lp_X5_learn_38 (nI p) (nI X) E n s.1 s.2.1 s.2.2.1 s.2.2.2 (nI X) g := by
  refine pk_loop (σ := (Int32 × Int32 × Int32 × Int32) × q_H) (fun n i s => lp_X5_learn_38 (nI p) (nI X) E n s.1.1 s.1.2.1 s.1.2.2.1 s.1.2.2.2 (nI i) s.2) (fun i s => X ≤ i ∧ z_V m p h s.2 ∧ z_U m p (X * 4225 + i * 65) s.1) 65 X (s, g) (by omega) ⟨Nat.le_refl _, hV, z_U_X hX hU⟩ ?_ ?_
  · rintro n ⟨s, u⟩ ⟨_, hV, hU⟩
    have hU : z_U m p (X * 4225 + 65 * 65) s := hU
    unfold lp_X5_learn_38
    refine ⟨fun _ => k s _ u hV ?_, fun z => absurd (show nI 64 < nI 65 from nI_lt (by omega) (by omega)) z⟩
    rw [show (X + 1) * 4225 = X * 4225 + 65 * 65 by omega]
    exact hU
  · rintro n Y ⟨s, u⟩ hY ⟨hXY, hV, hU⟩ ih
    have hV : z_V m p h u := hV
    have hU : z_U m p (X * 4225 + Y * 65) s := hU
    unfold lp_X5_learn_38
    refine ⟨fun z => absurd ((nI_ltI (a := 64) (by omega) (by omega)).mp z) (by omega), fun _ => ?_⟩
    refine s5_learnZ hok hp hXY (by omega) hV hU (fun s' x g' hV' hU' => ?_)
    rw [nI_1 Y]
    exact ih (s', g') ⟨by omega, hV', hU'⟩
theorem M_learn {m : q_S} {a : Int32} {h : q_H} {Q : Int32 → q_H → Prop} (hok : z_ok m) (hc : z_M m h) (k0 : ¬ y_isP m a → Q (-1) h) (k1 : ∀ p, p < z_np m → a = nI p → ∀ x y z, z_opt m p (z_w m (-1) p) x y z → ∀ g, z_M (z_rule m p x y z) g → z_Fm h g → Q (nI (z_byrule m p x y z)) g) : wp_X5_learn a h Q := by
  have hnp := hok.1.1
  have hc := z_M_iff.mp hc
  unfold wp_X5_learn
  refine s5_isPart hok hc.1.1 (fun n => ⟨fun _ => k0 n, fun z => absurd rfl z⟩) (fun p hp e ha => ⟨fun z => absurd z (by decide), fun _ => ?_⟩)
  have kk := k1 p hp e
  subst e
  refine s5_wants hok hc (fun u hu hB => ?_)
  refine pk_loop (σ := (Int32 × Int32 × Int32 × Int32) × q_H) (fun n i s => lp_X5_learn_27 (nI p) _ n s.1.1 s.1.2.1 s.1.2.2.1 s.1.2.2.2 (nI i) s.2) (fun i s => z_V m p h s.2 ∧ z_U m p (i * 4225) s.1) 65 0 ((-1, 0, 0, 0), u) (by omega) ⟨⟨hu.fm, m, fun _ _ _ => rfl, hu.M hc, hB⟩, Or.inl ⟨rfl, rfl⟩⟩ ?_ ?_
  · rintro n ⟨⟨s1, s2, s3, s4⟩, v⟩ ⟨hV, hU⟩
    have hV : z_V m p h v := hV
    have hU : z_U m p (65 * 4225) (s1, s2, s3, s4) := hU
    unfold lp_X5_learn_27
    refine ⟨fun _ => ?_, fun z => absurd (show nI 64 < nI 65 from nI_lt (by omega) (by omega)) z⟩
    rcases hU with ⟨hU1, hU2⟩ | ⟨a, b, c, hU1, hU2, hU3, hU4, hU5, hU6⟩
    · omega
    · have hU1 : (s1, s2, s3, s4) = (nI (z_byrule m p a b c), nI a, nI b, nI c) := hU1
      obtain ⟨rfl, rfl, rfl, rfl⟩ : s1 = _ ∧ s2 = _ ∧ s3 = _ ∧ s4 = _ := by
        simp only [Prod.mk.injEq] at hU1
        exact hU1
      dsimp only
      rw [ix31, ix32, ix30, cl (show 3 * p + 0 < 2 ^ 31 by omega), cl (show 3 * p + 1 < 2 ^ 31 by omega), cl (show 3 * p + 2 < 2 ^ 31 by omega)]
      refine ⟨vin (by omega) (by omega), vin (by omega) (by omega), vin (by omega) (by omega), ?_⟩
      obtain ⟨hF', hN'⟩ := z_V_set (x := a) (y := b) (z := c) hV
      exact kk a b c ⟨hU2, hU3, hU4, fun x y z g1 g2 g3 => hU6 x y z g1 g2 g3 (z_cd65 g1 g2 g3)⟩ _ (z_M_iff.mpr hN'.1) hF'
  · rintro n X ⟨s, v⟩ hX ⟨hV, hU⟩ ih
    have hV : z_V m p h v := hV
    have hU : z_U m p (X * 4225) s := hU
    unfold lp_X5_learn_27
    refine ⟨fun z => absurd ((nI_ltI (a := 64) (by omega) (by omega)).mp z) (by omega), fun _ => ?_⟩
    refine s5_learnY hok hp (by omega) hV hU (fun s' x g' hV' hU' => ?_)
    rw [nI_1 X]
    exact ih (s', g') ⟨hV', hU'⟩
end
section
/-! ===== one call of the law ===== -/
theorem z_partI {m : q_S} {a b c d : Int32} (hok : z_ok m) (h : y_partOk m a b c d) : z_ok (z_part m a.toNatClampNeg b.toNatClampNeg c.toNatClampNeg d.toNatClampNeg) := by
  obtain ⟨h6, hu, h1, h2⟩ := h
  obtain ⟨x, y, z, rfl, rfl, rfl, e1, e2, e3⟩ := y_up3_nat (M := 99) (by omega) hu
  have ha : ¬ a < 0 := by
    intro q
    apply h1
    rw [Int32.lt_iff_toInt_lt] at q ⊢
    rw [nI_toInt (by omega)]
    rw [Int32.toInt_zero] at q
    omega
  obtain ⟨v, hv, rfl⟩ := nI_of ha
  have hv9 : v ≤ 99 := Nat.le_of_not_lt (fun q => h2 (nI_lt (a := 99) q hv))
  rw [cl hv, cl (by omega), cl (by omega), cl (by omega)]
  exact z_part_ok hok h6 hv9 (by omega) (by omega) (by omega)
theorem z_riseI {m : q_S} {p a b c x y z : Int32} (hok : z_ok m) (h : y_riseOk m p a b c x y z) : z_ok (z_rise m p.toNatClampNeg a.toNatClampNeg b.toNatClampNeg c.toNatClampNeg x.toNatClampNeg y.toNatClampNeg z.toNatClampNeg) := by
  obtain ⟨hp, hu, hv⟩ := h
  obtain ⟨a', b', c', rfl, rfl, rfl, e1, e2, e3⟩ := y_up3_nat (M := 999) (by omega) hu
  obtain ⟨x', y', z', rfl, rfl, rfl, e4, e5, e6⟩ := y_up3_nat (M := 9) (by omega) hv
  rw [cl (n := a') (by omega), cl (n := b') (by omega), cl (n := c') (by omega), cl (n := x') (by omega), cl (n := y') (by omega), cl (n := z') (by omega)]
  exact z_rise_ok hok e1 e2 e3 e4 e5 e6
theorem z_ruleI {m : q_S} {p a b c : Int32} (hok : z_ok m) (h : y_ruleOk m p a b c) : z_ok (z_rule m p.toNatClampNeg a.toNatClampNeg b.toNatClampNeg c.toNatClampNeg) := by
  have hnp := hok.1.1
  obtain ⟨hp, hu⟩ := h
  obtain ⟨a', b', c', rfl, rfl, rfl, e1, e2, e3⟩ := y_up3_nat (M := 64) (by omega) hu
  obtain ⟨j, hj, rfl⟩ := y_in (by omega) hp
  rw [cl (n := a') (by omega), cl (n := b') (by omega), cl (n := c') (by omega), cl (n := j) (by omega)]
  exact z_rule_ok hok hj e1 e2 e3
theorem z_needI {m : q_S} {a b c : Int32} (hok : z_ok m) (h : y_needOk m a b c) : z_ok (z_need m a.toNatClampNeg b.toNatClampNeg (decide (c = 1))) := by
  have hnp := hok.1.1
  obtain ⟨ha, hb, _, hl⟩ := h
  obtain ⟨i, hi, rfl⟩ := y_in (by omega) ha
  obtain ⟨j, hj, rfl⟩ := y_in (by omega) hb
  rw [cl (n := i) (by omega), cl (n := j) (by omega)] at hl
  rw [cl (n := i) (by omega), cl (n := j) (by omega)]
  refine z_need_ok hok hi hj ?_
  rcases hl with hl | hl
  · left; rw [hl]; decide
  · exact Or.inr hl
theorem z_holdI {m : q_S} {g p a b : Int32} (hok : z_ok m) (hn : z_nh m < 20) (h : y_holdOk m g p a b) : z_ok (z_hold m g.toNatClampNeg p.toNatClampNeg a.toNatClampNeg b.toNatClampNeg) := by
  have hnp := hok.1.1
  obtain ⟨hg, hp, h1, h2, h3⟩ := h
  obtain ⟨i, hi, rfl⟩ := y_in (by omega) hg
  obtain ⟨j, hj, rfl⟩ := y_in (by omega) hp
  obtain ⟨x, hx, rfl⟩ := nI_of h1
  have hb : ¬ b < 0 := by
    intro q
    apply h2
    rw [Int32.le_iff_toInt_le, nI_toInt hx]
    rw [Int32.lt_iff_toInt_lt, Int32.toInt_zero] at q
    omega
  obtain ⟨y, hy, rfl⟩ := nI_of hb
  have e1 : ¬ y ≤ x := fun q => h2 (nI_le q hx)
  have e2 : y ≤ 64 := (nI_leI (b := 64) hy (by omega)).mp h3
  rw [cl (n := i) (by omega), cl (n := j) (by omega), cl hx, cl hy]
  exact z_hold_ok hok hn hi hj (by omega) e2
theorem z_backI {m : q_S} {a b : Int32} (hok : z_ok m) (h : y_backOk m a b) : z_ok (z_back m a.toNatClampNeg b.toNatClampNeg) := by
  have hnh := hok.1.2.1
  obtain ⟨ha, h1, h2⟩ := h
  obtain ⟨i, hi, rfl⟩ := y_in (by omega) ha
  obtain ⟨_, _, w1, w2⟩ := hok.2.2.2.2.2.2.2.1 i hi
  rw [cl (n := i) (by omega)] at h1 h2 ⊢
  have hb : ¬ b < 0 := by
    intro q
    apply h1
    rw [Int32.lt_iff_toInt_lt, nI_toInt (by omega)]
    rw [Int32.lt_iff_toInt_lt, Int32.toInt_zero] at q
    omega
  obtain ⟨y, hy, rfl⟩ := nI_of hb
  rw [cl hy]
  have e1 : ¬ y < z_ho m i 2 := fun q => h1 (nI_lt q (by omega))
  have e2 := (nI_ltI hy (by omega)).mp h2
  exact z_back_ok hok hi (by omega) e2
theorem z_timerI {m : q_S} {g p a b : Int32} (hok : z_ok m) (hn : z_nt m < 12) (h : y_timerOk m g p a b) : z_ok (z_timer m g.toNatClampNeg p.toNatClampNeg a.toNatClampNeg b.toNatClampNeg) := by
  have hnp := hok.1.1
  obtain ⟨hg, hp, h1, h2, h3⟩ := h
  obtain ⟨i, hi, rfl⟩ := y_in (by omega) hg
  obtain ⟨j, hj, rfl⟩ := y_in (by omega) hp
  obtain ⟨x, hx, rfl⟩ := nI_of h1
  have hb : ¬ b < 0 := by
    intro q
    apply h2
    rw [Int32.lt_iff_toInt_lt] at q ⊢
    rw [nI_toInt hx]
    rw [Int32.toInt_zero] at q
    omega
  obtain ⟨y, hy, rfl⟩ := nI_of hb
  have e1 : ¬ y < x := fun q => h2 (nI_lt q hx)
  have e2 : y < 64 := (nI_ltI (b := 64) hy (by omega)).mp h3
  rw [cl (n := i) (by omega), cl (n := j) (by omega), cl hx, cl hy]
  exact z_timer_ok hok hn hi hj (by omega) e2
theorem L_eq {r : Int32} {P F : Prop} (k : P) : (r = r → P) ∧ (¬ r = r → F) := ⟨fun _ => k, fun z => absurd rfl z⟩
theorem lgc_self (x : Int64) : lg_cmp x x = 0 := by
  unfold lg_cmp
  rw [if_neg (fun q => by
    have q : x < x := q
    rw [Int64.lt_iff_toInt_lt] at q
    omega), if_pos rfl]
theorem L_eqL {r : Int64} {P F : Prop} (k : P) : (lg_cmp r r = 0 → P) ∧ (¬ lg_cmp r r = 0 → F) := ⟨fun _ => k, fun z => absurd (lgc_self r) z⟩
theorem L_C {m : q_S} {h g : q_H} (hc : z_C m h) (a : z_K h g) : z_C m g := z_C.keep a.fm hc
theorem L_M {m : q_S} {h g : q_H} (hm : z_M m h) (a : z_K h g) : z_M m g := z_M_iff.mpr (a.M (z_M_iff.mp hm))
set_option maxRecDepth 100000 in
set_option maxHeartbeats 4000000 in
theorem L_step {L : Nat} {xs : Nat → Int32} {Q : Int32 → q_H → Prop} {E : Int32 → q_H → Prop} {n : Nat} {x3 : Int32} {m : q_S} {h : q_H} (v0 : vp_in x3 L) (v1 : vp_in (x3 + 1) L) (v2 : vp_in (x3 + 2) L) (v3 : vp_in (x3 + 3) L) (v4 : vp_in (x3 + 4) L) (v5 : vp_in (x3 + 5) L) (v6 : vp_in (x3 + 6) L) (v7 : vp_in (x3 + 7) L) (hx : ¬ ((Int32.ofNat L) - 8) < x3) (hok : z_ok m) (hc : z_C m h) (hm : z_M m h) (ih : ∀ m g, z_ok m → z_C m g → z_M m g → lp_L_law_18 L xs Q E n (x3 + 8) g) : lp_L_law_18 L xs Q E (n + 1) x3 h := by
  -- a question: the class leaves hc, hm at g, the reference leaves them at u
  have q : ∀ {g u : q_H}, z_C m g → z_M m g → z_K g u → lp_L_law_18 L xs Q E n (x3 + 8) u := fun c d a => ih m _ hok (L_C c a) (L_M d a)
  have q3 : ∀ {g u : q_H}, z_F3 h g → z_K g u → lp_L_law_18 L xs Q E n (x3 + 8) u := fun b a => q (b.C hc) (z_M.keep b.fc hm) a
  have need : ∀ {a b c : Int32}, (c = 0 ∨ c = 1) → ∀ {P : Int32 → q_H → Prop}, (∀ r g, (wp_X5_need a b c g (fun r' g' => (r = r' → lp_L_law_18 L xs Q E n (x3 + 8) g') ∧ (¬ r = r' → Q 0 g'))) → P r g) → wp_X4_need a b c h P := by
    intro a b c h01 P hP
    refine C_need hok hc h01 (fun nn => hP _ _ ?_) (fun y g hg hF => hP _ _ ?_)
    · exact M_need hok hm h01 (fun _ => L_eq (ih m h hok hc hm)) (fun y => absurd y nn)
    · exact M_need hok (z_M.keep hF hm) h01 (fun nn => absurd y nn) (fun _ u hu hFu => L_eq (ih _ u (z_needI hok y) (z_C.keep hFu hg) hu))
  unfold lp_L_law_18
  refine ⟨fun z => absurd z hx, fun _ => ⟨v0, fun _ => ?_, fun _ => ?_, fun _ => ?_, fun _ => ?_, fun _ => ?_, fun _ => ?_, fun _ => ?_, fun _ => ?_, fun _ => ?_, fun _ => ?_, fun _ => ?_, fun _ => ?_, fun _ => ?_, fun _ => ?_, fun _ => ?_, fun _ => ?_, fun _ => ?_, fun _ => ?_, fun _ => ?_, fun _ => ?_, fun _ => ?_, fun _ => ?_, fun _ => ?_, fun _ => ?_, fun _ => ih m h hok hc hm⟩⟩
  -- 0 part
  · refine ⟨v1, v2, v3, v4, C_part hok hc (fun nn => ⟨v1, v2, v3, v4, ?_⟩) (fun y g hg hF => ⟨v1, v2, v3, v4, ?_⟩)⟩
    · exact M_part hok hm (fun _ => L_eq (ih m h hok hc hm)) (fun y => absurd y nn)
    · exact M_part hok (z_M.keep hF hm) (fun nn => absurd y nn) (fun _ u hu hFu => L_eq (ih _ u (z_partI hok y) (z_C.keep hFu hg) hu))
  -- 1 rise
  · refine ⟨v1, v2, v3, v4, v5, v6, v7, C_rise hok hc (fun nn => ⟨v1, v2, v3, v4, v5, v6, v7, ?_⟩) (fun y g hg hF => ⟨v1, v2, v3, v4, v5, v6, v7, ?_⟩)⟩
    · exact M_rise hok hm (fun _ => L_eq (ih m h hok hc hm)) (fun y => absurd y nn)
    · exact M_rise hok (z_M.keep hF hm) (fun nn => absurd y nn) (fun _ u hu hFu => L_eq (ih _ u (z_riseI hok y) (z_C.keep hFu hg) hu))
  -- 2 need
  · refine ⟨v1, v2, v3, fun z => ?_, fun z => ?_⟩
    · exact need (Or.inl rfl) (fun r g k => ⟨v1, v2, v3, fun _ => k, fun y => absurd z y⟩)
    · exact need (Or.inr rfl) (fun r g k => ⟨v1, v2, v3, fun y => absurd y z, fun _ => k⟩)
  -- 3 hold
  · refine ⟨v1, v2, v3, v4, C_hold hok hc (fun nn g hg hF => ⟨v1, v2, v3, v4, ?_⟩) (fun y y2 g hg hF => ⟨v1, v2, v3, v4, ?_⟩)⟩
    · exact M_hold hok (z_M.keep hF hm) (fun _ => L_eq (ih m g hok hg (z_M.keep hF hm))) (fun y y2 => absurd ⟨y, y2⟩ nn)
    · exact M_hold hok (z_M.keep hF hm) (fun nn => absurd ⟨y, y2⟩ nn) (fun _ _ u hu hFu => L_eq (ih _ u (z_holdI hok y2 y) (z_C.keep hFu hg) hu))
  -- 4 back
  · refine ⟨v1, v2, C_back hok hc (fun nn => ⟨v1, v2, ?_⟩) (fun y g hg hF => ⟨v1, v2, ?_⟩)⟩
    · exact M_back hok hm (fun _ => L_eq (ih m h hok hc hm)) (fun y => absurd y nn)
    · exact M_back hok (z_M.keep hF hm) (fun nn => absurd y nn) (fun _ u hu hFu => L_eq (ih _ u (z_backI hok y) (z_C.keep hFu hg) hu))
  -- 5 timer
  · refine ⟨v1, v2, v3, v4, C_timer hok hc (fun nn g hg hF => ⟨v1, v2, v3, v4, ?_⟩) (fun y y2 g hg hF => ⟨v1, v2, v3, v4, ?_⟩)⟩
    · exact M_timer hok (z_M.keep hF hm) (fun _ => L_eq (ih m g hok hg (z_M.keep hF hm))) (fun y y2 => absurd ⟨y, y2⟩ nn)
    · exact M_timer hok (z_M.keep hF hm) (fun nn => absurd ⟨y, y2⟩ nn) (fun _ _ u hu hFu => L_eq (ih _ u (z_timerI hok y2 y) (z_C.keep hFu hg) hu))
  -- 6 rule
  · refine ⟨v1, v2, v3, v4, C_rule hok hc (fun nn => ⟨v1, v2, v3, v4, ?_⟩) (fun y g hg hF => ⟨v1, v2, v3, v4, ?_⟩)⟩
    · exact M_rule hok hm (fun _ => L_eq (ih m h hok hc hm)) (fun y => absurd y nn)
    · exact M_rule hok (z_M.keep hF hm) (fun nn => absurd y nn) (fun _ u hu hFu => L_eq (ih _ u (z_ruleI hok y) (z_C.keep hFu hg) hu))
  -- 7 look
  · exact ⟨v1, C_look hok hc ⟨v1, M_look hok hm (fun u hu => L_eq (q hc hm hu))⟩⟩
  -- 8 held
  · exact ⟨v1, v2, C_held hok hc ⟨v1, v2, M_held hok hm (fun u hu => L_eq (q hc hm hu))⟩⟩
  -- 9 waking
  · exact ⟨v1, C_waking hok hc ⟨v1, M_waking hok hm (fun u hu => L_eq (q hc hm hu))⟩⟩
  -- 10 fires
  · exact ⟨v1, C_fires hok hc ⟨v1, M_fires hok hm (fun u hu => L_eq (q hc hm hu))⟩⟩
  -- 11 wanted
  · exact ⟨v1, v2, C_wanted hok hc ⟨v1, v2, M_wanted hok hm (fun u hu => L_eq (q hc hm hu))⟩⟩
  -- 12 when
  · exact ⟨v1, C_when hok hc ⟨v1, M_when hok hm (fun u hu => L_eqL (q hc hm hu))⟩⟩
  -- 13 spans
  · exact ⟨v1, C_spans hok hc (fun g hg => ⟨v1, M_spans hok (z_M.keep hg.fc hm) (fun u hu => L_eq (q3 hg hu))⟩)⟩
  -- 14 span
  · exact ⟨v1, v2, v3, C_span hok hc (fun g hg => ⟨v1, v2, v3, M_span hok (z_M.keep hg.fc hm) (fun u hu => L_eq (q3 hg hu))⟩)⟩
  -- 15 drain
  · exact ⟨v1, C_drain hok hc (fun g hg => ⟨v1, M_drain hok (z_M.keep hg.fc hm) (fun u hu => L_eq (q3 hg hu))⟩)⟩
  -- 16 ruled
  · exact ⟨v1, C_ruled hok hc (fun g hg => ⟨v1, M_ruled hok (z_M.keep hg.fc hm) (fun u hu => L_eq (q3 hg hu))⟩)⟩
  -- 17 state
  · exact ⟨v1, v2, C_state hok hc (fun g hg => ⟨v1, v2, M_state hok (z_M.keep hg.fc hm) (fun u hu => L_eq (q3 hg hu))⟩)⟩
  -- 18 ruledState
  · exact ⟨v1, v2, C_ruledState hok hc (fun g hg => ⟨v1, v2, M_ruledState hok (z_M.keep hg.fc hm) (fun u hu => L_eq (q3 hg hu))⟩)⟩
  -- 19 all
  · exact C_all hok hc (fun g hg => M_all hok (z_M.keep hg.fc hm) (fun u hu => L_eq (q3 hg hu)))
  -- 20 without
  · exact ⟨v1, C_without hok hc (fun g hg hF => ⟨v1, M_without hok (z_M.keep hF hm) (fun u hu hFu => L_eq (ih m u hok (z_C.keep hFu hg) hu))⟩)⟩
  -- 21 blame
  · exact ⟨v1, C_blame hok hc (fun g hg => ⟨v1, M_blame hok (z_M.keep hg.fc hm) (fun u hu => L_eq (q3 hg hu))⟩)⟩
  -- 22 order
  · exact ⟨v1, v2, C_order hok hc ⟨v1, v2, M_order hok hm (fun u hu => L_eq (q hc hm hu))⟩⟩
  -- 23 learn
  · refine ⟨v1, C_learn hok hc (fun nn => ⟨v1, ?_⟩) (fun p hp e x y z ho g hg hF => ⟨v1, ?_⟩)⟩
    · refine M_learn hok hm (fun _ => L_eq (ih m h hok hc hm)) (fun p hp e => absurd ?_ nn)
      rw [e]
      exact y_of (by have := hok.1.1; omega) hp
    · refine M_learn hok (z_M.keep hF hm) (fun nn => absurd ?_ nn) (fun p' hp' e' x' y' z' ho' u hu hFu => ?_)
      · rw [e]
        exact y_of (by have := hok.1.1; omega) hp
      · have hnp := hok.1.1
        have ep : p = p' := (nI_eq (by omega) (by omega)).mp (e.symm.trans e')
        subst ep
        obtain ⟨rfl, rfl, rfl⟩ := z_opt_uniq ho ho'
        exact L_eq (ih _ u (z_rule_ok hok hp ho.1 ho.2.1 ho.2.2.1) (z_C.keep hFu hg) hu)
end
