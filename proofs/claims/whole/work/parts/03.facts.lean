/-! ===== facts of the tables ===== -/
theorem q_dk_X0_add : ∀ q ∈ q_t_X0_add, decode cX0_add q.1 = .ok q.2 := by decide +kernel
theorem q_dk_X0_size : ∀ q ∈ q_t_X0_size, decode cX0_size q.1 = .ok q.2 := by decide +kernel
theorem q_dk_X0_has : ∀ q ∈ q_t_X0_has, decode cX0_has q.1 = .ok q.2 := by decide +kernel
theorem q_dk_X0_programOf : ∀ q ∈ q_t_X0_programOf, decode cX0_programOf q.1 = .ok q.2 := by decide +kernel
theorem q_dk_X0_partOf : ∀ q ∈ q_t_X0_partOf, decode cX0_partOf q.1 = .ok q.2 := by decide +kernel
theorem q_dk_X0_fromOf : ∀ q ∈ q_t_X0_fromOf, decode cX0_fromOf q.1 = .ok q.2 := by decide +kernel
theorem q_dk_X0_toOf : ∀ q ∈ q_t_X0_toOf, decode cX0_toOf q.1 = .ok q.2 := by decide +kernel
theorem q_dk_X0_ticksOf : ∀ q ∈ q_t_X0_ticksOf, decode cX0_ticksOf q.1 = .ok q.2 := by decide +kernel
theorem q_dk_X0_endAhead : ∀ q ∈ q_t_X0_endAhead, decode cX0_endAhead q.1 = .ok q.2 := by decide +kernel
theorem q_dk_X0_firstEndWithNone : ∀ q ∈ q_t_X0_firstEndWithNone, decode cX0_firstEndWithNone q.1 = .ok q.2 := by decide +kernel
theorem q_dk_X1_setDrains : ∀ q ∈ q_t_X1_setDrains, decode cX1_setDrains q.1 = .ok q.2 := by decide +kernel
theorem q_dk_X1_setCosts : ∀ q ∈ q_t_X1_setCosts, decode cX1_setCosts q.1 = .ok q.2 := by decide +kernel
theorem q_dk_X1_setRising : ∀ q ∈ q_t_X1_setRising, decode cX1_setRising q.1 = .ok q.2 := by decide +kernel
theorem q_dk_X1_setThresholds : ∀ q ∈ q_t_X1_setThresholds, decode cX1_setThresholds q.1 = .ok q.2 := by decide +kernel
theorem q_dk_X1_drainIn : ∀ q ∈ q_t_X1_drainIn, decode cX1_drainIn q.1 = .ok q.2 := by decide +kernel
theorem q_dk_X1_drainAwake : ∀ q ∈ q_t_X1_drainAwake, decode cX1_drainAwake q.1 = .ok q.2 := by decide +kernel
theorem q_dk_X1_restIn : ∀ q ∈ q_t_X1_restIn, decode cX1_restIn q.1 = .ok q.2 := by decide +kernel
theorem q_dk_X1_sumIn : ∀ q ∈ q_t_X1_sumIn, decode cX1_sumIn q.1 = .ok q.2 := by decide +kernel
theorem q_dk_X1_bestState : ∀ q ∈ q_t_X1_bestState, decode cX1_bestState q.1 = .ok q.2 := by decide +kernel
theorem q_dk_X1_planned : ∀ q ∈ q_t_X1_planned, decode cX1_planned q.1 = .ok q.2 := by decide +kernel
theorem q_dk_X1_stateByRule : ∀ q ∈ q_t_X1_stateByRule, decode cX1_stateByRule q.1 = .ok q.2 := by decide +kernel
theorem q_dk_X1_restByRule : ∀ q ∈ q_t_X1_restByRule, decode cX1_restByRule q.1 = .ok q.2 := by decide +kernel
theorem q_dk_X1_sumByRule : ∀ q ∈ q_t_X1_sumByRule, decode cX1_sumByRule q.1 = .ok q.2 := by decide +kernel
theorem q_dk_X1_spanByRule : ∀ q ∈ q_t_X1_spanByRule, decode cX1_spanByRule q.1 = .ok q.2 := by decide +kernel
theorem q_dk_X1_sumOfTry : ∀ q ∈ q_t_X1_sumOfTry, decode cX1_sumOfTry q.1 = .ok q.2 := by decide +kernel
theorem q_dk_X1_takeBestThresholds : ∀ q ∈ q_t_X1_takeBestThresholds, decode cX1_takeBestThresholds q.1 = .ok q.2 := by decide +kernel
theorem q_dk_X1_bestLaterOff : ∀ q ∈ q_t_X1_bestLaterOff, decode cX1_bestLaterOff q.1 = .ok q.2 := by decide +kernel
theorem q_dk_X2_layOut : ∀ q ∈ q_t_X2_layOut, decode cX2_layOut q.1 = .ok q.2 := by decide +kernel
theorem q_dk_X2_size : ∀ q ∈ q_t_X2_size, decode cX2_size q.1 = .ok q.2 := by decide +kernel
theorem q_dk_X2_has : ∀ q ∈ q_t_X2_has, decode cX2_has q.1 = .ok q.2 := by decide +kernel
theorem q_dk_X2_firstOf : ∀ q ∈ q_t_X2_firstOf, decode cX2_firstOf q.1 = .ok q.2 := by decide +kernel
theorem q_dk_X2_lenOf : ∀ q ∈ q_t_X2_lenOf, decode cX2_lenOf q.1 = .ok q.2 := by decide +kernel
theorem q_dk_X2_endsAll : ∀ q ∈ q_t_X2_endsAll, decode cX2_endsAll q.1 = .ok q.2 := by decide +kernel
theorem q_dk_X2_find : ∀ q ∈ q_t_X2_find, decode cX2_find q.1 = .ok q.2 := by decide +kernel
theorem q_dk_X2_longest : ∀ q ∈ q_t_X2_longest, decode cX2_longest q.1 = .ok q.2 := by decide +kernel
theorem q_dk_X3_clear : ∀ q ∈ q_t_X3_clear, decode cX3_clear q.1 = .ok q.2 := by decide +kernel
theorem q_dk_X3_add : ∀ q ∈ q_t_X3_add, decode cX3_add q.1 = .ok q.2 := by decide +kernel
theorem q_dk_X3_spread : ∀ q ∈ q_t_X3_spread, decode cX3_spread q.1 = .ok q.2 := by decide +kernel
theorem q_dk_X3_addAll : ∀ q ∈ q_t_X3_addAll, decode cX3_addAll q.1 = .ok q.2 := by decide +kernel
theorem q_dk_X3_ticksBy : ∀ q ∈ q_t_X3_ticksBy, decode cX3_ticksBy q.1 = .ok q.2 := by decide +kernel
theorem q_dk_X3_ticksOf : ∀ q ∈ q_t_X3_ticksOf, decode cX3_ticksOf q.1 = .ok q.2 := by decide +kernel
theorem q_dk_X3_programsAt : ∀ q ∈ q_t_X3_programsAt, decode cX3_programsAt q.1 = .ok q.2 := by decide +kernel
theorem q_dk_X4_part : ∀ q ∈ q_t_X4_part, decode cX4_part q.1 = .ok q.2 := by decide +kernel
theorem q_dk_X4_rise : ∀ q ∈ q_t_X4_rise, decode cX4_rise q.1 = .ok q.2 := by decide +kernel
theorem q_dk_X4_need : ∀ q ∈ q_t_X4_need, decode cX4_need q.1 = .ok q.2 := by decide +kernel
theorem q_dk_X4_hold : ∀ q ∈ q_t_X4_hold, decode cX4_hold q.1 = .ok q.2 := by decide +kernel
theorem q_dk_X4_back : ∀ q ∈ q_t_X4_back, decode cX4_back q.1 = .ok q.2 := by decide +kernel
theorem q_dk_X4_timer : ∀ q ∈ q_t_X4_timer, decode cX4_timer q.1 = .ok q.2 := by decide +kernel
theorem q_dk_X4_rule : ∀ q ∈ q_t_X4_rule, decode cX4_rule q.1 = .ok q.2 := by decide +kernel
theorem q_dk_X4_learn : ∀ q ∈ q_t_X4_learn, decode cX4_learn q.1 = .ok q.2 := by decide +kernel
theorem q_dk_X4_look : ∀ q ∈ q_t_X4_look, decode cX4_look q.1 = .ok q.2 := by decide +kernel
theorem q_dk_X4_held : ∀ q ∈ q_t_X4_held, decode cX4_held q.1 = .ok q.2 := by decide +kernel
theorem q_dk_X4_waking : ∀ q ∈ q_t_X4_waking, decode cX4_waking q.1 = .ok q.2 := by decide +kernel
theorem q_dk_X4_fires : ∀ q ∈ q_t_X4_fires, decode cX4_fires q.1 = .ok q.2 := by decide +kernel
theorem q_dk_X4_wanted : ∀ q ∈ q_t_X4_wanted, decode cX4_wanted q.1 = .ok q.2 := by decide +kernel
theorem q_dk_X4_when : ∀ q ∈ q_t_X4_when, decode cX4_when q.1 = .ok q.2 := by decide +kernel
theorem q_dk_X4_spans : ∀ q ∈ q_t_X4_spans, decode cX4_spans q.1 = .ok q.2 := by decide +kernel
theorem q_dk_X4_span : ∀ q ∈ q_t_X4_span, decode cX4_span q.1 = .ok q.2 := by decide +kernel
theorem q_dk_X4_drain : ∀ q ∈ q_t_X4_drain, decode cX4_drain q.1 = .ok q.2 := by decide +kernel
theorem q_dk_X4_ruled : ∀ q ∈ q_t_X4_ruled, decode cX4_ruled q.1 = .ok q.2 := by decide +kernel
theorem q_dk_X4_state : ∀ q ∈ q_t_X4_state, decode cX4_state q.1 = .ok q.2 := by decide +kernel
theorem q_dk_X4_ruledState : ∀ q ∈ q_t_X4_ruledState, decode cX4_ruledState q.1 = .ok q.2 := by decide +kernel
theorem q_dk_X4_all : ∀ q ∈ q_t_X4_all, decode cX4_all q.1 = .ok q.2 := by decide +kernel
theorem q_dk_X4_without : ∀ q ∈ q_t_X4_without, decode cX4_without q.1 = .ok q.2 := by decide +kernel
theorem q_dk_X4_blame : ∀ q ∈ q_t_X4_blame, decode cX4_blame q.1 = .ok q.2 := by decide +kernel
theorem q_dk_X4_order : ∀ q ∈ q_t_X4_order, decode cX4_order q.1 = .ok q.2 := by decide +kernel
theorem q_dk_X4_isPart : ∀ q ∈ q_t_X4_isPart, decode cX4_isPart q.1 = .ok q.2 := by decide +kernel
theorem q_dk_X4_isProgram : ∀ q ∈ q_t_X4_isProgram, decode cX4_isProgram q.1 = .ok q.2 := by decide +kernel
theorem q_dk_X4_isTick : ∀ q ∈ q_t_X4_isTick, decode cX4_isTick q.1 = .ok q.2 := by decide +kernel
theorem q_dk_X4_rises : ∀ q ∈ q_t_X4_rises, decode cX4_rises q.1 = .ok q.2 := by decide +kernel
theorem q_dk_X4_hasPart : ∀ q ∈ q_t_X4_hasPart, decode cX4_hasPart q.1 = .ok q.2 := by decide +kernel
theorem q_dk_X4_hasTick : ∀ q ∈ q_t_X4_hasTick, decode cX4_hasTick q.1 = .ok q.2 := by decide +kernel
theorem q_dk_X4_leastTick : ∀ q ∈ q_t_X4_leastTick, decode cX4_leastTick q.1 = .ok q.2 := by decide +kernel
theorem q_dk_X4_ticksAhead : ∀ q ∈ q_t_X4_ticksAhead, decode cX4_ticksAhead q.1 = .ok q.2 := by decide +kernel
theorem q_dk_X4_leadsTo : ∀ q ∈ q_t_X4_leadsTo, decode cX4_leadsTo q.1 = .ok q.2 := by decide +kernel
theorem q_dk_X4_fewestWakings : ∀ q ∈ q_t_X4_fewestWakings, decode cX4_fewestWakings q.1 = .ok q.2 := by decide +kernel
theorem q_dk_X4_gatherWants : ∀ q ∈ q_t_X4_gatherWants, decode cX4_gatherWants q.1 = .ok q.2 := by decide +kernel
theorem q_dk_X4_layOutIdle : ∀ q ∈ q_t_X4_layOutIdle, decode cX4_layOutIdle q.1 = .ok q.2 := by decide +kernel
theorem q_dk_X4_drainInPlan : ∀ q ∈ q_t_X4_drainInPlan, decode cX4_drainInPlan q.1 = .ok q.2 := by decide +kernel
theorem q_dk_X4_drainByRule : ∀ q ∈ q_t_X4_drainByRule, decode cX4_drainByRule q.1 = .ok q.2 := by decide +kernel
theorem q_dk_X4_drainInSpans : ∀ q ∈ q_t_X4_drainInSpans, decode cX4_drainInSpans q.1 = .ok q.2 := by decide +kernel
theorem q_dk_X4_drainOfAll : ∀ q ∈ q_t_X4_drainOfAll, decode cX4_drainOfAll q.1 = .ok q.2 := by decide +kernel
theorem q_dk_X4_blameIn : ∀ q ∈ q_t_X4_blameIn, decode cX4_blameIn q.1 = .ok q.2 := by decide +kernel
theorem q_dk_X4_gettingUp : ∀ q ∈ q_t_X4_gettingUp, decode cX4_gettingUp q.1 = .ok q.2 := by decide +kernel
theorem q_dk_X4_leastReady : ∀ q ∈ q_t_X4_leastReady, decode cX4_leastReady q.1 = .ok q.2 := by decide +kernel
theorem q_dk_X5_isIn : ∀ q ∈ q_t_X5_isIn, decode cX5_isIn q.1 = .ok q.2 := by decide +kernel
theorem q_dk_X5_isPart : ∀ q ∈ q_t_X5_isPart, decode cX5_isPart q.1 = .ok q.2 := by decide +kernel
theorem q_dk_X5_isTick : ∀ q ∈ q_t_X5_isTick, decode cX5_isTick q.1 = .ok q.2 := by decide +kernel
theorem q_dk_X5_part : ∀ q ∈ q_t_X5_part, decode cX5_part q.1 = .ok q.2 := by decide +kernel
theorem q_dk_X5_rise : ∀ q ∈ q_t_X5_rise, decode cX5_rise q.1 = .ok q.2 := by decide +kernel
theorem q_dk_X5_reaches : ∀ q ∈ q_t_X5_reaches, decode cX5_reaches q.1 = .ok q.2 := by decide +kernel
theorem q_dk_X5_need : ∀ q ∈ q_t_X5_need, decode cX5_need q.1 = .ok q.2 := by decide +kernel
theorem q_dk_X5_isProgram : ∀ q ∈ q_t_X5_isProgram, decode cX5_isProgram q.1 = .ok q.2 := by decide +kernel
theorem q_dk_X5_hold : ∀ q ∈ q_t_X5_hold, decode cX5_hold q.1 = .ok q.2 := by decide +kernel
theorem q_dk_X5_back : ∀ q ∈ q_t_X5_back, decode cX5_back q.1 = .ok q.2 := by decide +kernel
theorem q_dk_X5_timer : ∀ q ∈ q_t_X5_timer, decode cX5_timer q.1 = .ok q.2 := by decide +kernel
theorem q_dk_X5_rule : ∀ q ∈ q_t_X5_rule, decode cX5_rule q.1 = .ok q.2 := by decide +kernel
theorem q_dk_X5_wakes : ∀ q ∈ q_t_X5_wakes, decode cX5_wakes q.1 = .ok q.2 := by decide +kernel
theorem q_dk_X5_firesAt : ∀ q ∈ q_t_X5_firesAt, decode cX5_firesAt q.1 = .ok q.2 := by decide +kernel
theorem q_dk_X5_waking : ∀ q ∈ q_t_X5_waking, decode cX5_waking q.1 = .ok q.2 := by decide +kernel
theorem q_dk_X5_fires : ∀ q ∈ q_t_X5_fires, decode cX5_fires q.1 = .ok q.2 := by decide +kernel
theorem q_dk_X5_look : ∀ q ∈ q_t_X5_look, decode cX5_look q.1 = .ok q.2 := by decide +kernel
theorem q_dk_X5_held : ∀ q ∈ q_t_X5_held, decode cX5_held q.1 = .ok q.2 := by decide +kernel
theorem q_dk_X5_wants : ∀ q ∈ q_t_X5_wants, decode cX5_wants q.1 = .ok q.2 := by decide +kernel
theorem q_dk_X5_isWanted : ∀ q ∈ q_t_X5_isWanted, decode cX5_isWanted q.1 = .ok q.2 := by decide +kernel
theorem q_dk_X5_wanted : ∀ q ∈ q_t_X5_wanted, decode cX5_wanted q.1 = .ok q.2 := by decide +kernel
theorem q_dk_X5_when : ∀ q ∈ q_t_X5_when, decode cX5_when q.1 = .ok q.2 := by decide +kernel
theorem q_dk_X5_begins : ∀ q ∈ q_t_X5_begins, decode cX5_begins q.1 = .ok q.2 := by decide +kernel
theorem q_dk_X5_isLast : ∀ q ∈ q_t_X5_isLast, decode cX5_isLast q.1 = .ok q.2 := by decide +kernel
theorem q_dk_X5_costs : ∀ q ∈ q_t_X5_costs, decode cX5_costs q.1 = .ok q.2 := by decide +kernel
theorem q_dk_X5_choice : ∀ q ∈ q_t_X5_choice, decode cX5_choice q.1 = .ok q.2 := by decide +kernel
theorem q_dk_X5_spans : ∀ q ∈ q_t_X5_spans, decode cX5_spans q.1 = .ok q.2 := by decide +kernel
theorem q_dk_X5_span : ∀ q ∈ q_t_X5_span, decode cX5_span q.1 = .ok q.2 := by decide +kernel
theorem q_dk_X5_ofSpan : ∀ q ∈ q_t_X5_ofSpan, decode cX5_ofSpan q.1 = .ok q.2 := by decide +kernel
theorem q_dk_X5_drained : ∀ q ∈ q_t_X5_drained, decode cX5_drained q.1 = .ok q.2 := by decide +kernel
theorem q_dk_X5_drain : ∀ q ∈ q_t_X5_drain, decode cX5_drain q.1 = .ok q.2 := by decide +kernel
theorem q_dk_X5_state : ∀ q ∈ q_t_X5_state, decode cX5_state q.1 = .ok q.2 := by decide +kernel
theorem q_dk_X5_ruleState : ∀ q ∈ q_t_X5_ruleState, decode cX5_ruleState q.1 = .ok q.2 := by decide +kernel
theorem q_dk_X5_ahead : ∀ q ∈ q_t_X5_ahead, decode cX5_ahead q.1 = .ok q.2 := by decide +kernel
theorem q_dk_X5_rises : ∀ q ∈ q_t_X5_rises, decode cX5_rises q.1 = .ok q.2 := by decide +kernel
theorem q_dk_X5_ruledSpan : ∀ q ∈ q_t_X5_ruledSpan, decode cX5_ruledSpan q.1 = .ok q.2 := by decide +kernel
theorem q_dk_X5_ruledSum : ∀ q ∈ q_t_X5_ruledSum, decode cX5_ruledSum q.1 = .ok q.2 := by decide +kernel
theorem q_dk_X5_ruled : ∀ q ∈ q_t_X5_ruled, decode cX5_ruled q.1 = .ok q.2 := by decide +kernel
theorem q_dk_X5_ruledState : ∀ q ∈ q_t_X5_ruledState, decode cX5_ruledState q.1 = .ok q.2 := by decide +kernel
theorem q_dk_X5_learn : ∀ q ∈ q_t_X5_learn, decode cX5_learn q.1 = .ok q.2 := by decide +kernel
theorem q_dk_X5_all : ∀ q ∈ q_t_X5_all, decode cX5_all q.1 = .ok q.2 := by decide +kernel
theorem q_dk_X5_without : ∀ q ∈ q_t_X5_without, decode cX5_without q.1 = .ok q.2 := by decide +kernel
theorem q_dk_X5_bits : ∀ q ∈ q_t_X5_bits, decode cX5_bits q.1 = .ok q.2 := by decide +kernel
theorem q_dk_X5_blame : ∀ q ∈ q_t_X5_blame, decode cX5_blame q.1 = .ok q.2 := by decide +kernel
theorem q_dk_X5_order : ∀ q ∈ q_t_X5_order, decode cX5_order q.1 = .ok q.2 := by decide +kernel
theorem q_dk_X5_isFirst : ∀ q ∈ q_t_X5_isFirst, decode cX5_isFirst q.1 = .ok q.2 := by decide +kernel
theorem q_dk_J13_bitCount_95d88 : ∀ q ∈ q_t_J13_bitCount_95d88, decode cJ13_bitCount_95d88 q.1 = .ok q.2 := by decide +kernel
theorem q_pairs_ok : ∀ x ∈ q_pairs, ∀ q ∈ x.1, decode x.2 q.1 = .ok q.2 := by
  unfold q_pairs
  exact List.forall_mem_cons.mpr ⟨q_dk_X0_add, List.forall_mem_cons.mpr ⟨q_dk_X0_size, List.forall_mem_cons.mpr ⟨q_dk_X0_has, List.forall_mem_cons.mpr ⟨q_dk_X0_programOf, List.forall_mem_cons.mpr ⟨q_dk_X0_partOf, List.forall_mem_cons.mpr ⟨q_dk_X0_fromOf, List.forall_mem_cons.mpr ⟨q_dk_X0_toOf, List.forall_mem_cons.mpr ⟨q_dk_X0_ticksOf, List.forall_mem_cons.mpr ⟨q_dk_X0_endAhead, List.forall_mem_cons.mpr ⟨q_dk_X0_firstEndWithNone, List.forall_mem_cons.mpr ⟨q_dk_X1_setDrains, List.forall_mem_cons.mpr ⟨q_dk_X1_setCosts, List.forall_mem_cons.mpr ⟨q_dk_X1_setRising, List.forall_mem_cons.mpr ⟨q_dk_X1_setThresholds, List.forall_mem_cons.mpr ⟨q_dk_X1_drainIn, List.forall_mem_cons.mpr ⟨q_dk_X1_drainAwake, List.forall_mem_cons.mpr ⟨q_dk_X1_restIn, List.forall_mem_cons.mpr ⟨q_dk_X1_sumIn, List.forall_mem_cons.mpr ⟨q_dk_X1_bestState, List.forall_mem_cons.mpr ⟨q_dk_X1_planned, List.forall_mem_cons.mpr ⟨q_dk_X1_stateByRule, List.forall_mem_cons.mpr ⟨q_dk_X1_restByRule, List.forall_mem_cons.mpr ⟨q_dk_X1_sumByRule, List.forall_mem_cons.mpr ⟨q_dk_X1_spanByRule, List.forall_mem_cons.mpr ⟨q_dk_X1_sumOfTry, List.forall_mem_cons.mpr ⟨q_dk_X1_takeBestThresholds, List.forall_mem_cons.mpr ⟨q_dk_X1_bestLaterOff, List.forall_mem_cons.mpr ⟨q_dk_X2_layOut, List.forall_mem_cons.mpr ⟨q_dk_X2_size, List.forall_mem_cons.mpr ⟨q_dk_X2_has, List.forall_mem_cons.mpr ⟨q_dk_X2_firstOf, List.forall_mem_cons.mpr ⟨q_dk_X2_lenOf, List.forall_mem_cons.mpr ⟨q_dk_X2_endsAll, List.forall_mem_cons.mpr ⟨q_dk_X2_find, List.forall_mem_cons.mpr ⟨q_dk_X2_longest, List.forall_mem_cons.mpr ⟨q_dk_X3_clear, List.forall_mem_cons.mpr ⟨q_dk_X3_add, List.forall_mem_cons.mpr ⟨q_dk_X3_spread, List.forall_mem_cons.mpr ⟨q_dk_X3_addAll, List.forall_mem_cons.mpr ⟨q_dk_X3_ticksBy, List.forall_mem_cons.mpr ⟨q_dk_X3_ticksOf, List.forall_mem_cons.mpr ⟨q_dk_X3_programsAt, List.forall_mem_cons.mpr ⟨q_dk_X4_part, List.forall_mem_cons.mpr ⟨q_dk_X4_rise, List.forall_mem_cons.mpr ⟨q_dk_X4_need, List.forall_mem_cons.mpr ⟨q_dk_X4_hold, List.forall_mem_cons.mpr ⟨q_dk_X4_back, List.forall_mem_cons.mpr ⟨q_dk_X4_timer, List.forall_mem_cons.mpr ⟨q_dk_X4_rule, List.forall_mem_cons.mpr ⟨q_dk_X4_learn, List.forall_mem_cons.mpr ⟨q_dk_X4_look, List.forall_mem_cons.mpr ⟨q_dk_X4_held, List.forall_mem_cons.mpr ⟨q_dk_X4_waking, List.forall_mem_cons.mpr ⟨q_dk_X4_fires, List.forall_mem_cons.mpr ⟨q_dk_X4_wanted, List.forall_mem_cons.mpr ⟨q_dk_X4_when, List.forall_mem_cons.mpr ⟨q_dk_X4_spans, List.forall_mem_cons.mpr ⟨q_dk_X4_span, List.forall_mem_cons.mpr ⟨q_dk_X4_drain, List.forall_mem_cons.mpr ⟨q_dk_X4_ruled, List.forall_mem_cons.mpr ⟨q_dk_X4_state, List.forall_mem_cons.mpr ⟨q_dk_X4_ruledState, List.forall_mem_cons.mpr ⟨q_dk_X4_all, List.forall_mem_cons.mpr ⟨q_dk_X4_without, List.forall_mem_cons.mpr ⟨q_dk_X4_blame, List.forall_mem_cons.mpr ⟨q_dk_X4_order, List.forall_mem_cons.mpr ⟨q_dk_X4_isPart, List.forall_mem_cons.mpr ⟨q_dk_X4_isProgram, List.forall_mem_cons.mpr ⟨q_dk_X4_isTick, List.forall_mem_cons.mpr ⟨q_dk_X4_rises, List.forall_mem_cons.mpr ⟨q_dk_X4_hasPart, List.forall_mem_cons.mpr ⟨q_dk_X4_hasTick, List.forall_mem_cons.mpr ⟨q_dk_X4_leastTick, List.forall_mem_cons.mpr ⟨q_dk_X4_ticksAhead, List.forall_mem_cons.mpr ⟨q_dk_X4_leadsTo, List.forall_mem_cons.mpr ⟨q_dk_X4_fewestWakings, List.forall_mem_cons.mpr ⟨q_dk_X4_gatherWants, List.forall_mem_cons.mpr ⟨q_dk_X4_layOutIdle, List.forall_mem_cons.mpr ⟨q_dk_X4_drainInPlan, List.forall_mem_cons.mpr ⟨q_dk_X4_drainByRule, List.forall_mem_cons.mpr ⟨q_dk_X4_drainInSpans, List.forall_mem_cons.mpr ⟨q_dk_X4_drainOfAll, List.forall_mem_cons.mpr ⟨q_dk_X4_blameIn, List.forall_mem_cons.mpr ⟨q_dk_X4_gettingUp, List.forall_mem_cons.mpr ⟨q_dk_X4_leastReady, List.forall_mem_cons.mpr ⟨q_dk_X5_isIn, List.forall_mem_cons.mpr ⟨q_dk_X5_isPart, List.forall_mem_cons.mpr ⟨q_dk_X5_isTick, List.forall_mem_cons.mpr ⟨q_dk_X5_part, List.forall_mem_cons.mpr ⟨q_dk_X5_rise, List.forall_mem_cons.mpr ⟨q_dk_X5_reaches, List.forall_mem_cons.mpr ⟨q_dk_X5_need, List.forall_mem_cons.mpr ⟨q_dk_X5_isProgram, List.forall_mem_cons.mpr ⟨q_dk_X5_hold, List.forall_mem_cons.mpr ⟨q_dk_X5_back, List.forall_mem_cons.mpr ⟨q_dk_X5_timer, List.forall_mem_cons.mpr ⟨q_dk_X5_rule, List.forall_mem_cons.mpr ⟨q_dk_X5_wakes, List.forall_mem_cons.mpr ⟨q_dk_X5_firesAt, List.forall_mem_cons.mpr ⟨q_dk_X5_waking, List.forall_mem_cons.mpr ⟨q_dk_X5_fires, List.forall_mem_cons.mpr ⟨q_dk_X5_look, List.forall_mem_cons.mpr ⟨q_dk_X5_held, List.forall_mem_cons.mpr ⟨q_dk_X5_wants, List.forall_mem_cons.mpr ⟨q_dk_X5_isWanted, List.forall_mem_cons.mpr ⟨q_dk_X5_wanted, List.forall_mem_cons.mpr ⟨q_dk_X5_when, List.forall_mem_cons.mpr ⟨q_dk_X5_begins, List.forall_mem_cons.mpr ⟨q_dk_X5_isLast, List.forall_mem_cons.mpr ⟨q_dk_X5_costs, List.forall_mem_cons.mpr ⟨q_dk_X5_choice, List.forall_mem_cons.mpr ⟨q_dk_X5_spans, List.forall_mem_cons.mpr ⟨q_dk_X5_span, List.forall_mem_cons.mpr ⟨q_dk_X5_ofSpan, List.forall_mem_cons.mpr ⟨q_dk_X5_drained, List.forall_mem_cons.mpr ⟨q_dk_X5_drain, List.forall_mem_cons.mpr ⟨q_dk_X5_state, List.forall_mem_cons.mpr ⟨q_dk_X5_ruleState, List.forall_mem_cons.mpr ⟨q_dk_X5_ahead, List.forall_mem_cons.mpr ⟨q_dk_X5_rises, List.forall_mem_cons.mpr ⟨q_dk_X5_ruledSpan, List.forall_mem_cons.mpr ⟨q_dk_X5_ruledSum, List.forall_mem_cons.mpr ⟨q_dk_X5_ruled, List.forall_mem_cons.mpr ⟨q_dk_X5_ruledState, List.forall_mem_cons.mpr ⟨q_dk_X5_learn, List.forall_mem_cons.mpr ⟨q_dk_X5_all, List.forall_mem_cons.mpr ⟨q_dk_X5_without, List.forall_mem_cons.mpr ⟨q_dk_X5_bits, List.forall_mem_cons.mpr ⟨q_dk_X5_blame, List.forall_mem_cons.mpr ⟨q_dk_X5_order, List.forall_mem_cons.mpr ⟨q_dk_X5_isFirst, List.forall_mem_cons.mpr ⟨q_dk_J13_bitCount_95d88, fun _ h => absurd h List.not_mem_nil⟩⟩⟩⟩⟩⟩⟩⟩⟩⟩⟩⟩⟩⟩⟩⟩⟩⟩⟩⟩⟩⟩⟩⟩⟩⟩⟩⟩⟩⟩⟩⟩⟩⟩⟩⟩⟩⟩⟩⟩⟩⟩⟩⟩⟩⟩⟩⟩⟩⟩⟩⟩⟩⟩⟩⟩⟩⟩⟩⟩⟩⟩⟩⟩⟩⟩⟩⟩⟩⟩⟩⟩⟩⟩⟩⟩⟩⟩⟩⟩⟩⟩⟩⟩⟩⟩⟩⟩⟩⟩⟩⟩⟩⟩⟩⟩⟩⟩⟩⟩⟩⟩⟩⟩⟩⟩⟩⟩⟩⟩⟩⟩⟩⟩⟩⟩⟩⟩⟩⟩⟩⟩⟩⟩⟩⟩⟩⟩⟩⟩⟩⟩
theorem q_pcs_mem : ∀ (l : List (Nat × Instr × Nat)) (pc : Nat) (r : Instr × Nat), q_pcs l pc = some r → (pc, r) ∈ l
  | [], _, _, h => by cases h
  | q :: l, pc, r, h => by
    unfold q_pcs at h
    cases hb : Nat.beq q.1 pc with
    | true =>
      rw [hb] at h
      have e1 := Nat.eq_of_beq_eq_true hb
      have e2 : q.2 = r := Option.some.inj h
      rw [← e1, ← e2]
      exact List.mem_cons_self
    | false =>
      rw [hb] at h
      exact List.mem_cons_of_mem _ (q_pcs_mem l pc r h)
theorem q_getD_mem {α : Type} (l : List α) (n : Nat) (a : α) : l.getD n a ∈ l ∨ l.getD n a = a := by
  rcases Nat.lt_or_ge n l.length with hl | hl
  · left
    rw [List.getD_eq_getElem?_getD, List.getElem?_eq_getElem hl]
    exact List.getElem_mem hl
  · right
    rw [List.getD_eq_getElem?_getD, List.getElem?_eq_none hl]
    rfl
theorem q_tab_ok0 {l : List (List (Nat × Instr × Nat) × ByteArray)} (hk : ∀ x ∈ l, ∀ q ∈ x.1, decode x.2 q.1 = .ok q.2) (x : List (Nat × Instr × Nat) × ByteArray) (hx : x ∈ l ∨ x = ([], code)) (pc : Nat) (r : Instr × Nat) (h : q_pcs x.1 pc = some r) : decode x.2 pc = .ok r := by
  have hm := q_pcs_mem _ _ _ h
  rcases hx with hx | hx
  · exact hk x hx (pc, r) hm
  · rw [hx] at hm
    exact absurd hm List.not_mem_nil
theorem q_tab_ok (mi pc : Nat) (r : Instr × Nat) (h : q_tab mi pc = some r) : decode (q_mC mi) pc = .ok r := q_tab_ok0 q_pairs_ok _ (q_getD_mem q_pairs mi ([], code)) pc r h
theorem q_look_mem {α : Type} : ∀ (l : List ((Nat × Nat) × α)) (a b : Nat) (r : α), q_look l a b = some r → ((a, b), r) ∈ l
  | [], _, _, _, h => by cases h
  | q :: l, a, b, r, h => by
    unfold q_look at h
    cases hb : (Nat.beq q.1.1 a && Nat.beq q.1.2 b) with
    | true =>
      rw [hb] at h
      have e0 := Bool.and_eq_true_iff.mp hb
      have e1 := Nat.eq_of_beq_eq_true e0.1
      have e2 := Nat.eq_of_beq_eq_true e0.2
      have e3 : q.2 = r := Option.some.inj h
      rw [← e1, ← e2, ← e3]
      exact List.mem_cons_self
    | false =>
      rw [hb] at h
      exact List.mem_cons_of_mem _ (q_look_mem l a b r h)
/-- the words that every method bears: those that stay -/
def q_gw : List Cond := lw_tbl.filter goodWord
theorem q_in_gw {ws : List Cond} (ix : List Nat) (h : ws = ix.filterMap (fun i => lw_tbl[i]?)) (hg : ws.all goodWord = true) : ∀ w ∈ ws, w ∈ q_gw := by
  intro w hw
  refine List.mem_filter.mpr ⟨?_, List.all_eq_true.mp hg w hw⟩
  rw [h] at hw
  obtain ⟨i, -, hi⟩ := List.mem_filterMap.mp hw
  exact List.mem_of_getElem? hi
abbrev q_classes : List vw_C := [(RX0, TX0, 5), (RX1, TX1, 4), (RX2, TX2, 3), (RX3, TX3, 1), (RX4, TX4, 9), (RX5, TX5, 16)]
def q_cls (ci : Nat) : vw_C := q_classes.getD ci (RX0, TX0, 5)
def q_tyf (ci : Nat) : Nat → FieldType := ([tyX0, tyX1, tyX2, tyX3, tyX4, tyX5] : List (Nat → FieldType)).getD ci tyX0
def q_fldW (q : (Nat × Nat) × (Nat × Nat)) : Cond := .fieldLink (q_cN q.1.1) q.1.2 ((q_cls q.2.1).2.1 q.2.2).1 ((q_cls q.2.1).2.1 q.2.2).2.1 ((q_cls q.2.1).2.1 q.2.2).2.2.1
theorem q_flds_w : q_flds.map q_fldW = ([121, 122, 123, 124, 125, 126, 127, 128, 129, 63, 59, 60, 61, 62, 108, 109, 110, 111, 93, 94, 95, 82, 523, 524, 525, 526, 527, 528, 529, 530, 532, 533, 520, 521, 522, 531, 534, 535] : List Nat).filterMap (fun i => lw_tbl[i]?) := by decide +kernel
theorem q_flds_g : (q_flds.map q_fldW).all goodWord = true := by decide +kernel
theorem q_flds_n : ∀ q ∈ q_flds, q.2.1 < 6 ∧ q.2.2 < q_nf q.2.1 := by decide +kernel
def q_layW : List Cond := (List.range 6).flatMap (fun ci => u_ws (q_cls ci).1 (q_cls ci).2.1 (q_cls ci).2.2)
theorem q_lay_w : q_layW = ([64, 66, 68, 70, 72, 112, 114, 116, 118, 96, 98, 100, 83, 130, 132, 134, 136, 138, 140, 142, 144, 146, 536, 538, 540, 542, 544, 546, 548, 550, 552, 554, 556, 558, 560, 562, 564, 566] : List Nat).filterMap (fun i => lw_tbl[i]?) := by decide +kernel
theorem q_lay_g : q_layW.all goodWord = true := by decide +kernel
theorem q_cls_n : ∀ ci, ci < 6 → q_classes[ci]? = some (q_cls ci) ∧ (q_cls ci).2.2 = q_nf ci := by
  intro ci h
  match ci, h with
  | 0, _ => exact ⟨rfl, rfl⟩
  | 1, _ => exact ⟨rfl, rfl⟩
  | 2, _ => exact ⟨rfl, rfl⟩
  | 3, _ => exact ⟨rfl, rfl⟩
  | 4, _ => exact ⟨rfl, rfl⟩
  | 5, _ => exact ⟨rfl, rfl⟩
  | n + 6, h => omega
theorem q_cls_t : ∀ ci, ci < 6 → (∀ k, k < q_nf ci → parseFieldDescriptor ((q_cls ci).2.1 k).2.2.1 = some (q_tyf ci k)) ∧ (∀ a, a < q_nf ci → ∀ b, b < q_nf ci → a ≠ b → ((q_cls ci).2.1 a).2.1 ≠ ((q_cls ci).2.1 b).2.1) := by
  intro ci h
  match ci, h with
  | 0, _ => exact ⟨tyX0_ok, nmX0⟩
  | 1, _ => exact ⟨tyX1_ok, nmX1⟩
  | 2, _ => exact ⟨tyX2_ok, nmX2⟩
  | 3, _ => exact ⟨tyX3_ok, nmX3⟩
  | 4, _ => exact ⟨tyX4_ok, nmX4⟩
  | 5, _ => exact ⟨tyX5_ok, nmX5⟩
  | n + 6, h => omega
theorem q_cls_f : ∀ ci, ci < 6 → ∀ k, k < q_nf ci → (q_ft ci k = 0 → q_tyf ci k = .int ∧ ((q_cls ci).2.1 k).2.2.2 = false) ∧ (q_ft ci k = 1 → q_tyf ci k = .long ∧ ((q_cls ci).2.1 k).2.2.2 = false) := by decide +kernel
theorem q_kc_lt : ∀ k, k < 28 → ∀ ci ∈ q_kc k, ci < 6 := by decide +kernel
def q_cstW (q : (Nat × Nat) × Int32) : Cond := .constant (q_cN q.1.1) q.1.2 q.2
def q_cstLW (q : (Nat × Nat) × Int64) : Cond := .constantLong (q_cN q.1.1) q.1.2 q.2
theorem q_cst_w : q_csts.map q_cstW = ([479, 735] : List Nat).filterMap (fun i => lw_tbl[i]?) := by decide +kernel
theorem q_cst_g : (q_csts.map q_cstW).all goodWord = true := by decide +kernel
theorem q_cstL_w : q_cstsL.map q_cstLW = ([214, 215, 371, 372, 373] : List Nat).filterMap (fun i => lw_tbl[i]?) := by decide +kernel
theorem q_cstL_g : (q_cstsL.map q_cstLW).all goodWord = true := by decide +kernel
def q_mthW (q : (Nat × Nat) × (Nat × Nat)) : List Cond := match q.2.2 with
  | 0 => [.methodLink (q_cN q.1.1) q.1.2 (q_mY q.2.1), .instanceMethod (q_mY q.2.1), .selects (q_mY q.2.1).cls (q_mY q.2.1) (q_mY q.2.1), .initialized (q_mY q.2.1).cls]
  | 1 => [.methodLink (q_cN q.1.1) q.1.2 (q_mY q.2.1), .static (q_mY q.2.1), .initialized (q_mY q.2.1).cls]
  | _ => [.static (q_mY q.2.1), .initialized (q_mY q.2.1).cls]
theorem q_mths_w : q_mths.flatMap q_mthW = ([153, 154, 35, 156, 157, 158, 39, 164, 166, 0, 35, 168, 169, 170, 39, 172, 173, 174, 39, 180, 181, 35, 183, 185, 1, 35, 187, 189, 2, 35, 244, 245, 35, 247, 248, 249, 36, 255, 256, 257, 36, 259, 260, 261, 36, 263, 264, 265, 36, 267, 268, 269, 36, 275, 277, 4, 35, 288, 289, 290, 39, 296, 298, 5, 35, 309, 310, 311, 39, 360, 362, 9, 35, 195, 196, 197, 36, 379, 369, 41, 199, 200, 201, 36, 203, 204, 205, 36, 223, 224, 35, 207, 208, 209, 36, 220, 221, 35, 396, 397, 35, 300, 301, 302, 37, 407, 330, 331, 38, 412, 413, 414, 38, 416, 334, 335, 38, 417, 338, 339, 38, 418, 419, 420, 39, 430, 431, 432, 38, 434, 427, 428, 39, 435, 423, 424, 39, 440, 442, 10, 35, 457, 458, 459, 38, 465, 346, 347, 39, 466, 353, 354, 39, 471, 473, 11, 35, 484, 486, 12, 35, 488, 490, 13, 35, 506, 508, 14, 35, 510, 512, 15, 35, 279, 280, 281, 36, 191, 192, 193, 37, 216, 217, 218, 37, 226, 227, 228, 37, 304, 305, 306, 38, 364, 365, 366, 39, 444, 445, 446, 39, 374, 326, 327, 39, 492, 236, 237, 37, 493, 494, 495, 37, 498, 499, 500, 39, 283, 208, 209, 36, 368, 369, 41, 422, 423, 424, 39, 426, 427, 428, 39, 329, 330, 331, 38, 333, 334, 335, 38, 337, 338, 339, 38, 448, 419, 420, 39, 341, 343, 7, 39, 345, 346, 347, 39, 352, 353, 354, 39, 324, 289, 290, 39, 325, 326, 327, 39, 313, 314, 315, 38, 320, 322, 6, 39, 356, 358, 8, 39, 231, 233, 3, 37, 235, 236, 237, 37, 239, 217, 218, 37, 149, 150, 151, 35, 570, 571, 572, 40, 160, 161, 162, 35, 577, 578, 579, 40, 176, 177, 178, 35, 585, 586, 587, 40, 240, 241, 242, 35, 593, 594, 595, 40, 251, 252, 253, 35, 600, 601, 602, 40, 271, 272, 273, 35, 604, 605, 606, 40, 284, 285, 286, 35, 611, 612, 613, 40, 375, 376, 377, 35, 631, 632, 633, 40, 380, 381, 382, 35, 635, 636, 637, 40, 384, 385, 386, 35, 615, 616, 617, 40, 388, 389, 390, 35, 623, 624, 625, 40, 392, 393, 394, 35, 639, 640, 641, 40, 399, 400, 401, 35, 651, 652, 653, 40, 403, 404, 405, 35, 655, 656, 657, 40, 408, 409, 410, 35, 663, 664, 665, 40, 436, 437, 438, 35, 683, 684, 685, 40, 449, 450, 451, 35, 695, 696, 697, 40, 453, 454, 455, 35, 691, 692, 693, 40, 461, 462, 463, 35, 719, 720, 721, 40, 467, 468, 469, 35, 727, 728, 729, 40, 475, 476, 477, 35, 731, 732, 733, 40, 480, 481, 482, 35, 737, 738, 739, 40, 502, 503, 504, 35, 744, 745, 746, 40, 292, 293, 294, 35, 723, 724, 725, 40, 574, 575, 40, 581, 583, 16, 40, 589, 591, 17, 40, 597, 598, 40, 608, 609, 40, 619, 621, 18, 40, 627, 629, 19, 40, 643, 645, 20, 40, 647, 649, 21, 40, 679, 681, 26, 40, 675, 677, 25, 40, 659, 661, 22, 40, 667, 669, 23, 40, 671, 673, 24, 40, 687, 689, 27, 40, 715, 717, 32, 40, 711, 713, 31, 40, 707, 709, 30, 40, 703, 705, 29, 40, 699, 701, 28, 40, 736, 728, 729, 40, 741, 742, 40, 748, 750, 33, 40, 212, 35, 224, 35, 181, 35, 224, 35] : List Nat).filterMap (fun i => lw_tbl[i]?) := by decide +kernel
theorem q_mths_g : (q_mths.flatMap q_mthW).all goodWord = true := by decide +kernel
theorem q_mths_n : ∀ q ∈ q_mths, q.2.1 < q_NM ∧ q.2.2 < 3 := by decide +kernel
def q_mmW (q : (Nat × Nat) × Nat) : List Cond := match q.2 with
  | 0 => [.methodLink (q_cN q.1.1) q.1.2 Lib.Math.max.name, .static Lib.Math.max.name, .initialized "java/lang/Math"]
  | _ => [.methodLink (q_cN q.1.1) q.1.2 Lib.Math.min.name, .static Lib.Math.min.name, .initialized "java/lang/Math"]
theorem q_mms_w : q_mms.flatMap q_mmW = ([349, 350, 42, 317, 318, 42] : List Nat).filterMap (fun i => lw_tbl[i]?) := by decide +kernel
theorem q_mms_g : (q_mms.flatMap q_mmW).all goodWord = true := by decide +kernel
theorem q_mmc_w : [Cond.code Lib.Math.max.name Lib.Math.max.code 2 (some .int), Cond.code Lib.Math.min.name Lib.Math.min.code 2 (some .int)] = ([319, 351] : List Nat).filterMap (fun i => lw_tbl[i]?) := by decide +kernel
theorem q_mmc_g : [Cond.code Lib.Math.max.name Lib.Math.max.code 2 (some .int), Cond.code Lib.Math.min.name Lib.Math.min.code 2 (some .int)].all goodWord = true := by decide +kernel
def q_nest : List Cond := [.methodLinkNest RX0 28 yX4_ticksAhead "SleepKeeper", .methodLinkNest RX2 22 yX4_hasTick "SleepKeeper", .methodLinkNest RX3 15 yX4_hasPart "SleepKeeper", .methodLinkNest RX3 31 yX4_hasTick "SleepKeeper"]
theorem q_nest_in : ∀ w ∈ q_nest, w ∈ lw_tbl := by
  have h : q_nest = ([211, 308, 230, 497] : List Nat).filterMap (fun i => lw_tbl[i]?) := by decide +kernel
  intro w hw
  rw [h] at hw
  obtain ⟨i, -, hi⟩ := List.mem_filterMap.mp hw
  exact List.mem_of_getElem? hi
theorem q_nest_m : ∀ q ∈ q_mths, q.2.2 = 2 → Cond.methodLinkNest (q_cN q.1.1) q.1.2 (q_mY q.2.1) "SleepKeeper" ∈ q_nest := by decide +kernel
theorem q_nest_t : ∀ w ∈ q_nest, w.onTables = true := by decide +kernel
theorem q_nest_f : ∀ w ∈ q_nest, ∃ (a : String) (i : Nat) (x : MethodName) (b : String), w = .methodLinkNest a i x b := by
  unfold q_nest
  exact List.forall_mem_cons.mpr ⟨⟨_, _, _, _, rfl⟩, List.forall_mem_cons.mpr ⟨⟨_, _, _, _, rfl⟩, List.forall_mem_cons.mpr ⟨⟨_, _, _, _, rfl⟩, List.forall_mem_cons.mpr ⟨⟨_, _, _, _, rfl⟩, fun _ h => absurd h List.not_mem_nil⟩⟩⟩⟩
def q_code (mi : Nat) : Cond := .code (q_mY mi) (q_mC mi) (q_mL mi) (q_mT mi)
set_option maxRecDepth 200000 in
theorem q_code_w : (List.range q_NM).map q_code = ([250, 198, 258, 202, 206, 262, 266, 210, 270, 282, 159, 171, 175, 291, 501, 367, 425, 429, 421, 447, 355, 348, 328, 344, 323, 312, 359, 307, 332, 415, 433, 336, 340, 460, 316, 194, 219, 229, 234, 238, 303, 496, 152, 163, 179, 243, 254, 274, 287, 295, 378, 383, 387, 391, 395, 402, 406, 411, 439, 452, 456, 464, 470, 478, 483, 505, 167, 246, 398, 155, 182, 225, 222, 213, 186, 278, 190, 299, 443, 363, 487, 474, 491, 509, 513, 576, 584, 610, 573, 580, 592, 588, 599, 596, 603, 607, 614, 622, 630, 618, 626, 634, 638, 646, 650, 642, 654, 662, 682, 678, 674, 658, 666, 670, 690, 686, 694, 718, 714, 710, 706, 702, 698, 722, 726, 730, 734, 743, 740, 747, 751, 370] : List Nat).filterMap (fun i => lw_tbl[i]?) := rfl
theorem q_code_in {mi : Nat} (h : mi < q_NM) : q_code mi ∈ q_gw := by
  refine List.mem_filter.mpr ⟨?_, rfl⟩
  have hm : q_code mi ∈ (List.range q_NM).map q_code := List.mem_map.mpr ⟨mi, List.mem_range.mpr h, rfl⟩
  rw [q_code_w] at hm
  obtain ⟨i, -, hi⟩ := List.mem_filterMap.mp hm
  exact List.mem_of_getElem? hi
theorem q_mY_n : ∀ mi, mi < q_NM → (q_mY mi).cls = q_cN (q_mO mi) ∧ plainName (q_mY mi).cls = true ∧ ((q_mY mi).cls ≠ "java/lang/invoke/MethodHandle" ∧ (q_mY mi).cls ≠ "java/lang/invoke/VarHandle") ∧ (parseMethodDescriptor (q_mY mi).desc).map (fun d => d.parameters.length) = some (q_mA mi) ∧ q_mL mi ≤ 19 := by decide +kernel
theorem q_mT_n : ∀ mi, mi < q_NM → (q_mR mi = 0 → q_mT mi = none) ∧ (q_mR mi = 1 → q_mT mi = some .int) ∧ (q_mR mi = 2 → q_mT mi = some .long) ∧ (q_mR mi = 3 → q_mT mi = some .boolean) ∧ q_mR mi ≤ 3 := by decide +kernel
theorem q_mO_n : ∀ mi, mi < q_NM → ∀ ci, ci < 6 → q_mO mi = ci → (q_mY mi).cls = (q_cls ci).1 := by decide +kernel
