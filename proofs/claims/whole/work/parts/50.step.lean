/-! ===== one call of the law ===== -/
theorem z_partI {m : q_S} {a b c d : Int32} (hok : z_ok m) (h : y_partOk m a b c d) : z_ok (z_part m a.toNatClampNeg b.toNatClampNeg c.toNatClampNeg d.toNatClampNeg) := by
  obtain ⟨h6, hu, h1, h2⟩ := h
  obtain ⟨x, y, z, rfl, rfl, rfl, e1, e2, e3⟩ := y_up3_nat (M := 99) (by omega) hu
  have ha : ¬ a < 0 := by
    intro q
    apply h1
    rw [Int32.lt_iff_toInt_lt] at q ⊢
    rw [nI_toInt (by omega)]
    rw [Int32.toInt_zero] at q
    omega
  obtain ⟨v, hv, rfl⟩ := nI_of ha
  have hv9 : v ≤ 99 := Nat.le_of_not_lt (fun q => h2 (nI_lt (a := 99) q hv))
  rw [cl hv, cl (by omega), cl (by omega), cl (by omega)]
  exact z_part_ok hok h6 hv9 (by omega) (by omega) (by omega)
theorem z_riseI {m : q_S} {p a b c x y z : Int32} (hok : z_ok m) (h : y_riseOk m p a b c x y z) : z_ok (z_rise m p.toNatClampNeg a.toNatClampNeg b.toNatClampNeg c.toNatClampNeg x.toNatClampNeg y.toNatClampNeg z.toNatClampNeg) := by
  obtain ⟨hp, hu, hv⟩ := h
  obtain ⟨a', b', c', rfl, rfl, rfl, e1, e2, e3⟩ := y_up3_nat (M := 999) (by omega) hu
  obtain ⟨x', y', z', rfl, rfl, rfl, e4, e5, e6⟩ := y_up3_nat (M := 9) (by omega) hv
  rw [cl (n := a') (by omega), cl (n := b') (by omega), cl (n := c') (by omega), cl (n := x') (by omega), cl (n := y') (by omega), cl (n := z') (by omega)]
  exact z_rise_ok hok e1 e2 e3 e4 e5 e6
theorem z_ruleI {m : q_S} {p a b c : Int32} (hok : z_ok m) (h : y_ruleOk m p a b c) : z_ok (z_rule m p.toNatClampNeg a.toNatClampNeg b.toNatClampNeg c.toNatClampNeg) := by
  have hnp := hok.1.1
  obtain ⟨hp, hu⟩ := h
  obtain ⟨a', b', c', rfl, rfl, rfl, e1, e2, e3⟩ := y_up3_nat (M := 64) (by omega) hu
  obtain ⟨j, hj, rfl⟩ := y_in (by omega) hp
  rw [cl (n := a') (by omega), cl (n := b') (by omega), cl (n := c') (by omega), cl (n := j) (by omega)]
  exact z_rule_ok hok hj e1 e2 e3
theorem z_needI {m : q_S} {a b c : Int32} (hok : z_ok m) (h : y_needOk m a b c) : z_ok (z_need m a.toNatClampNeg b.toNatClampNeg (decide (c = 1))) := by
  have hnp := hok.1.1
  obtain ⟨ha, hb, _, hl⟩ := h
  obtain ⟨i, hi, rfl⟩ := y_in (by omega) ha
  obtain ⟨j, hj, rfl⟩ := y_in (by omega) hb
  rw [cl (n := i) (by omega), cl (n := j) (by omega)] at hl
  rw [cl (n := i) (by omega), cl (n := j) (by omega)]
  refine z_need_ok hok hi hj ?_
  rcases hl with hl | hl
  · left; rw [hl]; decide
  · exact Or.inr hl
theorem z_holdI {m : q_S} {g p a b : Int32} (hok : z_ok m) (hn : z_nh m < 20) (h : y_holdOk m g p a b) : z_ok (z_hold m g.toNatClampNeg p.toNatClampNeg a.toNatClampNeg b.toNatClampNeg) := by
  have hnp := hok.1.1
  obtain ⟨hg, hp, h1, h2, h3⟩ := h
  obtain ⟨i, hi, rfl⟩ := y_in (by omega) hg
  obtain ⟨j, hj, rfl⟩ := y_in (by omega) hp
  obtain ⟨x, hx, rfl⟩ := nI_of h1
  have hb : ¬ b < 0 := by
    intro q
    apply h2
    rw [Int32.le_iff_toInt_le, nI_toInt hx]
    rw [Int32.lt_iff_toInt_lt, Int32.toInt_zero] at q
    omega
  obtain ⟨y, hy, rfl⟩ := nI_of hb
  have e1 : ¬ y ≤ x := fun q => h2 (nI_le q hx)
  have e2 : y ≤ 64 := (nI_leI (b := 64) hy (by omega)).mp h3
  rw [cl (n := i) (by omega), cl (n := j) (by omega), cl hx, cl hy]
  exact z_hold_ok hok hn hi hj (by omega) e2
theorem z_backI {m : q_S} {a b : Int32} (hok : z_ok m) (h : y_backOk m a b) : z_ok (z_back m a.toNatClampNeg b.toNatClampNeg) := by
  have hnh := hok.1.2.1
  obtain ⟨ha, h1, h2⟩ := h
  obtain ⟨i, hi, rfl⟩ := y_in (by omega) ha
  obtain ⟨_, _, w1, w2⟩ := hok.2.2.2.2.2.2.2.1 i hi
  rw [cl (n := i) (by omega)] at h1 h2 ⊢
  have hb : ¬ b < 0 := by
    intro q
    apply h1
    rw [Int32.lt_iff_toInt_lt, nI_toInt (by omega)]
    rw [Int32.lt_iff_toInt_lt, Int32.toInt_zero] at q
    omega
  obtain ⟨y, hy, rfl⟩ := nI_of hb
  rw [cl hy]
  have e1 : ¬ y < z_ho m i 2 := fun q => h1 (nI_lt q (by omega))
  have e2 := (nI_ltI hy (by omega)).mp h2
  exact z_back_ok hok hi (by omega) e2
theorem z_timerI {m : q_S} {g p a b : Int32} (hok : z_ok m) (hn : z_nt m < 12) (h : y_timerOk m g p a b) : z_ok (z_timer m g.toNatClampNeg p.toNatClampNeg a.toNatClampNeg b.toNatClampNeg) := by
  have hnp := hok.1.1
  obtain ⟨hg, hp, h1, h2, h3⟩ := h
  obtain ⟨i, hi, rfl⟩ := y_in (by omega) hg
  obtain ⟨j, hj, rfl⟩ := y_in (by omega) hp
  obtain ⟨x, hx, rfl⟩ := nI_of h1
  have hb : ¬ b < 0 := by
    intro q
    apply h2
    rw [Int32.lt_iff_toInt_lt] at q ⊢
    rw [nI_toInt hx]
    rw [Int32.toInt_zero] at q
    omega
  obtain ⟨y, hy, rfl⟩ := nI_of hb
  have e1 : ¬ y < x := fun q => h2 (nI_lt q hx)
  have e2 : y < 64 := (nI_ltI (b := 64) hy (by omega)).mp h3
  rw [cl (n := i) (by omega), cl (n := j) (by omega), cl hx, cl hy]
  exact z_timer_ok hok hn hi hj (by omega) e2
theorem L_eq {r : Int32} {P F : Prop} (k : P) : (r = r → P) ∧ (¬ r = r → F) := ⟨fun _ => k, fun z => absurd rfl z⟩
theorem lgc_self (x : Int64) : lg_cmp x x = 0 := by
  unfold lg_cmp
  rw [if_neg (fun q => by
    have q : x < x := q
    rw [Int64.lt_iff_toInt_lt] at q
    omega), if_pos rfl]
theorem L_eqL {r : Int64} {P F : Prop} (k : P) : (lg_cmp r r = 0 → P) ∧ (¬ lg_cmp r r = 0 → F) := ⟨fun _ => k, fun z => absurd (lgc_self r) z⟩
theorem L_C {m : q_S} {h g : q_H} (hc : z_C m h) (a : z_K h g) : z_C m g := z_C.keep a.fm hc
theorem L_M {m : q_S} {h g : q_H} (hm : z_M m h) (a : z_K h g) : z_M m g := z_M_iff.mpr (a.M (z_M_iff.mp hm))
set_option maxRecDepth 100000 in
set_option maxHeartbeats 4000000 in
theorem L_step {L : Nat} {xs : Nat → Int32} {Q : Int32 → q_H → Prop} {E : Int32 → q_H → Prop} {n : Nat} {x3 : Int32} {m : q_S} {h : q_H} (v0 : vp_in x3 L) (v1 : vp_in (x3 + 1) L) (v2 : vp_in (x3 + 2) L) (v3 : vp_in (x3 + 3) L) (v4 : vp_in (x3 + 4) L) (v5 : vp_in (x3 + 5) L) (v6 : vp_in (x3 + 6) L) (v7 : vp_in (x3 + 7) L) (hx : ¬ ((Int32.ofNat L) - 8) < x3) (hok : z_ok m) (hc : z_C m h) (hm : z_M m h) (ih : ∀ m g, z_ok m → z_C m g → z_M m g → lp_L_law_18 L xs Q E n (x3 + 8) g) : lp_L_law_18 L xs Q E (n + 1) x3 h := by
  -- a question: the class leaves hc, hm at g, the reference leaves them at u
  have q : ∀ {g u : q_H}, z_C m g → z_M m g → z_K g u → lp_L_law_18 L xs Q E n (x3 + 8) u := fun c d a => ih m _ hok (L_C c a) (L_M d a)
  have q3 : ∀ {g u : q_H}, z_F3 h g → z_K g u → lp_L_law_18 L xs Q E n (x3 + 8) u := fun b a => q (b.C hc) (z_M.keep b.fc hm) a
  have need : ∀ {a b c : Int32}, (c = 0 ∨ c = 1) → ∀ {P : Int32 → q_H → Prop}, (∀ r g, (wp_X5_need a b c g (fun r' g' => (r = r' → lp_L_law_18 L xs Q E n (x3 + 8) g') ∧ (¬ r = r' → Q 0 g'))) → P r g) → wp_X4_need a b c h P := by
    intro a b c h01 P hP
    refine C_need hok hc h01 (fun nn => hP _ _ ?_) (fun y g hg hF => hP _ _ ?_)
    · exact M_need hok hm h01 (fun _ => L_eq (ih m h hok hc hm)) (fun y => absurd y nn)
    · exact M_need hok (z_M.keep hF hm) h01 (fun nn => absurd y nn) (fun _ u hu hFu => L_eq (ih _ u (z_needI hok y) (z_C.keep hFu hg) hu))
  unfold lp_L_law_18
  refine ⟨fun z => absurd z hx, fun _ => ⟨v0, fun _ => ?_, fun _ => ?_, fun _ => ?_, fun _ => ?_, fun _ => ?_, fun _ => ?_, fun _ => ?_, fun _ => ?_, fun _ => ?_, fun _ => ?_, fun _ => ?_, fun _ => ?_, fun _ => ?_, fun _ => ?_, fun _ => ?_, fun _ => ?_, fun _ => ?_, fun _ => ?_, fun _ => ?_, fun _ => ?_, fun _ => ?_, fun _ => ?_, fun _ => ?_, fun _ => ?_, fun _ => ih m h hok hc hm⟩⟩
  -- 0 part
  · refine ⟨v1, v2, v3, v4, C_part hok hc (fun nn => ⟨v1, v2, v3, v4, ?_⟩) (fun y g hg hF => ⟨v1, v2, v3, v4, ?_⟩)⟩
    · exact M_part hok hm (fun _ => L_eq (ih m h hok hc hm)) (fun y => absurd y nn)
    · exact M_part hok (z_M.keep hF hm) (fun nn => absurd y nn) (fun _ u hu hFu => L_eq (ih _ u (z_partI hok y) (z_C.keep hFu hg) hu))
  -- 1 rise
  · refine ⟨v1, v2, v3, v4, v5, v6, v7, C_rise hok hc (fun nn => ⟨v1, v2, v3, v4, v5, v6, v7, ?_⟩) (fun y g hg hF => ⟨v1, v2, v3, v4, v5, v6, v7, ?_⟩)⟩
    · exact M_rise hok hm (fun _ => L_eq (ih m h hok hc hm)) (fun y => absurd y nn)
    · exact M_rise hok (z_M.keep hF hm) (fun nn => absurd y nn) (fun _ u hu hFu => L_eq (ih _ u (z_riseI hok y) (z_C.keep hFu hg) hu))
  -- 2 need
  · refine ⟨v1, v2, v3, fun z => ?_, fun z => ?_⟩
    · exact need (Or.inl rfl) (fun r g k => ⟨v1, v2, v3, fun _ => k, fun y => absurd z y⟩)
    · exact need (Or.inr rfl) (fun r g k => ⟨v1, v2, v3, fun y => absurd y z, fun _ => k⟩)
  -- 3 hold
  · refine ⟨v1, v2, v3, v4, C_hold hok hc (fun nn g hg hF => ⟨v1, v2, v3, v4, ?_⟩) (fun y y2 g hg hF => ⟨v1, v2, v3, v4, ?_⟩)⟩
    · exact M_hold hok (z_M.keep hF hm) (fun _ => L_eq (ih m g hok hg (z_M.keep hF hm))) (fun y y2 => absurd ⟨y, y2⟩ nn)
    · exact M_hold hok (z_M.keep hF hm) (fun nn => absurd ⟨y, y2⟩ nn) (fun _ _ u hu hFu => L_eq (ih _ u (z_holdI hok y2 y) (z_C.keep hFu hg) hu))
  -- 4 back
  · refine ⟨v1, v2, C_back hok hc (fun nn => ⟨v1, v2, ?_⟩) (fun y g hg hF => ⟨v1, v2, ?_⟩)⟩
    · exact M_back hok hm (fun _ => L_eq (ih m h hok hc hm)) (fun y => absurd y nn)
    · exact M_back hok (z_M.keep hF hm) (fun nn => absurd y nn) (fun _ u hu hFu => L_eq (ih _ u (z_backI hok y) (z_C.keep hFu hg) hu))
  -- 5 timer
  · refine ⟨v1, v2, v3, v4, C_timer hok hc (fun nn g hg hF => ⟨v1, v2, v3, v4, ?_⟩) (fun y y2 g hg hF => ⟨v1, v2, v3, v4, ?_⟩)⟩
    · exact M_timer hok (z_M.keep hF hm) (fun _ => L_eq (ih m g hok hg (z_M.keep hF hm))) (fun y y2 => absurd ⟨y, y2⟩ nn)
    · exact M_timer hok (z_M.keep hF hm) (fun nn => absurd ⟨y, y2⟩ nn) (fun _ _ u hu hFu => L_eq (ih _ u (z_timerI hok y2 y) (z_C.keep hFu hg) hu))
  -- 6 rule
  · refine ⟨v1, v2, v3, v4, C_rule hok hc (fun nn => ⟨v1, v2, v3, v4, ?_⟩) (fun y g hg hF => ⟨v1, v2, v3, v4, ?_⟩)⟩
    · exact M_rule hok hm (fun _ => L_eq (ih m h hok hc hm)) (fun y => absurd y nn)
    · exact M_rule hok (z_M.keep hF hm) (fun nn => absurd y nn) (fun _ u hu hFu => L_eq (ih _ u (z_ruleI hok y) (z_C.keep hFu hg) hu))
  -- 7 look
  · exact ⟨v1, C_look hok hc ⟨v1, M_look hok hm (fun u hu => L_eq (q hc hm hu))⟩⟩
  -- 8 held
  · exact ⟨v1, v2, C_held hok hc ⟨v1, v2, M_held hok hm (fun u hu => L_eq (q hc hm hu))⟩⟩
  -- 9 waking
  · exact ⟨v1, C_waking hok hc ⟨v1, M_waking hok hm (fun u hu => L_eq (q hc hm hu))⟩⟩
  -- 10 fires
  · exact ⟨v1, C_fires hok hc ⟨v1, M_fires hok hm (fun u hu => L_eq (q hc hm hu))⟩⟩
  -- 11 wanted
  · exact ⟨v1, v2, C_wanted hok hc ⟨v1, v2, M_wanted hok hm (fun u hu => L_eq (q hc hm hu))⟩⟩
  -- 12 when
  · exact ⟨v1, C_when hok hc ⟨v1, M_when hok hm (fun u hu => L_eqL (q hc hm hu))⟩⟩
  -- 13 spans
  · exact ⟨v1, C_spans hok hc (fun g hg => ⟨v1, M_spans hok (z_M.keep hg.fc hm) (fun u hu => L_eq (q3 hg hu))⟩)⟩
  -- 14 span
  · exact ⟨v1, v2, v3, C_span hok hc (fun g hg => ⟨v1, v2, v3, M_span hok (z_M.keep hg.fc hm) (fun u hu => L_eq (q3 hg hu))⟩)⟩
  -- 15 drain
  · exact ⟨v1, C_drain hok hc (fun g hg => ⟨v1, M_drain hok (z_M.keep hg.fc hm) (fun u hu => L_eq (q3 hg hu))⟩)⟩
  -- 16 ruled
  · exact ⟨v1, C_ruled hok hc (fun g hg => ⟨v1, M_ruled hok (z_M.keep hg.fc hm) (fun u hu => L_eq (q3 hg hu))⟩)⟩
  -- 17 state
  · exact ⟨v1, v2, C_state hok hc (fun g hg => ⟨v1, v2, M_state hok (z_M.keep hg.fc hm) (fun u hu => L_eq (q3 hg hu))⟩)⟩
  -- 18 ruledState
  · exact ⟨v1, v2, C_ruledState hok hc (fun g hg => ⟨v1, v2, M_ruledState hok (z_M.keep hg.fc hm) (fun u hu => L_eq (q3 hg hu))⟩)⟩
  -- 19 all
  · exact C_all hok hc (fun g hg => M_all hok (z_M.keep hg.fc hm) (fun u hu => L_eq (q3 hg hu)))
  -- 20 without
  · exact ⟨v1, C_without hok hc (fun g hg hF => ⟨v1, M_without hok (z_M.keep hF hm) (fun u hu hFu => L_eq (ih m u hok (z_C.keep hFu hg) hu))⟩)⟩
  -- 21 blame
  · exact ⟨v1, C_blame hok hc (fun g hg => ⟨v1, M_blame hok (z_M.keep hg.fc hm) (fun u hu => L_eq (q3 hg hu))⟩)⟩
  -- 22 order
  · exact ⟨v1, v2, C_order hok hc ⟨v1, v2, M_order hok hm (fun u hu => L_eq (q hc hm hu))⟩⟩
  -- 23 learn
  · refine ⟨v1, C_learn hok hc (fun nn => ⟨v1, ?_⟩) (fun p hp e x y z ho g hg hF => ⟨v1, ?_⟩)⟩
    · refine M_learn hok hm (fun _ => L_eq (ih m h hok hc hm)) (fun p hp e => absurd ?_ nn)
      rw [e]
      exact y_of (by have := hok.1.1; omega) hp
    · refine M_learn hok (z_M.keep hF hm) (fun nn => absurd ?_ nn) (fun p' hp' e' x' y' z' ho' u hu hFu => ?_)
      · rw [e]
        exact y_of (by have := hok.1.1; omega) hp
      · have hnp := hok.1.1
        have ep : p = p' := (nI_eq (by omega) (by omega)).mp (e.symm.trans e')
        subst ep
        obtain ⟨rfl, rfl, rfl⟩ := z_opt_uniq ho ho'
        exact L_eq (ih _ u (z_rule_ok hok hp ho.1 ho.2.1 ho.2.2.1) (z_C.keep hFu hg) hu)
