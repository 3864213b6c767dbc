abbrev y_needOk (m : q_S) (a b c : Int32) : Prop := y_isP m a ∧ y_isP m b ∧ ¬ bI (z_nd m a.toNatClampNeg b.toNatClampNeg) = c ∧ (c = 0 ∨ z_leads m b.toNatClampNeg a.toNatClampNeg = false)
theorem z_leads_self (m : q_S) {p : Nat} : z_leads m p p = true := by
  have : ∀ j, z_clo (z_nd m) j (fun x => decide (x = p)) p = true := by
    intro j
    induction j with
    | zero => exact decide_eq_true rfl
    | succ j ih => exact z_clo_up _ _ _ _ ih
  exact this 6
theorem z_need_ok {m : q_S} (hok : z_ok m) {p q : Nat} {is : Bool} (hp : p < z_np m) (hq : q < z_np m) (h : is = false ∨ z_leads m q p = false) : z_ok (z_need m p q is) := by
  obtain ⟨g1, g4, g5, g7, g8, g9, ⟨g10, g11⟩, g12, g13⟩ := hok
  have hnp := g1.1
  refine ⟨g1, g4, g5, g7, g8, g9, ⟨fun a b hab => ?_, ?_⟩, g12, g13⟩
  · have hab : (if a = p ∧ b = q then is else z_nd m a b) = true := hab
    by_cases e : a = p ∧ b = q
    · rw [e.1, e.2]; exact ⟨hp, hq⟩
    · rw [if_neg e] at hab; exact g10 a b hab
  · show z_acy (fun a b => if a = p ∧ b = q then is else z_nd m a b)
    intro S hS
    cases is with
    | false =>
      obtain ⟨r, hr, h1, h2⟩ := g11 S hS
      refine ⟨r, hr, h1, fun b hb hh => ?_⟩
      dsimp only at hh
      by_cases e : r = p ∧ b = q
      · rw [if_pos e] at hh; exact absurd hh.1 (by decide)
      · rw [if_neg e] at hh; exact h2 b hb hh
    | true =>
      have hl : z_leads m q p = false := h.resolve_left (by decide)
      have hcl : z_closed (z_nd m) (z_leads m q) := z_clo_closed (z_nd m) _ (by omega)
      by_cases hx : ∃ x, x < 6 ∧ (S x && z_leads m q x) = true
      · obtain ⟨r, hr, h1, h2⟩ := g11 (fun x => S x && z_leads m q x) hx
        obtain ⟨h3, h4⟩ := Bool.and_eq_true_iff.mp h1
        refine ⟨r, hr, h3, fun b hb hh => ?_⟩
        dsimp only at hh
        by_cases e : r = p ∧ b = q
        · rw [e.1, hl] at h4; cases h4
        · rw [if_neg e] at hh
          exact h2 b hb ⟨hh.1, by rw [hh.2, hcl r b hr hb h4 hh.1]; rfl⟩
      · obtain ⟨r, hr, h1, h2⟩ := g11 S hS
        refine ⟨r, hr, h1, fun b hb hh => ?_⟩
        dsimp only at hh
        by_cases e : r = p ∧ b = q
        · exact hx ⟨b, hb, by rw [hh.2, e.2, z_leads_self]; rfl⟩
        · rw [if_neg e] at hh; exact h2 b hb hh
theorem bI_v (b : Bool) : bI b = 0 ∨ bI b = 1 := by cases b <;> simp [bI]
theorem C_need {m : q_S} {a b c : Int32} {h : q_H} {Q : Int32 → q_H → Prop} (hok : z_ok m) (hc : z_C m h) (hc01 : c = 0 ∨ c = 1) (k0 : ¬ y_needOk m a b c → Q 0 h) (k1 : y_needOk m a b c → ∀ g, z_C (z_need m a.toNatClampNeg b.toNatClampNeg (decide (c = 1))) g → z_Fc h g → Q 1 g) : wp_X4_need a b c h Q := by
  have hnp := hok.1.1
  obtain ⟨c1, cw, cr⟩ := z_C_iff.mp hc
  have hnd := c1.2.2.2.2.2.1
  unfold wp_X4_need
  refine s_isPart hok hc.1 (fun n => ⟨fun _ => k0 (fun q => n q.1), fun y => absurd rfl y⟩) (fun p hp e ha => ⟨fun y => absurd y (by decide), fun _ => ?_⟩)
  refine s_isPart hok hc.1 (fun n => ⟨fun _ => k0 (fun q => n q.2.1), fun y => absurd rfl y⟩) (fun q hq e2 hb => ⟨fun y => absurd y (by decide), fun _ => ?_⟩)
  subst e; subst e2
  rw [cl (by omega), cl (by omega)] at k1
  have k0' : (bI (z_nd m p q) = c ∨ ¬ (c = 0 ∨ z_leads m q p = false)) → Q 0 h := by
    intro hh
    refine k0 (fun ⟨_, _, y1, y2⟩ => ?_)
    rw [cl (by omega), cl (by omega)] at y1 y2
    rcases hh with hh | hh
    · exact y1 hh
    · exact hh y2
  refine ⟨vin (by omega) (by omega), ?_⟩
  rw [cl (by omega)]
  refine s_hasPart (by omega) ?_
  rw [hnd p (by omega) q (by omega), decide_eq_true (show q < 6 by omega), Bool.true_and]
  refine ⟨fun z => k0' (Or.inl z), fun z => ?_⟩
  have hbit : c = if z_nd m p q = true then 0 else 1 := by
    have z : ¬ (if z_nd m p q = true then (1 : Int32) else 0) = c := z
    cases e : z_nd m p q with
    | true => rw [e] at z; rcases hc01 with e1 | e1; · rw [e1]; rfl
              · rw [e1] at z; exact absurd rfl z
    | false => rw [e] at z; rcases hc01 with e1 | e1; · rw [e1] at z; exact absurd rfl z
               · rw [e1]; rfl
  have fin : (c = 0 ∨ z_leads m q p = false) → wp_X4_gatherWants 0 (-1) (q_sI h 7 0 p (h.1 7 0 p ^^^ ((1 : Int32) <<< (nI q &&& 31)))) (fun g => Q 1 g) := by
    intro hl
    have ok : y_needOk m (nI p) (nI q) c := by
      refine ⟨ha, hb, ?_, ?_⟩
      · rw [cl (by omega), cl (by omega)]; exact z
      · rw [cl (by omega), cl (by omega)]; exact hl
    have hc1' : (decide (c = 1)) = false ∨ z_leads m q p = false := by
      rcases hl with hl | hl
      · left; rw [hl]; rfl
      · exact Or.inr hl
    refine s_regather (z_need_ok hok hp hq hc1') ?_ ?_ (fun g hg hf => k1 ok g hg ?_)
    · obtain ⟨d1, d2, d3, d4, d5, d6, d7, d8⟩ := c1
      refine ⟨d1, d2, d3, d4, d5, fun a ha6 b hb32 => ?_, d7, d8⟩
      show bt ((q_sI h 7 0 p _).1 7 0 a) b = (decide (b < 6) && (if a = p ∧ b = q then decide (c = 1) else z_nd m a b))
      by_cases e : a = p
      · subst e
        rw [q_sI_r, b_xor, d6 a ha6 b hb32, b_one (by omega) hb32]
        by_cases e2 : b = q
        · subst e2
          rw [if_pos ⟨rfl, rfl⟩, decide_eq_true (show b < 6 by omega), hbit]
          rw [decide_eq_true (rfl : b = b)]
          cases z_nd m a b <;> decide
        · rw [if_neg (fun q => e2 q.2), decide_eq_false e2, Bool.xor_false]
      · rw [q_sI_o (by omega), if_neg (fun q => e q.1)]
        exact d6 a ha6 b hb32
    · show ∀ t, t < 64 → tb (h.2 0 0 5) t = _
      intro t ht
      rw [cw t ht, z_wk_same (m := m) (m' := z_need m p q (decide (c = 1))) rfl rfl]
    · exact (show z_Fc h (q_sI h 7 0 p _) from fun k hk => by funext i j; rw [q_sI_o (by omega)]).tr hf
  refine ⟨fun z1 => ⟨vin (by omega) (by omega), vin (by omega) (by omega), ?_⟩, fun z1 => ?_⟩
  · exact fin (Or.inl z1)
  · refine s_leadsTo c1 (by omega) (by omega) ?_
    refine ⟨fun z2 => ⟨vin (by omega) (by omega), vin (by omega) (by omega), ?_⟩, fun z2 => k0' (Or.inr ?_)⟩
    · exact fin (Or.inr (bI_0.mp z2))
    · rintro (q1 | q1)
      · exact z1 q1
      · exact z2 (bI_0.mpr q1)
abbrev y_win (a b : Int32) : Prop := ¬ a < 0 ∧ ¬ b ≤ a ∧ b ≤ 64
abbrev y_holdOk (m : q_S) (g p a b : Int32) : Prop := y_isG g ∧ y_isP m p ∧ y_win a b
theorem y_win_nat {a b : Int32} (h : y_win a b) : ∃ x y, a = nI x ∧ b = nI y ∧ x < y ∧ y ≤ 64 := by
  obtain ⟨h1, h2, h3⟩ := h
  obtain ⟨x, hx, rfl⟩ := nI_of h1
  have hb : ¬ b < 0 := by
    intro q
    apply h2
    rw [Int32.le_iff_toInt_le, nI_toInt hx]
    rw [Int32.lt_iff_toInt_lt, Int32.toInt_zero] at q
    omega
  obtain ⟨y, hy, rfl⟩ := nI_of hb
  exact ⟨x, y, rfl, rfl, Nat.lt_of_not_le (fun q => h2 (nI_le q hx)), (nI_leI hy (by omega)).mp h3⟩
theorem z_hold_ok {m : q_S} (hok : z_ok m) (hn : z_nh m < 20) {g p a b : Nat} (hg : g < 8) (hp : p < z_np m) (hab : a ≤ b) (hb : b ≤ 64) : z_ok (z_hold m g p a b) := by
  obtain ⟨⟨h1, h2, h3⟩, g4, g5, g7, g8, g9, g10, g12, g13⟩ := hok
  refine ⟨⟨h1, by show z_nh m + 1 ≤ 20; omega, h3⟩, g4, g5, g7, g8, g9, g10, fun i hi => ?_, g13⟩
  have hi : i < z_nh m + 1 := hi
  show (if i = z_nh m then g else z_ho m i 0) < 8 ∧ (if i = z_nh m then p else z_ho m i 1) < z_np m ∧ (if i = z_nh m then a else z_ho m i 2) ≤ (if i = z_nh m then b else z_ho m i 3) ∧ (if i = z_nh m then b else z_ho m i 3) ≤ 64
  by_cases e : i = z_nh m
  · rw [if_pos e, if_pos e, if_pos e, if_pos e]; exact ⟨hg, hp, hab, hb⟩
  · rw [if_neg e, if_neg e, if_neg e, if_neg e]; exact g12 i (by omega)
theorem C_hold {m : q_S} {g p a b : Int32} {h : q_H} {Q : Int32 → q_H → Prop} (hok : z_ok m) (hc : z_C m h) (k0 : ¬ (y_holdOk m g p a b ∧ z_nh m < 20) → ∀ u, z_C m u → z_Fc h u → Q (-1) u) (k1 : y_holdOk m g p a b → z_nh m < 20 → ∀ u, z_C (z_hold m g.toNatClampNeg p.toNatClampNeg a.toNatClampNeg b.toNatClampNeg) u → z_Fc h u → Q (nI (z_nh m)) u) : wp_X4_hold g p a b h Q := by
  have hnp := hok.1.1
  have hnh := hok.1.2.1
  obtain ⟨c1, cw, cr⟩ := z_C_iff.mp hc
  have k00 : ¬ y_holdOk m g p a b → Q (-1) h := fun n => k0 (fun q => n q.1) h hc (z_Fc.rf h)
  unfold wp_X4_hold
  refine s_isProgram (fun n => ⟨fun _ => k00 (fun q => n q.1), fun y => absurd rfl y⟩) (fun gg hgg e ha => ⟨fun y => absurd y (by decide), fun _ => ?_⟩)
  refine s_isPart hok hc.1 (fun n => ⟨fun _ => k00 (fun q => n q.2.1), fun y => absurd rfl y⟩) (fun pp hpp e2 hb => ⟨fun y => absurd y (by decide), fun _ => ?_⟩)
  refine ⟨fun z => k00 (fun q => q.2.2.1 z), fun z => ⟨fun z1 => k00 (fun q => q.2.2.2.1 z1), fun z1 => ⟨fun z2 => ?_, fun z2 => k00 (fun q => z2 q.2.2.2.2)⟩⟩⟩
  have ok : y_holdOk m g p a b := ⟨ha, hb, z, z1, z2⟩
  obtain ⟨x, y, rfl, rfl, hxy, hy64⟩ := y_win_nat ⟨z, z1, z2⟩
  have k1 := k1 ok
  subst e; subst e2
  rw [cl (by omega), cl (by omega), cl (by omega), cl (by omega)] at k1
  unfold wp_X0_add
  obtain ⟨d1, d2, d3, d4, d5, d6, ⟨d7, d7'⟩, d8⟩ := id c1
  rw [d7, cl (by omega)]
  refine ⟨fun y1 => ?_, fun y1 => ?_⟩
  · have h20 : z_nh m < 20 := (nI_ltI (by omega) (by omega)).mp (show nI (z_nh m) < nI 20 from y1)
    refine ⟨show vp_in _ 20 from vin h20 (by omega), show vp_in _ 20 from vin h20 (by omega), show vp_in _ 20 from vin h20 (by omega), show vp_in _ 20 from vin h20 (by omega), ?_⟩
    rw [nI_1, q_sI_r, nI_pred]
    refine s_regather (z_hold_ok hok h20 hgg hpp (by omega : x ≤ y) hy64) ?_ ?_ (fun u hu hf => k1 h20 u hu ?_)
    · refine ⟨d1, d2, d3, d4, d5, d6, ⟨q_sI_r, fun i hi => ?_⟩, d8⟩
      have hi : i < z_nh m + 1 := hi
      show _ = nI (if i = z_nh m then gg else z_ho m i 0) ∧ _ = nI (if i = z_nh m then pp else z_ho m i 1) ∧ _ = nI (if i = z_nh m then x else z_ho m i 2) ∧ _ = nI (if i = z_nh m then y else z_ho m i 3)
      by_cases e : i = z_nh m
      · subst e
        rw [if_pos rfl, if_pos rfl, if_pos rfl, if_pos rfl]
        refine ⟨?_, ?_, ?_, ?_⟩
        · rw [q_sI_o (by omega), q_sI_o (by omega), q_sI_o (by omega), q_sI_o (by omega), q_sI_r]
        · rw [q_sI_o (by omega), q_sI_o (by omega), q_sI_o (by omega), q_sI_r]
        · rw [q_sI_o (by omega), q_sI_o (by omega), q_sI_r]
        · rw [q_sI_o (by omega), q_sI_r]
      · rw [if_neg e, if_neg e, if_neg e, if_neg e]
        obtain ⟨f1, f2, f3, f4⟩ := d7' i (by omega)
        refine ⟨?_, ?_, ?_, ?_⟩
        · rw [q_sI_o (by omega), q_sI_o (by omega), q_sI_o (by omega), q_sI_o (by omega), q_sI_o (by omega)]; exact f1
        · rw [q_sI_o (by omega), q_sI_o (by omega), q_sI_o (by omega), q_sI_o (by omega), q_sI_o (by omega)]; exact f2
        · rw [q_sI_o (by omega), q_sI_o (by omega), q_sI_o (by omega), q_sI_o (by omega), q_sI_o (by omega)]; exact f3
        · rw [q_sI_o (by omega), q_sI_o (by omega), q_sI_o (by omega), q_sI_o (by omega), q_sI_o (by omega)]; exact f4
    · show ∀ t, t < 64 → tb (h.2 0 0 5) t = _
      intro t ht
      rw [cw t ht, z_wk_same (m := m) (m' := z_hold m gg pp x y) rfl rfl]
    · exact (show z_Fc h _ from fun k hk => by funext i j; rw [q_sI_o (by omega), q_sI_o (by omega), q_sI_o (by omega), q_sI_o (by omega), q_sI_o (by omega)]).tr hf
  · have h20 : ¬ z_nh m < 20 := fun q => y1 (show nI (z_nh m) < nI 20 from nI_lt q (by omega))
    refine s_regather hok c1 cw (fun u hu hf => k0 (fun q => h20 q.2) u hu hf)
abbrev y_backOk (m : q_S) (a b : Int32) : Prop := (¬ a < 0 ∧ ¬ nI (z_nh m) ≤ a) ∧ ¬ b < nI (z_ho m a.toNatClampNeg 2) ∧ b < nI (z_ho m a.toNatClampNeg 3)
theorem z_back_ok {m : q_S} (hok : z_ok m) {i t : Nat} (hi : i < z_nh m) (h1 : z_ho m i 2 ≤ t) (h2 : t < z_ho m i 3) : z_ok (z_back m i t) := by
  obtain ⟨g1, g4, g5, g7, g8, g9, g10, g12, g13⟩ := hok
  refine ⟨g1, g4, g5, g7, g8, g9, g10, fun j hj => ?_, g13⟩
  obtain ⟨e1, e2, e3, e4⟩ := g12 j hj
  show (if j = i ∧ 0 = 3 then t else z_ho m j 0) < 8 ∧ (if j = i ∧ 1 = 3 then t else z_ho m j 1) < z_np m ∧ (if j = i ∧ 2 = 3 then t else z_ho m j 2) ≤ (if j = i ∧ 3 = 3 then t else z_ho m j 3) ∧ (if j = i ∧ 3 = 3 then t else z_ho m j 3) ≤ 64
  rw [if_neg (by omega), if_neg (by omega), if_neg (by omega)]
  refine ⟨e1, e2, ?_, ?_⟩
  · split
    · next q => rw [q.1]; exact h1
    · exact e3
  · split
    · next q => rw [q.1] at e4; omega
    · exact e4
theorem C_back {m : q_S} {a b : Int32} {h : q_H} {Q : Int32 → q_H → Prop} (hok : z_ok m) (hc : z_C m h) (k0 : ¬ y_backOk m a b → Q 0 h) (k1 : y_backOk m a b → ∀ u, z_C (z_back m a.toNatClampNeg b.toNatClampNeg) u → z_Fc h u → Q 1 u) : wp_X4_back a b h Q := by
  have hnh := hok.1.2.1
  obtain ⟨c1, cw, cr⟩ := z_C_iff.mp hc
  obtain ⟨d1, d2, d3, d4, d5, d6, ⟨d7, d7'⟩, d8⟩ := id c1
  unfold wp_X4_back
  refine s_chas (m := m) (n := z_nh m) (by omega) d7 (fun n => ⟨fun _ => k0 (fun q => n q.1), fun z => absurd rfl z⟩) (fun i hi e ha => ⟨fun z => absurd z (by decide), fun _ => ?_⟩)
  subst e
  obtain ⟨f1, f2, f3, f4⟩ := d7' i hi
  obtain ⟨b1, b2, b3, b4⟩ := hok.2.2.2.2.2.2.2.1 i hi
  rw [cl (by omega)] at k1
  have k0' : ¬ (¬ b < nI (z_ho m i 2) ∧ b < nI (z_ho m i 3)) → Q 0 h := fun n => k0 (fun q => n (by have := q.2; rwa [cl (by omega)] at this))
  unfold wp_X0_fromOf
  rw [cl (by omega), f3]
  refine ⟨show vp_in _ 20 from vin (by omega) (by omega), fun z => k0' (fun q => q.1 z), fun z => ?_⟩
  unfold wp_X0_toOf
  rw [cl (by omega), f4]
  refine ⟨show vp_in _ 20 from vin (by omega) (by omega), fun z1 => ?_, fun z1 => k0' (fun q => z1 q.2)⟩
  have ok : y_backOk m (nI i) b := ⟨ha, by rw [cl (by omega)]; exact ⟨z, z1⟩⟩
  have hb : ¬ b < 0 := by
    intro q
    apply z
    rw [Int32.lt_iff_toInt_lt] at q ⊢
    rw [nI_toInt (by omega)]
    rw [Int32.toInt_zero] at q
    omega
  obtain ⟨t, ht, rfl⟩ := nI_of hb
  have t1 : z_ho m i 2 ≤ t := Nat.le_of_not_lt (fun q => z (nI_lt q (by omega)))
  have t2 : t < z_ho m i 3 := (nI_ltI ht (by omega)).mp z1
  have k1 := k1 ok
  rw [cl ht] at k1
  unfold wp_X0_endAhead
  rw [cl (by omega)]
  refine ⟨show vp_in _ 20 from vin (by omega) (by omega), ?_⟩
  refine s_regather (z_back_ok hok hi t1 t2) ?_ ?_ (fun u hu hf => k1 u hu ?_)
  · refine ⟨d1, d2, d3, d4, d5, d6, ⟨d7, fun j hj => ?_⟩, ⟨d8.1, fun j hj => ?_⟩⟩
    · obtain ⟨p1, p2, p3, p4⟩ := d7' j hj
      show _ = nI (if j = i ∧ 0 = 3 then t else z_ho m j 0) ∧ _ = nI (if j = i ∧ 1 = 3 then t else z_ho m j 1) ∧ _ = nI (if j = i ∧ 2 = 3 then t else z_ho m j 2) ∧ _ = nI (if j = i ∧ 3 = 3 then t else z_ho m j 3)
      rw [if_neg (by omega), if_neg (by omega), if_neg (by omega)]
      refine ⟨p1, p2, p3, ?_⟩
      by_cases e : j = i
      · subst e; rw [if_pos ⟨rfl, rfl⟩, q_sI_r]
      · rw [if_neg (fun q => e q.1), q_sI_o (by omega)]; exact p4
    · obtain ⟨p1, p2, p3, p4⟩ := d8.2 j hj
      exact ⟨p1, p2, p3, by rw [q_sI_o (by omega)]; exact p4⟩
  · show ∀ t, t < 64 → tb (h.2 0 0 5) t = _
    intro x hx
    rw [cw x hx, z_wk_same (m := m) (m' := z_back m i t) rfl rfl]
  · exact (show z_Fc h _ from fun k hk => by funext i j; rw [q_sI_o (by omega)]).tr hf
abbrev y_timerOk (m : q_S) (g p a b : Int32) : Prop := y_isG g ∧ y_isP m p ∧ ¬ a < 0 ∧ ¬ b < a ∧ b < 64
theorem z_timer_ok {m : q_S} (hok : z_ok m) (hn : z_nt m < 12) {g p a b : Nat} (hg : g < 8) (hp : p < z_np m) (hab : a ≤ b) (hb : b < 64) : z_ok (z_timer m g p a b) := by
  obtain ⟨⟨h1, h2, h3⟩, g4, g5, g7, g8, g9, g10, g12, g13⟩ := hok
  refine ⟨⟨h1, h2, by show z_nt m + 1 ≤ 12; omega⟩, g4, g5, g7, g8, g9, g10, g12, fun i hi => ?_⟩
  have hi : i < z_nt m + 1 := hi
  show (if i = z_nt m then g else z_ti m i 0) < 8 ∧ (if i = z_nt m then p else z_ti m i 1) < z_np m ∧ (if i = z_nt m then a else z_ti m i 2) ≤ (if i = z_nt m then b else z_ti m i 3) ∧ (if i = z_nt m then b else z_ti m i 3) < 64
  by_cases e : i = z_nt m
  · rw [if_pos e, if_pos e, if_pos e, if_pos e]; exact ⟨hg, hp, hab, hb⟩
  · rw [if_neg e, if_neg e, if_neg e, if_neg e]; exact g13 i (by omega)
/-- wakings and rows anew -/
theorem s_rewake {m : q_S} {h : q_H} {r : Int32} {Q : Int32 → q_H → Prop} (hok : z_ok m) (hc : z_C1 m h) (k : ∀ g, z_C m g → z_Fc h g → Q r g) : wp_X4_fewestWakings h (fun r8 g7 => wp_X4_gatherWants 0 (-1) (q_sL g7 0 0 5 r8) (fun g9 => Q r g9)) := by
  refine s_fewest hok hc (fun x hx => ?_)
  refine s_regather hok (hc.ints (fun _ _ => rfl)) (fun t ht => ?_) (fun g hg hf => k g hg ((show z_Fc h (q_sL h 0 0 5 x) from fun _ _ => rfl).tr hf))
  rw [← hx t ht]
  congr 1
theorem C_timer {m : q_S} {g p a b : Int32} {h : q_H} {Q : Int32 → q_H → Prop} (hok : z_ok m) (hc : z_C m h) (k0 : ¬ (y_timerOk m g p a b ∧ z_nt m < 12) → ∀ u, z_C m u → z_Fc h u → Q (-1) u) (k1 : y_timerOk m g p a b → z_nt m < 12 → ∀ u, z_C (z_timer m g.toNatClampNeg p.toNatClampNeg a.toNatClampNeg b.toNatClampNeg) u → z_Fc h u → Q (nI (z_nt m)) u) : wp_X4_timer g p a b h Q := by
  have hnp := hok.1.1
  have hnt := hok.1.2.2
  obtain ⟨c1, cw, cr⟩ := z_C_iff.mp hc
  have k00 : ¬ y_timerOk m g p a b → Q (-1) h := fun n => k0 (fun q => n q.1) h hc (z_Fc.rf h)
  unfold wp_X4_timer
  refine s_isProgram (fun n => ⟨fun _ => k00 (fun q => n q.1), fun y => absurd rfl y⟩) (fun gg hgg e ha => ⟨fun y => absurd y (by decide), fun _ => ?_⟩)
  refine s_isPart hok hc.1 (fun n => ⟨fun _ => k00 (fun q => n q.2.1), fun y => absurd rfl y⟩) (fun pp hpp e2 hb => ⟨fun y => absurd y (by decide), fun _ => ?_⟩)
  refine ⟨fun z => k00 (fun q => q.2.2.1 z), fun z => ⟨fun z1 => k00 (fun q => q.2.2.2.1 z1), fun z1 => ⟨fun z2 => ?_, fun z2 => k00 (fun q => z2 q.2.2.2.2)⟩⟩⟩
  have ok : y_timerOk m g p a b := ⟨ha, hb, z, z1, z2⟩
  obtain ⟨x, hx, rfl⟩ := nI_of z
  have hbn : ¬ b < 0 := by
    intro q
    apply z1
    rw [Int32.lt_iff_toInt_lt] at q ⊢
    rw [nI_toInt hx]
    rw [Int32.toInt_zero] at q
    omega
  obtain ⟨y, hy, rfl⟩ := nI_of hbn
  have hxy : x ≤ y := Nat.le_of_not_lt (fun q => z1 (nI_lt q hx))
  have hy64 : y < 64 := (nI_ltI hy (by omega)).mp (show nI y < nI 64 from z2)
  have k1 := k1 ok
  subst e; subst e2
  rw [cl (by omega), cl (by omega), cl (by omega), cl (by omega)] at k1
  unfold wp_X0_add
  obtain ⟨d1, d2, d3, d4, d5, d6, d7, ⟨d8, d8'⟩⟩ := id c1
  rw [d8, cl (by omega), nI_1 y]
  refine ⟨fun y1 => ?_, fun y1 => ?_⟩
  · have h20 : z_nt m < 12 := (nI_ltI (by omega) (by omega)).mp (show nI (z_nt m) < nI 12 from y1)
    refine ⟨show vp_in _ 12 from vin h20 (by omega), show vp_in _ 12 from vin h20 (by omega), show vp_in _ 12 from vin h20 (by omega), show vp_in _ 12 from vin h20 (by omega), ?_⟩
    rw [nI_1, q_sI_r, nI_pred]
    refine s_rewake (z_timer_ok hok h20 hgg hpp hxy hy64) ?_ (fun u hu hf => k1 h20 u hu ?_)
    · refine ⟨d1, d2, d3, d4, d5, d6, ⟨d7.1, fun i hi => ?_⟩, ⟨q_sI_r, fun i hi => ?_⟩⟩
      · obtain ⟨f1, f2, f3, f4⟩ := d7.2 i hi
        refine ⟨?_, ?_, ?_, ?_⟩
        · rw [q_sI_o (by omega), q_sI_o (by omega), q_sI_o (by omega), q_sI_o (by omega), q_sI_o (by omega)]; exact f1
        · rw [q_sI_o (by omega), q_sI_o (by omega), q_sI_o (by omega), q_sI_o (by omega), q_sI_o (by omega)]; exact f2
        · rw [q_sI_o (by omega), q_sI_o (by omega), q_sI_o (by omega), q_sI_o (by omega), q_sI_o (by omega)]; exact f3
        · rw [q_sI_o (by omega), q_sI_o (by omega), q_sI_o (by omega), q_sI_o (by omega), q_sI_o (by omega)]; exact f4
      have hi : i < z_nt m + 1 := hi
      show _ = nI (if i = z_nt m then gg else z_ti m i 0) ∧ _ = nI (if i = z_nt m then pp else z_ti m i 1) ∧ _ = nI (if i = z_nt m then x else z_ti m i 2) ∧ _ = nI ((if i = z_nt m then y else z_ti m i 3) + 1)
      by_cases e : i = z_nt m
      · subst e
        rw [if_pos rfl, if_pos rfl, if_pos rfl, if_pos rfl]
        refine ⟨?_, ?_, ?_, ?_⟩
        · rw [q_sI_o (by omega), q_sI_o (by omega), q_sI_o (by omega), q_sI_o (by omega), q_sI_r]
        · rw [q_sI_o (by omega), q_sI_o (by omega), q_sI_o (by omega), q_sI_r]
        · rw [q_sI_o (by omega), q_sI_o (by omega), q_sI_r]
        · rw [q_sI_o (by omega), q_sI_r]
      · rw [if_neg e, if_neg e, if_neg e, if_neg e]
        obtain ⟨f1, f2, f3, f4⟩ := d8' i (by omega)
        refine ⟨?_, ?_, ?_, ?_⟩
        · rw [q_sI_o (by omega), q_sI_o (by omega), q_sI_o (by omega), q_sI_o (by omega), q_sI_o (by omega)]; exact f1
        · rw [q_sI_o (by omega), q_sI_o (by omega), q_sI_o (by omega), q_sI_o (by omega), q_sI_o (by omega)]; exact f2
        · rw [q_sI_o (by omega), q_sI_o (by omega), q_sI_o (by omega), q_sI_o (by omega), q_sI_o (by omega)]; exact f3
        · rw [q_sI_o (by omega), q_sI_o (by omega), q_sI_o (by omega), q_sI_o (by omega), q_sI_o (by omega)]; exact f4
    · exact (show z_Fc h _ from fun k hk => by funext i j; rw [q_sI_o (by omega), q_sI_o (by omega), q_sI_o (by omega), q_sI_o (by omega), q_sI_o (by omega)]).tr hf
  · have h20 : ¬ z_nt m < 12 := fun q => y1 (show nI (z_nt m) < nI 12 from nI_lt q (by omega))
    exact s_rewake hok c1 (fun u hu hf => k0 (fun q => h20 q.2) u hu hf)
