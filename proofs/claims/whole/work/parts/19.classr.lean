theorem s_drainAwake {m : q_S} {p : Nat} {w : Nat → Bool} {x : Int64} {h : q_H} {Q : Int32 → q_H → Prop} (hP : z_P m p h) (hx : ∀ t, t < 64 → tb x t = w t) (k : Q (nI (z_sum (fun t => if w t = true then 1 else 0) 64 * z_dr m p 0)) h) : wp_X1_drainAwake p x h Q := by
  unfold wp_X1_drainAwake
  refine s_bitCount ?_
  have e : z_sum (fun t => if tb x t = true then 1 else 0) 64 = z_sum (fun t => if w t = true then 1 else 0) 64 := z_sum_congr 64 (fun t ht => by show (if _ then 1 else 0) = (if _ then 1 else 0); rw [hx t ht])
  rw [e, (hP 0 (by omega)).1, pk_mul]
  exact k
theorem s_plan {m : q_S} {lo : Int32} {p : Nat} {x : Int64} {h : q_H} {Q : Int32 → q_H → Prop} (hok : z_ok m) (hP : z_P m p h) (hp : p < 6) (hx : ∀ t, t < 64 → tb x t = z_w m lo p t) (k : ∀ g, z_F3 h g → Q (nI (z_plan m lo p)) g) : wp_X4_drainInPlan (nI p) x h Q := by
  unfold wp_X4_drainInPlan
  refine s_layOut hx (fun g hg hS => ⟨vin hp (by omega), ?_⟩)
  have hP' : z_P m p g := by
    intro s hs
    rw [hg.1 3 (by omega) (by omega) (by omega), hg.1 4 (by omega) (by omega) (by omega), hg.1 5 (by omega) (by omega) (by omega)]
    exact hP s hs
  rw [cl (by omega)]
  refine s_drainAwake hP' hx ⟨vin hp (by omega), ?_⟩
  refine s_planned hok hP' hS ?_
  rw [nI_add]
  exact k g hg
theorem C_drain {m : q_S} {a : Int32} {h : q_H} {Q : Int32 → q_H → Prop} (hok : z_ok m) (hc : z_C m h) (k : ∀ g, z_F3 h g → Q (v_drain m a) g) : wp_X4_drain a h Q := by
  have := hok.1.1
  unfold wp_X4_drain v_drain at *
  refine s_isPart hok hc.1 (fun n => ⟨fun _ => ?_, fun z => absurd rfl z⟩) (fun p hp e ha => ⟨fun z => absurd z (by decide), fun _ => ?_⟩)
  · have := k h (z_F3.rf h); rw [if_neg n] at this; exact this
  rw [if_pos ha] at k
  subst e
  rw [cl (by omega)] at k
  refine s_ticks hc.rows (by omega) (fun x hx => ?_)
  exact s_plan hok (hc.one.P (by omega)) (by omega) hx k
theorem s_byRule {m : q_S} {p a b c : Nat} {h : q_H} {Q : Int32 → q_H → Prop} (hok : z_ok m) (hr : z_rows m (-1) (h.2 14 0)) (hP : z_P m p h) (hT : z_T p a b c h) (hab : a ≤ b) (hbc : b ≤ c) (hc : c ≤ 64) (hp : p < 6) (k : ∀ g, z_F3 h g → Q (nI (z_byrule m p a b c)) g) : wp_X4_drainByRule (nI p) h Q := by
  unfold wp_X4_drainByRule
  refine s_layIdle hr hp (fun g hg hS => ⟨vin hp (by omega), ?_⟩)
  have hr' : z_rows m (-1) (g.2 14 0) := by rw [hg.2]; exact hr
  have hP' : z_P m p g := by
    intro s hs
    rw [hg.1 3 (by omega) (by omega) (by omega), hg.1 4 (by omega) (by omega) (by omega), hg.1 5 (by omega) (by omega) (by omega)]
    exact hP s hs
  have hT' : z_T p a b c g := by
    unfold z_T
    rw [hg.1 6 (by omega) (by omega) (by omega)]
    exact hT
  refine s_ticks hr' hp (fun x hx => ?_)
  rw [cl (by omega)]
  refine s_drainAwake hP' hx ⟨vin hp (by omega), ?_⟩
  refine s_sumBy hok hP' hT' hab hbc hc hS ?_
  rw [nI_add]
  exact k g hg
theorem C_ruled {m : q_S} {a : Int32} {h : q_H} {Q : Int32 → q_H → Prop} (hok : z_ok m) (hc : z_C m h) (k : ∀ g, z_F3 h g → Q (v_ruled m a) g) : wp_X4_ruled a h Q := by
  have := hok.1.1
  unfold wp_X4_ruled v_ruled at *
  refine s_isPart hok hc.1 (fun n => ⟨fun _ => ?_, fun z => absurd rfl z⟩) (fun p hp e ha => ⟨fun z => absurd z (by decide), fun _ => ?_⟩)
  · have := k h (z_F3.rf h); rw [if_neg n] at this; exact this
  rw [if_pos ha] at k
  subst e
  rw [cl (by omega)] at k
  obtain ⟨r1, r2, r3⟩ := hok.2.2.2.2.2.1 p
  exact s_byRule hok hc.rows (hc.one.P (by omega)) (hc.one.T (by omega)) r1 r2 r3 (by omega) k
theorem s_find {w : Nat → Bool} {t : Nat} {h : q_H} {Q : Int32 → q_H → Prop} (hS : z_Sp w h) (ht : t < 64) (k0 : w t = true → Q (-1) h) (k1 : w t = false → Q (nI (z_cnt w (t - z_cur w t))) h) : wp_X2_find (nI t) h Q := by
  have h64 := z_cnt_le w 64
  unfold wp_X2_find
  refine pk_loop (σ := q_H) (fun n i s => lp_X2_find_2 (nI t) Q (fun _ g => Q (-1) g) n (nI i) s) (fun i s => s = h ∧ ∀ s0, s0 < 64 → z_st w s0 = true → z_cnt w s0 < i → ¬ (s0 ≤ t ∧ t < s0 + z_len w s0)) (z_cnt w 64) 0 h (by omega) ⟨rfl, fun s0 _ _ hlt => by omega⟩ ?_ ?_
  · rintro n s ⟨rfl, hs⟩
    unfold lp_X2_find_2
    rw [hS.1]
    refine ⟨fun _ => ?_, fun z => absurd (nI_le (Nat.le_refl _) (by omega)) z⟩
    cases e : w t with
    | true => exact k0 e
    | false =>
      obtain ⟨a, b, c⟩ := z_from e
      exact absurd ⟨b, c ht⟩ (hs _ (by omega) a (z_cnt_lt a (by omega)))
  · rintro n i s hi ⟨rfl, hs⟩ ih
    obtain ⟨s0, hs0, hst, hcs⟩ := z_cnt_hit hi
    subst hcs
    have hcl := z_cnt_le w s0
    have hlen := z_len_le w (show s0 ≤ 64 by omega)
    obtain ⟨f1, f2⟩ := hS.2 s0 hs0 hst
    unfold lp_X2_find_2
    rw [hS.1, cl (by omega), f1, f2, nI_add, nI_1 (z_cnt w s0)]
    refine ⟨fun z => absurd z (nle hi (by omega)), fun _ => ⟨vin (by omega) (by omega), ?_⟩⟩
    have next : ¬ (s0 ≤ t ∧ t < s0 + z_len w s0) → ∀ s1, s1 < 64 → z_st w s1 = true → z_cnt w s1 < z_cnt w s0 + 1 → ¬ (s1 ≤ t ∧ t < s1 + z_len w s1) := by
      intro hn s1 h1 h2 h3
      by_cases e : z_cnt w s1 = z_cnt w s0
      · have := z_cnt_inj h2 hst e
        subst this; exact hn
      · exact hs s1 h1 h2 (by omega)
    refine ⟨fun z => ih _ ⟨rfl, next (fun q => ?_)⟩, fun z => ⟨vin (by omega) (by omega), vin (by omega) (by omega), fun z1 => ih _ ⟨rfl, next (fun q => ?_)⟩, fun z1 => ?_⟩⟩
    · have := (nI_ltI (by omega) (by omega)).mp z; omega
    · have := (nI_leI (by omega) (by omega)).mp z1; omega
    · have a1 : ¬ t < s0 := fun q => z (nI_lt q (by omega))
      have a2 : ¬ s0 + z_len w s0 ≤ t := fun q => z1 (nI_le q (by omega))
      obtain ⟨e1, e2⟩ := z_from_uniq hst (by omega) (by omega : t < s0 + z_len w s0)
      have := k1 e2
      rw [← e1] at this
      exact this
theorem C_state {m : q_S} {a b : Int32} {h : q_H} {Q : Int32 → q_H → Prop} (hok : z_ok m) (hc : z_C m h) (k : ∀ g, z_F3 h g → Q (v_state m a b) g) : wp_X4_state a b h Q := by
  have := hok.1.1
  unfold wp_X4_state v_state at *
  refine s_isPart hok hc.1 (fun n => ⟨fun _ => ?_, fun z => absurd rfl z⟩) (fun p hp e ha => ⟨fun z => absurd z (by decide), fun _ => ?_⟩)
  · have := k h (z_F3.rf h); rw [if_neg (fun q => n q.1)] at this; exact this
  refine s_isTick (fun n => ⟨fun _ => ?_, fun z => absurd rfl z⟩) (fun t ht e2 hb => ⟨fun z => absurd z (by decide), fun _ => ?_⟩)
  · have := k h (z_F3.rf h); rw [if_neg (fun q => n q.2)] at this; exact this
  rw [if_pos ⟨ha, hb⟩] at k
  subst e; subst e2
  rw [cl (by omega), cl (by omega)] at k
  unfold z_stv at k
  refine s_layIdle hc.rows (by omega) (fun g hg hS => ?_)
  have hP : z_P m p g := (hg.C hc).one.P (by omega)
  have kk := k g hg
  refine s_find hS ht (fun hw => ⟨fun _ => ?_, fun z => absurd rfl z⟩) (fun hw => ?_)
  · rw [if_pos hw] at kk; exact kk
  rw [if_neg (by rw [hw]; decide)] at kk
  obtain ⟨f1, f2, f3⟩ := z_from hw
  have hcu := z_cur_le (z_w m (-1) p) t
  have hs64 : t - z_cur (z_w m (-1) p) t < 64 := by omega
  have hcl := z_cnt_le (z_w m (-1) p) (t - z_cur (z_w m (-1) p) t)
  have hlen := z_len_le (z_w m (-1) p) (show t - z_cur (z_w m (-1) p) t ≤ 64 by omega)
  refine ⟨fun z => absurd z (w_m1 _ (by omega)), fun _ => ?_⟩
  refine s_lenOf hS hs64 f1 ?_
  refine s_endsAll hS hs64 f1 ⟨vin (by omega) (by omega), ?_⟩
  rw [cl (by omega)]
  refine s_best hok hP (by omega) ?_
  refine s_firstOf hS hs64 f1 ⟨vin (by omega) (by omega), ?_⟩
  refine s_restIn hP (z_best_lt _ _ _ _) (z_bst_can hok _ _ _ _) ?_
  rw [pk_sub f2, show t - (t - z_cur (z_w m (-1) p) t) = z_cur (z_w m (-1) p) t by omega]
  have hb1 : (if z_lst (z_w m (-1) p) (t - z_cur (z_w m (-1) p) t) = true then z_len (z_w m (-1) p) (t - z_cur (z_w m (-1) p) t) else z_len (z_w m (-1) p) (t - z_cur (z_w m (-1) p) t) - z_ri m p (z_best m p (z_len (z_w m (-1) p) (t - z_cur (z_w m (-1) p) t)) (z_lst (z_w m (-1) p) (t - z_cur (z_w m (-1) p) t)))) ≤ 64 := by split <;> omega
  refine ⟨fun z => ?_, fun z => ?_⟩
  · have := (nI_leI (by omega) (by omega)).mp z
    rw [if_neg (by omega)] at kk; exact kk
  · have : ¬ _ ≤ _ := fun q => z ((nI_leI (by omega) (by omega)).mpr q)
    rw [if_pos (by omega)] at kk; exact kk
theorem C_ruledState {m : q_S} {a b : Int32} {h : q_H} {Q : Int32 → q_H → Prop} (hok : z_ok m) (hc : z_C m h) (k : ∀ g, z_F3 h g → Q (v_ruledState m a b) g) : wp_X4_ruledState a b h Q := by
  have := hok.1.1
  unfold wp_X4_ruledState v_ruledState at *
  refine s_isPart hok hc.1 (fun n => ⟨fun _ => ?_, fun z => absurd rfl z⟩) (fun p hp e ha => ⟨fun z => absurd z (by decide), fun _ => ?_⟩)
  · have := k h (z_F3.rf h); rw [if_neg (fun q => n q.1)] at this; exact this
  refine s_isTick (fun n => ⟨fun _ => ?_, fun z => absurd rfl z⟩) (fun t ht e2 hb => ⟨fun z => absurd z (by decide), fun _ => ?_⟩)
  · have := k h (z_F3.rf h); rw [if_neg (fun q => n q.2)] at this; exact this
  rw [if_pos ⟨ha, hb⟩] at k
  subst e; subst e2
  rw [cl (by omega), cl (by omega)] at k
  unfold z_rsv at k
  refine s_layIdle hc.rows (by omega) (fun g hg hS => ?_)
  have hP : z_P m p g := (hg.C hc).one.P (by omega)
  have hT := (hg.C hc).one.T (show p < 6 by omega)
  obtain ⟨r1, r2, r3⟩ := hok.2.2.2.2.2.1 p
  have kk := k g hg
  refine s_find hS ht (fun hw => ⟨fun _ => ?_, fun z => absurd rfl z⟩) (fun hw => ?_)
  · rw [if_pos hw] at kk; exact kk
  rw [if_neg (by rw [hw]; decide)] at kk
  obtain ⟨f1, f2, f3⟩ := z_from hw
  have hcu := z_cur_le (z_w m (-1) p) t
  have hs64 : t - z_cur (z_w m (-1) p) t < 64 := by omega
  have hcl := z_cnt_le (z_w m (-1) p) (t - z_cur (z_w m (-1) p) t)
  have hlen := z_len_le (z_w m (-1) p) (show t - z_cur (z_w m (-1) p) t ≤ 64 by omega)
  refine ⟨fun z => absurd z (w_m1 _ (by omega)), fun _ => ?_⟩
  refine s_firstOf hS hs64 f1 ⟨vin (by omega) (by omega), ?_⟩
  refine s_lenOf hS hs64 f1 ?_
  refine s_endsAll hS hs64 f1 ?_
  rw [cl (by omega)]
  refine s_restBy hok hP hT r1 r2 r3 (by omega) ?_
  have hrl := z_rest_le m p (z_ru m p 0) (z_ru m p 1) (z_ru m p 2) (z_len (z_w m (-1) p) (t - z_cur (z_w m (-1) p) t)) (z_lst (z_w m (-1) p) (t - z_cur (z_w m (-1) p) t))
  rw [pk_sub f2, show t - (t - z_cur (z_w m (-1) p) t) = z_cur (z_w m (-1) p) t by omega]
  refine ⟨fun z => ?_, fun z => ⟨vin (by omega) (by omega), ?_⟩⟩
  · have := (nI_leI (by omega) (by omega)).mp z
    rw [if_neg (by omega)] at kk; exact kk
  · have hlt : ¬ _ ≤ _ := fun q => z ((nI_leI (by omega) (by omega)).mpr q)
    rw [if_pos (by omega)] at kk
    rw [← nI_pred (z_cur (z_w m (-1) p) t)]
    refine s_stateAt hT r1 r2 r3 (by omega) ?_
    have e : z_ah (z_ru m p 0) (z_ru m p 1) (z_ru m p 2) (z_cur (z_w m (-1) p) t + 1) = z_rs (z_ru m p 0) (z_ru m p 1) (z_ru m p 2) (z_cur (z_w m (-1) p) t) := by
      unfold z_ah; rw [if_neg (by omega)]; rfl
    rw [e]
    exact kk
theorem s_ofAll {m : q_S} {lo : Int32} {c : Nat} {h : q_H} {Q : Int32 → q_H → Prop} (hok : z_ok m) (hc : z_C1 m h) (hr : z_rows m lo (h.2 14 c)) (k : ∀ g, z_F3 h g → Q (v_all m lo) g) : wp_X4_drainOfAll c h Q := by
  have hnp := hok.1.1
  unfold wp_X4_drainOfAll
  refine pk_loop (σ := Int32 × q_H) (fun n i s => lp_X4_drainOfAll_4 c (fun x _ g => Q x g) n s.1 (nI i) s.2) (fun i s => z_F3 h s.2 ∧ s.1 = nI (z_sum (z_plan m lo) i)) (z_np m) 0 (0, h) (by omega) ⟨z_F3.rf h, rfl⟩ ?_ ?_
  · rintro n ⟨x, g⟩ ⟨hg, hx⟩
    have hx : x = _ := hx
    subst hx
    have hg : z_F3 h g := hg
    have hn : g.1 0 0 1 = nI (z_np m) := by rw [hg.1 0 (by omega) (by omega) (by omega)]; exact hc.1
    unfold lp_X4_drainOfAll_4
    rw [hn]
    exact ⟨fun _ => k g hg, fun z => absurd (nI_le (Nat.le_refl _) (by omega)) z⟩
  · rintro n i ⟨x, g⟩ hi ⟨hg, hx⟩ ih
    have hx : x = _ := hx
    subst hx
    have hg : z_F3 h g := hg
    have hc' : z_C1 m g := hc.ints (fun k hk => hg.1 k (by omega) (by omega) (by omega))
    have hr' : z_rows m lo (g.2 14 c) := by rw [hg.2]; exact hr
    unfold lp_X4_drainOfAll_4
    rw [hc'.1]
    refine ⟨fun z => absurd z (nle hi (by omega)), fun _ => ?_⟩
    refine s_ticks hr' (by omega) (fun y hy => ?_)
    refine s_plan hok (hc'.P (by omega)) (by omega) hy (fun g2 hg2 => ?_)
    rw [nI_add, nI_1 i]
    exact ih (_, _) ⟨hg.tr hg2, rfl⟩
theorem C_all {m : q_S} {h : q_H} {Q : Int32 → q_H → Prop} (hok : z_ok m) (hc : z_C m h) (k : ∀ g, z_F3 h g → Q (v_all m (-1)) g) : wp_X4_all h Q := s_ofAll hok hc.one hc.rows k
theorem s_chas {m : q_S} {c n : Nat} {a : Int32} {h : q_H} {Q : Int32 → q_H → Prop} (hn : n < 2 ^ 31) (hc : h.1 8 c 4 = nI n) (k0 : ¬ (¬ a < 0 ∧ ¬ nI n ≤ a) → Q 0 h) (k1 : ∀ i, i < n → a = nI i → (¬ a < 0 ∧ ¬ nI n ≤ a) → Q 1 h) : wp_X0_has c a h Q := by
  unfold wp_X0_has
  rw [hc]
  refine ⟨fun z => k0 (fun q => q.1 z), fun z => ⟨fun z1 => k0 (fun q => q.2 z1), fun z1 => ?_⟩⟩
  obtain ⟨p, hp, e⟩ := y_in hn ⟨z, z1⟩
  exact k1 p hp e ⟨z, z1⟩
theorem C_without {m : q_S} {a : Int32} {h : q_H} {Q : Int32 → q_H → Prop} (hok : z_ok m) (hc : z_C m h) (k : ∀ g, z_C m g → z_Fc h g → Q (v_without m a) g) : wp_X4_without a h Q := by
  have hnh := hok.1.2.1
  obtain ⟨c1, cw, cr⟩ := z_C_iff.mp hc
  unfold wp_X4_without
  refine s_chas (m := m) (n := z_nh m) (by omega) c1.2.2.2.2.2.2.1.1 (fun n => ⟨fun _ => ?_, fun z => absurd rfl z⟩) (fun i hi e ha => ⟨fun z => absurd z (by decide), fun _ => ?_⟩)
  · have := k h hc (z_Fc.rf h)
    unfold v_without at this
    rw [if_neg n] at this; exact this
  refine s_gather (lo := a) hok c1 cw (by omega) (fun f hf => ?_)
  have hg1 : z_C m (q_aL h 14 1 f) := by
    rw [z_C_iff]
    refine ⟨c1.ints (fun _ _ => rfl), ?_, ?_⟩
    · rw [q_aL_ne (by omega)]; exact cw
    · rw [q_aL_ne (by omega)]; exact cr
  refine s_ofAll (lo := -1) hok hg1.one hg1.rows (fun g2 hg2 => ?_)
  have hg2c := hg2.C hg1
  refine s_ofAll (lo := a) hok hg2c.one (by rw [hg2.2, q_aL_at]; exact hf) (fun g3 hg3 => ?_)
  have := k g3 (hg3.C hg2c) ((show z_Fc h (q_aL h 14 1 f) from fun _ _ => rfl).tr (hg2.fc.tr hg3.fc))
  unfold v_without at this
  rw [if_pos ha] at this
  exact this
theorem s_inSpans {m : q_S} {p : Nat} {h : q_H} {Q : Int32 → q_H → Prop} (hok : z_ok m) (hc : z_C m h) (hp : p < 6) (k : ∀ g, z_F3 h g → Q (nI (z_sum (z_ss (z_w m (-1) p) (z_G m p (z_w m (-1) p))) 64)) g) : wp_X4_drainInSpans (nI p) h Q := by
  unfold wp_X4_drainInSpans
  refine s_layIdle hc.rows hp (fun g hg hS => ⟨vin hp (by omega), ?_⟩)
  rw [cl (by omega)]
  exact s_planned hok ((hg.C hc).one.P hp) hS (k g hg)
theorem s_blameIn {m : q_S} {p g : Nat} {h : q_H} {Q : Int32 → q_H → Prop} (hok : z_ok m) (hc : z_C m h) (hp : p < 6) (hg : g < 8) (k : Q (nI (z_sum (z_shr m p g) 64 * z_dr m p 0)) h) : wp_X4_blameIn (nI p) (nI g) h Q := by
  have hr := hc.rows
  unfold wp_X4_blameIn
  refine s_ticksBy hp hg ?_
  refine pk_loop (σ := Int32 × q_H) (fun n i s => lp_X4_blameIn_16 (nI p) (h.2 14 0 (p * 8 + g)) _ n s.1 (nI i) s.2) (fun i s => s.2 = h ∧ s.1 = nI (z_sum (z_shr m p g) i)) 64 0 (0, h) (by omega) ⟨rfl, rfl⟩ ?_ ?_
  · rintro n ⟨x, u⟩ ⟨e, hx⟩
    have e : u = h := e
    subst e
    have hx : x = _ := hx
    subst hx
    unfold lp_X4_blameIn_16
    refine ⟨fun _ => ⟨vin hp (by omega), ?_⟩, fun z => absurd (show nI 64 ≤ nI 64 from nI_le (by omega) (by omega)) z⟩
    unfold wp_X1_drainIn
    dsimp only
    rw [show Int32.toNatClampNeg 0 = 0 by decide, cl (by omega), (hc.one.P hp 0 (by omega)).1, pk_mul]
    exact ⟨q_vp (by decide), k⟩
  · rintro n t ⟨x, u⟩ ht ⟨e, hx⟩ ih
    have e : u = h := e
    subst e
    have hx : x = _ := hx
    subst hx
    unfold lp_X4_blameIn_16
    refine ⟨fun z => absurd z (show ¬ nI 64 ≤ nI t from nle ht (by omega)), fun _ => ?_⟩
    refine s_hasTick ht ?_
    rw [hr p hp g hg t ht, nI_1 t]
    have hcnt : z_sum (fun x => if tb (u.2 14 0 (p * 8 + x)) t = true then 1 else 0) 8 = z_sum (fun x => if z_W m (-1) p x t = true then 1 else 0) 8 := z_sum_congr 8 (fun x hx => by show (if _ then 1 else 0) = (if _ then 1 else 0); rw [hr p hp x hx t ht])
    refine ⟨fun z => ?_, fun z => ?_⟩
    · have hf : z_W m (-1) p g t = false := by
        cases e : z_W m (-1) p g t with
        | false => rfl
        | true => rw [e] at z; exact absurd z (by decide)
      refine ih (_, _) ⟨rfl, ?_⟩
      show nI _ = nI (_ + z_shr m p g t)
      unfold z_shr
      rw [hf]; rfl
    · have hf : z_W m (-1) p g t = true := by
        cases e : z_W m (-1) p g t with
        | true => rfl
        | false => rw [e] at z; exact absurd rfl z
      refine s_programsAt hp ht ?_
      rw [hcnt]
      have hpos : 1 ≤ z_sum (fun x => if z_W m (-1) p x t = true then 1 else 0) 8 := by
        have := z_sum_lt (f := fun _ => 0) (g := fun x => if z_W m (-1) p x t = true then 1 else 0) (j := g) 8 (fun i _ => Nat.zero_le _) hg (by simp [hf])
        have e0 : z_sum (fun _ => 0) 8 = 0 := rfl
        omega
      have hle : z_sum (fun x => if z_W m (-1) p x t = true then 1 else 0) 8 ≤ 8 * 1 := z_sum_le (fun i => by show (if _ then 1 else 0) ≤ 1; split <;> omega) 8
      refine ⟨fun z1 => absurd z1 (nI_nle (by omega) (by omega)), fun _ => ⟨nI_ne0 (by omega) (by omega), ?_⟩⟩
      rw [show (840 : Int32) = nI 840 from rfl, pk_div (by omega) (by omega) (by omega), nI_add]
      refine ih (_, _) ⟨rfl, ?_⟩
      show nI _ = nI (_ + z_shr m p g t)
      unfold z_shr
      rw [if_pos hf]
theorem C_blame {m : q_S} {a : Int32} {h : q_H} {Q : Int32 → q_H → Prop} (hok : z_ok m) (hc : z_C m h) (k : ∀ g, z_F3 h g → Q (v_blame m a) g) : wp_X4_blame a h Q := by
  have hnp := hok.1.1
  unfold wp_X4_blame v_blame at *
  refine ⟨fun z => ?_, fun z => ?_⟩
  · rw [if_pos z] at k
    refine pk_loop (σ := Int32 × q_H) (fun n i s => lp_X4_blame_19 a (fun x _ g => Q x g) n s.1 (nI i) s.2) (fun i s => z_F3 h s.2 ∧ s.1 = nI (z_sum (fun p => 840 * z_sum (z_ss (z_w m (-1) p) (z_G m p (z_w m (-1) p))) 64) i)) (z_np m) 0 (0, h) (by omega) ⟨z_F3.rf h, rfl⟩ ?_ ?_
    · rintro n ⟨x, g⟩ ⟨hg, hx⟩
      have hx : x = _ := hx
      subst hx
      have hg : z_F3 h g := hg
      unfold lp_X4_blame_19
      rw [(hg.C hc).1]
      exact ⟨fun _ => k g hg, fun z => absurd (nI_le (Nat.le_refl _) (by omega)) z⟩
    · rintro n i ⟨x, g⟩ hi ⟨hg, hx⟩ ih
      have hx : x = _ := hx
      subst hx
      have hg : z_F3 h g := hg
      unfold lp_X4_blame_19
      rw [(hg.C hc).1]
      refine ⟨fun z => absurd z (nle hi (by omega)), fun _ => ⟨fun _ => ?_, fun y => absurd z y⟩⟩
      refine s_inSpans hok (hg.C hc) (by omega) (fun g2 hg2 => ?_)
      rw [show (840 : Int32) = nI 840 from rfl, pk_mul, nI_add, nI_1 i]
      exact ih (_, _) ⟨hg.tr hg2, rfl⟩
  · rw [if_neg z] at k
    refine s_isProgram (fun n => ⟨fun _ => ?_, fun z => absurd rfl z⟩) (fun g hg e ha => ⟨fun z => absurd z (by decide), fun _ => ?_⟩)
    · have := k h (z_F3.rf h); rw [if_neg n] at this; exact this
    have kk := k h (z_F3.rf h)
    rw [if_pos ha] at kk
    subst e
    rw [cl (by omega)] at kk
    refine pk_loop (σ := Int32 × q_H) (fun n i s => lp_X4_blame_19 (nI g) (fun x _ g => Q x g) n s.1 (nI i) s.2) (fun i s => s.2 = h ∧ s.1 = nI (z_sum (fun p => z_sum (z_shr m p g) 64 * z_dr m p 0) i)) (z_np m) 0 (0, h) (by omega) ⟨rfl, rfl⟩ ?_ ?_
    · rintro n ⟨x, u⟩ ⟨e, hx⟩
      have e : u = h := e
      subst e
      have hx : x = _ := hx
      subst hx
      unfold lp_X4_blame_19
      rw [hc.1]
      exact ⟨fun _ => kk, fun z => absurd (nI_le (Nat.le_refl _) (by omega)) z⟩
    · rintro n i ⟨x, u⟩ hi ⟨e, hx⟩ ih
      have e : u = h := e
      subst e
      have hx : x = _ := hx
      subst hx
      unfold lp_X4_blame_19
      rw [hc.1]
      refine ⟨fun z => absurd z (nle hi (by omega)), fun _ => ⟨fun y => absurd y z, fun _ => ?_⟩⟩
      refine s_blameIn hok hc (by omega) hg ?_
      rw [nI_add, nI_1 i]
      exact ih (_, _) ⟨rfl, rfl⟩
theorem C_look {m : q_S} {a : Int32} {h : q_H} {Q : Int32 → q_H → Prop} (hok : z_ok m) (hc : z_C m h) (k : Q (v_look m a) h) : wp_X4_look a h Q := by
  obtain ⟨c1, cw, cr⟩ := z_C_iff.mp hc
  unfold wp_X4_look v_look at *
  refine ⟨fun y => ?_, fun y => ?_, fun y => ?_, fun y => ?_, fun y => ?_⟩
  · rw [if_pos y] at k; rw [hc.1]; exact k
  · rw [if_neg (by omega), if_pos y] at k; unfold wp_X0_size; rw [c1.2.2.2.2.2.2.1.1]; exact k
  · rw [if_neg (by omega), if_neg (by omega), if_pos y] at k; unfold wp_X0_size; rw [c1.2.2.2.2.2.2.2.1]; exact k
  · rw [if_neg (by omega), if_neg (by omega), if_neg (by omega), if_pos y] at k
    refine s_bitCount ?_
    have e : z_sum (fun t => if tb (h.2 0 0 5) t = true then 1 else 0) 64 = z_nw m 64 := z_sum_congr 64 (fun t ht => by show (if _ then 1 else 0) = (if _ then 1 else 0); rw [cw t ht])
    rw [e]; exact k
  · rw [if_neg (by omega), if_neg (by omega), if_neg (by omega), if_neg (by omega)] at k; exact k
theorem C_held {m : q_S} {a b : Int32} {h : q_H} {Q : Int32 → q_H → Prop} (hok : z_ok m) (hc : z_C m h) (k : Q (v_held m a b) h) : wp_X4_held a b h Q := by
  have hnh := hok.1.2.1
  obtain ⟨c1, cw, cr⟩ := z_C_iff.mp hc
  unfold wp_X4_held v_held at *
  refine s_chas (m := m) (n := z_nh m) (by omega) c1.2.2.2.2.2.2.1.1 (fun n => ⟨fun _ => ?_, fun z => absurd rfl z⟩) (fun i hi e ha => ⟨fun z => absurd z (by decide), fun _ => ?_⟩)
  · rw [if_neg (fun q => n q.1)] at k; exact k
  subst e
  obtain ⟨g1, g2, g3, g4⟩ := c1.2.2.2.2.2.2.1.2 i hi
  have hlt : ∀ j, j < 4 → b = nI j → Q (nI (z_ho m i j)) h := by
    intro j hj e
    subst e
    rw [if_pos ⟨ha, y_of (by omega) hj⟩, cl (by omega), cl (by omega)] at k
    exact k
  have hb : ∀ j : Nat, j < 4 → b.toInt = (j : Int) → b = nI j := by
    intro j hj e
    apply Int32.toInt_inj.mp
    rw [e, nI_toInt (by omega)]
  refine ⟨fun y => ?_, fun y => ?_, fun y => ?_, fun y => ?_, fun y => ?_⟩
  · unfold wp_X0_programOf; rw [cl (by omega), g1]
    exact ⟨show vp_in (nI i) 20 from vin (by omega) (by omega), hlt 0 (by omega) (hb 0 (by omega) y)⟩
  · unfold wp_X0_partOf; rw [cl (by omega), g2]
    exact ⟨show vp_in (nI i) 20 from vin (by omega) (by omega), hlt 1 (by omega) (hb 1 (by omega) y)⟩
  · unfold wp_X0_fromOf; rw [cl (by omega), g3]
    exact ⟨show vp_in (nI i) 20 from vin (by omega) (by omega), hlt 2 (by omega) (hb 2 (by omega) y)⟩
  · unfold wp_X0_toOf; rw [cl (by omega), g4]
    exact ⟨show vp_in (nI i) 20 from vin (by omega) (by omega), hlt 3 (by omega) (hb 3 (by omega) y)⟩
  · rw [if_neg] at k
    · exact k
    · rintro ⟨_, q1, q2⟩
      obtain ⟨j, hj, e⟩ := y_in (n := 4) (by omega) ⟨q1, q2⟩
      rw [e, nI_toInt (by omega)] at y
      omega
