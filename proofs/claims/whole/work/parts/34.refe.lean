/-! ===== the reference: sums over the day ===== -/
theorem ix400 (p : Nat) : 4 * nI p + 0 = nI (4 * p + 0) := ix4 p 0
def z_aw (w : Nat → Bool) : Nat → Nat := z_sum (fun t => if w t = true then 1 else 0)
theorem z_aw_1 {w : Nat → Bool} {t : Nat} (h : w t = true) : z_aw w (t + 1) = z_aw w t + 1 := by
  show _ + (if w t = true then 1 else 0) = _
  rw [if_pos h]; rfl
theorem z_aw_0 {w : Nat → Bool} {t : Nat} (h : w t = false) : z_aw w (t + 1) = z_aw w t := by
  show _ + (if w t = true then 1 else 0) = _
  rw [h]; rfl
theorem z_ss_no {w : Nat → Bool} {G : Nat → Nat} {s : Nat} (h : z_st w s = false) : z_sum (z_ss w G) (s + 1) = z_sum (z_ss w G) s := by
  show _ + (if z_st w s = true then G s else 0) = _
  rw [h]; rfl
theorem z_st_w {w : Nat → Bool} {t : Nat} (h : w t = true) : z_st w t = false := ts_nt (fun q => by have := (z_st_iff.mp q).1; rw [h] at this; cases this)
theorem s5_drained {m : q_S} {lo : Int32} {p : Nat} {h : q_H} {Q : Int32 → q_H → Prop} (hok : z_ok m) (hN : z_N m lo h) (hp : p < 6) (k : ∀ g, z_K1 h g → Q (nI (z_plan m lo p)) g) : wp_X5_drained (nI p) h Q := by
  unfold wp_X5_drained
  refine pk_loop (σ := Int32 × q_H) (fun n i s => lp_X5_drained_4 (nI p) (fun x _ g => Q x g) n s.1 (nI i) s.2) (fun i s => z_K1 h s.2 ∧ s.1 = nI (z_aw (z_w m lo p) i * z_dr m p 0 + z_sum (z_ss (z_w m lo p) (z_G m p (z_w m lo p))) i)) 64 0 (0, h) (by omega) ⟨z_K1.rf h, by show (0 : Int32) = nI (0 * _ + 0); rw [Nat.zero_mul]; rfl⟩ ?_ ?_
  · rintro n ⟨x, u⟩ ⟨e, hx⟩
    have hx : x = _ := hx
    subst hx
    unfold lp_X5_drained_4
    exact ⟨fun _ => k u e, fun z => absurd (show nI 64 ≤ nI 64 from nI_le (by omega) (by omega)) z⟩
  · rintro n t ⟨x, u⟩ ht ⟨e, hx⟩ ih
    have e : z_K1 h u := e
    have hx : x = nI (z_aw (z_w m lo p) t * z_dr m p 0 + z_sum (z_ss (z_w m lo p) (z_G m p (z_w m lo p))) t) := hx
    subst hx
    have hNu := hN.k e
    unfold lp_X5_drained_4
    refine ⟨fun z => absurd z (show ¬ nI 64 ≤ nI t from nle ht (by omega)), fun _ => ?_⟩
    refine s5_isWanted hNu.2 hp ht ?_
    dsimp only
    rw [nI_1 t, ix40, cl (show 4 * p + 0 < 2 ^ 31 by omega), hNu.1.2.1 p hp 0 (by omega)]
    cases hw : z_w m lo p t with
    | true =>
      refine ⟨fun z => absurd z (by decide), fun _ => ⟨vin (by omega) (by omega), ?_⟩⟩
      refine ih (_, _) ⟨e, ?_⟩
      show nI _ + nI _ = nI _
      rw [nI_add, z_aw_1 hw, z_ss_no (z_st_w hw), Nat.succ_mul]
      congr 1; omega
    | false =>
      refine ⟨fun _ => ?_, fun z => absurd rfl z⟩
      refine s5_begins hNu hp ht (fun hs => ⟨fun _ => ?_, fun z => absurd rfl z⟩) (fun hs v hv h14 h15 => ⟨fun z => absurd z (by decide), fun _ => ?_⟩)
      · refine ih (_, _) ⟨e, ?_⟩
        show nI _ = nI _
        rw [z_aw_0 hw, z_ss_no hs]
      · have hlen := z_len_le (z_w m lo p) (show t ≤ 64 by omega)
        have hNv := hNu.k hv
        refine s5_choice hNv.1 hok hp ⟨h14, h15⟩ (by omega) (by omega) ?_
        refine s5_costs hNv.1 hok hp (z_best_lt _ _ _ _) ⟨h14, h15⟩ (by omega) (by omega) (fun n => absurd (z_bst_can hok _ _ _ _) n) (fun _ => ?_)
        refine ih (_, _) ⟨e.tr hv, ?_⟩
        show nI _ + nI _ = nI _
        rw [nI_add, z_aw_0 hw, z_ss_st hs, ← Nat.add_assoc]
        rfl
theorem M_drain {m : q_S} {a : Int32} {h : q_H} {Q : Int32 → q_H → Prop} (hok : z_ok m) (hc : z_M m h) (k : ∀ g, z_K h g → Q (v_drain m a) g) : wp_X5_drain a h Q := by
  have := hok.1.1
  have hc := z_M_iff.mp hc
  unfold wp_X5_drain v_drain at *
  refine s5_isPart hok hc.1.1 (fun n => ⟨fun _ => ?_, fun z => absurd rfl z⟩) (fun p hp e ha => ⟨fun z => absurd z (by decide), fun _ => ?_⟩)
  · have := k h (z_K.rf h); rw [if_neg n] at this; exact this
  rw [if_pos ha] at k
  subst e
  rw [cl (by omega)] at k
  refine s5_wants hok hc (fun g hg hB => ?_)
  exact s5_drained hok ⟨hg.M hc, hB⟩ (by omega) (fun u hu => k u (hg.tr hu.K))
theorem s5_all {m : q_S} {lo : Int32} {h : q_H} {Q : Int32 → q_H → Prop} (hok : z_ok m) (hc : z_Ml m lo h) (k : ∀ g, z_K h g → Q (v_all m lo) g) : wp_X5_all h Q := by
  have hnp := hok.1.1
  unfold wp_X5_all
  refine s5_wants hok hc (fun g hg hB => ?_)
  have hN : z_N m lo g := ⟨hg.M hc, hB⟩
  refine pk_loop (σ := Int32 × q_H) (fun n i s => lp_X5_all_8 (fun x _ g => Q x g) n s.1 (nI i) s.2) (fun i s => z_K1 g s.2 ∧ s.1 = nI (z_sum (z_plan m lo) i)) (z_np m) 0 (0, g) (by omega) ⟨z_K1.rf g, rfl⟩ ?_ ?_
  · rintro n ⟨x, u⟩ ⟨e, hx⟩
    have hx : x = _ := hx
    subst hx
    have e : z_K1 g u := e
    unfold lp_X5_all_8
    dsimp only
    rw [(hN.k e).1.1.1]
    exact ⟨fun _ => k u (hg.tr e.K), fun z => absurd (nI_le (Nat.le_refl _) (by omega)) z⟩
  · rintro n i ⟨x, u⟩ hi ⟨e, hx⟩ ih
    have e : z_K1 g u := e
    have hx : x = nI (z_sum (z_plan m lo) i) := hx
    subst hx
    unfold lp_X5_all_8
    dsimp only
    rw [(hN.k e).1.1.1]
    refine ⟨fun z => absurd z (nle hi (by omega)), fun _ => ?_⟩
    refine s5_drained hok (hN.k e) (by omega) (fun v hv => ?_)
    rw [nI_add, nI_1 i]
    exact ih (_, _) ⟨e.tr hv, rfl⟩
theorem M_all {m : q_S} {h : q_H} {Q : Int32 → q_H → Prop} (hok : z_ok m) (hc : z_M m h) (k : ∀ g, z_K h g → Q (v_all m (-1)) g) : wp_X5_all h Q := s5_all hok (z_M_iff.mp hc) k
theorem z_Ml_lo {m : q_S} {lo lo' : Int32} {h : q_H} (hc : z_Ml m lo h) : z_Ml m lo' (q_sI h 18 0 13 lo') := by
  have f : ∀ k, k ≠ 18 → (q_sI h 18 0 13 lo').1 k = h.1 k := by
    intro k hk
    funext i1 j1
    exact if_neg (by omega)
  obtain ⟨⟨a1, a2, a3, a4⟩, b⟩ := hc
  unfold z_Ml
  rw [f 19 (by omega), f 20 (by omega), f 21 (by omega), f 22 (by omega), f 23 (by omega), f 24 (by omega), f 25 (by omega), q_sI_o (by omega), q_sI_o (by omega), q_sI_o (by omega), q_sI_r]
  exact ⟨⟨a1, a2, a3, rfl⟩, b⟩
theorem z_Fm_sI {h g : q_H} {k i j : Nat} {v : Int32} (hk : 18 ≤ k) (a : z_Fm h g) : z_Fm h (q_sI g k i j v) := by
  refine ⟨fun n hn => ?_, a.2⟩
  rw [← a.1 n hn]
  funext i1 j1
  exact if_neg (by omega)
theorem M_without {m : q_S} {a : Int32} {h : q_H} {Q : Int32 → q_H → Prop} (hok : z_ok m) (hc : z_M m h) (k : ∀ g, z_M m g → z_Fm h g → Q (v_without m a) g) : wp_X5_without a h Q := by
  have hnh := hok.1.2.1
  have hcl := z_M_iff.mp hc
  unfold wp_X5_without
  unfold v_without at k
  rw [hcl.1.2.1]
  refine s5_ix (by omega) (fun n => ⟨fun _ => ?_, fun z => absurd rfl z⟩) (fun i hi e ha => ⟨fun z => absurd z (by decide), fun _ => ?_⟩)
  · have := k h hc (z_Fm.rf h); rw [if_neg n] at this; exact this
  rw [if_pos ha] at k
  refine s5_all hok hcl (fun g hg => ?_)
  refine s5_all hok (z_Ml_lo (lo' := a) (hg.M hcl)) (fun u hu => ?_)
  refine k _ (z_M_iff.mpr (z_Ml_lo (hu.M (z_Ml_lo (hg.M hcl))))) ?_
  exact z_Fm_sI (by omega) (((z_Fm_sI (by omega) hg.fm)).tr hu.fm)
theorem s5_back1 {m : q_S} {lo : Int32} {p t : Nat} {x2 : Int32} {h : q_H} {E : Int32 → q_H → Prop} (hB : z_B m lo h) (hp : p < 6) (ht : t < 64) (k : E (nI (t - z_cur (z_w m lo p) t)) h) : ∃ n, lp_X5_state_34 (nI p) x2 E n (nI t) h := by
  have hcu := z_cur_le (z_w m lo p) t
  refine pk_loop (σ := q_H) (fun n i s => lp_X5_state_34 (nI p) x2 E n (nI (t - i)) s) (fun i s => s = h) (z_cur (z_w m lo p) t) 0 h (by omega) rfl ?_ ?_
  · rintro n s rfl
    unfold lp_X5_state_34
    refine ⟨fun _ => k, fun z => ?_⟩
    obtain ⟨j, hj⟩ : ∃ j, t - z_cur (z_w m lo p) t = j + 1 := by
      cases e : t - z_cur (z_w m lo p) t with
      | zero => rw [e] at z; exact absurd (show nI 0 ≤ nI 0 from nI_le (Nat.le_refl _) (by omega)) z
      | succ j => exact ⟨j, rfl⟩
    have hw : z_w m lo p (t - z_cur (z_w m lo p) t - 1) = true := z_cur_edge _ t (by omega)
    rw [hj] at k hw ⊢
    rw [nI_pred]
    refine s5_isWanted hB hp (by omega) ?_
    rw [show j + 1 - 1 = j by omega] at hw
    rw [hw]
    exact ⟨fun z => absurd z (by decide), fun _ => k⟩
  · rintro n i s hi rfl ih
    unfold lp_X5_state_34
    obtain ⟨j, hj⟩ : ∃ j, t - i = j + 1 := ⟨t - i - 1, by omega⟩
    rw [hj, nI_pred, pk_m1]
    refine ⟨fun z => absurd z (show ¬ nI (j + 1) ≤ nI 0 from nle (by omega) (by omega)), fun _ => ?_⟩
    refine s5_isWanted hB hp (by omega) ?_
    rw [z_cur_idle (z_w m lo p) t j (by omega) (by omega)]
    refine ⟨fun _ => ?_, fun z => absurd rfl z⟩
    have := ih s rfl
    rw [show t - (i + 1) = j by omega] at this
    exact this
theorem s5_back2 {m : q_S} {lo : Int32} {p t : Nat} {x2 : Int32} {h : q_H} {E : Int32 → q_H → Prop} (hB : z_B m lo h) (hp : p < 6) (ht : t < 64) (k : E (nI (t - z_cur (z_w m lo p) t)) h) : ∃ n, lp_X5_ruledState_34 (nI p) x2 E n (nI t) h := by
  have hcu := z_cur_le (z_w m lo p) t
  refine pk_loop (σ := q_H) (fun n i s => lp_X5_ruledState_34 (nI p) x2 E n (nI (t - i)) s) (fun i s => s = h) (z_cur (z_w m lo p) t) 0 h (by omega) rfl ?_ ?_
  · rintro n s rfl
    unfold lp_X5_ruledState_34
    refine ⟨fun _ => k, fun z => ?_⟩
    obtain ⟨j, hj⟩ : ∃ j, t - z_cur (z_w m lo p) t = j + 1 := by
      cases e : t - z_cur (z_w m lo p) t with
      | zero => rw [e] at z; exact absurd (show nI 0 ≤ nI 0 from nI_le (Nat.le_refl _) (by omega)) z
      | succ j => exact ⟨j, rfl⟩
    have hw : z_w m lo p (t - z_cur (z_w m lo p) t - 1) = true := z_cur_edge _ t (by omega)
    rw [hj] at k hw ⊢
    rw [nI_pred]
    refine s5_isWanted hB hp (by omega) ?_
    rw [show j + 1 - 1 = j by omega] at hw
    rw [hw]
    exact ⟨fun z => absurd z (by decide), fun _ => k⟩
  · rintro n i s hi rfl ih
    unfold lp_X5_ruledState_34
    obtain ⟨j, hj⟩ : ∃ j, t - i = j + 1 := ⟨t - i - 1, by omega⟩
    rw [hj, nI_pred, pk_m1]
    refine ⟨fun z => absurd z (show ¬ nI (j + 1) ≤ nI 0 from nle (by omega) (by omega)), fun _ => ?_⟩
    refine s5_isWanted hB hp (by omega) ?_
    rw [z_cur_idle (z_w m lo p) t j (by omega) (by omega)]
    refine ⟨fun _ => ?_, fun z => absurd rfl z⟩
    have := ih s rfl
    rw [show t - (i + 1) = j by omega] at this
    exact this
theorem M_state {m : q_S} {a b : Int32} {h : q_H} {Q : Int32 → q_H → Prop} (hok : z_ok m) (hc : z_M m h) (k : ∀ g, z_K h g → Q (v_state m a b) g) : wp_X5_state a b h Q := by
  have := hok.1.1
  have hc := z_M_iff.mp hc
  unfold wp_X5_state v_state at *
  refine s5_isPart hok hc.1.1 (fun n => ⟨fun _ => ?_, fun z => absurd rfl z⟩) (fun p hp e ha => ⟨fun z => absurd z (by decide), fun _ => ?_⟩)
  · have := k h (z_K.rf h); rw [if_neg (fun q => n q.1)] at this; exact this
  refine s5_isTick (fun n => ⟨fun _ => ?_, fun z => absurd rfl z⟩) (fun t ht e2 hb => ⟨fun z => absurd z (by decide), fun _ => ?_⟩)
  · have := k h (z_K.rf h); rw [if_neg (fun q => n q.2)] at this; exact this
  rw [if_pos ⟨ha, hb⟩] at k
  subst e; subst e2
  rw [cl (by omega), cl (by omega)] at k
  unfold z_stv at k
  refine s5_wants hok hc (fun g hg hB => ?_)
  have hN : z_N m (-1) g := ⟨hg.M hc, hB⟩
  refine s5_isWanted hB (by omega) ht ?_
  cases hw : z_w m (-1) p t with
  | true =>
    have kk := k g hg
    rw [if_pos hw] at kk
    exact ⟨fun z => absurd z (by decide), fun _ => kk⟩
  | false =>
    refine ⟨fun _ => ?_, fun z => absurd rfl z⟩
    refine s5_back1 hB (by omega) ht ?_
    obtain ⟨f1, f2, f3⟩ := z_from hw
    have f3 := f3 ht
    have hcu := z_cur_le (z_w m (-1) p) t
    generalize hsd : t - z_cur (z_w m (-1) p) t = s at *
    have hlen := z_len_le (z_w m (-1) p) (show s ≤ 64 by omega)
    refine s5_begins hN (by omega) (by omega) (fun hs => by rw [f1] at hs; cases hs) (fun hs v hv h14 h15 => ⟨fun z => absurd z (by decide), fun _ => ?_⟩)
    have kk := k v (hg.tr hv.K)
    rw [if_neg (by rw [hw]; decide)] at kk
    have hNv := hN.k hv
    refine s5_choice hNv.1 hok (by omega) ⟨h14, h15⟩ (by omega) (by omega) ?_
    refine s5_isLast ⟨h14, h15⟩ (by omega) (by omega) ?_
    rw [show decide (s + z_len (z_w m (-1) p) s = 64) = z_lst (z_w m (-1) p) s from rfl]
    have hbl := z_best_lt m p (z_len (z_w m (-1) p) s) (z_lst (z_w m (-1) p) s)
    have hbc : z_can m p (z_best m p (z_len (z_w m (-1) p) s) (z_lst (z_w m (-1) p) s)) (z_len (z_w m (-1) p) s) (z_lst (z_w m (-1) p) s) := z_bst_can hok _ _ _ _
    refine ⟨fun z => ⟨?_, ?_⟩, fun z => ?_⟩
    · rw [ix4]; exact vin (by omega) (by omega)
    · have hl := bI_0.mp z
      have hle := hbc.resolve_left (by rw [hl]; decide)
      have e9 : (if z_lst (z_w m (-1) p) s = true then z_len (z_w m (-1) p) s else z_len (z_w m (-1) p) s - z_ri m p (z_best m p (z_len (z_w m (-1) p) s) (z_lst (z_w m (-1) p) s))) = z_len (z_w m (-1) p) s - z_ri m p (z_best m p (z_len (z_w m (-1) p) s) (z_lst (z_w m (-1) p) s)) := if_neg (by rw [hl]; decide)
      rw [e9] at kk
      rw [ix4, cl (by omega), h14, h15, hNv.1.2.2.2.1 p (by omega) _ hbl, nI_add, pk_sub (by omega)]
      refine ⟨fun z1 => ?_, fun z1 => ?_⟩
      · have := (nI_ltI (by omega) (by omega)).mp z1
        rw [if_pos (by omega)] at kk; exact kk
      · have : ¬ _ < _ := fun q => z1 ((nI_ltI (by omega) (by omega)).mpr q)
        rw [if_neg (by omega)] at kk; exact kk
    · have hl : z_lst (z_w m (-1) p) s = true := ts_nf (fun q => z (by rw [q]; rfl))
      have e9 : (if z_lst (z_w m (-1) p) s = true then z_len (z_w m (-1) p) s else z_len (z_w m (-1) p) s - z_ri m p (z_best m p (z_len (z_w m (-1) p) s) (z_lst (z_w m (-1) p) s))) = z_len (z_w m (-1) p) s := if_pos hl
      rw [e9, if_pos (by omega)] at kk
      exact kk
/-! ===== the reference: the rule ===== -/
theorem s5_ruleState {m : q_S} {lo : Int32} {p i : Nat} {h : q_H} {Q : Int32 → q_H → Prop} (hok : z_ok m) (hc : z_Ml m lo h) (hp : p < z_np m) (hi : i ≤ 64) (k : Q (nI (z_rs (z_ru m p 0) (z_ru m p 1) (z_ru m p 2) i)) h) : wp_X5_ruleState (nI p) (nI i) h Q := by
  have hnp := hok.1.1
  obtain ⟨r1, r2, r3⟩ := hok.2.2.2.2.2.1 p
  unfold wp_X5_ruleState
  unfold z_rs at k
  rw [ix31, ix32, ix30, cl (show 3 * p + 0 < 2 ^ 31 by omega), cl (show 3 * p + 1 < 2 ^ 31 by omega), cl (show 3 * p + 2 < 2 ^ 31 by omega), hc.2.2.2.2.1 p hp 0 (by omega), hc.2.2.2.2.1 p hp 1 (by omega), hc.2.2.2.2.1 p hp 2 (by omega)]
  refine ⟨vin (by omega) (by omega), fun z => ⟨vin (by omega) (by omega), fun z1 => ⟨vin (by omega) (by omega), fun z2 => ?_, fun z2 => ?_⟩, fun z1 => ?_⟩, fun z => ?_⟩
  · have h0 := (nI_leI (by omega) (by omega)).mp z
    have h1 := (nI_leI (by omega) (by omega)).mp z1
    have h2 := (nI_leI (by omega) (by omega)).mp z2
    rw [if_neg (by omega), if_neg (by omega), if_neg (by omega)] at k; exact k
  · have h0 := (nI_leI (by omega) (by omega)).mp z
    have h1 := (nI_leI (by omega) (by omega)).mp z1
    have h2 : ¬ _ ≤ _ := fun q => z2 ((nI_leI (by omega) (by omega)).mpr q)
    rw [if_neg (by omega), if_neg (by omega), if_pos (by omega)] at k; exact k
  · have h0 := (nI_leI (by omega) (by omega)).mp z
    have h1 : ¬ _ ≤ _ := fun q => z1 ((nI_leI (by omega) (by omega)).mpr q)
    rw [if_neg (by omega), if_pos (by omega)] at k; exact k
  · have h0 : ¬ _ ≤ _ := fun q => z ((nI_leI (by omega) (by omega)).mpr q)
    rw [if_pos (by omega)] at k; exact k
theorem s5_ahead {m : q_S} {lo : Int32} {p r : Nat} {h : q_H} {Q : Int32 → q_H → Prop} (hok : z_ok m) (hc : z_Ml m lo h) (hp : p < z_np m) (hr : r ≤ 64) (k : Q (nI (z_ah (z_ru m p 0) (z_ru m p 1) (z_ru m p 2) r)) h) : wp_X5_ahead (nI p) (nI r) h Q := by
  unfold wp_X5_ahead
  unfold z_ah at k
  refine ⟨fun z => ?_, fun z => ?_⟩
  · rw [if_pos ((nI_eq (b := 0) (by omega) (by omega)).mp z)] at k; exact k
  · have h0 : ¬ r = 0 := fun q => z (by rw [q]; rfl)
    rw [if_neg h0] at k
    obtain ⟨j, rfl⟩ : ∃ j, r = j + 1 := ⟨r - 1, by omega⟩
    rw [nI_pred]
    exact s5_ruleState hok hc hp (by omega) k
theorem s5_rises {m : q_S} {lo : Int32} {p s l : Nat} {h : q_H} {Q : Int32 → q_H → Prop} (hok : z_ok m) (hc : z_Ml m lo h) (hp : p < z_np m) (hH : z_H s l h) (hs : s ≤ 64) (hl : l ≤ 64) (k : Q (nI (z_rest m p (z_ru m p 0) (z_ru m p 1) (z_ru m p 2) l (decide (s + l = 64)))) h) : wp_X5_rises (nI p) h Q := by
  have hnp := hok.1.1
  obtain ⟨r1, r2, r3⟩ := hok.2.2.2.2.2.1 p
  unfold wp_X5_rises
  refine s5_isLast hH hs hl ?_
  cases e : decide (s + l = 64) with
  | true =>
    refine ⟨fun z => absurd z (by decide), fun _ => ?_⟩
    rw [e] at k
    rw [hH.2]
    exact k
  | false =>
    refine ⟨fun _ => ?_, fun z => absurd rfl z⟩
    rw [e] at k
    obtain ⟨o1, o2⟩ := z_rest_ok hok (p := p) r1 r2 r3 hl
    generalize z_rest m p (z_ru m p 0) (z_ru m p 1) (z_ru m p 2) l false = R at *
    have hR : R ≤ l := by omega
    have hri : ∀ x, z_ri m p x ≤ 9 := hok.2.2.2.1 p
    rw [hH.2]
    refine pk_loop (σ := q_H) (fun n i s => lp_X5_rises_17 (nI p) (fun x g => Q x g) n (nI (l - i)) s) (fun i s => s = h) (l - R) 0 h (by omega) rfl ?_ ?_
    · rintro n u rfl
      rw [show l - (l - R) = R by omega]
      have hah := z_ah_lt (z_ru m p 0) (z_ru m p 1) (z_ru m p 2) R
      unfold lp_X5_rises_17
      refine s5_ahead hok hc hp (by omega) ?_
      rw [ix4, cl (by omega), hc.2.2.2.1 p (by omega) _ hah, nI_add, hH.2]
      exact ⟨vin (by omega) (by omega), fun _ => k, fun z => absurd (nI_le o1 (by omega)) z⟩
    · rintro n i u hi rfl ih
      have hah := z_ah_lt (z_ru m p 0) (z_ru m p 1) (z_ru m p 2) (l - i)
      have hlt := o2 (l - i) (by omega) (by omega)
      have hri2 := hri (z_ah (z_ru m p 0) (z_ru m p 1) (z_ru m p 2) (l - i))
      unfold lp_X5_rises_17
      refine s5_ahead hok hc hp (by omega) ?_
      rw [ix4, cl (by omega), hc.2.2.2.1 p (by omega) _ hah, nI_add, hH.2]
      refine ⟨vin (by omega) (by omega), fun z => absurd z (nle hlt (by omega)), fun _ => ?_⟩
      obtain ⟨j, hj⟩ : ∃ j, l - i = j + 1 := ⟨l - i - 1, by omega⟩
      rw [hj, pk_m1]
      have := ih u rfl
      rw [show l - (i + 1) = j by omega] at this
      exact this
theorem s5_rsum {m : q_S} {lo : Int32} {p r l x : Nat} {h : q_H} {E : Int32 → Int32 → q_H → Prop} (hok : z_ok m) (hc : z_Ml m lo h) (hp : p < z_np m) (h15 : h.1 18 0 15 = nI l) (hr : r ≤ 64) (hl : l ≤ 64) (k : ∀ y, E (nI (x + z_rsum m p (z_ru m p 0) (z_ru m p 1) (z_ru m p 2) r l)) y h) : ∃ n, lp_X5_ruledSpan_36 (nI p) (nI r) E n (nI x) 0 h := by
  have hnp := hok.1.1
  refine pk_loop (σ := Int32 × q_H) (fun n i s => lp_X5_ruledSpan_36 (nI p) (nI r) E n s.1 (nI i) s.2) (fun i s => s.2 = h ∧ s.1 = nI (x + z_rsum m p (z_ru m p 0) (z_ru m p 1) (z_ru m p 2) r i)) l 0 (nI x, h) (by omega) ⟨rfl, rfl⟩ ?_ ?_
  · rintro n ⟨y, u⟩ ⟨e, hx⟩
    have e : u = h := e
    subst e
    have hx : y = _ := hx
    subst hx
    unfold lp_X5_ruledSpan_36
    rw [h15]
    exact ⟨fun _ => k _, fun z => absurd (nI_le (Nat.le_refl _) (by omega)) z⟩
  · rintro n i ⟨y, u⟩ hi ⟨e, hx⟩ ih
    have e : u = h := e
    subst e
    have hx : y = nI (x + z_rsum m p (z_ru m p 0) (z_ru m p 1) (z_ru m p 2) r i) := hx
    subst hx
    unfold lp_X5_ruledSpan_36
    dsimp only
    rw [h15, nI_1 i, ix400, cl (show 4 * p + 0 < 2 ^ 31 by omega), hc.2.1 p (by omega) 0 (by omega)]
    refine ⟨fun z => absurd z (nle hi (by omega)), fun _ => ⟨fun z => ⟨vin (by omega) (by omega), ?_⟩, fun z => ?_⟩⟩
    · have hle := (nI_leI (by omega) (by omega)).mp z
      refine ih (_, _) ⟨rfl, ?_⟩
      show nI _ + nI _ = nI (x + (z_rsum m p _ _ _ r i + z_dr m p (if i < r then _ else 0)))
      rw [if_neg (by omega), nI_add, Nat.add_assoc]
    · have hlt : ¬ _ ≤ _ := fun q => z ((nI_leI (by omega) (by omega)).mpr q)
      have hrs := z_rs_lt (z_ru m p 0) (z_ru m p 1) (z_ru m p 2) i
      refine s5_ruleState hok hc hp (by omega) ?_
      rw [ix4, cl (by omega), hc.2.1 p (by omega) _ hrs]
      refine ⟨vin (by omega) (by omega), ?_⟩
      refine ih (_, _) ⟨rfl, ?_⟩
      show nI _ + nI _ = nI (x + (z_rsum m p _ _ _ r i + z_dr m p (if i < r then _ else 0)))
      rw [if_pos (by omega), nI_add, Nat.add_assoc]
theorem s5_ruledSpan {m : q_S} {lo : Int32} {p s l : Nat} {h : q_H} {Q : Int32 → q_H → Prop} (hok : z_ok m) (hc : z_Ml m lo h) (hp : p < z_np m) (hH : z_H s l h) (hs : s ≤ 64) (hl : l ≤ 64) (k : Q (nI (z_rspan m p (z_ru m p 0) (z_ru m p 1) (z_ru m p 2) l (decide (s + l = 64)))) h) : wp_X5_ruledSpan (nI p) h Q := by
  have hnp := hok.1.1
  unfold wp_X5_ruledSpan
  unfold z_rspan at k
  have hrl := z_rest_le m p (z_ru m p 0) (z_ru m p 1) (z_ru m p 2) l (decide (s + l = 64))
  refine s5_rises hok hc hp hH hs hl ?_
  refine s5_isLast hH hs hl ?_
  cases e : decide (s + l = 64) with
  | true =>
    rw [e] at k hrl
    refine ⟨fun z => absurd z (by decide), fun _ => ?_⟩
    refine s5_rsum (x := 0) hok hc hp hH.2 (by omega) hl (fun y => ?_)
    rw [Nat.zero_add]
    rw [if_pos rfl, Nat.add_zero] at k
    exact k
  | false =>
    rw [e] at k hrl
    refine ⟨fun _ => ?_, fun z => absurd rfl z⟩
    have hah := z_ah_lt (z_ru m p 0) (z_ru m p 1) (z_ru m p 2) (z_rest m p (z_ru m p 0) (z_ru m p 1) (z_ru m p 2) l false)
    refine s5_ahead hok hc hp (by omega) ?_
    rw [ix4, cl (by omega), hc.2.2.1 p (by omega) _ hah]
    refine ⟨vin (by omega) (by omega), ?_⟩
    refine s5_rsum hok hc hp hH.2 (by omega) hl (fun y => ?_)
    rw [if_neg (by decide), Nat.add_comm] at k
    exact k
theorem s5_ruledSum {m : q_S} {p : Nat} {h : q_H} {Q : Int32 → q_H → Prop} (hok : z_ok m) (hN : z_N m (-1) h) (hp : p < z_np m) (k : ∀ g, z_K1 h g → Q (nI (z_byrule m p (z_ru m p 0) (z_ru m p 1) (z_ru m p 2))) g) : wp_X5_ruledSum (nI p) h Q := by
  have hnp := hok.1.1
  unfold wp_X5_ruledSum
  refine pk_loop (σ := Int32 × q_H) (fun n i s => lp_X5_ruledSum_4 (nI p) (fun x _ g => Q x g) n s.1 (nI i) s.2) (fun i s => z_K1 h s.2 ∧ s.1 = nI (z_aw (z_w m (-1) p) i * z_dr m p 0 + z_sum (z_ss (z_w m (-1) p) (z_R m p (z_ru m p 0) (z_ru m p 1) (z_ru m p 2) (z_w m (-1) p))) i)) 64 0 (0, h) (by omega) ⟨z_K1.rf h, by show (0 : Int32) = nI (0 * _ + 0); rw [Nat.zero_mul]; rfl⟩ ?_ ?_
  · rintro n ⟨x, u⟩ ⟨e, hx⟩
    have hx : x = _ := hx
    subst hx
    unfold lp_X5_ruledSum_4
    exact ⟨fun _ => k u e, fun z => absurd (show nI 64 ≤ nI 64 from nI_le (by omega) (by omega)) z⟩
  · rintro n t ⟨x, u⟩ ht ⟨e, hx⟩ ih
    have e : z_K1 h u := e
    have hx : x = nI (z_aw (z_w m (-1) p) t * z_dr m p 0 + z_sum (z_ss (z_w m (-1) p) (z_R m p (z_ru m p 0) (z_ru m p 1) (z_ru m p 2) (z_w m (-1) p))) t) := hx
    subst hx
    have hNu := hN.k e
    unfold lp_X5_ruledSum_4
    refine ⟨fun z => absurd z (show ¬ nI 64 ≤ nI t from nle ht (by omega)), fun _ => ?_⟩
    refine s5_isWanted hNu.2 (by omega) ht ?_
    dsimp only
    rw [nI_1 t, ix40, cl (show 4 * p + 0 < 2 ^ 31 by omega), hNu.1.2.1 p (by omega) 0 (by omega)]
    cases hw : z_w m (-1) p t with
    | true =>
      refine ⟨fun z => absurd z (by decide), fun _ => ⟨vin (by omega) (by omega), ?_⟩⟩
      refine ih (_, _) ⟨e, ?_⟩
      show nI _ + nI _ = nI _
      rw [nI_add, z_aw_1 hw, z_ss_no (z_st_w hw), Nat.succ_mul]
      congr 1; omega
    | false =>
      refine ⟨fun _ => ?_, fun z => absurd rfl z⟩
      refine s5_begins hNu (by omega) ht (fun hs => ⟨fun _ => ?_, fun z => absurd rfl z⟩) (fun hs v hv h14 h15 => ⟨fun z => absurd z (by decide), fun _ => ?_⟩)
      · refine ih (_, _) ⟨e, ?_⟩
        show nI _ = nI _
        rw [z_aw_0 hw, z_ss_no hs]
      · have hlen := z_len_le (z_w m (-1) p) (show t ≤ 64 by omega)
        have hNv := hNu.k hv
        refine s5_ruledSpan hok hNv.1 hp ⟨h14, h15⟩ (by omega) (by omega) ?_
        refine ih (_, _) ⟨e.tr hv, ?_⟩
        show nI _ + nI _ = nI _
        rw [nI_add, z_aw_0 hw, z_ss_st hs, ← Nat.add_assoc]
        rfl
theorem M_ruled {m : q_S} {a : Int32} {h : q_H} {Q : Int32 → q_H → Prop} (hok : z_ok m) (hc : z_M m h) (k : ∀ g, z_K h g → Q (v_ruled m a) g) : wp_X5_ruled a h Q := by
  have := hok.1.1
  have hc := z_M_iff.mp hc
  unfold wp_X5_ruled v_ruled at *
  refine s5_isPart hok hc.1.1 (fun n => ⟨fun _ => ?_, fun z => absurd rfl z⟩) (fun p hp e ha => ⟨fun z => absurd z (by decide), fun _ => ?_⟩)
  · have := k h (z_K.rf h); rw [if_neg n] at this; exact this
  rw [if_pos ha] at k
  subst e
  rw [cl (by omega)] at k
  refine s5_wants hok hc (fun g hg hB => ?_)
  exact s5_ruledSum hok ⟨hg.M hc, hB⟩ hp (fun u hu => k u (hg.tr hu.K))
theorem M_ruledState {m : q_S} {a b : Int32} {h : q_H} {Q : Int32 → q_H → Prop} (hok : z_ok m) (hc : z_M m h) (k : ∀ g, z_K h g → Q (v_ruledState m a b) g) : wp_X5_ruledState a b h Q := by
  have := hok.1.1
  have hc := z_M_iff.mp hc
  unfold wp_X5_ruledState v_ruledState at *
  refine s5_isPart hok hc.1.1 (fun n => ⟨fun _ => ?_, fun z => absurd rfl z⟩) (fun p hp e ha => ⟨fun z => absurd z (by decide), fun _ => ?_⟩)
  · have := k h (z_K.rf h); rw [if_neg (fun q => n q.1)] at this; exact this
  refine s5_isTick (fun n => ⟨fun _ => ?_, fun z => absurd rfl z⟩) (fun t ht e2 hb => ⟨fun z => absurd z (by decide), fun _ => ?_⟩)
  · have := k h (z_K.rf h); rw [if_neg (fun q => n q.2)] at this; exact this
  rw [if_pos ⟨ha, hb⟩] at k
  subst e; subst e2
  rw [cl (by omega), cl (by omega)] at k
  unfold z_rsv at k
  refine s5_wants hok hc (fun g hg hB => ?_)
  have hN : z_N m (-1) g := ⟨hg.M hc, hB⟩
  refine s5_isWanted hB (by omega) ht ?_
  cases hw : z_w m (-1) p t with
  | true =>
    have kk := k g hg
    rw [if_pos hw] at kk
    exact ⟨fun z => absurd z (by decide), fun _ => kk⟩
  | false =>
    refine ⟨fun _ => ?_, fun z => absurd rfl z⟩
    refine s5_back2 hB (by omega) ht ?_
    obtain ⟨f1, f2, f3⟩ := z_from hw
    have f3 := f3 ht
    have hcu := z_cur_le (z_w m (-1) p) t
    have hcs : t - (t - z_cur (z_w m (-1) p) t) = z_cur (z_w m (-1) p) t := by omega
    generalize hsd : t - z_cur (z_w m (-1) p) t = s at *
    have hlen := z_len_le (z_w m (-1) p) (show s ≤ 64 by omega)
    refine s5_begins hN (by omega) (by omega) (fun hs => by rw [f1] at hs; cases hs) (fun hs v hv h14 h15 => ⟨fun z => absurd z (by decide), fun _ => ?_⟩)
    have kk := k v (hg.tr hv.K)
    rw [if_neg (by rw [hw]; decide)] at kk
    have hNv := hN.k hv
    have hrl := z_rest_le m p (z_ru m p 0) (z_ru m p 1) (z_ru m p 2) (z_len (z_w m (-1) p) s) (z_lst (z_w m (-1) p) s)
    refine s5_rises hok hNv.1 hp ⟨h14, h15⟩ (by omega) (by omega) ?_
    rw [show decide (s + z_len (z_w m (-1) p) s = 64) = z_lst (z_w m (-1) p) s from rfl, h14, pk_sub (by omega), hcs]
    refine ⟨fun z => ?_, fun z => ?_⟩
    · have := (nI_leI (by omega) (by omega)).mp z
      rw [if_neg (by omega)] at kk; exact kk
    · have hlt : ¬ _ ≤ _ := fun q => z ((nI_leI (by omega) (by omega)).mpr q)
      rw [if_pos (by omega)] at kk
      exact s5_ruleState hok hNv.1 hp (by omega) kk
