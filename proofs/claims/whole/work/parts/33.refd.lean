/-! ===== the reference's questions ===== -/
theorem i_at (a : Int32) {n : Nat} (hn : n < 2 ^ 31) : a = nI n ↔ a.toInt = (n : Int) := by
  constructor
  · intro e; rw [e, nI_toInt hn]
  · intro e; exact Int32.toInt_inj.mp (by rw [e, nI_toInt hn])
theorem M_look {m : q_S} {a : Int32} {h : q_H} {Q : Int32 → q_H → Prop} (hok : z_ok m) (hc : z_M m h) (k : ∀ g, z_K h g → Q (v_look m a) g) : wp_X5_look a h Q := by
  unfold wp_X5_look
  refine s5_wakes hok (z_M_iff.mp hc) (fun g hg hw => ?_)
  have hcg := hg.M (z_M_iff.mp hc)
  have kk := k g hg
  unfold v_look at kk
  rw [hcg.1.1, hcg.1.2.1, hcg.1.2.2.1, hw.1]
  have e0 : a = 0 ↔ a.toInt = 0 := i_at a (n := 0) (by omega)
  have e1 : a = 1 ↔ a.toInt = 1 := i_at a (n := 1) (by omega)
  have e2 : a = 2 ↔ a.toInt = 2 := i_at a (n := 2) (by omega)
  have e3 : a = 3 ↔ a.toInt = 3 := i_at a (n := 3) (by omega)
  refine ⟨fun z => ?_, fun z => ⟨fun z1 => ?_, fun z1 => ⟨fun z2 => ?_, fun z2 => ⟨fun z3 => ?_, fun z3 => ?_⟩⟩⟩⟩
  · rw [if_pos (e0.mp z)] at kk; exact kk
  · rw [if_neg (fun q => z (e0.mpr q)), if_pos (e1.mp z1)] at kk; exact kk
  · rw [if_neg (fun q => z (e0.mpr q)), if_neg (fun q => z1 (e1.mpr q)), if_pos (e2.mp z2)] at kk; exact kk
  · rw [if_neg (fun q => z (e0.mpr q)), if_neg (fun q => z1 (e1.mpr q)), if_neg (fun q => z2 (e2.mpr q)), if_pos (e3.mp z3)] at kk; exact kk
  · rw [if_neg (fun q => z (e0.mpr q)), if_neg (fun q => z1 (e1.mpr q)), if_neg (fun q => z2 (e2.mpr q)), if_neg (fun q => z3 (e3.mpr q))] at kk; exact kk
theorem M_held {m : q_S} {a b : Int32} {h : q_H} {Q : Int32 → q_H → Prop} (hok : z_ok m) (hc : z_M m h) (k : ∀ g, z_K h g → Q (v_held m a b) g) : wp_X5_held a b h Q := by
  have hnh := hok.1.2.1
  have hc := z_M_iff.mp hc
  have kk := k h (z_K.rf h)
  unfold wp_X5_held
  unfold v_held at kk
  rw [hc.1.2.1]
  refine s5_ix (by omega) (fun n => ⟨fun _ => ?_, fun z => absurd rfl z⟩) (fun i hi e ha => ⟨fun z => absurd z (by decide), fun _ => ?_⟩)
  · rw [if_neg (fun q => n q.1)] at kk; exact kk
  refine s5_ix (n := 4) (by omega) (fun n => ⟨fun _ => ?_, fun z => absurd rfl z⟩) (fun j hj e2 hb => ⟨fun z => absurd z (by decide), fun _ => ?_⟩)
  · rw [if_neg (fun q => n q.2)] at kk; exact kk
  rw [if_pos ⟨ha, hb⟩] at kk
  subst e; subst e2
  rw [cl (by omega), cl (by omega)] at kk
  rw [ix4, cl (show 4 * i + j < 2 ^ 31 by omega), hc.2.2.2.2.2.2.1 i hi j hj]
  exact ⟨vin (by omega) (by omega), kk⟩
theorem M_waking {m : q_S} {a : Int32} {h : q_H} {Q : Int32 → q_H → Prop} (hok : z_ok m) (hc : z_M m h) (k : ∀ g, z_K h g → Q (v_waking m a) g) : wp_X5_waking a h Q := by
  have h12 := z_nw_12 hok 64
  have hnt := hok.1.2.2
  unfold wp_X5_waking
  refine s5_wakes hok (z_M_iff.mp hc) (fun g hg hw => ?_)
  have kk := k g hg
  unfold v_waking at kk
  rw [hw.1]
  refine s5_ix (by omega) (fun n => ⟨fun _ => ?_, fun z => absurd rfl z⟩) (fun i hi e ha => ⟨fun z => absurd z (by decide), fun _ => ?_⟩)
  · rw [if_neg n] at kk; exact kk
  rw [if_pos ha] at kk
  subst e
  rw [cl (by omega)] at kk ⊢
  refine ⟨vin (by omega) (by omega), ?_⟩
  obtain ⟨x, hx, hxw, rfl⟩ := z_nw_hit hi
  rw [hw.2 x hx hxw]
  rw [z_wki_eq hx hxw] at kk
  exact kk
theorem M_fires {m : q_S} {a : Int32} {h : q_H} {Q : Int32 → q_H → Prop} (hok : z_ok m) (hc : z_M m h) (k : ∀ g, z_K h g → Q (v_fires m a) g) : wp_X5_fires a h Q := by
  have hnt := hok.1.2.2
  unfold wp_X5_fires
  refine s5_wakes hok (z_M_iff.mp hc) (fun g hg hw => ?_)
  have hcg := hg.M (z_M_iff.mp hc)
  have kk := k g hg
  unfold v_fires at kk
  rw [hcg.1.2.2.1]
  refine s5_ix (by omega) (fun n => ⟨fun _ => ?_, fun z => absurd rfl z⟩) (fun i hi e ha => ⟨fun z => absurd z (by decide), fun _ => ?_⟩)
  · rw [if_neg n] at kk; exact kk
  rw [if_pos ha] at kk
  subst e
  rw [cl (by omega)] at kk
  exact s5_firesAt hok hcg hw hi kk
theorem M_wanted {m : q_S} {a b : Int32} {h : q_H} {Q : Int32 → q_H → Prop} (hok : z_ok m) (hc : z_M m h) (k : ∀ g, z_K h g → Q (v_wanted m a b) g) : wp_X5_wanted a b h Q := by
  have := hok.1.1
  have hc := z_M_iff.mp hc
  unfold wp_X5_wanted v_wanted at *
  refine s5_isPart hok hc.1.1 (fun n => ⟨fun _ => ?_, fun z => absurd rfl z⟩) (fun p hp e ha => ⟨fun z => absurd z (by decide), fun _ => ?_⟩)
  · have := k h (z_K.rf h); rw [if_neg (fun q => n q.1)] at this; exact this
  refine s5_isTick (fun n => ⟨fun _ => ?_, fun z => absurd rfl z⟩) (fun t ht e2 hb => ⟨fun z => absurd z (by decide), fun _ => ?_⟩)
  · have := k h (z_K.rf h); rw [if_neg (fun q => n q.2)] at this; exact this
  rw [if_pos ⟨ha, hb⟩] at k
  subst e; subst e2
  rw [cl (by omega), cl (by omega)] at k
  refine s5_wants hok hc (fun g hg hB => ?_)
  have kk := k g hg
  refine s5_isWanted hB (by omega) ht ?_
  cases e : z_w m (-1) p t with
  | false => rw [e] at kk; exact ⟨fun _ => kk, fun z => absurd rfl z⟩
  | true => rw [e] at kk; exact ⟨fun z => absurd z (by decide), fun _ => kk⟩
theorem M_when {m : q_S} {a : Int32} {h : q_H} {Q : Int64 → q_H → Prop} (hok : z_ok m) (hc : z_M m h) (k : ∀ g, z_K h g → Q (v_when m a) g) : wp_X5_when a h Q := by
  have := hok.1.1
  have hc := z_M_iff.mp hc
  unfold wp_X5_when v_when at *
  refine s5_isPart hok hc.1.1 (fun n => ⟨fun _ => ?_, fun z => absurd rfl z⟩) (fun p hp e ha => ⟨fun z => absurd z (by decide), fun _ => ?_⟩)
  · have := k h (z_K.rf h); rw [if_neg n] at this; exact this
  rw [if_pos ha] at k
  subst e
  rw [cl (by omega)] at k
  refine s5_wants hok hc (fun g hg hB => ?_)
  have kk := k g hg
  refine pk_loop (σ := Int64 × q_H) (fun n i s => lp_X5_when_19 (nI p) (fun x _ g => Q x g) n s.1 (nI i) s.2) (fun i s => s.2 = g ∧ s.1 = z_bldL (z_w m (-1) p) i) 64 0 (0, g) (by omega) ⟨rfl, rfl⟩ ?_ ?_
  · rintro n ⟨x, u⟩ ⟨e, hx⟩
    have e : u = g := e
    subst e
    have hx : x = _ := hx
    subst hx
    unfold lp_X5_when_19
    exact ⟨fun _ => kk, fun z => absurd (show nI 64 ≤ nI 64 from nI_le (by omega) (by omega)) z⟩
  · rintro n i ⟨x, u⟩ hi ⟨e, hx⟩ ih
    have e : u = g := e
    subst e
    have hx : x = z_bldL (z_w m (-1) p) i := hx
    subst hx
    unfold lp_X5_when_19
    refine ⟨fun z => absurd z (show ¬ nI 64 ≤ nI i from nle hi (by omega)), fun _ => ?_⟩
    refine s5_isWanted hB (by omega) hi ?_
    rw [nI_1 i]
    cases e : z_w m (-1) p i with
    | false => exact ⟨fun _ => ih (_, _) ⟨rfl, (if_neg (by rw [e]; decide)).symm⟩, fun z => absurd rfl z⟩
    | true => exact ⟨fun z => absurd z (by decide), fun _ => ih (_, _) ⟨rfl, (if_pos e).symm⟩⟩
theorem M_spans {m : q_S} {a : Int32} {h : q_H} {Q : Int32 → q_H → Prop} (hok : z_ok m) (hc : z_M m h) (k : ∀ g, z_K h g → Q (v_spans m a) g) : wp_X5_spans a h Q := by
  have := hok.1.1
  have hc := z_M_iff.mp hc
  unfold wp_X5_spans v_spans at *
  refine s5_isPart hok hc.1.1 (fun n => ⟨fun _ => ?_, fun z => absurd rfl z⟩) (fun p hp e ha => ⟨fun z => absurd z (by decide), fun _ => ?_⟩)
  · have := k h (z_K.rf h); rw [if_neg n] at this; exact this
  rw [if_pos ha] at k
  subst e
  rw [cl (by omega)] at k
  refine s5_wants hok hc (fun g hg hB => ?_)
  have hN : z_N m (-1) g := ⟨hg.M hc, hB⟩
  refine pk_loop (σ := Int32 × q_H) (fun n i s => lp_X5_spans_18 (nI p) (fun x _ g => Q x g) n s.1 (nI i) s.2) (fun i s => z_K1 g s.2 ∧ s.1 = nI (z_cnt (z_w m (-1) p) i)) 64 0 (0, g) (by omega) ⟨z_K1.rf g, rfl⟩ ?_ ?_
  · rintro n ⟨x, u⟩ ⟨e, hx⟩
    have hx : x = _ := hx
    subst hx
    have e : z_K1 g u := e
    unfold lp_X5_spans_18
    exact ⟨fun _ => k u (hg.tr e.K), fun z => absurd (show nI 64 ≤ nI 64 from nI_le (by omega) (by omega)) z⟩
  · rintro n i ⟨x, u⟩ hi ⟨e, hx⟩ ih
    have e : z_K1 g u := e
    have hx : x = nI (z_cnt (z_w m (-1) p) i) := hx
    subst hx
    unfold lp_X5_spans_18
    refine ⟨fun z => absurd z (show ¬ nI 64 ≤ nI i from nle hi (by omega)), fun _ => ?_⟩
    rw [nI_1 i]
    refine s5_begins (hN.k e) (by omega) hi (fun hs => ⟨fun _ => ?_, fun z => absurd rfl z⟩) (fun hs v hv _ _ => ⟨fun z => absurd z (by decide), fun _ => ?_⟩)
    · refine ih (_, _) ⟨e, ?_⟩
      show _ + (0 : Int32) = _
      rw [Int32.add_zero, z_cnt_no hs]
    · refine ih (_, _) ⟨e.tr hv, ?_⟩
      show _ + (1 : Int32) = _
      rw [nI_1, z_cnt_st hs]
theorem s5_ofSpan {m : q_S} {lo : Int32} {p s : Nat} {w : Nat → Bool} {c : Int32} {h : q_H} {Q : Int32 → q_H → Prop} (hc : z_Ml m lo h) (hok : z_ok m) (hp : p < 6) (hs : s < 64) (hH : z_H s (z_len w s) h) (k : Q (z_spanv m p s w c) h) (hc5 : ¬ c < 0 ∧ ¬ nI 6 ≤ c) : wp_X5_ofSpan (nI p) c h Q := by
  have hlen := z_len_le w (show s ≤ 64 by omega)
  have hbl := z_best_lt m p (z_len w s) (z_lst w s)
  have hbc : z_can m p (z_best m p (z_len w s) (z_lst w s)) (z_len w s) (z_lst w s) := z_bst_can hok _ _ _ _
  obtain ⟨j, hj, hcj⟩ := y_in (by omega) hc5
  have hcI : c.toInt = (j : Int) := by rw [hcj, nI_toInt (by omega)]
  unfold wp_X5_ofSpan
  unfold z_spanv at k
  refine s5_choice hc hok hp hH (by omega) (by omega) ?_
  rw [show decide (s + z_len w s = 64) = z_lst w s from rfl]
  refine ⟨fun y => ?_, fun y => ?_, fun y => ?_, fun y => ?_, fun y => ?_, fun y => ?_⟩
  · rw [if_pos y] at k; rw [hH.1]; exact k
  · rw [if_neg (by omega), if_pos y] at k; rw [hH.2]; exact k
  · rw [if_neg (by omega), if_neg (by omega), if_pos y] at k; exact k
  · rw [if_neg (by omega), if_neg (by omega), if_neg (by omega), if_pos y] at k
    exact s5_costs hc hok hp hbl hH (by omega) (by omega) (fun n => absurd hbc n) (fun _ => k)
  · rw [if_neg (by omega), if_neg (by omega), if_neg (by omega), if_neg (by omega), if_pos y] at k
    exact s5_costs (x := 0) hc hok hp (by omega) hH (by omega) (by omega) (fun n => absurd (Or.inr (by rw [(hok.2.2.2.2.1 p).2.1]; exact Nat.zero_le _)) n) (fun _ => k)
  · rw [if_neg (by omega), if_neg (by omega), if_neg (by omega), if_neg (by omega), if_neg (by omega), if_pos (by omega)] at k
    refine ⟨fun y1 => ?_, fun y1 => ?_⟩
    · have hb : z_best m p (z_len w s) (z_lst w s) = 0 := (nI_eq (b := 0) (by omega) (by omega)).mp y1
      rw [if_pos (Or.inr hb)] at k; exact k
    · have hb : ¬ z_best m p (z_len w s) (z_lst w s) = 0 := fun q => y1 (by rw [q]; rfl)
      refine s5_isLast hH (by omega) (by omega) ?_
      refine ⟨fun y2 => ?_, fun y2 => ?_⟩
      · have hl : z_lst w s = false := bI_0.mp y2
        have hno : ¬ (z_lst w s = true ∨ z_best m p (z_len w s) (z_lst w s) = 0) := by
          rintro (q | q)
          · rw [hl] at q; cases q
          · exact hb q
        rw [if_neg hno] at k
        have hle : z_ri m p (z_best m p (z_len w s) (z_lst w s)) ≤ z_len w s := hbc.resolve_left (by rw [hl]; decide)
        rw [ix4]
        refine ⟨vin (show 4 * p + z_best m p (z_len w s) (z_lst w s) < 24 by omega) (by omega), ?_⟩
        rw [cl (show 4 * p + z_best m p (z_len w s) (z_lst w s) < 2 ^ 31 by omega), hH.1, hH.2]
        have e1 : h.1 21 0 (4 * p + z_best m p (z_len w s) (z_lst w s)) = _ := hc.2.2.2.1 p hp _ hbl
        have e2 : nI s + nI (z_len w s) - h.1 21 0 (4 * p + z_best m p (z_len w s) (z_lst w s)) = nI (s + (z_len w s - z_ri m p (z_best m p (z_len w s) (z_lst w s)))) := by
          rw [e1, nI_add, pk_sub (by omega)]
          congr 1
          omega
        rw [← e2] at k
        exact k
      · have hl : z_lst w s = true := ts_nf (fun q => y2 (by show bI (z_lst w s) = 0; rw [q]; rfl))
        rw [if_pos (Or.inl hl)] at k; exact k
theorem M_span {m : q_S} {a b c : Int32} {h : q_H} {Q : Int32 → q_H → Prop} (hok : z_ok m) (hc : z_M m h) (k : ∀ g, z_K h g → Q (v_span m a b c) g) : wp_X5_span a b c h Q := by
  have := hok.1.1
  have hc := z_M_iff.mp hc
  unfold wp_X5_span v_span at *
  refine s5_isPart hok hc.1.1 (fun n => ⟨fun _ => ?_, fun z => absurd rfl z⟩) (fun p hp e ha => ⟨fun z => absurd z (by decide), fun _ => ?_⟩)
  · have := k h (z_K.rf h); rw [if_neg (fun q => n q.1)] at this; exact this
  subst e
  rw [cl (by omega)] at k
  have h64 := z_cnt_le (z_w m (-1) p) 64
  refine s5_ix (n := 6) (by omega) (fun n => ⟨fun _ => ?_, fun z => absurd rfl z⟩) (fun j hj e2 hc5 => ⟨fun z => absurd z (by decide), fun _ => ?_⟩)
  · have kk := k h (z_K.rf h)
    have e3 : ∀ s, z_spanv m p s (z_w m (-1) p) c = -1 := by
      intro s
      have hx : ∀ j : Nat, j < 6 → ¬ c.toInt = (j : Int) := fun j hj q => n (by rw [(i_at c (by omega)).mpr q]; exact y_of (by omega) hj)
      unfold z_spanv
      have x0 : ¬ c.toInt = 0 := hx 0 (by omega)
      have x1 : ¬ c.toInt = 1 := hx 1 (by omega)
      have x2 : ¬ c.toInt = 2 := hx 2 (by omega)
      have x3 : ¬ c.toInt = 3 := hx 3 (by omega)
      have x4 : ¬ c.toInt = 4 := hx 4 (by omega)
      have x5 : ¬ c.toInt = 5 := hx 5 (by omega)
      rw [if_neg x0, if_neg x1, if_neg x2, if_neg x3, if_neg x4, if_neg x5]
    rw [e3] at kk
    split at kk <;> exact kk
  refine s5_wants hok hc (fun g hg hB => ?_)
  have hN : z_N m (-1) g := ⟨hg.M hc, hB⟩
  refine pk_loop (σ := Int32 × q_H) (fun n i s => lp_X5_span_29 (nI p) b c Q (fun _ _ g => Q (-1) g) n s.1 (nI i) s.2) (fun i s => z_K1 g s.2 ∧ s.1 = nI (z_cnt (z_w m (-1) p) i) ∧ ∀ j, j < z_cnt (z_w m (-1) p) i → ¬ b = nI j) 64 0 (0, g) (by omega) ⟨z_K1.rf g, rfl, fun j hj => absurd hj (by show ¬ j < 0; omega)⟩ ?_ ?_
  · rintro n ⟨x, u⟩ ⟨e, hx, hb⟩
    have hx : x = _ := hx
    subst hx
    have e : z_K1 g u := e
    have kk := k u (hg.tr e.K)
    unfold lp_X5_span_29
    refine ⟨fun _ => ?_, fun z => absurd (show nI 64 ≤ nI 64 from nI_le (by omega) (by omega)) z⟩
    rw [if_neg (fun q => ?_)] at kk
    · exact kk
    · obtain ⟨i, hi, e⟩ := y_in (by omega) q.2
      exact hb i hi e
  · rintro n i ⟨x, u⟩ hi ⟨e, hx, hb⟩ ih
    have e : z_K1 g u := e
    have hx : x = nI (z_cnt (z_w m (-1) p) i) := hx
    subst hx
    have hci := z_cnt_le (z_w m (-1) p) i
    unfold lp_X5_span_29
    refine ⟨fun z => absurd z (show ¬ nI 64 ≤ nI i from nle hi (by omega)), fun _ => ?_⟩
    dsimp only
    rw [nI_1 i]
    refine s5_begins (hN.k e) (by omega) hi (fun hs => ⟨fun _ => ?_, fun z => absurd rfl z⟩) (fun hs v hv h14 h15 => ⟨fun z => absurd z (by decide), fun _ => ⟨fun z => ?_, fun z => ?_⟩⟩)
    · exact ih (_, _) ⟨e, by show nI _ = nI _; rw [z_cnt_no hs], by rw [z_cnt_no hs]; exact hb⟩
    · have kk := k v (hg.tr (e.tr hv).K)
      have hlt : z_cnt (z_w m (-1) p) i < z_cnt (z_w m (-1) p) 64 := z_cnt_lt hs hi
      rw [← z, if_pos ⟨ha, y_of (by omega) hlt⟩, cl (by omega), z_sti_eq hi hs] at kk
      exact s5_ofSpan (w := z_w m (-1) p) (hN.k (e.tr hv)).1 hok (by omega) hi ⟨h14, h15⟩ kk hc5
    · rw [nI_1]
      refine ih (_, _) ⟨e.tr hv, by show nI _ = nI _; rw [z_cnt_st hs], fun j hj => ?_⟩
      rw [z_cnt_st hs] at hj
      by_cases ej : j = z_cnt (z_w m (-1) p) i
      · subst ej; exact fun q => z q.symm
      · exact hb j (by omega)
