/-! ===== the reference: need, hold, back, timer ===== -/
def z_J2 (m : q_S) (p a b : Nat) (x0 x : Int32) : Prop := (∀ c, c < 32 → 6 ≤ c → bt x c = false) ∧ (∀ c, c < 6 → bt x0 c = true → bt x c = true) ∧ (∀ c d, (c < a ∨ c = a ∧ d < b) → c < 6 → d < 6 → bt x0 c = true → z_nd m c d = true → bt x d = true) ∧ ∀ T, z_closed (z_nd m) T → T p = true → ∀ c, c < 6 → bt x c = true → T c = true
theorem s5_reaches {m : q_S} {lo : Int32} {p q : Nat} {h : q_H} {Q : Int32 → q_H → Prop} (hok : z_ok m) (hc : z_Ml m lo h) (hp : p < 6) (hq : q < 6) (k : Q (bI (z_leads m p q)) h) : wp_X5_reaches (nI p) (nI q) h Q := by
  have hnp := hok.1.1
  have hnn := hok.2.2.2.2.2.2.1.1
  unfold wp_X5_reaches
  refine pk_loop (σ := Int32 × q_H) (fun n i s => lp_X5_reaches_7 (nI q) _ n s.1 (nI i) s.2) (fun i s => s.2 = h ∧ z_J m p i s.1) 6 0 (_, h) (by omega) ⟨rfl, z_J_0 m hp⟩ ?_ ?_
  · rintro n ⟨x, g⟩ ⟨e, hJ⟩
    have e : g = h := e
    subst e
    have hJ : z_J m p 6 x := hJ
    have hb := z_J_end hp (by omega) hJ q hq
    unfold lp_X5_reaches_7
    refine ⟨fun _ => ⟨fun z => ?_, fun z => ?_⟩, fun z => absurd (show nI 6 ≤ nI 6 from nI_le (by omega) (by omega)) z⟩
    · rw [← hb, (b_hitS x (by omega)).mp z] at k; exact k
    · rw [← hb, ts_nt (fun y => z ((b_hitS x (by omega)).mpr y))] at k; exact k
  · rintro n i ⟨x0, g⟩ hi ⟨e, hJ⟩ ih
    have e : g = h := e
    subst e
    have hJ : z_J m p i x0 := hJ
    unfold lp_X5_reaches_7
    refine ⟨fun z => absurd z (show ¬ nI 6 ≤ nI i from nle hi (by omega)), fun _ => ?_⟩
    refine pk_loop (σ := Int32 × q_H) (fun n a s => lp_X5_reaches_17 (nI q) (nI i) _ n s.1 (nI a) s.2) (fun a s => s.2 = g ∧ z_J1 m p a x0 s.1) (z_np m) 0 (x0, g) (by omega) ⟨rfl, z_J_1 hJ⟩ ?_ ?_
    · rintro n2 ⟨x, u⟩ ⟨e, hx⟩
      have e : u = g := e
      subst e
      have hx : z_J1 m p (z_np m) x0 x := hx
      unfold lp_X5_reaches_17
      rw [hc.1.1]
      refine ⟨fun _ => ?_, fun z => absurd (nI_le (Nat.le_refl _) (by omega)) z⟩
      rw [nI_1 i]
      refine ih (_, _) ⟨rfl, z_J_n hJ ⟨hx.1, hx.2.1, fun a b _ ha hb h0 hn => hx.2.2.1 a b (hnn a b hn).1 ha hb h0 hn, hx.2.2.2⟩⟩
    · rintro n2 a ⟨x, u⟩ ha ⟨e, hx⟩ ih2
      have e : u = g := e
      subst e
      have hx : z_J1 m p a x0 x := hx
      obtain ⟨j1, j2, j3, j4⟩ := hx
      unfold lp_X5_reaches_17
      rw [hc.1.1]
      refine ⟨fun z => absurd z (nle ha (by omega)), fun _ => ?_⟩
      refine pk_loop (σ := Int32 × q_H) (fun n b s => lp_X5_reaches_29 (nI q) (nI i) (nI a) _ n s.1 (nI b) s.2) (fun b s => s.2 = u ∧ z_J2 m p a b x0 s.1) (z_np m) 0 (x, u) (by omega) ⟨rfl, j1, j2, fun c d hcd c6 d6 h0 hn => j3 c d (by omega) c6 d6 h0 hn, j4⟩ ?_ ?_
      · rintro n3 ⟨x1, v⟩ ⟨e, hx1⟩
        have e : v = u := e
        subst e
        have hx1 : z_J2 m p a (z_np m) x0 x1 := hx1
        unfold lp_X5_reaches_29
        rw [hc.1.1]
        refine ⟨fun _ => ?_, fun z => absurd (nI_le (Nat.le_refl _) (by omega)) z⟩
        rw [nI_1 a]
        exact ih2 (_, _) ⟨rfl, hx1.1, hx1.2.1, fun c d hcd c6 d6 h0 hn => hx1.2.2.1 c d (by have := (hnn c d hn).2; omega) c6 d6 h0 hn, hx1.2.2.2⟩
      · rintro n3 b ⟨x1, v⟩ hb ⟨e, hx1⟩ ih3
        have e : v = u := e
        subst e
        have hx1 : z_J2 m p a b x0 x1 := hx1
        obtain ⟨i1, i2, i3, i4⟩ := hx1
        unfold lp_X5_reaches_29
        dsimp only
        rw [hc.1.1, ix6, cl (show 6 * a + b < 2 ^ 31 by omega), nI_1 b, hc.2.2.2.2.2.1 a (by omega) b (by omega)]
        refine ⟨fun z => absurd z (nle hb (by omega)), fun _ => ⟨fun z => ⟨vin (by omega) (by omega), fun z1 => ?_, fun z1 => ?_⟩, fun z => ?_⟩⟩
        · have hn : z_nd m a b = false := by
            cases e : z_nd m a b with
            | false => rfl
            | true => rw [e] at z1; exact absurd z1 (by decide)
          refine ih3 (_, _) ⟨rfl, i1, i2, fun c d hcd c6 d6 h0 hnd => ?_, i4⟩
          rcases (by omega : (c < a ∨ c = a ∧ d < b) ∨ (c = a ∧ d = b)) with h1 | ⟨rfl, rfl⟩
          · exact i3 c d h1 c6 d6 h0 hnd
          · rw [hn] at hnd; cases hnd
        · have hn : z_nd m a b = true := by
            cases e : z_nd m a b with
            | true => rfl
            | false => rw [e] at z1; exact absurd rfl z1
          have hxa : bt x1 a = true := (b_hitS x1 (by omega)).mp z
          refine ih3 (_, _) ⟨rfl, fun c hc32 c6 => ?_, fun c c6 h0 => ?_, fun c d hcd c6 d6 h0 hnd => ?_, fun T hT hTp c c6 h0 => ?_⟩
          · show bt (x1 ||| _) c = false
            rw [b_or, i1 c hc32 c6, b_one (by omega) hc32, decide_eq_false (by omega)]; rfl
          · show bt (x1 ||| _) c = true
            rw [b_or, i2 c c6 h0, Bool.true_or]
          · show bt (x1 ||| _) d = true
            rw [b_or]
            rcases (by omega : (c < a ∨ c = a ∧ d < b) ∨ (c = a ∧ d = b)) with h1 | ⟨rfl, rfl⟩
            · rw [i3 c d h1 c6 d6 h0 hnd, Bool.true_or]
            · rw [b_one (by omega) (by omega), decide_eq_true rfl, Bool.or_true]
          · have h0 : bt (x1 ||| _) c = true := h0
            rw [b_or, b_one (by omega) (by omega)] at h0
            rcases Bool.or_eq_true_iff.mp h0 with h0 | h0
            · exact i4 T hT hTp c c6 h0
            · have : c = b := of_decide_eq_true h0
              subst this
              exact hT a c (by omega) c6 (i4 T hT hTp a (by omega) hxa) hn
        · have hxa : bt x1 a = false := ts_nt (fun y => z ((b_hitS x1 (by omega)).mpr y))
          refine ih3 (_, _) ⟨rfl, i1, i2, fun c d hcd c6 d6 h0 hnd => ?_, i4⟩
          rcases (by omega : (c < a ∨ c = a ∧ d < b) ∨ (c = a ∧ d = b)) with h1 | ⟨rfl, rfl⟩
          · exact i3 c d h1 c6 d6 h0 hnd
          · rw [i2 c c6 h0] at hxa; cases hxa
theorem M_need {m : q_S} {a b c : Int32} {h : q_H} {Q : Int32 → q_H → Prop} (hok : z_ok m) (hc : z_M m h) (hc01 : c = 0 ∨ c = 1) (k0 : ¬ y_needOk m a b c → Q 0 h) (k1 : y_needOk m a b c → ∀ g, z_M (z_need m a.toNatClampNeg b.toNatClampNeg (decide (c = 1))) g → z_Fm h g → Q 1 g) : wp_X5_need a b c h Q := by
  have hnp := hok.1.1
  have hc := z_M_iff.mp hc
  unfold wp_X5_need
  refine s5_isPart hok hc.1.1 (fun n => ⟨fun _ => k0 (fun q => n q.1), fun y => absurd rfl y⟩) (fun p hp e ha => ⟨fun y => absurd y (by decide), fun _ => ?_⟩)
  refine s5_isPart hok hc.1.1 (fun n => ⟨fun _ => k0 (fun q => n q.2.1), fun y => absurd rfl y⟩) (fun q hq e2 hb => ⟨fun y => absurd y (by decide), fun _ => ?_⟩)
  subst e; subst e2
  rw [cl (by omega), cl (by omega)] at k1
  have k0' : (bI (z_nd m p q) = c ∨ ¬ (c = 0 ∨ z_leads m q p = false)) → Q 0 h := by
    intro hh
    refine k0 (fun ⟨_, _, y1, y2⟩ => ?_)
    rw [cl (by omega), cl (by omega)] at y1 y2
    rcases hh with hh | hh
    · exact y1 hh
    · exact hh y2
  rw [ix6, cl (show 6 * p + q < 2 ^ 31 by omega), hc.2.2.2.2.2.1 p (by omega) q (by omega)]
  refine ⟨vin (by omega) (by omega), fun z => k0' (Or.inl z), fun z => ?_⟩
  have fin : (c = 0 ∨ z_leads m q p = false) → Q 1 (q_sI h 23 0 (6 * p + q) c) := by
    intro hl
    have ok : y_needOk m (nI p) (nI q) c := by
      refine ⟨ha, hb, ?_, ?_⟩
      · rw [cl (by omega), cl (by omega)]; exact z
      · rw [cl (by omega), cl (by omega)]; exact hl
    refine k1 ok _ (z_M_iff.mpr ?_) (z_Fm_sI (by omega) (z_Fm.rf h))
    have gO : ∀ k, k ≠ 23 → (q_sI h 23 0 (6 * p + q) c).1 k = h.1 k := by
      intro k hk
      funext i j
      rw [q_sI_o (by omega)]
    obtain ⟨d1, d5, d6, d7, d8, d9, d10⟩ := hc
    unfold z_Ml
    rw [gO 18 (by omega), gO 19 (by omega), gO 20 (by omega), gO 21 (by omega), gO 22 (by omega), gO 24 (by omega), gO 25 (by omega)]
    refine ⟨d1, d5, d6, d7, d8, fun x hx y hy => ?_, d10⟩
    show _ = if (if x = p ∧ y = q then decide (c = 1) else z_nd m x y) = true then 1 else 0
    by_cases e : x = p ∧ y = q
    · rw [if_pos e, e.1, e.2, q_sI_r]
      rcases hc01 with e1 | e1
      · rw [e1]; decide
      · rw [e1]; decide
    · rw [if_neg e, q_sI_o (by omega)]
      exact d9 x hx y hy
  refine ⟨fun z1 => ⟨hc01, vin (by omega) (by omega), fin (Or.inl z1)⟩, fun z1 => ?_⟩
  refine s5_reaches hok hc (by omega) (by omega) ?_
  refine ⟨fun z2 => ⟨hc01, vin (by omega) (by omega), fin (Or.inr (bI_0.mp z2))⟩, fun z2 => k0' (Or.inr ?_)⟩
  rintro (q1 | q1)
  · exact z1 q1
  · exact z2 (bI_0.mpr q1)
theorem M_hold {m : q_S} {g p a b : Int32} {h : q_H} {Q : Int32 → q_H → Prop} (hok : z_ok m) (hc : z_M m h) (k0 : ¬ (y_holdOk m g p a b ∧ z_nh m < 20) → Q (-1) h) (k1 : y_holdOk m g p a b → z_nh m < 20 → ∀ u, z_M (z_hold m g.toNatClampNeg p.toNatClampNeg a.toNatClampNeg b.toNatClampNeg) u → z_Fm h u → Q (nI (z_nh m)) u) : wp_X5_hold g p a b h Q := by
  have hnp := hok.1.1
  have hnh := hok.1.2.1
  have hc := z_M_iff.mp hc
  have k00 : ¬ y_holdOk m g p a b → Q (-1) h := fun n => k0 (fun q => n q.1)
  unfold wp_X5_hold
  refine s5_isProgram (fun n => ⟨fun _ => k00 (fun q => n q.1), fun y => absurd rfl y⟩) (fun gg hgg e ha => ⟨fun y => absurd y (by decide), fun _ => ?_⟩)
  refine s5_isPart hok hc.1.1 (fun n => ⟨fun _ => k00 (fun q => n q.2.1), fun y => absurd rfl y⟩) (fun pp hpp e2 hb => ⟨fun y => absurd y (by decide), fun _ => ?_⟩)
  refine ⟨fun z => k00 (fun q => q.2.2.1 z), fun z => ⟨fun z1 => k00 (fun q => q.2.2.2.1 z1), fun z1 => ⟨fun z2 => k00 (fun q => Int32.not_le.mpr z2 q.2.2.2.2), fun z2 => ?_⟩⟩⟩
  have z2 := Int32.not_lt.mp z2
  have ok : y_holdOk m g p a b := ⟨ha, hb, z, z1, z2⟩
  obtain ⟨x, y, rfl, rfl, hxy, hy64⟩ := y_win_nat ⟨z, z1, z2⟩
  have k1 := k1 ok
  subst e; subst e2
  rw [cl (by omega), cl (by omega), cl (by omega), cl (by omega)] at k1
  rw [hc.1.2.1]
  refine ⟨fun y1 => k0 (fun q => ?_), fun y1 => ?_⟩
  · have := (nI_eq (a := z_nh m) (b := 20) (by omega) (by omega)).mp y1
    have := q.2; omega
  have h20 : z_nh m < 20 := by
    have : ¬ z_nh m = 20 := fun q => y1 (by rw [q]; rfl)
    omega
  rw [ix41, ix42, ix43, ix40, cl (show 4 * z_nh m + 0 < 2 ^ 31 by omega), cl (show 4 * z_nh m + 1 < 2 ^ 31 by omega), cl (show 4 * z_nh m + 2 < 2 ^ 31 by omega), cl (show 4 * z_nh m + 3 < 2 ^ 31 by omega), nI_1 (z_nh m), nI_pred]
  refine ⟨vin (by omega) (by omega), vin (by omega) (by omega), vin (by omega) (by omega), vin (by omega) (by omega), ?_⟩
  refine k1 h20 _ (z_M_iff.mpr ?_) (z_Fm_sI (by omega) (z_Fm_sI (by omega) (z_Fm_sI (by omega) (z_Fm_sI (by omega) (z_Fm_sI (by omega) (z_Fm.rf h))))))
  generalize hu : q_sI (q_sI (q_sI (q_sI (q_sI h 24 0 (4 * z_nh m + 0) (nI gg)) 24 0 (4 * z_nh m + 1) (nI pp)) 24 0 (4 * z_nh m + 2) (nI x)) 24 0 (4 * z_nh m + 3) (nI y)) 18 0 1 (nI (z_nh m + 1)) = u
  have gO : ∀ k, k ≠ 18 → k ≠ 24 → u.1 k = h.1 k := by
    intro k h18 h19
    funext i j
    rw [← hu, q_sI_o (by omega), q_sI_o (by omega), q_sI_o (by omega), q_sI_o (by omega), q_sI_o (by omega)]
  have g18 : u.1 18 0 1 = nI (z_nh m + 1) ∧ ∀ j, j ≠ 1 → u.1 18 0 j = h.1 18 0 j := by
    rw [← hu]
    refine ⟨q_sI_r, fun j hj => ?_⟩
    rw [q_sI_o (by omega), q_sI_o (by omega), q_sI_o (by omega), q_sI_o (by omega), q_sI_o (by omega)]
  obtain ⟨⟨d1, d2, d3, d4⟩, d5, d6, d7, d8, d9, d10, d11⟩ := hc
  unfold z_Ml
  rw [gO 19 (by omega) (by omega), gO 20 (by omega) (by omega), gO 21 (by omega) (by omega), gO 22 (by omega) (by omega), gO 23 (by omega) (by omega), gO 25 (by omega) (by omega), g18.2 0 (by omega), g18.2 2 (by omega), g18.2 13 (by omega)]
  refine ⟨⟨d1, g18.1, d3, d4⟩, d5, d6, d7, d8, d9, fun i hi s hs => ?_, d11⟩
  have hi : i < z_nh m + 1 := hi
  show _ = nI (if i = z_nh m then (if s = 0 then gg else if s = 1 then pp else if s = 2 then x else if s = 3 then y else z_ho m i s) else z_ho m i s)
  rw [← hu, q_sI_o (by omega)]
  by_cases e : i = z_nh m
  · subst e
    rw [if_pos rfl]
    match s, hs with
    | 0, _ => rw [q_sI_o (by omega), q_sI_o (by omega), q_sI_o (by omega), q_sI_r]; rfl
    | 1, _ => rw [q_sI_o (by omega), q_sI_o (by omega), q_sI_r]; rfl
    | 2, _ => rw [q_sI_o (by omega), q_sI_r]; rfl
    | 3, _ => rw [q_sI_r]; rfl
    | n + 4, hs => omega
  · rw [if_neg e, q_sI_o (by omega), q_sI_o (by omega), q_sI_o (by omega), q_sI_o (by omega)]
    exact d10 i (by omega) s hs
theorem M_back {m : q_S} {a b : Int32} {h : q_H} {Q : Int32 → q_H → Prop} (hok : z_ok m) (hc : z_M m h) (k0 : ¬ y_backOk m a b → Q 0 h) (k1 : y_backOk m a b → ∀ u, z_M (z_back m a.toNatClampNeg b.toNatClampNeg) u → z_Fm h u → Q 1 u) : wp_X5_back a b h Q := by
  have hnh := hok.1.2.1
  have hc := z_M_iff.mp hc
  unfold wp_X5_back
  rw [hc.1.2.1]
  refine s5_ix (by omega) (fun n => ⟨fun _ => k0 (fun q => n q.1), fun z => absurd rfl z⟩) (fun i hi e ha => ⟨fun z => absurd z (by decide), fun _ => ?_⟩)
  subst e
  obtain ⟨b1, b2, b3, b4⟩ := hok.2.2.2.2.2.2.2.1 i hi
  rw [cl (by omega)] at k1
  have k0' : ¬ (¬ b < nI (z_ho m i 2) ∧ b < nI (z_ho m i 3)) → Q 0 h := fun n => k0 (fun q => n (by have := q.2; rwa [cl (by omega)] at this))
  have bel : ¬ b < nI (z_ho m i 2) → (nI (z_ho m i 3) - 1 < b ↔ nI (z_ho m i 3) ≤ b) := by
    intro hb
    refine nI_below (by omega) b ?_
    intro q
    apply hb
    rw [Int32.lt_iff_toInt_lt] at q ⊢
    rw [nI_toInt (by omega)]
    rw [Int32.toInt_zero] at q
    omega
  rw [ix42, ix43, cl (show 4 * i + 2 < 2 ^ 31 by omega), cl (show 4 * i + 3 < 2 ^ 31 by omega), hc.2.2.2.2.2.2.1 i hi 2 (by omega), hc.2.2.2.2.2.2.1 i hi 3 (by omega)]
  refine ⟨vin (by omega) (by omega), vin (by omega) (by omega), ?_⟩
  refine s5_in (fun n => ⟨fun _ => k0' (fun q => n ⟨q.1, fun y => ?_⟩), fun y => absurd rfl y⟩) (fun z z1 => ⟨fun y => absurd y (by decide), fun _ => ?_⟩)
  · exact Int32.not_le.mpr q.2 ((bel q.1).mp y)
  have z1 : b < nI (z_ho m i 3) := Int32.not_le.mp (fun y => z1 ((bel z).mpr y))
  have ok : y_backOk m (nI i) b := ⟨ha, by rw [cl (by omega)]; exact ⟨z, z1⟩⟩
  have hb : ¬ b < 0 := by
    intro q
    apply z
    rw [Int32.lt_iff_toInt_lt] at q ⊢
    rw [nI_toInt (by omega)]
    rw [Int32.toInt_zero] at q
    omega
  obtain ⟨t, ht, rfl⟩ := nI_of hb
  have k1 := k1 ok
  rw [cl ht] at k1
  refine ⟨vin (by omega) (by omega), ?_⟩
  refine k1 _ (z_M_iff.mpr ?_) (z_Fm_sI (by omega) (z_Fm.rf h))
  have gO : ∀ k, k ≠ 24 → (q_sI h 24 0 (4 * i + 3) (nI t)).1 k = h.1 k := by
    intro k hk
    funext i j
    rw [q_sI_o (by omega)]
  obtain ⟨d1, d5, d6, d7, d8, d9, d10, d11⟩ := hc
  unfold z_Ml
  rw [gO 18 (by omega), gO 19 (by omega), gO 20 (by omega), gO 21 (by omega), gO 22 (by omega), gO 23 (by omega), gO 25 (by omega)]
  refine ⟨d1, d5, d6, d7, d8, d9, fun j hj s hs => ?_, d11⟩
  show _ = nI (if j = i ∧ s = 3 then t else z_ho m j s)
  by_cases e : j = i ∧ s = 3
  · rw [if_pos e, e.1, e.2, q_sI_r]
  · rw [if_neg e, q_sI_o (by omega)]
    exact d10 j hj s hs
theorem M_timer {m : q_S} {g p a b : Int32} {h : q_H} {Q : Int32 → q_H → Prop} (hok : z_ok m) (hc : z_M m h) (k0 : ¬ (y_timerOk m g p a b ∧ z_nt m < 12) → Q (-1) h) (k1 : y_timerOk m g p a b → z_nt m < 12 → ∀ u, z_M (z_timer m g.toNatClampNeg p.toNatClampNeg a.toNatClampNeg b.toNatClampNeg) u → z_Fm h u → Q (nI (z_nt m)) u) : wp_X5_timer g p a b h Q := by
  have hnp := hok.1.1
  have hnt := hok.1.2.2
  have hc := z_M_iff.mp hc
  have k00 : ¬ y_timerOk m g p a b → Q (-1) h := fun n => k0 (fun q => n q.1)
  have key : y_timerOk m g p a b → 0 ≤ a.toInt ∧ a.toInt ≤ b.toInt ∧ b.toInt < 64 := by
    rintro ⟨_, _, h1, h2, h3⟩
    rw [Int32.lt_iff_toInt_lt] at h1 h2 h3
    rw [i_l0] at h1
    rw [i_l64] at h3
    omega
  have n64 : (nI 64).toInt = 64 := nI_toInt (by omega)
  unfold wp_X5_timer
  refine s5_isProgram (fun n => ⟨fun _ => k00 (fun q => n q.1), fun y => absurd rfl y⟩) (fun gg hgg e ha => ⟨fun y => absurd y (by decide), fun _ => ?_⟩)
  refine s5_isPart hok hc.1.1 (fun n => ⟨fun _ => k00 (fun q => n q.2.1), fun y => absurd rfl y⟩) (fun pp hpp e2 hb => ⟨fun y => absurd y (by decide), fun _ => ?_⟩)
  refine s5_isTick (fun n => ⟨fun _ => k00 (fun q => n ?_), fun y => absurd rfl y⟩) (fun x hx e3 ht => ⟨fun y => absurd y (by decide), fun _ => ?_⟩)
  · have := key q
    rw [y_isT, Int32.lt_iff_toInt_lt, Int32.le_iff_toInt_le, i_l0, n64]; omega
  refine s5_isTick (fun n => ⟨fun _ => k00 (fun q => n ?_), fun y => absurd rfl y⟩) (fun y hy e4 ht2 => ⟨fun y => absurd y (by decide), fun _ => ?_⟩)
  · have := key q
    rw [y_isT, Int32.lt_iff_toInt_lt, Int32.le_iff_toInt_le, i_l0, n64]; omega
  refine ⟨fun z1 => k00 (fun q => q.2.2.2.1 z1), fun z1 => ?_⟩
  have ok : y_timerOk m g p a b := by
    refine ⟨ha, hb, ht.1, z1, ?_⟩
    rw [e4]
    exact show nI y < nI 64 from nI_lt hy (by omega)
  have k1 := k1 ok
  subst e; subst e2; subst e3; subst e4
  have hxy : x ≤ y := Nat.le_of_not_lt (fun q => z1 (nI_lt q (by omega)))
  rw [cl (by omega), cl (by omega), cl (by omega), cl (by omega)] at k1
  rw [hc.1.2.2.1]
  refine ⟨fun y1 => k0 (fun q => ?_), fun y1 => ?_⟩
  · have := (nI_eq (a := z_nt m) (b := 12) (by omega) (by omega)).mp y1
    have := q.2; omega
  have h20 : z_nt m < 12 := by
    have : ¬ z_nt m = 12 := fun q => y1 (by rw [q]; rfl)
    omega
  rw [ix41, ix42, ix43, ix40, cl (show 4 * z_nt m + 0 < 2 ^ 31 by omega), cl (show 4 * z_nt m + 1 < 2 ^ 31 by omega), cl (show 4 * z_nt m + 2 < 2 ^ 31 by omega), cl (show 4 * z_nt m + 3 < 2 ^ 31 by omega), nI_1 (z_nt m), nI_pred]
  refine ⟨vin (by omega) (by omega), vin (by omega) (by omega), vin (by omega) (by omega), vin (by omega) (by omega), ?_⟩
  refine k1 h20 _ (z_M_iff.mpr ?_) (z_Fm_sI (by omega) (z_Fm_sI (by omega) (z_Fm_sI (by omega) (z_Fm_sI (by omega) (z_Fm_sI (by omega) (z_Fm.rf h))))))
  generalize hu : q_sI (q_sI (q_sI (q_sI (q_sI h 25 0 (4 * z_nt m + 0) (nI gg)) 25 0 (4 * z_nt m + 1) (nI pp)) 25 0 (4 * z_nt m + 2) (nI x)) 25 0 (4 * z_nt m + 3) (nI y)) 18 0 2 (nI (z_nt m + 1)) = u
  have gO : ∀ k, k ≠ 18 → k ≠ 25 → u.1 k = h.1 k := by
    intro k h18 h19
    funext i j
    rw [← hu, q_sI_o (by omega), q_sI_o (by omega), q_sI_o (by omega), q_sI_o (by omega), q_sI_o (by omega)]
  have g18 : u.1 18 0 2 = nI (z_nt m + 1) ∧ ∀ j, j ≠ 2 → u.1 18 0 j = h.1 18 0 j := by
    rw [← hu]
    refine ⟨q_sI_r, fun j hj => ?_⟩
    rw [q_sI_o (by omega), q_sI_o (by omega), q_sI_o (by omega), q_sI_o (by omega), q_sI_o (by omega)]
  obtain ⟨⟨d1, d2, d3, d4⟩, d5, d6, d7, d8, d9, d10, d11⟩ := hc
  unfold z_Ml
  rw [gO 19 (by omega) (by omega), gO 20 (by omega) (by omega), gO 21 (by omega) (by omega), gO 22 (by omega) (by omega), gO 23 (by omega) (by omega), gO 24 (by omega) (by omega), g18.2 0 (by omega), g18.2 1 (by omega), g18.2 13 (by omega)]
  refine ⟨⟨d1, d2, g18.1, d4⟩, d5, d6, d7, d8, d9, d10, fun i hi s hs => ?_⟩
  have hi : i < z_nt m + 1 := hi
  show _ = nI (if i = z_nt m then (if s = 0 then gg else if s = 1 then pp else if s = 2 then x else if s = 3 then y else z_ti m i s) else z_ti m i s)
  rw [← hu, q_sI_o (by omega)]
  by_cases e : i = z_nt m
  · subst e
    rw [if_pos rfl]
    match s, hs with
    | 0, _ => rw [q_sI_o (by omega), q_sI_o (by omega), q_sI_o (by omega), q_sI_r]; rfl
    | 1, _ => rw [q_sI_o (by omega), q_sI_o (by omega), q_sI_r]; rfl
    | 2, _ => rw [q_sI_o (by omega), q_sI_r]; rfl
    | 3, _ => rw [q_sI_r]; rfl
    | n + 4, hs => omega
  · rw [if_neg e, q_sI_o (by omega), q_sI_o (by omega), q_sI_o (by omega), q_sI_o (by omega)]
    exact d11 i (by omega) s hs
