/-! ===== the reference's updates ===== -/
theorem i_l0 : (0 : Int32).toInt = 0 := by decide
theorem i_l99 : (99 : Int32).toInt = 99 := by decide
theorem i_l999 : (999 : Int32).toInt = 999 := by decide
theorem i_l9 : (9 : Int32).toInt = 9 := by decide
theorem i_l64 : (64 : Int32).toInt = 64 := by decide
theorem M_part {m : q_S} {a b c d : Int32} {h : q_H} {Q : Int32 → q_H → Prop} (hok : z_ok m) (hc : z_M m h) (k0 : ¬ y_partOk m a b c d → Q (-1) h) (k1 : y_partOk m a b c d → ∀ g, z_M (z_part m a.toNatClampNeg b.toNatClampNeg c.toNatClampNeg d.toNatClampNeg) g → z_Fm h g → Q (nI (z_np m)) g) : wp_X5_part a b c d h Q := by
  have hnp := hok.1.1
  have hc := z_M_iff.mp hc
  have key : ∀ (P : Prop), (y_partOk m a b c d → P) → (a.toInt ≤ 99 → b.toInt ≤ a.toInt → c.toInt ≤ b.toInt → d.toInt ≤ c.toInt → 0 ≤ d.toInt → z_np m < 6 → P) := by
    intro P hP h1 h2 h3 h4 h5 h6
    refine hP ⟨h6, ⟨?_, ?_, ?_, ?_⟩, ?_, ?_⟩
    all_goals rw [Int32.lt_iff_toInt_lt]
    · rw [i_l0]; omega
    · omega
    · omega
    · rw [i_l99]; omega
    · omega
    · rw [i_l99]; omega
  have key2 : y_partOk m a b c d → a.toInt ≤ 99 ∧ b.toInt ≤ a.toInt ∧ c.toInt ≤ b.toInt ∧ d.toInt ≤ c.toInt ∧ 0 ≤ d.toInt ∧ z_np m < 6 := by
    rintro ⟨h1, ⟨h2, h3, h4, h5⟩, h6, h7⟩
    rw [Int32.lt_iff_toInt_lt] at h2 h3 h4 h5 h6 h7
    rw [i_l0] at h2
    rw [i_l99] at h5 h7
    omega
  unfold wp_X5_part
  refine s5_in (fun n => ⟨fun _ => k0 (fun q => n ?_), fun y => absurd rfl y⟩) (fun a1 a2 => ⟨fun y => absurd y (by decide), fun _ => ?_⟩)
  · have := key2 q
    rw [Int32.lt_iff_toInt_lt, Int32.lt_iff_toInt_lt, i_l0, i_l99]; omega
  refine s5_in (fun n => ⟨fun _ => k0 (fun q => n ?_), fun y => absurd rfl y⟩) (fun b1 b2 => ⟨fun y => absurd y (by decide), fun _ => ?_⟩)
  · have := key2 q
    rw [Int32.lt_iff_toInt_lt, Int32.lt_iff_toInt_lt, i_l0]; omega
  refine s5_in (fun n => ⟨fun _ => k0 (fun q => n ?_), fun y => absurd rfl y⟩) (fun c1 c2 => ⟨fun y => absurd y (by decide), fun _ => ?_⟩)
  · have := key2 q
    rw [Int32.lt_iff_toInt_lt, Int32.lt_iff_toInt_lt, i_l0]; omega
  refine s5_in (fun n => ⟨fun _ => k0 (fun q => n ?_), fun y => absurd rfl y⟩) (fun d1 d2 => ⟨fun y => absurd y (by decide), fun _ => ?_⟩)
  · have := key2 q
    rw [Int32.lt_iff_toInt_lt, Int32.lt_iff_toInt_lt, i_l0]; omega
  rw [hc.1.1]
  refine ⟨fun z => k0 (fun q => ?_), fun z => ?_⟩
  · have := (nI_eq (a := z_np m) (b := 6) (by omega) (by omega)).mp z
    have := q.1; omega
  have h6 : z_np m < 6 := by
    have : ¬ z_np m = 6 := fun q => z (by rw [q]; rfl)
    omega
  have ok : y_partOk m a b c d := by
    rw [Int32.lt_iff_toInt_lt] at a1 a2 b1 b2 c1 c2 d1 d2
    rw [i_l0] at a1 b1 c1 d1
    rw [i_l99] at a2
    exact key _ id (by omega) (by omega) (by omega) (by omega) (by omega) h6
  have k1 := k1 ok
  obtain ⟨x, hx, rfl⟩ := nI_of a1
  obtain ⟨y, hy, rfl⟩ := nI_of b1
  obtain ⟨w, hw, rfl⟩ := nI_of c1
  obtain ⟨v, hv, rfl⟩ := nI_of d1
  rw [cl hx, cl hy, cl hw, cl hv] at k1
  rw [ix41, ix42, ix43, ix40, cl (show 4 * z_np m + 0 < 2 ^ 31 by omega), cl (show 4 * z_np m + 1 < 2 ^ 31 by omega), cl (show 4 * z_np m + 2 < 2 ^ 31 by omega), cl (show 4 * z_np m + 3 < 2 ^ 31 by omega), nI_1 (z_np m)]
  refine ⟨vin (by omega) (by omega), vin (by omega) (by omega), vin (by omega) (by omega), vin (by omega) (by omega), ?_⟩
  generalize hg : q_sI (q_sI (q_sI (q_sI (q_sI h 18 0 0 (nI (z_np m + 1))) 19 0 (4 * z_np m + 0) (nI x)) 19 0 (4 * z_np m + 1) (nI y)) 19 0 (4 * z_np m + 2) (nI w)) 19 0 (4 * z_np m + 3) (nI v) = g
  have gF : z_Fm h g := by
    rw [← hg]
    exact z_Fm_sI (by omega) (z_Fm_sI (by omega) (z_Fm_sI (by omega) (z_Fm_sI (by omega) (z_Fm_sI (by omega) (z_Fm.rf h)))))
  have g18 : g.1 18 0 0 = nI (z_np m + 1) ∧ ∀ j, j ≠ 0 → g.1 18 0 j = h.1 18 0 j := by
    rw [← hg]
    refine ⟨?_, fun j hj => ?_⟩
    · rw [q_sI_o (by omega), q_sI_o (by omega), q_sI_o (by omega), q_sI_o (by omega), q_sI_r]
    · rw [q_sI_o (by omega), q_sI_o (by omega), q_sI_o (by omega), q_sI_o (by omega), q_sI_o (by omega)]
  have g19 : ∀ p, p < 6 → ∀ s, s < 4 → g.1 19 0 (4 * p + s) = nI (z_dr (z_part m x y w v) p s) := by
    intro p hp s hs
    show _ = nI (if p = z_np m then (if s = 0 then x else if s = 1 then y else if s = 2 then w else if s = 3 then v else z_dr m p s) else z_dr m p s)
    rw [← hg]
    by_cases e : p = z_np m
    · subst e
      rw [if_pos rfl]
      match s, hs with
      | 0, _ => rw [q_sI_o (by omega), q_sI_o (by omega), q_sI_o (by omega), q_sI_r]; rfl
      | 1, _ => rw [q_sI_o (by omega), q_sI_o (by omega), q_sI_r]; rfl
      | 2, _ => rw [q_sI_o (by omega), q_sI_r]; rfl
      | 3, _ => rw [q_sI_r]; rfl
      | n + 4, hs => omega
    · rw [if_neg e, q_sI_o (by omega), q_sI_o (by omega), q_sI_o (by omega), q_sI_o (by omega), q_sI_o (by omega)]
      exact hc.2.1 p hp s hs
  have gO : ∀ k, k ≠ 18 → k ≠ 19 → g.1 k = h.1 k := by
    intro k h18 h19
    funext i j
    rw [← hg, q_sI_o (by omega), q_sI_o (by omega), q_sI_o (by omega), q_sI_o (by omega), q_sI_o (by omega)]
  refine pk_loop (σ := q_H) (fun n i s => lp_X5_part_115 (nI (z_np m)) (fun _ g => Q (nI (z_np m)) g) n (nI i) s) (fun i s => ∃ f : Nat → Int32, s = q_aI g 22 0 f ∧ (∀ j, j < 3 * z_np m → f j = g.1 22 0 j) ∧ ∀ s, s < i → f (3 * z_np m + s) = 64) 3 0 g (by omega) ⟨g.1 22 0, (q_aI_self g 22 0).symm, fun _ _ => rfl, fun s hs => by omega⟩ ?_ ?_
  · rintro n s ⟨f, rfl, f1, f2⟩
    unfold lp_X5_part_115
    refine ⟨fun _ => k1 _ (z_M_iff.mpr ?_) ?_, fun z => absurd (show nI 3 ≤ nI 3 from nI_le (by omega) (by omega)) z⟩
    · obtain ⟨⟨d1, d2, d3, d4⟩, d5, d6, d7, d8, d9, d10, d11⟩ := hc
      have fo : ∀ k, k ≠ 22 → (q_aI g 22 0 f).1 k = g.1 k := by
        intro k hk
        funext i
        exact q_aI_ne (by omega)
      unfold z_Ml
      rw [fo 18 (by omega), fo 19 (by omega), fo 20 (by omega), fo 21 (by omega), fo 23 (by omega), fo 24 (by omega), fo 25 (by omega), q_aI_at, gO 20 (by omega) (by omega), gO 21 (by omega) (by omega), gO 23 (by omega) (by omega), gO 24 (by omega) (by omega), gO 25 (by omega) (by omega), g18.2 1 (by omega), g18.2 2 (by omega), g18.2 13 (by omega)]
      refine ⟨⟨g18.1, d2, d3, d4⟩, g19, d6, d7, fun p hp s hs => ?_, d9, d10, d11⟩
      have hp : p < z_np m + 1 := hp
      show _ = nI (if p = z_np m then 64 else z_ru m p s)
      by_cases e : p = z_np m
      · rw [if_pos e, e, f2 s hs]; rfl
      · rw [if_neg e, f1 _ (by omega), gO 22 (by omega) (by omega)]
        exact d8 p (by omega) s hs
    · refine gF.tr ⟨fun k hk => ?_, rfl⟩
      funext i
      exact q_aI_ne (by omega)
  · rintro n i s hi ⟨f, rfl, f1, f2⟩ ih
    unfold lp_X5_part_115
    refine ⟨fun z => absurd z (show ¬ nI 3 ≤ nI i from nle hi (by omega)), fun _ => ?_⟩
    rw [ix3, cl (by omega), nI_1 i, q_sI_a, q_aI_at, q_aI_aI]
    refine ⟨vin (by omega) (by omega), ih _ ⟨_, rfl, fun j hj => ?_, fun s hs => ?_⟩⟩
    · rw [vI_n (by omega)]; exact f1 j hj
    · by_cases e : s = i
      · subst e; exact vI_s _ _ _
      · rw [vI_n (by omega)]; exact f2 s (by omega)
theorem M_rise {m : q_S} {p a b c x y z : Int32} {h : q_H} {Q : Int32 → q_H → Prop} (hok : z_ok m) (hc : z_M m h) (k0 : ¬ y_riseOk m p a b c x y z → Q 0 h) (k1 : y_riseOk m p a b c x y z → ∀ g, z_M (z_rise m p.toNatClampNeg a.toNatClampNeg b.toNatClampNeg c.toNatClampNeg x.toNatClampNeg y.toNatClampNeg z.toNatClampNeg) g → z_Fm h g → Q 1 g) : wp_X5_rise p a b c x y z h Q := by
  have hnp := hok.1.1
  have hc := z_M_iff.mp hc
  have up : ∀ {a b c M : Int32}, y_up3 a b c M → 0 ≤ a.toInt ∧ a.toInt ≤ b.toInt ∧ b.toInt ≤ c.toInt ∧ c.toInt ≤ M.toInt := by
    rintro a b c M ⟨h1, h2, h3, h4⟩
    rw [Int32.lt_iff_toInt_lt] at h1 h2 h3 h4
    rw [i_l0] at h1
    omega
  unfold wp_X5_rise
  refine s5_isPart hok hc.1.1 (fun n => ⟨fun _ => k0 (fun q => n q.1), fun y => absurd rfl y⟩) (fun pp hpp e ha => ⟨fun y => absurd y (by decide), fun _ => ?_⟩)
  refine s5_in (fun n => ⟨fun _ => k0 (fun q => n ?_), fun y => absurd rfl y⟩) (fun a1 a2 => ⟨fun y => absurd y (by decide), fun _ => ?_⟩)
  · have u := up q.2.1
    rw [i_l999] at u
    rw [Int32.lt_iff_toInt_lt, Int32.lt_iff_toInt_lt, i_l0, i_l999]; omega
  refine s5_in (fun n => ⟨fun _ => k0 (fun q => n ?_), fun y => absurd rfl y⟩) (fun b1 b2 => ⟨fun y => absurd y (by decide), fun _ => ?_⟩)
  · have u := up q.2.1
    rw [i_l999] at u
    rw [Int32.lt_iff_toInt_lt, Int32.lt_iff_toInt_lt, i_l999]; omega
  refine s5_in (fun n => ⟨fun _ => k0 (fun q => n ?_), fun y => absurd rfl y⟩) (fun c1 c2 => ⟨fun y => absurd y (by decide), fun _ => ?_⟩)
  · have u := up q.2.1
    rw [i_l999] at u
    rw [Int32.lt_iff_toInt_lt, Int32.lt_iff_toInt_lt, i_l999]; omega
  refine s5_in (fun n => ⟨fun _ => k0 (fun q => n ?_), fun y => absurd rfl y⟩) (fun x1 x2 => ⟨fun y => absurd y (by decide), fun _ => ?_⟩)
  · have u := up q.2.2
    rw [i_l9] at u
    rw [Int32.lt_iff_toInt_lt, Int32.lt_iff_toInt_lt, i_l0, i_l9]; omega
  refine s5_in (fun n => ⟨fun _ => k0 (fun q => n ?_), fun y => absurd rfl y⟩) (fun y1 y2 => ⟨fun y => absurd y (by decide), fun _ => ?_⟩)
  · have u := up q.2.2
    rw [i_l9] at u
    rw [Int32.lt_iff_toInt_lt, Int32.lt_iff_toInt_lt, i_l9]; omega
  refine s5_in (fun n => ⟨fun _ => k0 (fun q => n ?_), fun y => absurd rfl y⟩) (fun z1 z2 => ⟨fun y => absurd y (by decide), fun _ => ?_⟩)
  · have u := up q.2.2
    rw [i_l9] at u
    rw [Int32.lt_iff_toInt_lt, Int32.lt_iff_toInt_lt, i_l9]; omega
  have ok : y_riseOk m p a b c x y z := ⟨ha, ⟨a1, b1, c1, c2⟩, ⟨x1, y1, z1, z2⟩⟩
  have k1 := k1 ok
  obtain ⟨va, vb, vc, rfl, rfl, rfl, e1, e2, e3⟩ := y_up3_nat (M := 999) (by omega) ok.2.1
  obtain ⟨vx, vy, vz, rfl, rfl, rfl, e4, e5, e6⟩ := y_up3_nat (M := 9) (by omega) ok.2.2
  subst e
  rw [cl (by omega), cl (by omega), cl (by omega), cl (by omega), cl (by omega), cl (by omega), cl (by omega)] at k1
  rw [ix41, ix42, ix43, cl (show 4 * pp + 1 < 2 ^ 31 by omega), cl (show 4 * pp + 2 < 2 ^ 31 by omega), cl (show 4 * pp + 3 < 2 ^ 31 by omega)]
  refine ⟨vin (by omega) (by omega), vin (by omega) (by omega), vin (by omega) (by omega), vin (by omega) (by omega), vin (by omega) (by omega), vin (by omega) (by omega), ?_⟩
  refine k1 _ (z_M_iff.mpr ?_) (z_Fm_sI (by omega) (z_Fm_sI (by omega) (z_Fm_sI (by omega) (z_Fm_sI (by omega) (z_Fm_sI (by omega) (z_Fm_sI (by omega) (z_Fm.rf h)))))))
  generalize hg : q_sI (q_sI (q_sI (q_sI (q_sI (q_sI h 20 0 (4 * pp + 1) (nI va)) 20 0 (4 * pp + 2) (nI vb)) 20 0 (4 * pp + 3) (nI vc)) 21 0 (4 * pp + 1) (nI vx)) 21 0 (4 * pp + 2) (nI vy)) 21 0 (4 * pp + 3) (nI vz) = g
  have gO : ∀ k, k ≠ 20 → k ≠ 21 → g.1 k = h.1 k := by
    intro k h18 h19
    funext i j
    rw [← hg, q_sI_o (by omega), q_sI_o (by omega), q_sI_o (by omega), q_sI_o (by omega), q_sI_o (by omega), q_sI_o (by omega)]
  have g20 : ∀ p, p < 6 → ∀ s, s < 4 → g.1 20 0 (4 * p + s) = nI (z_co (z_rise m pp va vb vc vx vy vz) p s) := by
    intro p hp s hs
    show _ = nI (if p = pp then (if s = 1 then va else if s = 2 then vb else if s = 3 then vc else z_co m p s) else z_co m p s)
    rw [← hg, q_sI_o (by omega), q_sI_o (by omega), q_sI_o (by omega)]
    by_cases e : p = pp
    · subst e
      rw [if_pos rfl]
      match s, hs with
      | 0, _ => rw [q_sI_o (by omega), q_sI_o (by omega), q_sI_o (by omega)]; exact hc.2.2.1 p hp 0 (by omega)
      | 1, _ => rw [q_sI_o (by omega), q_sI_o (by omega), q_sI_r]; rfl
      | 2, _ => rw [q_sI_o (by omega), q_sI_r]; rfl
      | 3, _ => rw [q_sI_r]; rfl
      | n + 4, hs => omega
    · rw [if_neg e, q_sI_o (by omega), q_sI_o (by omega), q_sI_o (by omega)]
      exact hc.2.2.1 p hp s hs
  have g21 : ∀ p, p < 6 → ∀ s, s < 4 → g.1 21 0 (4 * p + s) = nI (z_ri (z_rise m pp va vb vc vx vy vz) p s) := by
    intro p hp s hs
    show _ = nI (if p = pp then (if s = 1 then vx else if s = 2 then vy else if s = 3 then vz else z_ri m p s) else z_ri m p s)
    rw [← hg]
    by_cases e : p = pp
    · subst e
      rw [if_pos rfl]
      match s, hs with
      | 0, _ => rw [q_sI_o (by omega), q_sI_o (by omega), q_sI_o (by omega), q_sI_o (by omega), q_sI_o (by omega), q_sI_o (by omega)]; exact hc.2.2.2.1 p hp 0 (by omega)
      | 1, _ => rw [q_sI_o (by omega), q_sI_o (by omega), q_sI_r]; rfl
      | 2, _ => rw [q_sI_o (by omega), q_sI_r]; rfl
      | 3, _ => rw [q_sI_r]; rfl
      | n + 4, hs => omega
    · rw [if_neg e, q_sI_o (by omega), q_sI_o (by omega), q_sI_o (by omega), q_sI_o (by omega), q_sI_o (by omega), q_sI_o (by omega)]
      exact hc.2.2.2.1 p hp s hs
  obtain ⟨d1, d5, d6, d7, d8⟩ := hc
  unfold z_Ml
  rw [gO 18 (by omega) (by omega), gO 19 (by omega) (by omega), gO 22 (by omega) (by omega), gO 23 (by omega) (by omega), gO 24 (by omega) (by omega), gO 25 (by omega) (by omega)]
  exact ⟨d1, d5, g20, g21, d8⟩
/-- thresholds of a part laid down -/
theorem z_Ml_rule {m : q_S} {lo : Int32} {p a b c : Nat} {h : q_H} (hc : z_Ml m lo h) : z_Ml (z_rule m p a b c) lo (q_sI (q_sI (q_sI h 22 0 (3 * p + 0) (nI a)) 22 0 (3 * p + 1) (nI b)) 22 0 (3 * p + 2) (nI c)) := by
  generalize hg : q_sI (q_sI (q_sI h 22 0 (3 * p + 0) (nI a)) 22 0 (3 * p + 1) (nI b)) 22 0 (3 * p + 2) (nI c) = g
  have gO : ∀ k, k ≠ 22 → g.1 k = h.1 k := by
    intro k h18
    funext i j
    rw [← hg, q_sI_o (by omega), q_sI_o (by omega), q_sI_o (by omega)]
  obtain ⟨d1, d5, d6, d7, d8, d9⟩ := hc
  unfold z_Ml
  rw [gO 18 (by omega), gO 19 (by omega), gO 20 (by omega), gO 21 (by omega), gO 23 (by omega), gO 24 (by omega), gO 25 (by omega)]
  refine ⟨d1, d5, d6, d7, fun q hq s hs => ?_, d9⟩
  show _ = nI (if q = p then (if s = 0 then a else if s = 1 then b else if s = 2 then c else z_ru m q s) else z_ru m q s)
  rw [← hg]
  by_cases e : q = p
  · subst e
    rw [if_pos rfl]
    match s, hs with
    | 0, _ => rw [q_sI_o (by omega), q_sI_o (by omega), q_sI_r]; rfl
    | 1, _ => rw [q_sI_o (by omega), q_sI_r]; rfl
    | 2, _ => rw [q_sI_r]; rfl
    | n + 3, hs => omega
  · rw [if_neg e, q_sI_o (by omega), q_sI_o (by omega), q_sI_o (by omega)]
    exact d8 q hq s hs
theorem M_rule {m : q_S} {p a b c : Int32} {h : q_H} {Q : Int32 → q_H → Prop} (hok : z_ok m) (hc : z_M m h) (k0 : ¬ y_ruleOk m p a b c → Q 0 h) (k1 : y_ruleOk m p a b c → ∀ g, z_M (z_rule m p.toNatClampNeg a.toNatClampNeg b.toNatClampNeg c.toNatClampNeg) g → z_Fm h g → Q 1 g) : wp_X5_rule p a b c h Q := by
  have hnp := hok.1.1
  have hc := z_M_iff.mp hc
  have up : ∀ {a b c M : Int32}, y_up3 a b c M → 0 ≤ a.toInt ∧ a.toInt ≤ b.toInt ∧ b.toInt ≤ c.toInt ∧ c.toInt ≤ M.toInt := by
    rintro a b c M ⟨h1, h2, h3, h4⟩
    rw [Int32.lt_iff_toInt_lt] at h1 h2 h3 h4
    rw [i_l0] at h1
    omega
  unfold wp_X5_rule
  refine s5_isPart hok hc.1.1 (fun n => ⟨fun _ => k0 (fun q => n q.1), fun y => absurd rfl y⟩) (fun pp hpp e ha => ⟨fun y => absurd y (by decide), fun _ => ?_⟩)
  refine s5_in (fun n => ⟨fun _ => k0 (fun q => n ?_), fun y => absurd rfl y⟩) (fun a1 a2 => ⟨fun y => absurd y (by decide), fun _ => ?_⟩)
  · have u := up q.2
    rw [i_l64] at u
    rw [Int32.lt_iff_toInt_lt, Int32.lt_iff_toInt_lt, i_l0, i_l64]; omega
  refine s5_in (fun n => ⟨fun _ => k0 (fun q => n ?_), fun y => absurd rfl y⟩) (fun b1 b2 => ⟨fun y => absurd y (by decide), fun _ => ?_⟩)
  · have u := up q.2
    rw [i_l64] at u
    rw [Int32.lt_iff_toInt_lt, Int32.lt_iff_toInt_lt, i_l64]; omega
  refine s5_in (fun n => ⟨fun _ => k0 (fun q => n ?_), fun y => absurd rfl y⟩) (fun c1 c2 => ⟨fun y => absurd y (by decide), fun _ => ?_⟩)
  · have u := up q.2
    rw [i_l64] at u
    rw [Int32.lt_iff_toInt_lt, Int32.lt_iff_toInt_lt, i_l64]; omega
  have ok : y_ruleOk m p a b c := ⟨ha, ⟨a1, b1, c1, c2⟩⟩
  have k1 := k1 ok
  obtain ⟨va, vb, vc, rfl, rfl, rfl, e1, e2, e3⟩ := y_up3_nat (M := 64) (by omega) ok.2
  subst e
  rw [cl (by omega), cl (by omega), cl (by omega), cl (by omega)] at k1
  rw [ix31, ix32, ix30, cl (show 3 * pp + 0 < 2 ^ 31 by omega), cl (show 3 * pp + 1 < 2 ^ 31 by omega), cl (show 3 * pp + 2 < 2 ^ 31 by omega)]
  refine ⟨vin (by omega) (by omega), vin (by omega) (by omega), vin (by omega) (by omega), ?_⟩
  exact k1 _ (z_M_iff.mpr (z_Ml_rule hc)) (z_Fm_sI (by omega) (z_Fm_sI (by omega) (z_Fm_sI (by omega) (z_Fm.rf h))))
