/-! ===== the reference: frames, questions of range ===== -/
def z_Ml (m : q_S) (lo : Int32) (h : q_H) : Prop :=
  (h.1 18 0 0 = nI (z_np m) ∧ h.1 18 0 1 = nI (z_nh m) ∧ h.1 18 0 2 = nI (z_nt m) ∧ h.1 18 0 13 = lo) ∧
  (∀ p, p < 6 → ∀ s, s < 4 → h.1 19 0 (4 * p + s) = nI (z_dr m p s)) ∧
  (∀ p, p < 6 → ∀ s, s < 4 → h.1 20 0 (4 * p + s) = nI (z_co m p s)) ∧
  (∀ p, p < 6 → ∀ s, s < 4 → h.1 21 0 (4 * p + s) = nI (z_ri m p s)) ∧
  (∀ p, p < z_np m → ∀ s, s < 3 → h.1 22 0 (3 * p + s) = nI (z_ru m p s)) ∧
  (∀ p, p < 6 → ∀ q, q < 6 → h.1 23 0 (6 * p + q) = if z_nd m p q = true then 1 else 0) ∧
  (∀ i, i < z_nh m → ∀ s, s < 4 → h.1 24 0 (4 * i + s) = nI (z_ho m i s)) ∧
  (∀ i, i < z_nt m → ∀ s, s < 4 → h.1 25 0 (4 * i + s) = nI (z_ti m i s))
theorem z_M_iff {m : q_S} {h : q_H} : z_M m h ↔ z_Ml m (-1) h := Iff.rfl
/-- what a question leaves -/
def z_K (h g : q_H) : Prop := (∀ k, k ≠ 18 → k ≠ 26 → k ≠ 27 → g.1 k = h.1 k) ∧ (∀ j, j ≠ 11 → j ≠ 14 → j ≠ 15 → g.1 18 0 j = h.1 18 0 j) ∧ g.2 = h.2
def z_K1 (h g : q_H) : Prop := (∀ k, k ≠ 18 → g.1 k = h.1 k) ∧ (∀ j, j ≠ 14 → j ≠ 15 → g.1 18 0 j = h.1 18 0 j) ∧ g.2 = h.2
theorem z_K.rf (h : q_H) : z_K h h := ⟨fun _ _ _ _ => rfl, fun _ _ _ _ => rfl, rfl⟩
theorem z_K1.rf (h : q_H) : z_K1 h h := ⟨fun _ _ => rfl, fun _ _ _ => rfl, rfl⟩
theorem z_K.tr {h g k : q_H} (a : z_K h g) (b : z_K g k) : z_K h k := ⟨fun n x y z => (b.1 n x y z).trans (a.1 n x y z), fun n x y z => (b.2.1 n x y z).trans (a.2.1 n x y z), b.2.2.trans a.2.2⟩
theorem z_K1.tr {h g k : q_H} (a : z_K1 h g) (b : z_K1 g k) : z_K1 h k := ⟨fun n x => (b.1 n x).trans (a.1 n x), fun n x y => (b.2.1 n x y).trans (a.2.1 n x y), b.2.2.trans a.2.2⟩
theorem z_K1.K {h g : q_H} (a : z_K1 h g) : z_K h g := ⟨fun n x _ _ => a.1 n x, fun n _ y z => a.2.1 n y z, a.2.2⟩
theorem z_K.fm {h g : q_H} (a : z_K h g) : z_Fm h g := ⟨fun n hn => a.1 n (by omega) (by omega) (by omega), a.2.2⟩
theorem z_K_sI {h g : q_H} {k i j : Nat} {v : Int32} (hk : k = 26 ∨ k = 27 ∨ (k = 18 ∧ (j = 11 ∨ j = 14 ∨ j = 15))) (a : z_K h g) : z_K h (q_sI g k i j v) := by
  refine ⟨fun n x y z => ?_, fun n x y z => ?_, a.2.2⟩
  · rw [← a.1 n x y z]
    funext i1 j1
    exact if_neg (by omega)
  · rw [← a.2.1 n x y z]
    exact if_neg (by omega)
theorem z_K1_sI {h g : q_H} {i j : Nat} {v : Int32} (hk : j = 14 ∨ j = 15) (a : z_K1 h g) : z_K1 h (q_sI g 18 i j v) := by
  refine ⟨fun n x => ?_, fun n x y => ?_, a.2.2⟩
  · rw [← a.1 n x]
    funext i1 j1
    exact if_neg (by omega)
  · rw [← a.2.1 n x y]
    exact if_neg (by omega)
theorem z_K.M {m : q_S} {lo : Int32} {h g : q_H} (a : z_K h g) (c : z_Ml m lo h) : z_Ml m lo g := by
  obtain ⟨a1, a2, a3⟩ := a
  unfold z_Ml at c ⊢
  rw [a1 19 (by omega) (by omega) (by omega), a1 20 (by omega) (by omega) (by omega), a1 21 (by omega) (by omega) (by omega), a1 22 (by omega) (by omega) (by omega), a1 23 (by omega) (by omega) (by omega), a1 24 (by omega) (by omega) (by omega), a1 25 (by omega) (by omega) (by omega), a2 0 (by omega) (by omega) (by omega), a2 1 (by omega) (by omega) (by omega), a2 2 (by omega) (by omega) (by omega), a2 13 (by omega) (by omega) (by omega)]
  exact c
theorem ix4 (p s : Nat) : 4 * nI p + nI s = nI (4 * p + s) := by rw [show (4 : Int32) = nI 4 from rfl, pk_mul, nI_add]
theorem ix40 (p : Nat) : 4 * nI p = nI (4 * p + 0) := by rw [show (4 : Int32) = nI 4 from rfl, pk_mul]; rfl
theorem ix41 (p : Nat) : 4 * nI p + 1 = nI (4 * p + 1) := ix4 p 1
theorem ix42 (p : Nat) : 4 * nI p + 2 = nI (4 * p + 2) := ix4 p 2
theorem ix43 (p : Nat) : 4 * nI p + 3 = nI (4 * p + 3) := ix4 p 3
theorem ix3 (p s : Nat) : 3 * nI p + nI s = nI (3 * p + s) := by rw [show (3 : Int32) = nI 3 from rfl, pk_mul, nI_add]
theorem ix30 (p : Nat) : 3 * nI p = nI (3 * p + 0) := by rw [show (3 : Int32) = nI 3 from rfl, pk_mul]; rfl
theorem ix31 (p : Nat) : 3 * nI p + 1 = nI (3 * p + 1) := ix3 p 1
theorem ix32 (p : Nat) : 3 * nI p + 2 = nI (3 * p + 2) := ix3 p 2
theorem ix6 (p s : Nat) : 6 * nI p + nI s = nI (6 * p + s) := by rw [show (6 : Int32) = nI 6 from rfl, pk_mul, nI_add]
theorem ix64 (p s : Nat) : 64 * nI p + nI s = nI (64 * p + s) := by rw [show (64 : Int32) = nI 64 from rfl, pk_mul, nI_add]
theorem s5_in {a lo hi : Int32} {h : q_H} {Q : Int32 → q_H → Prop} (k0 : ¬ (¬ a < lo ∧ ¬ hi < a) → Q 0 h) (k1 : ¬ a < lo → ¬ hi < a → Q 1 h) : wp_X5_isIn a lo hi h Q :=
  ⟨fun z => k0 (fun q => q.1 z), fun z => ⟨fun z1 => k0 (fun q => q.2 z1), fun z1 => k1 z z1⟩⟩
theorem nI_below {n : Nat} (hn : n < 2 ^ 31) (a : Int32) (h0 : ¬ a < 0) : nI n - 1 < a ↔ nI n ≤ a := by
  obtain ⟨j, hj, rfl⟩ := nI_of h0
  cases n with
  | zero =>
    constructor
    · intro _; exact nI_le (by omega) hj
    · intro _
      rw [Int32.lt_iff_toInt_lt, nI_toInt hj]
      have : (nI 0 - 1 : Int32).toInt = -1 := by decide
      omega
  | succ n =>
    rw [nI_pred, nI_ltI (by omega) hj, nI_leI (by omega) hj]
    omega
theorem s5_ix {n : Nat} {a : Int32} {h : q_H} {Q : Int32 → q_H → Prop} (hn : n < 2 ^ 31) (k0 : ¬ (¬ a < 0 ∧ ¬ nI n ≤ a) → Q 0 h) (k1 : ∀ i, i < n → a = nI i → (¬ a < 0 ∧ ¬ nI n ≤ a) → Q 1 h) : wp_X5_isIn a 0 (nI n - 1) h Q := by
  refine s5_in (fun z => k0 (fun q => z ⟨q.1, fun q1 => q.2 ((nI_below hn a q.1).mp q1)⟩)) (fun z z1 => ?_)
  have z2 : ¬ nI n ≤ a := fun q => z1 ((nI_below hn a z).mpr q)
  obtain ⟨i, hi, e⟩ := y_in hn ⟨z, z2⟩
  exact k1 i hi e ⟨z, z2⟩
theorem s5_isPart {m : q_S} {a : Int32} {h : q_H} {Q : Int32 → q_H → Prop} (hok : z_ok m) (hc : h.1 18 0 0 = nI (z_np m)) (k0 : ¬ y_isP m a → Q 0 h) (k1 : ∀ p, p < z_np m → a = nI p → y_isP m a → Q 1 h) : wp_X5_isPart a h Q := by
  have := hok.1.1
  unfold wp_X5_isPart
  rw [hc]
  exact s5_ix (by omega) (fun z => ⟨Or.inl rfl, k0 z⟩) (fun p hp e z => ⟨Or.inr rfl, k1 p hp e z⟩)
theorem s5_isTick {a : Int32} {h : q_H} {Q : Int32 → q_H → Prop} (k0 : ¬ y_isT a → Q 0 h) (k1 : ∀ t, t < 64 → a = nI t → y_isT a → Q 1 h) : wp_X5_isTick a h Q :=
  s5_ix (n := 64) (by omega) (fun z => ⟨Or.inl rfl, k0 z⟩) (fun p hp e z => ⟨Or.inr rfl, k1 p hp e z⟩)
theorem s5_isProgram {a : Int32} {h : q_H} {Q : Int32 → q_H → Prop} (k0 : ¬ y_isG a → Q 0 h) (k1 : ∀ t, t < 8 → a = nI t → y_isG a → Q 1 h) : wp_X5_isProgram a h Q :=
  s5_ix (n := 8) (by omega) (fun z => ⟨Or.inl rfl, k0 z⟩) (fun p hp e z => ⟨Or.inr rfl, k1 p hp e z⟩)
/-! ===== the reference: wakings ===== -/
theorem z_left_lt {m : q_S} {t : Nat} (hok : z_ok m) (h : z_wk m t = true) : z_left m (t + 1) + 1 ≤ z_left m (z_lat m t) := by
  obtain ⟨i, hi, h1, h2⟩ := z_ends_iff.mp (show z_ends m (z_lat m t) t = true from h)
  have h3 := z_lat_le m t
  have hw := (hok.2.2.2.2.2.2.2.2 i hi).2.2.1
  refine z_sum_lt (j := i) (z_nt m) (fun j _ => ?_) hi ?_
  · split
    · rw [if_pos (by omega)]; omega
    · omega
  · rw [if_neg (by omega), if_pos h2]; omega
/-- wakings are laid out -/
def z_Wk (m : q_S) (g : q_H) : Prop := g.1 18 0 11 = nI (z_nw m 64) ∧ ∀ x, x < 64 → z_wk m x = true → g.1 26 0 (z_nw m x) = nI x
theorem s5_ends {m : q_S} {lo : Int32} {t : Nat} {h : q_H} {E : Int32 → Int32 → q_H → Prop} (hok : z_ok m) (hc : z_Ml m lo h) (ht : t < 64) (k : ∀ y, E (bI (z_wk m t)) y h) : ∃ n, lp_X5_wakes_20 (nI (z_lat m t) - 1) (nI t) E n 0 0 h := by
  have hnt := hok.1.2.2
  have hti := hok.2.2.2.2.2.2.2.2
  have hl := z_lat_le m t
  refine pk_loop (σ := Int32 × q_H) (fun n i s => lp_X5_wakes_20 (nI (z_lat m t) - 1) (nI t) E n s.1 (nI i) s.2) (fun i s => s.2 = h ∧ s.1 = bI ((List.range i).any (fun i => z_ti m i 3 == t && decide (z_lat m t ≤ z_ti m i 2)))) (z_nt m) 0 (0, h) (by omega) ⟨rfl, rfl⟩ ?_ ?_
  · rintro n ⟨x, g⟩ ⟨e, hx⟩
    have e : g = h := e
    subst e
    have hx : x = _ := hx
    subst hx
    unfold lp_X5_wakes_20
    rw [hc.1.2.2.1]
    exact ⟨fun _ => k _, fun z => absurd (nI_le (Nat.le_refl _) (by omega)) z⟩
  · rintro n i ⟨x, g⟩ hi ⟨e, hx⟩ ih
    have e : g = h := e
    subst e
    have hx : x = bI ((List.range i).any (fun i => z_ti m i 3 == t && decide (z_lat m t ≤ z_ti m i 2))) := hx
    have hstep : (List.range (i + 1)).any (fun i => z_ti m i 3 == t && decide (z_lat m t ≤ z_ti m i 2)) = ((List.range i).any (fun i => z_ti m i 3 == t && decide (z_lat m t ≤ z_ti m i 2)) || (z_ti m i 3 == t && decide (z_lat m t ≤ z_ti m i 2))) := by
      rw [List.range_succ, List.any_append]; simp
    obtain ⟨_, _, a3, a4⟩ := hti i hi
    unfold lp_X5_wakes_20
    rw [hc.1.2.2.1]
    refine ⟨fun z => absurd z (nle hi (by omega)), fun _ => ?_⟩
    dsimp only
    rw [ix43, ix42, cl (by omega), cl (by omega), nI_1 i, hc.2.2.2.2.2.2.2 i hi 3 (by omega), hc.2.2.2.2.2.2.2 i hi 2 (by omega)]
    refine ⟨fun z => ⟨vin (by omega) (by omega), fun z1 => ⟨vin (by omega) (by omega), fun z2 => ?_, fun z2 => ?_⟩, fun z1 => ?_⟩, fun z => ?_⟩
    all_goals refine ih (_, _) ⟨rfl, ?_⟩
    all_goals rw [hstep]
    all_goals show (_ : Int32) = _
    · have e1 := bI_0.mp (hx.symm.trans z)
      have e2 : z_ti m i 3 = t := (nI_eq (by omega) (by omega)).mp z1
      have e3 : ¬ z_lat m t ≤ z_ti m i 2 := by
        intro q
        have h0 := nI_pos (n := z_ti m i 2) (by omega)
        have : ¬ nI (z_ti m i 2) ≤ nI (z_lat m t) - 1 := by
          rw [Int32.not_le]
          exact (nI_below (by omega) _ h0).mpr (nI_le q (by omega))
        exact this z2
      rw [e1, decide_eq_false e3, Bool.and_false]
      rfl
    · have e1 := bI_0.mp (hx.symm.trans z)
      have e2 : z_ti m i 3 = t := (nI_eq (by omega) (by omega)).mp z1
      have e3 : z_lat m t ≤ z_ti m i 2 := by
        have h0 := nI_pos (n := z_ti m i 2) (by omega)
        rw [Int32.not_le] at z2
        exact (nI_leI (by omega) (by omega)).mp ((nI_below (by omega) _ h0).mp z2)
      rw [e1, decide_eq_true e3, e2]
      simp [bI]
    · have e1 := bI_0.mp (hx.symm.trans z)
      have e2 : ¬ z_ti m i 3 = t := fun q => z1 (by rw [q])
      rw [e1, show (z_ti m i 3 == t) = false by simpa using e2]
      rfl
    · have e1 : (List.range i).any (fun i => z_ti m i 3 == t && decide (z_lat m t ≤ z_ti m i 2)) = true := ts_nf (fun q => z (hx.trans (by rw [q]; rfl)))
      rw [e1]
      rfl
theorem s5_wakes {m : q_S} {lo : Int32} {h : q_H} {Q : q_H → Prop} (hok : z_ok m) (hc : z_Ml m lo h) (k : ∀ g, z_K h g → z_Wk m g → Q g) : wp_X5_wakes h Q := by
  have hnt := hok.1.2.2
  unfold wp_X5_wakes
  refine pk_loop (σ := Int32 × q_H) (fun n i s => lp_X5_wakes_9 (fun _ _ g => Q g) n s.1 (nI i) s.2) (fun t s => s.1 = nI (z_lat m t) - 1 ∧ z_K h s.2 ∧ s.2.1 18 0 11 = nI (z_nw m t) ∧ (z_nw m t + z_left m (z_lat m t) ≤ z_nt m) ∧ ∀ x, x < t → z_wk m x = true → s.2.1 26 0 (z_nw m x) = nI x) 64 0 (-1, _) (by omega) ⟨rfl, z_K_sI (by omega) (z_K.rf h), q_sI_r, by have := z_left_all m; show 0 + z_left m 0 ≤ _; omega, fun x hx => by omega⟩ ?_ ?_
  · rintro n ⟨x, g⟩ ⟨h1, h2, h3, h4, h5⟩
    unfold lp_X5_wakes_9
    exact ⟨fun _ => k g h2 ⟨h3, h5⟩, fun z => absurd (show nI 64 ≤ nI 64 from nI_le (by omega) (by omega)) z⟩
  · rintro n t ⟨x, g⟩ ht ⟨h1, h2, h3, h4, h5⟩ ih
    have h1 : x = nI (z_lat m t) - 1 := h1
    subst h1
    have h2 : z_K h g := h2
    have h3 : g.1 18 0 11 = nI (z_nw m t) := h3
    have h5 : ∀ x, x < t → z_wk m x = true → g.1 26 0 (z_nw m x) = nI x := h5
    unfold lp_X5_wakes_9
    refine ⟨fun z => absurd z (show ¬ nI 64 ≤ nI t from nle ht (by omega)), fun _ => ?_⟩
    refine s5_ends hok (h2.M hc) ht (fun y => ?_)
    dsimp only
    rw [nI_1 t, h3]
    refine ⟨fun z => ?_, fun z => ?_⟩
    · have hw := bI_0.mp z
      refine ih (_, _) ⟨by show _ = _; rw [z_lat_no hw], h2, by show g.1 18 0 11 = _; rw [h3, z_nw_0 hw], by rw [z_nw_0 hw, z_lat_no hw]; exact h4, fun x hx hwx => ?_⟩
      by_cases e : x = t
      · subst e; rw [hw] at hwx; cases hwx
      · exact h5 x (by omega) hwx
    · have hw : z_wk m t = true := ts_nf (fun q => z (by rw [q]; rfl))
      have hlt := z_left_lt hok hw
      rw [cl (by omega), nI_1 (z_nw m t)]
      refine ⟨vin (by omega) (by omega), ?_⟩
      refine ih (_, _) ⟨by show nI t = nI _ - 1; rw [z_lat_at hw, nI_pred], z_K_sI (by omega) (z_K_sI (by omega) h2), by rw [z_nw_1 hw]; exact q_sI_r, by rw [z_nw_1 hw, z_lat_at hw]; omega, fun x hx hwx => ?_⟩
      show (q_sI (q_sI g 26 0 _ _) 18 0 11 _).1 26 0 _ = _
      rw [q_sI_o (by omega)]
      by_cases e : x = t
      · subst e; exact q_sI_r
      · have hlt2 : z_nw m (x + 1) ≤ z_nw m t := z_nw_up m (by omega)
        rw [z_nw_1 hwx] at hlt2
        rw [q_sI_o (by omega)]
        exact h5 x (by omega) hwx
theorem z_nw_12 {m : q_S} (hok : z_ok m) : ∀ t, z_nw m t + z_left m (z_lat m t) ≤ z_nt m
  | 0 => by have := z_left_all m; show 0 + z_left m 0 ≤ _; omega
  | t + 1 => by
    have ih := z_nw_12 hok t
    cases e : z_wk m t with
    | false => rw [z_nw_0 e, z_lat_no e]; exact ih
    | true =>
      have := z_left_lt hok e
      rw [z_nw_1 e, z_lat_at e]
      omega
theorem z_nw_hit {m : q_S} : ∀ {n i : Nat}, i < z_nw m n → ∃ x, x < n ∧ z_wk m x = true ∧ z_nw m x = i
  | 0, i, h => absurd h (by show ¬ i < 0; omega)
  | n + 1, i, h => by
    cases e : z_wk m n with
    | false =>
      rw [z_nw_0 e] at h
      obtain ⟨s, h1, h2, h3⟩ := z_nw_hit h
      exact ⟨s, by omega, h2, h3⟩
    | true =>
      rw [z_nw_1 e] at h
      by_cases ei : i = z_nw m n
      · exact ⟨n, by omega, e, ei.symm⟩
      · obtain ⟨s, h1, h2, h3⟩ := z_nw_hit (m := m) (n := n) (i := i) (by omega)
        exact ⟨s, by omega, h2, h3⟩
theorem s5_firesAt {m : q_S} {lo : Int32} {i : Nat} {h : q_H} {Q : Int32 → q_H → Prop} (hok : z_ok m) (hc : z_Ml m lo h) (hw : z_Wk m h) (hi : i < z_nt m) (k : Q (nI (z_fi m i)) h) : wp_X5_firesAt (nI i) h Q := by
  have hnt := hok.1.2.2
  obtain ⟨_, _, a3, a4⟩ := hok.2.2.2.2.2.2.2.2 i hi
  obtain ⟨b1, b2, b3, b4⟩ := z_fi_spec hi a3 a4
  have hlt : z_nw m (z_fi m i) < 12 := by
    have h1 := z_nw_12 hok (z_fi m i + 1)
    rw [z_nw_1 b1] at h1
    omega
  have hre := hc.2.2.2.2.2.2.2 i hi 2 (by omega)
  have hat := hw.2 (z_fi m i) (by omega) b1
  unfold wp_X5_firesAt
  refine pk_loop (σ := q_H) (fun n j s => lp_X5_firesAt_2 (nI i) (fun y g => vp_in y 12 ∧ Q (g.1 26 0 y.toNatClampNeg) g) n (nI j) s) (fun j s => s = h) (z_nw m (z_fi m i)) 0 h (by omega) rfl ?_ ?_
  · rintro n s rfl
    unfold lp_X5_firesAt_2
    rw [ix42, cl (by omega), hre, cl (by omega), hat]
    refine ⟨vin hlt (by omega), vin (by omega) (by omega), fun _ => ⟨vin hlt (by omega), k⟩, fun z => absurd (nI_le b2 (by omega)) z⟩
  · rintro n j s hj rfl ih
    unfold lp_X5_firesAt_2
    rw [ix42, cl (by omega), hre, cl (by omega), nI_1 j]
    refine ⟨vin (by omega) (by omega), vin (by omega) (by omega), fun z => ?_, fun _ => ih _ rfl⟩
    exfalso
    obtain ⟨x, hx1, hx2, hx3⟩ := z_nw_hit (m := m) (n := z_fi m i) hj
    rw [← hx3, hw.2 x (by omega) hx2] at z
    have := (nI_leI (by omega) (by omega)).mp z
    rw [b4 x this hx1] at hx2
    cases hx2
