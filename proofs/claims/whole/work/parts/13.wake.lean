/-! ===== wakings, as numbers ===== -/
theorem z_ends_iff {m : q_S} {l t : Nat} : z_ends m l t = true ↔ ∃ i, i < z_nt m ∧ z_ti m i 3 = t ∧ l ≤ z_ti m i 2 := by
  unfold z_ends
  rw [z_any]
  constructor
  · rintro ⟨i, hi, h⟩
    obtain ⟨h1, h2⟩ := Bool.and_eq_true_iff.mp h
    exact ⟨i, hi, by simpa using h1, by simpa using h2⟩
  · rintro ⟨i, hi, h1, h2⟩
    exact ⟨i, hi, by simp [h1, h2]⟩
theorem z_lat_le (m : q_S) : ∀ t, z_lat m t ≤ t
  | 0 => Nat.le_refl 0
  | t + 1 => by
    show (if z_ends m (z_lat m t) t = true then t + 1 else z_lat m t) ≤ t + 1
    split
    · exact Nat.le_refl _
    · have := z_lat_le m t; omega
theorem z_lat_wk (m : q_S) : ∀ t, 0 < z_lat m t → z_wk m (z_lat m t - 1) = true
  | 0, h => absurd h (by show ¬ 0 < 0; omega)
  | t + 1, h => by
    by_cases e : z_ends m (z_lat m t) t = true
    · have e1 : z_lat m (t + 1) = t + 1 := if_pos e
      rw [e1]
      exact e
    · have e1 : z_lat m (t + 1) = z_lat m t := if_neg e
      rw [e1] at h ⊢
      exact z_lat_wk m t h
theorem z_lat_at {m : q_S} {t : Nat} (h : z_wk m t = true) : z_lat m (t + 1) = t + 1 := if_pos h
theorem z_lat_no {m : q_S} {t : Nat} (h : z_wk m t = false) : z_lat m (t + 1) = z_lat m t := if_neg (by show ¬ z_wk m t = true; rw [h]; decide)
theorem z_lat_up (m : q_S) {c : Nat} : ∀ {t : Nat}, c ≤ t → z_lat m c ≤ z_lat m t := by
  intro t h
  induction h with
  | refl => exact Nat.le_refl _
  | @step t h ih =>
    cases e : z_wk m t with
    | true => rw [z_lat_at e]; have := z_lat_le m t; omega
    | false => rw [z_lat_no e]; exact ih
theorem z_lat_stay {m : q_S} {c : Nat} : ∀ {t : Nat}, c ≤ t → (∀ x, c ≤ x → x < t → z_wk m x = false) → z_lat m t = z_lat m c := by
  intro t h
  induction h with
  | refl => intro _; rfl
  | @step t h ih =>
    intro hx
    rw [z_lat_no (hx t h (Nat.lt_succ_self t))]
    exact ih (fun x h1 h2 => hx x h1 (Nat.lt_succ_of_lt h2))
theorem z_lat_cut {m : q_S} {c : Nat} (h : c = 0 ∨ z_wk m (c - 1) = true) : z_lat m c = c := by
  rcases h with rfl | h
  · rfl
  · cases c with
    | zero => rfl
    | succ c => exact z_lat_at h
/-- every window has a waking -/
theorem z_cover {m : q_S} {i : Nat} (hi : i < z_nt m) (hw : z_ti m i 2 ≤ z_ti m i 3) : ∃ x, z_ti m i 2 ≤ x ∧ x ≤ z_ti m i 3 ∧ z_wk m x = true := by
  cases e : z_wk m (z_ti m i 3) with
  | true => exact ⟨_, hw, Nat.le_refl _, e⟩
  | false =>
    have h1 : ¬ z_lat m (z_ti m i 3) ≤ z_ti m i 2 := by
      intro h
      have : z_wk m (z_ti m i 3) = true := z_ends_iff.mpr ⟨i, hi, rfl, h⟩
      rw [e] at this
      cases this
    have h2 := z_lat_le m (z_ti m i 3)
    exact ⟨z_lat m (z_ti m i 3) - 1, by omega, by omega, z_lat_wk m _ (by omega)⟩
theorem z_none {m : q_S} {c i : Nat} (hi : i < z_nt m) (hw : z_ti m i 2 ≤ z_ti m i 3) (h64 : z_ti m i 3 < 64) (hc : c = 0 ∨ z_wk m (c - 1) = true) (hc64 : c ≤ 64) : (∀ t, t < 64 → z_ti m i 2 ≤ t → t ≤ z_ti m i 3 → z_wk m t = true → t < c → False) ↔ c ≤ z_ti m i 2 := by
  constructor
  · intro h
    apply Classical.byContradiction
    intro hn
    have hc1 : z_wk m (c - 1) = true := hc.resolve_left (by omega)
    by_cases h1 : c - 1 ≤ z_ti m i 3
    · exact h (c - 1) (by omega) (by omega) h1 hc1 (by omega)
    · obtain ⟨x, a, b, w⟩ := z_cover hi hw
      exact h x (by omega) a b w (by omega)
  · intro h t _ h1 _ _ h2
    omega
theorem z_sum_mono {f g : Nat → Nat} : ∀ n, (∀ i, i < n → f i ≤ g i) → z_sum f n ≤ z_sum g n
  | 0, _ => Nat.le_refl _
  | n + 1, h => by
    have h1 := z_sum_mono n (fun i hi => h i (by omega))
    have h2 := h n (by omega)
    show z_sum f n + f n ≤ z_sum g n + g n
    omega
theorem z_sum_lt {f g : Nat → Nat} {j : Nat} : ∀ n, (∀ i, i < n → f i ≤ g i) → j < n → f j + 1 ≤ g j → z_sum f n + 1 ≤ z_sum g n
  | 0, _, hj, _ => absurd hj (by omega)
  | n + 1, h, hj, h1 => by
    show z_sum f n + f n + 1 ≤ z_sum g n + g n
    by_cases e : j = n
    · subst e
      have := z_sum_mono j (fun i hi => h i (by omega))
      omega
    · have h2 := z_sum_lt n (fun i hi => h i (by omega)) (show j < n by omega) h1
      have h3 := h n (by omega)
      omega
theorem z_sum_0 {f : Nat → Nat} {j : Nat} : ∀ {n : Nat}, z_sum f n = 0 → j < n → f j = 0
  | 0, _, hj => absurd hj (by omega)
  | n + 1, h, hj => by
    have h : z_sum f n + f n = 0 := h
    by_cases e : j = n
    · subst e; omega
    · exact z_sum_0 (n := n) (by omega) (by omega)
def z_left (m : q_S) (c : Nat) : Nat := z_sum (fun i => if c ≤ z_ti m i 2 then 1 else 0) (z_nt m)
theorem z_left_all (m : q_S) : z_left m 0 ≤ z_nt m := by
  have := z_sum_le (f := fun i => if 0 ≤ z_ti m i 2 then 1 else 0) (b := 1) (fun i => by simp) (z_nt m)
  unfold z_left
  omega
/-- no window from c on: all wakings are ahead of c -/
theorem z_done {m : q_S} {c : Nat} (hc : c = 0 ∨ z_wk m (c - 1) = true) (h : ∀ i, i < z_nt m → z_ti m i 2 < c) (t : Nat) : z_wk m t = true → t < c := by
  intro hw
  apply Classical.byContradiction
  intro hn
  obtain ⟨i, hi, _, h2⟩ := z_ends_iff.mp (show z_ends m (z_lat m t) t = true from hw)
  have h3 := z_lat_up m (c := c) (t := t) (by omega)
  rw [z_lat_cut hc] at h3
  have := h i hi
  omega
/-- the next waking behind c is the least end of a window from c on -/
theorem z_next {m : q_S} {c j : Nat} (hc : c = 0 ∨ z_wk m (c - 1) = true) (hj : j < z_nt m) (hw : z_ti m j 2 ≤ z_ti m j 3) (hcj : c ≤ z_ti m j 2) (hmin : ∀ i, i < z_nt m → c ≤ z_ti m i 2 → z_ti m j 3 ≤ z_ti m i 3) : z_wk m (z_ti m j 3) = true ∧ ∀ t, c ≤ t → t < z_ti m j 3 → z_wk m t = false := by
  have h1 : ∀ t, c ≤ t → t < z_ti m j 3 → z_wk m t = false := by
    intro t h1 h2
    cases e : z_wk m t with
    | false => rfl
    | true =>
      obtain ⟨i, hi, h3, h4⟩ := z_ends_iff.mp (show z_ends m (z_lat m t) t = true from e)
      have h5 := z_lat_up m (c := c) (t := t) (by omega)
      rw [z_lat_cut hc] at h5
      have := hmin i hi (by omega)
      omega
  refine ⟨?_, h1⟩
  have h2 : z_lat m (z_ti m j 3) = c := by rw [z_lat_stay (c := c) (by omega) h1, z_lat_cut hc]
  exact z_ends_iff.mpr ⟨j, hj, rfl, by rw [h2]; exact hcj⟩
theorem z_least_spec {f : Nat → Bool} : ∀ n s x, s ≤ x → x < s + n → f x = true → f (z_least f n s) = true ∧ s ≤ z_least f n s ∧ z_least f n s ≤ x ∧ ∀ y, s ≤ y → y < z_least f n s → f y = false
  | 0, s, x, h1, h2, _ => absurd h2 (by omega)
  | n + 1, s, x, h1, h2, h3 => by
    by_cases e : f s = true
    · have e1 : z_least f (n + 1) s = s := if_pos e
      rw [e1]
      exact ⟨e, Nat.le_refl _, h1, fun y a b => by omega⟩
    · have e1 : z_least f (n + 1) s = z_least f n (s + 1) := if_neg e
      have hne : x ≠ s := fun q => e (q ▸ h3)
      obtain ⟨a1, a2, a3, a4⟩ := z_least_spec n (s + 1) x (by omega) (by omega) h3
      rw [e1]
      refine ⟨a1, by omega, a3, fun y b1 b2 => ?_⟩
      by_cases ey : y = s
      · subst ey; cases h : f y with
        | false => rfl
        | true => exact absurd h e
      · exact a4 y (by omega) b2
theorem z_fi_spec {m : q_S} {i : Nat} (hi : i < z_nt m) (hw : z_ti m i 2 ≤ z_ti m i 3) (h64 : z_ti m i 3 < 64) : z_wk m (z_fi m i) = true ∧ z_ti m i 2 ≤ z_fi m i ∧ z_fi m i ≤ z_ti m i 3 ∧ ∀ y, z_ti m i 2 ≤ y → y < z_fi m i → z_wk m y = false := by
  obtain ⟨x, a, b, w⟩ := z_cover hi hw
  obtain ⟨a1, a2, a3, a4⟩ := z_least_spec (f := z_wk m) 64 (z_ti m i 2) x a (by omega) w
  exact ⟨a1, a2, by show z_least _ _ _ ≤ _; omega, a4⟩
/-! ===== Claims ===== -/
theorem q_cap (c : Nat) : q_len 12 c ≤ 20 := by
  show (bif Nat.beq c 0 then 20 else 12) ≤ 20
  cases Nat.beq c 0 <;> decide
theorem s_ticksAhead {n : Nat} {h : q_H} {Q : Int64 → q_H → Prop} (hn : n ≤ 64) (k : ∀ x : Int64, (∀ t, t < 64 → tb x t = decide (t < n)) → Q x h) : wp_X4_ticksAhead (nI n) h Q := by
  unfold wp_X4_ticksAhead
  refine ⟨fun c => k _ (fun t ht => ?_), fun c => k _ (fun t ht => ?_)⟩
  · have : n < 64 := (nI_ltI (by omega) (by omega)).mp (show nI n < nI 64 from c)
    exact tb_ahead this ht
  · have : ¬ n < 64 := fun q => c (show nI n < nI 64 from nI_lt q (by omega))
    rw [tb_m1 t ht, decide_eq_true (by omega)]
theorem s_cticks {c i a b : Nat} {h : q_H} {Q : Int64 → q_H → Prop} (hi : i < q_len 12 c) (ha : h.1 11 c i = nI a) (hb : h.1 12 c i = nI b) (ha6 : a ≤ 64) (hb6 : b ≤ 64) (k : ∀ x : Int64, (∀ t, t < 64 → tb x t = (decide (a ≤ t) && decide (t < b))) → Q x h) : wp_X0_ticksOf c (nI i) h Q := by
  have := q_cap c
  unfold wp_X0_ticksOf
  rw [cl (by omega)]
  refine ⟨vin hi (by omega), ?_⟩
  rw [hb]
  refine s_ticksAhead hb6 (fun x hx => ⟨show vp_in (nI i) (q_len 12 c) from vin hi (by omega), ?_⟩)
  rw [ha]
  refine s_ticksAhead ha6 (fun y hy => k _ (fun t ht => ?_))
  rw [tb_and, tb_not y ht, hx t ht, hy t ht]
  rcases Nat.lt_or_ge t a with h1 | h1
  · rw [decide_eq_true h1, decide_eq_false (by omega : ¬ a ≤ t), Bool.not_true, Bool.and_false, Bool.false_and]
  · rw [decide_eq_false (by omega : ¬ t < a), decide_eq_true h1, Bool.not_false, Bool.and_true, Bool.true_and]
theorem s_leastTick {x : Int64} {h : q_H} {Q : Int32 → q_H → Prop} (k1 : ∀ t, t < 64 → tb x t = true → (∀ y, y < t → tb x y = false) → Q (nI t) h) (k2 : (∀ t, t < 64 → tb x t = false) → Q (-1) h) : wp_X4_leastTick x h Q := by
  unfold wp_X4_leastTick
  refine pk_loop (σ := q_H) (fun n i s => lp_X4_leastTick_2 x Q (fun _ g => Q (-1) g) n (nI i) s) (fun i s => s = h ∧ ∀ y, y < i → tb x y = false) 64 0 h (by omega) ⟨rfl, fun y hy => by omega⟩ ?_ ?_
  · rintro n s ⟨rfl, hs⟩
    unfold lp_X4_leastTick_2
    exact ⟨fun _ => k2 hs, fun z => absurd (show nI 64 ≤ nI 64 from nI_le (by omega) (by omega)) z⟩
  · rintro n i s hi ⟨rfl, hs⟩ ih
    unfold lp_X4_leastTick_2
    refine ⟨fun z => absurd z (show ¬ nI 64 ≤ nI i from nle hi (by omega)), fun _ => ?_⟩
    refine s_hasTick hi ?_
    refine ⟨fun z => ?_, fun z => ?_⟩
    · have hf : tb x i = false := by
        cases e : tb x i with
        | false => rfl
        | true => rw [e] at z; exact absurd z (by decide)
      rw [nI_1]
      refine ih _ ⟨rfl, fun y hy => ?_⟩
      by_cases e : y = i
      · subst e; exact hf
      · exact hs y (by omega)
    · have hf : tb x i = true := by
        cases e : tb x i with
        | true => rfl
        | false => rw [e] at z; exact absurd rfl z
      exact k1 i hi hf hs
theorem w_m1 (n : Nat) (hn : n < 2 ^ 31) : ¬ nI n = -1 := by
  intro h
  have h1 := congrArg Int32.toInt h
  rw [nI_toInt hn] at h1
  have h2 : Int32.toInt (-1) = -1 := by decide
  omega
theorem s_firstEnd {c N : Nat} {a b : Nat → Nat} {x : Int64} {h : q_H} {Q : Int32 → q_H → Prop} (hN : N ≤ q_len 12 c) (hc : h.1 8 c 4 = nI N) (ha : ∀ i, i < N → h.1 11 c i = nI (a i) ∧ a i ≤ 64) (hb : ∀ i, i < N → h.1 12 c i = nI (b i) ∧ b i ≤ 64)
    (k1 : (∀ i, i < N → ¬ (∀ t, t < 64 → a i ≤ t → t < b i → tb x t = false)) → Q (-1) h)
    (k2 : ∀ i, i < N → (∀ t, t < 64 → a i ≤ t → t < b i → tb x t = false) → (∀ j, j < N → (∀ t, t < 64 → a j ≤ t → t < b j → tb x t = false) → b i ≤ b j) → Q (nI (b i)) h) : wp_X0_firstEndWithNone c x h Q := by
  have hcap := q_cap c
  unfold wp_X0_firstEndWithNone
  refine pk_loop (σ := Int32 × q_H) (fun n i s => lp_X0_firstEndWithNone_5 c x (fun y _ g => Q y g) n s.1 (nI i) s.2) (fun i s => s.2 = h ∧ ((s.1 = -1 ∧ ∀ j, j < i → ¬ (∀ t, t < 64 → a j ≤ t → t < b j → tb x t = false)) ∨ ∃ j, j < i ∧ (∀ t, t < 64 → a j ≤ t → t < b j → tb x t = false) ∧ s.1 = nI (b j) ∧ ∀ l, l < i → (∀ t, t < 64 → a l ≤ t → t < b l → tb x t = false) → b j ≤ b l)) N 0 (-1, h) (by omega) ⟨rfl, Or.inl ⟨rfl, fun j hj => by omega⟩⟩ ?_ ?_
  · rintro n ⟨y, g⟩ ⟨e, hs⟩
    have e : g = h := e
    subst e
    unfold lp_X0_firstEndWithNone_5
    rw [hc]
    refine ⟨fun _ => ?_, fun z => absurd (nI_le (Nat.le_refl N) (by omega)) z⟩
    rcases hs with ⟨h1, h2⟩ | ⟨j, hj, h1, h2, h3⟩
    · have h1 : y = -1 := h1
      rw [h1]; exact k1 h2
    · have h2 : y = nI (b j) := h2
      rw [h2]; exact k2 j hj h1 h3
  · rintro n i ⟨y, g⟩ hi ⟨e, hs⟩ ih
    have e : g = h := e
    subst e
    unfold lp_X0_firstEndWithNone_5
    rw [hc]
    refine ⟨fun z => absurd z (nle hi (by omega)), fun _ => ?_⟩
    obtain ⟨hai, hai6⟩ := ha i hi
    obtain ⟨hbi, hbi6⟩ := hb i hi
    refine s_cticks (Nat.lt_of_lt_of_le hi hN) hai hbi hai6 hbi6 (fun w hw => ?_)
    have hcl : (nI i).toNatClampNeg = i := cl (by omega)
    have hnone : lg_cmp (w &&& x) 0 = 0 ↔ (∀ t, t < 64 → a i ≤ t → t < b i → tb x t = false) := by
      rw [lgc_0]
      constructor
      · intro hz t ht h1 h2
        have := congrArg (fun q => tb q t) hz
        simp only [tb_and, tb_0] at this
        rw [hw t ht, decide_eq_true h1, decide_eq_true h2] at this
        simpa using this
      · intro hz
        apply tb_ext
        intro t ht
        rw [tb_and, tb_0, hw t ht]
        by_cases h1 : a i ≤ t
        · by_cases h2 : t < b i
          · rw [hz t ht h1 h2, Bool.and_false]
          · rw [decide_eq_false h2, Bool.and_false, Bool.false_and]
        · rw [decide_eq_false h1, Bool.false_and, Bool.false_and]
    rw [hcl, hbi, nI_1 i]
    have hs : (y = -1 ∧ ∀ j, j < i → ¬ (∀ t, t < 64 → a j ≤ t → t < b j → tb x t = false)) ∨ ∃ j, j < i ∧ (∀ t, t < 64 → a j ≤ t → t < b j → tb x t = false) ∧ y = nI (b j) ∧ ∀ l, l < i → (∀ t, t < 64 → a l ≤ t → t < b l → tb x t = false) → b j ≤ b l := hs
    refine ⟨fun z => ?_, fun z => ?_⟩
    · have hz := hnone.mp z
      refine ⟨fun z1 => ⟨vin (Nat.lt_of_lt_of_le hi hN) (by omega), ?_⟩, fun z1 => ⟨vin (Nat.lt_of_lt_of_le hi hN) (by omega), ?_⟩⟩
      · refine ih (_, _) ⟨rfl, Or.inr ⟨i, Nat.lt_succ_self i, hz, rfl, fun l hl hh => ?_⟩⟩
        by_cases el : l = i
        · subst el; exact Nat.le_refl _
        · rcases hs with ⟨_, h2⟩ | ⟨j, hj, _, h2, _⟩
          · exact absurd hh (h2 l (by omega))
          · rw [h2] at z1; exact absurd z1 (w_m1 _ (by have := (hb j (by omega)).2; omega))
      · rcases hs with ⟨h1, _⟩ | ⟨j, hj, h1, h2, h3⟩
        · exact absurd h1 z1
        · have hbj := (hb j (by omega)).2
          rw [h2]
          refine ⟨fun z2 => ?_, fun z2 => ⟨vin (Nat.lt_of_lt_of_le hi hN) (by omega), ?_⟩⟩
          · have hle : b j ≤ b i := (nI_leI (by omega) (by omega)).mp z2
            refine ih (_, _) ⟨rfl, Or.inr ⟨j, by omega, h1, rfl, fun l hl hh => ?_⟩⟩
            by_cases el : l = i
            · subst el; exact hle
            · exact h3 l (by omega) hh
          · have hlt : b i < b j := Nat.lt_of_not_le (fun q => z2 ((nI_leI (by omega) (by omega)).mpr q))
            refine ih (_, _) ⟨rfl, Or.inr ⟨i, Nat.lt_succ_self i, hz, rfl, fun l hl hh => ?_⟩⟩
            by_cases el : l = i
            · subst el; exact Nat.le_refl _
            · have := h3 l (by omega) hh; omega
    · have hz : ¬ (∀ t, t < 64 → a i ≤ t → t < b i → tb x t = false) := fun q => z (hnone.mpr q)
      refine ih (_, _) ⟨rfl, ?_⟩
      rcases hs with ⟨h1, h2⟩ | ⟨j, hj, h1, h2, h3⟩
      · refine Or.inl ⟨h1, fun j hj => ?_⟩
        by_cases ej : j = i
        · subst ej; exact hz
        · exact h2 j (by omega)
      · refine Or.inr ⟨j, by omega, h1, h2, fun l hl hh => ?_⟩
        by_cases el : l = i
        · subst el; exact absurd hh hz
        · exact h3 l (by omega) hh
/-! ===== the class's timers, wakings, and wants ===== -/
/-- the class's half without wakings and rows -/
def z_C1 (m : q_S) (h : q_H) : Prop :=
  h.1 0 0 1 = nI (z_np m) ∧
  (∀ p, p < 6 → ∀ s, s < 4 → h.1 3 p s = nI (z_dr m p s)) ∧
  (∀ p, p < 6 → ∀ s, s < 4 → h.1 4 p s = nI (z_co m p s)) ∧
  (∀ p, p < 6 → ∀ s, s < 4 → h.1 5 p s = nI (z_ri m p s)) ∧
  (∀ p, p < 6 → h.1 6 p 0 = 0 ∧ h.1 6 p 1 = nI (z_ru m p 0) ∧ h.1 6 p 2 = nI (z_ru m p 1) ∧ h.1 6 p 3 = nI (z_ru m p 2) ∧ h.1 6 p 4 = 64) ∧
  (∀ p, p < 6 → ∀ q, q < 32 → bt (h.1 7 0 p) q = (decide (q < 6) && z_nd m p q)) ∧
  (h.1 8 0 4 = nI (z_nh m) ∧ ∀ i, i < z_nh m → h.1 9 0 i = nI (z_ho m i 0) ∧ h.1 10 0 i = nI (z_ho m i 1) ∧ h.1 11 0 i = nI (z_ho m i 2) ∧ h.1 12 0 i = nI (z_ho m i 3)) ∧
  (h.1 8 1 4 = nI (z_nt m) ∧ ∀ i, i < z_nt m → h.1 9 1 i = nI (z_ti m i 0) ∧ h.1 10 1 i = nI (z_ti m i 1) ∧ h.1 11 1 i = nI (z_ti m i 2) ∧ h.1 12 1 i = nI (z_ti m i 3 + 1))
theorem z_C_iff {m : q_S} {h : q_H} : z_C m h ↔ z_C1 m h ∧ (∀ t, t < 64 → tb (h.2 0 0 5) t = z_wk m t) ∧ z_rows m (-1) (h.2 14 0) := by
  unfold z_C z_C1
  constructor
  · rintro ⟨a, b, c, d, e, f, g, i, j, k⟩; exact ⟨⟨a, b, c, d, e, f, g, i⟩, j, k⟩
  · rintro ⟨⟨a, b, c, d, e, f, g, i⟩, j, k⟩; exact ⟨a, b, c, d, e, f, g, i, j, k⟩
/-- depends on the ints alone -/
theorem z_C1.ints {m : q_S} {h g : q_H} (e : ∀ k, k ≤ 12 → g.1 k = h.1 k) (c : z_C1 m h) : z_C1 m g := by
  unfold z_C1 at c ⊢
  rw [e 0 (by omega), e 3 (by omega), e 4 (by omega), e 5 (by omega), e 6 (by omega), e 7 (by omega), e 8 (by omega), e 9 (by omega), e 10 (by omega), e 11 (by omega), e 12 (by omega)]
  exact c
theorem s_fewest {m : q_S} {h : q_H} {Q : Int64 → q_H → Prop} (hok : z_ok m) (hc : z_C1 m h) (k : ∀ x : Int64, (∀ t, t < 64 → tb x t = z_wk m t) → Q x h) : wp_X4_fewestWakings h Q := by
  obtain ⟨⟨_, _, hnt⟩, _, _, _, _, _, _, _, hti⟩ := hok
  obtain ⟨_, _, _, _, _, _, _, hn, ht⟩ := hc
  have fin : ∀ (x : Int64) (c : Nat), (c = 0 ∨ z_wk m (c - 1) = true) → (∀ t, t < 64 → tb x t = (z_wk m t && decide (t < c))) → (∀ i, i < z_nt m → z_ti m i 2 < c) → Q x h := by
    intro x c h1 h2 h3
    refine k x (fun t ht => ?_)
    rw [h2 t ht]
    cases e : z_wk m t with
    | false => rfl
    | true => rw [decide_eq_true (z_done h1 h3 t e)]; rfl
  unfold wp_X4_fewestWakings
  refine pk_loop (σ := Int64 × q_H) (fun n i s => lp_X4_fewestWakings_4 (fun x _ g => Q x g) n s.1 (nI i) s.2) (fun i s => s.2 = h ∧ ∃ c, c ≤ 64 ∧ (c = 0 ∨ z_wk m (c - 1) = true) ∧ (∀ t, t < 64 → tb s.1 t = (z_wk m t && decide (t < c))) ∧ z_left m c + i ≤ z_nt m) (z_nt m) 0 (0, h) (by omega) ⟨rfl, 0, by omega, Or.inl rfl, fun t _ => by rw [tb_0, decide_eq_false (by omega), Bool.and_false], by have := z_left_all m; omega⟩ ?_ ?_
  · rintro n ⟨x, g⟩ ⟨e, c, h1, h2, h3, h4⟩
    have e : g = h := e
    subst e
    unfold lp_X4_fewestWakings_4 wp_X0_size
    rw [hn]
    refine ⟨fun _ => fin x c h2 h3 (fun i hi => ?_), fun z => absurd (nI_le (Nat.le_refl _) (by omega)) z⟩
    have h5 : z_left m c = 0 := by omega
    have h6 := z_sum_0 (f := fun i => if c ≤ z_ti m i 2 then 1 else 0) h5 hi
    apply Classical.byContradiction
    intro h7
    have h6 : (if c ≤ z_ti m i 2 then 1 else 0) = 0 := h6
    rw [if_pos (by omega)] at h6
    cases h6
  · rintro n i ⟨x, g⟩ hi ⟨e, c, h1, h2, h3, h4⟩ ih
    have e : g = h := e
    subst e
    have h3 : ∀ t, t < 64 → tb x t = (z_wk m t && decide (t < c)) := h3
    unfold lp_X4_fewestWakings_4 wp_X0_size
    rw [hn]
    refine ⟨fun z => absurd z (nle hi (by omega)), fun _ => ?_⟩
    have hnone : ∀ j, j < z_nt m → ((∀ t, t < 64 → z_ti m j 2 ≤ t → t < z_ti m j 3 + 1 → tb x t = false) ↔ c ≤ z_ti m j 2) := by
      intro j hj
      obtain ⟨_, _, a3, a4⟩ := hti j hj
      rw [← z_none hj a3 a4 h2 h1]
      constructor
      · intro h t ht b1 b2 b3 b4
        have := h t ht b1 (by omega)
        rw [h3 t ht, b3, decide_eq_true b4] at this
        cases this
      · intro h t ht b1 b2
        rw [h3 t ht]
        cases e1 : z_wk m t with
        | false => rfl
        | true =>
          by_cases e2 : t < c
          · exact absurd (h t ht b1 (by omega) e1 e2) id
          · rw [decide_eq_false e2]; rfl
    refine s_firstEnd (N := z_nt m) (a := fun j => z_ti m j 2) (b := fun j => z_ti m j 3 + 1) (show z_nt m ≤ 12 from hnt) hn (fun j hj => ⟨(ht j hj).2.2.1, by have := hti j hj; omega⟩) (fun j hj => ⟨(ht j hj).2.2.2, by have := hti j hj; omega⟩) (fun hall => ?_) (fun j hj hz hmin => ?_)
    · refine ⟨fun _ => ?_, fun z => absurd rfl z⟩
      refine fin x c h2 h3 (fun j hj => ?_)
      apply Classical.byContradiction
      intro h7
      exact hall j hj ((hnone j hj).mpr (by omega))
    · obtain ⟨_, _, a3, a4⟩ := hti j hj
      refine ⟨fun z => absurd z (w_m1 _ (by omega)), fun _ => ?_⟩
      have hcj := (hnone j hj).mp hz
      obtain ⟨n1, n2⟩ := z_next h2 hj a3 hcj (fun l hl hcl => by have := hmin l hl ((hnone l hl).mpr hcl); omega)
      rw [nI_pred, nI_1 i]
      refine ih (_, _) ⟨rfl, z_ti m j 3 + 1, by omega, Or.inr n1, fun t ht => ?_, ?_⟩
      · show tb (x ||| _) t = _
        rw [tb_or, tb_one a4 ht, h3 t ht]
        by_cases e1 : t = z_ti m j 3
        · subst e1; rw [n1]; simp
        · by_cases e2 : t < c
          · have : t < z_ti m j 3 + 1 := by omega
            simp [e1, e2, this]
          · by_cases e3 : t < z_ti m j 3 + 1
            · rw [n2 t (by omega) (by omega)]; simp [e1]
            · simp [e1, e2, e3]
      · have : z_left m (z_ti m j 3 + 1) + 1 ≤ z_left m c := by
          unfold z_left
          refine z_sum_lt (j := j) _ (fun i _ => ?_) hj ?_
          · by_cases e1 : z_ti m j 3 + 1 ≤ z_ti m i 2
            · rw [if_pos e1, if_pos (by omega)]; exact Nat.le_refl 1
            · rw [if_neg e1]; exact Nat.zero_le _
          · rw [if_neg (by omega), if_pos hcj]; exact Nat.le_refl 1
        omega
theorem s_gather {m : q_S} {lo : Int32} {c : Nat} {h : q_H} {Q : q_H → Prop} (hok : z_ok m) (hc : z_C1 m h) (hwk : ∀ t, t < 64 → tb (h.2 0 0 5) t = z_wk m t) (hcc : c < 2) (k : ∀ f : Nat → Int64, z_rows m lo f → Q (q_aL h 14 c f)) : wp_X4_gatherWants c lo h Q := by
  obtain ⟨⟨hnp, hnh, hnt⟩, _, _, _, _, _, _, hho, hti⟩ := hok
  obtain ⟨_, _, _, _, _, hnd, ⟨hn, ht⟩, hn2, ht2⟩ := hc
  unfold wp_X4_gatherWants
  refine s_clear (fun f0 hf0 => ?_)
  have neq : ∀ f : Nat → Int64, (q_aL h 14 c f).2 0 0 = h.2 0 0 := fun f => q_aL_ne (by omega)
  -- the holds
  refine pk_loop (σ := q_H) (fun n i s => lp_X4_gatherWants_6 c lo _ n (nI i) s) (fun i s => ∃ f : Nat → Int64, s = q_aL h 14 c f ∧ ∀ p g, p < 6 → g < 8 → ∀ t, t < 64 → tb (f (p * 8 + g)) t = (List.range i).any (fun i => !decide (nI i = lo) && (z_ho m i 0 == g && (z_ho m i 1 == p && (decide (z_ho m i 2 ≤ t) && decide (t < z_ho m i 3)))))) (z_nh m) 0 _ (by omega) ⟨f0, rfl, fun p g hp hg t _ => by rw [hf0 _ (by omega), tb_0]; rfl⟩ ?_ ?_
  · rintro n s ⟨f, rfl, hf⟩
    unfold lp_X4_gatherWants_6 wp_X0_size
    have hn' : (q_aL h 14 c f).1 8 0 4 = nI (z_nh m) := hn
    rw [hn']
    refine ⟨fun _ => ?_, fun z => absurd (nI_le (Nat.le_refl _) (by omega)) z⟩
    -- the timers
    refine pk_loop (σ := q_H) (fun n i s => lp_X4_gatherWants_58 c _ n (nI i) s) (fun i s => ∃ f1 : Nat → Int64, s = q_aL h 14 c f1 ∧ ∀ p g, p < 6 → g < 8 → ∀ t, t < 64 → tb (f1 (p * 8 + g)) t = (tb (f (p * 8 + g)) t || (List.range i).any (fun i => z_ti m i 0 == g && (z_ti m i 1 == p && z_fi m i == t)))) (z_nt m) 0 _ (by omega) ⟨f, rfl, fun p g _ _ t _ => by simp⟩ ?_ ?_
    · rintro n2 s ⟨f1, rfl, hf1⟩
      unfold lp_X4_gatherWants_58 wp_X0_size
      have hn' : (q_aL h 14 c f1).1 8 1 4 = nI (z_nt m) := hn2
      rw [hn']
      refine ⟨fun _ => ?_, fun z => absurd (nI_le (Nat.le_refl _) (by omega)) z⟩
      refine s_spread (nd := z_nd m) (S := fun g t p => z_base m lo g t p) (fun p hp q hq => ?_) (fun p g hp hg t ht => ?_) (fun f2 hf2 => ?_)
      · have := hnd p hp q (by omega)
        rw [decide_eq_true hq, Bool.true_and] at this
        exact this
      · rw [q_aL_at, hf1 p g hp hg t ht, hf p g hp hg t ht]
        rfl
      · rw [q_aL_aL]
        exact k f2 (fun p hp g hg t ht => hf2 p g hp hg t ht)
    · rintro n2 i s hi ⟨f1, rfl, hf1⟩ ih
      unfold lp_X4_gatherWants_58 wp_X0_size
      have hn' : (q_aL h 14 c f1).1 8 1 4 = nI (z_nt m) := hn2
      rw [hn']
      refine ⟨fun z => absurd z (nle hi (by omega)), fun _ => ?_⟩
      obtain ⟨b1, b2, b3, b4⟩ := hti i hi
      obtain ⟨g1, g2, g3, g4⟩ := ht2 i hi
      obtain ⟨w1, w2, w3, w4⟩ := z_fi_spec hi b3 b4
      refine s_cticks (c := 1) (show i < 12 by omega) g3 g4 (by omega) (by omega) (fun x hx => ?_)
      rw [neq]
      have hbit : ∀ t, t < 64 → tb (h.2 0 0 5 &&& x) t = (z_wk m t && (decide (z_ti m i 2 ≤ t) && decide (t < z_ti m i 3 + 1))) := fun t ht => by rw [tb_and, hwk t ht, hx t ht]
      refine s_leastTick (fun t ht h1 h2 => ?_) (fun hall => ?_)
      · refine ⟨fun z => absurd z (w_m1 _ (by omega)), fun _ => ?_⟩
        have et : t = z_fi m i := by
          rw [hbit t ht] at h1
          simp only [Bool.and_eq_true, decide_eq_true_eq] at h1
          rcases Nat.lt_trichotomy t (z_fi m i) with e | e | e
          · rw [w4 t h1.2.1 e] at h1; exact absurd h1.1 (by decide)
          · exact e
          · have := h2 _ e
            rw [hbit _ (by omega), w1] at this
            simp only [Bool.true_and, Bool.and_eq_false_iff, decide_eq_false_iff_not] at this
            omega
        subst et
        unfold wp_X0_programOf
        rw [cl (by omega)]
        refine ⟨show vp_in (nI i) 12 from vin (by omega) (by omega), ?_⟩
        unfold wp_X0_partOf
        rw [cl (by omega)]
        refine ⟨show vp_in (nI i) 12 from vin (by omega) (by omega), ?_⟩
        have e1 : (q_aL h 14 c f1).1 9 1 i = nI (z_ti m i 0) := g1
        have e2 : (q_aL h 14 c f1).1 10 1 i = nI (z_ti m i 1) := g2
        rw [e1, e2]
        refine s_add (by omega) b1 ?_
        rw [q_aL_at, q_aL_aL, nI_1 i]
        refine ih _ ⟨_, rfl, fun p g hp hg t ht => ?_⟩
        rw [List.range_succ, List.any_append]
        by_cases e : p * 8 + g = z_ti m i 1 * 8 + z_ti m i 0
        · have ep : p = z_ti m i 1 := by omega
          have eg : g = z_ti m i 0 := by omega
          rw [e, vL_s, tb_or, ← e, hf1 p g hp hg t ht, tb_one (by omega) ht]
          subst ep; subst eg
          rw [Bool.or_assoc]
          congr 2
          simp only [List.any_cons, List.any_nil, Bool.or_false, beq_self_eq_true, Bool.true_and]
          by_cases et : t = z_fi m i
          · subst et; simp
          · simp [et, show ¬ z_fi m i = t from fun q => et q.symm]
        · rw [vL_n e, hf1 p g hp hg t ht]
          have : ¬ (z_ti m i 0 = g ∧ z_ti m i 1 = p) := by omega
          congr 1
          simp only [List.any_cons, List.any_nil, Bool.or_false]
          have h0 : (z_ti m i 0 == g && (z_ti m i 1 == p && z_fi m i == t)) = false := by
            by_cases e3 : z_ti m i 0 = g
            · have e4 : ¬ z_ti m i 1 = p := fun q => this ⟨e3, q⟩
              simp [e4]
            · simp [e3]
          rw [h0, Bool.or_false]
      · have := hall (z_fi m i) (by omega)
        rw [hbit _ (by omega), w1, decide_eq_true w2, decide_eq_true (by omega)] at this
        cases this
  · rintro n i s hi ⟨f, rfl, hf⟩ ih
    unfold lp_X4_gatherWants_6 wp_X0_size
    have hn' : (q_aL h 14 c f).1 8 0 4 = nI (z_nh m) := hn
    rw [hn']
    refine ⟨fun z => absurd z (nle hi (by omega)), fun _ => ?_⟩
    obtain ⟨b1, b2, b3, b4⟩ := hho i hi
    obtain ⟨g1, g2, g3, g4⟩ := ht i hi
    refine ⟨fun z => ?_, fun z => ?_⟩
    · rw [nI_1 i]
      refine ih _ ⟨f, rfl, fun p g hp hg t ht => ?_⟩
      rw [hf p g hp hg t ht, List.range_succ, List.any_append]
      simp [z]
    · unfold wp_X0_programOf
      rw [cl (by omega)]
      refine ⟨show vp_in (nI i) 20 from vin (by omega) (by omega), ?_⟩
      unfold wp_X0_partOf
      rw [cl (by omega)]
      refine ⟨show vp_in (nI i) 20 from vin (by omega) (by omega), ?_⟩
      refine s_cticks (c := 0) (show i < 20 by omega) g3 g4 (by omega) (by omega) (fun x hx => ?_)
      have e1 : (q_aL h 14 c f).1 9 0 i = nI (z_ho m i 0) := g1
      have e2 : (q_aL h 14 c f).1 10 0 i = nI (z_ho m i 1) := g2
      rw [e1, e2]
      refine s_add (by omega) b1 ?_
      rw [q_aL_at, q_aL_aL, nI_1 i]
      refine ih _ ⟨_, rfl, fun p g hp hg t ht => ?_⟩
      rw [List.range_succ, List.any_append]
      by_cases e : p * 8 + g = z_ho m i 1 * 8 + z_ho m i 0
      · have ep : p = z_ho m i 1 := by omega
        have eg : g = z_ho m i 0 := by omega
        rw [e, vL_s, tb_or, ← e, hf p g hp hg t ht, hx t ht]
        subst ep; subst eg
        simp [z]
      · rw [vL_n e, hf p g hp hg t ht]
        have : ¬ (z_ho m i 0 = g ∧ z_ho m i 1 = p) := by omega
        simp only [List.any_cons, List.any_nil, Bool.or_false]
        have h0 : (!decide (nI i = lo) && (z_ho m i 0 == g && (z_ho m i 1 == p && (decide (z_ho m i 2 ≤ t) && decide (t < z_ho m i 3))))) = false := by
          by_cases e3 : z_ho m i 0 = g
          · have e4 : ¬ z_ho m i 1 = p := fun q => this ⟨e3, q⟩
            simp [e4]
          · simp [e3]
        rw [h0, Bool.or_false]
