/-! ===== idle spans, as numbers ===== -/
theorem z_cur_le (w : Nat → Bool) : ∀ t, z_cur w t ≤ t
  | 0 => Nat.le_refl 0
  | t + 1 => by
    show (if w t = true then 0 else z_cur w t + 1) ≤ t + 1
    split
    · exact Nat.zero_le _
    · have := z_cur_le w t; omega
theorem z_cur_idle (w : Nat → Bool) : ∀ t x, t - z_cur w t ≤ x → x < t → w x = false
  | 0, x, _, h => absurd h (by omega)
  | t + 1, x, h1, h2 => by
    by_cases e : w t = true
    · have e1 : z_cur w (t + 1) = 0 := if_pos e
      rw [e1] at h1
      omega
    · have e1 : z_cur w (t + 1) = z_cur w t + 1 := if_neg e
      rw [e1] at h1
      by_cases ex : x = t
      · subst ex; cases h : w x with
        | false => rfl
        | true => exact absurd h e
      · exact z_cur_idle w t x (by omega) (by omega)
theorem z_cur_edge (w : Nat → Bool) : ∀ t, z_cur w t < t → w (t - z_cur w t - 1) = true
  | 0, h => absurd h (by omega)
  | t + 1, h => by
    by_cases e : w t = true
    · have e1 : z_cur w (t + 1) = 0 := if_pos e
      rw [e1]
      exact e
    · have e1 : z_cur w (t + 1) = z_cur w t + 1 := if_neg e
      rw [e1] at h ⊢
      have := z_cur_edge w t (by omega)
      rwa [show t + 1 - (z_cur w t + 1) - 1 = t - z_cur w t - 1 by omega]
theorem z_st_iff {w : Nat → Bool} {t : Nat} : z_st w t = true ↔ w t = false ∧ (t = 0 ∨ w (t - 1) = true) := by
  unfold z_st
  simp
theorem z_st_cur {w : Nat → Bool} {t : Nat} : z_st w t = true ↔ w t = false ∧ z_cur w t = 0 := by
  rw [z_st_iff]
  constructor
  · rintro ⟨h1, h2⟩
    refine ⟨h1, ?_⟩
    cases t with
    | zero => rfl
    | succ t =>
      have : w t = true := h2.resolve_left (by omega)
      exact if_pos this
  · rintro ⟨h1, h2⟩
    refine ⟨h1, ?_⟩
    cases t with
    | zero => exact Or.inl rfl
    | succ t =>
      right
      have := z_cur_edge w (t + 1) (by omega)
      rwa [h2] at this
theorem z_cnt_le (w : Nat → Bool) : ∀ t, z_cnt w t ≤ t
  | 0 => Nat.le_refl 0
  | t + 1 => by
    have := z_cnt_le w t
    show z_cnt w t + (if z_st w t = true then 1 else 0) ≤ t + 1
    split <;> omega
theorem z_cnt_up (w : Nat → Bool) {a : Nat} : ∀ {b : Nat}, a ≤ b → z_cnt w a ≤ z_cnt w b := by
  intro b h
  induction h with
  | refl => exact Nat.le_refl _
  | @step b _ ih => exact Nat.le_trans ih (Nat.le_add_right _ _)
theorem z_cnt_st {w : Nat → Bool} {t : Nat} (h : z_st w t = true) : z_cnt w (t + 1) = z_cnt w t + 1 := by
  show z_cnt w t + (if z_st w t = true then 1 else 0) = _
  rw [if_pos h]
theorem z_cnt_no {w : Nat → Bool} {t : Nat} (h : z_st w t = false) : z_cnt w (t + 1) = z_cnt w t := by
  show z_cnt w t + (if z_st w t = true then 1 else 0) = _
  rw [h]; rfl
theorem z_cnt_same {w : Nat → Bool} {a : Nat} : ∀ {b : Nat}, a ≤ b → (∀ x, a ≤ x → x < b → z_st w x = false) → z_cnt w b = z_cnt w a := by
  intro b h
  induction h with
  | refl => intro _; rfl
  | @step b h ih =>
    intro hx
    rw [z_cnt_no (hx b h (Nat.lt_succ_self b))]
    exact ih (fun x h1 h2 => hx x h1 (Nat.lt_succ_of_lt h2))
theorem z_cnt_lt {w : Nat → Bool} {a b : Nat} (h : z_st w a = true) (hab : a < b) : z_cnt w a < z_cnt w b := by
  have := z_cnt_up w (a := a + 1) (b := b) hab
  rw [z_cnt_st h] at this
  omega
theorem z_cnt_inj {w : Nat → Bool} {a b : Nat} (ha : z_st w a = true) (hb : z_st w b = true) (h : z_cnt w a = z_cnt w b) : a = b := by
  rcases Nat.lt_trichotomy a b with e | e | e
  · have := z_cnt_lt ha e; omega
  · exact e
  · have := z_cnt_lt hb e; omega
theorem z_cnt_hit {w : Nat → Bool} : ∀ {n i : Nat}, i < z_cnt w n → ∃ s, s < n ∧ z_st w s = true ∧ z_cnt w s = i
  | 0, i, h => absurd h (by show ¬ i < 0; omega)
  | n + 1, i, h => by
    cases e : z_st w n with
    | false =>
      rw [z_cnt_no e] at h
      obtain ⟨s, h1, h2, h3⟩ := z_cnt_hit h
      exact ⟨s, by omega, h2, h3⟩
    | true =>
      rw [z_cnt_st e] at h
      by_cases ei : i = z_cnt w n
      · exact ⟨n, by omega, e, ei.symm⟩
      · obtain ⟨s, h1, h2, h3⟩ := z_cnt_hit (w := w) (n := n) (i := i) (by omega)
        exact ⟨s, by omega, h2, h3⟩
theorem z_run_le (w : Nat → Bool) : ∀ n t, z_run w n t ≤ n
  | 0, _ => Nat.le_refl 0
  | n + 1, t => by
    show (if w t = true then 0 else z_run w n (t + 1) + 1) ≤ n + 1
    split
    · exact Nat.zero_le _
    · have := z_run_le w n (t + 1); omega
theorem z_run_idle (w : Nat → Bool) : ∀ n t x, x < z_run w n t → w (t + x) = false
  | 0, _, x, h => absurd h (by show ¬ x < 0; omega)
  | n + 1, t, x, h => by
    by_cases e : w t = true
    · have e1 : z_run w (n + 1) t = 0 := if_pos e
      rw [e1] at h; omega
    · have e1 : z_run w (n + 1) t = z_run w n (t + 1) + 1 := if_neg e
      rw [e1] at h
      cases x with
      | zero => cases h1 : w t with
        | false => rfl
        | true => exact absurd h1 e
      | succ x =>
        have := z_run_idle w n (t + 1) x (by omega)
        rwa [show t + (x + 1) = t + 1 + x by omega]
theorem z_run_end (w : Nat → Bool) : ∀ n t, z_run w n t < n → w (t + z_run w n t) = true
  | 0, _, h => absurd h (by omega)
  | n + 1, t, h => by
    by_cases e : w t = true
    · have e1 : z_run w (n + 1) t = 0 := if_pos e
      rw [e1]; exact e
    · have e1 : z_run w (n + 1) t = z_run w n (t + 1) + 1 := if_neg e
      rw [e1] at h ⊢
      have := z_run_end w n (t + 1) (by omega)
      rwa [show t + (z_run w n (t + 1) + 1) = t + 1 + z_run w n (t + 1) by omega]
theorem z_run_ge {w : Nat → Bool} {n t k : Nat} (hk : k ≤ n) (h : ∀ x, x < k → w (t + x) = false) : k ≤ z_run w n t := by
  apply Classical.byContradiction
  intro hn
  have := z_run_end w n t (by omega)
  rw [h _ (by omega)] at this
  cases this
theorem z_run_lt {w : Nat → Bool} {n t x : Nat} (h : w (t + x) = true) : z_run w n t ≤ x := by
  apply Classical.byContradiction
  intro hn
  have := z_run_idle w n t x (by omega)
  rw [h] at this
  cases this
theorem z_len_le (w : Nat → Bool) {t : Nat} (ht : t ≤ 64) : t + z_len w t ≤ 64 := by
  have := z_run_le w (64 - t) t
  unfold z_len
  omega
theorem z_len_pos {w : Nat → Bool} {t : Nat} (ht : t < 64) (h : w t = false) : 1 ≤ z_len w t := z_run_ge (by omega) (fun x hx => by rw [show t + x = t by omega]; exact h)
/-- the beginning of the span in which an idle tick is -/
theorem z_from {w : Nat → Bool} {t : Nat} (h : w t = false) : z_st w (t - z_cur w t) = true ∧ t - z_cur w t ≤ t ∧ (t < 64 → t < t - z_cur w t + z_len w (t - z_cur w t)) := by
  have h1 := z_cur_le w t
  have hid : ∀ x, t - z_cur w t ≤ x → x ≤ t → w x = false := by
    intro x a b
    by_cases e : x = t
    · subst e; exact h
    · exact z_cur_idle w t x a (by omega)
  refine ⟨z_st_iff.mpr ⟨hid _ (Nat.le_refl _) (by omega), ?_⟩, by omega, fun ht => ?_⟩
  · by_cases e : z_cur w t < t
    · exact Or.inr (z_cur_edge w t e)
    · exact Or.inl (by omega)
  · have : z_cur w t + 1 ≤ z_len w (t - z_cur w t) := z_run_ge (by omega) (fun x hx => hid _ (by omega) (by omega))
    omega
/-- a span that has the tick t begins where z_from says -/
theorem z_from_uniq {w : Nat → Bool} {t s : Nat} (hs : z_st w s = true) (h1 : s ≤ t) (h2 : t < s + z_len w s) : s = t - z_cur w t ∧ w t = false := by
  have hid : ∀ x, s ≤ x → x ≤ t → w x = false := fun x a b => by
    have := z_run_idle w (64 - s) s (x - s) (by unfold z_len at h2; omega)
    rwa [show s + (x - s) = x by omega] at this
  have hw := hid t h1 (Nat.le_refl t)
  refine ⟨?_, hw⟩
  have hc := z_cur_le w t
  rcases Nat.lt_trichotomy s (t - z_cur w t) with e | e | e
  · have := z_cur_edge w t (by omega)
    rw [hid _ (by omega) (by omega)] at this
    cases this
  · exact e
  · obtain ⟨_, h3⟩ := z_st_iff.mp hs
    have h4 : w (s - 1) = true := h3.resolve_left (by omega)
    rw [z_cur_idle w t (s - 1) (by omega) (by omega)] at h4
    cases h4
/-! ===== Spans of the class ===== -/
def z_F3 (h g : q_H) : Prop := (∀ k, k ≠ 15 → k ≠ 16 → k ≠ 17 → g.1 k = h.1 k) ∧ g.2 = h.2
theorem z_F3.rf (h : q_H) : z_F3 h h := ⟨fun _ _ _ _ => rfl, rfl⟩
theorem z_F3.tr {h g k : q_H} (a : z_F3 h g) (b : z_F3 g k) : z_F3 h k := ⟨fun n x y z => (b.1 n x y z).trans (a.1 n x y z), b.2.trans a.2⟩
theorem z_F3_sI {h g : q_H} {k i j : Nat} {v : Int32} (hk : k = 15 ∨ k = 16 ∨ k = 17) (a : z_F3 h g) : z_F3 h (q_sI g k i j v) := by
  refine ⟨fun n x y z => ?_, a.2⟩
  rw [← a.1 n x y z]
  funext i1 j1
  exact if_neg (by omega)
theorem z_F3.fc {h g : q_H} (a : z_F3 h g) : z_Fc h g := fun k hk => a.1 k (by omega) (by omega) (by omega)
theorem z_F3.C {m : q_S} {h g : q_H} (a : z_F3 h g) (c : z_C m h) : z_C m g := by
  rw [z_C_iff] at c ⊢
  refine ⟨c.1.ints (fun k hk => a.1 k (by omega) (by omega) (by omega)), ?_, ?_⟩
  · rw [a.2]; exact c.2.1
  · rw [a.2]; exact c.2.2
/-- the spans of the row w are laid out -/
def z_Sp (w : Nat → Bool) (g : q_H) : Prop := g.1 15 0 2 = nI (z_cnt w 64) ∧ ∀ s, s < 64 → z_st w s = true → g.1 16 0 (z_cnt w s) = nI s ∧ g.1 17 0 (z_cnt w s) = nI (z_len w s)
theorem q_sI_r {h : q_H} {k i j : Nat} {v : Int32} : (q_sI h k i j v).1 k i j = v := if_pos ⟨rfl, rfl, rfl⟩
theorem q_sI_o {h : q_H} {k i j k1 i1 j1 : Nat} {v : Int32} (hn : ¬ (k1 = k ∧ i1 = i ∧ j1 = j)) : (q_sI h k i j v).1 k1 i1 j1 = h.1 k1 i1 j1 := if_neg hn
theorem s_layOut {w : Nat → Bool} {x : Int64} {h : q_H} {Q : q_H → Prop} (hx : ∀ t, t < 64 → tb x t = w t) (k : ∀ g, z_F3 h g → z_Sp w g → Q g) : wp_X2_layOut x h Q := by
  unfold wp_X2_layOut
  refine pk_loop (σ := Int32 × q_H) (fun n i s => lp_X2_layOut_10 x (fun _ _ g => Q g) n s.1 (nI i) s.2) (fun t s => s.1 = nI (z_cur w t) ∧ z_F3 h s.2 ∧ s.2.1 15 0 2 = nI (z_cnt w t) ∧ ∀ s0, s0 < t → z_st w s0 = true → s.2.1 16 0 (z_cnt w s0) = nI s0 ∧ s.2.1 17 0 (z_cnt w s0) = nI (min (z_len w s0) (t - s0))) 64 0 (0, _) (by omega) ⟨rfl, z_F3_sI (Or.inl rfl) (z_F3.rf h), q_sI_r, fun s0 h0 => by omega⟩ ?_ ?_
  · rintro n ⟨y, g⟩ ⟨h1, h2, h3, h4⟩
    unfold lp_X2_layOut_10
    refine ⟨fun _ => k g h2 ⟨h3, fun s hs hst => ?_⟩, fun z => absurd (show nI 64 ≤ nI 64 from nI_le (by omega) (by omega)) z⟩
    obtain ⟨a, b⟩ := h4 s hs hst
    refine ⟨a, b.trans ?_⟩
    have := z_len_le w (show s ≤ 64 by omega)
    rw [Nat.min_eq_left (by omega)]
  · rintro n t ⟨y, g⟩ ht ⟨h1, h2, h3, h4⟩ ih
    have h1 : y = nI (z_cur w t) := h1
    have h3 : g.1 15 0 2 = nI (z_cnt w t) := h3
    have h2 : z_F3 h g := h2
    have h4 : ∀ s0, s0 < t → z_st w s0 = true → g.1 16 0 (z_cnt w s0) = nI s0 ∧ g.1 17 0 (z_cnt w s0) = nI (min (z_len w s0) (t - s0)) := h4
    have hcl := z_cnt_le w t
    have hcu := z_cur_le w t
    unfold lp_X2_layOut_10
    refine ⟨fun z => absurd z (show ¬ nI 64 ≤ nI t from nle ht (by omega)), fun _ => ?_⟩
    refine s_hasTick ht ?_
    rw [hx t ht, nI_1 t]
    refine ⟨fun z => ?_, fun z => ?_⟩
    · have hw : w t = false := by
        cases e : w t with
        | false => rfl
        | true => rw [e] at z; exact absurd z (by decide)
      have hcur : z_cur w (t + 1) = z_cur w t + 1 := if_neg (by rw [hw]; decide)
      dsimp only
      rw [h1, h3, nI_1 (z_cur w t), nI_1 (z_cnt w t)]
      refine ⟨fun z1 => ⟨vin (by omega) (by omega), fun z2 => ?_, fun _ => ?_⟩, fun z1 => ⟨fun z2 => ?_, fun _ => ?_⟩⟩
      · exact absurd z2 (show ¬ nI (z_cur w t + 1) ≤ nI 0 from nle (by omega) (by omega))
      · -- a span begins
        have hc0 : z_cur w t = 0 := by
          have := (nI_eq (a := z_cur w t + 1) (b := 1) (by omega) (by omega)).mp z1
          omega
        have hst : z_st w t = true := z_st_cur.mpr ⟨hw, hc0⟩
        rw [nI_pred, cl (by omega)]
        refine ⟨vin (by omega) (by omega), ?_⟩
        refine ih (_, _) ⟨by show nI _ = nI _; rw [hcur], z_F3_sI (by omega) (z_F3_sI (by omega) (z_F3_sI (by omega) h2)), ?_, fun s0 hs0 hst0 => ?_⟩
        · show (q_sI (q_sI (q_sI g 16 0 _ _) 15 0 2 _) 17 0 _ _).1 15 0 2 = _
          rw [q_sI_o (by omega), q_sI_r, z_cnt_st hst]
        · show (q_sI (q_sI (q_sI g 16 0 _ _) 15 0 2 _) 17 0 _ _).1 16 0 _ = _ ∧ (q_sI (q_sI (q_sI g 16 0 _ _) 15 0 2 _) 17 0 _ _).1 17 0 _ = _
          by_cases e : s0 = t
          · subst e
            have hp := z_len_pos ht hw
            rw [q_sI_o (by omega), q_sI_o (by omega), q_sI_r, q_sI_r]
            refine ⟨rfl, ?_⟩
            rw [hc0, show min (z_len w s0) (s0 + 1 - s0) = 1 by omega]
          · have hlt : s0 < t := by omega
            have hne : z_cnt w s0 < z_cnt w t := z_cnt_lt hst0 hlt
            obtain ⟨a, b⟩ := h4 s0 hlt hst0
            rw [q_sI_o (by omega), q_sI_o (by omega), q_sI_o (by omega), q_sI_o (by omega), q_sI_o (by omega), q_sI_o (by omega)]
            refine ⟨a, b.trans ?_⟩
            have hw1 : w (t - 1) = true := by
              have := z_cur_edge w t (by omega)
              rwa [hc0] at this
            have : z_len w s0 ≤ t - 1 - s0 := z_run_lt (by rw [show s0 + (t - 1 - s0) = t - 1 by omega]; exact hw1)
            rw [Nat.min_eq_left (by omega), Nat.min_eq_left (by omega)]
      · exact absurd z2 (show ¬ nI (z_cur w t + 1) ≤ nI 0 from nle (by omega) (by omega))
      · -- a span goes on
        have hc0 : 0 < z_cur w t := by
          rcases Nat.eq_zero_or_pos (z_cur w t) with e | e
          · exact absurd (by rw [e]; rfl) z1
          · exact e
        have hnst : z_st w t = false := by
          cases e : z_st w t with
          | false => rfl
          | true => have := (z_st_cur.mp e).2; omega
        have hs : z_st w (t - z_cur w t) = true := by
          refine z_st_iff.mpr ⟨z_cur_idle w t _ (Nat.le_refl _) (by omega), ?_⟩
          by_cases e : z_cur w t < t
          · exact Or.inr (z_cur_edge w t e)
          · exact Or.inl (by omega)
        have hcs : z_cnt w t = z_cnt w (t - z_cur w t) + 1 := by
          rw [← z_cnt_st hs]
          refine z_cnt_same (by omega) (fun x a b => ?_)
          cases e : z_st w x with
          | false => rfl
          | true =>
            obtain ⟨_, h5⟩ := z_st_iff.mp e
            have h6 : w (x - 1) = true := h5.resolve_left (by omega)
            rw [z_cur_idle w t (x - 1) (by omega) (by omega)] at h6
            cases h6
        have hpr : nI (z_cnt w t) - 1 = nI (z_cnt w (t - z_cur w t)) := by rw [hcs, nI_pred]
        have hcl2 := z_cnt_le w (t - z_cur w t)
        rw [hpr, cl (by omega)]
        refine ⟨vin (by omega) (by omega), ?_⟩
        refine ih (_, _) ⟨by show nI _ = nI _; rw [hcur], z_F3_sI (by omega) h2, ?_, fun s0 hs0 hst0 => ?_⟩
        · show (q_sI g 17 0 _ _).1 15 0 2 = _
          rw [q_sI_o (by omega), h3, z_cnt_no hnst]
        · show (q_sI g 17 0 _ _).1 16 0 _ = _ ∧ (q_sI g 17 0 _ _).1 17 0 _ = _
          have hne : s0 ≠ t := fun q => by rw [q, hnst] at hst0; cases hst0
          obtain ⟨a, b⟩ := h4 s0 (by omega) hst0
          rw [q_sI_o (by omega)]
          refine ⟨a, ?_⟩
          by_cases e : s0 = t - z_cur w t
          · subst e
            rw [q_sI_r]
            have : z_cur w t + 1 ≤ z_len w (t - z_cur w t) := z_run_ge (by omega) (fun x hx => by
              by_cases e : t - z_cur w t + x = t
              · rw [e]; exact hw
              · exact z_cur_idle w t _ (by omega) (by omega))
            rw [Nat.min_eq_right (by omega), show t + 1 - (t - z_cur w t) = z_cur w t + 1 by omega]
          · have hlt : s0 < t - z_cur w t := by
              rcases Nat.lt_trichotomy s0 (t - z_cur w t) with e1 | e1 | e1
              · exact e1
              · exact absurd e1 e
              · obtain ⟨_, h5⟩ := z_st_iff.mp hst0
                have h6 : w (s0 - 1) = true := h5.resolve_left (by omega)
                rw [z_cur_idle w t (s0 - 1) (by omega) (by omega)] at h6
                cases h6
            have hne2 : z_cnt w s0 < z_cnt w (t - z_cur w t) := z_cnt_lt hst0 hlt
            rw [q_sI_o (by omega)]
            refine b.trans ?_
            have hw1 : w (t - z_cur w t - 1) = true := z_cur_edge w t (by omega)
            have : z_len w s0 ≤ t - z_cur w t - 1 - s0 := z_run_lt (by rw [show s0 + (t - z_cur w t - 1 - s0) = t - z_cur w t - 1 by omega]; exact hw1)
            rw [Nat.min_eq_left (by omega), Nat.min_eq_left (by omega)]
    · have hw : w t = true := by
        cases e : w t with
        | true => rfl
        | false => rw [e] at z; exact absurd rfl z
      have hcur : z_cur w (t + 1) = 0 := if_pos hw
      have hnst : z_st w t = false := by
        cases e : z_st w t with
        | false => rfl
        | true => have := (z_st_iff.mp e).1; rw [hw] at this; cases this
      refine ih (_, _) ⟨by show (0 : Int32) = nI _; rw [hcur]; rfl, h2, ?_, fun s0 hs0 hst0 => ?_⟩
      · show g.1 15 0 2 = _
        rw [h3, z_cnt_no hnst]
      · have hne : s0 ≠ t := fun q => by rw [q, hnst] at hst0; cases hst0
        obtain ⟨a, b⟩ := h4 s0 (by omega) hst0
        refine ⟨a, b.trans ?_⟩
        have : z_len w s0 ≤ t - s0 := z_run_lt (by rw [show s0 + (t - s0) = t by omega]; exact hw)
        rw [Nat.min_eq_left (by omega), Nat.min_eq_left (by omega)]
