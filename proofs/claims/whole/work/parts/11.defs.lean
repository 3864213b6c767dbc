/-! ===== the state as numbers, and what the answers are ===== -/
/-- parts; drain, cost, rising, rule by part and place; needs; holds and their rows (program, part, from, to); timers and their rows (program, part, first, last) -/
abbrev q_S : Type := Nat × (Nat → Nat → Nat) × (Nat → Nat → Nat) × (Nat → Nat → Nat) × (Nat → Nat → Nat) × (Nat → Nat → Bool) × Nat × (Nat → Nat → Nat) × Nat × (Nat → Nat → Nat)
def z_np (m : q_S) : Nat := m.1
def z_dr (m : q_S) : Nat → Nat → Nat := m.2.1
def z_co (m : q_S) : Nat → Nat → Nat := m.2.2.1
def z_ri (m : q_S) : Nat → Nat → Nat := m.2.2.2.1
def z_ru (m : q_S) : Nat → Nat → Nat := m.2.2.2.2.1
def z_nd (m : q_S) : Nat → Nat → Bool := m.2.2.2.2.2.1
def z_nh (m : q_S) : Nat := m.2.2.2.2.2.2.1
def z_ho (m : q_S) : Nat → Nat → Nat := m.2.2.2.2.2.2.2.1
def z_nt (m : q_S) : Nat := m.2.2.2.2.2.2.2.2.1
def z_ti (m : q_S) : Nat → Nat → Nat := m.2.2.2.2.2.2.2.2.2
-- wakings: what ends at t, told the first free tick l behind the latest waking
def z_ends (m : q_S) (l t : Nat) : Bool := (List.range (z_nt m)).any (fun i => z_ti m i 3 == t && decide (l ≤ z_ti m i 2))
def z_lat (m : q_S) : Nat → Nat
  | 0 => 0
  | t + 1 => if z_ends m (z_lat m t) t = true then t + 1 else z_lat m t
def z_wk (m : q_S) (t : Nat) : Bool := z_ends m (z_lat m t) t
/-- the least n ≤ k at which f holds, k if there is none below -/
def z_least (f : Nat → Bool) : Nat → Nat → Nat
  | 0, s => s
  | n + 1, s => if f s = true then s else z_least f n (s + 1)
/-- the waking of timer i -/
def z_fi (m : q_S) (i : Nat) : Nat := z_least (z_wk m) 64 (z_ti m i 2)
-- who wants whom
def z_base (m : q_S) (lo : Int32) (g t p : Nat) : Bool :=
  (List.range (z_nh m)).any (fun i => !decide (nI i = lo) && (z_ho m i 0 == g && (z_ho m i 1 == p && (decide (z_ho m i 2 ≤ t) && decide (t < z_ho m i 3))))) ||
  (List.range (z_nt m)).any (fun i => z_ti m i 0 == g && (z_ti m i 1 == p && z_fi m i == t))
def z_clo (nd : Nat → Nat → Bool) : Nat → (Nat → Bool) → Nat → Bool
  | 0, S => S
  | k + 1, S => fun p => z_clo nd k S p || (List.range 6).any (fun q => z_clo nd k S q && nd q p)
def z_W (m : q_S) (lo : Int32) (p g t : Nat) : Bool := z_clo (z_nd m) 6 (z_base m lo g t) p
def z_w (m : q_S) (lo : Int32) (p t : Nat) : Bool := (List.range 8).any (fun g => z_W m lo p g t)
-- idle spans of a row w of ticks
def z_st (w : Nat → Bool) (t : Nat) : Bool := !w t && (t == 0 || w (t - 1))
def z_cnt (w : Nat → Bool) : Nat → Nat
  | 0 => 0
  | t + 1 => z_cnt w t + (if z_st w t = true then 1 else 0)
/-- how many ticks from t on are idle, n at most -/
def z_run (w : Nat → Bool) : Nat → Nat → Nat
  | 0, _ => 0
  | n + 1, t => if w t = true then 0 else z_run w n (t + 1) + 1
def z_len (w : Nat → Bool) (t : Nat) : Nat := z_run w (64 - t) t
/-- idle ticks just ahead of t -/
def z_cur (w : Nat → Bool) : Nat → Nat
  | 0 => 0
  | t + 1 => if w t = true then 0 else z_cur w t + 1
-- no ring
def z_acy (nd : Nat → Nat → Bool) : Prop := ∀ S : Nat → Bool, (∃ p, p < 6 ∧ S p = true) → ∃ p, p < 6 ∧ S p = true ∧ ∀ q, q < 6 → ¬ (nd p q = true ∧ S q = true)
def z_ok (m : q_S) : Prop :=
  (z_np m ≤ 6 ∧ z_nh m ≤ 20 ∧ z_nt m ≤ 12) ∧
  (∀ p s, z_dr m p s ≤ 99) ∧
  (∀ p s, z_co m p s ≤ 999) ∧
  (∀ p s, z_ri m p s ≤ 9) ∧
  (∀ p, z_co m p 0 = 0 ∧ z_ri m p 0 = 0 ∧ z_ri m p 1 ≤ z_ri m p 2 ∧ z_ri m p 2 ≤ z_ri m p 3 ∧ (z_np m ≤ p → z_ru m p 0 = 64)) ∧
  (∀ p, z_ru m p 0 ≤ z_ru m p 1 ∧ z_ru m p 1 ≤ z_ru m p 2 ∧ z_ru m p 2 ≤ 64) ∧
  ((∀ p q, z_nd m p q = true → p < z_np m ∧ q < z_np m) ∧ z_acy (z_nd m)) ∧
  (∀ i, i < z_nh m → z_ho m i 0 < 8 ∧ z_ho m i 1 < z_np m ∧ z_ho m i 2 ≤ z_ho m i 3 ∧ z_ho m i 3 ≤ 64) ∧
  (∀ i, i < z_nt m → z_ti m i 0 < 8 ∧ z_ti m i 1 < z_np m ∧ z_ti m i 2 ≤ z_ti m i 3 ∧ z_ti m i 3 < 64)
/-- the class's half of the heap holds m; its rows of wants are what lo -1 says -/
def z_rows (m : q_S) (lo : Int32) (f : Nat → Int64) : Prop := ∀ p, p < 6 → ∀ g, g < 8 → ∀ t, t < 64 → tb (f (p * 8 + g)) t = z_W m lo p g t
def z_C (m : q_S) (h : q_H) : Prop :=
  h.1 0 0 1 = nI (z_np m) ∧
  (∀ p, p < 6 → ∀ s, s < 4 → h.1 3 p s = nI (z_dr m p s)) ∧
  (∀ p, p < 6 → ∀ s, s < 4 → h.1 4 p s = nI (z_co m p s)) ∧
  (∀ p, p < 6 → ∀ s, s < 4 → h.1 5 p s = nI (z_ri m p s)) ∧
  (∀ p, p < 6 → h.1 6 p 0 = 0 ∧ h.1 6 p 1 = nI (z_ru m p 0) ∧ h.1 6 p 2 = nI (z_ru m p 1) ∧ h.1 6 p 3 = nI (z_ru m p 2) ∧ h.1 6 p 4 = 64) ∧
  (∀ p, p < 6 → ∀ q, q < 32 → bt (h.1 7 0 p) q = (decide (q < 6) && z_nd m p q)) ∧
  (h.1 8 0 4 = nI (z_nh m) ∧ ∀ i, i < z_nh m → h.1 9 0 i = nI (z_ho m i 0) ∧ h.1 10 0 i = nI (z_ho m i 1) ∧ h.1 11 0 i = nI (z_ho m i 2) ∧ h.1 12 0 i = nI (z_ho m i 3)) ∧
  (h.1 8 1 4 = nI (z_nt m) ∧ ∀ i, i < z_nt m → h.1 9 1 i = nI (z_ti m i 0) ∧ h.1 10 1 i = nI (z_ti m i 1) ∧ h.1 11 1 i = nI (z_ti m i 2) ∧ h.1 12 1 i = nI (z_ti m i 3 + 1)) ∧
  (∀ t, t < 64 → tb (h.2 0 0 5) t = z_wk m t) ∧
  z_rows m (-1) (h.2 14 0)
/-- the reference's half -/
def z_M (m : q_S) (h : q_H) : Prop :=
  (h.1 18 0 0 = nI (z_np m) ∧ h.1 18 0 1 = nI (z_nh m) ∧ h.1 18 0 2 = nI (z_nt m) ∧ h.1 18 0 13 = -1) ∧
  (∀ p, p < 6 → ∀ s, s < 4 → h.1 19 0 (4 * p + s) = nI (z_dr m p s)) ∧
  (∀ p, p < 6 → ∀ s, s < 4 → h.1 20 0 (4 * p + s) = nI (z_co m p s)) ∧
  (∀ p, p < 6 → ∀ s, s < 4 → h.1 21 0 (4 * p + s) = nI (z_ri m p s)) ∧
  (∀ p, p < z_np m → ∀ s, s < 3 → h.1 22 0 (3 * p + s) = nI (z_ru m p s)) ∧
  (∀ p, p < 6 → ∀ q, q < 6 → h.1 23 0 (6 * p + q) = if z_nd m p q = true then 1 else 0) ∧
  (∀ i, i < z_nh m → ∀ s, s < 4 → h.1 24 0 (4 * i + s) = nI (z_ho m i s)) ∧
  (∀ i, i < z_nt m → ∀ s, s < 4 → h.1 25 0 (4 * i + s) = nI (z_ti m i s))
/-- what a call of the class leaves of the reference, and the other way round -/
def z_Fc (h g : q_H) : Prop := ∀ k, 18 ≤ k → g.1 k = h.1 k
def z_Fm (h g : q_H) : Prop := (∀ k, k < 18 → g.1 k = h.1 k) ∧ g.2 = h.2
theorem z_Fc.rf (h : q_H) : z_Fc h h := fun _ _ => rfl
theorem z_Fm.rf (h : q_H) : z_Fm h h := ⟨fun _ _ => rfl, rfl⟩
theorem z_Fc.tr {h g k : q_H} (a : z_Fc h g) (b : z_Fc g k) : z_Fc h k := fun n hn => (b n hn).trans (a n hn)
theorem z_Fm.tr {h g k : q_H} (a : z_Fm h g) (b : z_Fm g k) : z_Fm h k := ⟨fun n hn => (b.1 n hn).trans (a.1 n hn), b.2.trans a.2⟩
theorem z_C.keep {m : q_S} {h g : q_H} (a : z_Fm h g) (c : z_C m h) : z_C m g := by
  obtain ⟨a1, a2⟩ := a
  unfold z_C at c ⊢
  rw [a1 0 (by omega), a1 3 (by omega), a1 4 (by omega), a1 5 (by omega), a1 6 (by omega), a1 7 (by omega), a1 8 (by omega), a1 9 (by omega), a1 10 (by omega), a1 11 (by omega), a1 12 (by omega), a2]
  exact c
theorem z_M.keep {m : q_S} {h g : q_H} (a : z_Fc h g) (c : z_M m h) : z_M m g := by
  unfold z_M at c ⊢
  rw [a 18 (by omega), a 19 (by omega), a 20 (by omega), a 21 (by omega), a 22 (by omega), a 23 (by omega), a 24 (by omega), a 25 (by omega)]
  exact c
/-! ===== closure of a set of parts under needs ===== -/
theorem z_any {n : Nat} {f : Nat → Bool} : (List.range n).any f = true ↔ ∃ i, i < n ∧ f i = true := by
  rw [List.any_eq_true]
  constructor
  · rintro ⟨x, h1, h2⟩; exact ⟨x, List.mem_range.mp h1, h2⟩
  · rintro ⟨x, h1, h2⟩; exact ⟨x, List.mem_range.mpr h1, h2⟩
theorem z_any_f {n : Nat} {f : Nat → Bool} : (List.range n).any f = false ↔ ∀ i, i < n → f i = false := by
  constructor
  · intro h i hi
    cases e : f i with
    | false => rfl
    | true => rw [z_any.mpr ⟨i, hi, e⟩] at h; cases h
  · intro h
    cases e : (List.range n).any f with
    | false => rfl
    | true => obtain ⟨i, hi, hf⟩ := z_any.mp e; rw [h i hi] at hf; cases hf
theorem z_beq {a b : Bool} (h : a = true ↔ b = true) : a = b := by
  cases a <;> cases b <;> simp_all
/-- closed: what a member needs is a member -/
def z_closed (nd : Nat → Nat → Bool) (T : Nat → Bool) : Prop := ∀ p q, p < 6 → q < 6 → T p = true → nd p q = true → T q = true
theorem z_clo_up (nd : Nat → Nat → Bool) (S : Nat → Bool) (k p : Nat) (h : z_clo nd k S p = true) : z_clo nd (k + 1) S p = true := by
  show (z_clo nd k S p || _) = true
  rw [h, Bool.true_or]
theorem z_clo_step (nd : Nat → Nat → Bool) (S : Nat → Bool) (k p q : Nat) (hp : p < 6) (h : z_clo nd k S p = true) (hn : nd p q = true) : z_clo nd (k + 1) S q = true := by
  show (z_clo nd k S q || _) = true
  rw [z_any.mpr ⟨p, hp, by rw [h, hn]; rfl⟩, Bool.or_true]
theorem z_clo_sub {nd : Nat → Nat → Bool} {S T : Nat → Bool} (hT : z_closed nd T) (hS : ∀ p, p < 6 → S p = true → T p = true) : ∀ k p, p < 6 → z_clo nd k S p = true → T p = true := by
  intro k
  induction k with
  | zero => exact hS
  | succ k ih =>
    intro p hp h
    have h : (z_clo nd k S p || (List.range 6).any (fun q => z_clo nd k S q && nd q p)) = true := h
    rcases Bool.or_eq_true_iff.mp h with h | h
    · exact ih p hp h
    · obtain ⟨q, hq, hh⟩ := z_any.mp h
      obtain ⟨h1, h2⟩ := Bool.and_eq_true_iff.mp hh
      exact hT q p hq hp (ih q hq h1) h2
def z_num (f : Nat → Bool) : Nat := (if f 0 = true then 1 else 0) + (if f 1 = true then 1 else 0) + (if f 2 = true then 1 else 0) + (if f 3 = true then 1 else 0) + (if f 4 = true then 1 else 0) + (if f 5 = true then 1 else 0)
theorem z_num_full {f : Nat → Bool} (h : 6 ≤ z_num f) : ∀ p, p < 6 → f p = true := by
  intro p hp
  unfold z_num at h
  cases e : f p with
  | true => rfl
  | false =>
    exfalso
    have c : ∀ b : Bool, (if b = true then 1 else 0) ≤ 1 := by intro b; cases b <;> decide
    have c0 := c (f 0); have c1 := c (f 1); have c2 := c (f 2); have c3 := c (f 3); have c4 := c (f 4); have c5 := c (f 5)
    match p, hp, e with
    | 0, _, e => rw [e] at h; simp only [Bool.false_eq_true, if_false] at h; omega
    | 1, _, e => rw [e] at h; simp only [Bool.false_eq_true, if_false] at h; omega
    | 2, _, e => rw [e] at h; simp only [Bool.false_eq_true, if_false] at h; omega
    | 3, _, e => rw [e] at h; simp only [Bool.false_eq_true, if_false] at h; omega
    | 4, _, e => rw [e] at h; simp only [Bool.false_eq_true, if_false] at h; omega
    | 5, _, e => rw [e] at h; simp only [Bool.false_eq_true, if_false] at h; omega
    | n + 6, hp, _ => omega
theorem z_num_lt {f g : Nat → Bool} (hs : ∀ p, p < 6 → f p = true → g p = true) {q : Nat} (hq : q < 6) (h1 : f q = false) (h2 : g q = true) : z_num f + 1 ≤ z_num g := by
  have c : ∀ p, p < 6 → (if f p = true then 1 else 0) ≤ (if g p = true then 1 else 0) := by
    intro p hp
    cases e : f p with
    | false => simp
    | true => rw [hs p hp e]; simp
  unfold z_num
  have c0 := c 0 (by omega); have c1 := c 1 (by omega); have c2 := c 2 (by omega); have c3 := c 3 (by omega); have c4 := c 4 (by omega); have c5 := c 5 (by omega)
  have d : (if f q = true then 1 else 0) + 1 ≤ (if g q = true then 1 else 0) := by rw [h1, h2]; simp
  match q, hq, d with
  | 0, _, d => omega
  | 1, _, d => omega
  | 2, _, d => omega
  | 3, _, d => omega
  | 4, _, d => omega
  | 5, _, d => omega
  | n + 6, hq, _ => omega
theorem z_clo_grow (nd : Nat → Nat → Bool) (S : Nat → Bool) (hne : ∃ p, p < 6 ∧ S p = true) : ∀ k, z_closed nd (z_clo nd k S) ∨ k + 1 ≤ z_num (z_clo nd k S) := by
  intro k
  induction k with
  | zero =>
    right
    obtain ⟨p, hp, h⟩ := hne
    have := z_num_lt (f := fun _ => false) (g := S) (fun _ _ h => by cases h) hp rfl h
    have e : z_num (fun _ => false) = 0 := rfl
    show 1 ≤ z_num S
    omega
  | succ k ih =>
    by_cases hc : z_closed nd (z_clo nd (k + 1) S)
    · exact Or.inl hc
    · right
      have hk : ¬ z_closed nd (z_clo nd k S) := by
        intro h
        apply hc
        intro p q hp hq h1 h2
        have e : z_clo nd k S p = true := by
          have h1 : (z_clo nd k S p || (List.range 6).any (fun q => z_clo nd k S q && nd q p)) = true := h1
          rcases Bool.or_eq_true_iff.mp h1 with h1 | h1
          · exact h1
          · obtain ⟨x, hx, hh⟩ := z_any.mp h1
            obtain ⟨g1, g2⟩ := Bool.and_eq_true_iff.mp hh
            exact h x p hx hp g1 g2
        exact z_clo_up _ _ _ _ (h p q hp hq e h2)
      have h3 : k + 1 ≤ z_num (z_clo nd k S) := ih.resolve_left hk
      have : ∃ p q, p < 6 ∧ q < 6 ∧ z_clo nd k S p = true ∧ nd p q = true ∧ z_clo nd k S q = false := by
        apply Classical.byContradiction
        intro hh
        apply hk
        intro p q hp hq h1 h2
        cases e : z_clo nd k S q with
        | true => rfl
        | false => exact absurd ⟨p, q, hp, hq, h1, h2, e⟩ hh
      obtain ⟨p, q, hp, hq, h1, h2, h4⟩ := this
      have := z_num_lt (f := z_clo nd k S) (g := z_clo nd (k + 1) S) (fun p _ h => z_clo_up _ _ _ _ h) hq h4 (z_clo_step _ _ _ _ _ hp h1 h2)
      omega
theorem z_clo_closed (nd : Nat → Nat → Bool) (S : Nat → Bool) {k : Nat} (hk : 5 ≤ k) : z_closed nd (z_clo nd k S) := by
  by_cases hne : ∃ p, p < 6 ∧ S p = true
  · rcases z_clo_grow nd S hne k with h | h
    · exact h
    · intro p q hp hq _ _
      exact z_num_full (by omega) q hq
  · have : ∀ p, p < 6 → S p = true → (fun _ => false : Nat → Bool) p = true := fun p hp h => absurd ⟨p, hp, h⟩ hne
    have h0 := z_clo_sub (nd := nd) (T := fun _ => false) (fun _ _ _ _ h _ => by cases h) this k
    intro p q hp hq h1 _
    exact absurd (h0 p hp h1) (by decide)
/-- a set that has S, k rounds of steps at least, and stays within what is closed -/
theorem z_clo_eq {nd : Nat → Nat → Bool} {S b : Nat → Bool} {k : Nat} (hk : 5 ≤ k) (hlo : ∀ p, p < 6 → z_clo nd k S p = true → b p = true) (hhi : ∀ T : Nat → Bool, z_closed nd T → (∀ p, p < 6 → S p = true → T p = true) → ∀ p, p < 6 → b p = true → T p = true) : ∀ p, p < 6 → b p = z_clo nd 6 S p := by
  intro p hp
  apply z_beq
  constructor
  · intro h
    refine hhi _ (z_clo_closed nd S (by omega)) (fun q hq hs => ?_) p hp h
    exact z_clo_sub (k := 0) (z_clo_closed nd S (by omega)) (fun q _ h => by
      have : ∀ j, z_clo nd j S q = true := by
        intro j
        induction j with
        | zero => exact h
        | succ j ih => exact z_clo_up _ _ _ _ ih
      exact this 6) q hq hs
  · intro h
    refine hlo p hp (z_clo_sub (z_clo_closed nd S hk) (fun q _ hs => ?_) 6 p hp h)
    have : ∀ j, z_clo nd j S q = true := by
      intro j
      induction j with
      | zero => exact hs
      | succ j ih => exact z_clo_up _ _ _ _ ih
    exact this k
