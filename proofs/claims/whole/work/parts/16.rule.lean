/-! ===== a rule by waiting, as numbers: thresholds a ≤ b ≤ c ===== -/
def z_rs (a b c i : Nat) : Nat := if i < a then 0 else if i < b then 1 else if i < c then 2 else 3
def z_ah (a b c r : Nat) : Nat := if r = 0 then 0 else z_rs a b c (r - 1)
def z_rest (m : q_S) (p a b c len : Nat) (last : Bool) : Nat :=
  if last = true then len
  else if c + z_ri m p 3 < len ∧ c < 64 then len - z_ri m p 3
  else if b + z_ri m p 2 < len ∧ b < c then min (len - z_ri m p 2) c
  else if a + z_ri m p 1 < len ∧ a < b then min (len - z_ri m p 1) b
  else min len a
theorem z_rest_le (m : q_S) (p a b c len : Nat) (last : Bool) : z_rest m p a b c len last ≤ len := by
  unfold z_rest
  repeat' split
  all_goals omega
theorem z_rs_lt (a b c i : Nat) : z_rs a b c i < 4 := by
  unfold z_rs
  repeat' split
  all_goals omega
theorem z_ah_lt (a b c r : Nat) : z_ah a b c r < 4 := by
  unfold z_ah
  split
  · omega
  · exact z_rs_lt _ _ _ _
/-- the rest is the latest place at which it can rise -/
theorem z_rest_ok {m : q_S} (hok : z_ok m) {p a b c len : Nat} (hab : a ≤ b) (hbc : b ≤ c) (hc : c ≤ 64) (hl : len ≤ 64) : z_rest m p a b c len false + z_ri m p (z_ah a b c (z_rest m p a b c len false)) ≤ len ∧ ∀ r, z_rest m p a b c len false < r → r ≤ len → len < r + z_ri m p (z_ah a b c r) := by
  obtain ⟨_, r0, r12, r23, _⟩ := hok.2.2.2.2.1 p
  have hah : ∀ r, (r = 0 ∧ z_ah a b c r = 0) ∨ (0 < r ∧ r - 1 < a ∧ z_ah a b c r = 0) ∨ (0 < r ∧ a ≤ r - 1 ∧ r - 1 < b ∧ z_ah a b c r = 1) ∨ (0 < r ∧ b ≤ r - 1 ∧ r - 1 < c ∧ z_ah a b c r = 2) ∨ (0 < r ∧ c ≤ r - 1 ∧ z_ah a b c r = 3) := by
    intro r
    unfold z_ah z_rs
    by_cases e : r = 0
    · left; exact ⟨e, if_pos e⟩
    · rw [if_neg e]
      repeat' split
      all_goals omega
  have val : ∀ r, (z_ah a b c r = 0 → z_ri m p (z_ah a b c r) = 0) ∧ (z_ah a b c r = 1 → z_ri m p (z_ah a b c r) = z_ri m p 1) ∧ (z_ah a b c r = 2 → z_ri m p (z_ah a b c r) = z_ri m p 2) ∧ (z_ah a b c r = 3 → z_ri m p (z_ah a b c r) = z_ri m p 3) := by
    intro r
    refine ⟨fun e => by rw [e]; exact r0, fun e => by rw [e], fun e => by rw [e], fun e => by rw [e]⟩
  have key : ∀ R, R = z_rest m p a b c len false → R + z_ri m p (z_ah a b c R) ≤ len ∧ ∀ r, R < r → r ≤ len → len < r + z_ri m p (z_ah a b c r) := by
    intro R hR
    have hR2 : R = if c + z_ri m p 3 < len ∧ c < 64 then len - z_ri m p 3 else if b + z_ri m p 2 < len ∧ b < c then min (len - z_ri m p 2) c else if a + z_ri m p 1 < len ∧ a < b then min (len - z_ri m p 1) b else min len a := by
      rw [hR]; unfold z_rest; rw [if_neg (by decide)]
    clear hR
    constructor
    · have h1 := hah R
      obtain ⟨v0, v1, v2, v3⟩ := val R
      generalize z_ri m p (z_ah a b c R) = V at *
      generalize z_ah a b c R = S at *
      repeat' split at hR2
      all_goals omega
    · intro r hr1 hr2
      have h1 := hah r
      obtain ⟨v0, v1, v2, v3⟩ := val r
      generalize z_ri m p (z_ah a b c r) = V at *
      generalize z_ah a b c r = S at *
      repeat' split at hR2
      all_goals omega
  exact key _ rfl
/-- what it drains in a span by the rule -/
def z_rsum (m : q_S) (p a b c r : Nat) : Nat → Nat := z_sum (fun i => z_dr m p (if i < r then z_rs a b c i else 0))
def z_rspan (m : q_S) (p a b c len : Nat) (last : Bool) : Nat := z_rsum m p a b c (z_rest m p a b c len last) len + (if last = true then 0 else z_co m p (z_ah a b c (z_rest m p a b c len last)))
def z_bgn (a b c s : Nat) : Nat := if s = 0 then 0 else if s = 1 then a else if s = 2 then b else if s = 3 then c else 64
def z_cls (m : q_S) (p a b c r : Nat) : Nat → Nat := z_sum (fun s => z_dr m p s * (min (z_bgn a b c (s + 1)) r - min (z_bgn a b c s) r))
theorem z_cls_step {m : q_S} {p a b c r : Nat} (hab : a ≤ b) (hbc : b ≤ c) (hc : c ≤ 64) (hr : r < 64) : z_cls m p a b c (r + 1) 4 = z_cls m p a b c r 4 + z_dr m p (z_rs a b c r) := by
  have e : ∀ r, z_cls m p a b c r 4 = z_dr m p 0 * (min a r - 0) + z_dr m p 1 * (min b r - min a r) + z_dr m p 2 * (min c r - min b r) + z_dr m p 3 * (min 64 r - min c r) := by
    intro r
    show 0 + z_dr m p 0 * (min a r - min 0 r) + z_dr m p 1 * (min b r - min a r) + z_dr m p 2 * (min c r - min b r) + z_dr m p 3 * (min 64 r - min c r) = _
    rw [Nat.zero_add, Nat.zero_min]
  rw [e, e]
  unfold z_rs
  by_cases h1 : r < a
  · rw [if_pos h1, show min a (r + 1) = r + 1 by omega, show min b (r + 1) = r + 1 by omega, show min c (r + 1) = r + 1 by omega, show min 64 (r + 1) = r + 1 by omega, show min a r = r by omega, show min b r = r by omega, show min c r = r by omega, show min 64 r = r by omega]
    simp only [Nat.sub_self, Nat.mul_zero, Nat.sub_zero, Nat.add_zero, Nat.mul_succ]
  · rw [if_neg h1]
    by_cases h2 : r < b
    · rw [if_pos h2, show min a (r + 1) = a by omega, show min b (r + 1) = r + 1 by omega, show min c (r + 1) = r + 1 by omega, show min 64 (r + 1) = r + 1 by omega, show min a r = a by omega, show min b r = r by omega, show min c r = r by omega, show min 64 r = r by omega, show r + 1 - a = (r - a) + 1 by omega]
      simp only [Nat.sub_self, Nat.mul_zero, Nat.sub_zero, Nat.add_zero, Nat.mul_succ]
      omega
    · rw [if_neg h2]
      by_cases h3 : r < c
      · rw [if_pos h3, show min a (r + 1) = a by omega, show min b (r + 1) = b by omega, show min c (r + 1) = r + 1 by omega, show min 64 (r + 1) = r + 1 by omega, show min a r = a by omega, show min b r = b by omega, show min c r = r by omega, show min 64 r = r by omega, show r + 1 - b = (r - b) + 1 by omega]
        simp only [Nat.sub_self, Nat.mul_zero, Nat.sub_zero, Nat.add_zero, Nat.mul_succ]
        omega
      · rw [if_neg h3, show min a (r + 1) = a by omega, show min b (r + 1) = b by omega, show min c (r + 1) = c by omega, show min 64 (r + 1) = r + 1 by omega, show min a r = a by omega, show min b r = b by omega, show min c r = c by omega, show min 64 r = r by omega, show r + 1 - c = (r - c) + 1 by omega]
        simp only [Nat.sub_zero, Nat.mul_succ]
        omega
theorem z_cls_eq {m : q_S} {p a b c : Nat} (hab : a ≤ b) (hbc : b ≤ c) (hc : c ≤ 64) : ∀ r, r ≤ 64 → z_cls m p a b c r 4 = z_sum (fun i => z_dr m p (z_rs a b c i)) r
  | 0, _ => by
    show 0 + z_dr m p 0 * (min a 0 - min 0 0) + z_dr m p 1 * (min b 0 - min a 0) + z_dr m p 2 * (min c 0 - min b 0) + z_dr m p 3 * (min 64 0 - min c 0) = 0
    simp only [Nat.min_zero, Nat.sub_self, Nat.mul_zero, Nat.add_zero]
  | r + 1, h => by
    rw [z_cls_step hab hbc hc (by omega), z_cls_eq hab hbc hc r (by omega)]
    rfl
theorem z_sum_congr {f g : Nat → Nat} : ∀ n, (∀ i, i < n → f i = g i) → z_sum f n = z_sum g n
  | 0, _ => rfl
  | n + 1, h => by
    show z_sum f n + f n = z_sum g n + g n
    rw [z_sum_congr n (fun i hi => h i (by omega)), h n (by omega)]
theorem z_rsum_split (m : q_S) (p a b c r : Nat) : ∀ len, r ≤ len → z_rsum m p a b c r len = (len - r) * z_dr m p 0 + z_sum (fun i => z_dr m p (z_rs a b c i)) r := by
  intro len h
  induction h with
  | refl =>
    rw [Nat.sub_self, Nat.zero_mul, Nat.zero_add]
    exact z_sum_congr r (fun i hi => by show z_dr m p (if i < r then _ else _) = _; rw [if_pos hi])
  | @step len hle ih =>
    have hle : r ≤ len := hle
    show z_rsum m p a b c r len + z_dr m p (if len < r then z_rs a b c len else 0) = _
    rw [ih, if_neg (by omega), show len + 1 - r = (len - r) + 1 by omega, Nat.succ_mul]
    omega
theorem z_rspan_le {m : q_S} (hok : z_ok m) {p a b c len : Nat} {last : Bool} (hl : len ≤ 64) : z_rspan m p a b c len last ≤ 8226 := by
  obtain ⟨_, hd, hc, _⟩ := hok
  have h1 := z_sum_le (f := fun i => z_dr m p (if i < z_rest m p a b c len last then z_rs a b c i else 0)) (b := 99) (fun i => hd _ _) len
  have h2 := hc p (z_ah a b c (z_rest m p a b c len last))
  unfold z_rspan z_rsum
  split <;> omega
/-! ===== the class's rule ===== -/
theorem s_stateAt {p a b c r : Nat} {h : q_H} {Q : Int32 → q_H → Prop} (hT : z_T p a b c h) (hab : a ≤ b) (hbc : b ≤ c) (hc : c ≤ 64) (hr : r ≤ 64) (k : Q (nI (z_ah a b c r)) h) : wp_X1_stateByRule p (nI r - 1) h Q := by
  obtain ⟨t0, t1, t2, t3, t4⟩ := hT
  have cmp : ∀ x, x ≤ 64 → ((nI r - 1 < nI x) ↔ r ≤ x) := by
    intro x hx
    have e : (nI r - 1).toInt = (r : Int) - 1 := pk_sub_toInt (a := r) (b := 1) (by omega) (by omega)
    rw [Int32.lt_iff_toInt_lt, e, nI_toInt (by omega)]
    omega
  unfold wp_X1_stateByRule
  refine ⟨4, ?_⟩
  have hz : (if r ≤ a then 0 else if r ≤ b then 1 else if r ≤ c then 2 else 3) = z_ah a b c r := by
    unfold z_ah z_rs
    repeat' split
    all_goals omega
  rw [← hz] at k
  unfold lp_X1_stateByRule_2
  refine ⟨fun z => absurd z (by decide), fun _ => ⟨q_vp (by decide), ?_⟩⟩
  rw [show Int32.toNatClampNeg 3 = 3 by decide, t3]
  refine ⟨fun z3 => ?_, fun z3 => ?_⟩
  · have h3 := (cmp c hc).mp z3
    rw [show (3 : Int32) + (-1) = 2 by decide]
    unfold lp_X1_stateByRule_2
    refine ⟨fun z => absurd z (by decide), fun _ => ⟨q_vp (by decide), ?_⟩⟩
    rw [show Int32.toNatClampNeg 2 = 2 by decide, t2]
    refine ⟨fun z2 => ?_, fun z2 => ?_⟩
    · have h2 := (cmp b (by omega)).mp z2
      rw [show (2 : Int32) + (-1) = 1 by decide]
      unfold lp_X1_stateByRule_2
      refine ⟨fun z => absurd z (by decide), fun _ => ⟨q_vp (by decide), ?_⟩⟩
      rw [show Int32.toNatClampNeg 1 = 1 by decide, t1]
      refine ⟨fun z1 => ?_, fun z1 => ?_⟩
      · have h1 := (cmp a (by omega)).mp z1
        rw [show (1 : Int32) + (-1) = 0 by decide]
        unfold lp_X1_stateByRule_2
        refine ⟨fun _ => ?_, fun z => absurd (by decide) z⟩
        rw [if_pos h1] at k
        exact k
      · have h1 : ¬ r ≤ a := fun q => z1 ((cmp a (by omega)).mpr q)
        rw [if_neg h1, if_pos h2] at k
        exact k
    · have h2 : ¬ r ≤ b := fun q => z2 ((cmp b (by omega)).mpr q)
      rw [if_neg (by omega), if_neg h2, if_pos h3] at k
      exact k
  · have h3 : ¬ r ≤ c := fun q => z3 ((cmp c hc).mpr q)
    rw [if_neg (by omega), if_neg (by omega), if_neg h3] at k
    exact k
theorem s_restBy {m : q_S} {p a b c len : Nat} {last : Bool} {h : q_H} {Q : Int32 → q_H → Prop} (hok : z_ok m) (hP : z_P m p h) (hT : z_T p a b c h) (hab : a ≤ b) (hbc : b ≤ c) (hc : c ≤ 64) (hl : len ≤ 64) (k : Q (nI (z_rest m p a b c len last)) h) : wp_X1_restByRule p (nI len) (bI last) h Q := by
  obtain ⟨t0, t1, t2, t3, t4⟩ := hT
  have hr := hok.2.2.2.1 p
  have hr1 := hr 1; have hr2 := hr 2; have hr3 := hr 3
  have le : ∀ x y, x ≤ 64 → y ≤ 9 → ((nI len - nI y ≤ nI x) ↔ ¬ x + y < len) := by
    intro x y hx hy
    have e : (nI len - nI y).toInt = (len : Int) - y := pk_sub_toInt (a := len) (b := y) (by omega) (by omega)
    rw [Int32.le_iff_toInt_le, e, nI_toInt (by omega)]
    omega
  have ge : ∀ x y, x ≤ 64 → y ≤ 9 → ((nI x ≤ nI len - nI y) ↔ x + y ≤ len) := by
    intro x y hx hy
    have e : (nI len - nI y).toInt = (len : Int) - y := pk_sub_toInt (a := len) (b := y) (by omega) (by omega)
    rw [Int32.le_iff_toInt_le, e, nI_toInt (by omega)]
    omega
  unfold wp_X1_restByRule
  cases last with
  | true => exact ⟨fun z => absurd z (by decide), fun _ => k⟩
  | false =>
    refine ⟨fun _ => ⟨4, ?_⟩, fun z => absurd rfl z⟩
    unfold z_rest at k
    rw [if_neg (by decide)] at k
    unfold lp_X1_restByRule_8
    refine ⟨fun z => absurd z (by decide), fun _ => ⟨q_vp (by decide), q_vp (by decide), ?_⟩⟩
    rw [show Int32.toNatClampNeg 3 = 3 by decide, show (3 : Int32) + 1 = 4 by decide, show Int32.toNatClampNeg 4 = 4 by decide, t3, t4, (hP 3 (by omega)).2.2]
    have next2 : ¬ (c + z_ri m p 3 < len ∧ c < 64) → lp_X1_restByRule_8 p (nI len) Q (fun _ g7 => (g7.1 6 p 1 ≤ nI len → Q (g7.1 6 p 1) g7) ∧ (¬ g7.1 6 p 1 ≤ nI len → Q (nI len) g7)) 3 (3 + -1) h := by
      intro n1
      rw [if_neg n1] at k
      rw [show (3 : Int32) + (-1) = 2 by decide]
      unfold lp_X1_restByRule_8
      refine ⟨fun z => absurd z (by decide), fun _ => ⟨q_vp (by decide), q_vp (by decide), ?_⟩⟩
      rw [show Int32.toNatClampNeg 2 = 2 by decide, show (2 : Int32) + 1 = 3 by decide, show Int32.toNatClampNeg 3 = 3 by decide, t2, t3, (hP 2 (by omega)).2.2]
      have next1 : ¬ (b + z_ri m p 2 < len ∧ b < c) → lp_X1_restByRule_8 p (nI len) Q (fun _ g7 => (g7.1 6 p 1 ≤ nI len → Q (g7.1 6 p 1) g7) ∧ (¬ g7.1 6 p 1 ≤ nI len → Q (nI len) g7)) 2 (2 + -1) h := by
        intro n2
        rw [if_neg n2] at k
        rw [show (2 : Int32) + (-1) = 1 by decide]
        unfold lp_X1_restByRule_8
        refine ⟨fun z => absurd z (by decide), fun _ => ⟨q_vp (by decide), q_vp (by decide), ?_⟩⟩
        rw [show Int32.toNatClampNeg 1 = 1 by decide, show (1 : Int32) + 1 = 2 by decide, show Int32.toNatClampNeg 2 = 2 by decide, t1, t2, (hP 1 (by omega)).2.2]
        have next0 : ¬ (a + z_ri m p 1 < len ∧ a < b) → lp_X1_restByRule_8 p (nI len) Q (fun _ g7 => (g7.1 6 p 1 ≤ nI len → Q (g7.1 6 p 1) g7) ∧ (¬ g7.1 6 p 1 ≤ nI len → Q (nI len) g7)) 1 (1 + -1) h := by
          intro n3
          rw [if_neg n3] at k
          rw [show (1 : Int32) + (-1) = 0 by decide]
          unfold lp_X1_restByRule_8
          refine ⟨fun _ => ?_, fun z => absurd (by decide) z⟩
          rw [t1]
          refine ⟨fun z => ?_, fun z => ?_⟩
          · have := (nI_leI (a := a) (b := len) (by omega) (by omega)).mp z
            rw [Nat.min_eq_right this] at k
            exact k
          · have : ¬ a ≤ len := fun q => z (nI_le q (by omega))
            rw [Nat.min_eq_left (by omega)] at k
            exact k
        refine ⟨fun z => next0 (fun q => (le a _ (by omega) hr1).mp z q.1), fun z => ⟨q_vp (by decide), q_vp (by decide), fun z1 => next0 (fun q => ?_), fun z1 => ⟨q_vp (by decide), fun z2 => ⟨q_vp (by decide), ?_⟩, fun z2 => ?_⟩⟩⟩
        · have := (nI_leI (a := b) (b := a) (by omega) (by omega)).mp z1
          omega
        · have h1 : a + z_ri m p 1 < len := Classical.byContradiction (fun q => z ((le a _ (by omega) hr1).mpr q))
          have h2 : ¬ b ≤ a := fun q => z1 (nI_le q (by omega))
          have h3 := (ge b _ (by omega) hr1).mp z2
          rw [if_pos ⟨h1, by omega⟩, Nat.min_eq_right (by omega)] at k
          exact k
        · have h1 : a + z_ri m p 1 < len := Classical.byContradiction (fun q => z ((le a _ (by omega) hr1).mpr q))
          have h2 : ¬ b ≤ a := fun q => z1 (nI_le q (by omega))
          have h3 : ¬ b + z_ri m p 1 ≤ len := fun q => z2 ((ge b _ (by omega) hr1).mpr q)
          rw [if_pos ⟨h1, by omega⟩, Nat.min_eq_left (by omega), ← pk_sub (by omega)] at k
          exact k
      refine ⟨fun z => next1 (fun q => (le b _ (by omega) hr2).mp z q.1), fun z => ⟨q_vp (by decide), q_vp (by decide), fun z1 => next1 (fun q => ?_), fun z1 => ⟨q_vp (by decide), fun z2 => ⟨q_vp (by decide), ?_⟩, fun z2 => ?_⟩⟩⟩
      · have := (nI_leI (a := c) (b := b) (by omega) (by omega)).mp z1
        omega
      · have h1 : b + z_ri m p 2 < len := Classical.byContradiction (fun q => z ((le b _ (by omega) hr2).mpr q))
        have h2 : ¬ c ≤ b := fun q => z1 (nI_le q (by omega))
        have h3 := (ge c _ (by omega) hr2).mp z2
        rw [if_pos ⟨h1, by omega⟩, Nat.min_eq_right (by omega)] at k
        exact k
      · have h1 : b + z_ri m p 2 < len := Classical.byContradiction (fun q => z ((le b _ (by omega) hr2).mpr q))
        have h2 : ¬ c ≤ b := fun q => z1 (nI_le q (by omega))
        have h3 : ¬ c + z_ri m p 2 ≤ len := fun q => z2 ((ge c _ (by omega) hr2).mpr q)
        rw [if_pos ⟨h1, by omega⟩, Nat.min_eq_left (by omega), ← pk_sub (by omega)] at k
        exact k
    refine ⟨fun z => next2 (fun q => (le c _ (by omega) hr3).mp z q.1), fun z => ⟨q_vp (by decide), q_vp (by decide), fun z1 => next2 (fun q => ?_), fun z1 => ⟨q_vp (by decide), fun z2 => ⟨q_vp (by decide), ?_⟩, fun z2 => ?_⟩⟩⟩
    · have := (nI_leI (a := 64) (b := c) (by omega) (by omega)).mp z1
      omega
    · have h1 : c + z_ri m p 3 < len := Classical.byContradiction (fun q => z ((le c _ (by omega) hr3).mpr q))
      have h2 : ¬ 64 ≤ c := fun q => z1 (nI_le q (by omega))
      have h3 := (ge 64 _ (by omega) hr3).mp z2
      rw [if_pos ⟨h1, by omega⟩, show len - z_ri m p 3 = 64 by omega] at k
      exact k
    · have h1 : c + z_ri m p 3 < len := Classical.byContradiction (fun q => z ((le c _ (by omega) hr3).mpr q))
      have h2 : ¬ 64 ≤ c := fun q => z1 (nI_le q (by omega))
      rw [if_pos ⟨h1, by omega⟩, ← pk_sub (by omega)] at k
      exact k
theorem nI_min (x y : Nat) (hx : x < 2 ^ 31) (hy : y < 2 ^ 31) : (if nI y < nI x then nI y else nI x) = nI (min x y) := by
  by_cases e : y < x
  · rw [if_pos (nI_lt e hx), Nat.min_eq_right (by omega)]
  · rw [if_neg (fun q => e ((nI_ltI hy hx).mp q)), Nat.min_eq_left (by omega)]
theorem z_T.at {p a b c : Nat} {h : q_H} (hT : z_T p a b c h) {s : Nat} (hs : s < 5) : h.1 6 p s = nI (z_bgn a b c s) := by
  obtain ⟨t0, t1, t2, t3, t4⟩ := hT
  match s, hs with
  | 0, _ => exact t0
  | 1, _ => exact t1
  | 2, _ => exact t2
  | 3, _ => exact t3
  | 4, _ => exact t4
  | n + 5, h => omega
theorem s_spanBy {m : q_S} {p a b c len : Nat} {last : Bool} {h : q_H} {Q : Int32 → q_H → Prop} (hok : z_ok m) (hP : z_P m p h) (hT : z_T p a b c h) (hab : a ≤ b) (hbc : b ≤ c) (hc : c ≤ 64) (hl : len ≤ 64) (k : Q (nI (z_rspan m p a b c len last)) h) : wp_X1_spanByRule p (nI len) (bI last) h Q := by
  unfold wp_X1_spanByRule
  refine s_restBy hok hP hT hab hbc hc hl ?_
  have hrl := z_rest_le m p a b c len last
  have hspan : z_rspan m p a b c len last = (len - z_rest m p a b c len last) * z_dr m p 0 + z_cls m p a b c (z_rest m p a b c len last) 4 + (if last = true then 0 else z_co m p (z_ah a b c (z_rest m p a b c len last))) := by
    unfold z_rspan
    rw [z_rsum_split _ _ _ _ _ _ _ hrl, z_cls_eq hab hbc hc _ (by omega)]
  rw [hspan] at k
  generalize z_rest m p a b c len last = r at hrl k ⊢
  rw [(hP 0 (by omega)).1, pk_sub hrl, pk_mul]
  have hbg : ∀ s, z_bgn a b c s ≤ 64 := by
    intro s; unfold z_bgn; repeat' split
    all_goals omega
  have hbm : ∀ s, s < 4 → z_bgn a b c s ≤ z_bgn a b c (s + 1) := by
    intro s hs
    match s, hs with
    | 0, _ => exact Nat.zero_le _
    | 1, _ => exact hab
    | 2, _ => exact hbc
    | 3, _ => exact hc
    | n + 4, h => omega
  refine pk_loop (σ := Int32 × q_H) (fun n i s => lp_X1_spanByRule_22 p (bI last) (nI r) _ n s.1 (nI i) s.2) (fun i s => s.2 = h ∧ s.1 = nI ((len - r) * z_dr m p 0 + z_cls m p a b c r i)) 4 0 (_, h) (by omega) ⟨rfl, rfl⟩ ?_ ?_
  · rintro n ⟨x, g⟩ ⟨e, hx⟩
    have e : g = h := e
    subst e
    have hx : x = _ := hx
    subst hx
    unfold lp_X1_spanByRule_22
    refine ⟨fun _ => ⟨fun z => ?_, fun z => ?_⟩, fun z => absurd (show nI 4 ≤ nI 4 from nI_le (by omega) (by omega)) z⟩
    · have hlf := bI_0.mp z
      subst hlf
      refine s_stateAt hT hab hbc hc (by omega) ?_
      have ha := z_ah_lt a b c r
      refine ⟨vin ha (by omega), ?_⟩
      rw [cl (by omega), (hP _ ha).2.1, nI_add]
      exact k
    · have hlt : last = true := by
        cases e : last with
        | true => rfl
        | false => rw [e] at z; exact absurd rfl z
      subst hlt
      exact k
  · rintro n i ⟨x, g⟩ hi ⟨e, hx⟩ ih
    have e : g = h := e
    subst e
    have hx : x = _ := hx
    subst hx
    unfold lp_X1_spanByRule_22
    refine ⟨fun z => absurd z (show ¬ nI 4 ≤ nI i from nle hi (by omega)), fun _ => ?_⟩
    rw [nI_1 i, cl (by omega), cl (by omega), (hP i hi).1, hT.at (s := i + 1) (by omega), hT.at (s := i) (by omega)]
    refine ⟨vin hi (by omega), vin (by omega) (by omega), vin (by omega) (by omega), ?_⟩
    have h1 := hbg i; have h2 := hbg (i + 1); have h3 := hbm i hi
    rw [nI_min _ _ (by omega) (by omega), nI_min _ _ (by omega) (by omega), pk_sub (by omega), pk_mul, nI_add]
    refine ih (_, _) ⟨rfl, ?_⟩
    show nI _ = nI _
    congr 1
    show _ = (len - r) * z_dr m p 0 + (z_cls m p a b c r i + z_dr m p i * (min (z_bgn a b c (i + 1)) r - min (z_bgn a b c i) r))
    omega
def z_R (m : q_S) (p a b c : Nat) (w : Nat → Bool) (s : Nat) : Nat := z_rspan m p a b c (z_len w s) (z_lst w s)
theorem z_R_le {m : q_S} (hok : z_ok m) (p a b c : Nat) (w : Nat → Bool) : ∀ s, s < 64 → z_R m p a b c w s ≤ 8226 := fun s hs => z_rspan_le hok (by have := z_len_le w (show s ≤ 64 by omega); omega)
theorem s_sumBy {m : q_S} {p a b c : Nat} {w : Nat → Bool} {h : q_H} {Q : Int32 → q_H → Prop} (hok : z_ok m) (hP : z_P m p h) (hT : z_T p a b c h) (hab : a ≤ b) (hbc : b ≤ c) (hc : c ≤ 64) (hS : z_Sp w h) (k : Q (nI (z_sum (z_ss w (z_R m p a b c w)) 64)) h) : wp_X1_sumByRule p h Q := by
  have hc64 := z_cnt_le w 64
  unfold wp_X1_sumByRule
  refine pk_loop (σ := Int32 × q_H) (fun n i s => lp_X1_sumByRule_4 p (fun x _ g => Q x g) n s.1 (nI i) s.2) (fun i s => s.2 = h ∧ ∀ n, n ≤ 64 → z_cnt w n = i → s.1 = nI (z_sum (z_ss w (z_R m p a b c w)) n)) (z_cnt w 64) 0 (0, h) (by omega) ⟨rfl, fun n _ hn => ?_⟩ ?_ ?_
  · show (0 : Int32) = _
    rw [z_ss_eq (a := n) (b := 0) hn]; rfl
  · rintro n ⟨x, g⟩ ⟨e, hx⟩
    have e : g = h := e
    subst e
    have hx : x = _ := hx 64 (Nat.le_refl _) rfl
    unfold lp_X1_sumByRule_4
    refine s_size ?_
    rw [hS.1]
    refine ⟨fun _ => by rw [hx]; exact k, fun z => absurd (nI_le (Nat.le_refl _) (by omega)) z⟩
  · rintro n i ⟨x, g⟩ hi ⟨e, hx⟩ ih
    have e : g = h := e
    subst e
    obtain ⟨s, hs, hst, hcs⟩ := z_cnt_hit hi
    subst hcs
    have hx : x = nI (z_sum (z_ss w (z_R m p a b c w)) s) := hx s (by omega) rfl
    subst hx
    have hl := z_len_le w (show s ≤ 64 by omega)
    unfold lp_X1_sumByRule_4
    refine s_size ?_
    rw [hS.1]
    refine ⟨fun z => absurd z (nle hi (by omega)), fun _ => ?_⟩
    refine s_lenOf hS hs hst ?_
    refine s_endsAll hS hs hst ?_
    refine s_spanBy hok hP hT hab hbc hc (by omega) ?_
    rw [nI_1, nI_add]
    refine ih (_, _) ⟨rfl, fun n2 hn2 hc2 => ?_⟩
    show nI _ = nI _
    rw [z_ss_eq (a := n2) (b := s + 1) (by rw [hc2, z_cnt_st hst]), z_ss_st hst]
    rfl
