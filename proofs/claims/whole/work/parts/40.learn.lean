/-! ===== learn: the best thresholds, as numbers ===== -/
/-- what the spans of the row w drain by thresholds a, b, c -/
def z_ST (m : q_S) (p : Nat) (w : Nat → Bool) (a b c : Nat) : Nat := z_sum (z_ss w (z_R m p a b c w)) 64
def z_key (S a b c : Nat) : Nat := S * 274625 + a * 4225 + b * 65 + c
def z_opt (m : q_S) (p : Nat) (w : Nat → Bool) (a b c : Nat) : Prop := a ≤ b ∧ b ≤ c ∧ c ≤ 64 ∧ ∀ x y z, x ≤ y → y ≤ z → z ≤ 64 → z_key (z_ST m p w a b c) a b c ≤ z_key (z_ST m p w x y z) x y z
theorem z_opt_uniq {m : q_S} {p : Nat} {w : Nat → Bool} {a b c a' b' c' : Nat} (h : z_opt m p w a b c) (h' : z_opt m p w a' b' c') : a = a' ∧ b = b' ∧ c = c' := by
  obtain ⟨h1, h2, h3, h4⟩ := h
  obtain ⟨g1, g2, g3, g4⟩ := h'
  have k1 := h4 a' b' c' g1 g2 g3
  have k2 := g4 a b c h1 h2 h3
  unfold z_key at k1 k2
  generalize z_ST m p w a b c = S at *
  generalize z_ST m p w a' b' c' = S' at *
  have e1 : S = S' := by omega
  have e2 : a = a' := by omega
  have e3 : b = b' := by omega
  exact ⟨e2, e3, by omega⟩
theorem z_ST_le {m : q_S} (hok : z_ok m) (p : Nat) (w : Nat → Bool) (a b c : Nat) : z_ST m p w a b c ≤ 526464 := z_ss_le (w := w) (z_R_le hok p a b c w) 64 (Nat.le_refl _)
theorem z_ah_of {a b c a' b' c' r : Nat} (h : 0 < r → z_rs a b c (r - 1) = z_rs a' b' c' (r - 1)) : z_ah a b c r = z_ah a' b' c' r := by
  unfold z_ah
  by_cases e : r = 0
  · rw [if_pos e, if_pos e]
  · rw [if_neg e, if_neg e, h (by omega)]
/-- R is the latest place at which it can rise -/
def z_late (m : q_S) (p a b c len R : Nat) : Prop := R + z_ri m p (z_ah a b c R) ≤ len ∧ ∀ r, R < r → r ≤ len → len < r + z_ri m p (z_ah a b c r)
theorem z_late_eq {m : q_S} {p a b c a' b' c' len R R' : Nat} (h : z_late m p a b c len R) (h' : z_late m p a' b' c' len R') (e : z_ah a b c R = z_ah a' b' c' R) (e' : z_ah a b c R' = z_ah a' b' c' R') : R = R' := by
  obtain ⟨h1, h2⟩ := h
  obtain ⟨g1, g2⟩ := h'
  rcases Nat.lt_trichotomy R R' with q | q | q
  · have := h2 R' q (by omega)
    rw [e'] at this
    omega
  · exact q
  · have := g2 R q (by omega)
    rw [← e] at this
    omega
theorem z_rspan_eq {m : q_S} (hok : z_ok m) {p a b c a' b' c' len : Nat} {last : Bool} (hab : a ≤ b) (hbc : b ≤ c) (hc : c ≤ 64) (hab' : a' ≤ b') (hbc' : b' ≤ c') (hc' : c' ≤ 64) (hl : len ≤ 64) (h : ∀ i, i < len → z_rs a b c i = z_rs a' b' c' i) : z_rspan m p a b c len last = z_rspan m p a' b' c' len last := by
  have hah : ∀ r, r ≤ len → z_ah a b c r = z_ah a' b' c' r := fun r hr => z_ah_of (fun h0 => h _ (by omega))
  have hr : z_rest m p a b c len last = z_rest m p a' b' c' len last := by
    cases last with
    | true => rfl
    | false => exact z_late_eq (z_rest_ok hok hab hbc hc hl) (z_rest_ok hok hab' hbc' hc' hl) (hah _ (z_rest_le _ _ _ _ _ _ _)) (hah _ (z_rest_le _ _ _ _ _ _ _))
  have hle := z_rest_le m p a' b' c' len last
  unfold z_rspan
  rw [hr, hah _ hle]
  congr 1
  refine z_sum_congr len (fun i hi => ?_)
  show z_dr m p (if i < _ then _ else 0) = z_dr m p (if i < _ then _ else 0)
  rw [h i hi]
/-- thresholds above the longest span do as its length does -/
theorem z_rs_clamp {a b c L i : Nat} (hi : i < L) : z_rs (min a L) (min b L) (min c L) i = z_rs a b c i := by
  unfold z_rs
  repeat' split
  all_goals omega
def z_cap (w : Nat → Bool) (L : Nat) : Prop := ∀ s, s < 64 → z_st w s = true → z_len w s ≤ L
theorem z_ST_clamp {m : q_S} (hok : z_ok m) {p a b c L : Nat} {w : Nat → Bool} (hL : L ≤ 64) (hcap : z_cap w L) (hab : a ≤ b) (hbc : b ≤ c) (hc : c ≤ 64) : z_ST m p w (min a L) (min b L) (min c L) = z_ST m p w a b c := by
  refine z_sum_congr 64 (fun s hs => ?_)
  show (if z_st w s = true then _ else 0) = (if z_st w s = true then _ else 0)
  by_cases e : z_st w s = true
  · rw [if_pos e, if_pos e]
    have h1 := hcap s hs e
    exact z_rspan_eq hok (by omega) (by omega) (by omega) hab hbc hc (by omega) (fun i hi => z_rs_clamp (by omega))
  · rw [if_neg e, if_neg e]
theorem z_sum4 {f g f' g' : Nat → Nat} : ∀ n, (∀ i, i < n → f i + g i = f' i + g' i) → z_sum f n + z_sum g n = z_sum f' n + z_sum g' n
  | 0, _ => rfl
  | n + 1, h => by
    have h1 := z_sum4 n (fun i hi => h i (by omega))
    have h2 := h n (by omega)
    show z_sum f n + f n + (z_sum g n + g n) = z_sum f' n + f' n + (z_sum g' n + g' n)
    omega
theorem z_rs_lo {a b c c' i : Nat} (h : i < b) : z_rs a b c i = z_rs a b c' i := by
  unfold z_rs
  by_cases e : i < a
  · rw [if_pos e, if_pos e]
  · rw [if_neg e, if_neg e, if_pos h, if_pos h]
theorem z_rs_hi {a b c i : Nat} (hab : a ≤ b) (h : b ≤ i) : z_rs a b c i = z_rs 0 b c i := by
  unfold z_rs
  rw [if_neg (show ¬ i < a by omega), if_neg (show ¬ i < 0 by omega)]
theorem z_rs_2 {a b c : Nat} (hab : a ≤ b) (h : b < c) : z_rs a b c b = 2 := by
  unfold z_rs
  rw [if_neg (by omega), if_neg (by omega), if_pos h]
/-- if SLEEP comes at all, a span gets as far as SLEEP or not by its own threshold alone -/
theorem z_R_short {m : q_S} (hok : z_ok m) {p a b c len R : Nat} (hab : a ≤ b) (hR : z_late m p a b c len R) (h : len ≤ b + z_ri m p 2) : R ≤ b := by
  apply Classical.byContradiction
  intro hn
  obtain ⟨_, r0, r12, r23, _⟩ := hok.2.2.2.2.1 p
  obtain ⟨h1, _⟩ := hR
  have e : z_ah a b c R = 2 ∨ z_ah a b c R = 3 := by
    unfold z_ah z_rs
    rw [if_neg (show ¬ R = 0 by omega), if_neg (show ¬ R - 1 < a by omega), if_neg (show ¬ R - 1 < b by omega)]
    split
    · exact Or.inl rfl
    · exact Or.inr rfl
  rcases e with e | e <;> rw [e] at h1 <;> omega
theorem z_R_long {m : q_S} {p a b c len R : Nat} (hab : a ≤ b) (hbc : b < c) (hR : z_late m p a b c len R) (h : b + z_ri m p 2 < len) : b + 1 ≤ R := by
  apply Classical.byContradiction
  intro hn
  have h2 := hR.2 (b + 1) (by omega) (by omega)
  have e : z_ah a b c (b + 1) = 2 := by
    unfold z_ah
    rw [if_neg (by omega)]
    exact z_rs_2 hab hbc
  rw [e] at h2
  omega
theorem z_rspan_cross {m : q_S} (hok : z_ok m) {p a b c c' len : Nat} {last : Bool} (hab : a ≤ b) (hbc : b < c) (hc : c ≤ 64) (hbc' : b < c') (hc' : c' ≤ 64) (hl : len ≤ 64) : z_rspan m p a b c len last + z_rspan m p 0 b c' len last = z_rspan m p a b c' len last + z_rspan m p 0 b c len last := by
  -- the sums, told the rests
  have sums : ∀ R R', (∀ i, i < b → i < len → (i < R ↔ i < R')) → z_rsum m p a b c R len + z_rsum m p 0 b c' R' len = z_rsum m p a b c' R' len + z_rsum m p 0 b c R len := by
    intro R R' hRR
    refine z_sum4 len (fun i hi => ?_)
    show z_dr m p (if i < R then z_rs a b c i else 0) + z_dr m p (if i < R' then z_rs 0 b c' i else 0) = z_dr m p (if i < R' then z_rs a b c' i else 0) + z_dr m p (if i < R then z_rs 0 b c i else 0)
    by_cases e : i < b
    · rw [z_rs_lo (a := a) (c' := c) (c := c') e, z_rs_lo (a := 0) (c' := c) (c := c') e]
      by_cases e1 : i < R
      · rw [if_pos e1, if_pos ((hRR i e hi).mp e1), if_pos e1, if_pos ((hRR i e hi).mp e1)]
      · rw [if_neg e1, if_neg (fun q => e1 ((hRR i e hi).mpr q)), if_neg e1, if_neg (fun q => e1 ((hRR i e hi).mpr q))]
    · rw [z_rs_hi (c := c) hab (show b ≤ i by omega), z_rs_hi (c := c') hab (show b ≤ i by omega), Nat.add_comm]
  cases last with
  | true =>
    have := sums len len (fun i _ _ => Iff.rfl)
    unfold z_rspan
    show z_rsum m p a b c len len + 0 + (z_rsum m p 0 b c' len len + 0) = z_rsum m p a b c' len len + 0 + (z_rsum m p 0 b c len len + 0)
    omega
  | false =>
    have o1 : z_late m p a b c len (z_rest m p a b c len false) := z_rest_ok hok hab (by omega) hc hl
    have o2 : z_late m p a b c' len (z_rest m p a b c' len false) := z_rest_ok hok hab (by omega) hc' hl
    have o3 : z_late m p 0 b c len (z_rest m p 0 b c len false) := z_rest_ok hok (by omega) (by omega) hc hl
    have o4 : z_late m p 0 b c' len (z_rest m p 0 b c' len false) := z_rest_ok hok (by omega) (by omega) hc' hl
    unfold z_rspan
    rw [if_neg (by decide), if_neg (by decide), if_neg (by decide), if_neg (by decide)]
    generalize z_rest m p a b c len false = R1 at *
    generalize z_rest m p a b c' len false = R2 at *
    generalize z_rest m p 0 b c len false = R3 at *
    generalize z_rest m p 0 b c' len false = R4 at *
    by_cases hs : b + z_ri m p 2 < len
    · have l1 := z_R_long hab hbc o1 hs
      have l2 := z_R_long hab hbc' o2 hs
      have l3 := z_R_long (Nat.zero_le b) hbc o3 hs
      have l4 := z_R_long (Nat.zero_le b) hbc' o4 hs
      have hi : ∀ c r, b + 1 ≤ r → z_ah a b c r = z_ah 0 b c r := fun c r hr => z_ah_of (fun _ => z_rs_hi hab (by omega))
      have e13 : R1 = R3 := z_late_eq o1 o3 (hi c _ l1) (hi c _ l3)
      have e24 : R2 = R4 := z_late_eq o2 o4 (hi c' _ l2) (hi c' _ l4)
      subst e13; subst e24
      have := sums R1 R2 (fun i h1 _ => ⟨fun _ => by omega, fun _ => by omega⟩)
      rw [hi c _ l1, hi c' _ l2]
      omega
    · have l1 := z_R_short hok hab o1 (by omega)
      have l2 := z_R_short hok hab o2 (by omega)
      have l3 := z_R_short hok (Nat.zero_le b) o3 (by omega)
      have l4 := z_R_short hok (Nat.zero_le b) o4 (by omega)
      have lo : ∀ a r, r ≤ b → z_ah a b c r = z_ah a b c' r := fun a r hr => z_ah_of (fun _ => z_rs_lo (by omega))
      have e12 : R1 = R2 := z_late_eq o1 o2 (lo a _ l1) (lo a _ l2)
      have e34 : R3 = R4 := z_late_eq o3 o4 (lo 0 _ l3) (lo 0 _ l4)
      subst e12; subst e34
      have s1 : z_rsum m p a b c R1 len = z_rsum m p a b c' R1 len := z_sum_congr len (fun i _ => by
        show z_dr m p (if i < R1 then _ else 0) = z_dr m p (if i < R1 then _ else 0)
        by_cases e : i < R1
        · rw [if_pos e, if_pos e, z_rs_lo (by omega)]
        · rw [if_neg e, if_neg e])
      have s2 : z_rsum m p 0 b c R3 len = z_rsum m p 0 b c' R3 len := z_sum_congr len (fun i _ => by
        show z_dr m p (if i < R3 then _ else 0) = z_dr m p (if i < R3 then _ else 0)
        by_cases e : i < R3
        · rw [if_pos e, if_pos e, z_rs_lo (by omega)]
        · rw [if_neg e, if_neg e])
      rw [lo a _ l1, lo 0 _ l3, s1, s2]
theorem z_ST_cross {m : q_S} (hok : z_ok m) {p a b c c' : Nat} {w : Nat → Bool} (hab : a ≤ b) (hbc : b < c) (hc : c ≤ 64) (hbc' : b < c') (hc' : c' ≤ 64) : z_ST m p w a b c + z_ST m p w 0 b c' = z_ST m p w a b c' + z_ST m p w 0 b c := by
  refine z_sum4 64 (fun s hs => ?_)
  show (if z_st w s = true then _ else 0) + (if z_st w s = true then _ else 0) = (if z_st w s = true then _ else 0) + (if z_st w s = true then _ else 0)
  by_cases e : z_st w s = true
  · rw [if_pos e, if_pos e, if_pos e, if_pos e]
    have := z_len_le w (show s ≤ 64 by omega)
    exact z_rspan_cross hok hab hbc hc hbc' hc' (by omega)
  · rw [if_neg e, if_neg e, if_neg e, if_neg e]
/-- the best threshold of OFF behind that of SLEEP -/
def z_lof (m : q_S) (p : Nat) (w : Nat → Bool) (y L b : Nat) : Prop := y ≤ b ∧ b ≤ L ∧ (b = y → L ≤ y) ∧ ∀ z, y < z → z ≤ L → z_ST m p w 0 y b * 65 + b ≤ z_ST m p w 0 y z * 65 + z
theorem z_lof_all {m : q_S} (hok : z_ok m) {p x y L b : Nat} {w : Nat → Bool} (hL : L ≤ 64) (hxy : x ≤ y) (h : z_lof m p w y L b) : ∀ z, y ≤ z → z ≤ L → z_ST m p w x y (if z_ST m p w x y b < z_ST m p w x y y then b else y) * 65 + (if z_ST m p w x y b < z_ST m p w x y y then b else y) ≤ z_ST m p w x y z * 65 + z := by
  obtain ⟨h1, h2, h3, h4⟩ := h
  intro z hz hzL
  by_cases e : z = y
  · subst e
    split <;> omega
  · have hyb : y < b := by
      apply Classical.byContradiction
      intro q
      have := h3 (by omega)
      omega
    have h5 := h4 z (by omega) hzL
    have h6 := z_ST_cross hok (p := p) (w := w) hxy (show y < z by omega) (by omega) hyb (by omega)
    split <;> omega
/-- what the class has found so far: all below (Y, X) in its order -/
def z_J5 (m : q_S) (p : Nat) (w : Nat → Bool) (L Y X a b c : Nat) : Prop := a ≤ b ∧ b ≤ c ∧ c ≤ L ∧ (b < Y ∨ (b = Y ∧ a < X) ∨ (b = c ∧ b ≤ Y)) ∧ ∀ x y z, x ≤ y → y ≤ z → z ≤ L → (y < Y ∨ (y = Y ∧ x < X)) → z_key (z_ST m p w a b c) a b c ≤ z_key (z_ST m p w x y z) x y z
theorem z_J5_0 (m : q_S) (p : Nat) (w : Nat → Bool) (L : Nat) : z_J5 m p w L 0 0 0 0 0 := ⟨Nat.le_refl _, Nat.le_refl _, Nat.zero_le _, Or.inr (Or.inr ⟨rfl, Nat.le_refl _⟩), fun x y z _ _ _ h => by omega⟩
theorem z_J5_row {m : q_S} {p : Nat} {w : Nat → Bool} {L Y a b c : Nat} (h : z_J5 m p w L Y (Y + 1) a b c) : z_J5 m p w L (Y + 1) 0 a b c := by
  obtain ⟨h1, h2, h3, h4, h5⟩ := h
  exact ⟨h1, h2, h3, by omega, fun x y z e1 e2 e3 e4 => h5 x y z e1 e2 e3 (by omega)⟩
theorem z_J5_take {m : q_S} (hok : z_ok m) {p : Nat} {w : Nat → Bool} {L Y X a b c l : Nat} (hL : L ≤ 64) (hX : X ≤ Y) (hY : Y ≤ L) (hl : z_lof m p w Y L l) (h : z_J5 m p w L Y X a b c) (ht : min (z_ST m p w X Y Y) (z_ST m p w X Y l) < z_ST m p w a b c ∨ (min (z_ST m p w X Y Y) (z_ST m p w X Y l) = z_ST m p w a b c ∧ X < a)) : z_J5 m p w L Y (X + 1) X Y (if z_ST m p w X Y l < z_ST m p w X Y Y then l else Y) := by
  have hall := z_lof_all hok hL hX hl
  have hS : z_ST m p w X Y (if z_ST m p w X Y l < z_ST m p w X Y Y then l else Y) = min (z_ST m p w X Y Y) (z_ST m p w X Y l) := by split <;> omega
  have hz : Y ≤ (if z_ST m p w X Y l < z_ST m p w X Y Y then l else Y) ∧ (if z_ST m p w X Y l < z_ST m p w X Y Y then l else Y) ≤ L := by
    have := hl.1; have := hl.2.1
    split <;> omega
  rw [← hS] at ht
  generalize (if z_ST m p w X Y l < z_ST m p w X Y Y then l else Y) = Z at *
  obtain ⟨h1, h2, h3, h4, h5⟩ := h
  refine ⟨hX, hz.1, hz.2, by omega, fun x y z e1 e2 e3 e4 => ?_⟩
  by_cases e : y = Y ∧ x = X
  · obtain ⟨rfl, rfl⟩ := e
    have := hall z e2 e3
    unfold z_key
    omega
  · have := h5 x y z e1 e2 e3 (by omega)
    refine Nat.le_trans ?_ this
    unfold z_key
    generalize z_ST m p w X Y Z = S1 at *
    generalize z_ST m p w a b c = S2 at *
    clear h5 hall this
    omega
theorem z_J5_leave {m : q_S} (hok : z_ok m) {p : Nat} {w : Nat → Bool} {L Y X a b c l : Nat} (hL : L ≤ 64) (hX : X ≤ Y) (hY : Y ≤ L) (hl : z_lof m p w Y L l) (h : z_J5 m p w L Y X a b c) (ht : ¬ (min (z_ST m p w X Y Y) (z_ST m p w X Y l) < z_ST m p w a b c ∨ (min (z_ST m p w X Y Y) (z_ST m p w X Y l) = z_ST m p w a b c ∧ X < a))) : z_J5 m p w L Y (X + 1) a b c := by
  have hall := z_lof_all hok hL hX hl
  have hS : z_ST m p w X Y (if z_ST m p w X Y l < z_ST m p w X Y Y then l else Y) = min (z_ST m p w X Y Y) (z_ST m p w X Y l) := by split <;> omega
  rw [← hS] at ht
  have hz : Y ≤ (if z_ST m p w X Y l < z_ST m p w X Y Y then l else Y) ∧ (if z_ST m p w X Y l < z_ST m p w X Y Y then l else Y) ≤ L := by
    have := hl.1; have := hl.2.1
    split <;> omega
  generalize (if z_ST m p w X Y l < z_ST m p w X Y Y then l else Y) = Z at *
  obtain ⟨h1, h2, h3, h4, h5⟩ := h
  refine ⟨h1, h2, h3, by omega, fun x y z e1 e2 e3 e4 => ?_⟩
  by_cases e : y = Y ∧ x = X
  · obtain ⟨rfl, rfl⟩ := e
    have := hall z e2 e3
    unfold z_key
    omega
  · exact h5 x y z e1 e2 e3 (by omega)
theorem z_J5_end {m : q_S} (hok : z_ok m) {p : Nat} {w : Nat → Bool} {L a b c : Nat} (hL : L ≤ 64) (hcap : z_cap w L) (h : z_J5 m p w L (L + 1) 0 a b c) : z_opt m p w a b c := by
  obtain ⟨h1, h2, h3, h4, h5⟩ := h
  refine ⟨h1, h2, by omega, fun x y z e1 e2 e3 => ?_⟩
  have := h5 (min x L) (min y L) (min z L) (by omega) (by omega) (by omega) (by omega)
  rw [z_ST_clamp hok hL hcap e1 e2 e3] at this
  refine Nat.le_trans this ?_
  unfold z_key
  generalize z_ST m p w x y z = S1 at *
  omega
