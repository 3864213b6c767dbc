/-! ===== learn of the reference ===== -/
theorem z_rule_rule (m : q_S) (p a b c x y z : Nat) : z_rule (z_rule m p a b c) p x y z = z_rule m p x y z := by
  have e : z_ru (z_rule (z_rule m p a b c) p x y z) = z_ru (z_rule m p x y z) := by
    funext q s
    show (if q = p then (if s = 0 then x else if s = 1 then y else if s = 2 then z else (if q = p then (if s = 0 then a else if s = 1 then b else if s = 2 then c else z_ru m q s) else z_ru m q s)) else (if q = p then (if s = 0 then a else if s = 1 then b else if s = 2 then c else z_ru m q s) else z_ru m q s)) = (if q = p then (if s = 0 then x else if s = 1 then y else if s = 2 then z else z_ru m q s) else z_ru m q s)
    by_cases e : q = p
    · rw [if_pos e, if_pos e, if_pos e]
      by_cases e0 : s = 0
      · rw [if_pos e0, if_pos e0]
      · rw [if_neg e0, if_neg e0, if_neg e0]
        by_cases e1 : s = 1
        · rw [if_pos e1, if_pos e1]
        · rw [if_neg e1, if_neg e1, if_neg e1]
          by_cases e2 : s = 2
          · rw [if_pos e2, if_pos e2]
          · rw [if_neg e2, if_neg e2, if_neg e2]
    · rw [if_neg e, if_neg e, if_neg e]
  exact congrArg (fun f => ((z_np m, z_dr m, z_co m, z_ri m, f, z_nd m, z_nh m, z_ho m, z_nt m, z_ti m) : q_S)) e
theorem z_w_rule (m : q_S) (p a b c : Nat) (lo : Int32) : z_w (z_rule m p a b c) lo = z_w m lo := by
  funext q t
  unfold z_w
  rw [z_W_rule]
theorem z_byrule_rule (m : q_S) (p a b c x y z : Nat) : z_byrule (z_rule m p a b c) p x y z = z_byrule m p x y z := by
  unfold z_byrule
  rw [z_w_rule]
  rfl
theorem z_ru_rule (m : q_S) (p a b c : Nat) : z_ru (z_rule m p a b c) p 0 = a ∧ z_ru (z_rule m p a b c) p 1 = b ∧ z_ru (z_rule m p a b c) p 2 = c := ⟨if_pos rfl, if_pos rfl, if_pos rfl⟩
/-- the reference's heap with some thresholds of part p laid down, its wants laid out -/
def z_V (m : q_S) (p : Nat) (h g : q_H) : Prop := z_Fm h g ∧ ∃ m', (∀ x y z, z_rule m' p x y z = z_rule m p x y z) ∧ z_N m' (-1) g
theorem z_V_set {m : q_S} {p x y z : Nat} {h g : q_H} (hV : z_V m p h g) : z_Fm h (q_sI (q_sI (q_sI g 22 0 (3 * p + 0) (nI x)) 22 0 (3 * p + 1) (nI y)) 22 0 (3 * p + 2) (nI z)) ∧ z_N (z_rule m p x y z) (-1) (q_sI (q_sI (q_sI g 22 0 (3 * p + 0) (nI x)) 22 0 (3 * p + 1) (nI y)) 22 0 (3 * p + 2) (nI z)) := by
  obtain ⟨hF, m', hm, hN⟩ := hV
  refine ⟨z_Fm_sI (by omega) (z_Fm_sI (by omega) (z_Fm_sI (by omega) hF)), ?_⟩
  rw [← hm]
  refine ⟨z_Ml_rule hN.1, fun q hq t ht g' hg' => ?_⟩
  rw [q_sI_o (by omega), q_sI_o (by omega), q_sI_o (by omega), z_W_rule]
  exact hN.2 q hq t ht g' hg'
/-- what the reference has found so far: all whose code is below N -/
def z_U (m : q_S) (p N : Nat) (s : Int32 × Int32 × Int32 × Int32) : Prop := (s.1 = -1 ∧ N = 0) ∨ ∃ a b c, s = (nI (z_byrule m p a b c), nI a, nI b, nI c) ∧ a ≤ b ∧ b ≤ c ∧ c ≤ 64 ∧ a * 4225 + b * 65 + c < N ∧ ∀ x y z, x ≤ y → y ≤ z → z ≤ 64 → x * 4225 + y * 65 + z < N → z_key (z_ST m p (z_w m (-1) p) a b c) a b c ≤ z_key (z_ST m p (z_w m (-1) p) x y z) x y z
theorem z_U.up {m : q_S} {p N N' : Nat} {s : Int32 × Int32 × Int32 × Int32} (h : z_U m p N s) (h0 : N = 0 → N' = 0) (hN : N ≤ N') (hg : ∀ x y z, x ≤ y → y ≤ z → z ≤ 64 → x * 4225 + y * 65 + z < N' → x * 4225 + y * 65 + z < N) : z_U m p N' s := by
  rcases h with ⟨h1, h2⟩ | ⟨a, b, c, h1, h2, h3, h4, h5, h6⟩
  · exact Or.inl ⟨h1, h0 h2⟩
  · exact Or.inr ⟨a, b, c, h1, h2, h3, h4, by omega, fun x y z e1 e2 e3 e4 => h6 x y z e1 e2 e3 (hg x y z e1 e2 e3 e4)⟩
theorem z_by_ST (m : q_S) (p a b c : Nat) : z_byrule m p a b c = z_sum (fun t => if z_w m (-1) p t = true then 1 else 0) 64 * z_dr m p 0 + z_ST m p (z_w m (-1) p) a b c := rfl
theorem z_by_le {m : q_S} (hok : z_ok m) (p a b c : Nat) : z_byrule m p a b c ≤ 532800 := by
  have h1 := z_ST_le hok p (z_w m (-1) p) a b c
  have h2 : z_sum (fun t => if z_w m (-1) p t = true then 1 else 0) 64 ≤ 64 * 1 := z_sum_le (fun i => by show (if _ then 1 else 0) ≤ 1; split <;> omega) 64
  have h3 := hok.2.1 p 0
  have h4 : z_sum (fun t => if z_w m (-1) p t = true then 1 else 0) 64 * z_dr m p 0 ≤ 64 * 99 := Nat.mul_le_mul (by omega) h3
  rw [z_by_ST]
  omega
/-- codes go by their numbers -/
theorem z_cd {x u X U : Nat} (hu : u < 4225) (h : x * 4225 + u < X * 4225 + U) (hU : U ≤ 4225) : x < X ∨ (x = X ∧ u < U) := by
  rcases Nat.lt_trichotomy x X with e | e | e
  · exact Or.inl e
  · subst e; exact Or.inr ⟨rfl, by omega⟩
  · omega
theorem z_cd3 {x y z X Y Z : Nat} (hy : y ≤ 64) (hz : z ≤ 64) (hY : Y ≤ 64) (hZ : Z ≤ 65) (h : x * 4225 + y * 65 + z < X * 4225 + Y * 65 + Z) : x < X ∨ (x = X ∧ (y < Y ∨ (y = Y ∧ z < Z))) := by
  rw [Nat.add_assoc, Nat.add_assoc] at h
  rcases z_cd (by omega) h (by omega) with e | ⟨e1, e2⟩
  · exact Or.inl e
  · refine Or.inr ⟨e1, ?_⟩
    rcases Nat.lt_trichotomy y Y with e | e | e
    · exact Or.inl e
    · subst e; exact Or.inr ⟨rfl, by omega⟩
    · omega
theorem z_cdr {x y z X Y Z : Nat} (hy : y ≤ 64) (hz : z ≤ 64) (h : x < X ∨ (x = X ∧ (y < Y ∨ (y = Y ∧ z < Z)))) : x * 4225 + y * 65 + z < X * 4225 + Y * 65 + Z := by
  rcases h with h | ⟨rfl, h | ⟨rfl, h⟩⟩ <;> omega
theorem z_cd65 {x y z : Nat} (h1 : x ≤ y) (h2 : y ≤ z) (h3 : z ≤ 64) : x * 4225 + y * 65 + z < 65 * 4225 := by
  have t := z_cdr (x := x) (y := y) (z := z) (X := 65) (Y := 0) (Z := 0) (by omega) h3 (Or.inl (by omega))
  rwa [Nat.add_zero] at t
theorem z_U_Y {m : q_S} {p X Y : Nat} {s : Int32 × Int32 × Int32 × Int32} (hXY : X ≤ Y) (hY : Y ≤ 64) (h : z_U m p (X * 4225 + Y * 65) s) : z_U m p (X * 4225 + Y * 65 + Y) s := by
  refine h.up (by omega) (by omega) (fun x y z h1 h2 h3 h4 => ?_)
  have q := z_cd3 (by omega) h3 hY (by omega) h4
  have t := z_cdr (x := x) (y := y) (z := z) (X := X) (Y := Y) (Z := 0) (by omega) h3 (by omega)
  rwa [Nat.add_zero] at t
theorem z_U_X {m : q_S} {p X : Nat} {s : Int32 × Int32 × Int32 × Int32} (hX : X ≤ 64) (h : z_U m p (X * 4225) s) : z_U m p (X * 4225 + X * 65) s := by
  refine h.up (by omega) (by omega) (fun x y z h1 h2 h3 h4 => ?_)
  rw [← Nat.add_zero (X * 4225 + X * 65)] at h4
  have q := z_cd3 (by omega) h3 hX (by omega) h4
  have t := z_cdr (x := x) (y := y) (z := z) (X := X) (Y := 0) (Z := 0) (by omega) h3 (by omega)
  rwa [Nat.add_zero] at t
theorem s5_learnZ {m : q_S} {p X Y : Nat} {s : Int32 × Int32 × Int32 × Int32} {h g : q_H} {E : Int32 → Int32 → Int32 → Int32 → Int32 → q_H → Prop} (hok : z_ok m) (hp : p < z_np m) (hXY : X ≤ Y) (hY : Y ≤ 64) (hV : z_V m p h g) (hU : z_U m p (X * 4225 + Y * 65) s) (k : ∀ s x g, z_V m p h g → z_U m p (X * 4225 + (Y + 1) * 65) s → E s.1 s.2.1 s.2.2.1 s.2.2.2 x g) : ∃ n, lp_X5_learn_49 (nI p) (nI X) (nI Y) E n s.1 s.2.1 s.2.2.1 s.2.2.2 (nI Y) g := by
  have hnp := hok.1.1
  refine pk_loop (σ := (Int32 × Int32 × Int32 × Int32) × q_H) (fun n i s => lp_X5_learn_49 (nI p) (nI X) (nI Y) E n s.1.1 s.1.2.1 s.1.2.2.1 s.1.2.2.2 (nI i) s.2) (fun i s => Y ≤ i ∧ z_V m p h s.2 ∧ z_U m p (X * 4225 + Y * 65 + i) s.1) 65 Y (s, g) (by omega) ⟨Nat.le_refl _, hV, z_U_Y hXY hY hU⟩ ?_ ?_
  · rintro n ⟨s, u⟩ ⟨_, hV, hU⟩
    have hU : z_U m p (X * 4225 + Y * 65 + 65) s := hU
    unfold lp_X5_learn_49
    refine ⟨fun _ => k s _ u hV ?_, fun z => absurd (show nI 64 < nI 65 from nI_lt (by omega) (by omega)) z⟩
    rw [show X * 4225 + (Y + 1) * 65 = X * 4225 + Y * 65 + 65 by omega]
    exact hU
  · rintro n Z ⟨⟨s1, s2, s3, s4⟩, u⟩ hZ ⟨hZY, hV, hU⟩ ih
    have hV : z_V m p h u := hV
    have hU : z_U m p (X * 4225 + Y * 65 + Z) (s1, s2, s3, s4) := hU
    unfold lp_X5_learn_49
    refine ⟨fun z => absurd ((nI_ltI (a := 64) (by omega) (by omega)).mp z) (by omega), fun _ => ?_⟩
    rw [ix31, ix32, ix30, cl (show 3 * p + 0 < 2 ^ 31 by omega), cl (show 3 * p + 1 < 2 ^ 31 by omega), cl (show 3 * p + 2 < 2 ^ 31 by omega), nI_1 Z]
    refine ⟨vin (by omega) (by omega), vin (by omega) (by omega), vin (by omega) (by omega), ?_⟩
    obtain ⟨hF', hN'⟩ := z_V_set (x := X) (y := Y) (z := Z) hV
    refine s5_ruledSum (z_rule_ok hok hp hXY hZY (by omega)) hN' hp (fun v hv => ?_)
    obtain ⟨e1, e2, e3⟩ := z_ru_rule m p X Y Z
    rw [e1, e2, e3, z_byrule_rule]
    have hV' : z_V m p h v := ⟨hF'.tr hv.K.fm, z_rule m p X Y Z, fun x y z => z_rule_rule _ _ _ _ _ _ _ _, hN'.k hv⟩
    have bX := z_by_le hok p X Y Z
    have hZ64 : Z ≤ 64 := by omega
    have hZ1 : X * 4225 + Y * 65 + Z < X * 4225 + Y * 65 + (Z + 1) := by clear bX; omega
    have done : ∀ s', z_U m p (X * 4225 + Y * 65 + (Z + 1)) s' → lp_X5_learn_49 (nI p) (nI X) (nI Y) E n s'.1 s'.2.1 s'.2.2.1 s'.2.2.2 (nI (Z + 1)) v := fun s' hs' => ih (s', v) ⟨by omega, hV', hs'⟩
    have only : ∀ x y z, y ≤ 64 → z ≤ 64 → x * 4225 + y * 65 + z < X * 4225 + Y * 65 + (Z + 1) → x * 4225 + y * 65 + z < X * 4225 + Y * 65 + Z ∨ (x = X ∧ y = Y ∧ z = Z) := by
      intro x y z hy hz hh
      have := z_cd3 hy hz hY (by omega) hh
      by_cases e : x = X ∧ y = Y ∧ z = Z
      · exact Or.inr e
      · exact Or.inl (z_cdr hy hz (by omega))
    rcases hU with ⟨hU1, hU2⟩ | ⟨a, b, c, hU1, hU2, hU3, hU4, hU5, hU6⟩
    · have hU1 : s1 = -1 := hU1
      refine ⟨fun _ => done (_, _, _, _) (Or.inr ⟨X, Y, Z, rfl, hXY, hZY, by omega, by omega, fun x y z g1 g2 g3 g4 => ?_⟩), fun z => absurd hU1 z⟩
      rcases only x y z (by omega) g3 g4 with q | ⟨rfl, rfl, rfl⟩
      · omega
      · exact Nat.le_refl _
    · have hU1 : (s1, s2, s3, s4) = (nI (z_byrule m p a b c), nI a, nI b, nI c) := hU1
      obtain ⟨rfl, rfl, rfl, rfl⟩ : s1 = _ ∧ s2 = _ ∧ s3 = _ ∧ s4 = _ := by
        simp only [Prod.mk.injEq] at hU1
        exact hU1
      have bA := z_by_le hok p a b c
      have lts : z_byrule m p X Y Z < z_byrule m p a b c ↔ z_ST m p (z_w m (-1) p) X Y Z < z_ST m p (z_w m (-1) p) a b c := by
        rw [z_by_ST, z_by_ST m p a b c]
        exact Nat.add_lt_add_iff_left
      refine ⟨fun z => absurd z (w_m1 _ (by omega)), fun _ => ⟨fun z => ?_, fun z => ?_⟩⟩
      · have hlt := (nI_ltI (by omega) (by omega)).mp z
        have hlt := lts.mp hlt
        refine done (_, _, _, _) (Or.inr ⟨X, Y, Z, rfl, hXY, hZY, hZ64, hZ1, fun x y z g1 g2 g3 g4 => ?_⟩)
        rcases only x y z (by omega) g3 g4 with q | ⟨rfl, rfl, rfl⟩
        · refine Nat.le_trans ?_ (hU6 x y z g1 g2 g3 q)
          unfold z_key
          generalize z_ST m p (z_w m (-1) p) X Y Z = S1 at *
          generalize z_ST m p (z_w m (-1) p) a b c = S2 at *
          omega
        · exact Nat.le_refl _
      · have hlt : ¬ _ < _ := fun q => z ((nI_ltI (by omega) (by omega)).mpr q)
        have hlt := fun q => hlt (lts.mpr q)
        refine done (_, _, _, _) (Or.inr ⟨a, b, c, rfl, hU2, hU3, hU4, Nat.lt_trans hU5 hZ1, fun x y z g1 g2 g3 g4 => ?_⟩)
        rcases only x y z (by omega) g3 g4 with q | ⟨q1, q2, q3⟩
        · exact hU6 x y z g1 g2 g3 q
        · rw [q1, q2, q3]
          unfold z_key
          generalize z_ST m p (z_w m (-1) p) X Y Z = S1 at *
          generalize z_ST m p (z_w m (-1) p) a b c = S2 at *
          omega
theorem s5_learnY {m : q_S} {p X : Nat} {s : Int32 × Int32 × Int32 × Int32} {h g : q_H} {E : Int32 → Int32 → Int32 → Int32 → Int32 → q_H → Prop} (hok : z_ok m) (hp : p < z_np m) (hX : X ≤ 64) (hV : z_V m p h g) (hU : z_U m p (X * 4225) s) (k : ∀ s x g, z_V m p h g → z_U m p ((X + 1) * 4225) s → E s.1 s.2.1 s.2.2.1 s.2.2.2 x g) : ∃ n, lp_X5_learn_38 (nI p) (nI X) E n s.1 s.2.1 s.2.2.1 s.2.2.2 (nI X) g := by
  refine pk_loop (σ := (Int32 × Int32 × Int32 × Int32) × q_H) (fun n i s => lp_X5_learn_38 (nI p) (nI X) E n s.1.1 s.1.2.1 s.1.2.2.1 s.1.2.2.2 (nI i) s.2) (fun i s => X ≤ i ∧ z_V m p h s.2 ∧ z_U m p (X * 4225 + i * 65) s.1) 65 X (s, g) (by omega) ⟨Nat.le_refl _, hV, z_U_X hX hU⟩ ?_ ?_
  · rintro n ⟨s, u⟩ ⟨_, hV, hU⟩
    have hU : z_U m p (X * 4225 + 65 * 65) s := hU
    unfold lp_X5_learn_38
    refine ⟨fun _ => k s _ u hV ?_, fun z => absurd (show nI 64 < nI 65 from nI_lt (by omega) (by omega)) z⟩
    rw [show (X + 1) * 4225 = X * 4225 + 65 * 65 by omega]
    exact hU
  · rintro n Y ⟨s, u⟩ hY ⟨hXY, hV, hU⟩ ih
    have hV : z_V m p h u := hV
    have hU : z_U m p (X * 4225 + Y * 65) s := hU
    unfold lp_X5_learn_38
    refine ⟨fun z => absurd ((nI_ltI (a := 64) (by omega) (by omega)).mp z) (by omega), fun _ => ?_⟩
    refine s5_learnZ hok hp hXY (by omega) hV hU (fun s' x g' hV' hU' => ?_)
    rw [nI_1 Y]
    exact ih (s', g') ⟨by omega, hV', hU'⟩
theorem M_learn {m : q_S} {a : Int32} {h : q_H} {Q : Int32 → q_H → Prop} (hok : z_ok m) (hc : z_M m h) (k0 : ¬ y_isP m a → Q (-1) h) (k1 : ∀ p, p < z_np m → a = nI p → ∀ x y z, z_opt m p (z_w m (-1) p) x y z → ∀ g, z_M (z_rule m p x y z) g → z_Fm h g → Q (nI (z_byrule m p x y z)) g) : wp_X5_learn a h Q := by
  have hnp := hok.1.1
  have hc := z_M_iff.mp hc
  unfold wp_X5_learn
  refine s5_isPart hok hc.1.1 (fun n => ⟨fun _ => k0 n, fun z => absurd rfl z⟩) (fun p hp e ha => ⟨fun z => absurd z (by decide), fun _ => ?_⟩)
  have kk := k1 p hp e
  subst e
  refine s5_wants hok hc (fun u hu hB => ?_)
  refine pk_loop (σ := (Int32 × Int32 × Int32 × Int32) × q_H) (fun n i s => lp_X5_learn_27 (nI p) _ n s.1.1 s.1.2.1 s.1.2.2.1 s.1.2.2.2 (nI i) s.2) (fun i s => z_V m p h s.2 ∧ z_U m p (i * 4225) s.1) 65 0 ((-1, 0, 0, 0), u) (by omega) ⟨⟨hu.fm, m, fun _ _ _ => rfl, hu.M hc, hB⟩, Or.inl ⟨rfl, rfl⟩⟩ ?_ ?_
  · rintro n ⟨⟨s1, s2, s3, s4⟩, v⟩ ⟨hV, hU⟩
    have hV : z_V m p h v := hV
    have hU : z_U m p (65 * 4225) (s1, s2, s3, s4) := hU
    unfold lp_X5_learn_27
    refine ⟨fun _ => ?_, fun z => absurd (show nI 64 < nI 65 from nI_lt (by omega) (by omega)) z⟩
    rcases hU with ⟨hU1, hU2⟩ | ⟨a, b, c, hU1, hU2, hU3, hU4, hU5, hU6⟩
    · omega
    · have hU1 : (s1, s2, s3, s4) = (nI (z_byrule m p a b c), nI a, nI b, nI c) := hU1
      obtain ⟨rfl, rfl, rfl, rfl⟩ : s1 = _ ∧ s2 = _ ∧ s3 = _ ∧ s4 = _ := by
        simp only [Prod.mk.injEq] at hU1
        exact hU1
      dsimp only
      rw [ix31, ix32, ix30, cl (show 3 * p + 0 < 2 ^ 31 by omega), cl (show 3 * p + 1 < 2 ^ 31 by omega), cl (show 3 * p + 2 < 2 ^ 31 by omega)]
      refine ⟨vin (by omega) (by omega), vin (by omega) (by omega), vin (by omega) (by omega), ?_⟩
      obtain ⟨hF', hN'⟩ := z_V_set (x := a) (y := b) (z := c) hV
      exact kk a b c ⟨hU2, hU3, hU4, fun x y z g1 g2 g3 => hU6 x y z g1 g2 g3 (z_cd65 g1 g2 g3)⟩ _ (z_M_iff.mpr hN'.1) hF'
  · rintro n X ⟨s, v⟩ hX ⟨hV, hU⟩ ih
    have hV : z_V m p h v := hV
    have hU : z_U m p (X * 4225) s := hU
    unfold lp_X5_learn_27
    refine ⟨fun z => absurd ((nI_ltI (a := 64) (by omega) (by omega)).mp z) (by omega), fun _ => ?_⟩
    refine s5_learnY hok hp (by omega) hV hU (fun s' x g' hV' hU' => ?_)
    rw [nI_1 X]
    exact ih (s', g') ⟨hV', hU'⟩
