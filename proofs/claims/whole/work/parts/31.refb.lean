/-! ===== the reference: who wants whom ===== -/
def z_by (S : Nat → Nat → Nat → Bool) (f : Nat → Int32) : Prop := ∀ p, p < 6 → ∀ t, t < 64 → ∀ g, g < 32 → bt (f (64 * p + t)) g = S p t g
theorem z_by.congr {S S' : Nat → Nat → Nat → Bool} {f : Nat → Int32} (h : z_by S f) (e : ∀ p, p < 6 → ∀ t, t < 64 → ∀ g, g < 32 → S p t g = S' p t g) : z_by S' f := fun p hp t ht g hg => (h p hp t ht g hg).trans (e p hp t ht g hg)
theorem z_by_put {S : Nat → Nat → Nat → Bool} {f : Nat → Int32} (h : z_by S f) {p0 t0 g0 : Nat} (hp0 : p0 < 6) (ht0 : t0 < 64) (hg0 : g0 < 32) : z_by (fun p t g => S p t g || (decide (g0 = g) && (decide (p0 = p) && decide (t0 = t)))) (upd f (64 * p0 + t0) (f (64 * p0 + t0) ||| ((1 : Int32) <<< (nI g0 &&& 31)))) := by
  intro p hp t ht g hg
  by_cases e : 64 * p + t = 64 * p0 + t0
  · have e1 : p = p0 := by omega
    have e2 : t = t0 := by omega
    subst e1; subst e2
    rw [vI_s, b_or, b_one hg0 hg, h p hp t ht g hg]
    by_cases e3 : g = g0
    · subst e3; simp
    · simp [e3, show ¬ g0 = g from fun q => e3 q.symm]
  · rw [vI_n e, h p hp t ht g hg]
    have : ¬ (p0 = p ∧ t0 = t) := fun q => e (by rw [q.1, q.2])
    by_cases e3 : p0 = p
    · have e4 : ¬ t0 = t := fun q => this ⟨e3, q⟩
      simp [e4]
    · simp [e3]
theorem z_K_aI {h g : q_H} {f : Nat → Int32} (a : z_K h g) : z_K h (q_aI g 27 0 f) := by
  refine ⟨fun n x y z => ?_, fun n x y z => ?_, a.2.2⟩
  · rw [← a.1 n x y z]
    funext i1
    exact q_aI_ne (by omega)
  · rw [← a.2.1 n x y z, q_aI_ne (by omega)]
theorem z_Wk_aI {m : q_S} {g : q_H} {f : Nat → Int32} (a : z_Wk m g) : z_Wk m (q_aI g 27 0 f) := by
  unfold z_Wk
  rw [q_aI_ne (by omega), q_aI_ne (by omega)]
  exact a
theorem s5_clear {h : q_H} {E : Int32 → q_H → Prop} (k : ∀ y (f : Nat → Int32), (∀ j, j < 384 → f j = 0) → E y (q_aI h 27 0 f)) : ∃ n, lp_X5_wants_6 E n 0 h := by
  refine pk_loop (σ := q_H) (fun n i s => lp_X5_wants_6 E n (nI i) s) (fun i s => ∃ f : Nat → Int32, s = q_aI h 27 0 f ∧ ∀ j, j < i → f j = 0) 384 0 h (by omega) ⟨h.1 27 0, (q_aI_self h 27 0).symm, fun j hj => by omega⟩ ?_ ?_
  · rintro n s ⟨f, rfl, hf⟩
    unfold lp_X5_wants_6
    exact ⟨fun _ => k _ f hf, fun z => absurd (show nI 384 ≤ nI 384 from nI_le (by omega) (by omega)) z⟩
  · rintro n i s hi ⟨f, rfl, hf⟩ ih
    unfold lp_X5_wants_6
    refine ⟨fun z => absurd z (show ¬ nI 384 ≤ nI i from nle hi (by omega)), fun _ => ⟨vin hi (by omega), ?_⟩⟩
    rw [nI_1, cl (by omega), q_sI_a, q_aI_at, q_aI_aI]
    refine ih _ ⟨_, rfl, fun j hj => ?_⟩
    by_cases e : j = i
    · subst e; exact vI_s _ _ _
    · rw [vI_n e]; exact hf j (by omega)
theorem s5_hold1 {m : q_S} {lo : Int32} {i : Nat} {S : Nat → Nat → Nat → Bool} {h : q_H} {f : Nat → Int32} {E : Int32 → q_H → Prop} (hok : z_ok m) (hc : z_Ml m lo h) (hi : i < z_nh m) (hf : z_by S f) (k : ∀ y (f1 : Nat → Int32), z_by (fun p t g => S p t g || (z_ho m i 0 == g && (z_ho m i 1 == p && (decide (z_ho m i 2 ≤ t) && decide (t < z_ho m i 3))))) f1 → E y (q_aI h 27 0 f1)) : ∃ n, lp_X5_wants_55 (nI i) E n (nI (z_ho m i 2)) (q_aI h 27 0 f) := by
  have hnh := hok.1.2.1
  have hnp := hok.1.1
  obtain ⟨a0, a1, a2, a3⟩ := hok.2.2.2.2.2.2.2.1 i hi
  refine pk_loop (σ := q_H) (fun n x s => lp_X5_wants_55 (nI i) E n (nI x) s) (fun x s => z_ho m i 2 ≤ x ∧ ∃ f1 : Nat → Int32, s = q_aI h 27 0 f1 ∧ z_by (fun p t g => S p t g || (z_ho m i 0 == g && (z_ho m i 1 == p && (decide (z_ho m i 2 ≤ t) && decide (t < x))))) f1) (z_ho m i 3) (z_ho m i 2) _ a2 ⟨Nat.le_refl _, f, rfl, hf.congr (fun p _ t _ g _ => ?_)⟩ ?_ ?_
  · have : (decide (z_ho m i 2 ≤ t) && decide (t < z_ho m i 2)) = false := by
      by_cases e : z_ho m i 2 ≤ t
      · rw [decide_eq_false (show ¬ t < z_ho m i 2 by omega), Bool.and_false]
      · rw [decide_eq_false e, Bool.false_and]
    rw [this, Bool.and_false, Bool.and_false, Bool.or_false]
  · rintro n s ⟨_, f1, rfl, hf1⟩
    have hc' : z_Ml m lo (q_aI h 27 0 f1) := (z_K_aI (z_K.rf h)).M hc
    unfold lp_X5_wants_55
    rw [ix43, cl (by omega), hc'.2.2.2.2.2.2.1 i hi 3 (by omega)]
    exact ⟨vin (by omega) (by omega), fun _ => k _ f1 hf1, fun z => absurd (nI_le (Nat.le_refl _) (by omega)) z⟩
  · rintro n x s hx ⟨hx2, f1, rfl, hf1⟩ ih
    have hc' : z_Ml m lo (q_aI h 27 0 f1) := (z_K_aI (z_K.rf h)).M hc
    unfold lp_X5_wants_55
    rw [ix43, ix41, ix40, cl (show 4 * i + 3 < 2 ^ 31 by omega), cl (show 4 * i + 1 < 2 ^ 31 by omega), cl (show 4 * i + 0 < 2 ^ 31 by omega), hc'.2.2.2.2.2.2.1 i hi 3 (by omega), hc'.2.2.2.2.2.2.1 i hi 1 (by omega), hc'.2.2.2.2.2.2.1 i hi 0 (by omega), ix64, cl (show 64 * z_ho m i 1 + x < 2 ^ 31 by omega), nI_1 x]
    refine ⟨vin (by omega) (by omega), fun z => absurd z (nle hx (by omega)), fun _ => ⟨vin (by omega) (by omega), vin (by omega) (by omega), vin (by omega) (by omega), vin (by omega) (by omega), ?_⟩⟩
    rw [q_sI_a, q_aI_at, q_aI_aI]
    refine ih _ ⟨by omega, _, rfl, (z_by_put hf1 (show z_ho m i 1 < 6 by omega) (show x < 64 by omega) (show z_ho m i 0 < 32 by omega)).congr (fun p hp t ht g hg => ?_)⟩
    by_cases e1 : z_ho m i 0 = g
    · by_cases e2 : z_ho m i 1 = p
      · by_cases e3 : x = t
        · subst e3
          simp [e1, e2, hx2]
        · have : decide (t < x + 1) = decide (t < x) := decide_eq_decide.mpr (by omega)
          simp [e1, e2, e3, this]
      · rw [show (z_ho m i 1 == p) = false by simpa using e2, decide_eq_false e2]
        simp
    · rw [show (z_ho m i 0 == g) = false by simpa using e1, decide_eq_false e1]
      simp
theorem any_succ (i : Nat) (F : Nat → Bool) : (List.range (i + 1)).any F = ((List.range i).any F || F i) := by
  rw [List.range_succ, List.any_append]; simp
def z_bh (m : q_S) (lo : Int32) (n p t g : Nat) : Bool := (List.range n).any (fun i => !decide (nI i = lo) && (z_ho m i 0 == g && (z_ho m i 1 == p && (decide (z_ho m i 2 ≤ t) && decide (t < z_ho m i 3)))))
def z_bt (m : q_S) (n p t g : Nat) : Bool := (List.range n).any (fun i => z_ti m i 0 == g && (z_ti m i 1 == p && z_fi m i == t))
theorem s5_holds {m : q_S} {lo : Int32} {h : q_H} {f : Nat → Int32} {E : Int32 → q_H → Prop} (hok : z_ok m) (hc : z_Ml m lo h) (hf : ∀ j, j < 384 → f j = 0) (k : ∀ y (f1 : Nat → Int32), z_by (z_bh m lo (z_nh m)) f1 → E y (q_aI h 27 0 f1)) : ∃ n, lp_X5_wants_28 E n 0 (q_aI h 27 0 f) := by
  have hnh := hok.1.2.1
  refine pk_loop (σ := q_H) (fun n i s => lp_X5_wants_28 E n (nI i) s) (fun i s => ∃ f1 : Nat → Int32, s = q_aI h 27 0 f1 ∧ z_by (z_bh m lo i) f1) (z_nh m) 0 _ (by omega) ⟨f, rfl, fun p hp t ht g hg => by rw [hf _ (by omega), b_0]; rfl⟩ ?_ ?_
  · rintro n s ⟨f1, rfl, hf1⟩
    have hc' : z_Ml m lo (q_aI h 27 0 f1) := (z_K_aI (z_K.rf h)).M hc
    unfold lp_X5_wants_28
    rw [hc'.1.2.1]
    exact ⟨fun _ => k _ f1 hf1, fun z => absurd (nI_le (Nat.le_refl _) (by omega)) z⟩
  · rintro n i s hi ⟨f1, rfl, hf1⟩ ih
    have hc' : z_Ml m lo (q_aI h 27 0 f1) := (z_K_aI (z_K.rf h)).M hc
    unfold lp_X5_wants_28
    rw [hc'.1.2.1, hc'.1.2.2.2, nI_1 i, ix42, cl (show 4 * i + 2 < 2 ^ 31 by omega), hc'.2.2.2.2.2.2.1 i hi 2 (by omega)]
    refine ⟨fun z => absurd z (nle hi (by omega)), fun _ => ⟨fun z => ?_, fun z => ⟨vin (by omega) (by omega), ?_⟩⟩⟩
    · refine ih _ ⟨f1, rfl, hf1.congr (fun p _ t _ g _ => ?_)⟩
      unfold z_bh
      rw [any_succ, decide_eq_true z, Bool.not_true, Bool.false_and, Bool.or_false]
    · refine s5_hold1 hok hc hi hf1 (fun y f2 hf2 => ?_)
      refine ih _ ⟨f2, rfl, hf2.congr (fun p _ t _ g _ => ?_)⟩
      unfold z_bh
      rw [any_succ, decide_eq_false z, Bool.not_false, Bool.true_and]
theorem s5_timers {m : q_S} {lo : Int32} {h : q_H} {f : Nat → Int32} {E : Int32 → q_H → Prop} (hok : z_ok m) (hc : z_Ml m lo h) (hw : z_Wk m h) (hf : z_by (z_bh m lo (z_nh m)) f) (k : ∀ y (f1 : Nat → Int32), z_by (fun p t g => z_base m lo g t p) f1 → E y (q_aI h 27 0 f1)) : ∃ n, lp_X5_wants_116 E n 0 (q_aI h 27 0 f) := by
  have hnt := hok.1.2.2
  have hnp := hok.1.1
  refine pk_loop (σ := q_H) (fun n i s => lp_X5_wants_116 E n (nI i) s) (fun i s => ∃ f1 : Nat → Int32, s = q_aI h 27 0 f1 ∧ z_by (fun p t g => z_bh m lo (z_nh m) p t g || z_bt m i p t g) f1) (z_nt m) 0 _ (by omega) ⟨f, rfl, hf.congr (fun p _ t _ g _ => by rw [show z_bt m 0 p t g = false from rfl, Bool.or_false])⟩ ?_ ?_
  · rintro n s ⟨f1, rfl, hf1⟩
    have hc' : z_Ml m lo (q_aI h 27 0 f1) := (z_K_aI (z_K.rf h)).M hc
    unfold lp_X5_wants_116
    rw [hc'.1.2.2.1]
    exact ⟨fun _ => k _ f1 hf1, fun z => absurd (nI_le (Nat.le_refl _) (by omega)) z⟩
  · rintro n i s hi ⟨f1, rfl, hf1⟩ ih
    have hc' : z_Ml m lo (q_aI h 27 0 f1) := (z_K_aI (z_K.rf h)).M hc
    obtain ⟨a0, a1, a2, a3⟩ := hok.2.2.2.2.2.2.2.2 i hi
    obtain ⟨b1, b2, b3, b4⟩ := z_fi_spec hi a2 a3
    unfold lp_X5_wants_116
    rw [hc'.1.2.2.1, nI_1 i, ix41, ix40, cl (show 4 * i + 1 < 2 ^ 31 by omega), hc'.2.2.2.2.2.2.2 i hi 1 (by omega)]
    refine ⟨fun z => absurd z (nle hi (by omega)), fun _ => ⟨vin (by omega) (by omega), ?_⟩⟩
    refine s5_firesAt hok hc' (z_Wk_aI hw) hi ?_
    rw [cl (show 4 * i + 0 < 2 ^ 31 by omega), hc'.2.2.2.2.2.2.2 i hi 0 (by omega), ix64, cl (show 64 * z_ti m i 1 + z_fi m i < 2 ^ 31 by omega)]
    refine ⟨vin (by omega) (by omega), vin (by omega) (by omega), vin (by omega) (by omega), ?_⟩
    rw [q_sI_a, q_aI_at, q_aI_aI]
    refine ih _ ⟨_, rfl, (z_by_put hf1 (show z_ti m i 1 < 6 by omega) (show z_fi m i < 64 by omega) (show z_ti m i 0 < 32 by omega)).congr (fun p hp t ht g hg => ?_)⟩
    unfold z_bt
    rw [any_succ, Bool.or_assoc]
    congr 2
theorem s5_addAll {a b : Nat} {h : q_H} {f : Nat → Int32} {y0 : Int32} {E : Int32 → q_H → Prop} (ha : a < 6) (hb : b < 6) (k : ∀ y (f1 : Nat → Int32), (∀ x t, x < 6 → t < 64 → f1 (64 * x + t) = if x = b then f (64 * b + t) ||| f (64 * a + t) else f (64 * x + t)) → E y (q_aI h 27 0 f1)) : ∃ n, lp_X5_wants_212 y0 (nI a) (nI b) E n 0 (q_aI h 27 0 f) := by
  refine pk_loop (σ := q_H) (fun n i s => lp_X5_wants_212 y0 (nI a) (nI b) E n (nI i) s) (fun i s => ∃ f1 : Nat → Int32, s = q_aI h 27 0 f1 ∧ ∀ x t, x < 6 → t < 64 → f1 (64 * x + t) = if x = b ∧ t < i then f (64 * b + t) ||| f (64 * a + t) else f (64 * x + t)) 64 0 _ (by omega) ⟨f, rfl, fun x t _ _ => by rw [if_neg (by omega)]⟩ ?_ ?_
  · rintro n s ⟨f1, rfl, hf⟩
    unfold lp_X5_wants_212
    refine ⟨fun _ => k _ f1 (fun x t hx ht => ?_), fun z => absurd (show nI 64 ≤ nI 64 from nI_le (by omega) (by omega)) z⟩
    rw [hf x t hx ht]
    by_cases e : x = b
    · rw [if_pos ⟨e, ht⟩, if_pos e]
    · rw [if_neg (fun z => e z.1), if_neg e]
  · rintro n i s hi ⟨f1, rfl, hf⟩ ih
    unfold lp_X5_wants_212
    refine ⟨fun z => absurd z (show ¬ nI 64 ≤ nI i from nle hi (by omega)), fun _ => ?_⟩
    rw [ix64, ix64, cl (show 64 * b + i < 2 ^ 31 by omega), cl (show 64 * a + i < 2 ^ 31 by omega), nI_1 i, q_sI_a, q_aI_at, q_aI_aI]
    refine ⟨vin (by omega) (by omega), vin (by omega) (by omega), vin (by omega) (by omega), ?_⟩
    refine ih _ ⟨_, rfl, fun x t hx ht => ?_⟩
    by_cases e : 64 * x + t = 64 * b + i
    · have e1 : x = b := by omega
      have e2 : t = i := by omega
      subst e1; subst e2
      rw [vI_s, if_pos ⟨rfl, by omega⟩, hf x t hx ht, if_neg (by omega)]
      rw [hf a t ha ht]
      rw [if_neg (by omega)]
    · rw [vI_n e, hf x t hx ht]
      by_cases e1 : x = b ∧ t < i
      · rw [if_pos e1, if_pos ⟨e1.1, by omega⟩]
      · rw [if_neg e1, if_neg (by omega)]
/-- the reference's rows, turned the way the class lays them -/
def z_tn (f : Nat → Int32) (j : Nat) : Int64 := z_bldL (fun t => bt (f (64 * (j / 8) + t)) (j % 8)) 64
theorem z_tn_tb (f : Nat → Int32) {p g t : Nat} (hg : g < 8) (ht : t < 64) : tb (z_tn f (p * 8 + g)) t = bt (f (64 * p + t)) g := by
  unfold z_tn
  rw [z_bldL_tb _ 64 (by omega) t ht, decide_eq_true ht, Bool.true_and, show (p * 8 + g) / 8 = p by omega, show (p * 8 + g) % 8 = g by omega]
theorem z_tn_put {f f1 : Nat → Int32} {a b : Nat} (ha : a < 6) (hb : b < 6) (hf : ∀ x t, x < 6 → t < 64 → f1 (64 * x + t) = if x = b then f (64 * b + t) ||| f (64 * a + t) else f (64 * x + t)) : ∀ x g, x < 6 → g < 8 → z_tn f1 (x * 8 + g) = if x = b then z_tn f (b * 8 + g) ||| z_tn f (a * 8 + g) else z_tn f (x * 8 + g) := by
  intro x g hx hg
  apply tb_ext
  intro t ht
  rw [z_tn_tb f1 hg ht, hf x t hx ht]
  by_cases e : x = b
  · rw [if_pos e, if_pos e, b_or, tb_or, z_tn_tb f hg ht, z_tn_tb f hg ht]
  · rw [if_neg e, if_neg e, z_tn_tb f hg ht]
def z_top (f : Nat → Int32) : Prop := ∀ p, p < 6 → ∀ t, t < 64 → ∀ g, 8 ≤ g → g < 32 → bt (f (64 * p + t)) g = false
theorem z_top_put {f f1 : Nat → Int32} {a b : Nat} (h : z_top f) (ha : a < 6) (hb : b < 6) (hf : ∀ x t, x < 6 → t < 64 → f1 (64 * x + t) = if x = b then f (64 * b + t) ||| f (64 * a + t) else f (64 * x + t)) : z_top f1 := by
  intro p hp t ht g hg hg2
  rw [hf p t hp ht]
  by_cases e : p = b
  · rw [if_pos e, b_or, h b hb t ht g hg hg2, h a ha t ht g hg hg2]; rfl
  · rw [if_neg e]; exact h p hp t ht g hg hg2
/-- who wants whom is laid out -/
def z_B (m : q_S) (lo : Int32) (h : q_H) : Prop := ∀ p, p < 6 → ∀ t, t < 64 → ∀ g, g < 32 → bt (h.1 27 0 (64 * p + t)) g = (decide (g < 8) && z_W m lo p g t)
theorem s5_spread {m : q_S} {lo : Int32} {h : q_H} {f : Nat → Int32} {E : Int32 → q_H → Prop} (hok : z_ok m) (hc : z_Ml m lo h) (hf : z_by (fun p t g => z_base m lo g t p) f) (k : ∀ y (f1 : Nat → Int32), z_B m lo (q_aI h 27 0 f1) → E y (q_aI h 27 0 f1)) : ∃ n, lp_X5_wants_169 E n 0 (q_aI h 27 0 f) := by
  have hnp := hok.1.1
  have hnn := hok.2.2.2.2.2.2.1.1
  have htop : z_top f := by
    intro p hp t ht g hg hg2
    rw [hf p hp t ht g hg2]
    unfold z_base
    rw [Bool.or_eq_false_iff]
    constructor
    · refine z_any_f.mpr (fun i hi => ?_)
      have := (hok.2.2.2.2.2.2.2.1 i hi).1
      rw [show (z_ho m i 0 == g) = false by simp; omega, Bool.false_and, Bool.and_false]
    · refine z_any_f.mpr (fun i hi => ?_)
      have := (hok.2.2.2.2.2.2.2.2 i hi).1
      rw [show (z_ti m i 0 == g) = false by simp; omega, Bool.false_and]
  refine pk_loop (σ := q_H) (fun n i s => lp_X5_wants_169 E n (nI i) s) (fun i s => ∃ f1 : Nat → Int32, s = q_aI h 27 0 f1 ∧ z_top f1 ∧ z_hi (z_nd m) (z_base m lo) (z_tn f1) ∧ z_lo (z_nd m) (z_base m lo) i (z_tn f1)) 6 0 _ (by omega) ⟨f, rfl, htop, ?_, ?_⟩ ?_ ?_
  · intro g hg t ht T hT hs p hp h1
    rw [z_tn_tb f hg ht, hf p hp t ht g (by omega)] at h1
    exact hs p hp h1
  · intro g hg t ht p hp h1
    rw [z_tn_tb f hg ht, hf p hp t ht g (by omega)]
    exact h1
  · rintro n s ⟨f1, rfl, h0, hh, hl⟩
    unfold lp_X5_wants_169
    refine ⟨fun _ => k _ f1 (fun p hp t ht g hg => ?_), fun z => absurd (show nI 6 ≤ nI 6 from nI_le (by omega) (by omega)) z⟩
    rw [q_aI_at]
    by_cases e : g < 8
    · rw [decide_eq_true e, Bool.true_and, ← z_tn_tb f1 e ht]
      exact z_clo_eq (b := fun p => tb (z_tn f1 (p * 8 + g)) t) (k := 6) (by omega) (fun p hp h1 => hl g e t ht p hp h1) (fun T hT hs p hp h1 => hh g e t ht T hT hs p hp h1) p hp
    · rw [decide_eq_false e, Bool.false_and]
      exact h0 p hp t ht g (by omega) hg
  · rintro n i s hi ⟨f0, rfl, h0, hh, hl⟩ ih
    unfold lp_X5_wants_169
    refine ⟨fun z => absurd z (show ¬ nI 6 ≤ nI i from nle hi (by omega)), fun _ => ?_⟩
    refine pk_loop (σ := q_H) (fun n a s => lp_X5_wants_177 (nI i) (fun _ g => lp_X5_wants_169 E _ (nI i + 1) g) n (nI a) s) (fun a s => ∃ f1 : Nat → Int32, s = q_aI h 27 0 f1 ∧ z_top f1 ∧ z_hi (z_nd m) (z_base m lo) (z_tn f1) ∧ z_mid (z_nd m) (z_tn f0) (z_tn f1) a 0) (z_np m) 0 _ (by omega) ⟨f0, rfl, h0, hh, fun g hg t ht => ⟨fun _ _ h => h, fun p q _ _ hpq => by omega⟩⟩ ?_ ?_
    · rintro n2 s ⟨f1, rfl, h2, hh2, hm⟩
      have hc' : z_Ml m lo (q_aI h 27 0 f1) := (z_K_aI (z_K.rf h)).M hc
      unfold lp_X5_wants_177
      rw [hc'.1.1]
      refine ⟨fun _ => ?_, fun z => absurd (nI_le (Nat.le_refl _) (by omega)) z⟩
      rw [nI_1 i]
      refine ih _ ⟨f1, rfl, h2, hh2, z_lo_next hl (fun g hg t ht => ⟨(hm g hg t ht).1, fun p q hp hq _ hd => (hm g hg t ht).2 p q hp hq (Or.inl (hnn p q hd).1) hd⟩)⟩
    · rintro n2 a s ha ⟨f1, rfl, h2, hh2, hm⟩ ih2
      have hc' : z_Ml m lo (q_aI h 27 0 f1) := (z_K_aI (z_K.rf h)).M hc
      unfold lp_X5_wants_177
      rw [hc'.1.1]
      refine ⟨fun z => absurd z (nle ha (by omega)), fun _ => ?_⟩
      refine pk_loop (σ := q_H) (fun n b s => lp_X5_wants_187 (nI i) (nI a) (fun _ g => lp_X5_wants_177 (nI i) _ _ (nI a + 1) g) n (nI b) s) (fun b s => ∃ f1 : Nat → Int32, s = q_aI h 27 0 f1 ∧ z_top f1 ∧ z_hi (z_nd m) (z_base m lo) (z_tn f1) ∧ z_mid (z_nd m) (z_tn f0) (z_tn f1) a b) (z_np m) 0 _ (by omega) ⟨f1, rfl, h2, hh2, hm⟩ ?_ ?_
      · rintro n3 s ⟨f2, rfl, h3, hh3, hm3⟩
        have hc2 : z_Ml m lo (q_aI h 27 0 f2) := (z_K_aI (z_K.rf h)).M hc
        unfold lp_X5_wants_187
        rw [hc2.1.1]
        refine ⟨fun _ => ?_, fun z => absurd (nI_le (Nat.le_refl _) (by omega)) z⟩
        rw [nI_1 a]
        exact ih2 _ ⟨f2, rfl, h3, hh3, fun g hg t ht => ⟨(hm3 g hg t ht).1, fun p q hp hq hpq hd => (hm3 g hg t ht).2 p q hp hq (by have := (hnn p q hd).2; omega) hd⟩⟩
      · rintro n3 b s hb ⟨f2, rfl, h3, hh3, hm3⟩ ih3
        have hc2 : z_Ml m lo (q_aI h 27 0 f2) := (z_K_aI (z_K.rf h)).M hc
        unfold lp_X5_wants_187
        rw [hc2.1.1, ix6, cl (show 6 * a + b < 2 ^ 31 by omega), hc2.2.2.2.2.2.1 a (by omega) b (by omega), nI_1 b]
        refine ⟨fun z => absurd z (nle hb (by omega)), fun _ => ⟨vin (by omega) (by omega), fun z => ?_, fun z => ?_⟩⟩
        · have hn : z_nd m a b = false := by
            cases e : z_nd m a b with
            | false => rfl
            | true => rw [e] at z; exact absurd z (by decide)
          exact ih3 _ ⟨f2, rfl, h3, hh3, z_mid_skip hm3 hn⟩
        · have hn : z_nd m a b = true := by
            cases e : z_nd m a b with
            | true => rfl
            | false => rw [e] at z; exact absurd rfl z
          refine s5_addAll (by omega) (by omega) (fun y f3 hf3 => ?_)
          have ht := z_tn_put (f := f2) (f1 := f3) (show a < 6 by omega) (show b < 6 by omega) hf3
          exact ih3 _ ⟨f3, rfl, z_top_put h3 (by omega) (by omega) hf3, z_hi_put hh3 (by omega) (by omega) hn ht, z_mid_put hm3 (by omega) ht⟩
theorem s5_wants {m : q_S} {lo : Int32} {h : q_H} {Q : q_H → Prop} (hok : z_ok m) (hc : z_Ml m lo h) (k : ∀ g, z_K h g → z_B m lo g → Q g) : wp_X5_wants h Q := by
  unfold wp_X5_wants
  refine s5_wakes hok hc (fun g hg hw => ?_)
  have hcg := hg.M hc
  refine s5_clear (fun _ f hf => ?_)
  refine s5_holds hok hcg hf (fun _ f1 hf1 => ?_)
  refine s5_timers hok hcg hw hf1 (fun _ f2 hf2 => ?_)
  exact s5_spread hok hcg hf2 (fun _ f3 hf3 => k _ (z_K_aI hg) hf3)
