theorem z_nw_up (m : q_S) {a : Nat} : ∀ {b : Nat}, a ≤ b → z_nw m a ≤ z_nw m b := by
  intro b h
  induction h with
  | refl => exact Nat.le_refl _
  | @step b _ ih => exact Nat.le_trans ih (Nat.le_add_right _ _)
theorem z_nw_1 {m : q_S} {t : Nat} (h : z_wk m t = true) : z_nw m (t + 1) = z_nw m t + 1 := by
  show z_nw m t + (if z_wk m t = true then 1 else 0) = _
  rw [if_pos h]
theorem z_nw_0 {m : q_S} {t : Nat} (h : z_wk m t = false) : z_nw m (t + 1) = z_nw m t := by
  show z_nw m t + (if z_wk m t = true then 1 else 0) = _
  rw [h]; rfl
theorem z_wki_eq {m : q_S} {t : Nat} (ht : t < 64) (h : z_wk m t = true) : z_wki m (z_nw m t) = t := by
  obtain ⟨a, _, b, _⟩ := z_least_spec (f := fun x => z_wk m x && decide (z_nw m x = z_nw m t)) 64 0 t (Nat.zero_le _) (by omega) (by simp [h])
  simp only [Bool.and_eq_true, decide_eq_true_eq] at a
  have e : z_wki m (z_nw m t) ≤ t := b
  rcases Nat.lt_or_ge (z_wki m (z_nw m t)) t with h1 | h1
  · have := z_nw_up m (a := z_wki m (z_nw m t) + 1) (b := t) h1
    rw [z_nw_1 (t := z_wki m (z_nw m t)) a.1] at this
    have a2 : z_nw m (z_wki m (z_nw m t)) = z_nw m t := a.2
    omega
  · omega
theorem z_nw_le (m : q_S) : z_nw m 64 ≤ 64 * 1 := z_sum_le (fun i => by show (if _ then 1 else 0) ≤ 1; split <;> omega) 64
theorem C_waking {m : q_S} {a : Int32} {h : q_H} {Q : Int32 → q_H → Prop} (hok : z_ok m) (hc : z_C m h) (k : Q (v_waking m a) h) : wp_X4_waking a h Q := by
  obtain ⟨c1, cw, cr⟩ := z_C_iff.mp hc
  have h64 := z_nw_le m
  unfold wp_X4_waking v_waking at *
  refine ⟨fun z => ?_, fun z => ?_⟩
  · have hn : ¬ a < 0 := by
      rw [Int32.lt_iff_toInt_lt]
      have := Int32.le_iff_toInt_le.mp z
      omega
    obtain ⟨i, hi, e⟩ := nI_of hn
    subst e
    rw [cl hi] at k
    refine pk_loop (σ := Int32 × q_H) (fun n t s => lp_X4_waking_10 Q (fun _ _ g => Q (-1) g) n s.1 (nI t) s.2) (fun t s => s.2 = h ∧ z_nw m t ≤ i ∧ s.1 = nI (i - z_nw m t)) 64 0 (nI i, h) (by omega) ⟨rfl, Nat.zero_le _, rfl⟩ ?_ ?_
    · rintro n ⟨x, g⟩ ⟨e, h1, h2⟩
      have e : g = h := e
      subst e
      unfold lp_X4_waking_10
      refine ⟨fun _ => ?_, fun z => absurd (show nI 64 ≤ nI 64 from nI_le (by omega) (by omega)) z⟩
      rw [if_neg (fun q => q.2 (nI_le h1 hi))] at k
      exact k
    · rintro n t ⟨x, g⟩ ht ⟨e, h1, h2⟩ ih
      have e : g = h := e
      subst e
      have h2 : x = _ := h2
      subst h2
      unfold lp_X4_waking_10
      refine ⟨fun z => absurd z (show ¬ nI 64 ≤ nI t from nle ht (by omega)), fun _ => ?_⟩
      refine s_hasTick ht ?_
      rw [cw t ht, nI_1 t]
      refine ⟨fun z => ?_, fun z => ?_⟩
      · have hf : z_wk m t = false := by
          cases e : z_wk m t with
          | false => rfl
          | true => rw [e] at z; exact absurd z (by decide)
        exact ih (_, _) ⟨rfl, by rw [z_nw_0 hf]; exact h1, by rw [z_nw_0 hf]⟩
      · have hf : z_wk m t = true := by
          cases e : z_wk m t with
          | true => rfl
          | false => rw [e] at z; exact absurd rfl z
        have hup := z_nw_up m (a := t + 1) (b := 64) (by omega)
        rw [z_nw_1 hf] at hup
        refine ⟨fun z1 => ?_, fun z1 => ?_⟩
        · have e0 : i - z_nw m t = 0 := (nI_eq (b := 0) (by omega) (by omega)).mp z1
          have ei : i = z_nw m t := by omega
          rw [if_pos (y_of (by omega) (by omega)), ei, z_wki_eq ht hf] at k
          exact k
        · have e0 : ¬ i - z_nw m t = 0 := fun q => z1 (by show nI _ = nI 0; rw [q])
          have e1 : nI (i - z_nw m t) + (-1) = nI (i - z_nw m (t + 1)) := by
            rw [z_nw_1 hf, show i - z_nw m t = (i - (z_nw m t + 1)) + 1 by omega, pk_m1]
          rw [e1]
          exact ih (_, _) ⟨rfl, by rw [z_nw_1 hf]; omega, rfl⟩
  · have hn : a < 0 := by
      rw [Int32.lt_iff_toInt_lt]
      have : ¬ _ := fun q => z (Int32.le_iff_toInt_le.mpr q)
      omega
    rw [if_neg (fun q => q.1 hn)] at k
    exact k
theorem C_fires {m : q_S} {a : Int32} {h : q_H} {Q : Int32 → q_H → Prop} (hok : z_ok m) (hc : z_C m h) (k : Q (v_fires m a) h) : wp_X4_fires a h Q := by
  obtain ⟨c1, cw, cr⟩ := z_C_iff.mp hc
  have hnt := hok.1.2.2
  unfold wp_X4_fires v_fires at *
  refine s_chas (m := m) (n := z_nt m) (by omega) c1.2.2.2.2.2.2.2.1 (fun n => ⟨fun _ => ?_, fun z => absurd rfl z⟩) (fun i hi e ha => ⟨fun z => absurd z (by decide), fun _ => ?_⟩)
  · rw [if_neg n] at k; exact k
  rw [if_pos ha] at k
  subst e
  rw [cl (by omega)] at k
  obtain ⟨b1, b2, b3, b4⟩ := hok.2.2.2.2.2.2.2.2 i hi
  obtain ⟨g1, g2, g3, g4⟩ := c1.2.2.2.2.2.2.2.2 i hi
  obtain ⟨w1, w2, w3, w4⟩ := z_fi_spec hi b3 b4
  refine s_cticks (c := 1) (show i < 12 by omega) g3 g4 (by omega) (by omega) (fun x hx => ?_)
  have hbit : ∀ t, t < 64 → tb (h.2 0 0 5 &&& x) t = (z_wk m t && (decide (z_ti m i 2 ≤ t) && decide (t < z_ti m i 3 + 1))) := fun t ht => by rw [tb_and, cw t ht, hx t ht]
  refine s_leastTick (fun t ht h1 h2 => ?_) (fun hall => ?_)
  · have et : t = z_fi m i := by
      rw [hbit t ht] at h1
      simp only [Bool.and_eq_true, decide_eq_true_eq] at h1
      rcases Nat.lt_trichotomy t (z_fi m i) with e | e | e
      · rw [w4 t h1.2.1 e] at h1; exact absurd h1.1 (by decide)
      · exact e
      · have := h2 _ e
        rw [hbit _ (by omega), w1] at this
        simp only [Bool.true_and, Bool.and_eq_false_iff, decide_eq_false_iff_not] at this
        omega
    rw [et]; exact k
  · have := hall (z_fi m i) (by omega)
    rw [hbit _ (by omega), w1, decide_eq_true w2, decide_eq_true (by omega)] at this
    cases this
/-! ===== the order ===== -/
def z_free (nd : Nat → Nat → Bool) (S : Nat → Bool) (p : Nat) : Bool := S p && !(List.range 6).any (fun q => nd p q && S q)
def z_rdy (nd : Nat → Nat → Bool) (S : Nat → Bool) : Nat := z_least (z_free nd S) 6 0
def z_off (S : Nat → Bool) (p : Nat) : Nat → Bool := fun q => S q && !decide (q = p)
def z_some (S : Nat → Bool) : Bool := (List.range 6).any S
def z_ordv (nd : Nat → Nat → Bool) : Nat → (Nat → Bool) → Nat → Int32
  | 0, _, _ => -1
  | n + 1, S, i => if z_some S = true then (if i = 0 then nI (z_rdy nd S) else z_ordv nd n (z_off S (z_rdy nd S)) (i - 1)) else -1
def z_up (m : q_S) (t p : Nat) : Bool := decide (p < z_np m) && (z_w m (-1) p t && !(decide (0 < t) && z_w m (-1) p (t - 1)))
def v_order (m : q_S) (a b : Int32) : Int32 := if y_isT a ∧ ¬ b < 0 then z_ordv (z_nd m) 6 (z_up m a.toNatClampNeg) b.toNatClampNeg else -1
theorem z_rdy_ok {nd : Nat → Nat → Bool} (ha : z_acy nd) {S : Nat → Bool} (h : z_some S = true) : z_rdy nd S < 6 ∧ z_free nd S (z_rdy nd S) = true ∧ ∀ q, q < z_rdy nd S → z_free nd S q = false := by
  obtain ⟨p, hp, hs⟩ := z_any.mp h
  obtain ⟨x, hx, h1, h2⟩ := ha S ⟨p, hp, hs⟩
  have hf : z_free nd S x = true := by
    unfold z_free
    rw [h1, Bool.true_and, Bool.not_eq_true', z_any_f]
    intro q hq
    cases e : (nd x q && S q) with
    | false => rfl
    | true => exact absurd (Bool.and_eq_true_iff.mp e) (h2 q hq)
  obtain ⟨a1, _, a2, a3⟩ := z_least_spec (f := z_free nd S) 6 0 x (Nat.zero_le _) (by omega) hf
  exact ⟨by have : z_rdy nd S ≤ x := a2; omega, a1, fun q hq => a3 q (Nat.zero_le _) hq⟩
def z_set (S : Nat → Bool) (x : Int32) : Prop := ∀ q, q < 32 → bt x q = (decide (q < 6) && S q)
theorem z_set_0 {S : Nat → Bool} {x : Int32} (h : z_set S x) : x = 0 ↔ z_some S = false := by
  constructor
  · intro e
    subst e
    refine z_any_f.mpr (fun q hq => ?_)
    have := h q (by omega)
    rw [b_0, decide_eq_true hq, Bool.true_and] at this
    exact this.symm
  · intro e
    apply b_ext
    intro q hq
    rw [h q hq, b_0]
    by_cases e1 : q < 6
    · rw [z_any_f.mp e q e1, Bool.and_false]
    · rw [decide_eq_false e1, Bool.false_and]
theorem z_set_off {S : Nat → Bool} {x : Int32} (h : z_set S x) {p : Nat} (hp : p < 6) : z_set (z_off S p) (x &&& (((1 : Int32) <<< (nI p &&& 31)) ^^^ (-1))) := by
  intro q hq
  rw [b_and, b_xor, b_one (by omega) hq, b_m1 q hq, h q hq]
  unfold z_off
  rw [Bool.xor_true, Bool.and_assoc]
theorem z_set_and {nd : Nat → Nat → Bool} {S : Nat → Bool} {x y : Int32} {p : Nat} (h : z_set S x) (hy : ∀ q, q < 32 → bt y q = (decide (q < 6) && nd p q)) : (y &&& x) = 0 ↔ (List.range 6).any (fun q => nd p q && S q) = false := by
  constructor
  · intro e
    refine z_any_f.mpr (fun q hq => ?_)
    have := congrArg (fun z => bt z q) e
    simp only [b_and, b_0] at this
    rw [hy q (by omega), h q (by omega), decide_eq_true hq, Bool.true_and, Bool.true_and] at this
    exact this
  · intro e
    apply b_ext
    intro q hq
    rw [b_and, b_0, hy q hq, h q hq]
    by_cases e1 : q < 6
    · rw [decide_eq_true e1, Bool.true_and, Bool.true_and]; exact z_any_f.mp e q e1
    · rw [decide_eq_false e1, Bool.false_and, Bool.false_and]
theorem s_leastReady {m : q_S} {S : Nat → Bool} {x : Int32} {h : q_H} {Q : Int32 → q_H → Prop} (hok : z_ok m) (hc : z_C m h) (hx : z_set S x) (hs : z_some S = true) (k : Q (nI (z_rdy (z_nd m) S)) h) : wp_X4_leastReady x h Q := by
  obtain ⟨r1, r2, r3⟩ := z_rdy_ok hok.2.2.2.2.2.2.1.2 hs
  have hnd := hc.one.2.2.2.2.2.1
  unfold wp_X4_leastReady
  refine pk_loop (σ := q_H) (fun n i s => lp_X4_leastReady_2 x Q (fun _ g => Q (-1) g) n (nI i) s) (fun i s => s = h ∧ i ≤ z_rdy (z_nd m) S) 6 0 h (by omega) ⟨rfl, Nat.zero_le _⟩ ?_ ?_
  · rintro n s ⟨rfl, h1⟩
    omega
  · rintro n i s hi ⟨rfl, h1⟩ ih
    unfold lp_X4_leastReady_2
    refine ⟨fun z => absurd z (show ¬ nI 6 ≤ nI i from nle hi (by omega)), fun _ => ?_⟩
    refine s_hasPart (by omega) ?_
    rw [hx i (by omega), decide_eq_true hi, Bool.true_and, nI_1 i, cl (by omega)]
    have stop : z_free (z_nd m) S i = true → Q (nI i) s := by
      intro hf
      rcases Nat.lt_or_ge i (z_rdy (z_nd m) S) with e | e
      · rw [r3 i e] at hf; cases hf
      · rw [show z_rdy (z_nd m) S = i by omega] at k; exact k
    have go : z_free (z_nd m) S i = false → i + 1 ≤ z_rdy (z_nd m) S := by
      intro hf
      rcases Nat.lt_or_ge i (z_rdy (z_nd m) S) with e | e
      · exact e
      · rw [show z_rdy (z_nd m) S = i by omega, hf] at r2; cases r2
    have hset := z_set_and (p := i) hx (hnd i hi)
    refine ⟨fun z => ?_, fun z => ⟨vin hi (by omega), fun z1 => ?_, fun z1 => ?_⟩⟩
    · refine ih _ ⟨rfl, go ?_⟩
      have : S i = false := by
        cases e : S i with
        | false => rfl
        | true => rw [e] at z; exact absurd z (by decide)
      unfold z_free; rw [this]; rfl
    · have : S i = true := by
        cases e : S i with
        | true => rfl
        | false => rw [e] at z; exact absurd rfl z
      refine stop ?_
      unfold z_free; rw [this, hset.mp z1]; rfl
    · refine ih _ ⟨rfl, go ?_⟩
      unfold z_free
      have : (List.range 6).any (fun q => z_nd m i q && S q) = true := by
        cases e : (List.range 6).any (fun q => z_nd m i q && S q) with
        | true => rfl
        | false => exact absurd (hset.mpr e) z1
      rw [this]; simp
theorem s_gettingUp {m : q_S} {t : Nat} {h : q_H} {Q : Int32 → q_H → Prop} (hok : z_ok m) (hc : z_C m h) (ht : t < 64) (k : ∀ x, z_set (z_up m t) x → Q x h) : wp_X4_gettingUp (nI t) h Q := by
  have hnp := hok.1.1
  unfold wp_X4_gettingUp
  refine pk_loop (σ := Int32 × q_H) (fun n i s => lp_X4_gettingUp_4 (nI t) (fun x _ g => Q x g) n s.1 (nI i) s.2) (fun i s => s.2 = h ∧ ∀ q, q < 32 → bt s.1 q = (decide (q < i) && z_up m t q)) (z_np m) 0 (0, h) (by omega) ⟨rfl, fun q _ => by show bt 0 q = _; rw [b_0, decide_eq_false (by omega)]; rfl⟩ ?_ ?_
  · rintro n ⟨x, g⟩ ⟨e, hx⟩
    have e : g = h := e
    subst e
    have hx : ∀ q, q < 32 → bt x q = (decide (q < z_np m) && z_up m t q) := hx
    unfold lp_X4_gettingUp_4
    rw [hc.1]
    refine ⟨fun _ => k x (fun q hq => ?_), fun z => absurd (nI_le (Nat.le_refl _) (by omega)) z⟩
    rw [hx q hq]
    by_cases e : q < z_np m
    · rw [decide_eq_true e, decide_eq_true (by omega)]
    · have : z_up m t q = false := by unfold z_up; rw [decide_eq_false e]; rfl
      rw [this, Bool.and_false, Bool.and_false]
  · rintro n i ⟨x, g⟩ hi ⟨e, hx⟩ ih
    have e : g = h := e
    subst e
    have hx : ∀ q, q < 32 → bt x q = (decide (q < i) && z_up m t q) := hx
    have stay : z_up m t i = false → ∀ q, q < 32 → bt x q = (decide (q < i + 1) && z_up m t q) := by
      intro hf q hq
      rw [hx q hq]
      by_cases e : q = i
      · subst e; rw [hf, Bool.and_false, Bool.and_false]
      · congr 1
        by_cases e2 : q < i
        · rw [decide_eq_true e2, decide_eq_true (by omega)]
        · rw [decide_eq_false e2, decide_eq_false (by omega)]
    have put : z_up m t i = true → ∀ q, q < 32 → bt (x ||| ((1 : Int32) <<< (nI i &&& 31))) q = (decide (q < i + 1) && z_up m t q) := by
      intro hf q hq
      rw [b_or, b_one (by omega) hq, hx q hq]
      by_cases e : q = i
      · subst e; simp [hf]
      · by_cases e2 : q < i
        · simp [e, e2, show q < i + 1 by omega]
        · simp [e, e2, show ¬ q < i + 1 by omega]
    unfold lp_X4_gettingUp_4
    rw [hc.1]
    refine ⟨fun z => absurd z (nle hi (by omega)), fun _ => ?_⟩
    refine s_ticks hc.rows (by omega) (fun y hy => ?_)
    have hup : z_up m t i = (z_w m (-1) i t && !(decide (0 < t) && z_w m (-1) i (t - 1))) := by unfold z_up; rw [decide_eq_true hi, Bool.true_and]
    rw [nI_1 i]
    refine ⟨fun z => ?_, fun z => ?_⟩
    · have t0 : t = 0 := by
        rcases Nat.eq_zero_or_pos t with e | e
        · exact e
        · exact absurd z (show ¬ nI t ≤ nI 0 from nle e (by omega))
      refine s_hasTick ht ?_
      rw [hy t ht]
      rw [t0, decide_eq_false (by omega), Bool.false_and, Bool.not_false, Bool.and_true] at hup
      refine ⟨fun z1 => ih (_, _) ⟨rfl, stay ?_⟩, fun z1 => ih (_, _) ⟨rfl, put ?_⟩⟩
      · rw [t0, hup]
        cases e : z_w m (-1) i t with
        | false => rw [t0] at e; exact e
        | true => rw [e] at z1; exact absurd z1 (by decide)
      · rw [t0, hup]
        cases e : z_w m (-1) i t with
        | true => rw [t0] at e; exact e
        | false => rw [e] at z1; exact absurd rfl z1
    · have t0 : 0 < t := by
        rcases Nat.eq_zero_or_pos t with e | e
        · exact absurd (show nI t ≤ nI 0 by rw [e]; exact nI_le (Nat.le_refl _) (by omega)) z
        · exact e
      rw [decide_eq_true t0, Bool.true_and] at hup
      have ep : nI t - 1 = nI (t - 1) := by
        have := nI_pred (t - 1)
        rwa [show t - 1 + 1 = t by omega] at this
      rw [ep]
      refine s_hasTick (by omega) ?_
      rw [hy (t - 1) (by omega)]
      refine ⟨fun z1 => ?_, fun z1 => ?_⟩
      · have e1 : z_w m (-1) i (t - 1) = false := by
          cases e : z_w m (-1) i (t - 1) with
          | false => rfl
          | true => rw [e] at z1; exact absurd z1 (by decide)
        rw [e1, Bool.not_false, Bool.and_true] at hup
        refine s_hasTick ht ?_
        rw [hy t ht]
        refine ⟨fun z2 => ih (_, _) ⟨rfl, stay ?_⟩, fun z2 => ih (_, _) ⟨rfl, put ?_⟩⟩
        · rw [hup]
          cases e : z_w m (-1) i t with
          | false => rfl
          | true => rw [e] at z2; exact absurd z2 (by decide)
        · rw [hup]
          cases e : z_w m (-1) i t with
          | true => rfl
          | false => rw [e] at z2; exact absurd rfl z2
      · have e1 : z_w m (-1) i (t - 1) = true := by
          cases e : z_w m (-1) i (t - 1) with
          | true => rfl
          | false => rw [e] at z1; exact absurd rfl z1
        rw [e1, Bool.not_true, Bool.and_false] at hup
        refine s_hasTick ht ?_
        exact ⟨fun _ => ih (_, _) ⟨rfl, stay hup⟩, fun _ => ih (_, _) ⟨rfl, stay hup⟩⟩
theorem C_order {m : q_S} {a b : Int32} {h : q_H} {Q : Int32 → q_H → Prop} (hok : z_ok m) (hc : z_C m h) (k : Q (v_order m a b) h) : wp_X4_order a b h Q := by
  unfold wp_X4_order v_order at *
  refine s_isTick (fun n => ⟨fun _ => ?_, fun z => absurd rfl z⟩) (fun t ht e ha => ⟨fun z => absurd z (by decide), fun _ => ⟨fun z => ?_, fun z => ?_⟩⟩)
  · rw [if_neg (fun q => n q.1)] at k; exact k
  · have hn : ¬ b < 0 := by
      rw [Int32.lt_iff_toInt_lt]
      have := Int32.le_iff_toInt_le.mp z
      omega
    obtain ⟨i, hi, e2⟩ := nI_of hn
    rw [if_pos ⟨ha, hn⟩] at k
    subst e; subst e2
    rw [cl (by omega), cl hi] at k
    refine s_gettingUp hok hc ht (fun x hx => ?_)
    -- n rounds are done, n ≤ i
    refine pk_loop (σ := Int32 × q_H) (fun f n s => lp_X4_order_22 (nI i) Q (fun _ _ g => Q (-1) g) f s.1 (nI n) s.2) (fun n s => s.2 = h ∧ n ≤ i ∧ ∃ S, z_set S s.1 ∧ z_ordv (z_nd m) 6 (z_up m t) i = z_ordv (z_nd m) (6 - n) S (i - n)) 6 0 (x, h) (by omega) ⟨rfl, Nat.zero_le _, z_up m t, hx, rfl⟩ ?_ ?_
    · rintro n ⟨y, g⟩ ⟨e, h1, S, hS, he⟩
      have e : g = h := e
      subst e
      unfold lp_X4_order_22
      refine ⟨fun _ => ?_, fun z => absurd (show nI 6 ≤ nI 6 from nI_le (by omega) (by omega)) z⟩
      rw [he] at k
      exact k
    · rintro f n ⟨y, g⟩ hn6 ⟨e, h1, S, hS, he⟩ ih
      have e : g = h := e
      subst e
      have hS : z_set S y := hS
      unfold lp_X4_order_22
      rw [show 6 - n = (6 - (n + 1)) + 1 by omega] at he
      refine ⟨fun z => absurd z (show ¬ nI 6 ≤ nI n from nle hn6 (by omega)), fun _ => ⟨fun z1 => ?_, fun z1 => ?_⟩⟩
      · have e0 := (z_set_0 hS).mp z1
        have he : _ = (if z_some S = true then _ else _) := he
        rw [e0] at he
        rw [he] at k
        exact k
      · have e0 : z_some S = true := by
          cases e : z_some S with
          | true => rfl
          | false => exact absurd ((z_set_0 hS).mpr e) z1
        obtain ⟨r1, _, _⟩ := z_rdy_ok hok.2.2.2.2.2.2.1.2 e0
        have he : z_ordv (z_nd m) 6 (z_up m t) i = (if z_some S = true then (if i - n = 0 then nI (z_rdy (z_nd m) S) else z_ordv (z_nd m) (6 - (n + 1)) (z_off S (z_rdy (z_nd m) S)) (i - n - 1)) else -1) := he
        rw [if_pos e0] at he
        refine s_leastReady hok hc hS e0 ?_
        rw [nI_1 n]
        refine ⟨fun z2 => ?_, fun z2 => ⟨fun z3 => absurd z3 (w_m1 _ (by omega)), fun _ => ?_⟩⟩
        · have := (nI_eq (by omega) hi).mp z2
          rw [if_pos (by omega)] at he
          rw [he] at k
          exact k
        · have : n ≠ i := fun q => z2 (by rw [q])
          rw [if_neg (by omega)] at he
          exact ih (_, _) ⟨rfl, by omega, _, z_set_off hS r1, by rw [he, show i - n - 1 = i - (n + 1) by omega]⟩
  · have hn : b < 0 := by
      rw [Int32.lt_iff_toInt_lt]
      have : ¬ _ := fun q => z (Int32.le_iff_toInt_le.mpr q)
      omega
    rw [if_neg (fun q => q.2 hn)] at k
    exact k
