/-! ===== Wants: rows of ticks ===== -/
theorem n8 : (8 : Int32) = nI 8 := rfl
theorem n6 : (6 : Int32) = nI 6 := rfl
theorem n64 : (64 : Int32) = nI 64 := rfl
theorem n1' : (1 : Int32) = nI 1 := rfl
theorem idx8 (p g : Nat) : nI p * 8 + nI g = nI (p * 8 + g) := by rw [n8, pk_mul, nI_add]
theorem vin {n N : Nat} (h : n < N) (hN : N < 2 ^ 31) : vp_in (nI n) N := vp_in_nI h hN
theorem cl {n : Nat} (h : n < 2 ^ 31) : (nI n).toNatClampNeg = n := nI_clamp h
theorem nle {a b : Nat} (h : a < b) (hb : b < 2 ^ 31) : ¬ nI b ≤ nI a := nI_ge h hb
theorem s_ticksBy {c p g : Nat} {h : q_H} {Q : Int64 → q_H → Prop} (hp : p < 6) (hg : g < 8) (k : Q (h.2 14 c (p * 8 + g)) h) : wp_X3_ticksBy c (nI g) (nI p) h Q := by
  unfold wp_X3_ticksBy
  rw [idx8, cl (by omega)]
  exact ⟨vin (by omega) (by omega), k⟩
theorem s_add {c p g : Nat} {x : Int64} {h : q_H} {Q : q_H → Prop} (hp : p < 6) (hg : g < 8) (k : Q (q_aL h 14 c (vp_updL (h.2 14 c) (p * 8 + g) (h.2 14 c (p * 8 + g) ||| x)))) : wp_X3_add c (nI g) (nI p) x h Q := by
  unfold wp_X3_add
  rw [idx8, cl (by omega), q_sL_a]
  exact ⟨vin (by omega) (by omega), vin (by omega) (by omega), k⟩
theorem s_clear {c : Nat} {h : q_H} {Q : q_H → Prop} (k : ∀ f : Nat → Int64, (∀ j, j < 48 → f j = 0) → Q (q_aL h 14 c f)) : wp_X3_clear c h Q := by
  unfold wp_X3_clear
  refine pk_loop (σ := q_H) (fun n i s => lp_X3_clear_2 c (fun _ g => Q g) n (nI i) s) (fun i s => ∃ f : Nat → Int64, s = q_aL h 14 c f ∧ ∀ j, j < i → f j = 0) 48 0 h (by omega) ⟨h.2 14 c, (q_aL_self h 14 c).symm, fun j hj => by omega⟩ ?_ ?_
  · rintro n s ⟨f, rfl, hf⟩
    unfold lp_X3_clear_2
    exact ⟨fun _ => k f hf, fun z => absurd (show nI 48 ≤ nI 48 from nI_le (by omega) (by omega)) z⟩
  · rintro n i s hi ⟨f, rfl, hf⟩ ih
    unfold lp_X3_clear_2
    refine ⟨fun z => absurd z (show ¬ nI 48 ≤ nI i from nle hi (by omega)), fun _ => ⟨vin hi (by omega), ?_⟩⟩
    rw [nI_1, cl (by omega), q_sL_a, q_aL_at, q_aL_aL]
    refine ih _ ⟨_, rfl, fun j hj => ?_⟩
    by_cases e : j = i
    · subst e; exact vL_s _ _ _
    · rw [vL_n e]; exact hf j (by omega)
theorem s_addAll {c p q : Nat} {h : q_H} {Q : q_H → Prop} (hp : p < 6) (hq : q < 6) (k : ∀ f : Nat → Int64, (∀ x g, x < 6 → g < 8 → f (x * 8 + g) = if x = q then h.2 14 c (q * 8 + g) ||| h.2 14 c (p * 8 + g) else h.2 14 c (x * 8 + g)) → Q (q_aL h 14 c f)) : wp_X3_addAll c (nI p) (nI q) h Q := by
  unfold wp_X3_addAll
  refine pk_loop (σ := q_H) (fun n i s => lp_X3_addAll_2 c (nI p) (nI q) (fun _ g => Q g) n (nI i) s) (fun i s => ∃ f : Nat → Int64, s = q_aL h 14 c f ∧ ∀ x g, x < 6 → g < 8 → f (x * 8 + g) = if x = q ∧ g < i then h.2 14 c (q * 8 + g) ||| h.2 14 c (p * 8 + g) else h.2 14 c (x * 8 + g)) 8 0 h (by omega) ⟨h.2 14 c, (q_aL_self h 14 c).symm, fun x g _ _ => by rw [if_neg (by omega)]⟩ ?_ ?_
  · rintro n s ⟨f, rfl, hf⟩
    unfold lp_X3_addAll_2
    refine ⟨fun _ => k f (fun x g hx hg => ?_), fun z => absurd (show nI 8 ≤ nI 8 from nI_le (by omega) (by omega)) z⟩
    rw [hf x g hx hg]
    by_cases e : x = q
    · rw [if_pos ⟨e, hg⟩, if_pos e]
    · rw [if_neg (fun z => e z.1), if_neg e]
  · rintro n i s hi ⟨f, rfl, hf⟩ ih
    unfold lp_X3_addAll_2
    refine ⟨fun z => absurd z (show ¬ nI 8 ≤ nI i from nle hi (by omega)), fun _ => ?_⟩
    refine s_ticksBy hp hi ?_
    refine s_add hq hi ?_
    rw [nI_1, q_aL_at, q_aL_aL]
    refine ih _ ⟨_, rfl, fun x g hx hg => ?_⟩
    by_cases e : x * 8 + g = q * 8 + i
    · have e1 : x = q := by omega
      have e2 : g = i := by omega
      subst e1; subst e2
      rw [vL_s, if_pos ⟨rfl, by omega⟩, hf x g hx hg, if_neg (by omega)]
      rw [hf p g hp hg]
      by_cases e3 : p = x
      · subst e3; rw [if_neg (by omega)]
      · rw [if_neg (by omega)]
    · rw [vL_n e, hf x g hx hg]
      by_cases e1 : x = q ∧ g < i
      · rw [if_pos e1, if_pos ⟨e1.1, by omega⟩]
      · rw [if_neg e1, if_neg (by omega)]
theorem s_ticksOf {c p : Nat} {h : q_H} {Q : Int64 → q_H → Prop} (hp : p < 6) (k : ∀ x : Int64, (∀ t, tb x t = (List.range 8).any (fun g => tb (h.2 14 c (p * 8 + g)) t)) → Q x h) : wp_X3_ticksOf c (nI p) h Q := by
  unfold wp_X3_ticksOf
  refine pk_loop (σ := Int64 × q_H) (fun n i s => lp_X3_ticksOf_5 c (nI p) (fun x _ g => Q x g) n s.1 (nI i) s.2) (fun i s => s.2 = h ∧ ∀ t, tb s.1 t = (List.range i).any (fun g => tb (h.2 14 c (p * 8 + g)) t)) 8 0 (0, h) (by omega) ⟨rfl, fun t => tb_0 t⟩ ?_ ?_
  · rintro n ⟨x, g⟩ ⟨e, hx⟩
    have e : g = h := e
    subst e
    unfold lp_X3_ticksOf_5
    exact ⟨fun _ => k x hx, fun z => absurd (show nI 8 ≤ nI 8 from nI_le (by omega) (by omega)) z⟩
  · rintro n i ⟨x, g⟩ hi ⟨e, hx⟩ ih
    have e : g = h := e
    subst e
    unfold lp_X3_ticksOf_5
    refine ⟨fun z => absurd z (show ¬ nI 8 ≤ nI i from nle hi (by omega)), fun _ => ?_⟩
    refine s_ticksBy hp hi ?_
    rw [nI_1]
    refine ih (_, _) ⟨rfl, fun t => ?_⟩
    show tb (x ||| _) t = _
    have hx : ∀ t, tb x t = (List.range i).any (fun g_1 => tb (g.2 14 c (p * 8 + g_1)) t) := hx
    rw [tb_or, hx t, List.range_succ, List.any_append]
    simp
def z_sum (f : Nat → Nat) : Nat → Nat
  | 0 => 0
  | n + 1 => z_sum f n + f n
theorem z_sum_le {f : Nat → Nat} {b : Nat} (h : ∀ i, f i ≤ b) : ∀ n, z_sum f n ≤ n * b
  | 0 => by simp [z_sum]
  | n + 1 => by
    have := z_sum_le h n
    have h2 := h n
    show z_sum f n + f n ≤ (n + 1) * b
    rw [Nat.succ_mul]
    omega
theorem s_programsAt {c p t : Nat} {h : q_H} {Q : Int32 → q_H → Prop} (hp : p < 6) (ht : t < 64) (k : Q (nI (z_sum (fun g => if tb (h.2 14 c (p * 8 + g)) t = true then 1 else 0) 8)) h) : wp_X3_programsAt c (nI p) (nI t) h Q := by
  unfold wp_X3_programsAt
  refine pk_loop (σ := Int32 × q_H) (fun n i s => lp_X3_programsAt_5 c (nI p) (nI t) (fun x _ g => Q x g) n s.1 (nI i) s.2) (fun i s => s.2 = h ∧ s.1 = nI (z_sum (fun g => if tb (h.2 14 c (p * 8 + g)) t = true then 1 else 0) i)) 8 0 (0, h) (by omega) ⟨rfl, rfl⟩ ?_ ?_
  · rintro n ⟨x, g⟩ ⟨e, hx⟩
    have e : g = h := e
    subst e
    unfold lp_X3_programsAt_5
    have hx : x = _ := hx
    subst hx
    exact ⟨fun _ => k, fun z => absurd (show nI 8 ≤ nI 8 from nI_le (by omega) (by omega)) z⟩
  · rintro n i ⟨x, g⟩ hi ⟨e, hx⟩ ih
    have e : g = h := e
    subst e
    have hx : x = _ := hx
    unfold lp_X3_programsAt_5
    refine ⟨fun z => absurd z (show ¬ nI 8 ≤ nI i from nle hi (by omega)), fun _ => ?_⟩
    refine s_ticksBy hp hi ?_
    refine s_hasTick ht ?_
    rw [nI_1]
    refine ⟨fun z => ?_, fun z => ?_⟩
    · refine ih (_, _) ⟨rfl, ?_⟩
      show x = _
      rw [hx]
      show _ = nI (z_sum _ i + _)
      have : ¬ tb (g.2 14 c (p * 8 + i)) t = true := by intro q; rw [if_pos q] at z; exact absurd z (by decide)
      simp [this]
    · refine ih (_, _) ⟨rfl, ?_⟩
      show x + 1 = _
      rw [hx, nI_1]
      show _ = nI (z_sum _ i + _)
      have : tb (g.2 14 c (p * 8 + i)) t = true := by
        cases e : tb (g.2 14 c (p * 8 + i)) t with
        | true => rfl
        | false => rw [e] at z; exact absurd rfl z
      simp [this]
/-- one round and more of needs: what the rows hold -/
def z_hi (nd : Nat → Nat → Bool) (S : Nat → Nat → Nat → Bool) (f : Nat → Int64) : Prop := ∀ g, g < 8 → ∀ t, t < 64 → ∀ T : Nat → Bool, z_closed nd T → (∀ p, p < 6 → S g t p = true → T p = true) → ∀ p, p < 6 → tb (f (p * 8 + g)) t = true → T p = true
def z_lo (nd : Nat → Nat → Bool) (S : Nat → Nat → Nat → Bool) (k : Nat) (f : Nat → Int64) : Prop := ∀ g, g < 8 → ∀ t, t < 64 → ∀ p, p < 6 → z_clo nd k (S g t) p = true → tb (f (p * 8 + g)) t = true
/-- the pairs ahead of (a, b) are done since the rows were f0 -/
def z_mid (nd : Nat → Nat → Bool) (f0 f : Nat → Int64) (a b : Nat) : Prop := ∀ g, g < 8 → ∀ t, t < 64 → (∀ p, p < 6 → tb (f0 (p * 8 + g)) t = true → tb (f (p * 8 + g)) t = true) ∧ ∀ p q, p < 6 → q < 6 → (p < a ∨ p = a ∧ q < b) → nd p q = true → tb (f0 (p * 8 + g)) t = true → tb (f (q * 8 + g)) t = true
theorem z_mid_next {nd : Nat → Nat → Bool} {f0 f : Nat → Int64} {a : Nat} (h : z_mid nd f0 f a 6) : z_mid nd f0 f (a + 1) 0 := fun g hg t ht => ⟨(h g hg t ht).1, fun p q hp hq hpq => (h g hg t ht).2 p q hp hq (by omega)⟩
theorem z_mid_skip {nd : Nat → Nat → Bool} {f0 f : Nat → Int64} {a b : Nat} (h : z_mid nd f0 f a b) (hn : nd a b = false) : z_mid nd f0 f a (b + 1) := fun g hg t ht => ⟨(h g hg t ht).1, fun p q hp hq hpq hd => by
  rcases (by omega : (p < a ∨ p = a ∧ q < b) ∨ (p = a ∧ q = b)) with h1 | ⟨rfl, rfl⟩
  · exact (h g hg t ht).2 p q hp hq h1 hd
  · rw [hn] at hd; cases hd⟩
theorem z_mid_put {nd : Nat → Nat → Bool} {f0 f f1 : Nat → Int64} {a b : Nat} (h : z_mid nd f0 f a b) (ha : a < 6) (hf : ∀ x g, x < 6 → g < 8 → f1 (x * 8 + g) = if x = b then f (b * 8 + g) ||| f (a * 8 + g) else f (x * 8 + g)) : z_mid nd f0 f1 a (b + 1) := by
  have up : ∀ g, g < 8 → ∀ t, t < 64 → ∀ x, x < 6 → tb (f (x * 8 + g)) t = true → tb (f1 (x * 8 + g)) t = true := by
    intro g hg t ht x hx h1
    rw [hf x g hx hg]
    by_cases e : x = b
    · subst e; rw [if_pos rfl, tb_or, h1, Bool.true_or]
    · rw [if_neg e]; exact h1
  intro g hg t ht
  refine ⟨fun p hp h1 => up g hg t ht p hp ((h g hg t ht).1 p hp h1), fun p q hp hq hpq hd h1 => ?_⟩
  rcases (by omega : (p < a ∨ p = a ∧ q < b) ∨ (p = a ∧ q = b)) with h2 | ⟨rfl, rfl⟩
  · exact up g hg t ht q hq ((h g hg t ht).2 p q hp hq h2 hd h1)
  · rw [hf q g hq hg, if_pos rfl, tb_or, (h g hg t ht).1 p hp h1, Bool.or_true]
theorem z_hi_put {nd : Nat → Nat → Bool} {S : Nat → Nat → Nat → Bool} {f f1 : Nat → Int64} {a b : Nat} (h : z_hi nd S f) (ha : a < 6) (hb : b < 6) (hn : nd a b = true) (hf : ∀ x g, x < 6 → g < 8 → f1 (x * 8 + g) = if x = b then f (b * 8 + g) ||| f (a * 8 + g) else f (x * 8 + g)) : z_hi nd S f1 := by
  intro g hg t ht T hT hS p hp h1
  rw [hf p g hp hg] at h1
  by_cases e : p = b
  · subst e
    rw [if_pos rfl, tb_or] at h1
    rcases Bool.or_eq_true_iff.mp h1 with h1 | h1
    · exact h g hg t ht T hT hS p hp h1
    · exact hT a p ha hp (h g hg t ht T hT hS a ha h1) hn
  · rw [if_neg e] at h1
    exact h g hg t ht T hT hS p hp h1
theorem z_lo_next {nd : Nat → Nat → Bool} {S : Nat → Nat → Nat → Bool} {k : Nat} {f0 f : Nat → Int64} (h : z_lo nd S k f0) (hm : z_mid nd f0 f 6 0) : z_lo nd S (k + 1) f := by
  intro g hg t ht p hp h1
  have h1 : (z_clo nd k (S g t) p || (List.range 6).any (fun q => z_clo nd k (S g t) q && nd q p)) = true := h1
  rcases Bool.or_eq_true_iff.mp h1 with h1 | h1
  · exact (hm g hg t ht).1 p hp (h g hg t ht p hp h1)
  · obtain ⟨q, hq, hh⟩ := z_any.mp h1
    obtain ⟨a1, a2⟩ := Bool.and_eq_true_iff.mp hh
    exact (hm g hg t ht).2 q p hq hp (by omega) a2 (h g hg t ht q hq a1)
theorem s_spread {c : Nat} {nd : Nat → Nat → Bool} {S : Nat → Nat → Nat → Bool} {h : q_H} {Q : q_H → Prop} (hnd : ∀ p, p < 6 → ∀ q, q < 6 → bt (h.1 7 0 p) q = nd p q) (hS : ∀ p g, p < 6 → g < 8 → ∀ t, t < 64 → tb (h.2 14 c (p * 8 + g)) t = S g t p)
    (k : ∀ f : Nat → Int64, (∀ p g, p < 6 → g < 8 → ∀ t, t < 64 → tb (f (p * 8 + g)) t = z_clo nd 6 (S g t) p) → Q (q_aL h 14 c f)) : wp_X3_spread c h Q := by
  unfold wp_X3_spread
  refine pk_loop (σ := q_H) (fun n i s => lp_X3_spread_2 c (fun _ g => Q g) n (nI i) s) (fun i s => ∃ f : Nat → Int64, s = q_aL h 14 c f ∧ 1 ≤ i ∧ z_hi nd S f ∧ z_lo nd S (i - 1) f) 6 1 h (by omega) ⟨h.2 14 c, (q_aL_self h 14 c).symm, Nat.le_refl 1, ?_, ?_⟩ ?_ ?_
  · intro g hg t ht T hT hs p hp h1
    rw [hS p g hp hg t ht] at h1
    exact hs p hp h1
  · intro g hg t ht p hp h1
    rw [hS p g hp hg t ht]
    exact h1
  · rintro n s ⟨f, rfl, h1i, hh, hl⟩
    unfold lp_X3_spread_2
    refine ⟨fun _ => k f (fun p g hp hg t ht => ?_), fun z => absurd (show nI 6 ≤ nI 6 from nI_le (by omega) (by omega)) z⟩
    exact z_clo_eq (b := fun p => tb (f (p * 8 + g)) t) (k := 5) (by omega) (fun p hp h1 => hl g hg t ht p hp h1) (fun T hT hs p hp h1 => hh g hg t ht T hT hs p hp h1) p hp
  · rintro n i s hi ⟨f0, rfl, h1i, hh, hl⟩ ih
    unfold lp_X3_spread_2
    refine ⟨fun z => absurd z (show ¬ nI 6 ≤ nI i from nle hi (by omega)), fun _ => ?_⟩
    refine pk_loop (σ := q_H) (fun n a s => lp_X3_spread_10 c (nI i) (fun _ g => lp_X3_spread_2 c (fun _ g => Q g) _ (nI i + 1) g) n (nI a) s) (fun a s => ∃ f : Nat → Int64, s = q_aL h 14 c f ∧ z_hi nd S f ∧ z_mid nd f0 f a 0) 6 0 _ (by omega) ⟨f0, rfl, hh, fun g hg t ht => ⟨fun _ _ h => h, fun p q _ _ hpq => by omega⟩⟩ ?_ ?_
    · rintro n2 s ⟨f, rfl, hh2, hm⟩
      unfold lp_X3_spread_10
      refine ⟨fun _ => ?_, fun z => absurd (show nI 6 ≤ nI 6 from nI_le (by omega) (by omega)) z⟩
      rw [nI_1 i]
      refine ih _ ⟨f, rfl, by omega, hh2, ?_⟩
      have := z_lo_next hl hm
      rwa [show i - 1 + 1 = i + 1 - 1 by omega] at this
    · rintro n2 a s ha ⟨f, rfl, hh2, hm⟩ ih2
      unfold lp_X3_spread_10
      refine ⟨fun z => absurd z (show ¬ nI 6 ≤ nI a from nle ha (by omega)), fun _ => ?_⟩
      refine pk_loop (σ := q_H) (fun n b s => lp_X3_spread_19 c (nI i) (nI a) (fun _ g => lp_X3_spread_10 c (nI i) _ _ (nI a + 1) g) n (nI b) s) (fun b s => ∃ f : Nat → Int64, s = q_aL h 14 c f ∧ z_hi nd S f ∧ z_mid nd f0 f a b) 6 0 _ (by omega) ⟨f, rfl, hh2, hm⟩ ?_ ?_
      · rintro n3 s ⟨f1, rfl, hh3, hm3⟩
        unfold lp_X3_spread_19
        refine ⟨fun _ => ?_, fun z => absurd (show nI 6 ≤ nI 6 from nI_le (by omega) (by omega)) z⟩
        rw [nI_1 a]
        exact ih2 _ ⟨f1, rfl, hh3, z_mid_next hm3⟩
      · rintro n3 b s hb ⟨f1, rfl, hh3, hm3⟩ ih3
        unfold lp_X3_spread_19
        refine ⟨fun z => absurd z (show ¬ nI 6 ≤ nI b from nle hb (by omega)), fun _ => ⟨vin ha (by omega), ?_⟩⟩
        rw [cl (by omega)]
        refine s_hasPart (by omega) ?_
        have hb2 : bt ((q_aL h 14 c f1).1 7 0 a) b = nd a b := hnd a ha b hb
        rw [hb2, nI_1 b]
        refine ⟨fun z => ?_, fun z => ?_⟩
        · have hn : nd a b = false := by
            cases e : nd a b with
            | false => rfl
            | true => rw [e] at z; exact absurd z (by decide)
          exact ih3 _ ⟨f1, rfl, hh3, z_mid_skip hm3 hn⟩
        · have hn : nd a b = true := by
            cases e : nd a b with
            | true => rfl
            | false => rw [e] at z; exact absurd rfl z
          refine s_addAll ha hb (fun f2 hf2 => ?_)
          rw [q_aL_at] at hf2
          rw [q_aL_aL]
          exact ih3 _ ⟨f2, rfl, z_hi_put hh3 ha hb hn hf2, z_mid_put hm3 ha hf2⟩
