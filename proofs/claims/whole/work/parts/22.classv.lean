theorem z_rise_ok {m : q_S} (hok : z_ok m) {p a b c x y z : Nat} (h1 : a ≤ b) (h2 : b ≤ c) (h3 : c ≤ 999) (h4 : x ≤ y) (h5 : y ≤ z) (h6 : z ≤ 9) : z_ok (z_rise m p a b c x y z) := by
  obtain ⟨g1, g4, g5, g7, g8, g9, g10, g12, g13⟩ := hok
  refine ⟨g1, g4, fun q s => ?_, fun q s => ?_, fun q => ?_, g9, g10, g12, g13⟩
  · have := g5 q s
    show (if q = p then (if s = 1 then a else if s = 2 then b else if s = 3 then c else z_co m q s) else z_co m q s) ≤ 999
    repeat' split
    all_goals omega
  · have := g7 q s
    show (if q = p then (if s = 1 then x else if s = 2 then y else if s = 3 then z else z_ri m q s) else z_ri m q s) ≤ 9
    repeat' split
    all_goals omega
  · obtain ⟨e1, e2, e3, e4, e5⟩ := g8 q
    show (if q = p then z_co m q 0 else z_co m q 0) = 0 ∧ (if q = p then z_ri m q 0 else z_ri m q 0) = 0 ∧ (if q = p then x else z_ri m q 1) ≤ (if q = p then y else z_ri m q 2) ∧ (if q = p then y else z_ri m q 2) ≤ (if q = p then z else z_ri m q 3) ∧ _
    refine ⟨by split <;> exact e1, by split <;> exact e2, by split <;> omega, by split <;> omega, e5⟩
theorem C_rise {m : q_S} {p a b c x y z : Int32} {h : q_H} {Q : Int32 → q_H → Prop} (hok : z_ok m) (hc : z_C m h) (k0 : ¬ y_riseOk m p a b c x y z → Q 0 h) (k1 : y_riseOk m p a b c x y z → ∀ g, z_C (z_rise m p.toNatClampNeg a.toNatClampNeg b.toNatClampNeg c.toNatClampNeg x.toNatClampNeg y.toNatClampNeg z.toNatClampNeg) g → z_Fc h g → Q 1 g) : wp_X4_rise p a b c x y z h Q := by
  have hnp := hok.1.1
  obtain ⟨c1, cw, cr⟩ := z_C_iff.mp hc
  unfold wp_X4_rise
  refine s_isPart hok hc.1 (fun n => ⟨fun _ => k0 (fun q => n q.1), fun y => absurd rfl y⟩) (fun j hj e hp => ⟨fun y => absurd y (by decide), fun _ => ?_⟩)
  refine s_rises (fun n => ⟨fun _ => k0 (fun q => n q.2.1), fun y => absurd rfl y⟩) (fun hu => ⟨fun y => absurd y (by decide), fun _ => ?_⟩)
  refine s_rises (fun n => ⟨fun _ => k0 (fun q => n q.2.2), fun y => absurd rfl y⟩) (fun hv => ⟨fun y => absurd y (by decide), fun _ => ?_⟩)
  have k1 := k1 ⟨hp, hu, hv⟩
  obtain ⟨a', b', c', rfl, rfl, rfl, e1, e2, e3⟩ := y_up3_nat (M := 999) (by omega) hu
  obtain ⟨x', y', z', rfl, rfl, rfl, e4, e5, e6⟩ := y_up3_nat (M := 9) (by omega) hv
  subst e
  rw [cl (by omega), cl (by omega), cl (by omega), cl (by omega), cl (by omega), cl (by omega), cl (by omega)] at k1
  rw [cl (by omega)]
  refine ⟨vin (by omega) (by omega), ?_⟩
  unfold wp_X1_setCosts
  refine ⟨vin (by omega) (by omega), ?_⟩
  unfold wp_X1_setRising
  dsimp only
  refine k1 _ ?_ (fun k hk => ?_)
  · rw [z_C_iff]
    refine ⟨?_, ?_, ?_⟩
    · obtain ⟨d1, d2, d3, d4, d5, d6, d7, d8⟩ := c1
      refine ⟨d1, d2, fun p hp s hs => ?_, fun p hp s hs => ?_, d5, d6, d7, d8⟩
      · show (q_sI (q_sI (q_sI h 4 j 1 (nI a')) 4 j 2 (nI b')) 4 j 3 (nI c')).1 4 p s = nI (if p = j then (if s = 1 then a' else if s = 2 then b' else if s = 3 then c' else z_co m p s) else z_co m p s)
        by_cases e : p = j
        · subst e
          rw [if_pos rfl]
          match s, hs with
          | 0, _ => rw [q_sI_o (by omega), q_sI_o (by omega), q_sI_o (by omega)]; exact d3 p (by omega) 0 (by omega)
          | 1, _ => rw [q_sI_o (by omega), q_sI_o (by omega), q_sI_r]; rfl
          | 2, _ => rw [q_sI_o (by omega), q_sI_r]; rfl
          | 3, _ => rw [q_sI_r]; rfl
          | n + 4, hs => omega
        · rw [if_neg e, q_sI_o (by omega), q_sI_o (by omega), q_sI_o (by omega)]
          exact d3 p hp s hs
      · show (q_sI (q_sI (q_sI h 5 j 1 (nI x')) 5 j 2 (nI y')) 5 j 3 (nI z')).1 5 p s = nI (if p = j then (if s = 1 then x' else if s = 2 then y' else if s = 3 then z' else z_ri m p s) else z_ri m p s)
        by_cases e : p = j
        · subst e
          rw [if_pos rfl]
          match s, hs with
          | 0, _ => rw [q_sI_o (by omega), q_sI_o (by omega), q_sI_o (by omega)]; exact d4 p (by omega) 0 (by omega)
          | 1, _ => rw [q_sI_o (by omega), q_sI_o (by omega), q_sI_r]; rfl
          | 2, _ => rw [q_sI_o (by omega), q_sI_r]; rfl
          | 3, _ => rw [q_sI_r]; rfl
          | n + 4, hs => omega
        · rw [if_neg e, q_sI_o (by omega), q_sI_o (by omega), q_sI_o (by omega)]
          exact d4 p hp s hs
    · rw [z_wk_rise]; exact cw
    · intro p hp g hg t ht
      rw [z_W_rise]
      exact cr p hp g hg t ht
  · funext i j
    rw [q_sI_o (by omega), q_sI_o (by omega), q_sI_o (by omega), q_sI_o (by omega), q_sI_o (by omega), q_sI_o (by omega)]
theorem z_rule_ok {m : q_S} (hok : z_ok m) {p a b c : Nat} (hp : p < z_np m) (h1 : a ≤ b) (h2 : b ≤ c) (h3 : c ≤ 64) : z_ok (z_rule m p a b c) := by
  obtain ⟨g1, g4, g5, g7, g8, g9, g10, g12, g13⟩ := hok
  refine ⟨g1, g4, g5, g7, fun q => ?_, fun q => ?_, g10, g12, g13⟩
  · obtain ⟨e1, e2, e3, e4, e5⟩ := g8 q
    refine ⟨e1, e2, e3, e4, fun hq => ?_⟩
    have hq : z_np m ≤ q := hq
    show (if q = p then a else z_ru m q 0) = 64
    rw [if_neg (by omega)]
    exact e5 hq
  · have := g9 q
    show (if q = p then a else z_ru m q 0) ≤ (if q = p then b else z_ru m q 1) ∧ (if q = p then b else z_ru m q 1) ≤ (if q = p then c else z_ru m q 2) ∧ (if q = p then c else z_ru m q 2) ≤ 64
    split
    · omega
    · exact this
/-- the class's half with other thresholds of part p -/
theorem z_C_rule {m : q_S} {p a b c : Nat} {h : q_H} (hc : z_C m h) (hp : p < 6) : z_C (z_rule m p a b c) (q_sI (q_sI (q_sI h 6 p 1 (nI a)) 6 p 2 (nI b)) 6 p 3 (nI c)) := by
  obtain ⟨c1, cw, cr⟩ := z_C_iff.mp hc
  rw [z_C_iff]
  refine ⟨?_, ?_, ?_⟩
  · obtain ⟨d1, d2, d3, d4, d5, d6, d7, d8⟩ := c1
    refine ⟨d1, d2, d3, d4, fun q hq => ?_, d6, d7, d8⟩
    show _ = _ ∧ _ = nI (if q = p then a else z_ru m q 0) ∧ _ = nI (if q = p then b else z_ru m q 1) ∧ _ = nI (if q = p then c else z_ru m q 2) ∧ _
    obtain ⟨f0, f1, f2, f3, f4⟩ := d5 q hq
    by_cases e : q = p
    · subst e
      rw [if_pos rfl, if_pos rfl, if_pos rfl]
      refine ⟨?_, ?_, ?_, q_sI_r, ?_⟩
      · rw [q_sI_o (by omega), q_sI_o (by omega), q_sI_o (by omega)]; exact f0
      · rw [q_sI_o (by omega), q_sI_o (by omega), q_sI_r]
      · rw [q_sI_o (by omega), q_sI_r]
      · rw [q_sI_o (by omega), q_sI_o (by omega), q_sI_o (by omega)]; exact f4
    · rw [if_neg e, if_neg e, if_neg e, q_sI_o (by omega), q_sI_o (by omega), q_sI_o (by omega), q_sI_o (by omega), q_sI_o (by omega), q_sI_o (by omega), q_sI_o (by omega), q_sI_o (by omega), q_sI_o (by omega), q_sI_o (by omega), q_sI_o (by omega), q_sI_o (by omega), q_sI_o (by omega), q_sI_o (by omega), q_sI_o (by omega)]
      exact ⟨f0, f1, f2, f3, f4⟩
  · rw [z_wk_rule]; exact cw
  · intro p hp g hg t ht
    rw [z_W_rule]
    exact cr p hp g hg t ht
theorem z_Fc_rule {h : q_H} {p : Nat} {x y z : Int32} : z_Fc h (q_sI (q_sI (q_sI h 6 p 1 x) 6 p 2 y) 6 p 3 z) := by
  intro k hk
  funext i j
  rw [q_sI_o (by omega), q_sI_o (by omega), q_sI_o (by omega)]
theorem C_rule {m : q_S} {p a b c : Int32} {h : q_H} {Q : Int32 → q_H → Prop} (hok : z_ok m) (hc : z_C m h) (k0 : ¬ y_ruleOk m p a b c → Q 0 h) (k1 : y_ruleOk m p a b c → ∀ g, z_C (z_rule m p.toNatClampNeg a.toNatClampNeg b.toNatClampNeg c.toNatClampNeg) g → z_Fc h g → Q 1 g) : wp_X4_rule p a b c h Q := by
  have hnp := hok.1.1
  unfold wp_X4_rule
  refine s_isPart hok hc.1 (fun n => ⟨fun _ => k0 (fun q => n q.1), fun y => absurd rfl y⟩) (fun j hj e hp => ⟨fun y => absurd y (by decide), fun _ => ?_⟩)
  refine s_rises (fun n => ⟨fun _ => k0 (fun q => n q.2), fun y => absurd rfl y⟩) (fun hu => ⟨fun y => absurd y (by decide), fun _ => ?_⟩)
  have k1 := k1 ⟨hp, hu⟩
  obtain ⟨a', b', c', rfl, rfl, rfl, e1, e2, e3⟩ := y_up3_nat (M := 64) (by omega) hu
  subst e
  rw [cl (by omega), cl (by omega), cl (by omega), cl (by omega)] at k1
  rw [cl (by omega)]
  refine ⟨vin (by omega) (by omega), ?_⟩
  unfold wp_X1_setThresholds
  exact k1 _ (z_C_rule hc (by omega)) z_Fc_rule
/-- after the needs, holds, timers or wakings have changed: the rows are gathered anew -/
theorem s_regather {m : q_S} {h : q_H} {Q : q_H → Prop} (hok : z_ok m) (hc : z_C1 m h) (hw : ∀ t, t < 64 → tb (h.2 0 0 5) t = z_wk m t) (k : ∀ g, z_C m g → z_Fc h g → Q g) : wp_X4_gatherWants 0 (-1) h Q := by
  refine s_gather hok hc hw (by omega) (fun f hf => k _ ?_ (fun _ _ => rfl))
  rw [z_C_iff]
  refine ⟨hc.ints (fun _ _ => rfl), ?_, ?_⟩
  · rw [q_aL_ne (by omega)]; exact hw
  · rw [q_aL_at]; exact hf
/-! need -/
/-- a set in an int, k rounds of steps from p at least, and within what is closed -/
def z_J (m : q_S) (p k : Nat) (x : Int32) : Prop := (∀ a, a < 32 → 6 ≤ a → bt x a = false) ∧ (∀ a, a < 6 → z_clo (z_nd m) k (fun x => decide (x = p)) a = true → bt x a = true) ∧ ∀ T, z_closed (z_nd m) T → T p = true → ∀ a, a < 6 → bt x a = true → T a = true
/-- in a round from x0 the parts ahead of n are done -/
def z_J1 (m : q_S) (p n : Nat) (x0 x : Int32) : Prop := (∀ a, a < 32 → 6 ≤ a → bt x a = false) ∧ (∀ a, a < 6 → bt x0 a = true → bt x a = true) ∧ (∀ a b, a < n → a < 6 → b < 6 → bt x0 a = true → z_nd m a b = true → bt x b = true) ∧ ∀ T, z_closed (z_nd m) T → T p = true → ∀ a, a < 6 → bt x a = true → T a = true
theorem z_J_0 (m : q_S) {p : Nat} (hp : p < 6) : z_J m p 0 ((1 : Int32) <<< (nI p &&& 31)) := by
  refine ⟨fun a ha h6 => ?_, fun a ha h => ?_, fun T _ hT a ha h => ?_⟩
  · rw [b_one (by omega) ha, decide_eq_false (by omega)]
  · have h : decide (a = p) = true := h
    rw [b_one (by omega) (by omega)]; exact h
  · rw [b_one (by omega) (by omega)] at h
    have : a = p := of_decide_eq_true h
    rw [this]; exact hT
theorem z_J_1 {m : q_S} {p k : Nat} {x : Int32} (h : z_J m p k x) : z_J1 m p 0 x x := ⟨h.1, fun _ _ h => h, fun a b h => absurd h (by omega), h.2.2⟩
theorem z_J_n {m : q_S} {p k : Nat} {x0 x : Int32} (h : z_J m p k x0) (h1 : z_J1 m p 6 x0 x) : z_J m p (k + 1) x := by
  refine ⟨h1.1, fun a ha h2 => ?_, h1.2.2.2⟩
  have h2 : (z_clo (z_nd m) k (fun x => decide (x = p)) a || (List.range 6).any (fun q => z_clo (z_nd m) k (fun x => decide (x = p)) q && z_nd m q a)) = true := h2
  rcases Bool.or_eq_true_iff.mp h2 with h2 | h2
  · exact h1.2.1 a ha (h.2.1 a ha h2)
  · obtain ⟨q, hq, hh⟩ := z_any.mp h2
    obtain ⟨g1, g2⟩ := Bool.and_eq_true_iff.mp hh
    exact h1.2.2.1 q a hq hq ha (h.2.1 q hq g1) g2
theorem z_J_end {m : q_S} {p k : Nat} {x : Int32} (hp : p < 6) (hk : 5 ≤ k) (h : z_J m p k x) : ∀ q, q < 6 → bt x q = z_leads m p q := by
  refine z_clo_eq (S := fun x => decide (x = p)) hk h.2.1 (fun T hT hS a ha h1 => h.2.2 T hT (hS p hp (decide_eq_true rfl)) a ha h1)
theorem s_leadsTo {m : q_S} {p q : Nat} {h : q_H} {Q : Int32 → q_H → Prop} (hc : z_C1 m h) (hp : p < 6) (hq : q < 6) (k : Q (bI (z_leads m p q)) h) : wp_X4_leadsTo (nI p) (nI q) h Q := by
  have hnd := hc.2.2.2.2.2.1
  unfold wp_X4_leadsTo
  refine pk_loop (σ := Int32 × q_H) (fun n i s => lp_X4_leadsTo_7 (nI q) _ n s.1 (nI i) s.2) (fun i s => s.2 = h ∧ 1 ≤ i ∧ z_J m p (i - 1) s.1) 6 1 (_, h) (by omega) ⟨rfl, Nat.le_refl 1, z_J_0 m hp⟩ ?_ ?_
  · rintro n ⟨x, g⟩ ⟨e, h1, hJ⟩
    have e : g = h := e
    subst e
    have hJ : z_J m p 5 x := hJ
    unfold lp_X4_leadsTo_7
    refine ⟨fun _ => ?_, fun z => absurd (show nI 6 ≤ nI 6 from nI_le (by omega) (by omega)) z⟩
    refine s_hasPart (by omega) ?_
    rw [z_J_end hp (Nat.le_refl 5) hJ q hq]
    refine ⟨?_, k⟩
    cases z_leads m p q
    · left; rfl
    · right; rfl
  · rintro n i ⟨x0, g⟩ hi ⟨e, h1, hJ⟩ ih
    have e : g = h := e
    subst e
    have hJ : z_J m p (i - 1) x0 := hJ
    unfold lp_X4_leadsTo_7
    refine ⟨fun z => absurd z (show ¬ nI 6 ≤ nI i from nle hi (by omega)), fun _ => ?_⟩
    refine pk_loop (σ := Int32 × q_H) (fun n a s => lp_X4_leadsTo_17 (nI q) (nI i) _ n s.1 (nI a) s.2) (fun a s => s.2 = g ∧ z_J1 m p a x0 s.1) 6 0 (x0, g) (by omega) ⟨rfl, z_J_1 hJ⟩ ?_ ?_
    · rintro n2 ⟨x, u⟩ ⟨e, hx⟩
      have e : u = g := e
      subst e
      unfold lp_X4_leadsTo_17
      refine ⟨fun _ => ?_, fun z => absurd (show nI 6 ≤ nI 6 from nI_le (by omega) (by omega)) z⟩
      rw [nI_1 i]
      refine ih (_, _) ⟨rfl, by omega, ?_⟩
      have := z_J_n hJ hx
      rwa [show i - 1 + 1 = i + 1 - 1 by omega] at this
    · rintro n2 a ⟨x, u⟩ ha ⟨e, hx⟩ ih2
      have e : u = g := e
      subst e
      have hx : z_J1 m p a x0 x := hx
      obtain ⟨j1, j2, j3, j4⟩ := hx
      unfold lp_X4_leadsTo_17
      refine ⟨fun z => absurd z (show ¬ nI 6 ≤ nI a from nle ha (by omega)), fun _ => ?_⟩
      refine s_hasPart (by omega) ?_
      rw [nI_1 a, cl (by omega)]
      refine ⟨fun z => ?_, fun z => ⟨vin ha (by omega), ?_⟩⟩
      · have hf : bt x a = false := by
          cases e : bt x a with
          | false => rfl
          | true => rw [e] at z; exact absurd z (by decide)
        refine ih2 (_, _) ⟨rfl, j1, j2, fun b c hb hb6 hc6 h0 hn => ?_, j4⟩
        by_cases e : b = a
        · subst e
          rw [j2 b hb6 h0] at hf; cases hf
        · exact j3 b c (by omega) hb6 hc6 h0 hn
      · have hf : bt x a = true := by
          cases e : bt x a with
          | true => rfl
          | false => rw [e] at z; exact absurd rfl z
        refine ih2 (_, _) ⟨rfl, fun b hb h6 => ?_, fun b hb h0 => ?_, fun b c hb hb6 hc6 h0 hn => ?_, fun T hT hTp b hb h0 => ?_⟩
        · show bt (x ||| _) b = false
          rw [b_or, j1 b hb h6, hnd a ha b hb, decide_eq_false (by omega)]; rfl
        · show bt (x ||| _) b = true
          rw [b_or, j2 b hb h0, Bool.true_or]
        · show bt (x ||| _) c = true
          rw [b_or]
          by_cases e : b = a
          · subst e
            rw [hnd b ha c (by omega), hn, decide_eq_true hc6]; simp
          · rw [j3 b c (by omega) hb6 hc6 h0 hn, Bool.true_or]
        · have h0 : bt (x ||| _) b = true := h0
          rw [b_or, hnd a ha b (by omega), decide_eq_true hb, Bool.true_and] at h0
          rcases Bool.or_eq_true_iff.mp h0 with h0 | h0
          · exact j4 T hT hTp b hb h0
          · exact hT a b ha hb (j4 T hT hTp a ha hf) h0
