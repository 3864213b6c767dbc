/-! ===== what a part drains in a span: plan and rule, as numbers ===== -/
def bI (b : Bool) : Int32 := if b = true then 1 else 0
theorem bI_0 {b : Bool} : bI b = 0 ↔ b = false := by cases b <;> decide
def z_cost (m : q_S) (p s len : Nat) (last : Bool) : Nat := if last = true then len * z_dr m p s else (len - z_ri m p s) * z_dr m p s + z_ri m p s * z_dr m p 0 + z_co m p s
def z_can (m : q_S) (p s len : Nat) (last : Bool) : Prop := last = true ∨ z_ri m p s ≤ len
def z_bst (m : q_S) (p len : Nat) (last : Bool) : Nat → Nat
  | 0 => 0
  | s + 1 => if (last = true ∨ z_ri m p s ≤ len) ∧ z_cost m p s len last < z_cost m p (z_bst m p len last s) len last then s else z_bst m p len last s
def z_best (m : q_S) (p len : Nat) (last : Bool) : Nat := z_bst m p len last 4
theorem z_cost_le {m : q_S} (hok : z_ok m) {p s len : Nat} {last : Bool} (hl : len ≤ 64) : z_cost m p s len last ≤ 8226 := by
  obtain ⟨_, hd, hc, hr, _⟩ := hok
  have h1 := hd p s; have h2 := hd p 0; have h3 := hc p s; have h4 := hr p s
  unfold z_cost
  split
  · have : len * z_dr m p s ≤ 64 * 99 := Nat.mul_le_mul hl h1
    omega
  · have a : (len - z_ri m p s) * z_dr m p s ≤ 64 * 99 := Nat.mul_le_mul (by omega) h1
    have b : z_ri m p s * z_dr m p 0 ≤ 9 * 99 := Nat.mul_le_mul h4 h2
    omega
theorem z_bst_can {m : q_S} (hok : z_ok m) (p len : Nat) (last : Bool) : ∀ s, z_can m p (z_bst m p len last s) len last
  | 0 => Or.inr (by show z_ri m p 0 ≤ len; rw [(hok.2.2.2.2.1 p).2.1]; exact Nat.zero_le _)
  | s + 1 => by
    show z_can m p (if _ then _ else _) len last
    split
    · next h => exact h.1
    · exact z_bst_can hok p len last s
theorem z_bst_lt (m : q_S) (p len : Nat) (last : Bool) : ∀ s, z_bst m p len last s < s + 1
  | 0 => Nat.lt_succ_self 0
  | s + 1 => by
    show (if _ then _ else _) < s + 2
    have := z_bst_lt m p len last s
    split <;> omega
theorem z_best_lt (m : q_S) (p len : Nat) (last : Bool) : z_best m p len last < 4 := by
  have h3 := z_bst_lt m p len last 3
  unfold z_best
  show (if _ then _ else _) < 4
  split <;> omega
/-- a part's numbers -/
def z_P (m : q_S) (p : Nat) (h : q_H) : Prop := ∀ s, s < 4 → h.1 3 p s = nI (z_dr m p s) ∧ h.1 4 p s = nI (z_co m p s) ∧ h.1 5 p s = nI (z_ri m p s)
def z_T (p a b c : Nat) (h : q_H) : Prop := h.1 6 p 0 = nI 0 ∧ h.1 6 p 1 = nI a ∧ h.1 6 p 2 = nI b ∧ h.1 6 p 3 = nI c ∧ h.1 6 p 4 = nI 64
theorem z_C1.P {m : q_S} {h : q_H} (c : z_C1 m h) {p : Nat} (hp : p < 6) : z_P m p h := fun s hs => ⟨c.2.1 p hp s hs, c.2.2.1 p hp s hs, c.2.2.2.1 p hp s hs⟩
theorem z_C1.T {m : q_S} {h : q_H} (c : z_C1 m h) {p : Nat} (hp : p < 6) : z_T p (z_ru m p 0) (z_ru m p 1) (z_ru m p 2) h := c.2.2.2.2.1 p hp
theorem s_restIn {m : q_S} {p s len : Nat} {last : Bool} {h : q_H} {Q : Int32 → q_H → Prop} (hP : z_P m p h) (hs : s < 4) (hcan : z_can m p s len last) (k : Q (nI (if last = true then len else len - z_ri m p s)) h) : wp_X1_restIn p (nI s) (nI len) (bI last) h Q := by
  unfold wp_X1_restIn
  rw [cl (by omega), (hP s hs).2.2]
  cases last with
  | true => exact ⟨fun z => absurd z (by decide), fun _ => k⟩
  | false =>
    refine ⟨fun _ => ⟨vin hs (by omega), ?_⟩, fun z => absurd rfl z⟩
    have : z_ri m p s ≤ len := hcan.resolve_left (by decide)
    rw [pk_sub this]
    exact k
theorem s_sumIn {m : q_S} {p s len : Nat} {last : Bool} {h : q_H} {Q : Int32 → q_H → Prop} (hok : z_ok m) (hP : z_P m p h) (hs : s < 4) (hcan : z_can m p s len last) (k : Q (nI (z_cost m p s len last)) h) : wp_X1_sumIn p (nI s) (nI len) (bI last) h Q := by
  unfold wp_X1_sumIn
  refine s_restIn hP hs hcan ?_
  refine ⟨vin hs (by omega), ?_⟩
  rw [cl (by omega), (hP s hs).1, (hP s hs).2.1, (hP 0 (by omega)).1]
  cases last with
  | true =>
    refine ⟨fun z => absurd z (by decide), fun _ => ?_⟩
    have e : nI len * nI (z_dr m p s) + (nI len - nI len) * nI (z_dr m p 0) + 0 = nI (z_cost m p s len true) := by
      rw [pk_sub (Nat.le_refl len), pk_mul, pk_mul, nI_add, show (0 : Int32) = nI 0 from rfl, nI_add]
      congr 1
      simp [z_cost]
    rw [← e] at k
    exact k
  | false =>
    refine ⟨fun _ => ⟨vin hs (by omega), ?_⟩, fun z => absurd rfl z⟩
    have hle : z_ri m p s ≤ len := hcan.resolve_left (by decide)
    have e : nI (len - z_ri m p s) * nI (z_dr m p s) + (nI len - nI (len - z_ri m p s)) * nI (z_dr m p 0) + nI (z_co m p s) = nI (z_cost m p s len false) := by
      rw [pk_sub (show len - z_ri m p s ≤ len by omega), pk_mul, pk_mul, nI_add, nI_add]
      congr 1
      simp [z_cost, show len - (len - z_ri m p s) = z_ri m p s by omega]
    rw [← e] at k
    exact k
theorem s_best {m : q_S} {p len : Nat} {last : Bool} {h : q_H} {Q : Int32 → q_H → Prop} (hok : z_ok m) (hP : z_P m p h) (hl : len ≤ 64) (k : Q (nI (z_best m p len last)) h) : wp_X1_bestState p (nI len) (bI last) h Q := by
  unfold wp_X1_bestState
  refine pk_loop (σ := Int32 × q_H) (fun n i s => lp_X1_bestState_5 p (nI len) (bI last) (fun x _ g => Q x g) n s.1 (nI i) s.2) (fun i s => s.2 = h ∧ s.1 = nI (z_bst m p len last i)) 4 1 (0, h) (by omega) ⟨rfl, ?_⟩ ?_ ?_
  · show (0 : Int32) = nI (if _ then _ else _)
    rw [if_neg (fun z => Nat.lt_irrefl _ z.2)]
    rfl
  · rintro n ⟨x, g⟩ ⟨e, hx⟩
    have e : g = h := e
    subst e
    have hx : x = nI (z_best m p len last) := hx
    unfold lp_X1_bestState_5
    refine ⟨fun _ => by rw [hx]; exact k, fun z => absurd (show nI 4 ≤ nI 4 from nI_le (by omega) (by omega)) z⟩
  · rintro n i ⟨x, g⟩ hi ⟨e, hx⟩ ih
    have e : g = h := e
    subst e
    have hx : x = nI (z_bst m p len last i) := hx
    subst hx
    have hbc := z_bst_can hok p len last i
    have hbl := z_bst_lt m p len last i
    have hri := hok.2.2.2.1 p i
    have stay : ¬ ((last = true ∨ z_ri m p i ≤ len) ∧ z_cost m p i len last < z_cost m p (z_bst m p len last i) len last) → z_bst m p len last (i + 1) = z_bst m p len last i := fun q => if_neg q
    unfold lp_X1_bestState_5
    refine ⟨fun z => absurd z (show ¬ nI 4 ≤ nI i from nle hi (by omega)), fun _ => ?_⟩
    rw [nI_1 i]
    by_cases hcan : z_can m p i len last
    · refine s_restIn hP hi hcan ?_
      have hb0 : (if last = true then len else len - z_ri m p i) < 2 ^ 31 := by split <;> omega
      refine ⟨fun z => absurd z (nI_pos hb0), fun _ => ?_⟩
      refine s_sumIn hok hP hi hcan ?_
      by_cases hb4 : z_bst m p len last i < 4
      · refine s_sumIn hok hP hb4 hbc ?_
        have c1 := z_cost_le hok (p := p) (s := i) (last := last) hl
        have c2 := z_cost_le hok (p := p) (s := z_bst m p len last i) (last := last) hl
        refine ⟨fun z => ?_, fun z => ?_⟩
        · have := (nI_leI (by omega) (by omega)).mp z
          exact ih (_, _) ⟨rfl, by show nI _ = nI _; rw [stay (fun q => by omega)]⟩
        · have : ¬ z_cost m p (z_bst m p len last i) len last ≤ z_cost m p i len last := fun q => z ((nI_leI (by omega) (by omega)).mpr q)
          refine ih (_, _) ⟨rfl, ?_⟩
          show nI i = nI (if _ then _ else _)
          rw [if_pos ⟨hcan, by omega⟩]
      · omega
    · have hlf : last = false := by
        cases e : last with
        | false => rfl
        | true => exact absurd (Or.inl e) hcan
      subst hlf
      have hgt : len < z_ri m p i := Nat.lt_of_not_le (fun q => hcan (Or.inr q))
      unfold wp_X1_restIn
      rw [cl (by omega), (hP i hi).2.2]
      refine ⟨fun _ => ⟨vin hi (by omega), ?_⟩, fun z => absurd rfl z⟩
      refine ⟨fun _ => ih (_, _) ⟨rfl, by show nI _ = nI _; rw [stay (fun q => hcan q.1)]⟩, fun z => absurd (pk_sneg (by omega) hgt) z⟩
/-! ===== sums over spans ===== -/
def z_ss (w : Nat → Bool) (G : Nat → Nat) (t : Nat) : Nat := if z_st w t = true then G t else 0
theorem z_ss_same {w : Nat → Bool} {G : Nat → Nat} {a : Nat} : ∀ {b : Nat}, a ≤ b → z_cnt w a = z_cnt w b → z_sum (z_ss w G) b = z_sum (z_ss w G) a := by
  intro b h
  induction h with
  | refl => intro _; rfl
  | @step b hab ih =>
    intro hc
    have h1 := z_cnt_up w (a := a) (b := b) hab
    have hn : z_st w b = false := by
      cases e : z_st w b with
      | false => rfl
      | true => rw [z_cnt_st e] at hc; omega
    rw [z_cnt_no hn] at hc
    show z_sum (z_ss w G) b + z_ss w G b = _
    rw [ih hc]
    show _ + (if z_st w b = true then G b else 0) = _
    rw [hn]; rfl
theorem z_ss_eq {w : Nat → Bool} {G : Nat → Nat} {a b : Nat} (h : z_cnt w a = z_cnt w b) : z_sum (z_ss w G) a = z_sum (z_ss w G) b := by
  rcases Nat.le_total a b with e | e
  · exact (z_ss_same e h).symm
  · exact z_ss_same e h.symm
theorem z_ss_st {w : Nat → Bool} {G : Nat → Nat} {s : Nat} (h : z_st w s = true) : z_sum (z_ss w G) (s + 1) = z_sum (z_ss w G) s + G s := by
  show _ + (if z_st w s = true then G s else 0) = _
  rw [if_pos h]
theorem z_ss_le {w : Nat → Bool} {G : Nat → Nat} {B : Nat} (h : ∀ s, s < 64 → G s ≤ B) : ∀ n, n ≤ 64 → z_sum (z_ss w G) n ≤ n * B
  | 0, _ => by simp [z_sum]
  | n + 1, hn => by
    have h1 := z_ss_le (w := w) h n (by omega)
    have h2 := h n (by omega)
    show z_sum (z_ss w G) n + (if z_st w n = true then G n else 0) ≤ (n + 1) * B
    rw [Nat.succ_mul]
    split <;> omega
def z_lst (w : Nat → Bool) (s : Nat) : Bool := decide (s + z_len w s = 64)
theorem s_size {h : q_H} {Q : Int32 → q_H → Prop} (k : Q (h.1 15 0 2) h) : wp_X2_size h Q := k
theorem s_lenOf {w : Nat → Bool} {s : Nat} {h : q_H} {Q : Int32 → q_H → Prop} (hS : z_Sp w h) (hs : s < 64) (hst : z_st w s = true) (k : Q (nI (z_len w s)) h) : wp_X2_lenOf (nI (z_cnt w s)) h Q := by
  have := z_cnt_le w s
  unfold wp_X2_lenOf
  rw [cl (by omega), (hS.2 s hs hst).2]
  exact ⟨vin (by omega) (by omega), k⟩
theorem s_firstOf {w : Nat → Bool} {s : Nat} {h : q_H} {Q : Int32 → q_H → Prop} (hS : z_Sp w h) (hs : s < 64) (hst : z_st w s = true) (k : Q (nI s) h) : wp_X2_firstOf (nI (z_cnt w s)) h Q := by
  have := z_cnt_le w s
  unfold wp_X2_firstOf
  rw [cl (by omega), (hS.2 s hs hst).1]
  exact ⟨vin (by omega) (by omega), k⟩
theorem s_endsAll {w : Nat → Bool} {s : Nat} {h : q_H} {Q : Int32 → q_H → Prop} (hS : z_Sp w h) (hs : s < 64) (hst : z_st w s = true) (k : Q (bI (z_lst w s)) h) : wp_X2_endsAll (nI (z_cnt w s)) h Q := by
  have := z_cnt_le w s
  have hl := z_len_le w (show s ≤ 64 by omega)
  unfold wp_X2_endsAll
  rw [cl (by omega), (hS.2 s hs hst).1, (hS.2 s hs hst).2, nI_add]
  refine ⟨vin (by omega) (by omega), vin (by omega) (by omega), fun z => ?_, fun z => ?_⟩
  · have e := (nI_eq (a := s + z_len w s) (b := 64) (by omega) (by omega)).mp z
    rw [show z_lst w s = true from decide_eq_true e] at k
    exact k
  · have e : ¬ s + z_len w s = 64 := fun q => z (by rw [q]; rfl)
    rw [show z_lst w s = false from decide_eq_false e] at k
    exact k
def z_G (m : q_S) (p : Nat) (w : Nat → Bool) (s : Nat) : Nat := z_cost m p (z_best m p (z_len w s) (z_lst w s)) (z_len w s) (z_lst w s)
theorem z_G_le {m : q_S} (hok : z_ok m) (p : Nat) (w : Nat → Bool) : ∀ s, s < 64 → z_G m p w s ≤ 8226 := fun s hs => z_cost_le hok (by have := z_len_le w (show s ≤ 64 by omega); omega)
theorem s_planned {m : q_S} {p : Nat} {w : Nat → Bool} {h : q_H} {Q : Int32 → q_H → Prop} (hok : z_ok m) (hP : z_P m p h) (hS : z_Sp w h) (k : Q (nI (z_sum (z_ss w (z_G m p w)) 64)) h) : wp_X1_planned p h Q := by
  have hc64 := z_cnt_le w 64
  unfold wp_X1_planned
  refine pk_loop (σ := Int32 × q_H) (fun n i s => lp_X1_planned_4 p (fun x _ g => Q x g) n s.1 (nI i) s.2) (fun i s => s.2 = h ∧ ∀ n, n ≤ 64 → z_cnt w n = i → s.1 = nI (z_sum (z_ss w (z_G m p w)) n)) (z_cnt w 64) 0 (0, h) (by omega) ⟨rfl, fun n _ hn => ?_⟩ ?_ ?_
  · show (0 : Int32) = _
    rw [z_ss_eq (a := n) (b := 0) hn]; rfl
  · rintro n ⟨x, g⟩ ⟨e, hx⟩
    have e : g = h := e
    subst e
    have hx : x = _ := hx 64 (Nat.le_refl _) rfl
    unfold lp_X1_planned_4
    refine s_size ?_
    rw [hS.1]
    refine ⟨fun _ => by rw [hx]; exact k, fun z => absurd (nI_le (Nat.le_refl _) (by omega)) z⟩
  · rintro n i ⟨x, g⟩ hi ⟨e, hx⟩ ih
    have e : g = h := e
    subst e
    obtain ⟨s, hs, hst, hcs⟩ := z_cnt_hit hi
    subst hcs
    have hx : x = nI (z_sum (z_ss w (z_G m p w)) s) := hx s (by omega) rfl
    subst hx
    have hl := z_len_le w (show s ≤ 64 by omega)
    unfold lp_X1_planned_4
    refine s_size ?_
    rw [hS.1]
    refine ⟨fun z => absurd z (nle hi (by omega)), fun _ => ?_⟩
    refine s_lenOf hS hs hst ?_
    refine s_endsAll hS hs hst ?_
    refine s_best hok hP (by omega) ?_
    refine s_sumIn hok hP (z_best_lt _ _ _ _) (z_bst_can hok _ _ _ _) ?_
    rw [nI_1, nI_add]
    refine ih (_, _) ⟨rfl, fun n2 hn2 hc2 => ?_⟩
    show nI _ = nI _
    rw [z_ss_eq (a := n2) (b := s + 1) (by rw [hc2, z_cnt_st hst]), z_ss_st hst]
    rfl
