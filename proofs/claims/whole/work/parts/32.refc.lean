/-! ===== the reference: spans, costs, choices ===== -/
def z_N (m : q_S) (lo : Int32) (h : q_H) : Prop := z_Ml m lo h ∧ z_B m lo h
theorem z_N.k {m : q_S} {lo : Int32} {h g : q_H} (c : z_N m lo h) (a : z_K1 h g) : z_N m lo g := by
  refine ⟨a.K.M c.1, ?_⟩
  unfold z_B
  rw [a.1 27 (by omega)]
  exact c.2
theorem z_w_iff {m : q_S} {lo : Int32} {h : q_H} (hB : z_B m lo h) {p t : Nat} (hp : p < 6) (ht : t < 64) : h.1 27 0 (64 * p + t) = 0 ↔ z_w m lo p t = false := by
  unfold z_w
  rw [z_any_f]
  constructor
  · intro e g hg
    have := hB p hp t ht g (by omega)
    rw [e, b_0, decide_eq_true hg, Bool.true_and] at this
    exact this.symm
  · intro e
    apply b_ext
    intro g hg
    rw [hB p hp t ht g hg, b_0]
    by_cases h8 : g < 8
    · rw [e g h8, Bool.and_false]
    · rw [decide_eq_false h8, Bool.false_and]
theorem s5_isWanted {m : q_S} {lo : Int32} {p t : Nat} {h : q_H} {Q : Int32 → q_H → Prop} (hB : z_B m lo h) (hp : p < 6) (ht : t < 64) (k : Q (bI (z_w m lo p t)) h) : wp_X5_isWanted (nI p) (nI t) h Q := by
  unfold wp_X5_isWanted
  rw [ix64, cl (by omega)]
  refine ⟨vin (by omega) (by omega), fun z => ?_, fun z => ?_⟩
  · rw [(z_w_iff hB hp ht).mp z] at k; exact k
  · rw [ts_nf (fun q => z ((z_w_iff hB hp ht).mpr q))] at k; exact k
theorem s5_run {m : q_S} {lo : Int32} {p t : Nat} {h : q_H} {E : q_H → Prop} (hB : z_N m lo h) (hp : p < 6) (ht : t < 64) (h14 : h.1 18 0 14 = nI t) (h15 : h.1 18 0 15 = 0) (k : ∀ g, z_K1 h g → g.1 18 0 14 = nI t → g.1 18 0 15 = nI (z_len (z_w m lo p) t) → E g) : ∃ n, lp_X5_begins_36 (nI p) (nI t) E n h := by
  have hlen := z_len_le (z_w m lo p) (show t ≤ 64 by omega)
  refine pk_loop (σ := q_H) (fun n _ s => lp_X5_begins_36 (nI p) (nI t) E n s) (fun i s => z_K1 h s ∧ s.1 18 0 14 = nI t ∧ s.1 18 0 15 = nI i) (z_len (z_w m lo p) t) 0 h (by omega) ⟨z_K1.rf h, h14, h15⟩ ?_ ?_
  · rintro n s ⟨a1, a2, a3⟩
    unfold lp_X5_begins_36
    rw [a3, nI_add]
    refine ⟨fun _ => k s a1 a2 a3, fun z => ?_⟩
    have hlt : t + z_len (z_w m lo p) t < 64 := Nat.lt_of_not_le (fun q => z (nI_le q (by omega)))
    refine s5_isWanted (hB.k a1).2 hp hlt ?_
    have hw : z_w m lo p (t + z_len (z_w m lo p) t) = true := z_run_end (z_w m lo p) (64 - t) t (by unfold z_len at hlt; omega)
    rw [hw]
    exact ⟨fun z => absurd z (by decide), fun _ => k s a1 a2 a3⟩
  · rintro n i s hi ⟨a1, a2, a3⟩ ih
    unfold lp_X5_begins_36
    rw [a3, nI_add]
    refine ⟨fun z => absurd z (show ¬ nI 64 ≤ nI (t + i) from nle (by omega) (by omega)), fun _ => ?_⟩
    refine s5_isWanted (hB.k a1).2 hp (by omega) ?_
    rw [z_run_idle (z_w m lo p) (64 - t) t i hi]
    refine ⟨fun _ => ih _ ⟨z_K1_sI (by omega) a1, ?_, ?_⟩, fun z => absurd rfl z⟩
    · rw [q_sI_o (by omega)]; exact a2
    · rw [q_sI_r, a3, nI_1 i]
theorem s5_begins {m : q_S} {lo : Int32} {p t : Nat} {h : q_H} {Q : Int32 → q_H → Prop} (hB : z_N m lo h) (hp : p < 6) (ht : t < 64) (k0 : z_st (z_w m lo p) t = false → Q 0 h) (k1 : z_st (z_w m lo p) t = true → ∀ g, z_K1 h g → g.1 18 0 14 = nI t → g.1 18 0 15 = nI (z_len (z_w m lo p) t) → Q 1 g) : wp_X5_begins (nI p) (nI t) h Q := by
  have run : z_st (z_w m lo p) t = true → ∃ n, lp_X5_begins_36 (nI p) (nI t) (fun g => Q 1 g) n (q_sI (q_sI h 18 0 14 (nI t)) 18 0 15 0) := by
    intro hst
    have a1 : z_K1 h (q_sI (q_sI h 18 0 14 (nI t)) 18 0 15 0) := z_K1_sI (by omega) (z_K1_sI (by omega) (z_K1.rf h))
    exact s5_run (hB.k a1) hp ht (by rw [q_sI_o (by omega)]; exact q_sI_r) q_sI_r (fun g hg b1 b2 => k1 hst g (a1.tr hg) b1 b2)
  unfold wp_X5_begins
  refine s5_isWanted hB.2 hp ht ?_
  cases hw : z_w m lo p t with
  | true => exact ⟨fun z => absurd z (by decide), fun _ => k0 (ts_nt (fun q => by have := (z_st_iff.mp q).1; rw [hw] at this; cases this))⟩
  | false =>
    refine ⟨fun _ => ⟨fun z => ?_, fun z => ?_⟩, fun z => absurd rfl z⟩
    · have : t = 0 := by
        have := (nI_leI (b := 0) (by omega) (by omega)).mp z
        omega
      exact run (z_st_iff.mpr ⟨hw, Or.inl this⟩)
    · obtain ⟨t', rfl⟩ : ∃ t', t = t' + 1 := by
        cases t with
        | zero => exact absurd (show nI 0 ≤ nI 0 from nI_le (Nat.le_refl _) (by omega)) z
        | succ t' => exact ⟨t', rfl⟩
      rw [nI_pred]
      refine s5_isWanted hB.2 hp (by omega) ?_
      cases hw1 : z_w m lo p t' with
      | true => exact ⟨fun z => absurd z (by decide), fun _ => run (z_st_iff.mpr ⟨hw, Or.inr hw1⟩)⟩
      | false =>
        refine ⟨fun _ => k0 (ts_nt (fun q => ?_)), fun z => absurd rfl z⟩
        have := (z_st_iff.mp q).2.resolve_left (by omega)
        rw [show t' + 1 - 1 = t' by omega, hw1] at this
        cases this
/-- the span in hand -/
def z_H (s l : Nat) (h : q_H) : Prop := h.1 18 0 14 = nI s ∧ h.1 18 0 15 = nI l
theorem s5_isLast {s l : Nat} {h : q_H} {Q : Int32 → q_H → Prop} (hH : z_H s l h) (hs : s ≤ 64) (hl : l ≤ 64) (k : Q (bI (decide (s + l = 64))) h) : wp_X5_isLast h Q := by
  unfold wp_X5_isLast
  rw [hH.1, hH.2, nI_add]
  refine ⟨fun z => ?_, fun z => ?_⟩
  · rw [decide_eq_true ((nI_eq (b := 64) (by omega) (by omega)).mp z)] at k; exact k
  · rw [decide_eq_false (fun q => z (by rw [q]; rfl))] at k; exact k
theorem s5_costs {m : q_S} {lo : Int32} {p x s l : Nat} {h : q_H} {Q : Int32 → q_H → Prop} (hc : z_Ml m lo h) (hok : z_ok m) (hp : p < 6) (hx : x < 4) (hH : z_H s l h) (hs : s ≤ 64) (hl : l ≤ 64) (k0 : ¬ z_can m p x l (decide (s + l = 64)) → Q (-1) h) (k1 : z_can m p x l (decide (s + l = 64)) → Q (nI (z_cost m p x l (decide (s + l = 64)))) h) : wp_X5_costs (nI p) (nI x) h Q := by
  have hri := hok.2.2.2.1 p x
  unfold wp_X5_costs
  rw [ix4, ix40, cl (show 4 * p + x < 2 ^ 31 by omega), cl (show 4 * p + 0 < 2 ^ 31 by omega)]
  refine ⟨vin (by omega) (by omega), s5_isLast hH hs hl ?_⟩
  rw [hc.2.1 p hp x hx, hc.2.1 p hp 0 (by omega), hc.2.2.1 p hp x hx, hc.2.2.2.1 p hp x hx, hH.2]
  cases e : decide (s + l = 64) with
  | true =>
    rw [e] at k1
    refine ⟨fun z => absurd z (by decide), fun _ => ?_⟩
    have := k1 (Or.inl rfl)
    rw [show z_cost m p x l true = z_dr m p x * l by simp [z_cost, Nat.mul_comm]] at this
    rw [pk_mul]
    exact this
  | false =>
    rw [e] at k0 k1
    refine ⟨fun _ => ⟨vin (by omega) (by omega), fun z => ⟨vin (by omega) (by omega), vin (by omega) (by omega), ?_⟩, fun z => ?_⟩, fun z => absurd rfl z⟩
    · have hle : z_ri m p x ≤ l := (nI_leI (by omega) (by omega)).mp z
      have := k1 (Or.inr hle)
      rw [show z_cost m p x l false = z_dr m p x * (l - z_ri m p x) + z_dr m p 0 * z_ri m p x + z_co m p x by simp [z_cost, Nat.mul_comm]] at this
      rw [pk_sub hle, pk_mul, pk_mul, nI_add, nI_add]
      exact this
    · refine k0 (fun q => z (nI_le (q.resolve_left (by decide)) (by omega)))
theorem s5_choice {m : q_S} {lo : Int32} {p s l : Nat} {h : q_H} {Q : Int32 → q_H → Prop} (hc : z_Ml m lo h) (hok : z_ok m) (hp : p < 6) (hH : z_H s l h) (hs : s ≤ 64) (hl : l ≤ 64) (k : Q (nI (z_best m p l (decide (s + l = 64)))) h) : wp_X5_choice (nI p) h Q := by
  generalize hlast : decide (s + l = 64) = last at k
  unfold wp_X5_choice
  refine pk_loop (σ := Int32 × q_H) (fun n i s => lp_X5_choice_4 (nI p) (fun x _ g => Q x g) n s.1 (nI i) s.2) (fun i s => s.2 = h ∧ s.1 = nI (z_bst m p l last i)) 4 1 (0, h) (by omega) ⟨rfl, ?_⟩ ?_ ?_
  · show (0 : Int32) = nI (if _ then _ else _)
    rw [if_neg (fun z => Nat.lt_irrefl _ z.2)]
    rfl
  · rintro n ⟨x, g⟩ ⟨e, hx⟩
    have e : g = h := e
    subst e
    have hx : x = nI (z_best m p l last) := hx
    unfold lp_X5_choice_4
    refine ⟨fun _ => by rw [hx]; exact k, fun z => absurd (show nI 4 ≤ nI 4 from nI_le (by omega) (by omega)) z⟩
  · rintro n i ⟨x, g⟩ hi ⟨e, hx⟩ ih
    have e : g = h := e
    subst e
    have hx : x = nI (z_bst m p l last i) := hx
    subst hx
    have hbc := z_bst_can hok p l last i
    have hbl := z_bst_lt m p l last i
    have stay : ¬ ((last = true ∨ z_ri m p i ≤ l) ∧ z_cost m p i l last < z_cost m p (z_bst m p l last i) l last) → z_bst m p l last (i + 1) = z_bst m p l last i := fun q => if_neg q
    have c1 := z_cost_le hok (p := p) (s := i) (last := last) hl
    have c2 := z_cost_le hok (p := p) (s := z_bst m p l last i) (last := last) hl
    have hb4 : z_bst m p l last i < 4 := by
      cases i with
      | zero => show 0 < 4; omega
      | succ i =>
        have := z_bst_lt m p l last i
        show (if _ then _ else _) < 4
        split <;> omega
    unfold lp_X5_choice_4
    refine ⟨fun z => absurd z (show ¬ nI 4 ≤ nI i from nle hi (by omega)), fun _ => ?_⟩
    rw [nI_1 i]
    refine s5_costs hc hok hp hi hH hs hl (fun hn => ?_) (fun hcan => ?_)
    · rw [hlast] at hn
      exact ⟨fun _ => ih (_, _) ⟨rfl, by show nI _ = nI _; rw [stay (fun q => hn q.1)]⟩, fun z => absurd rfl z⟩
    · refine ⟨fun z => absurd z (w_m1 _ (by rw [hlast]; omega)), fun _ => ?_⟩
      refine s5_costs hc hok hp hi hH hs hl (fun hn => absurd hcan hn) (fun _ => ?_)
      refine s5_costs hc hok hp hb4 hH hs hl (fun hn => absurd (by rw [hlast]; exact hbc) hn) (fun _ => ?_)
      rw [hlast]
      rw [hlast] at hcan
      refine ⟨fun z => ?_, fun z => ?_⟩
      · have := (nI_leI (by omega) (by omega)).mp z
        exact ih (_, _) ⟨rfl, by show nI _ = nI _; rw [stay (fun q => by omega)]⟩
      · have : ¬ z_cost m p (z_bst m p l last i) l last ≤ z_cost m p i l last := fun q => z ((nI_leI (by omega) (by omega)).mpr q)
        refine ih (_, _) ⟨rfl, ?_⟩
        show nI i = nI (if _ then _ else _)
        rw [if_pos ⟨hcan, by omega⟩]
