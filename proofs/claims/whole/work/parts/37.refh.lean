/-! ===== the reference: blame, order ===== -/
def z_pop (x : Int32) : Nat → Nat := z_sum (fun g => if bt x g = true then 1 else 0)
theorem s5_bits {x : Int32} {h : q_H} {Q : Int32 → q_H → Prop} (k : Q (nI (z_pop x 8)) h) : wp_X5_bits x h Q := by
  unfold wp_X5_bits
  refine pk_loop (σ := Int32 × q_H) (fun n i s => lp_X5_bits_4 x (fun y _ g => Q y g) n s.1 (nI i) s.2) (fun i s => s.2 = h ∧ s.1 = nI (z_pop x i)) 8 0 (0, h) (by omega) ⟨rfl, rfl⟩ ?_ ?_
  · rintro n ⟨y, u⟩ ⟨e, hx⟩
    have e : u = h := e
    subst e
    have hx : y = _ := hx
    subst hx
    unfold lp_X5_bits_4
    exact ⟨fun _ => k, fun z => absurd (show nI 8 ≤ nI 8 from nI_le (by omega) (by omega)) z⟩
  · rintro n i ⟨y, u⟩ hi ⟨e, hx⟩ ih
    have e : u = h := e
    subst e
    have hx : y = _ := hx
    subst hx
    unfold lp_X5_bits_4
    refine ⟨fun z => absurd z (show ¬ nI 8 ≤ nI i from nle hi (by omega)), fun _ => ?_⟩
    rw [nI_1 i]
    refine ih (_, _) ⟨rfl, ?_⟩
    show nI (z_pop x i) + _ = nI (z_pop x i + (if bt x i = true then 1 else 0))
    cases e : bt x i with
    | true => rw [(b_hitS x (by omega)).mpr e, if_pos rfl, nI_1]
    | false => rw [(b_hitS0 x (by omega)).mpr e, if_neg (by decide), Int32.add_zero, Nat.add_zero]
theorem z_pop_B {m : q_S} {lo : Int32} {h : q_H} (hB : z_B m lo h) {p t : Nat} (hp : p < 6) (ht : t < 64) : z_pop (h.1 27 0 (64 * p + t)) 8 = z_sum (fun x => if z_W m lo p x t = true then 1 else 0) 8 := z_sum_congr 8 (fun x hx => by
  show (if _ then 1 else 0) = (if _ then 1 else 0)
  rw [hB p hp t ht x (by omega), decide_eq_true hx, Bool.true_and])
theorem s5_blame8 {m : q_S} {p b : Nat} {h : q_H} {E : Int32 → Int32 → q_H → Prop} (hok : z_ok m) (hN : z_N m (-1) h) (hp : p < 6) (k : ∀ y g, z_K1 h g → E (nI (b + 840 * z_sum (z_ss (z_w m (-1) p) (z_G m p (z_w m (-1) p))) 64)) y g) : ∃ n, lp_X5_blame_31 8 (nI p) E n (nI b) 0 h := by
  refine pk_loop (σ := Int32 × q_H) (fun n i s => lp_X5_blame_31 8 (nI p) E n s.1 (nI i) s.2) (fun i s => z_K1 h s.2 ∧ s.1 = nI (b + 840 * z_sum (z_ss (z_w m (-1) p) (z_G m p (z_w m (-1) p))) i)) 64 0 (nI b, h) (by omega) ⟨z_K1.rf h, rfl⟩ ?_ ?_
  · rintro n ⟨x, u⟩ ⟨e, hx⟩
    have hx : x = _ := hx
    subst hx
    unfold lp_X5_blame_31
    exact ⟨fun _ => k _ u e, fun z => absurd (show nI 64 ≤ nI 64 from nI_le (by omega) (by omega)) z⟩
  · rintro n t ⟨x, u⟩ ht ⟨e, hx⟩ ih
    have e : z_K1 h u := e
    have hx : x = _ := hx
    subst hx
    have hNu := hN.k e
    unfold lp_X5_blame_31
    refine ⟨fun z => absurd z (show ¬ nI 64 ≤ nI t from nle ht (by omega)), fun _ => ⟨?_, fun _ => ?_, fun z => absurd rfl z⟩⟩
    · rw [ix64]; exact vin (by omega) (by omega)
    rw [nI_1 t]
    refine s5_begins hNu hp ht (fun hs => ⟨fun _ => ⟨fun _ => ?_, fun z => absurd (by decide) z⟩, fun z => absurd rfl z⟩) (fun hs v hv h14 h15 => ⟨fun z => absurd z (by decide), fun _ => ?_⟩)
    · refine ih (_, _) ⟨e, ?_⟩
      show nI _ = nI _
      rw [z_ss_no hs]
    · have hlen := z_len_le (z_w m (-1) p) (show t ≤ 64 by omega)
      have hNv := hNu.k hv
      refine s5_choice hNv.1 hok hp ⟨h14, h15⟩ (by omega) (by omega) ?_
      refine s5_costs hNv.1 hok hp (z_best_lt _ _ _ _) ⟨h14, h15⟩ (by omega) (by omega) (fun n => absurd (z_bst_can hok _ _ _ _) n) (fun _ => ?_)
      refine ⟨fun _ => ?_, fun z => absurd (by decide) z⟩
      refine ih (_, _) ⟨e.tr hv, ?_⟩
      show nI _ + nI 840 * nI (z_G m p (z_w m (-1) p) t) = nI _
      rw [pk_mul, nI_add, z_ss_st hs, Nat.mul_add, Nat.add_assoc]
theorem s5_blameG {m : q_S} {p b g : Nat} {h : q_H} {E : Int32 → Int32 → q_H → Prop} (hok : z_ok m) (hN : z_N m (-1) h) (hp : p < 6) (hg : g < 8) (k : ∀ y, E (nI (b + z_sum (z_shr m p g) 64 * z_dr m p 0)) y h) : ∃ n, lp_X5_blame_31 (nI g) (nI p) E n (nI b) 0 h := by
  have hg8 : ¬ nI g = 8 := fun q => by have := (nI_eq (b := 8) (by omega) (by omega)).mp q; omega
  have hg8' : ¬ (8 : Int32) ≤ nI g := show ¬ nI 8 ≤ nI g from nle hg (by omega)
  refine pk_loop (σ := Int32 × q_H) (fun n i s => lp_X5_blame_31 (nI g) (nI p) E n s.1 (nI i) s.2) (fun i s => s.2 = h ∧ s.1 = nI (b + z_sum (z_shr m p g) i * z_dr m p 0)) 64 0 (nI b, h) (by omega) ⟨rfl, by show nI b = nI (b + 0 * _); rw [Nat.zero_mul]; rfl⟩ ?_ ?_
  · rintro n ⟨x, u⟩ ⟨e, hx⟩
    have e : u = h := e
    subst e
    have hx : x = _ := hx
    subst hx
    unfold lp_X5_blame_31
    exact ⟨fun _ => k _, fun z => absurd (show nI 64 ≤ nI 64 from nI_le (by omega) (by omega)) z⟩
  · rintro n t ⟨x, u⟩ ht ⟨e, hx⟩ ih
    have e : u = h := e
    subst e
    have hx : x = _ := hx
    subst hx
    have hB := hN.2 p hp t ht g (by omega)
    rw [decide_eq_true hg, Bool.true_and] at hB
    unfold lp_X5_blame_31
    refine ⟨fun z => absurd z (show ¬ nI 64 ≤ nI t from nle ht (by omega)), fun _ => ⟨?_, fun z => absurd z hg8, fun _ => ⟨fun z => absurd z hg8', fun _ => ⟨fun z => ?_, fun z => ?_⟩⟩⟩⟩
    · rw [ix64]; exact vin (by omega) (by omega)
    · dsimp only at z ⊢
      rw [ix64, cl (show 64 * p + t < 2 ^ 31 by omega)] at z ⊢
      have hf : z_W m (-1) p g t = true := by rw [← hB]; exact (b_hitS _ (by omega)).mp z
      refine s5_bits ?_
      rw [z_pop_B hN.2 hp ht]
      have hpos : 1 ≤ z_sum (fun x => if z_W m (-1) p x t = true then 1 else 0) 8 := by
        have := z_sum_lt (f := fun _ => 0) (g := fun x => if z_W m (-1) p x t = true then 1 else 0) (j := g) 8 (fun i _ => Nat.zero_le _) hg (by simp [hf])
        have e0 : z_sum (fun _ => 0) 8 = 0 := rfl
        omega
      have hle : z_sum (fun x => if z_W m (-1) p x t = true then 1 else 0) 8 ≤ 8 * 1 := z_sum_le (fun i => by show (if _ then 1 else 0) ≤ 1; split <;> omega) 8
      refine ⟨nI_ne0 (by omega) (by omega), ?_, ?_⟩
      · rw [ix40]; exact vin (by omega) (by omega)
      rw [ix40, cl (show 4 * p + 0 < 2 ^ 31 by omega), hN.1.2.1 p hp 0 (by omega), show (840 : Int32) = nI 840 from rfl, pk_div (by omega) (by omega) (by omega), pk_mul, nI_add, nI_1 t]
      refine ih (_, _) ⟨rfl, ?_⟩
      show nI _ = nI (b + (z_sum (z_shr m p g) t + z_shr m p g t) * z_dr m p 0)
      rw [show z_shr m p g t = 840 / z_sum (fun x => if z_W m (-1) p x t = true then 1 else 0) 8 from if_pos hf, Nat.add_mul, Nat.add_assoc]
    · dsimp only at z ⊢
      rw [ix64, cl (show 64 * p + t < 2 ^ 31 by omega)] at z
      have hf : z_W m (-1) p g t = false := by rw [← hB]; exact ts_nt (fun q => z ((b_hitS _ (by omega)).mpr q))
      rw [nI_1 t]
      refine ih (_, _) ⟨rfl, ?_⟩
      show nI _ = nI (b + (z_sum (z_shr m p g) t + z_shr m p g t) * z_dr m p 0)
      rw [show z_shr m p g t = 0 from if_neg (by rw [hf]; decide), Nat.add_zero]
theorem M_blame {m : q_S} {a : Int32} {h : q_H} {Q : Int32 → q_H → Prop} (hok : z_ok m) (hc : z_M m h) (k : ∀ g, z_K h g → Q (v_blame m a) g) : wp_X5_blame a h Q := by
  have hnp := hok.1.1
  have hc := z_M_iff.mp hc
  unfold wp_X5_blame v_blame at *
  refine s5_ix (n := 9) (by omega) (fun n => ⟨fun _ => ?_, fun z => absurd rfl z⟩) (fun g hg e ha => ⟨fun z => absurd z (by decide), fun _ => ?_⟩)
  · have kk := k h (z_K.rf h)
    rw [if_neg (fun q => n (by rw [q]; exact y_of (j := 8) (by omega) (by omega))), if_neg (fun q => ?_)] at kk
    · exact kk
    · obtain ⟨j, hj, e⟩ := y_in (by omega) q
      exact n (by rw [e]; exact y_of (by omega) (by omega))
  subst e
  refine s5_wants hok hc (fun u hu hB => ?_)
  have hN : z_N m (-1) u := ⟨hu.M hc, hB⟩
  by_cases e8 : g = 8
  · subst e8
    have k : ∀ g, z_K h g → Q (nI (z_sum (fun p => 840 * z_sum (z_ss (z_w m (-1) p) (z_G m p (z_w m (-1) p))) 64) (z_np m))) g := fun g hg => by
      have := k g hg
      rw [if_pos (show nI 8 = 8 from rfl)] at this
      exact this
    refine pk_loop (σ := Int32 × q_H) (fun n i s => lp_X5_blame_20 8 (fun x _ g => Q x g) n s.1 (nI i) s.2) (fun i s => z_K1 u s.2 ∧ s.1 = nI (z_sum (fun p => 840 * z_sum (z_ss (z_w m (-1) p) (z_G m p (z_w m (-1) p))) 64) i)) (z_np m) 0 (0, u) (by omega) ⟨z_K1.rf u, rfl⟩ ?_ ?_
    · rintro n ⟨x, v⟩ ⟨e, hx⟩
      have e : z_K1 u v := e
      have hx : x = _ := hx
      subst hx
      unfold lp_X5_blame_20
      dsimp only
      rw [(hN.k e).1.1.1]
      exact ⟨fun _ => k v (hu.tr e.K), fun z => absurd (nI_le (Nat.le_refl _) (by omega)) z⟩
    · rintro n i ⟨x, v⟩ hi ⟨e, hx⟩ ih
      have e : z_K1 u v := e
      have hx : x = _ := hx
      subst hx
      unfold lp_X5_blame_20
      dsimp only
      rw [(hN.k e).1.1.1]
      refine ⟨fun z => absurd z (nle hi (by omega)), fun _ => ?_⟩
      refine s5_blame8 hok (hN.k e) (by omega) (fun y w hw => ?_)
      rw [nI_1 i]
      exact ih (_, _) ⟨e.tr hw, rfl⟩
  · have hg8 : ¬ nI g = 8 := fun q => by have := (nI_eq (b := 8) (by omega) (by omega)).mp q; omega
    have kk := k u hu
    rw [if_neg hg8, if_pos (y_of (by omega) (by omega)), cl (by omega)] at kk
    refine pk_loop (σ := Int32 × q_H) (fun n i s => lp_X5_blame_20 (nI g) (fun x _ g => Q x g) n s.1 (nI i) s.2) (fun i s => s.2 = u ∧ s.1 = nI (z_sum (fun p => z_sum (z_shr m p g) 64 * z_dr m p 0) i)) (z_np m) 0 (0, u) (by omega) ⟨rfl, rfl⟩ ?_ ?_
    · rintro n ⟨x, v⟩ ⟨e, hx⟩
      have e : v = u := e
      subst e
      have hx : x = _ := hx
      subst hx
      unfold lp_X5_blame_20
      dsimp only
      rw [hN.1.1.1]
      exact ⟨fun _ => kk, fun z => absurd (nI_le (Nat.le_refl _) (by omega)) z⟩
    · rintro n i ⟨x, v⟩ hi ⟨e, hx⟩ ih
      have e : v = u := e
      subst e
      have hx : x = _ := hx
      subst hx
      unfold lp_X5_blame_20
      dsimp only
      rw [hN.1.1.1]
      refine ⟨fun z => absurd z (nle hi (by omega)), fun _ => ?_⟩
      refine s5_blameG hok hN (by omega) (by omega) (fun y => ?_)
      rw [nI_1 i]
      exact ih (_, _) ⟨rfl, rfl⟩
theorem s5_isFirst {m : q_S} {lo : Int32} {S : Nat → Bool} {x : Int32} {p : Nat} {h : q_H} {Q : Int32 → q_H → Prop} (hok : z_ok m) (hc : z_Ml m lo h) (hx : z_set S x) (hp : p < 6) (k : Q (bI (z_free (z_nd m) S p)) h) : wp_X5_isFirst (nI p) x h Q := by
  have hnp := hok.1.1
  have hnn := hok.2.2.2.2.2.2.1.1
  have hxb : ∀ q, q < 6 → bt x q = S q := fun q hq => by rw [hx q (by omega), decide_eq_true hq, Bool.true_and]
  unfold wp_X5_isFirst
  unfold z_free at k
  refine ⟨fun z => ?_, fun z => ?_⟩
  · have hs : S p = false := by rw [← hxb p hp]; exact (b_hitS0 x (by omega)).mp z
    rw [hs, Bool.false_and] at k
    exact k
  · have hs : S p = true := by rw [← hxb p hp]; exact ts_nf (fun q => z ((b_hitS0 x (by omega)).mpr q))
    rw [hs, Bool.true_and] at k
    refine pk_loop (σ := Int32 × q_H) (fun n i s => lp_X5_isFirst_15 (nI p) x (fun y _ g => (y = 0 ∨ y = 1) ∧ Q y g) n s.1 (nI i) s.2) (fun i s => s.2 = h ∧ s.1 = bI (!(List.range i).any (fun q => z_nd m p q && S q))) (z_np m) 0 (1, h) (by omega) ⟨rfl, rfl⟩ ?_ ?_
    · rintro n ⟨y, u⟩ ⟨e, hy⟩
      have e : u = h := e
      subst e
      have hy : y = _ := hy
      subst hy
      unfold lp_X5_isFirst_15
      rw [hc.1.1]
      refine ⟨fun _ => ⟨bI_v _, ?_⟩, fun z => absurd (nI_le (Nat.le_refl _) (by omega)) z⟩
      have : (List.range (z_np m)).any (fun q => z_nd m p q && S q) = (List.range 6).any (fun q => z_nd m p q && S q) := by
        apply z_beq
        rw [z_any, z_any]
        constructor
        · rintro ⟨q, h1, h2⟩; exact ⟨q, by omega, h2⟩
        · rintro ⟨q, h1, h2⟩; exact ⟨q, (hnn p q (Bool.and_eq_true_iff.mp h2).1).2, h2⟩
      rw [this]
      exact k
    · rintro n i ⟨y, u⟩ hi ⟨e, hy⟩ ih
      have e : u = h := e
      subst e
      have hy : y = bI (!(List.range i).any (fun q => z_nd m p q && S q)) := hy
      have hstep : (List.range (i + 1)).any (fun q => z_nd m p q && S q) = ((List.range i).any (fun q => z_nd m p q && S q) || (z_nd m p i && S i)) := any_succ i _
      unfold lp_X5_isFirst_15
      dsimp only
      rw [hc.1.1, ix6, cl (show 6 * p + i < 2 ^ 31 by omega), nI_1 i, hc.2.2.2.2.2.1 p hp i (by omega)]
      refine ⟨fun z => absurd z (nle hi (by omega)), fun _ => ⟨fun z => ?_, fun z => ⟨vin (by omega) (by omega), fun z1 => ?_, fun z1 => ⟨fun z2 => ?_, fun z2 => ?_⟩⟩⟩⟩
      all_goals refine ih (_, _) ⟨rfl, ?_⟩
      all_goals rw [hstep]
      all_goals show (_ : Int32) = _
      · have e1 : (!(List.range i).any (fun q => z_nd m p q && S q)) = false := bI_0.mp (hy.symm.trans z)
        rw [Bool.not_eq_false'] at e1
        rw [e1]; rfl
      all_goals
        have e1 : (!(List.range i).any (fun q => z_nd m p q && S q)) = true := ts_nf (fun q => z (hy.trans (by rw [q]; rfl)))
        rw [Bool.not_eq_true'] at e1
        rw [e1]
      · have hn : z_nd m p i = false := by
          cases e : z_nd m p i with
          | false => rfl
          | true => rw [e] at z1; exact absurd z1 (by decide)
        rw [hn]; rfl
      · have hn : z_nd m p i = true := by
          cases e : z_nd m p i with
          | true => rfl
          | false => rw [e] at z1; exact absurd rfl z1
        have hsi : S i = true := by rw [← hxb i (by omega)]; exact (b_hitS x (by omega)).mp z2
        rw [hn, hsi]; rfl
      · have hsi : S i = false := by rw [← hxb i (by omega)]; exact ts_nt (fun q => z2 ((b_hitS x (by omega)).mpr q))
        rw [hsi, Bool.and_false]; rfl
theorem z_num_le (f : Nat → Bool) : z_num f ≤ 6 := by
  have c : ∀ b : Bool, (if b = true then 1 else 0) ≤ 1 := by intro b; cases b <;> decide
  have c0 := c (f 0); have c1 := c (f 1); have c2 := c (f 2); have c3 := c (f 3); have c4 := c (f 4); have c5 := c (f 5)
  unfold z_num
  omega
theorem z_num_0 {S : Nat → Bool} (h : z_num S = 0) : z_some S = false := by
  refine ts_nt (fun q => ?_)
  obtain ⟨p, hp, hs⟩ := z_any.mp q
  have := z_num_lt (f := fun _ => false) (g := S) (fun _ _ h => by cases h) hp rfl hs
  omega
theorem M_order {m : q_S} {a b : Int32} {h : q_H} {Q : Int32 → q_H → Prop} (hok : z_ok m) (hc : z_M m h) (k : ∀ g, z_K h g → Q (v_order m a b) g) : wp_X5_order a b h Q := by
  have hnp := hok.1.1
  have hc := z_M_iff.mp hc
  unfold wp_X5_order v_order at *
  refine s5_isTick (fun n => ⟨fun _ => ?_, fun z => absurd rfl z⟩) (fun t ht e ha => ⟨fun z => absurd z (by decide), fun _ => ⟨fun z => ?_, fun z => ?_⟩⟩)
  · have := k h (z_K.rf h); rw [if_neg (fun q => n q.1)] at this; exact this
  · have hn : ¬ b < 0 := by
      rw [Int32.lt_iff_toInt_lt]
      have := Int32.le_iff_toInt_le.mp z
      omega
    obtain ⟨i, hi, e2⟩ := nI_of hn
    rw [if_pos ⟨ha, hn⟩] at k
    subst e; subst e2
    rw [cl (by omega), cl hi] at k
    refine s5_wants hok hc (fun u hu hB => ?_)
    have hN : z_N m (-1) u := ⟨hu.M hc, hB⟩
    have kk := k u hu
    refine pk_loop (σ := Int32 × q_H) (fun f n s => lp_X5_order_22 (nI t) (nI i) _ f s.1 (nI n) s.2) (fun p s => s.2 = u ∧ ∀ q, q < 32 → bt s.1 q = (decide (q < p) && z_up m t q)) (z_np m) 0 (0, u) (by omega) ⟨rfl, fun q _ => by rw [b_0, decide_eq_false (by omega), Bool.false_and]⟩ ?_ ?_
    · rintro n0 ⟨x, v⟩ ⟨e, hx⟩
      have e : v = u := e
      subst e
      have hx : ∀ q, q < 32 → bt x q = (decide (q < z_np m) && z_up m t q) := hx
      unfold lp_X5_order_22
      rw [hN.1.1.1]
      refine ⟨fun _ => ?_, fun z => absurd (nI_le (Nat.le_refl _) (by omega)) z⟩
      have hxs : z_set (z_up m t) x := by
        intro q hq
        rw [hx q hq]
        unfold z_up
        by_cases e : q < z_np m
        · rw [decide_eq_true e, decide_eq_true (show q < 6 by omega)]
        · rw [decide_eq_false e, Bool.false_and, Bool.false_and, Bool.and_false]
      refine pk_loop (σ := Int32 × q_H) (fun f n s => lp_X5_order_73 (nI i) Q (fun _ _ g => Q (-1) g) f s.1 (nI n) s.2) (fun n s => s.2 = v ∧ n ≤ i ∧ ∃ S, z_set S s.1 ∧ z_num S + n ≤ 6 ∧ z_ordv (z_nd m) 6 (z_up m t) i = z_ordv (z_nd m) (6 - n) S (i - n)) 6 0 (x, v) (by omega) ⟨rfl, Nat.zero_le _, z_up m t, hxs, by have := z_num_le (z_up m t); omega, rfl⟩ ?_ ?_
      · rintro n ⟨y, g⟩ ⟨e, h1, S, hS, hnum, he⟩
        have e : g = v := e
        subst e
        unfold lp_X5_order_73
        refine ⟨fun _ => ?_, fun z => absurd ((z_set_0 hS).mpr (z_num_0 (by omega))) z⟩
        rw [he] at kk
        exact kk
      · rintro f n ⟨y, g⟩ hn6 ⟨e, h1, S, hS, hnum, he⟩ ih
        have e : g = v := e
        subst e
        have hS : z_set S y := hS
        unfold lp_X5_order_73
        rw [show 6 - n = (6 - (n + 1)) + 1 by omega] at he
        refine ⟨fun z1 => ?_, fun z1 => ?_⟩
        · have e0 := (z_set_0 hS).mp z1
          have he : _ = (if z_some S = true then _ else _) := he
          rw [e0] at he
          rw [he] at kk
          exact kk
        · have e0 : z_some S = true := ts_nf (fun q => z1 ((z_set_0 hS).mpr q))
          obtain ⟨r1, r2, r3⟩ := z_rdy_ok hok.2.2.2.2.2.2.1.2 e0
          have hSr : S (z_rdy (z_nd m) S) = true := by
            unfold z_free at r2
            exact (Bool.and_eq_true_iff.mp r2).1
          have he : z_ordv (z_nd m) 6 (z_up m t) i = (if z_some S = true then (if i - n = 0 then nI (z_rdy (z_nd m) S) else z_ordv (z_nd m) (6 - (n + 1)) (z_off S (z_rdy (z_nd m) S)) (i - n - 1)) else -1) := he
          rw [if_pos e0] at he
          have hnum2 : z_num (z_off S (z_rdy (z_nd m) S)) + 1 ≤ z_num S := z_num_lt (f := z_off S (z_rdy (z_nd m) S)) (g := S) (fun p _ h => (Bool.and_eq_true_iff.mp h).1) r1 (by unfold z_off; rw [decide_eq_true rfl]; simp) hSr
          have fin : (nI n = nI i → Q (nI (z_rdy (z_nd m) S)) g) ∧ (¬ nI n = nI i → lp_X5_order_73 (nI i) Q (fun _ _ g => Q (-1) g) f (y &&& (((1 : Int32) <<< (nI (z_rdy (z_nd m) S) &&& 31)) ^^^ (-1))) (nI n + 1) g) := by
            refine ⟨fun z2 => ?_, fun z2 => ?_⟩
            · have := (nI_eq (by omega) hi).mp z2
              rw [if_pos (by omega)] at he
              rw [he] at kk
              exact kk
            · have : n ≠ i := fun q => z2 (by rw [q])
              rw [if_neg (by omega)] at he
              rw [nI_1 n]
              exact ih (_, _) ⟨rfl, by omega, _, z_set_off hS r1, by omega, by rw [he, show i - n - 1 = i - (n + 1) by omega]⟩
          refine pk_loop (σ := q_H) (fun f2 p s => lp_X5_order_80 (nI i) y (nI n) _ f2 (nI p) s) (fun p s => s = g) (z_rdy (z_nd m) S) 0 g (Nat.zero_le _) rfl ?_ ?_
          · rintro f2 s rfl
            unfold lp_X5_order_80
            refine s5_isFirst hok hN.1 hS r1 ?_
            rw [r2]
            exact ⟨fun z => absurd z (by decide), fun _ => fin⟩
          · rintro f2 p s hp rfl ih2
            unfold lp_X5_order_80
            refine s5_isFirst hok hN.1 hS (by omega) ?_
            rw [r3 p hp, nI_1 p]
            exact ⟨fun _ => ih2 _ rfl, fun z => absurd rfl z⟩
    · rintro n0 p ⟨x, v⟩ hp ⟨e, hx⟩ ih
      have e : v = u := e
      subst e
      have hx : ∀ q, q < 32 → bt x q = (decide (q < p) && z_up m t q) := hx
      have keep : z_up m t p = false → ∀ q, q < 32 → bt x q = (decide (q < p + 1) && z_up m t q) := by
        intro hf q hq
        rw [hx q hq]
        by_cases e : q = p
        · rw [e, hf, Bool.and_false, Bool.and_false]
        · rw [show decide (q < p + 1) = decide (q < p) from decide_eq_decide.mpr (by omega)]
      have add : z_up m t p = true → ∀ q, q < 32 → bt (x ||| ((1 : Int32) <<< (nI p &&& 31))) q = (decide (q < p + 1) && z_up m t q) := by
        intro hf q hq
        rw [b_or, hx q hq, b_one (by omega) hq]
        by_cases e : q = p
        · rw [e, hf, decide_eq_true (show p < p + 1 by omega), decide_eq_true rfl, Bool.or_true]; rfl
        · rw [show decide (q < p + 1) = decide (q < p) from decide_eq_decide.mpr (by omega), decide_eq_false e, Bool.or_false]
      unfold lp_X5_order_22
      rw [hN.1.1.1]
      refine ⟨fun z => absurd z (nle hp (by omega)), fun _ => ?_⟩
      refine s5_isWanted hB (by omega) ht ?_
      rw [nI_1 p]
      cases hw : z_w m (-1) p t with
      | false =>
        refine ⟨fun _ => ih (_, _) ⟨rfl, keep ?_⟩, fun z => absurd rfl z⟩
        unfold z_up; rw [hw, Bool.false_and, Bool.and_false]
      | true =>
        refine ⟨fun z => absurd z (by decide), fun _ => ⟨fun z => ?_, fun z => ?_⟩⟩
        · have : t = 0 := (nI_eq (b := 0) (by omega) (by omega)).mp z
          refine ih (_, _) ⟨rfl, add ?_⟩
          unfold z_up; rw [hw, decide_eq_true hp, this]; rfl
        · obtain ⟨t', rfl⟩ : ∃ t', t = t' + 1 := by
            cases t with
            | zero => exact absurd rfl z
            | succ t' => exact ⟨t', rfl⟩
          rw [nI_pred]
          refine s5_isWanted hB (by omega) (by omega) ?_
          cases hw1 : z_w m (-1) p t' with
          | false =>
            refine ⟨fun _ => ih (_, _) ⟨rfl, add ?_⟩, fun z => absurd rfl z⟩
            unfold z_up; rw [hw, decide_eq_true hp, show t' + 1 - 1 = t' by omega, hw1, Bool.and_false]; rfl
          | true =>
            refine ⟨fun z => absurd z (by decide), fun _ => ih (_, _) ⟨rfl, keep ?_⟩⟩
            unfold z_up; rw [hw, show t' + 1 - 1 = t' by omega, hw1, decide_eq_true (show 0 < t' + 1 by omega), Bool.and_true, Bool.not_true, Bool.and_false, Bool.and_false]
  · have hn : b < 0 := by
      rw [Int32.lt_iff_toInt_lt]
      have : ¬ _ := fun q => z (Int32.le_iff_toInt_le.mpr q)
      omega
    have := k h (z_K.rf h)
    rw [if_neg (fun q => q.2 hn)] at this
    exact this
