/-! ===== what changes the state ===== -/
def z_s2 (f : Nat → Nat → Nat) (p s v : Nat) : Nat → Nat → Nat := fun a b => if a = p ∧ b = s then v else f a b
abbrev y_up3 (a b c : Int32) (M : Int32) : Prop := ¬ a < 0 ∧ ¬ b < a ∧ ¬ c < b ∧ ¬ M < c
-- part
def z_part (m : q_S) (a b c d : Nat) : q_S := (z_np m + 1, fun p s => if p = z_np m then (if s = 0 then a else if s = 1 then b else if s = 2 then c else if s = 3 then d else z_dr m p s) else z_dr m p s, z_co m, z_ri m, fun p s => if p = z_np m then 64 else z_ru m p s, z_nd m, z_nh m, z_ho m, z_nt m, z_ti m)
abbrev y_partOk (m : q_S) (a b c d : Int32) : Prop := z_np m < 6 ∧ y_up3 d c b 99 ∧ ¬ a < b ∧ ¬ 99 < a
-- rise
def z_rise (m : q_S) (p : Nat) (a b c x y z : Nat) : q_S := (z_np m, z_dr m, fun q s => if q = p then (if s = 1 then a else if s = 2 then b else if s = 3 then c else z_co m q s) else z_co m q s, fun q s => if q = p then (if s = 1 then x else if s = 2 then y else if s = 3 then z else z_ri m q s) else z_ri m q s, z_ru m, z_nd m, z_nh m, z_ho m, z_nt m, z_ti m)
abbrev y_riseOk (m : q_S) (p a b c x y z : Int32) : Prop := y_isP m p ∧ y_up3 a b c 999 ∧ y_up3 x y z 9
-- rule
def z_rule (m : q_S) (p a b c : Nat) : q_S := (z_np m, z_dr m, z_co m, z_ri m, fun q s => if q = p then (if s = 0 then a else if s = 1 then b else if s = 2 then c else z_ru m q s) else z_ru m q s, z_nd m, z_nh m, z_ho m, z_nt m, z_ti m)
abbrev y_ruleOk (m : q_S) (p a b c : Int32) : Prop := y_isP m p ∧ y_up3 a b c 64
-- need
def z_need (m : q_S) (p q : Nat) (is : Bool) : q_S := (z_np m, z_dr m, z_co m, z_ri m, z_ru m, fun a b => if a = p ∧ b = q then is else z_nd m a b, z_nh m, z_ho m, z_nt m, z_ti m)
def z_leads (m : q_S) (p q : Nat) : Bool := z_clo (z_nd m) 6 (fun x => decide (x = p)) q
-- hold, back, timer
def z_hold (m : q_S) (g p a b : Nat) : q_S := (z_np m, z_dr m, z_co m, z_ri m, z_ru m, z_nd m, z_nh m + 1, fun i s => if i = z_nh m then (if s = 0 then g else if s = 1 then p else if s = 2 then a else if s = 3 then b else z_ho m i s) else z_ho m i s, z_nt m, z_ti m)
def z_back (m : q_S) (i t : Nat) : q_S := (z_np m, z_dr m, z_co m, z_ri m, z_ru m, z_nd m, z_nh m, fun j s => if j = i ∧ s = 3 then t else z_ho m j s, z_nt m, z_ti m)
def z_timer (m : q_S) (g p a b : Nat) : q_S := (z_np m, z_dr m, z_co m, z_ri m, z_ru m, z_nd m, z_nh m, z_ho m, z_nt m + 1, fun i s => if i = z_nt m then (if s = 0 then g else if s = 1 then p else if s = 2 then a else if s = 3 then b else z_ti m i s) else z_ti m i s)
theorem y_up3_nat {a b c : Int32} {M : Nat} (hM : M < 2 ^ 31) (h : y_up3 a b c (nI M)) : ∃ x y z, a = nI x ∧ b = nI y ∧ c = nI z ∧ x ≤ y ∧ y ≤ z ∧ z ≤ M := by
  obtain ⟨h1, h2, h3, h4⟩ := h
  obtain ⟨x, hx, rfl⟩ := nI_of h1
  have hb : ¬ b < 0 := by
    intro q
    apply h2
    rw [Int32.lt_iff_toInt_lt] at q ⊢
    rw [nI_toInt hx]
    rw [Int32.toInt_zero] at q
    omega
  obtain ⟨y, hy, rfl⟩ := nI_of hb
  have hc : ¬ c < 0 := by
    intro q
    apply h3
    rw [Int32.lt_iff_toInt_lt] at q ⊢
    rw [nI_toInt hy]
    rw [Int32.toInt_zero] at q
    omega
  obtain ⟨z, hz, rfl⟩ := nI_of hc
  have e1 : x ≤ y := Nat.le_of_not_lt (fun q => h2 (nI_lt q hx))
  have e2 : y ≤ z := Nat.le_of_not_lt (fun q => h3 (nI_lt q hy))
  have e3 : z ≤ M := Nat.le_of_not_lt (fun q => h4 (nI_lt q hz))
  exact ⟨x, y, z, rfl, rfl, rfl, e1, e2, e3⟩
theorem s_rises {a b c M : Int32} {h : q_H} {Q : Int32 → q_H → Prop} (k0 : ¬ y_up3 a b c M → Q 0 h) (k1 : y_up3 a b c M → Q 1 h) : wp_X4_rises a b c M h Q := by
  unfold wp_X4_rises
  refine ⟨fun z => k0 (fun q => q.1 z), fun z => ⟨fun z1 => k0 (fun q => q.2.1 z1), fun z1 => ⟨fun z2 => k0 (fun q => q.2.2.1 z2), fun z2 => ⟨fun z3 => k0 (fun q => q.2.2.2 z3), fun z3 => k1 ⟨z, z1, z2, z3⟩⟩⟩⟩⟩
theorem z_acy_np {m : q_S} (hok : z_ok m) : ∀ p q, z_nd m p q = true → p < z_np m ∧ q < z_np m := hok.2.2.2.2.2.2.1.1
theorem z_part_ok {m : q_S} (hok : z_ok m) (h6 : z_np m < 6) {a b c d : Nat} (ha : a ≤ 99) (hb : b ≤ 99) (hc : c ≤ 99) (hd : d ≤ 99) : z_ok (z_part m a b c d) := by
  obtain ⟨⟨h1, h2, h3⟩, h4, h5, h7, h8, h9, ⟨h10, h11⟩, h12, h13⟩ := hok
  refine ⟨⟨by show z_np m + 1 ≤ 6; omega, h2, h3⟩, fun p s => ?_, h5, h7, fun p => ?_, fun p => ?_, ⟨fun p q h => ?_, h11⟩, fun i hi => ?_, fun i hi => ?_⟩
  · have := h4 p s
    show (if p = z_np m then (if s = 0 then a else if s = 1 then b else if s = 2 then c else if s = 3 then d else z_dr m p s) else z_dr m p s) ≤ 99
    repeat' split
    all_goals assumption
  · obtain ⟨g1, g2, g3, g4, g5⟩ := h8 p
    refine ⟨g1, g2, g3, g4, fun hp => ?_⟩
    have hp : z_np m + 1 ≤ p := hp
    show (if p = z_np m then 64 else z_ru m p 0) = 64
    rw [if_neg (by omega)]
    exact g5 (by omega)
  · have := h9 p
    show (if p = z_np m then 64 else z_ru m p 0) ≤ (if p = z_np m then 64 else z_ru m p 1) ∧ (if p = z_np m then 64 else z_ru m p 1) ≤ (if p = z_np m then 64 else z_ru m p 2) ∧ (if p = z_np m then 64 else z_ru m p 2) ≤ 64
    split
    · omega
    · exact this
  · have := h10 p q h
    exact ⟨Nat.lt_succ_of_lt this.1, Nat.lt_succ_of_lt this.2⟩
  · have := h12 i hi
    exact ⟨this.1, Nat.lt_succ_of_lt this.2.1, this.2.2⟩
  · have := h13 i hi
    exact ⟨this.1, Nat.lt_succ_of_lt this.2.1, this.2.2⟩
theorem z_ru_64 {m : q_S} (hok : z_ok m) {p s : Nat} (hp : z_np m ≤ p) (hs : s < 3) : z_ru m p s = 64 := by
  have h0 := (hok.2.2.2.2.1 p).2.2.2.2 hp
  obtain ⟨h1, h2, h3⟩ := hok.2.2.2.2.2.1 p
  match s, hs with
  | 0, _ => exact h0
  | 1, _ => omega
  | 2, _ => omega
  | n + 3, hs => omega
/-- what stays of the class's half when only ints of kinds ahead of 7 and the number of parts change -/
theorem z_wk_same {m m' : q_S} (h1 : z_nt m' = z_nt m) (h2 : z_ti m' = z_ti m) : z_wk m' = z_wk m := by
  have e : z_ends m' = z_ends m := by funext l t; unfold z_ends; rw [h1, h2]
  have l : z_lat m' = z_lat m := by
    funext t
    induction t with
    | zero => rfl
    | succ t ih => show (if z_ends m' (z_lat m' t) t = true then t + 1 else z_lat m' t) = (if z_ends m (z_lat m t) t = true then t + 1 else z_lat m t); rw [e, ih]
  funext t
  unfold z_wk
  rw [e, l]
theorem z_W_same {m m' : q_S} (h1 : z_nt m' = z_nt m) (h2 : z_ti m' = z_ti m) (h3 : z_nh m' = z_nh m) (h4 : z_ho m' = z_ho m) (h5 : z_nd m' = z_nd m) (lo : Int32) : z_W m' lo = z_W m lo := by
  have e : z_base m' lo = z_base m lo := by
    funext g t p
    unfold z_base z_fi
    rw [h1, h2, h3, h4, z_wk_same h1 h2]
  funext p g t
  unfold z_W
  rw [e, h5]
theorem z_wk_part (m : q_S) (a b c d : Nat) : z_wk (z_part m a b c d) = z_wk m := z_wk_same (m := m) (m' := z_part m a b c d) rfl rfl
theorem z_W_part (m : q_S) (a b c d : Nat) (lo : Int32) : z_W (z_part m a b c d) lo = z_W m lo := z_W_same (m := m) (m' := z_part m a b c d) rfl rfl rfl rfl rfl lo
theorem z_wk_rise (m : q_S) (p a b c x y z : Nat) : z_wk (z_rise m p a b c x y z) = z_wk m := z_wk_same (m := m) (m' := z_rise m p a b c x y z) rfl rfl
theorem z_W_rise (m : q_S) (p a b c x y z : Nat) (lo : Int32) : z_W (z_rise m p a b c x y z) lo = z_W m lo := z_W_same (m := m) (m' := z_rise m p a b c x y z) rfl rfl rfl rfl rfl lo
theorem z_wk_rule (m : q_S) (p a b c : Nat) : z_wk (z_rule m p a b c) = z_wk m := z_wk_same (m := m) (m' := z_rule m p a b c) rfl rfl
theorem z_W_rule (m : q_S) (p a b c : Nat) (lo : Int32) : z_W (z_rule m p a b c) lo = z_W m lo := z_W_same (m := m) (m' := z_rule m p a b c) rfl rfl rfl rfl rfl lo
theorem C_part {m : q_S} {a b c d : Int32} {h : q_H} {Q : Int32 → q_H → Prop} (hok : z_ok m) (hc : z_C m h) (k0 : ¬ y_partOk m a b c d → Q (-1) h) (k1 : y_partOk m a b c d → ∀ g, z_C (z_part m a.toNatClampNeg b.toNatClampNeg c.toNatClampNeg d.toNatClampNeg) g → z_Fc h g → Q (nI (z_np m)) g) : wp_X4_part a b c d h Q := by
  have hnp := hok.1.1
  obtain ⟨c1, cw, cr⟩ := z_C_iff.mp hc
  unfold wp_X4_part
  rw [hc.1]
  refine ⟨fun z => k0 (fun q => ?_), fun z => ?_⟩
  · have := (nI_leI (a := 6) (b := z_np m) (by omega) (by omega)).mp z
    have := q.1; omega
  have h6 : z_np m < 6 := Nat.lt_of_not_le (fun q => z (nI_le q (by omega)))
  refine s_rises (fun n => ⟨fun _ => k0 (fun q => n q.2.1), fun y => absurd rfl y⟩) (fun hu => ⟨fun y => absurd y (by decide), fun _ => ⟨fun z1 => k0 (fun q => q.2.2.1 z1), fun z1 => ⟨fun z2 => ?_, fun z2 => k0 (fun q => ?_)⟩⟩⟩)
  · have h99 : ¬ 99 < a := by
      rw [Int32.lt_iff_toInt_lt]
      have := Int32.le_iff_toInt_le.mp z2
      omega
    have okp : y_partOk m a b c d := ⟨h6, hu, z1, h99⟩
    obtain ⟨x, y, w, rfl, rfl, rfl, e1, e2, e3⟩ := y_up3_nat (M := 99) (by omega) hu
    have ha : ¬ a < 0 := by
      intro q
      apply z1
      rw [Int32.lt_iff_toInt_lt] at q ⊢
      rw [nI_toInt (by omega)]
      rw [Int32.toInt_zero] at q
      omega
    obtain ⟨v, hv, rfl⟩ := nI_of ha
    have hv9 : v ≤ 99 := (nI_leI hv (by omega)).mp z2
    rw [hc.1, cl (by omega)]
    refine ⟨vin h6 (by omega), ?_⟩
    unfold wp_X1_setDrains
    have k1 := k1 okp
    rw [cl hv, cl (by omega), cl (by omega), cl (by omega)] at k1
    have er : (q_sI (q_sI (q_sI (q_sI h 3 (z_np m) 0 (nI v)) 3 (z_np m) 1 (nI w)) 3 (z_np m) 2 (nI y)) 3 (z_np m) 3 (nI x)).1 0 0 1 = nI (z_np m) := hc.1
    dsimp only
    rw [er, nI_1, nI_pred]
    refine k1 _ ?_ (fun k hk => ?_)
    · rw [z_C_iff]
      refine ⟨?_, ?_, ?_⟩
      · obtain ⟨d1, d2, d3, d4, d5, d6, d7, d8⟩ := c1
        refine ⟨q_sI_r, fun p hp s hs => ?_, d3, d4, fun p hp => ?_, d6, d7, d8⟩
        · show (q_sI (q_sI (q_sI (q_sI (q_sI h 3 (z_np m) 0 (nI v)) 3 (z_np m) 1 (nI w)) 3 (z_np m) 2 (nI y)) 3 (z_np m) 3 (nI x)) 0 0 1 _).1 3 p s = nI (if p = z_np m then (if s = 0 then v else if s = 1 then w else if s = 2 then y else if s = 3 then x else z_dr m p s) else z_dr m p s)
          rw [q_sI_o (by omega)]
          by_cases e : p = z_np m
          · subst e
            rw [if_pos rfl]
            match s, hs with
            | 0, _ => rw [q_sI_o (by omega), q_sI_o (by omega), q_sI_o (by omega), q_sI_r]; rfl
            | 1, _ => rw [q_sI_o (by omega), q_sI_o (by omega), q_sI_r]; rfl
            | 2, _ => rw [q_sI_o (by omega), q_sI_r]; rfl
            | 3, _ => rw [q_sI_r]; rfl
            | n + 4, hs => omega
          · rw [if_neg e, q_sI_o (by omega), q_sI_o (by omega), q_sI_o (by omega), q_sI_o (by omega)]
            exact d2 p hp s hs
        · have hru : ∀ s, s < 3 → z_ru (z_part m v w y x) p s = z_ru m p s := by
            intro s hs
            show (if p = z_np m then 64 else z_ru m p s) = _
            by_cases e : p = z_np m
            · rw [if_pos e, z_ru_64 hok (by omega) hs]
            · rw [if_neg e]
          rw [hru 0 (by omega), hru 1 (by omega), hru 2 (by omega)]
          exact d5 p hp
      · rw [z_wk_part]; exact cw
      · intro p hp g hg t ht
        rw [z_W_part]
        exact cr p hp g hg t ht
    · funext i j
      rw [q_sI_o (by omega), q_sI_o (by omega), q_sI_o (by omega), q_sI_o (by omega), q_sI_o (by omega)]
  · have h99 := q.2.2.2
    rw [Int32.lt_iff_toInt_lt] at h99
    apply z2
    rw [Int32.le_iff_toInt_le]
    omega
