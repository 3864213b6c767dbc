/-! ===== learn of the class ===== -/
/-- what setting thresholds of part p leaves -/
def z_FT (p : Nat) (h g : q_H) : Prop := (∀ k, k ≠ 6 → g.1 k = h.1 k) ∧ (∀ q, q ≠ p → g.1 6 q = h.1 6 q) ∧ (∀ j, j ≠ 1 → j ≠ 2 → j ≠ 3 → g.1 6 p j = h.1 6 p j) ∧ g.2 = h.2
theorem z_FT.rf (p : Nat) (h : q_H) : z_FT p h h := ⟨fun _ _ => rfl, fun _ _ => rfl, fun _ _ _ _ => rfl, rfl⟩
theorem z_FT.tr {p : Nat} {h g k : q_H} (a : z_FT p h g) (b : z_FT p g k) : z_FT p h k := ⟨fun n x => (b.1 n x).trans (a.1 n x), fun n x => (b.2.1 n x).trans (a.2.1 n x), fun n x y z => (b.2.2.1 n x y z).trans (a.2.2.1 n x y z), b.2.2.2.trans a.2.2.2⟩
theorem z_FT.fc {p : Nat} {h g : q_H} (a : z_FT p h g) : z_Fc h g := fun k hk => a.1 k (by omega)
theorem z_FT_set (p : Nat) (h : q_H) (x y z : Int32) : z_FT p h (q_sI (q_sI (q_sI h 6 p 1 x) 6 p 2 y) 6 p 3 z) := by
  refine ⟨fun k hk => ?_, fun q hq => ?_, fun j h1 h2 h3 => ?_, rfl⟩
  · funext i j
    rw [q_sI_o (by omega), q_sI_o (by omega), q_sI_o (by omega)]
  · funext j
    rw [q_sI_o (by omega), q_sI_o (by omega), q_sI_o (by omega)]
  · rw [q_sI_o (by omega), q_sI_o (by omega), q_sI_o (by omega)]
/-- what the tries of part p rest on -/
def z_Y (m : q_S) (p : Nat) (w : Nat → Bool) (h : q_H) : Prop := z_P m p h ∧ (h.1 6 p 0 = nI 0 ∧ h.1 6 p 4 = nI 64) ∧ z_Sp w h
theorem z_Y.ft {m : q_S} {p : Nat} {w : Nat → Bool} {h g : q_H} (y : z_Y m p w h) (a : z_FT p h g) : z_Y m p w g := by
  obtain ⟨y1, y2, y3⟩ := y
  refine ⟨fun s hs => ?_, ?_, ?_⟩
  · rw [a.1 3 (by omega), a.1 4 (by omega), a.1 5 (by omega)]
    exact y1 s hs
  · rw [a.2.2.1 0 (by omega) (by omega) (by omega), a.2.2.1 4 (by omega) (by omega) (by omega)]
    exact y2
  · unfold z_Sp
    rw [a.1 15 (by omega), a.1 16 (by omega), a.1 17 (by omega)]
    exact y3
theorem z_T_set {p a b c : Nat} {h : q_H} (y : h.1 6 p 0 = nI 0 ∧ h.1 6 p 4 = nI 64) : z_T p a b c (q_sI (q_sI (q_sI h 6 p 1 (nI a)) 6 p 2 (nI b)) 6 p 3 (nI c)) := by
  refine ⟨?_, ?_, ?_, q_sI_r, ?_⟩
  · rw [q_sI_o (by omega), q_sI_o (by omega), q_sI_o (by omega)]; exact y.1
  · rw [q_sI_o (by omega), q_sI_o (by omega), q_sI_r]
  · rw [q_sI_o (by omega), q_sI_r]
  · rw [q_sI_o (by omega), q_sI_o (by omega), q_sI_o (by omega)]; exact y.2
theorem s_try {m : q_S} {p a b c : Nat} {w : Nat → Bool} {h : q_H} {Q : Int32 → q_H → Prop} (hok : z_ok m) (hY : z_Y m p w h) (hab : a ≤ b) (hbc : b ≤ c) (hc : c ≤ 64) (k : ∀ g, z_FT p h g → Q (nI (z_ST m p w a b c)) g) : wp_X1_sumOfTry p (nI a) (nI b) (nI c) h Q := by
  unfold wp_X1_sumOfTry wp_X1_setThresholds
  have hF := z_FT_set p h (nI a) (nI b) (nI c)
  have hY' := hY.ft hF
  exact s_sumBy hok hY'.1 (z_T_set hY.2.1) hab hbc hc hY'.2.2 (k _ hF)
theorem s_longest {w : Nat → Bool} {h : q_H} {Q : Int32 → q_H → Prop} (hS : z_Sp w h) (k : ∀ L, L ≤ 64 → z_cap w L → Q (nI L) h) : wp_X2_longest h Q := by
  have hc64 := z_cnt_le w 64
  unfold wp_X2_longest
  refine pk_loop (σ := Int32 × q_H) (fun n i s => lp_X2_longest_4 (fun x _ g => Q x g) n s.1 (nI i) s.2) (fun i s => s.2 = h ∧ ∃ L, L ≤ 64 ∧ s.1 = nI L ∧ ∀ s0, s0 < 64 → z_st w s0 = true → z_cnt w s0 < i → z_len w s0 ≤ L) (z_cnt w 64) 0 (0, h) (by omega) ⟨rfl, 0, by omega, rfl, fun s0 _ _ hlt => by omega⟩ ?_ ?_
  · rintro n ⟨x, g⟩ ⟨e, L, hL, hx, hcap⟩
    have e : g = h := e
    subst e
    have hx : x = nI L := hx
    subst hx
    unfold lp_X2_longest_4
    rw [hS.1]
    exact ⟨fun _ => k L hL (fun s hs hst => hcap s hs hst (z_cnt_lt hst (by omega))), fun z => absurd (nI_le (Nat.le_refl _) (by omega)) z⟩
  · rintro n i ⟨x, g⟩ hi ⟨e, L, hL, hx, hcap⟩ ih
    have e : g = h := e
    subst e
    have hx : x = nI L := hx
    subst hx
    obtain ⟨s, hs, hst, hcs⟩ := z_cnt_hit hi
    subst hcs
    have hcl := z_cnt_le w s
    have hl := z_len_le w (show s ≤ 64 by omega)
    unfold lp_X2_longest_4
    rw [hS.1, cl (by omega), (hS.2 s hs hst).2, nI_1 (z_cnt w s)]
    refine ⟨fun z => absurd z (nle hi (by omega)), fun _ => ⟨vin (by omega) (by omega), ?_⟩⟩
    have next : ∀ M, L ≤ M → z_len w s ≤ M → ∀ s0, s0 < 64 → z_st w s0 = true → z_cnt w s0 < z_cnt w s + 1 → z_len w s0 ≤ M := by
      intro M h1 h2 s0 h3 h4 h5
      by_cases e : z_cnt w s0 = z_cnt w s
      · have := z_cnt_inj h4 hst e
        subst this; exact h2
      · have := hcap s0 h3 h4 (by omega)
        omega
    refine ih (_, _) ⟨rfl, if L < z_len w s then z_len w s else L, by split <;> omega, ?_, next _ (by split <;> omega) (by split <;> omega)⟩
    show (if nI L < nI (z_len w s) then nI (z_len w s) else nI L) = nI (if L < z_len w s then z_len w s else L)
    by_cases e : L < z_len w s
    · rw [if_pos (nI_lt e (by omega)), if_pos e]
    · rw [if_neg (fun q => e ((nI_ltI (by omega) (by omega)).mp q)), if_neg e]
theorem s_laterOff {m : q_S} {p y L : Nat} {w : Nat → Bool} {h : q_H} {Q : Int32 → q_H → Prop} (hok : z_ok m) (hY : z_Y m p w h) (hyL : y ≤ L) (hL : L ≤ 64) (k : ∀ b g, z_FT p h g → z_lof m p w y L b → Q (nI b) g) : wp_X1_bestLaterOff p (nI y) (nI L) h Q := by
  have hST := z_ST_le hok p w
  unfold wp_X1_bestLaterOff
  rw [nI_1 y]
  refine pk_loop (σ := (Int32 × Int32) × q_H) (fun n i s => lp_X1_bestLaterOff_11 p (nI y) (nI L) (fun x _ _ g => Q x g) n s.1.1 s.1.2 (nI i) s.2) (fun i s => z_FT p h s.2 ∧ ∃ b, s.1.1 = nI b ∧ y ≤ b ∧ b < i ∧ (b = y → i = y + 1) ∧ (b ≠ y → s.1.2 = nI (z_ST m p w 0 y b)) ∧ ∀ z, y < z → z < i → z_ST m p w 0 y b * 65 + b ≤ z_ST m p w 0 y z * 65 + z) (L + 1) (y + 1) ((nI y, 0), h) (by omega) ⟨z_FT.rf p h, y, rfl, Nat.le_refl _, by omega, fun _ => rfl, fun q => absurd rfl q, fun z h1 h2 => by omega⟩ ?_ ?_
  · rintro n ⟨⟨x, l⟩, g⟩ ⟨hF, b, hx, h1, h2, h3, h4, h5⟩
    have hx : x = nI b := hx
    subst hx
    unfold lp_X1_bestLaterOff_11
    refine ⟨fun _ => k b g hF ⟨h1, by omega, fun e => ?_, fun z e1 e2 => h5 z e1 (by omega)⟩, fun z => absurd (nI_lt (show L < L + 1 by omega) (by omega)) z⟩
    have := h3 e
    omega
  · rintro n i ⟨⟨x, l⟩, g⟩ hi ⟨hF, b, hx, h1, h2, h3, h4, h5⟩ ih
    have hx : x = nI b := hx
    subst hx
    have hF : z_FT p h g := hF
    have h4 : b ≠ y → l = nI (z_ST m p w 0 y b) := h4
    have b1 := hST 0 y b
    have b2 := hST 0 y i
    unfold lp_X1_bestLaterOff_11
    refine ⟨fun z => absurd ((nI_ltI (by omega) (by omega)).mp z) (by omega), fun _ => ?_⟩
    refine s_try (a := 0) (b := y) (c := i) hok (hY.ft hF) (by omega) (by omega) (by omega) (fun u hu => ?_)
    rw [nI_1 i]
    refine ⟨fun z => ?_, fun z => ?_⟩
    · have e := (nI_eq (a := b) (b := y) (by omega) (by omega)).mp z
      have e2 := h3 e
      refine ih ((_, _), _) ⟨hF.tr hu, i, rfl, by omega, by omega, fun q => by omega, fun _ => rfl, fun z e3 e4 => ?_⟩
      have : z = i := by omega
      subst this; exact Nat.le_refl _
    · have e : b ≠ y := fun q => z (by rw [q])
      have e4 := h4 e
      subst e4
      refine ⟨fun z1 => ?_, fun z1 => ?_⟩
      · have hle := (nI_leI (by omega) (by omega)).mp z1
        refine ih ((_, _), _) ⟨hF.tr hu, b, rfl, h1, by omega, fun q => absurd q e, fun _ => rfl, fun z e3 e4 => ?_⟩
        by_cases e5 : z = i
        · subst e5; omega
        · exact h5 z e3 (by omega)
      · have hlt : ¬ _ ≤ _ := fun q => z1 ((nI_leI (by omega) (by omega)).mpr q)
        refine ih ((_, _), _) ⟨hF.tr hu, i, rfl, by omega, by omega, fun q => by omega, fun _ => rfl, fun z e3 e4 => ?_⟩
        by_cases e5 : z = i
        · subst e5; exact Nat.le_refl _
        · have := h5 z e3 (by omega)
          omega
theorem s_bestRow {m : q_S} {p Y L l a b c : Nat} {w : Nat → Bool} {h : q_H} {E : Int32 → Int32 → Int32 → Int32 → Int32 → q_H → Prop} (hok : z_ok m) (hY : z_Y m p w h) (hyL : Y ≤ L) (hL : L ≤ 64) (hl : z_lof m p w Y L l) (hJ : z_J5 m p w L Y 0 a b c) (k : ∀ a b c x g, z_FT p h g → z_J5 m p w L (Y + 1) 0 a b c → E (nI a) (nI b) (nI c) (nI (z_ST m p w a b c)) x g) : ∃ n, lp_X1_takeBestThresholds_45 p (nI L) (nI Y) (nI l) E n (nI a) (nI b) (nI c) (nI (z_ST m p w a b c)) 0 h := by
  have hST := z_ST_le hok p w
  have hl1 := hl.1
  have hl2 := hl.2.1
  refine pk_loop (σ := (Int32 × Int32 × Int32 × Int32) × q_H) (fun n i s => lp_X1_takeBestThresholds_45 p (nI L) (nI Y) (nI l) E n s.1.1 s.1.2.1 s.1.2.2.1 s.1.2.2.2 (nI i) s.2) (fun i s => z_FT p h s.2 ∧ ∃ a b c, s.1 = (nI a, nI b, nI c, nI (z_ST m p w a b c)) ∧ z_J5 m p w L Y i a b c) (Y + 1) 0 ((nI a, nI b, nI c, nI (z_ST m p w a b c)), h) (by omega) ⟨z_FT.rf p h, a, b, c, rfl, hJ⟩ ?_ ?_
  · rintro n ⟨s, g⟩ ⟨hF, a, b, c, hx, hJ⟩
    have hx : s = (nI a, nI b, nI c, nI (z_ST m p w a b c)) := hx
    subst hx
    unfold lp_X1_takeBestThresholds_45
    exact ⟨fun _ => k a b c _ g hF (z_J5_row hJ), fun z => absurd (nI_lt (show Y < Y + 1 by omega) (by omega)) z⟩
  · rintro n X ⟨s, g⟩ hX ⟨hF, a, b, c, hx, hJ⟩ ih
    have hx : s = (nI a, nI b, nI c, nI (z_ST m p w a b c)) := hx
    subst hx
    have hF : z_FT p h g := hF
    have b1 := hST X Y Y
    have b2 := hST X Y l
    have b3 := hST a b c
    have ha : a ≤ 64 := by have := hJ.1; have := hJ.2.1; have := hJ.2.2.1; omega
    unfold lp_X1_takeBestThresholds_45
    refine ⟨fun z => absurd ((nI_ltI (by omega) (by omega)).mp z) (by omega), fun _ => ?_⟩
    refine s_try (a := X) (b := Y) (c := Y) hok (hY.ft hF) (by omega) (by omega) (by omega) (fun u hu => ?_)
    refine s_try (a := X) (b := Y) (c := l) hok ((hY.ft hF).ft hu) (by omega) (by omega) (by omega) (fun v hv => ?_)
    have hFv : z_FT p h v := (hF.tr hu).tr hv
    rw [nI_1 X, nI_min _ _ (by omega) (by omega)]
    have take : (min (z_ST m p w X Y Y) (z_ST m p w X Y l) < z_ST m p w a b c ∨ (min (z_ST m p w X Y Y) (z_ST m p w X Y l) = z_ST m p w a b c ∧ X < a)) → (nI (z_ST m p w X Y l) < nI (z_ST m p w X Y Y) → lp_X1_takeBestThresholds_45 p (nI L) (nI Y) (nI l) E n (nI X) (nI Y) (nI l) (nI (min (z_ST m p w X Y Y) (z_ST m p w X Y l))) (nI (X + 1)) v) ∧ (¬ nI (z_ST m p w X Y l) < nI (z_ST m p w X Y Y) → lp_X1_takeBestThresholds_45 p (nI L) (nI Y) (nI l) E n (nI X) (nI Y) (nI Y) (nI (min (z_ST m p w X Y Y) (z_ST m p w X Y l))) (nI (X + 1)) v) := by
      intro ht
      have hJ' := z_J5_take hok hL (by omega) hyL hl hJ ht
      refine ⟨fun z => ?_, fun z => ?_⟩
      · have hlt := (nI_ltI (by omega) (by omega)).mp z
        rw [if_pos hlt] at hJ'
        rw [Nat.min_eq_right (by omega)]
        exact ih ((_, _, _, _), _) ⟨hFv, X, Y, l, rfl, hJ'⟩
      · have hlt : ¬ _ < _ := fun q => z ((nI_ltI (by omega) (by omega)).mpr q)
        rw [if_neg hlt] at hJ'
        rw [Nat.min_eq_left (by omega)]
        exact ih ((_, _, _, _), _) ⟨hFv, X, Y, Y, rfl, hJ'⟩
    have leave : ¬ (min (z_ST m p w X Y Y) (z_ST m p w X Y l) < z_ST m p w a b c ∨ (min (z_ST m p w X Y Y) (z_ST m p w X Y l) = z_ST m p w a b c ∧ X < a)) → lp_X1_takeBestThresholds_45 p (nI L) (nI Y) (nI l) E n (nI a) (nI b) (nI c) (nI (z_ST m p w a b c)) (nI (X + 1)) v := by
      intro ht
      exact ih ((_, _, _, _), _) ⟨hFv, a, b, c, rfl, z_J5_leave hok hL (by omega) hyL hl hJ ht⟩
    have bm : min (z_ST m p w X Y Y) (z_ST m p w X Y l) ≤ 526464 := by omega
    generalize min (z_ST m p w X Y Y) (z_ST m p w X Y l) = M at *
    refine ⟨fun z => take (Or.inl ((nI_ltI (by omega) (by omega)).mp z)), fun z => ⟨fun z1 => ⟨fun z2 => ?_, fun z2 => ?_⟩, fun z1 => ?_⟩⟩
    · have e2 := (nI_leI (by omega) (by omega)).mp z2
      have e0 : ¬ _ < _ := fun q => z ((nI_ltI (by omega) (by omega)).mpr q)
      exact leave (fun q => by omega)
    · have e2 : ¬ _ ≤ _ := fun q => z2 ((nI_leI (by omega) (by omega)).mpr q)
      have e1 := (nI_eq (by omega) (by omega)).mp z1
      exact take (Or.inr ⟨e1, by omega⟩)
    · have e1 : ¬ M = _ := fun q => z1 (by rw [q])
      have e0 : ¬ _ < _ := fun q => z ((nI_ltI (by omega) (by omega)).mpr q)
      exact leave (fun q => by omega)
theorem s_takeBest {m : q_S} {p : Nat} {w : Nat → Bool} {h : q_H} {Q : q_H → Prop} (hok : z_ok m) (hY : z_Y m p w h) (k : ∀ a b c g, z_opt m p w a b c → z_FT p h g → z_T p a b c g → Q g) : wp_X1_takeBestThresholds p h Q := by
  unfold wp_X1_takeBestThresholds
  refine s_longest hY.2.2 (fun L hL hcap => ?_)
  refine s_try (a := 0) (b := 0) (c := 0) hok hY (by omega) (by omega) (by omega) (fun u hu => ?_)
  refine pk_loop (σ := (Int32 × Int32 × Int32 × Int32) × q_H) (fun n i s => lp_X1_takeBestThresholds_26 p (nI L) _ n s.1.1 s.1.2.1 s.1.2.2.1 s.1.2.2.2 (nI i) s.2) (fun i s => z_FT p h s.2 ∧ ∃ a b c, s.1 = (nI a, nI b, nI c, nI (z_ST m p w a b c)) ∧ z_J5 m p w L i 0 a b c) (L + 1) 0 ((nI 0, nI 0, nI 0, nI (z_ST m p w 0 0 0)), u) (by omega) ⟨hu, 0, 0, 0, rfl, z_J5_0 m p w L⟩ ?_ ?_
  · rintro n ⟨s, g⟩ ⟨hF, a, b, c, hx, hJ⟩
    have hx : s = (nI a, nI b, nI c, nI (z_ST m p w a b c)) := hx
    subst hx
    have hF : z_FT p h g := hF
    unfold lp_X1_takeBestThresholds_26
    refine ⟨fun _ => ?_, fun z => absurd (nI_lt (show L < L + 1 by omega) (by omega)) z⟩
    unfold wp_X1_setThresholds
    exact k a b c _ (z_J5_end hok hL hcap hJ) (hF.tr (z_FT_set p g _ _ _)) (z_T_set (hY.ft hF).2.1)
  · rintro n Y ⟨s, g⟩ hi ⟨hF, a, b, c, hx, hJ⟩ ih
    have hx : s = (nI a, nI b, nI c, nI (z_ST m p w a b c)) := hx
    subst hx
    have hF : z_FT p h g := hF
    unfold lp_X1_takeBestThresholds_26
    refine ⟨fun z => absurd ((nI_ltI (by omega) (by omega)).mp z) (by omega), fun _ => ?_⟩
    refine s_laterOff hok (hY.ft hF) (by omega) hL (fun l v hv hl => ?_)
    refine s_bestRow hok ((hY.ft hF).ft hv) (by omega) hL hl hJ (fun a b c x t ht hJ' => ?_)
    rw [nI_1 Y]
    exact ih ((_, _, _, _), _) ⟨(hF.tr hv).tr ht, a, b, c, rfl, hJ'⟩
theorem z_C_ruleF {m : q_S} {p a b c : Nat} {h g : q_H} (hc : z_C m h) (hp : p < 6) (hF : z_FT p h g) (hT : z_T p a b c g) : z_C (z_rule m p a b c) g := by
  obtain ⟨c1, cw, cr⟩ := z_C_iff.mp hc
  rw [z_C_iff]
  refine ⟨?_, ?_, ?_⟩
  · obtain ⟨d1, d2, d3, d4, d5, d6, d7, d8⟩ := c1
    unfold z_C1
    rw [hF.1 0 (by omega), hF.1 3 (by omega), hF.1 4 (by omega), hF.1 5 (by omega), hF.1 7 (by omega), hF.1 8 (by omega), hF.1 9 (by omega), hF.1 10 (by omega), hF.1 11 (by omega), hF.1 12 (by omega)]
    refine ⟨d1, d2, d3, d4, fun q hq => ?_, d6, d7, d8⟩
    show _ = _ ∧ _ = nI (if q = p then a else z_ru m q 0) ∧ _ = nI (if q = p then b else z_ru m q 1) ∧ _ = nI (if q = p then c else z_ru m q 2) ∧ _
    by_cases e : q = p
    · subst e
      rw [if_pos rfl, if_pos rfl, if_pos rfl]
      exact hT
    · rw [if_neg e, if_neg e, if_neg e, hF.2.1 q e]
      exact d5 q hq
  · rw [z_wk_rule, hF.2.2.2]; exact cw
  · intro p hp g hg t ht
    rw [z_W_rule, hF.2.2.2]
    exact cr p hp g hg t ht
theorem C_learn {m : q_S} {a : Int32} {h : q_H} {Q : Int32 → q_H → Prop} (hok : z_ok m) (hc : z_C m h) (k0 : ¬ y_isP m a → Q (-1) h) (k1 : ∀ p, p < z_np m → a = nI p → ∀ x y z, z_opt m p (z_w m (-1) p) x y z → ∀ g, z_C (z_rule m p x y z) g → z_Fc h g → Q (nI (z_byrule m p x y z)) g) : wp_X4_learn a h Q := by
  have hnp := hok.1.1
  unfold wp_X4_learn
  refine s_isPart hok hc.1 (fun n => ⟨fun _ => k0 n, fun z => absurd rfl z⟩) (fun p hp e ha => ⟨fun z => absurd z (by decide), fun _ => ?_⟩)
  have kk := k1 p hp e
  subst e
  refine s_layIdle hc.rows (by omega) (fun g hg hS => ⟨vin (by omega) (by omega), ?_⟩)
  have hcg := hg.C hc
  have hT := hcg.one.T (show p < 6 by omega)
  rw [cl (by omega)]
  refine s_takeBest hok ⟨hcg.one.P (by omega), ⟨hT.1, hT.2.2.2.2⟩, hS⟩ (fun x y z u ho hF hTu => ?_)
  have hcu := z_C_ruleF hcg (by omega) hF hTu
  have o1 := ho.1; have o2 := ho.2.1; have o3 := ho.2.2.1
  have hru : z_rows m (-1) (u.2 14 0) := by rw [hF.2.2.2]; exact hcg.rows
  have hPu : z_P m p u := hcu.one.P (by omega)
  refine s_byRule hok hru hPu hTu o1 o2 o3 (by omega) (fun v hv => ?_)
  exact kk x y z ho v (hv.C hcu) ((hg.fc.tr hF.fc).tr hv.fc)
