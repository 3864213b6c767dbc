/-! ===== the answers, out of the numbers ===== -/
abbrev y_isP (m : q_S) (a : Int32) : Prop := ¬ a < 0 ∧ ¬ nI (z_np m) ≤ a
abbrev y_isT (a : Int32) : Prop := ¬ a < 0 ∧ ¬ nI 64 ≤ a
abbrev y_isG (a : Int32) : Prop := ¬ a < 0 ∧ ¬ nI 8 ≤ a
theorem y_in {n : Nat} (hn : n < 2 ^ 31) {a : Int32} (h : ¬ a < 0 ∧ ¬ nI n ≤ a) : ∃ j, j < n ∧ a = nI j := by
  rcases pk_ix a hn with e | e | e
  · exact absurd e h.1
  · exact absurd e h.2
  · exact e
theorem y_of {n j : Nat} (hn : n < 2 ^ 31) (h : j < n) : ¬ nI j < 0 ∧ ¬ nI n ≤ nI j := ⟨nI_pos (by omega), nle h hn⟩
def z_bldL (w : Nat → Bool) : Nat → Int64
  | 0 => 0
  | n + 1 => if w n = true then z_bldL w n ||| ((1 : Int64) <<< ((nI n).toInt64 &&& 63)) else z_bldL w n
theorem z_bldL_tb (w : Nat → Bool) : ∀ n, n ≤ 64 → ∀ t, t < 64 → tb (z_bldL w n) t = (decide (t < n) && w t)
  | 0, _, t, _ => by show tb 0 t = _; rw [tb_0, decide_eq_false (by omega)]; rfl
  | n + 1, hn, t, ht => by
    have ih := z_bldL_tb w n (by omega) t ht
    show tb (if w n = true then _ else _) t = _
    by_cases e : w n = true
    · rw [if_pos e, tb_or, ih, tb_one (by omega) ht]
      by_cases e2 : t = n
      · subst e2; simp [e]
      · by_cases e3 : t < n
        · simp [e2, e3, show t < n + 1 by omega]
        · simp [e2, e3, show ¬ t < n + 1 by omega]
    · rw [if_neg e, ih]
      by_cases e2 : t = n
      · subst e2; simp [e]
      · by_cases e3 : t < n
        · simp [e3, show t < n + 1 by omega]
        · simp [e3, show ¬ t < n + 1 by omega]
def z_plan (m : q_S) (lo : Int32) (p : Nat) : Nat := z_sum (fun t => if z_w m lo p t = true then 1 else 0) 64 * z_dr m p 0 + z_sum (z_ss (z_w m lo p) (z_G m p (z_w m lo p))) 64
def z_byrule (m : q_S) (p a b c : Nat) : Nat := z_sum (fun t => if z_w m (-1) p t = true then 1 else 0) 64 * z_dr m p 0 + z_sum (z_ss (z_w m (-1) p) (z_R m p a b c (z_w m (-1) p))) 64
def z_sti (w : Nat → Bool) (i : Nat) : Nat := z_least (fun t => z_st w t && decide (z_cnt w t = i)) 64 0
theorem z_sti_eq {w : Nat → Bool} {s : Nat} (hs : s < 64) (hst : z_st w s = true) : z_sti w (z_cnt w s) = s := by
  obtain ⟨a, _, _, _⟩ := z_least_spec (f := fun t => z_st w t && decide (z_cnt w t = z_cnt w s)) 64 0 s (Nat.zero_le _) (by omega) (by simp [hst])
  simp only [Bool.and_eq_true, decide_eq_true_eq] at a
  exact z_cnt_inj a.1 hst a.2
def z_nw (m : q_S) : Nat → Nat := z_sum (fun t => if z_wk m t = true then 1 else 0)
def z_wki (m : q_S) (i : Nat) : Nat := z_least (fun t => z_wk m t && decide (z_nw m t = i)) 64 0
def v_wanted (m : q_S) (a b : Int32) : Int32 := if y_isP m a ∧ y_isT b then (if z_w m (-1) a.toNatClampNeg b.toNatClampNeg = true then 1 else 0) else -1
def v_when (m : q_S) (a : Int32) : Int64 := if y_isP m a then z_bldL (z_w m (-1) a.toNatClampNeg) 64 else 0
def v_spans (m : q_S) (a : Int32) : Int32 := if y_isP m a then nI (z_cnt (z_w m (-1) a.toNatClampNeg) 64) else -1
def z_spanv (m : q_S) (p s : Nat) (w : Nat → Bool) (c : Int32) : Int32 :=
  if c.toInt = 0 then nI s else if c.toInt = 1 then nI (z_len w s) else if c.toInt = 2 then nI (z_best m p (z_len w s) (z_lst w s)) else if c.toInt = 3 then nI (z_G m p w s)
  else if c.toInt = 4 then nI (z_cost m p 0 (z_len w s) (z_lst w s)) else if c.toInt = 5 then (if z_lst w s = true ∨ z_best m p (z_len w s) (z_lst w s) = 0 then -1 else nI (s + (z_len w s - z_ri m p (z_best m p (z_len w s) (z_lst w s))))) else -1
def v_span (m : q_S) (a b c : Int32) : Int32 := if y_isP m a ∧ (¬ b < 0 ∧ ¬ nI (z_cnt (z_w m (-1) a.toNatClampNeg) 64) ≤ b) then z_spanv m a.toNatClampNeg (z_sti (z_w m (-1) a.toNatClampNeg) b.toNatClampNeg) (z_w m (-1) a.toNatClampNeg) c else -1
def v_drain (m : q_S) (a : Int32) : Int32 := if y_isP m a then nI (z_plan m (-1) a.toNatClampNeg) else -1
def v_ruled (m : q_S) (a : Int32) : Int32 := if y_isP m a then nI (z_byrule m a.toNatClampNeg (z_ru m a.toNatClampNeg 0) (z_ru m a.toNatClampNeg 1) (z_ru m a.toNatClampNeg 2)) else -1
def z_stv (m : q_S) (p t : Nat) (w : Nat → Bool) : Int32 := if w t = true then 0 else if z_cur w t < (if z_lst w (t - z_cur w t) = true then z_len w (t - z_cur w t) else z_len w (t - z_cur w t) - z_ri m p (z_best m p (z_len w (t - z_cur w t)) (z_lst w (t - z_cur w t)))) then nI (z_best m p (z_len w (t - z_cur w t)) (z_lst w (t - z_cur w t))) else 0
def v_state (m : q_S) (a b : Int32) : Int32 := if y_isP m a ∧ y_isT b then z_stv m a.toNatClampNeg b.toNatClampNeg (z_w m (-1) a.toNatClampNeg) else -1
def z_rsv (m : q_S) (p t : Nat) (w : Nat → Bool) : Int32 := if w t = true then 0 else if z_cur w t < z_rest m p (z_ru m p 0) (z_ru m p 1) (z_ru m p 2) (z_len w (t - z_cur w t)) (z_lst w (t - z_cur w t)) then nI (z_rs (z_ru m p 0) (z_ru m p 1) (z_ru m p 2) (z_cur w t)) else 0
def v_ruledState (m : q_S) (a b : Int32) : Int32 := if y_isP m a ∧ y_isT b then z_rsv m a.toNatClampNeg b.toNatClampNeg (z_w m (-1) a.toNatClampNeg) else -1
def v_all (m : q_S) (lo : Int32) : Int32 := nI (z_sum (z_plan m lo) (z_np m))
def v_without (m : q_S) (a : Int32) : Int32 := if ¬ a < 0 ∧ ¬ nI (z_nh m) ≤ a then v_all m (-1) - v_all m a else -100001
def z_shr (m : q_S) (p g t : Nat) : Nat := if z_W m (-1) p g t = true then 840 / z_sum (fun x => if z_W m (-1) p x t = true then 1 else 0) 8 else 0
def v_blame (m : q_S) (a : Int32) : Int32 :=
  if a = 8 then nI (z_sum (fun p => 840 * z_sum (z_ss (z_w m (-1) p) (z_G m p (z_w m (-1) p))) 64) (z_np m))
  else if y_isG a then nI (z_sum (fun p => z_sum (z_shr m p a.toNatClampNeg) 64 * z_dr m p 0) (z_np m)) else -1
def v_look (m : q_S) (a : Int32) : Int32 := if a.toInt = 0 then nI (z_np m) else if a.toInt = 1 then nI (z_nh m) else if a.toInt = 2 then nI (z_nt m) else if a.toInt = 3 then nI (z_nw m 64) else -1
def v_held (m : q_S) (a b : Int32) : Int32 := if (¬ a < 0 ∧ ¬ nI (z_nh m) ≤ a) ∧ (¬ b < 0 ∧ ¬ nI 4 ≤ b) then nI (z_ho m a.toNatClampNeg b.toNatClampNeg) else -1
def v_waking (m : q_S) (a : Int32) : Int32 := if ¬ a < 0 ∧ ¬ nI (z_nw m 64) ≤ a then nI (z_wki m a.toNatClampNeg) else -1
def v_fires (m : q_S) (a : Int32) : Int32 := if ¬ a < 0 ∧ ¬ nI (z_nt m) ≤ a then nI (z_fi m a.toNatClampNeg) else -1
/-! ===== the class's questions ===== -/
theorem s_isPart {m : q_S} {a : Int32} {h : q_H} {Q : Int32 → q_H → Prop} (hok : z_ok m) (hc : h.1 0 0 1 = nI (z_np m)) (k0 : ¬ y_isP m a → Q 0 h) (k1 : ∀ p, p < z_np m → a = nI p → y_isP m a → Q 1 h) : wp_X4_isPart a h Q := by
  have := hok.1.1
  unfold wp_X4_isPart
  rw [hc]
  refine ⟨fun z => k0 (fun q => q.1 z), fun z => ⟨fun z1 => k0 (fun q => q.2 z1), fun z1 => ?_⟩⟩
  obtain ⟨p, hp, e⟩ := y_in (by omega) ⟨z, z1⟩
  exact k1 p hp e ⟨z, z1⟩
theorem s_isTick {a : Int32} {h : q_H} {Q : Int32 → q_H → Prop} (k0 : ¬ y_isT a → Q 0 h) (k1 : ∀ t, t < 64 → a = nI t → y_isT a → Q 1 h) : wp_X4_isTick a h Q := by
  unfold wp_X4_isTick
  refine ⟨fun z => k0 (fun q => q.1 z), fun z => ⟨fun z1 => k0 (fun q => q.2 z1), fun z1 => ?_⟩⟩
  obtain ⟨p, hp, e⟩ := y_in (n := 64) (by omega) ⟨z, z1⟩
  exact k1 p hp e ⟨z, z1⟩
theorem s_isProgram {a : Int32} {h : q_H} {Q : Int32 → q_H → Prop} (k0 : ¬ y_isG a → Q 0 h) (k1 : ∀ g, g < 8 → a = nI g → y_isG a → Q 1 h) : wp_X4_isProgram a h Q := by
  unfold wp_X4_isProgram
  refine ⟨fun z => k0 (fun q => q.1 z), fun z => ⟨fun z1 => k0 (fun q => q.2 z1), fun z1 => ?_⟩⟩
  obtain ⟨p, hp, e⟩ := y_in (n := 8) (by omega) ⟨z, z1⟩
  exact k1 p hp e ⟨z, z1⟩
theorem s_ticks {m : q_S} {lo : Int32} {c p : Nat} {h : q_H} {Q : Int64 → q_H → Prop} (hr : z_rows m lo (h.2 14 c)) (hp : p < 6) (k : ∀ x : Int64, (∀ t, t < 64 → tb x t = z_w m lo p t) → Q x h) : wp_X3_ticksOf c (nI p) h Q := by
  refine s_ticksOf hp (fun x hx => k x (fun t ht => ?_))
  rw [hx t]
  unfold z_w
  apply z_beq
  rw [z_any, z_any]
  constructor
  · rintro ⟨g, hg, e⟩; exact ⟨g, hg, by rw [← hr p hp g hg t ht]; exact e⟩
  · rintro ⟨g, hg, e⟩; exact ⟨g, hg, by rw [hr p hp g hg t ht]; exact e⟩
theorem s_layIdle {m : q_S} {p : Nat} {h : q_H} {Q : q_H → Prop} (hr : z_rows m (-1) (h.2 14 0)) (hp : p < 6) (k : ∀ g, z_F3 h g → z_Sp (z_w m (-1) p) g → Q g) : wp_X4_layOutIdle (nI p) h Q := by
  unfold wp_X4_layOutIdle
  refine s_ticks hr hp (fun x hx => ?_)
  exact s_layOut hx k
theorem z_C.rows {m : q_S} {h : q_H} (c : z_C m h) : z_rows m (-1) (h.2 14 0) := (z_C_iff.mp c).2.2
theorem z_C.one {m : q_S} {h : q_H} (c : z_C m h) : z_C1 m h := (z_C_iff.mp c).1
theorem C_wanted {m : q_S} {a b : Int32} {h : q_H} {Q : Int32 → q_H → Prop} (hok : z_ok m) (hc : z_C m h) (k : Q (v_wanted m a b) h) : wp_X4_wanted a b h Q := by
  have := hok.1.1
  unfold wp_X4_wanted v_wanted at *
  refine s_isPart hok hc.1 (fun n => ⟨fun _ => ?_, fun z => absurd rfl z⟩) (fun p hp e ha => ⟨fun z => absurd z (by decide), fun _ => ?_⟩)
  · rw [if_neg (fun q => n q.1)] at k; exact k
  refine s_isTick (fun n => ⟨fun _ => ?_, fun z => absurd rfl z⟩) (fun t ht e2 hb => ⟨fun z => absurd z (by decide), fun _ => ?_⟩)
  · rw [if_neg (fun q => n q.2)] at k; exact k
  rw [if_pos ⟨ha, hb⟩] at k
  subst e; subst e2
  rw [cl (by omega), cl (by omega)] at k
  refine s_ticks hc.rows (by omega) (fun x hx => s_hasTick ht ?_)
  rw [hx t ht]
  refine ⟨fun z => ?_, fun z => ?_⟩
  · cases e : z_w m (-1) p t with
    | false => rw [e] at k; exact k
    | true => rw [e] at z; exact absurd z (by decide)
  · cases e : z_w m (-1) p t with
    | true => rw [e] at k; exact k
    | false => rw [e] at z; exact absurd rfl z
theorem C_when {m : q_S} {a : Int32} {h : q_H} {Q : Int64 → q_H → Prop} (hok : z_ok m) (hc : z_C m h) (k : Q (v_when m a) h) : wp_X4_when a h Q := by
  have := hok.1.1
  unfold wp_X4_when v_when at *
  refine s_isPart hok hc.1 (fun n => ⟨fun _ => ?_, fun z => absurd rfl z⟩) (fun p hp e ha => ⟨fun z => absurd z (by decide), fun _ => ?_⟩)
  · rw [if_neg n] at k; exact k
  rw [if_pos ha] at k
  subst e
  rw [cl (by omega)] at k
  refine s_ticks hc.rows (by omega) (fun x hx => ?_)
  have : x = z_bldL (z_w m (-1) p) 64 := by
    apply tb_ext
    intro t ht
    rw [hx t ht, z_bldL_tb _ _ (Nat.le_refl _) t ht, decide_eq_true ht, Bool.true_and]
  rw [this]
  exact k
theorem C_spans {m : q_S} {a : Int32} {h : q_H} {Q : Int32 → q_H → Prop} (hok : z_ok m) (hc : z_C m h) (k : ∀ g, z_F3 h g → Q (v_spans m a) g) : wp_X4_spans a h Q := by
  have := hok.1.1
  unfold wp_X4_spans v_spans at *
  refine s_isPart hok hc.1 (fun n => ⟨fun _ => ?_, fun z => absurd rfl z⟩) (fun p hp e ha => ⟨fun z => absurd z (by decide), fun _ => ?_⟩)
  · have := k h (z_F3.rf h); rw [if_neg n] at this; exact this
  rw [if_pos ha] at k
  subst e
  rw [cl (by omega)] at k
  refine s_layIdle hc.rows (by omega) (fun g hg hS => ?_)
  refine s_size ?_
  rw [hS.1]
  exact k g hg
theorem C_span {m : q_S} {a b c : Int32} {h : q_H} {Q : Int32 → q_H → Prop} (hok : z_ok m) (hc : z_C m h) (k : ∀ g, z_F3 h g → Q (v_span m a b c) g) : wp_X4_span a b c h Q := by
  have := hok.1.1
  unfold wp_X4_span v_span at *
  refine s_isPart hok hc.1 (fun n => ⟨fun _ => ?_, fun z => absurd rfl z⟩) (fun p hp e ha => ⟨fun z => absurd z (by decide), fun _ => ?_⟩)
  · have := k h (z_F3.rf h); rw [if_neg (fun q => n q.1)] at this; exact this
  subst e
  rw [cl (by omega)] at k
  have h64 := z_cnt_le (z_w m (-1) p) 64
  refine s_layIdle hc.rows (by omega) (fun g hg hS => ?_)
  have hP : z_P m p g := (hg.C hc).one.P (by omega)
  unfold wp_X2_has
  rw [hS.1]
  have kn : ¬ (¬ b < 0 ∧ ¬ nI (z_cnt (z_w m (-1) p) 64) ≤ b) → Q (-1) g := fun n => by
    have := k g hg; rw [if_neg (fun q => n q.2)] at this; exact this
  refine ⟨fun z => ⟨fun _ => kn (fun q => q.1 z), fun y => absurd rfl y⟩, fun z => ⟨fun z1 => ⟨fun _ => kn (fun q => q.2 z1), fun y => absurd rfl y⟩, fun z1 => ⟨fun y => absurd y (by decide), fun _ => ?_⟩⟩⟩
  obtain ⟨i, hi, e⟩ := y_in (by omega) ⟨z, z1⟩
  subst e
  obtain ⟨s, hs, hst, hcs⟩ := z_cnt_hit hi
  subst hcs
  have h64s := z_cnt_le (z_w m (-1) p) s
  have kk := k g hg
  rw [if_pos ⟨ha, z, z1⟩, cl (by omega), z_sti_eq hs hst] at kk
  have hlen := z_len_le (z_w m (-1) p) (show s ≤ 64 by omega)
  have hbl := z_best_lt m p (z_len (z_w m (-1) p) s) (z_lst (z_w m (-1) p) s)
  have hbc : z_can m p (z_best m p (z_len (z_w m (-1) p) s) (z_lst (z_w m (-1) p) s)) (z_len (z_w m (-1) p) s) (z_lst (z_w m (-1) p) s) := z_bst_can hok _ _ _ _
  refine s_lenOf hS hs hst ?_
  refine s_endsAll hS hs hst ?_
  refine ⟨vin (by omega) (by omega), ?_⟩
  rw [cl (by omega)]
  refine s_best hok hP (by omega) ?_
  unfold z_spanv at kk
  refine ⟨fun y => ?_, fun y => ?_, fun y => ?_, fun y => ?_, fun y => ?_, fun y => ?_, fun y => ?_⟩
  · rw [if_pos y] at kk
    exact s_firstOf hS hs hst kk
  · rw [if_neg (by omega), if_pos y] at kk; exact kk
  · rw [if_neg (by omega), if_neg (by omega), if_pos y] at kk; exact kk
  · rw [if_neg (by omega), if_neg (by omega), if_neg (by omega), if_pos y] at kk
    exact ⟨vin (by omega) (by omega), s_sumIn hok hP hbl hbc kk⟩
  · rw [if_neg (by omega), if_neg (by omega), if_neg (by omega), if_neg (by omega), if_pos y] at kk
    exact ⟨vin (by omega) (by omega), s_sumIn (s := 0) hok hP (by omega) (Or.inr (by rw [(hok.2.2.2.2.1 p).2.1]; exact Nat.zero_le _)) kk⟩
  · rw [if_neg (by omega), if_neg (by omega), if_neg (by omega), if_neg (by omega), if_neg (by omega), if_pos y] at kk
    refine ⟨fun y1 => ⟨fun y2 => ?_, fun y2 => ?_⟩, fun y1 => ?_⟩
    · have hl := bI_0.mp y1
      have hb : z_best m p (z_len (z_w m (-1) p) s) (z_lst (z_w m (-1) p) s) = 0 := (nI_eq (b := 0) (by omega) (by omega)).mp y2
      rw [if_pos (Or.inr hb)] at kk
      exact kk
    · have hl := bI_0.mp y1
      have hb : ¬ z_best m p (z_len (z_w m (-1) p) s) (z_lst (z_w m (-1) p) s) = 0 := fun q => y2 (by rw [q]; rfl)
      have hno : ¬ (z_lst (z_w m (-1) p) s = true ∨ z_best m p (z_len (z_w m (-1) p) s) (z_lst (z_w m (-1) p) s) = 0) := by
        rintro (q | q)
        · rw [hl] at q; cases q
        · exact hb q
      rw [if_neg hno] at kk
      refine s_firstOf hS hs hst ⟨vin (by omega) (by omega), ?_⟩
      refine s_restIn hP hbl hbc ?_
      rw [nI_add]
      have e9 : (if z_lst (z_w m (-1) p) s = true then z_len (z_w m (-1) p) s else z_len (z_w m (-1) p) s - z_ri m p (z_best m p (z_len (z_w m (-1) p) s) (z_lst (z_w m (-1) p) s))) = z_len (z_w m (-1) p) s - z_ri m p (z_best m p (z_len (z_w m (-1) p) s) (z_lst (z_w m (-1) p) s)) := if_neg (by rw [hl]; decide)
      rw [e9]
      exact kk
    · have hl : z_lst (z_w m (-1) p) s = true := by
        cases e : z_lst (z_w m (-1) p) s with
        | true => rfl
        | false => rw [e] at y1; exact absurd rfl y1
      rw [if_pos (Or.inl hl)] at kk
      exact kk
  · rw [if_neg (by omega), if_neg (by omega), if_neg (by omega), if_neg (by omega), if_neg (by omega), if_neg (by omega)] at kk
    exact kk
