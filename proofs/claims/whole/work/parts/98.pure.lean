/-! ===== the law's loop, as numbers alone ===== -/
/-- a new object: no parts -/
def z_0 : q_S := (0, fun _ _ => 0, fun _ _ => 0, fun _ _ => 0, fun _ _ => 64, fun _ _ => false, 0, fun _ _ => 0, 0, fun _ _ => 0)
theorem z_0_ok : z_ok z_0 := by
  refine ⟨⟨by decide, by decide, by decide⟩, fun _ _ => Nat.zero_le _, fun _ _ => Nat.zero_le _, fun _ _ => Nat.zero_le _, fun _ => ⟨rfl, rfl, Nat.le_refl _, Nat.le_refl _, fun _ => rfl⟩, fun _ => ⟨Nat.le_refl _, Nat.le_refl _, Nat.le_refl _⟩, ⟨fun _ _ h => Bool.noConfusion h, fun S hS => ?_⟩, fun i hi => absurd hi (Nat.not_lt_zero i), fun i hi => absurd hi (Nat.not_lt_zero i)⟩
  obtain ⟨p, hp, hs⟩ := hS
  exact ⟨p, hp, hs, fun _ _ h => Bool.noConfusion h.1⟩
theorem z_0_wk (t : Nat) : z_wk z_0 t = false := rfl
theorem z_0_W {lo : Int32} {p g t : Nat} (hp : p < 6) : z_W z_0 lo p g t = false := by
  refine ts_nt (fun h => ?_)
  have := z_clo_sub (nd := z_nd z_0) (S := z_base z_0 lo g t) (T := fun _ => false) (fun _ _ _ _ h _ => h) (fun _ _ h => h) 6 p hp h
  exact Bool.noConfusion this
theorem z_0_C : z_C z_0 q_h0 := by
  refine ⟨rfl, fun p _ s _ => rfl, fun p _ s _ => rfl, fun p _ s _ => rfl, fun p _ => ⟨rfl, rfl, rfl, rfl, rfl⟩, fun p _ q _ => ?_, ⟨rfl, fun i hi => absurd hi (Nat.not_lt_zero i)⟩, ⟨rfl, fun i hi => absurd hi (Nat.not_lt_zero i)⟩, fun t _ => ?_, fun p hp g _ t _ => ?_⟩
  · show bt 0 q = (decide (q < 6) && false)
    rw [b_0, Bool.and_false]
  · rw [z_0_wk]; exact tb_0 t
  · rw [z_0_W hp]; exact tb_0 t
theorem z_0_M : z_M z_0 q_h0 := ⟨⟨rfl, rfl, rfl, rfl⟩, fun p _ s _ => rfl, fun p _ s _ => rfl, fun p _ s _ => rfl, fun p hp => absurd hp (Nat.not_lt_zero p), fun p _ q _ => rfl, fun i hi => absurd hi (Nat.not_lt_zero i), fun i hi => absurd hi (Nat.not_lt_zero i)⟩
theorem law_pure (L : Nat) (xs : Nat → Int32) (hL : L ≤ 4096) : ∃ n, lp_L_law_18 L xs (fun r _ => r = 1) (fun _ _ => True) n 0 q_h0 := by
  have hlim : ∀ j, j ≤ 4096 → (((Int32.ofNat L) - 8 < nI j) ↔ L < j + 8) := by
    intro j hj
    have e : (nI L - nI 8).toInt = (L : Int) - 8 := pk_sub_toInt (a := L) (b := 8) (by omega) (by omega)
    have e : ((Int32.ofNat L) - 8).toInt = (L : Int) - 8 := e
    rw [Int32.lt_iff_toInt_lt, e, nI_toInt (by omega)]
    omega
  refine pk_loop (σ := q_H) (fun n i s => lp_L_law_18 L xs (fun r _ => r = 1) (fun _ _ => True) n (nI (8 * i)) s) (fun _ s => ∃ m, z_ok m ∧ z_C m s ∧ z_M m s) (L / 8) 0 q_h0 (Nat.zero_le _) ⟨z_0, z_0_ok, z_0_C, z_0_M⟩ ?_ ?_
  · rintro n s _
    unfold lp_L_law_18
    exact ⟨fun _ => trivial, fun z => absurd ((hlim _ (by omega)).mpr (by omega)) z⟩
  · rintro n i s hi ⟨m, hok, hc, hm⟩ ih
    have v : ∀ k, k < 8 → vp_in (nI (8 * i) + nI k) L := fun k hk => by
      rw [nI_add]
      exact vin (by omega) (by omega)
    have v0 : vp_in (nI (8 * i)) L := vin (by omega) (by omega)
    refine L_step v0 (v 1 (by omega)) (v 2 (by omega)) (v 3 (by omega)) (v 4 (by omega)) (v 5 (by omega)) (v 6 (by omega)) (v 7 (by omega)) (fun z => ?_) hok hc hm (fun m' g h1 h2 h3 => ?_)
    · have := (hlim _ (by omega)).mp z
      omega
    · have e : nI (8 * i) + 8 = nI (8 * (i + 1)) := by
        rw [show (8 : Int32) = nI 8 from rfl, nI_add]
        congr 1
      rw [e]
      exact ih g ⟨m', h1, h2, h3⟩
