/-! ===== bits (the families bt, ts, wb of kit/laws/BITS.to-paste) ===== -/
def bt (x : Int32) (i : Nat) : Bool := x.toBitVec.getLsbD i
theorem b_ext {x y : Int32} (h : ∀ i, i < 32 → bt x i = bt y i) : x = y := Int32.toBitVec_inj.mp (BitVec.eq_of_getLsbD_eq (fun i hi => h i hi))
theorem b_or (x y : Int32) (i : Nat) : bt (x ||| y) i = (bt x i || bt y i) := by unfold bt; rw [Int32.toBitVec_or, BitVec.getLsbD_or]
theorem b_and (x y : Int32) (i : Nat) : bt (x &&& y) i = (bt x i && bt y i) := by unfold bt; rw [Int32.toBitVec_and, BitVec.getLsbD_and]
theorem b_xor (x y : Int32) (i : Nat) : bt (x ^^^ y) i = (bt x i ^^ bt y i) := by unfold bt; rw [Int32.toBitVec_xor, BitVec.getLsbD_xor]
theorem b_big {x : Int32} {i : Nat} (h : 32 ≤ i) : bt x i = false := BitVec.getLsbD_of_ge _ _ h
theorem b_255 (i : Nat) : bt 255 i = decide (i < 8) := by
  rcases Nat.lt_or_ge i 32 with h | h
  · exact (by decide +kernel : ∀ i, i < 32 → bt 255 i = decide (i < 8)) i h
  · rw [b_big h, decide_eq_false (by omega)]
theorem b_65535 (i : Nat) : bt 65535 i = decide (i < 16) := by
  rcases Nat.lt_or_ge i 32 with h | h
  · exact (by decide +kernel : ∀ i, i < 32 → bt 65535 i = decide (i < 16)) i h
  · rw [b_big h, decide_eq_false (by omega)]
theorem b_m1 : ∀ i, i < 32 → bt (-1) i = true := by decide +kernel
theorem b_0 (i : Nat) : bt 0 i = false := BitVec.getLsbD_zero
theorem s_l : ∀ n, n < 32 → ((nI n &&& 31).toBitVec.smod 32).toNat = n := by decide +kernel
theorem s_u : ∀ n, n < 32 → (((nI n).toUInt32 &&& Int32.toUInt32 31).toBitVec % 32).toNat = n := by decide +kernel
theorem b_shl (n : Nat) (hn : n < 32) (x : Int32) {i : Nat} (hi : i < 32) : bt (x <<< (nI n &&& 31)) i = (decide (n ≤ i) && bt x (i - n)) := by
  unfold bt
  rw [Int32.toBitVec_shiftLeft]
  show (x.toBitVec <<< ((nI n &&& 31).toBitVec.smod 32).toNat).getLsbD i = _
  rw [s_l n hn, BitVec.getLsbD_shiftLeft]
  rcases Nat.lt_or_ge i n with h | h
  · simp [h, Nat.not_le.mpr h]
  · simp [hi, h, Nat.not_lt.mpr h]
theorem b_ushr (n : Nat) (hn : n < 32) (x : Int32) (i : Nat) : bt ((x.toUInt32 >>> ((nI n).toUInt32 &&& Int32.toUInt32 31)).toInt32) i = bt x (n + i) := by
  show (x.toUInt32 >>> ((nI n).toUInt32 &&& Int32.toUInt32 31)).toBitVec.getLsbD i = x.toUInt32.toBitVec.getLsbD (n + i)
  rw [UInt32.toBitVec_shiftRight]
  show (x.toUInt32.toBitVec >>> (((nI n).toUInt32 &&& Int32.toUInt32 31).toBitVec % 32).toNat).getLsbD i = _
  rw [s_u n hn, BitVec.getLsbD_ushiftRight]
theorem b_sshr (n : Nat) (hn : n < 32) (x : Int32) {i : Nat} (hi : i < 32) : bt (x >>> (nI n &&& 31)) i = if n + i < 32 then bt x (n + i) else bt x 31 := by
  unfold bt
  rw [Int32.toBitVec_shiftRight]
  show (x.toBitVec.sshiftRight ((nI n &&& 31).toBitVec.smod 32).toNat).getLsbD i = _
  rw [s_l n hn, BitVec.getLsbD_sshiftRight, BitVec.msb_eq_getLsbD_last]
  simp [hi]
theorem ts_nf {x : Bool} (h : ¬ x = false) : x = true := by cases x <;> first | rfl | exact absurd rfl h
theorem ts_nt {x : Bool} (h : ¬ x = true) : x = false := by cases x <;> first | rfl | exact absurd rfl h
theorem ts_bit {w : Int64} {s : UInt64} {j : Nat} (hj : j < 64) (hs : s.toNat = j) : ((w.toUInt64 >>> s).toInt64 &&& 1) = 0 ↔ w.toBitVec.getLsbD j = false := by
  have e : (w.toUInt64 >>> s).toInt64.toBitVec = w.toBitVec >>> j := by
    apply BitVec.eq_of_toNat_eq
    show (w.toUInt64 >>> s).toNat = _
    rw [UInt64.toNat_shiftRight, hs, Nat.mod_eq_of_lt hj, BitVec.toNat_ushiftRight]
    rfl
  rw [← Int64.toBitVec_inj, Int64.toBitVec_and, e]
  show w.toBitVec >>> j &&& 1#64 = 0#64 ↔ _
  constructor
  · intro h
    have t := congrArg (fun x => x.getLsbD 0) h
    simpa using t
  · intro h
    apply BitVec.eq_of_getLsbD_eq
    intro i hi
    cases i with
    | zero => simp [h]
    | succ i => simp
theorem wb_tb (n : Nat) : (lN n).toBitVec = BitVec.ofNat 64 n := rfl
theorem wb_inj {a b : Int64} (h : a.toBitVec = b.toBitVec) : a = b := Int64.toBitVec_inj.mp h
theorem wb_tn {n : Nat} (h : n < 2 ^ 64) : (lN n).toBitVec.toNat = n := by rw [wb_tb, BitVec.toNat_ofNat, Nat.mod_eq_of_lt h]
theorem wb_of (x : Int64) : ∃ n, n < 2 ^ 64 ∧ x = lN n := ⟨x.toBitVec.toNat, x.toBitVec.isLt, wb_inj (by rw [wb_tb]; simp)⟩
theorem wb_of32 (x : Int32) : ∃ n, n < 2 ^ 32 ∧ x = nI n := ⟨x.toBitVec.toNat, x.toBitVec.isLt, Int32.toBitVec_inj.mp (by show _ = BitVec.ofNat 32 _; simp)⟩
theorem wb_c : ∀ k, k < 64 → ((nI k).toInt64 &&& 63) = lN k := by decide +kernel
theorem wb_cu : ∀ k, k < 64 → ((nI k).toInt64.toUInt64 &&& Int64.toUInt64 63) = UInt64.ofNat k := by decide +kernel
theorem wb_sm : ∀ k, k < 64 → (BitVec.ofNat 64 k).smod 64 = BitVec.ofNat 64 k := by decide +kernel
theorem wb_pw {a b : Nat} (h : a ≤ b) : 2 ^ b = 2 ^ a * 2 ^ (b - a) := by rw [← Nat.pow_add]; congr 1; omega
theorem wb_lt2 {a b : Nat} (h : a < b) : 2 ^ a < 2 ^ b := Nat.pow_lt_pow_right (by decide) h
theorem wb_mod (n : Nat) : lN n = lN (n % 2 ^ 64) := wb_inj (by rw [wb_tb, wb_tb]; apply BitVec.eq_of_toNat_eq; rw [BitVec.toNat_ofNat, BitVec.toNat_ofNat, Nat.mod_mod])
theorem wb_shr {n k : Nat} (hn : n < 2 ^ 64) (hk : k < 64) : ((lN n).toUInt64 >>> ((nI k).toInt64.toUInt64 &&& Int64.toUInt64 63)).toInt64 = lN (n / 2 ^ k) := by
  rw [wb_cu k hk]
  apply wb_inj
  apply BitVec.eq_of_toNat_eq
  show ((lN n).toUInt64 >>> UInt64.ofNat k).toNat = (BitVec.ofNat 64 _).toNat
  have h1 : (UInt64.ofNat k).toNat = k := by
    show (BitVec.ofNat 64 k).toNat = k
    rw [BitVec.toNat_ofNat, Nat.mod_eq_of_lt (by omega)]
  have h2 : (lN n).toUInt64.toNat = n := wb_tn hn
  rw [UInt64.toNat_shiftRight, h1, h2, Nat.mod_eq_of_lt hk, Nat.shiftRight_eq_div_pow, BitVec.toNat_ofNat, Nat.mod_eq_of_lt (Nat.lt_of_le_of_lt (Nat.div_le_self _ _) hn)]
theorem wb_shl (n : Nat) {k : Nat} (hk : k < 64) : lN n <<< ((nI k).toInt64 &&& 63) = lN (n * 2 ^ k) := by
  rw [wb_c k hk]
  apply wb_inj
  rw [Int64.toBitVec_shiftLeft, wb_tb, wb_tb, wb_tb, wb_sm k hk]
  apply BitVec.eq_of_toNat_eq
  rw [BitVec.shiftLeft_eq', BitVec.toNat_shiftLeft, BitVec.toNat_ofNat, BitVec.toNat_ofNat, BitVec.toNat_ofNat, Nat.mod_eq_of_lt (show k < 2 ^ 64 by omega), Nat.shiftLeft_eq, Nat.mul_mod, Nat.mod_mod, ← Nat.mul_mod]
theorem wb_and {a b : Nat} (ha : a < 2 ^ 64) (hb : b < 2 ^ 64) : lN a &&& lN b = lN (a &&& b) := by
  apply wb_inj
  rw [Int64.toBitVec_and, wb_tb, wb_tb, wb_tb]
  apply BitVec.eq_of_toNat_eq
  rw [BitVec.toNat_and, BitVec.toNat_ofNat, BitVec.toNat_ofNat, BitVec.toNat_ofNat, Nat.mod_eq_of_lt ha, Nat.mod_eq_of_lt hb, Nat.mod_eq_of_lt (Nat.and_lt_two_pow _ hb)]
theorem wb_or {a b : Nat} (ha : a < 2 ^ 64) (hb : b < 2 ^ 64) : lN a ||| lN b = lN (a ||| b) := by
  apply wb_inj
  rw [Int64.toBitVec_or, wb_tb, wb_tb, wb_tb]
  apply BitVec.eq_of_toNat_eq
  rw [BitVec.toNat_or, BitVec.toNat_ofNat, BitVec.toNat_ofNat, BitVec.toNat_ofNat, Nat.mod_eq_of_lt ha, Nat.mod_eq_of_lt hb, Nat.mod_eq_of_lt (Nat.or_lt_two_pow ha hb)]
theorem wb_mask {n k : Nat} (hn : n < 2 ^ 64) (hk : k < 64) : lN n &&& lN (2 ^ k - 1) = lN (n % 2 ^ k) := by
  rw [wb_and hn (by have := wb_lt2 hk; omega), Nat.and_two_pow_sub_one_eq_mod]
theorem wb_a1 {n : Nat} (hn : n < 2 ^ 64) : lN n &&& 1 = lN (n % 2) := wb_mask (k := 1) hn (by decide)
theorem wb_bit {n k : Nat} (hn : n < 2 ^ 64) (hk : k < 64) : ((lN n).toUInt64 >>> ((nI k).toInt64.toUInt64 &&& Int64.toUInt64 63)).toInt64 &&& 1 = lN (n / 2 ^ k % 2) := by
  rw [wb_shr hn hk, wb_a1 (Nat.lt_of_le_of_lt (Nat.div_le_self _ _) hn)]
/-! ===== Int64 by its bits ===== -/
def tb (x : Int64) (i : Nat) : Bool := x.toBitVec.getLsbD i
theorem tb_ext {x y : Int64} (h : ∀ i, i < 64 → tb x i = tb y i) : x = y := Int64.toBitVec_inj.mp (BitVec.eq_of_getLsbD_eq (fun i hi => h i hi))
theorem tb_or (x y : Int64) (i : Nat) : tb (x ||| y) i = (tb x i || tb y i) := by unfold tb; rw [Int64.toBitVec_or, BitVec.getLsbD_or]
theorem tb_and (x y : Int64) (i : Nat) : tb (x &&& y) i = (tb x i && tb y i) := by unfold tb; rw [Int64.toBitVec_and, BitVec.getLsbD_and]
theorem tb_xor (x y : Int64) (i : Nat) : tb (x ^^^ y) i = (tb x i ^^ tb y i) := by unfold tb; rw [Int64.toBitVec_xor, BitVec.getLsbD_xor]
theorem tb_0 (i : Nat) : tb 0 i = false := BitVec.getLsbD_zero
theorem tb_m1 : ∀ i, i < 64 → tb (-1) i = true := by decide +kernel
theorem tb_not (x : Int64) {i : Nat} (hi : i < 64) : tb (x ^^^ (-1)) i = !tb x i := by rw [tb_xor, tb_m1 i hi, Bool.xor_true]
theorem tb_lN (n : Nat) {i : Nat} (hi : i < 64) : tb (lN n) i = n.testBit i := by
  show (BitVec.ofNat 64 n).getLsbD i = _
  rw [BitVec.getLsbD_ofNat]
  simp [hi]
theorem lN_one : lN 1 = 1 := rfl
theorem tb_one {t i : Nat} (ht : t < 64) (hi : i < 64) : tb ((1 : Int64) <<< ((nI t).toInt64 &&& 63)) i = decide (i = t) := by
  rw [← lN_one, wb_shl 1 ht, tb_lN _ hi, Nat.one_mul, Nat.testBit_two_pow]
  by_cases h : t = i
  · simp [h]
  · simp [h, show ¬ i = t from fun q => h q.symm]
theorem tb_ahead {n i : Nat} (hn : n < 64) (hi : i < 64) : tb (((1 : Int64) <<< ((nI n).toInt64 &&& 63)) - 1) i = decide (i < n) := by
  have h1 : (1 : Nat) ≤ 1 * 2 ^ n := by rw [Nat.one_mul]; exact Nat.one_le_two_pow
  have e : ((1 : Int64) <<< ((nI n).toInt64 &&& 63)) - 1 = lN (2 ^ n - 1) := by
    have : lN (1 * 2 ^ n) - lN 1 = lN (1 * 2 ^ n - 1) := lN_sub h1
    rw [← lN_one, wb_shl 1 hn, this, Nat.one_mul]
  rw [e, tb_lN _ hi, Nat.testBit_two_pow_sub_one]
theorem lgc_0 (x : Int64) : lg_cmp x 0 = 0 ↔ x = 0 := by
  unfold lg_cmp
  constructor
  · intro h
    by_cases h1 : x > 0
    · rw [if_pos h1] at h; exact absurd h (by decide)
    · rw [if_neg h1] at h
      by_cases h2 : x = 0
      · exact h2
      · rw [if_neg h2] at h; exact absurd h (by decide)
  · intro h
    subst h
    decide +kernel
theorem tb_hit (x : Int64) {t : Nat} (ht : t < 64) : lg_cmp (((Int64.toUInt64 x >>> ((Int32.toInt64 (nI t)).toUInt64 &&& Int64.toUInt64 63)).toInt64) &&& 1) 0 = 0 ↔ tb x t = false := by
  rw [lgc_0]
  refine ts_bit ht ?_
  rw [wb_cu t ht]
  show (BitVec.ofNat 64 t).toNat = t
  rw [BitVec.toNat_ofNat, Nat.mod_eq_of_lt (by omega)]
/-! ===== one bit of an int ===== -/
theorem b_one {t i : Nat} (ht : t < 32) (hi : i < 32) : bt ((1 : Int32) <<< (nI t &&& 31)) i = decide (i = t) := by
  rw [b_shl t ht 1 hi]
  have h1 : ∀ j, j < 32 → bt 1 j = decide (j = 0) := by decide +kernel
  rcases Nat.lt_or_ge i t with h | h
  · rw [decide_eq_false (by omega), Bool.false_and, decide_eq_false (by omega)]
  · rw [h1 (i - t) (by omega), decide_eq_true h, Bool.true_and]
    by_cases e : i = t
    · rw [decide_eq_true (by omega), decide_eq_true e]
    · rw [decide_eq_false (by omega), decide_eq_false e]
theorem b_one1 : ∀ j, j < 32 → bt 1 j = decide (j = 0) := by decide +kernel
theorem b_and1 (x : Int32) : (x &&& 1) = 0 ↔ bt x 0 = false := by
  constructor
  · intro h
    have := congrArg (fun z => bt z 0) h
    simp only [b_and, b_0] at this
    rw [b_one1 0 (by omega)] at this
    simpa using this
  · intro h
    apply b_ext
    intro i hi
    rw [b_and, b_0, b_one1 i hi]
    by_cases e : i = 0
    · subst e; rw [h, Bool.false_and]
    · rw [decide_eq_false e, Bool.and_false]
theorem b_and1' (x : Int32) : (x &&& 1) = 1 ↔ bt x 0 = true := by
  have h01 : (x &&& 1) = 0 ∨ (x &&& 1) = 1 := by
    cases hx : bt x 0 with
    | false => exact Or.inl ((b_and1 x).mpr hx)
    | true =>
      right
      apply b_ext
      intro i hi
      rw [b_and, b_one1 i hi]
      by_cases e : i = 0
      · subst e; rw [hx]; rfl
      · rw [decide_eq_false e, Bool.and_false]
  constructor
  · intro h
    cases hx : bt x 0 with
    | true => rfl
    | false => rw [(b_and1 x).mpr hx] at h; exact absurd h (by decide)
  · intro h
    rcases h01 with h0 | h1
    · rw [(b_and1 x).mp h0] at h; cases h
    · exact h1
/-- the class's test of a bit -/
theorem b_hit (x : Int32) {t : Nat} (ht : t < 32) : ((((Int32.toUInt32 x >>> (Int32.toUInt32 (nI t) &&& Int32.toUInt32 31)).toInt32) &&& 1) = 0) ↔ bt x t = false := by
  rw [b_and1, b_ushr t ht, Nat.add_zero]
/-- the reference's test of a bit -/
theorem b_hitS (x : Int32) {t : Nat} (ht : t < 32) : ((x >>> (nI t &&& 31)) &&& 1) = 1 ↔ bt x t = true := by
  rw [b_and1', b_sshr t ht x (by omega), if_pos (by omega), Nat.add_zero]
theorem b_hitS0 (x : Int32) {t : Nat} (ht : t < 32) : ((x >>> (nI t &&& 31)) &&& 1) = 0 ↔ bt x t = false := by
  rw [b_and1, b_sshr t ht x (by omega), if_pos (by omega), Nat.add_zero]
/-! ===== whole rows of the heap ===== -/
def q_aI (h : q_H) (k i : Nat) (f : Nat → Int32) : q_H := (fun k1 i1 => if k1 = k ∧ i1 = i then f else h.1 k1 i1, h.2)
def q_aL (h : q_H) (k i : Nat) (f : Nat → Int64) : q_H := (h.1, fun k1 i1 => if k1 = k ∧ i1 = i then f else h.2 k1 i1)
theorem q_sI_a (h : q_H) (k i j : Nat) (v : Int32) : q_sI h k i j v = q_aI h k i (upd (h.1 k i) j v) := by
  refine Prod.ext ?_ rfl
  funext k1 i1 j1
  unfold q_sI q_aI upd
  by_cases e : k1 = k ∧ i1 = i
  · obtain ⟨rfl, rfl⟩ := e
    by_cases e2 : j1 = j
    · simp [e2]
    · simp [e2]
  · have : ¬ (k1 = k ∧ i1 = i ∧ j1 = j) := fun q => e ⟨q.1, q.2.1⟩
    simp only [if_neg this, if_neg e]
theorem q_sL_a (h : q_H) (k i j : Nat) (v : Int64) : q_sL h k i j v = q_aL h k i (vp_updL (h.2 k i) j v) := by
  refine Prod.ext rfl ?_
  funext k1 i1 j1
  unfold q_sL q_aL vp_updL
  by_cases e : k1 = k ∧ i1 = i
  · obtain ⟨rfl, rfl⟩ := e
    by_cases e2 : j1 = j
    · simp [e2]
    · simp [e2]
  · have : ¬ (k1 = k ∧ i1 = i ∧ j1 = j) := fun q => e ⟨q.1, q.2.1⟩
    simp only [if_neg this, if_neg e]
theorem q_aI_at (h : q_H) (k i : Nat) (f : Nat → Int32) : (q_aI h k i f).1 k i = f := if_pos ⟨rfl, rfl⟩
theorem q_aL_at (h : q_H) (k i : Nat) (f : Nat → Int64) : (q_aL h k i f).2 k i = f := if_pos ⟨rfl, rfl⟩
theorem q_aI_ne {h : q_H} {k i k1 i1 : Nat} {f : Nat → Int32} (n : ¬ (k1 = k ∧ i1 = i)) : (q_aI h k i f).1 k1 i1 = h.1 k1 i1 := if_neg n
theorem q_aL_ne {h : q_H} {k i k1 i1 : Nat} {f : Nat → Int64} (n : ¬ (k1 = k ∧ i1 = i)) : (q_aL h k i f).2 k1 i1 = h.2 k1 i1 := if_neg n
theorem q_aI_aI (h : q_H) (k i : Nat) (f g : Nat → Int32) : q_aI (q_aI h k i f) k i g = q_aI h k i g := by
  refine Prod.ext ?_ rfl
  funext k1 i1
  by_cases e : k1 = k ∧ i1 = i
  · obtain ⟨rfl, rfl⟩ := e; rw [q_aI_at, q_aI_at]
  · rw [q_aI_ne e, q_aI_ne e, q_aI_ne e]
theorem q_aL_aL (h : q_H) (k i : Nat) (f g : Nat → Int64) : q_aL (q_aL h k i f) k i g = q_aL h k i g := by
  refine Prod.ext rfl ?_
  funext k1 i1
  by_cases e : k1 = k ∧ i1 = i
  · obtain ⟨rfl, rfl⟩ := e; rw [q_aL_at, q_aL_at]
  · rw [q_aL_ne e, q_aL_ne e, q_aL_ne e]
theorem q_aI_self (h : q_H) (k i : Nat) : q_aI h k i (h.1 k i) = h := by
  refine Prod.ext ?_ rfl
  funext k1 i1
  by_cases e : k1 = k ∧ i1 = i
  · obtain ⟨rfl, rfl⟩ := e; rw [q_aI_at]
  · rw [q_aI_ne e]
theorem q_aL_self (h : q_H) (k i : Nat) : q_aL h k i (h.2 k i) = h := by
  refine Prod.ext rfl ?_
  funext k1 i1
  by_cases e : k1 = k ∧ i1 = i
  · obtain ⟨rfl, rfl⟩ := e; rw [q_aL_at]
  · rw [q_aL_ne e]
theorem vI_s (f : Nat → Int32) (k : Nat) (x : Int32) : upd f k x k = x := if_pos rfl
theorem vI_n {f : Nat → Int32} {k j : Nat} {x : Int32} (h : j ≠ k) : upd f k x j = f j := if_neg h
theorem vL_s (f : Nat → Int64) (k : Nat) (x : Int64) : vp_updL f k x k = x := if_pos rfl
theorem vL_n {f : Nat → Int64} {k j : Nat} {x : Int64} (h : j ≠ k) : vp_updL f k x j = f j := if_neg h
/-! ===== the simplest methods ===== -/
theorem s_hasTick {x : Int64} {t : Nat} {h : q_H} {Q : Int32 → q_H → Prop} (ht : t < 64) (k : Q (if tb x t = true then 1 else 0) h) : wp_X4_hasTick x (nI t) h Q := by
  unfold wp_X4_hasTick
  refine ⟨fun c => ?_, fun c => ?_⟩
  · have := (tb_hit x ht).mp c
    rw [this] at k
    exact k
  · have h1 : tb x t = true := by
      cases e : tb x t with
      | true => rfl
      | false => exact absurd ((tb_hit x ht).mpr e) c
    rw [h1] at k
    exact k
theorem s_hasPart {x : Int32} {t : Nat} {h : q_H} {Q : Int32 → q_H → Prop} (ht : t < 32) (k : Q (if bt x t = true then 1 else 0) h) : wp_X4_hasPart x (nI t) h Q := by
  unfold wp_X4_hasPart
  refine ⟨fun c => ?_, fun c => ?_⟩
  · have := (b_hit x ht).mp c
    rw [this] at k
    exact k
  · have h1 : bt x t = true := by
      cases e : bt x t with
      | true => rfl
      | false => exact absurd ((b_hit x ht).mpr e) c
    rw [h1] at k
    exact k
