/-! ===== Long.bitCount counts bits ===== -/
def y_mk (a : Nat) : Nat → Nat
  | 0 => 0
  | k + 1 => 256 * y_mk a k + a
theorem y_and {a b c d : Nat} (hb : b < 256) (hd : d < 256) : (256 * a + b) &&& (256 * c + d) = 256 * (a &&& c) + (b &&& d) := by
  have hbd : b &&& d < 2 ^ 8 := Nat.and_lt_two_pow b (show d < 2 ^ 8 from hd)
  apply Nat.eq_of_testBit_eq
  intro i
  rw [Nat.testBit_and]
  have e : (256 : Nat) = 2 ^ 8 := rfl
  rw [e, Nat.testBit_two_pow_mul_add a (show b < 2 ^ 8 from hb), Nat.testBit_two_pow_mul_add c (show d < 2 ^ 8 from hd), Nat.testBit_two_pow_mul_add (a &&& c) hbd]
  split
  · rw [Nat.testBit_and]
  · rw [Nat.testBit_and]
def y_F1 (k n : Nat) : Nat := n - ((n / 2) &&& y_mk 85 k)
def y_F2 (k n : Nat) : Nat := (n &&& y_mk 51 k) + ((n / 4) &&& y_mk 51 k)
def y_F3 (k n : Nat) : Nat := (n + n / 16) &&& y_mk 15 k
def y_f1 (r : Nat) : Nat := r - ((r / 2) &&& 85)
def y_f2 (r : Nat) : Nat := (r &&& 51) + ((r / 4) &&& 51)
def y_f3 (r : Nat) : Nat := (r + r / 16) &&& 15
theorem y_b1 : ∀ r, r < 256 → ∀ b, b < 2 → (128 * b + r / 2) &&& 85 = (r / 2) &&& 85 := by decide +kernel
theorem y_b2 : ∀ r, r < 256 → ∀ b, b < 4 → (64 * b + r / 4) &&& 51 = (r / 4) &&& 51 := by decide +kernel
theorem y_b3 : ∀ r, r < 80 → ∀ b, b < 5 → (r + r / 16 + 16 * b) &&& 15 = (r + r / 16) &&& 15 := by decide +kernel
theorem y_c1 : ∀ r, r < 256 → y_f1 r < 256 ∧ ((r / 2) &&& 85) ≤ r := by decide +kernel
theorem y_c2 : ∀ r, r < 256 → y_f2 r < 256 := by decide +kernel
theorem y_c3 : ∀ r, r < 256 → y_f2 (y_f1 r) < 69 ∧ y_f2 (y_f1 r) % 16 ≤ 4 := by decide +kernel
def y_pc (r : Nat) : Nat := y_f3 (y_f2 (y_f1 r))
theorem y_pc_ok : ∀ r, r < 256 → y_pc r = z_sum (fun i => if r.testBit i = true then 1 else 0) 8 ∧ y_pc r ≤ 8 := by decide +kernel
theorem y_F1_s (k q r : Nat) (hr : r < 256) : y_F1 (k + 1) (256 * q + r) = 256 * y_F1 k q + y_f1 r := by
  have e1 : (256 * q + r) / 2 = 256 * (q / 2) + (128 * (q % 2) + r / 2) := by omega
  have h1 : ((q / 2) &&& y_mk 85 k) ≤ q := Nat.le_trans Nat.and_le_left (Nat.div_le_self _ _)
  have h2 := (y_c1 r hr).2
  show (256 * q + r) - (((256 * q + r) / 2) &&& (256 * y_mk 85 k + 85)) = 256 * (q - ((q / 2) &&& y_mk 85 k)) + (r - ((r / 2) &&& 85))
  rw [e1, y_and (by omega) (by omega), y_b1 r hr (q % 2) (by omega)]
  omega
theorem y_F2_s (k q r : Nat) (hr : r < 256) : y_F2 (k + 1) (256 * q + r) = 256 * y_F2 k q + y_f2 r := by
  have e1 : (256 * q + r) / 4 = 256 * (q / 4) + (64 * (q % 4) + r / 4) := by omega
  show ((256 * q + r) &&& (256 * y_mk 51 k + 51)) + (((256 * q + r) / 4) &&& (256 * y_mk 51 k + 51)) = 256 * ((q &&& y_mk 51 k) + ((q / 4) &&& y_mk 51 k)) + ((r &&& 51) + ((r / 4) &&& 51))
  rw [e1, y_and hr (by omega), y_and (by omega) (by omega), y_b2 r hr (q % 4) (by omega)]
  omega
theorem y_F3_s (k q r : Nat) (hr : r < 69) (hq : q % 16 ≤ 4) : y_F3 (k + 1) (256 * q + r) = 256 * y_F3 k q + y_f3 r := by
  have e1 : 256 * q + r + (256 * q + r) / 16 = 256 * (q + q / 16) + (r + r / 16 + 16 * (q % 16)) := by omega
  show (256 * q + r + (256 * q + r) / 16) &&& (256 * y_mk 15 k + 15) = 256 * ((q + q / 16) &&& y_mk 15 k) + ((r + r / 16) &&& 15)
  rw [e1, y_and (by omega) (by omega), y_b3 r (by omega) (q % 16) (by omega)]
theorem y_split (n : Nat) : n = 256 * (n / 256) + n % 256 := by omega
theorem y_N (k q : Nat) : y_F2 k (y_F1 k q) % 16 ≤ 4 := by
  cases k with
  | zero => show ((_ &&& 0) + (_ &&& 0)) % 16 ≤ 4; rw [Nat.and_zero, Nat.and_zero]; decide
  | succ k =>
    have hr : q % 256 < 256 := Nat.mod_lt _ (by decide)
    rw [y_split q, y_F1_s k _ _ hr, y_F2_s k _ _ (y_c1 _ hr).1]
    have := (y_c3 _ hr).2
    omega
def y_G (k n : Nat) : Nat := y_F3 k (y_F2 k (y_F1 k n))
theorem y_G_0 (n : Nat) : y_G 0 n = 0 := Nat.and_zero _
theorem y_G_s (k n : Nat) : y_G (k + 1) n = 256 * y_G k (n / 256) + y_pc (n % 256) := by
  have hr : n % 256 < 256 := Nat.mod_lt _ (by decide)
  show y_F3 (k + 1) (y_F2 (k + 1) (y_F1 (k + 1) n)) = _
  conv => lhs; rw [y_split n]
  rw [y_F1_s k _ _ hr, y_F2_s k _ _ (y_c1 _ hr).1, y_F3_s k _ _ (y_c3 _ hr).1 (y_N _ _)]
  rfl
theorem z_sum_8 (f : Nat → Nat) : ∀ N, z_sum f (8 + N) = z_sum f 8 + z_sum (fun t => f (t + 8)) N
  | 0 => rfl
  | N + 1 => by
    show z_sum f (8 + N) + f (8 + N) = z_sum f 8 + (z_sum (fun t => f (t + 8)) N + f (N + 8))
    rw [z_sum_8 f N, Nat.add_comm 8 N]
    omega
def y_bits (n : Nat) : Nat → Nat := z_sum (fun t => if n.testBit t = true then 1 else 0)
theorem y_bits_8 (n N : Nat) : y_bits n (8 + N) = y_pc (n % 256) + y_bits (n / 256) N := by
  have hr : n % 256 < 256 := Nat.mod_lt _ (by decide)
  unfold y_bits
  rw [z_sum_8, (y_pc_ok _ hr).1]
  congr 1
  · refine z_sum_congr 8 (fun i hi => ?_)
    have : (n % 2 ^ 8).testBit i = n.testBit i := by rw [Nat.testBit_mod_two_pow]; simp [hi]
    show (if n.testBit i = true then 1 else 0) = (if (n % 256).testBit i = true then 1 else 0)
    rw [show (256 : Nat) = 2 ^ 8 from rfl, this]
  · refine z_sum_congr N (fun i hi => ?_)
    show (if n.testBit (i + 8) = true then 1 else 0) = (if (n / 256).testBit i = true then 1 else 0)
    rw [show (256 : Nat) = 2 ^ 8 from rfl, Nat.testBit_div_two_pow]
theorem y_k {A B C X Z : Nat} (h : A = 256 * B + C) (hB : B ≤ X) (hC : C ≤ 8) (hZ : 256 * X + 8 = Z) : A ≤ Z := by omega
theorem y_d {A B C : Nat} (h : A = 256 * B + C) (hC : C < 256) : A / 256 = B := by omega
theorem y_a {A B C A' B' C' : Nat} (h : A = 256 * B + C) (h' : A' = 256 * B' + C') : A + A' = 256 * (B + B') + (C + C') := by omega
theorem y_8 {a : Nat} (ha : a ≤ 8) : a < 256 := by omega
theorem y_16 {a b : Nat} (ha : a ≤ 8) (hb : b ≤ 8) : a + b < 256 := by omega
theorem y_32 {a b c d : Nat} (ha : a ≤ 8) (hb : b ≤ 8) (hc : c ≤ 8) (hd : d ≤ 8) : a + b + (c + d) < 256 := by omega
theorem y_end {y Y1 Y2 Y3 Y4 Y5 Y6 Y7 Z a0 a1 a2 a3 a4 a5 a6 a7 : Nat} (h : y + Y1 + (Y2 + Y3) + (Y4 + Y5 + (Y6 + Y7)) = 256 * Z + (a0 + a1 + (a2 + a3) + (a4 + a5 + (a6 + a7)))) (h0 : a0 ≤ 8) (h1 : a1 ≤ 8) (h2 : a2 ≤ 8) (h3 : a3 ≤ 8) (h4 : a4 ≤ 8) (h5 : a5 ≤ 8) (h6 : a6 ≤ 8) (h7 : a7 ≤ 8) (k0 : y ≤ 578721382704613384) (k1 : Y1 ≤ 2260630401189896) (k2 : Y2 ≤ 8830587504648) (k3 : Y3 ≤ 34494482440) (k4 : Y4 ≤ 134744072) (k5 : Y5 ≤ 526344) (k6 : Y6 ≤ 2056) (k7 : Y7 ≤ 8) :
    y < 1085102592571150096 ∧ (y + Y1 + (Y2 + Y3) + (Y4 + Y5 + (Y6 + Y7))) % 128 = a0 + (a1 + (a2 + (a3 + (a4 + (a5 + (a6 + (a7 + 0))))))) ∧ y + Y1 + (Y2 + Y3) + (Y4 + Y5 + (Y6 + Y7)) < 2 ^ 64 := by
  refine ⟨by omega, ?_, by omega⟩
  rw [h]
  omega
theorem y_final (n : Nat) : ∃ y, y = y_G 8 n ∧ y < 1085102592571150096 ∧ (y + y / 256 + (y + y / 256) / 65536 + (y + y / 256 + (y + y / 256) / 65536) / 4294967296) % 128 = y_bits n 64 ∧ y + y / 256 + (y + y / 256) / 65536 + (y + y / 256 + (y + y / 256) / 65536) / 4294967296 < 2 ^ 64 := by
  refine ⟨_, rfl, ?_⟩
  have hb : ∀ n, y_pc (n % 256) ≤ 8 := fun n => (y_pc_ok _ (Nat.mod_lt _ (by decide))).2
  have e : y_bits n 64 = y_pc (n % 256) + (y_pc (n / 256 % 256) + (y_pc (n / 256 / 256 % 256) + (y_pc (n / 256 / 256 / 256 % 256) + (y_pc (n / 256 / 256 / 256 / 256 % 256) + (y_pc (n / 256 / 256 / 256 / 256 / 256 % 256) + (y_pc (n / 256 / 256 / 256 / 256 / 256 / 256 % 256) + (y_pc (n / 256 / 256 / 256 / 256 / 256 / 256 / 256 % 256) + 0))))))) := by
    rw [y_bits_8 _ 56, y_bits_8 _ 48, y_bits_8 _ 40, y_bits_8 _ 32, y_bits_8 _ 24, y_bits_8 _ 16, y_bits_8 _ 8, y_bits_8 _ 0]
    rfl
  rw [e, y_G_s, y_G_s, y_G_s, y_G_s, y_G_s, y_G_s, y_G_s, y_G_s, y_G_0]
  have h0 := hb n; have h1 := hb (n / 256); have h2 := hb (n / 256 / 256); have h3 := hb (n / 256 / 256 / 256); have h4 := hb (n / 256 / 256 / 256 / 256); have h5 := hb (n / 256 / 256 / 256 / 256 / 256); have h6 := hb (n / 256 / 256 / 256 / 256 / 256 / 256); have h7 := hb (n / 256 / 256 / 256 / 256 / 256 / 256 / 256)
  generalize y_pc (n % 256) = a0 at *
  generalize y_pc (n / 256 % 256) = a1 at *
  generalize y_pc (n / 256 / 256 % 256) = a2 at *
  generalize y_pc (n / 256 / 256 / 256 % 256) = a3 at *
  generalize y_pc (n / 256 / 256 / 256 / 256 % 256) = a4 at *
  generalize y_pc (n / 256 / 256 / 256 / 256 / 256 % 256) = a5 at *
  generalize y_pc (n / 256 / 256 / 256 / 256 / 256 / 256 % 256) = a6 at *
  generalize y_pc (n / 256 / 256 / 256 / 256 / 256 / 256 / 256 % 256) = a7 at *
  obtain ⟨Y7, hY7⟩ : ∃ z, z = 256 * 0 + a7 := ⟨_, rfl⟩
  rw [← hY7]
  obtain ⟨Y6, hY6⟩ : ∃ z, z = 256 * Y7 + a6 := ⟨_, rfl⟩
  rw [← hY6]
  obtain ⟨Y5, hY5⟩ : ∃ z, z = 256 * Y6 + a5 := ⟨_, rfl⟩
  rw [← hY5]
  obtain ⟨Y4, hY4⟩ : ∃ z, z = 256 * Y5 + a4 := ⟨_, rfl⟩
  rw [← hY4]
  obtain ⟨Y3, hY3⟩ : ∃ z, z = 256 * Y4 + a3 := ⟨_, rfl⟩
  rw [← hY3]
  obtain ⟨Y2, hY2⟩ : ∃ z, z = 256 * Y3 + a2 := ⟨_, rfl⟩
  rw [← hY2]
  obtain ⟨Y1, hY1⟩ : ∃ z, z = 256 * Y2 + a1 := ⟨_, rfl⟩
  rw [← hY1]
  obtain ⟨y, hy⟩ : ∃ z, z = 256 * Y1 + a0 := ⟨_, rfl⟩
  rw [← hy]
  have k7 : Y7 ≤ 8 := y_k (X := 0) hY7 (Nat.le_refl 0) h7 rfl
  have k6 : Y6 ≤ 2056 := y_k hY6 k7 h6 rfl
  have k5 : Y5 ≤ 526344 := y_k hY5 k6 h5 rfl
  have k4 : Y4 ≤ 134744072 := y_k hY4 k5 h4 rfl
  have k3 : Y3 ≤ 34494482440 := y_k hY3 k4 h3 rfl
  have k2 : Y2 ≤ 8830587504648 := y_k hY2 k3 h2 rfl
  have k1 : Y1 ≤ 2260630401189896 := y_k hY1 k2 h1 rfl
  have k0 : y ≤ 578721382704613384 := y_k hy k1 h0 rfl
  have d1 : y / 256 = Y1 := y_d hy (y_8 h0)
  have d2 : (y + Y1) / 65536 = Y2 + Y3 := by
    rw [show (65536 : Nat) = 256 * 256 from rfl, ← Nat.div_div_eq_div_mul, y_d (y_a hy hY1) (y_16 h0 h1)]
    exact y_d (y_a hY1 hY2) (y_16 h1 h2)
  have d3 : (y + Y1 + (Y2 + Y3)) / 4294967296 = Y4 + Y5 + (Y6 + Y7) := by
    rw [show (4294967296 : Nat) = 256 * 256 * 256 * 256 from rfl, ← Nat.div_div_eq_div_mul, ← Nat.div_div_eq_div_mul, ← Nat.div_div_eq_div_mul]
    rw [y_d (y_a (y_a hy hY1) (y_a hY2 hY3)) (y_32 h0 h1 h2 h3), y_d (y_a (y_a hY1 hY2) (y_a hY3 hY4)) (y_32 h1 h2 h3 h4), y_d (y_a (y_a hY2 hY3) (y_a hY4 hY5)) (y_32 h2 h3 h4 h5)]
    exact y_d (y_a (y_a hY3 hY4) (y_a hY5 hY6)) (y_32 h3 h4 h5 h6)
  rw [d1, d2, d3]
  have d4 := y_a (y_a (y_a hy hY1) (y_a hY2 hY3)) (y_a (y_a hY4 hY5) (y_a hY6 hY7))
  exact y_end d4 h0 h1 h2 h3 h4 h5 h6 h7 k0 k1 k2 k3 k4 k5 k6 k7
theorem y_1 : lN 6148914691236517205 = 6148914691236517205 := rfl
theorem y_2 : lN 3689348814741910323 = 3689348814741910323 := rfl
theorem y_3 : lN 1085102592571150095 = 1085102592571150095 := rfl
theorem s_bitCount {x : Int64} {h : q_H} {Q : Int32 → q_H → Prop} (k : Q (nI (z_sum (fun t => if tb x t = true then 1 else 0) 64)) h) : wp_J13_bitCount_95d88 x h Q := by
  obtain ⟨n, hn, rfl⟩ := wb_of x
  have hsum : z_sum (fun t => if tb (lN n) t = true then 1 else 0) 64 = y_bits n 64 := z_sum_congr 64 (fun t ht => by show (if _ then 1 else 0) = (if _ then 1 else 0); rw [tb_lN n ht])
  rw [hsum] at k
  have sh : ∀ (a : Nat) (s : Int32) (j : Nat), j < 64 → nI j = s → a < 2 ^ 64 → ((Int64.toUInt64 (lN a)) >>> ((Int32.toInt64 s).toUInt64 &&& Int64.toUInt64 63)).toInt64 = lN (a / 2 ^ j) := by
    intro a s j hj hs ha
    rw [← hs]
    exact wb_shr ha hj
  have m1 : y_mk 85 8 = 6148914691236517205 := by decide +kernel
  have m2 : y_mk 51 8 = 3689348814741910323 := by decide +kernel
  have m3 : y_mk 15 8 = 1085102592571150095 := by decide +kernel
  -- the six steps
  have s1 : lN n - (((Int64.toUInt64 (lN n)) >>> ((Int32.toInt64 1).toUInt64 &&& Int64.toUInt64 63)).toInt64 &&& 6148914691236517205) = lN (y_F1 8 n) := by
    rw [sh n 1 1 (by omega) rfl hn, ← y_1, wb_and (Nat.lt_of_le_of_lt (Nat.div_le_self _ _) hn) (by decide), lN_sub (Nat.le_trans Nat.and_le_left (Nat.div_le_self _ _)), ← m1]
    rfl
  have b1 : y_F1 8 n < 2 ^ 64 := Nat.lt_of_le_of_lt (Nat.sub_le _ _) hn
  have m51 : ∀ a, (a &&& 3689348814741910323) ≤ 3689348814741910323 := fun a => Nat.and_le_right
  have m15 : ∀ a, (a &&& 1085102592571150095) ≤ 1085102592571150095 := fun a => Nat.and_le_right
  have s2 : ∀ a, a < 2 ^ 64 → (lN a &&& 3689348814741910323) + (((Int64.toUInt64 (lN a)) >>> ((Int32.toInt64 2).toUInt64 &&& Int64.toUInt64 63)).toInt64 &&& 3689348814741910323) = lN (y_F2 8 a) ∧ y_F2 8 a ≤ 7378697629483820646 := by
    intro a ha
    rw [sh a 2 2 (by omega) rfl ha, ← y_2, wb_and ha (by decide), wb_and (Nat.lt_of_le_of_lt (Nat.div_le_self _ _) ha) (by decide), lN_add]
    have e : y_F2 8 a = (a &&& 3689348814741910323) + ((a / 2 ^ 2) &&& 3689348814741910323) := by unfold y_F2; rw [m2]
    rw [e]
    refine ⟨rfl, ?_⟩
    have c1 := m51 a; have c2 := m51 (a / 2 ^ 2)
    omega
  have s3 : ∀ a, a ≤ 7378697629483820646 → (lN a + ((Int64.toUInt64 (lN a)) >>> ((Int32.toInt64 4).toUInt64 &&& Int64.toUInt64 63)).toInt64) &&& 1085102592571150095 = lN (y_F3 8 a) := by
    intro a ha
    rw [sh a 4 4 (by omega) rfl (by omega), lN_add, ← y_3, wb_and (by have := Nat.div_le_self a (2 ^ 4); omega) (by decide)]
    have e : y_F3 8 a = (a + a / 2 ^ 4) &&& 1085102592571150095 := by unfold y_F3; rw [m3]
    rw [e]
  have s4 : ∀ a (s : Int32) (j : Nat), j < 64 → nI j = s → a < 2 ^ 64 → lN a + ((Int64.toUInt64 (lN a)) >>> ((Int32.toInt64 s).toUInt64 &&& Int64.toUInt64 63)).toInt64 = lN (a + a / 2 ^ j) := by
    intro a s j hj hs ha
    rw [sh a s j hj hs ha, lN_add]
  have s5 : ∀ a, (Int64.toInt32 (lN a)) &&& 127 = nI (a % 128) := by
    intro a
    rw [lN_i, pk_and (nI a) (m := 127) 7 (by decide)]
    congr 1
    show (BitVec.ofNat 32 a).toNat % 2 ^ 7 = a % 128
    rw [BitVec.toNat_ofNat]
    omega
  obtain ⟨y, hy, hy1, hy2, hy3⟩ := y_final n
  unfold wp_J13_bitCount_95d88
  rw [s1]
  obtain ⟨e2, l2⟩ := s2 _ b1
  rw [e2, s3 _ l2]
  have ey : y_F3 8 (y_F2 8 (y_F1 8 n)) = y := hy.symm
  rw [ey]
  have q1 := Nat.div_le_self y (2 ^ 8)
  rw [s4 y 8 8 (by omega) rfl (by omega)]
  have q2 := Nat.div_le_self (y + y / 2 ^ 8) (2 ^ 16)
  rw [s4 (y + y / 2 ^ 8) 16 16 (by omega) rfl (by omega)]
  rw [s4 (y + y / 2 ^ 8 + (y + y / 2 ^ 8) / 2 ^ 16) 32 32 (by omega) rfl (by omega), s5]
  have e6 : (y + y / 2 ^ 8 + (y + y / 2 ^ 8) / 2 ^ 16 + (y + y / 2 ^ 8 + (y + y / 2 ^ 8) / 2 ^ 16) / 2 ^ 32) % 128 = y_bits n 64 := hy2
  rw [e6]
  exact k
