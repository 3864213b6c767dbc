set_option maxHeartbeats 4000000 in
set_option maxRecDepth 100000 in
theorem dn_X0_add {d : Nat} {i : Nat} {a1 : Int32} {a2 : Int32} {a3 : Int32} {a4 : Int32} (hi : i < 2) {h : q_H} {Q : Int32 → q_H → Prop} (k : wp_X0_add i a1 a2 a3 a4 h Q) : q_den (d + 1) 0 [q_r 8 i, q_i a1, q_i a2, q_i a3, q_i a4] h (q_ri Q) := by
  unfold wp_X0_add at k
  refine ⟨by decide, Nat.le_of_ble_eq_true rfl, ?_⟩
  show q_run (q_pcs q_t_X0_add) 0 5 none (q_den d) 1 (q_ri Q) 0 [(0, q_r 8 i), (1, q_i a1), (2, q_i a2), (3, q_i a3), (4, q_i a4)] [] h
  refine q_aload_n (pc := 0) rfl rfl ?_
  refine q_getI (pc := 1) rfl hi rfl rfl rfl ?_
  refine q_aload_n (pc := 4) rfl rfl ?_
  refine q_getR (pc := 5) rfl hi rfl rfl rfl ?_
  refine q_alen (pc := 8) rfl hi rfl (Nat.le_of_ble_eq_true rfl) (Nat.le_of_ble_eq_true rfl) ?_
  refine q_icmp_lt (pc := 9) (tgt := 14) rfl (by decide) (fun z => ?_) (fun z => ?_)
  · have k := k.1 z
    refine q_aload_n (pc := 14) rfl rfl ?_
    refine q_getR (pc := 15) rfl hi rfl rfl rfl ?_
    refine q_aload_n (pc := 18) rfl rfl ?_
    refine q_getI (pc := 19) rfl hi rfl rfl rfl ?_
    refine q_iload_n (pc := 22) rfl rfl ?_
    obtain ⟨b1, k⟩ := k
    refine q_iastore (pc := 23) rfl hi rfl rfl b1 ?_
    refine q_aload_n (pc := 24) rfl rfl ?_
    refine q_getR (pc := 25) rfl hi rfl rfl rfl ?_
    refine q_aload_n (pc := 28) rfl rfl ?_
    refine q_getI (pc := 29) rfl hi rfl rfl rfl ?_
    refine q_iload_n (pc := 32) rfl rfl ?_
    obtain ⟨b2, k⟩ := k
    refine q_iastore (pc := 33) rfl hi rfl rfl b2 ?_
    refine q_aload_n (pc := 34) rfl rfl ?_
    refine q_getR (pc := 35) rfl hi rfl rfl rfl ?_
    refine q_aload_n (pc := 38) rfl rfl ?_
    refine q_getI (pc := 39) rfl hi rfl rfl rfl ?_
    refine q_iload_n (pc := 42) rfl rfl ?_
    obtain ⟨b3, k⟩ := k
    refine q_iastore (pc := 43) rfl hi rfl rfl b3 ?_
    refine q_aload_n (pc := 44) rfl rfl ?_
    refine q_getR (pc := 45) rfl hi rfl rfl rfl ?_
    refine q_aload_n (pc := 48) rfl rfl ?_
    refine q_getI (pc := 49) rfl hi rfl rfl rfl ?_
    refine q_iload (pc := 52) rfl rfl ?_
    obtain ⟨b4, k⟩ := k
    refine q_iastore (pc := 54) rfl hi rfl rfl b4 ?_
    refine q_aload_n (pc := 55) rfl rfl ?_
    refine q_dup (pc := 56) rfl rfl ?_
    refine q_getI (pc := 57) rfl hi rfl rfl rfl ?_
    refine q_iconst (pc := 60) (v := 1) rfl (by decide) ?_
    refine q_iadd (pc := 61) rfl ?_
    refine q_putI (pc := 62) rfl hi rfl rfl rfl ?_
    refine q_aload_n (pc := 65) rfl rfl ?_
    refine q_getI (pc := 66) rfl hi rfl rfl rfl ?_
    refine q_iconst (pc := 69) (v := 1) rfl (by decide) ?_
    refine q_isub (pc := 70) rfl ?_
    exact q_iret (pc := 71) rfl rfl ⟨_, rfl, k⟩
  · have k := k.2 z
    refine q_iconst (pc := 12) (v := (-1)) rfl (by decide) ?_
    exact q_iret (pc := 13) rfl rfl ⟨_, rfl, k⟩
set_option maxHeartbeats 4000000 in
set_option maxRecDepth 100000 in
theorem dn_X0_size {d : Nat} {i : Nat} (hi : i < 2) {h : q_H} {Q : Int32 → q_H → Prop} (k : wp_X0_size i h Q) : q_den (d + 1) 1 [q_r 8 i] h (q_ri Q) := by
  unfold wp_X0_size at k
  refine ⟨by decide, Nat.le_of_ble_eq_true rfl, ?_⟩
  show q_run (q_pcs q_t_X0_size) 0 1 none (q_den d) 1 (q_ri Q) 0 [(0, q_r 8 i)] [] h
  refine q_aload_n (pc := 0) rfl rfl ?_
  refine q_getI (pc := 1) rfl hi rfl rfl rfl ?_
  exact q_iret (pc := 4) rfl rfl ⟨_, rfl, k⟩
set_option maxHeartbeats 4000000 in
set_option maxRecDepth 100000 in
theorem dn_X0_has {d : Nat} {i : Nat} {a1 : Int32} (hi : i < 2) {h : q_H} {Q : Int32 → q_H → Prop} (k : wp_X0_has i a1 h Q) : q_den (d + 1) 2 [q_r 8 i, q_i a1] h (q_ri Q) := by
  unfold wp_X0_has at k
  refine ⟨by decide, Nat.le_of_ble_eq_true rfl, ?_⟩
  show q_run (q_pcs q_t_X0_has) 0 2 none (q_den d) 3 (q_ri Q) 0 [(0, q_r 8 i), (1, q_i a1)] [] h
  refine q_iload_n (pc := 0) rfl rfl ?_
  refine q_if_lt (pc := 1) (tgt := 16) rfl (by decide) (fun z => ?_) (fun z => ?_)
  · have k := k.1 z
    refine q_iconst (pc := 16) (v := 0) rfl (by decide) ?_
    exact q_zret (pc := 17) rfl rfl (by decide) ⟨_, rfl, k⟩
  · have k := k.2 z
    refine q_iload_n (pc := 4) rfl rfl ?_
    refine q_aload_n (pc := 5) rfl rfl ?_
    refine q_getI (pc := 6) rfl hi rfl rfl rfl ?_
    refine q_icmp_ge (pc := 9) (tgt := 16) rfl (by decide) (fun z => ?_) (fun z => ?_)
    · have k := k.1 z
      refine q_iconst (pc := 16) (v := 0) rfl (by decide) ?_
      exact q_zret (pc := 17) rfl rfl (by decide) ⟨_, rfl, k⟩
    · have k := k.2 z
      refine q_iconst (pc := 12) (v := 1) rfl (by decide) ?_
      refine q_goto (pc := 13) (tgt := 17) rfl (by decide) ?_
      exact q_zret (pc := 17) rfl rfl (by decide) ⟨_, rfl, k⟩
set_option maxHeartbeats 4000000 in
set_option maxRecDepth 100000 in
theorem dn_X0_programOf {d : Nat} {i : Nat} {a1 : Int32} (hi : i < 2) {h : q_H} {Q : Int32 → q_H → Prop} (k : wp_X0_programOf i a1 h Q) : q_den (d + 1) 3 [q_r 8 i, q_i a1] h (q_ri Q) := by
  unfold wp_X0_programOf at k
  refine ⟨by decide, Nat.le_of_ble_eq_true rfl, ?_⟩
  show q_run (q_pcs q_t_X0_programOf) 0 2 none (q_den d) 1 (q_ri Q) 0 [(0, q_r 8 i), (1, q_i a1)] [] h
  refine q_aload_n (pc := 0) rfl rfl ?_
  refine q_getR (pc := 1) rfl hi rfl rfl rfl ?_
  refine q_iload_n (pc := 4) rfl rfl ?_
  obtain ⟨b1, k⟩ := k
  refine q_iaload (pc := 5) rfl hi rfl rfl b1 ?_
  exact q_iret (pc := 6) rfl rfl ⟨_, rfl, k⟩
set_option maxHeartbeats 4000000 in
set_option maxRecDepth 100000 in
theorem dn_X0_partOf {d : Nat} {i : Nat} {a1 : Int32} (hi : i < 2) {h : q_H} {Q : Int32 → q_H → Prop} (k : wp_X0_partOf i a1 h Q) : q_den (d + 1) 4 [q_r 8 i, q_i a1] h (q_ri Q) := by
  unfold wp_X0_partOf at k
  refine ⟨by decide, Nat.le_of_ble_eq_true rfl, ?_⟩
  show q_run (q_pcs q_t_X0_partOf) 0 2 none (q_den d) 1 (q_ri Q) 0 [(0, q_r 8 i), (1, q_i a1)] [] h
  refine q_aload_n (pc := 0) rfl rfl ?_
  refine q_getR (pc := 1) rfl hi rfl rfl rfl ?_
  refine q_iload_n (pc := 4) rfl rfl ?_
  obtain ⟨b1, k⟩ := k
  refine q_iaload (pc := 5) rfl hi rfl rfl b1 ?_
  exact q_iret (pc := 6) rfl rfl ⟨_, rfl, k⟩
set_option maxHeartbeats 4000000 in
set_option maxRecDepth 100000 in
theorem dn_X0_fromOf {d : Nat} {i : Nat} {a1 : Int32} (hi : i < 2) {h : q_H} {Q : Int32 → q_H → Prop} (k : wp_X0_fromOf i a1 h Q) : q_den (d + 1) 5 [q_r 8 i, q_i a1] h (q_ri Q) := by
  unfold wp_X0_fromOf at k
  refine ⟨by decide, Nat.le_of_ble_eq_true rfl, ?_⟩
  show q_run (q_pcs q_t_X0_fromOf) 0 2 none (q_den d) 1 (q_ri Q) 0 [(0, q_r 8 i), (1, q_i a1)] [] h
  refine q_aload_n (pc := 0) rfl rfl ?_
  refine q_getR (pc := 1) rfl hi rfl rfl rfl ?_
  refine q_iload_n (pc := 4) rfl rfl ?_
  obtain ⟨b1, k⟩ := k
  refine q_iaload (pc := 5) rfl hi rfl rfl b1 ?_
  exact q_iret (pc := 6) rfl rfl ⟨_, rfl, k⟩
set_option maxHeartbeats 4000000 in
set_option maxRecDepth 100000 in
theorem dn_X0_toOf {d : Nat} {i : Nat} {a1 : Int32} (hi : i < 2) {h : q_H} {Q : Int32 → q_H → Prop} (k : wp_X0_toOf i a1 h Q) : q_den (d + 1) 6 [q_r 8 i, q_i a1] h (q_ri Q) := by
  unfold wp_X0_toOf at k
  refine ⟨by decide, Nat.le_of_ble_eq_true rfl, ?_⟩
  show q_run (q_pcs q_t_X0_toOf) 0 2 none (q_den d) 1 (q_ri Q) 0 [(0, q_r 8 i), (1, q_i a1)] [] h
  refine q_aload_n (pc := 0) rfl rfl ?_
  refine q_getR (pc := 1) rfl hi rfl rfl rfl ?_
  refine q_iload_n (pc := 4) rfl rfl ?_
  obtain ⟨b1, k⟩ := k
  refine q_iaload (pc := 5) rfl hi rfl rfl b1 ?_
  exact q_iret (pc := 6) rfl rfl ⟨_, rfl, k⟩
set_option maxHeartbeats 4000000 in
set_option maxRecDepth 100000 in
theorem dn_X4_ticksAhead {d : Nat} {a0 : Int32} {h : q_H} {Q : Int64 → q_H → Prop} (k : wp_X4_ticksAhead a0 h Q) : q_den (d + 1) 73 [q_i a0] h (q_rl Q) := by
  unfold wp_X4_ticksAhead at k
  refine ⟨by decide, Nat.le_of_ble_eq_true rfl, ?_⟩
  show q_run (q_pcs q_t_X4_ticksAhead) 4 1 none (q_den d) 2 (q_rl Q) 0 [(0, q_i a0)] [] h
  refine q_iload_n (pc := 0) rfl rfl ?_
  refine q_bipush (pc := 1) (v := 64) rfl (by decide) ?_
  refine q_icmp_lt (pc := 3) (tgt := 12) rfl (by decide) (fun z => ?_) (fun z => ?_)
  · have k := k.1 z
    refine q_lconst (pc := 12) (v := 1) rfl (by decide) ?_
    refine q_iload_n (pc := 13) rfl rfl ?_
    refine q_lshl (pc := 14) rfl ?_
    refine q_lconst (pc := 15) (v := 1) rfl (by decide) ?_
    refine q_lsub (pc := 16) rfl ?_
    exact q_lret (pc := 17) rfl rfl ⟨_, rfl, k⟩
  · have k := k.2 z
    refine q_ldc2 (pc := 6) (v := (-1)) rfl rfl ?_
    refine q_goto (pc := 9) (tgt := 17) rfl (by decide) ?_
    exact q_lret (pc := 17) rfl rfl ⟨_, rfl, k⟩
set_option maxHeartbeats 4000000 in
set_option maxRecDepth 100000 in
theorem dn_X0_ticksOf {d : Nat} {i : Nat} {a1 : Int32} (hi : i < 2) {h : q_H} {Q : Int64 → q_H → Prop} (k : wp_X0_ticksOf i a1 h Q) : q_den (d + 2) 7 [q_r 8 i, q_i a1] h (q_rl Q) := by
  unfold wp_X0_ticksOf at k
  refine ⟨by decide, Nat.le_of_ble_eq_true rfl, ?_⟩
  show q_run (q_pcs q_t_X0_ticksOf) 0 2 none (q_den (d + 1)) 2 (q_rl Q) 0 [(0, q_r 8 i), (1, q_i a1)] [] h
  refine q_aload_n (pc := 0) rfl rfl ?_
  refine q_getR (pc := 1) rfl hi rfl rfl rfl ?_
  refine q_iload_n (pc := 4) rfl rfl ?_
  obtain ⟨b1, k⟩ := k
  refine q_iaload (pc := 5) rfl hi rfl rfl b1 ?_
  refine q_callS (kd := 1) (pc := 6) (As := [q_i (Prod.fst h 12 i (Int32.toNatClampNeg a1))]) (rest := []) rfl rfl rfl  rfl (Nat.le_of_ble_eq_true rfl) ?_
  refine q_den_mono _ _ _ _ _ _ ?_ (dn_X4_ticksAhead (d := d)  k)
  rintro _ g2 ⟨r3, rfl, k⟩
  refine q_aload_n (pc := 9) rfl rfl ?_
  refine q_getR (pc := 10) rfl hi rfl rfl rfl ?_
  refine q_iload_n (pc := 13) rfl rfl ?_
  obtain ⟨b4, k⟩ := k
  refine q_iaload (pc := 14) rfl hi rfl rfl b4 ?_
  refine q_callS (kd := 1) (pc := 15) (As := [q_i (Prod.fst g2 11 i (Int32.toNatClampNeg a1))]) (rest := [q_l r3]) rfl rfl rfl  rfl (Nat.le_of_ble_eq_true rfl) ?_
  refine q_den_mono _ _ _ _ _ _ ?_ (dn_X4_ticksAhead (d := d)  k)
  rintro _ g5 ⟨r6, rfl, k⟩
  refine q_ldc2 (pc := 18) (v := (-1)) rfl rfl ?_
  refine q_lxor (pc := 21) rfl ?_
  refine q_land (pc := 22) rfl ?_
  exact q_lret (pc := 23) rfl rfl ⟨_, rfl, k⟩
set_option maxHeartbeats 4000000 in
set_option maxRecDepth 100000 in
theorem dn_X0_endAhead {d : Nat} {i : Nat} {a1 : Int32} {a2 : Int32} (hi : i < 2) {h : q_H} {Q : q_H → Prop} (k : wp_X0_endAhead i a1 a2 h Q) : q_den (d + 1) 8 [q_r 8 i, q_i a1, q_i a2] h (q_rv Q) := by
  unfold wp_X0_endAhead at k
  refine ⟨by decide, Nat.le_of_ble_eq_true rfl, ?_⟩
  show q_run (q_pcs q_t_X0_endAhead) 0 3 none (q_den d) 0 (q_rv Q) 0 [(0, q_r 8 i), (1, q_i a1), (2, q_i a2)] [] h
  refine q_aload_n (pc := 0) rfl rfl ?_
  refine q_getR (pc := 1) rfl hi rfl rfl rfl ?_
  refine q_iload_n (pc := 4) rfl rfl ?_
  refine q_iload_n (pc := 5) rfl rfl ?_
  obtain ⟨b1, k⟩ := k
  refine q_iastore (pc := 6) rfl hi rfl rfl b1 ?_
  exact q_vret (pc := 7) rfl rfl ⟨rfl, k⟩
set_option maxHeartbeats 4000000 in
set_option maxRecDepth 100000 in
theorem dl_X0_firstEndWithNone_5 {d : Nat} {i : Nat} {x1 : Int64} (hi : i < 2) {E : Int32 → Int32 → q_H → Prop} {Q : Int32 → q_H → Prop} (hE : ∀ (x3 : Int32) (x4 : Int32) (h : q_H), E x3 x4 h → q_run (q_pcs q_t_X0_firstEndWithNone) 0 6 none (q_den (d + 2)) 1 (q_ri Q) 69 [(0, q_r 8 i), (1, q_l x1), (3, q_i x3), (4, q_i x4)] [] h) : ∀ (n : Nat) (x3 : Int32) (x4 : Int32) (h : q_H), lp_X0_firstEndWithNone_5 i x1 E n x3 x4 h → q_run (q_pcs q_t_X0_firstEndWithNone) 0 6 none (q_den (d + 2)) 1 (q_ri Q) 5 [(0, q_r 8 i), (1, q_l x1), (3, q_i x3), (4, q_i x4)] [] h := by
  intro n
  induction n with
  | zero => intro x3 x4 h k; exact k.elim
  | succ n ih =>
    intro x3 x4 h k
    unfold lp_X0_firstEndWithNone_5 at k
    refine q_iload (pc := 5) rfl rfl ?_
    refine q_aload_n (pc := 7) rfl rfl ?_
    refine q_getI (pc := 8) rfl hi rfl rfl rfl ?_
    refine q_icmp_ge (pc := 11) (tgt := 69) rfl (by decide) (fun z => ?_) (fun z => ?_)
    · have k := k.1 z
      refine q_sub (pc := 69) (ks := [0, 1, 2, 3]) rfl ?_
      exact hE _ _ _ k
    · have k := k.2 z
      refine q_aload_n (pc := 14) rfl rfl ?_
      refine q_iload (pc := 15) rfl rfl ?_
      refine q_callV (pc := 17) (As := [q_i x4]) (rest := []) rfl rfl rfl hi rfl rfl (Nat.le_of_ble_eq_true rfl) ?_
      refine q_den_mono _ _ _ _ _ _ ?_ (dn_X0_ticksOf (d := d) hi k)
      rintro _ g1 ⟨r2, rfl, k⟩
      refine q_lload_n (pc := 20) rfl rfl ?_
      refine q_land (pc := 21) rfl ?_
      refine q_lconst (pc := 22) (v := 0) rfl (by decide) ?_
      refine q_lcmp (pc := 23) rfl ?_
      refine q_if_ne (pc := 24) (tgt := 31) rfl (by decide) (fun z => ?_) (fun z => ?_)
      · have k := k.2 z
        refine q_iconst (pc := 31) (v := 0) rfl (by decide) ?_
        refine q_istore (pc := 32) (ls1 := [(5, q_i 0), (0, q_r 8 i), (1, q_l x1), (3, q_i x3), (4, q_i x4)]) rfl (by decide) rfl ?_
        refine q_iload (pc := 34) rfl rfl ?_
        refine q_if_eq (pc := 36) (tgt := 63) rfl (by decide) (fun _ => ?_) (fun z => absurd z (by decide))
        refine q_iinc (pc := 63) (v := (x4 + 1)) (ls1 := [(4, q_i (x4 + 1)), (5, q_i 0), (0, q_r 8 i), (1, q_l x1), (3, q_i x3)]) rfl (by decide) rfl (congrArg (fun z => x4 + z) (by decide : Int32.ofInt 1 = 1)) rfl ?_
        refine q_goto (pc := 66) (tgt := 5) rfl (by decide) ?_
        refine q_sub (pc := 5) (ks := [2, 3, 4, 0]) rfl ?_
        exact ih _ _ _ k
      · have k := k.1 z
        refine q_iconst (pc := 27) (v := 1) rfl (by decide) ?_
        refine q_goto (pc := 28) (tgt := 32) rfl (by decide) ?_
        refine q_istore (pc := 32) (ls1 := [(5, q_i 1), (0, q_r 8 i), (1, q_l x1), (3, q_i x3), (4, q_i x4)]) rfl (by decide) rfl ?_
        refine q_iload (pc := 34) rfl rfl ?_
        refine q_if_eq (pc := 36) (tgt := 63) rfl (by decide) (fun z => absurd z (by decide)) (fun _ => ?_)
        refine q_iload_n (pc := 39) rfl rfl ?_
        refine q_iconst (pc := 40) (v := (-1)) rfl (by decide) ?_
        refine q_icmp_eq (pc := 41) (tgt := 55) rfl (by decide) (fun z => ?_) (fun z => ?_)
        · have k := k.1 z
          refine q_aload_n (pc := 55) rfl rfl ?_
          refine q_getR (pc := 56) rfl hi rfl rfl rfl ?_
          refine q_iload (pc := 59) rfl rfl ?_
          obtain ⟨b3, k⟩ := k
          refine q_iaload (pc := 61) rfl hi rfl rfl b3 ?_
          refine q_istore_n (pc := 62) (ls1 := [(3, q_i (Prod.fst g1 12 i (Int32.toNatClampNeg x4))), (5, q_i 1), (0, q_r 8 i), (1, q_l x1), (4, q_i x4)]) rfl (by decide) rfl ?_
          refine q_iinc (pc := 63) (v := (x4 + 1)) (ls1 := [(4, q_i (x4 + 1)), (3, q_i (Prod.fst g1 12 i (Int32.toNatClampNeg x4))), (5, q_i 1), (0, q_r 8 i), (1, q_l x1)]) rfl (by decide) rfl (congrArg (fun z => x4 + z) (by decide : Int32.ofInt 1 = 1)) rfl ?_
          refine q_goto (pc := 66) (tgt := 5) rfl (by decide) ?_
          refine q_sub (pc := 5) (ks := [3, 4, 1, 0]) rfl ?_
          exact ih _ _ _ k
        · have k := k.2 z
          refine q_aload_n (pc := 44) rfl rfl ?_
          refine q_getR (pc := 45) rfl hi rfl rfl rfl ?_
          refine q_iload (pc := 48) rfl rfl ?_
          obtain ⟨b4, k⟩ := k
          refine q_iaload (pc := 50) rfl hi rfl rfl b4 ?_
          refine q_iload_n (pc := 51) rfl rfl ?_
          refine q_icmp_ge (pc := 52) (tgt := 63) rfl (by decide) (fun z => ?_) (fun z => ?_)
          · have k := k.1 z
            refine q_iinc (pc := 63) (v := (x4 + 1)) (ls1 := [(4, q_i (x4 + 1)), (5, q_i 1), (0, q_r 8 i), (1, q_l x1), (3, q_i x3)]) rfl (by decide) rfl (congrArg (fun z => x4 + z) (by decide : Int32.ofInt 1 = 1)) rfl ?_
            refine q_goto (pc := 66) (tgt := 5) rfl (by decide) ?_
            refine q_sub (pc := 5) (ks := [2, 3, 4, 0]) rfl ?_
            exact ih _ _ _ k
          · have k := k.2 z
            refine q_aload_n (pc := 55) rfl rfl ?_
            refine q_getR (pc := 56) rfl hi rfl rfl rfl ?_
            refine q_iload (pc := 59) rfl rfl ?_
            obtain ⟨b5, k⟩ := k
            refine q_iaload (pc := 61) rfl hi rfl rfl b5 ?_
            refine q_istore_n (pc := 62) (ls1 := [(3, q_i (Prod.fst g1 12 i (Int32.toNatClampNeg x4))), (5, q_i 1), (0, q_r 8 i), (1, q_l x1), (4, q_i x4)]) rfl (by decide) rfl ?_
            refine q_iinc (pc := 63) (v := (x4 + 1)) (ls1 := [(4, q_i (x4 + 1)), (3, q_i (Prod.fst g1 12 i (Int32.toNatClampNeg x4))), (5, q_i 1), (0, q_r 8 i), (1, q_l x1)]) rfl (by decide) rfl (congrArg (fun z => x4 + z) (by decide : Int32.ofInt 1 = 1)) rfl ?_
            refine q_goto (pc := 66) (tgt := 5) rfl (by decide) ?_
            refine q_sub (pc := 5) (ks := [3, 4, 1, 0]) rfl ?_
            exact ih _ _ _ k
set_option maxHeartbeats 4000000 in
set_option maxRecDepth 100000 in
theorem dn_X0_firstEndWithNone {d : Nat} {i : Nat} {a1 : Int64} (hi : i < 2) {h : q_H} {Q : Int32 → q_H → Prop} (k : wp_X0_firstEndWithNone i a1 h Q) : q_den (d + 3) 9 [q_r 8 i, q_l a1] h (q_ri Q) := by
  unfold wp_X0_firstEndWithNone at k
  refine ⟨by decide, Nat.le_of_ble_eq_true rfl, ?_⟩
  show q_run (q_pcs q_t_X0_firstEndWithNone) 0 6 none (q_den (d + 2)) 1 (q_ri Q) 0 [(0, q_r 8 i), (1, q_l a1)] [] h
  refine q_iconst (pc := 0) (v := (-1)) rfl (by decide) ?_
  refine q_istore_n (pc := 1) (ls1 := [(3, q_i (-1)), (0, q_r 8 i), (1, q_l a1)]) rfl (by decide) rfl ?_
  refine q_iconst (pc := 2) (v := 0) rfl (by decide) ?_
  refine q_istore (pc := 3) (ls1 := [(4, q_i 0), (3, q_i (-1)), (0, q_r 8 i), (1, q_l a1)]) rfl (by decide) rfl ?_
  obtain ⟨n6, k⟩ := k
  refine q_sub (pc := 5) (ks := [2, 3, 1, 0]) rfl ?_
  refine dl_X0_firstEndWithNone_5 hi (fun y3_6 y4_6 g6 k => ?_) n6 _ _ _ k
  refine q_iload_n (pc := 69) rfl rfl ?_
  exact q_iret (pc := 70) rfl rfl ⟨_, rfl, k⟩
set_option maxHeartbeats 4000000 in
set_option maxRecDepth 100000 in
theorem dn_X1_setDrains {d : Nat} {i : Nat} {a1 : Int32} {a2 : Int32} {a3 : Int32} {a4 : Int32} (hi : i < 6) {h : q_H} {Q : q_H → Prop} (k : wp_X1_setDrains i a1 a2 a3 a4 h Q) : q_den (d + 1) 10 [q_r 2 i, q_i a1, q_i a2, q_i a3, q_i a4] h (q_rv Q) := by
  unfold wp_X1_setDrains at k
  refine ⟨by decide, Nat.le_of_ble_eq_true rfl, ?_⟩
  show q_run (q_pcs q_t_X1_setDrains) 1 5 none (q_den d) 0 (q_rv Q) 0 [(0, q_r 2 i), (1, q_i a1), (2, q_i a2), (3, q_i a3), (4, q_i a4)] [] h
  refine q_aload_n (pc := 0) rfl rfl ?_
  refine q_getR (pc := 1) rfl hi rfl rfl rfl ?_
  refine q_iconst (pc := 4) (v := 0) rfl (by decide) ?_
  refine q_iload_n (pc := 5) rfl rfl ?_
  refine q_iastore_c (pc := 6) (j := 0) rfl hi rfl rfl (q_vp (x := 0) (n := 4) (by decide)) (by decide) ?_
  refine q_aload_n (pc := 7) rfl rfl ?_
  refine q_getR (pc := 8) rfl hi rfl rfl rfl ?_
  refine q_iconst (pc := 11) (v := 1) rfl (by decide) ?_
  refine q_iload_n (pc := 12) rfl rfl ?_
  refine q_iastore_c (pc := 13) (j := 1) rfl hi rfl rfl (q_vp (x := 1) (n := 4) (by decide)) (by decide) ?_
  refine q_aload_n (pc := 14) rfl rfl ?_
  refine q_getR (pc := 15) rfl hi rfl rfl rfl ?_
  refine q_iconst (pc := 18) (v := 2) rfl (by decide) ?_
  refine q_iload_n (pc := 19) rfl rfl ?_
  refine q_iastore_c (pc := 20) (j := 2) rfl hi rfl rfl (q_vp (x := 2) (n := 4) (by decide)) (by decide) ?_
  refine q_aload_n (pc := 21) rfl rfl ?_
  refine q_getR (pc := 22) rfl hi rfl rfl rfl ?_
  refine q_iconst (pc := 25) (v := 3) rfl (by decide) ?_
  refine q_iload (pc := 26) rfl rfl ?_
  refine q_iastore_c (pc := 28) (j := 3) rfl hi rfl rfl (q_vp (x := 3) (n := 4) (by decide)) (by decide) ?_
  exact q_vret (pc := 29) rfl rfl ⟨rfl, k⟩
set_option maxHeartbeats 4000000 in
set_option maxRecDepth 100000 in
theorem dn_X1_setCosts {d : Nat} {i : Nat} {a1 : Int32} {a2 : Int32} {a3 : Int32} (hi : i < 6) {h : q_H} {Q : q_H → Prop} (k : wp_X1_setCosts i a1 a2 a3 h Q) : q_den (d + 1) 11 [q_r 2 i, q_i a1, q_i a2, q_i a3] h (q_rv Q) := by
  unfold wp_X1_setCosts at k
  refine ⟨by decide, Nat.le_of_ble_eq_true rfl, ?_⟩
  show q_run (q_pcs q_t_X1_setCosts) 1 4 none (q_den d) 0 (q_rv Q) 0 [(0, q_r 2 i), (1, q_i a1), (2, q_i a2), (3, q_i a3)] [] h
  refine q_aload_n (pc := 0) rfl rfl ?_
  refine q_getR (pc := 1) rfl hi rfl rfl rfl ?_
  refine q_iconst (pc := 4) (v := 1) rfl (by decide) ?_
  refine q_iload_n (pc := 5) rfl rfl ?_
  refine q_iastore_c (pc := 6) (j := 1) rfl hi rfl rfl (q_vp (x := 1) (n := 4) (by decide)) (by decide) ?_
  refine q_aload_n (pc := 7) rfl rfl ?_
  refine q_getR (pc := 8) rfl hi rfl rfl rfl ?_
  refine q_iconst (pc := 11) (v := 2) rfl (by decide) ?_
  refine q_iload_n (pc := 12) rfl rfl ?_
  refine q_iastore_c (pc := 13) (j := 2) rfl hi rfl rfl (q_vp (x := 2) (n := 4) (by decide)) (by decide) ?_
  refine q_aload_n (pc := 14) rfl rfl ?_
  refine q_getR (pc := 15) rfl hi rfl rfl rfl ?_
  refine q_iconst (pc := 18) (v := 3) rfl (by decide) ?_
  refine q_iload_n (pc := 19) rfl rfl ?_
  refine q_iastore_c (pc := 20) (j := 3) rfl hi rfl rfl (q_vp (x := 3) (n := 4) (by decide)) (by decide) ?_
  exact q_vret (pc := 21) rfl rfl ⟨rfl, k⟩
set_option maxHeartbeats 4000000 in
set_option maxRecDepth 100000 in
theorem dn_X1_setRising {d : Nat} {i : Nat} {a1 : Int32} {a2 : Int32} {a3 : Int32} (hi : i < 6) {h : q_H} {Q : q_H → Prop} (k : wp_X1_setRising i a1 a2 a3 h Q) : q_den (d + 1) 12 [q_r 2 i, q_i a1, q_i a2, q_i a3] h (q_rv Q) := by
  unfold wp_X1_setRising at k
  refine ⟨by decide, Nat.le_of_ble_eq_true rfl, ?_⟩
  show q_run (q_pcs q_t_X1_setRising) 1 4 none (q_den d) 0 (q_rv Q) 0 [(0, q_r 2 i), (1, q_i a1), (2, q_i a2), (3, q_i a3)] [] h
  refine q_aload_n (pc := 0) rfl rfl ?_
  refine q_getR (pc := 1) rfl hi rfl rfl rfl ?_
  refine q_iconst (pc := 4) (v := 1) rfl (by decide) ?_
  refine q_iload_n (pc := 5) rfl rfl ?_
  refine q_iastore_c (pc := 6) (j := 1) rfl hi rfl rfl (q_vp (x := 1) (n := 4) (by decide)) (by decide) ?_
  refine q_aload_n (pc := 7) rfl rfl ?_
  refine q_getR (pc := 8) rfl hi rfl rfl rfl ?_
  refine q_iconst (pc := 11) (v := 2) rfl (by decide) ?_
  refine q_iload_n (pc := 12) rfl rfl ?_
  refine q_iastore_c (pc := 13) (j := 2) rfl hi rfl rfl (q_vp (x := 2) (n := 4) (by decide)) (by decide) ?_
  refine q_aload_n (pc := 14) rfl rfl ?_
  refine q_getR (pc := 15) rfl hi rfl rfl rfl ?_
  refine q_iconst (pc := 18) (v := 3) rfl (by decide) ?_
  refine q_iload_n (pc := 19) rfl rfl ?_
  refine q_iastore_c (pc := 20) (j := 3) rfl hi rfl rfl (q_vp (x := 3) (n := 4) (by decide)) (by decide) ?_
  exact q_vret (pc := 21) rfl rfl ⟨rfl, k⟩
set_option maxHeartbeats 4000000 in
set_option maxRecDepth 100000 in
theorem dn_X1_setThresholds {d : Nat} {i : Nat} {a1 : Int32} {a2 : Int32} {a3 : Int32} (hi : i < 6) {h : q_H} {Q : q_H → Prop} (k : wp_X1_setThresholds i a1 a2 a3 h Q) : q_den (d + 1) 13 [q_r 2 i, q_i a1, q_i a2, q_i a3] h (q_rv Q) := by
  unfold wp_X1_setThresholds at k
  refine ⟨by decide, Nat.le_of_ble_eq_true rfl, ?_⟩
  show q_run (q_pcs q_t_X1_setThresholds) 1 4 none (q_den d) 0 (q_rv Q) 0 [(0, q_r 2 i), (1, q_i a1), (2, q_i a2), (3, q_i a3)] [] h
  refine q_aload_n (pc := 0) rfl rfl ?_
  refine q_getR (pc := 1) rfl hi rfl rfl rfl ?_
  refine q_iconst (pc := 4) (v := 1) rfl (by decide) ?_
  refine q_iload_n (pc := 5) rfl rfl ?_
  refine q_iastore_c (pc := 6) (j := 1) rfl hi rfl rfl (q_vp (x := 1) (n := 5) (by decide)) (by decide) ?_
  refine q_aload_n (pc := 7) rfl rfl ?_
  refine q_getR (pc := 8) rfl hi rfl rfl rfl ?_
  refine q_iconst (pc := 11) (v := 2) rfl (by decide) ?_
  refine q_iload_n (pc := 12) rfl rfl ?_
  refine q_iastore_c (pc := 13) (j := 2) rfl hi rfl rfl (q_vp (x := 2) (n := 5) (by decide)) (by decide) ?_
  refine q_aload_n (pc := 14) rfl rfl ?_
  refine q_getR (pc := 15) rfl hi rfl rfl rfl ?_
  refine q_iconst (pc := 18) (v := 3) rfl (by decide) ?_
  refine q_iload_n (pc := 19) rfl rfl ?_
  refine q_iastore_c (pc := 20) (j := 3) rfl hi rfl rfl (q_vp (x := 3) (n := 5) (by decide)) (by decide) ?_
  exact q_vret (pc := 21) rfl rfl ⟨rfl, k⟩
set_option maxHeartbeats 4000000 in
set_option maxRecDepth 100000 in
theorem dn_X1_drainIn {d : Nat} {i : Nat} {a1 : Int32} (hi : i < 6) {h : q_H} {Q : Int32 → q_H → Prop} (k : wp_X1_drainIn i a1 h Q) : q_den (d + 1) 14 [q_r 2 i, q_i a1] h (q_ri Q) := by
  unfold wp_X1_drainIn at k
  refine ⟨by decide, Nat.le_of_ble_eq_true rfl, ?_⟩
  show q_run (q_pcs q_t_X1_drainIn) 1 2 none (q_den d) 1 (q_ri Q) 0 [(0, q_r 2 i), (1, q_i a1)] [] h
  refine q_aload_n (pc := 0) rfl rfl ?_
  refine q_getR (pc := 1) rfl hi rfl rfl rfl ?_
  refine q_iload_n (pc := 4) rfl rfl ?_
  obtain ⟨b1, k⟩ := k
  refine q_iaload (pc := 5) rfl hi rfl rfl b1 ?_
  exact q_iret (pc := 6) rfl rfl ⟨_, rfl, k⟩
set_option maxHeartbeats 4000000 in
set_option maxRecDepth 100000 in
theorem dn_J13_bitCount_95d88 {d : Nat} {a0 : Int64} {h : q_H} {Q : Int32 → q_H → Prop} (k : wp_J13_bitCount_95d88 a0 h Q) : q_den (d + 1) 131 [q_l a0] h (q_ri Q) := by
  unfold wp_J13_bitCount_95d88 at k
  refine ⟨by decide, Nat.le_of_ble_eq_true rfl, ?_⟩
  show q_run (q_pcs q_t_J13_bitCount_95d88) 6 2 none (q_den d) 1 (q_ri Q) 0 [(0, q_l a0)] [] h
  refine q_lload_n (pc := 0) rfl rfl ?_
  refine q_lload_n (pc := 1) rfl rfl ?_
  refine q_iconst (pc := 2) (v := 1) rfl (by decide) ?_
  refine q_lushr (pc := 3) rfl ?_
  refine q_ldc2 (pc := 4) (v := 6148914691236517205) rfl rfl ?_
  refine q_land (pc := 7) rfl ?_
  refine q_lsub (pc := 8) rfl ?_
  refine q_lstore_n (pc := 9) (ls1 := [(0, q_l (a0 - (((Int64.toUInt64 a0 >>> ((Int32.toInt64 1).toUInt64 &&& Int64.toUInt64 63)).toInt64) &&& 6148914691236517205)))]) rfl (by decide) rfl ?_
  refine q_lload_n (pc := 10) rfl rfl ?_
  refine q_ldc2 (pc := 11) (v := 3689348814741910323) rfl rfl ?_
  refine q_land (pc := 14) rfl ?_
  refine q_lload_n (pc := 15) rfl rfl ?_
  refine q_iconst (pc := 16) (v := 2) rfl (by decide) ?_
  refine q_lushr (pc := 17) rfl ?_
  refine q_ldc2 (pc := 18) (v := 3689348814741910323) rfl rfl ?_
  refine q_land (pc := 21) rfl ?_
  refine q_ladd (pc := 22) rfl ?_
  refine q_lstore_n (pc := 23) (ls1 := [(0, q_l (((a0 - (((Int64.toUInt64 a0 >>> ((Int32.toInt64 1).toUInt64 &&& Int64.toUInt64 63)).toInt64) &&& 6148914691236517205)) &&& 3689348814741910323) + (((Int64.toUInt64 (a0 - (((Int64.toUInt64 a0 >>> ((Int32.toInt64 1).toUInt64 &&& Int64.toUInt64 63)).toInt64) &&& 6148914691236517205)) >>> ((Int32.toInt64 2).toUInt64 &&& Int64.toUInt64 63)).toInt64) &&& 3689348814741910323)))]) rfl (by decide) rfl ?_
  refine q_lload_n (pc := 24) rfl rfl ?_
  refine q_lload_n (pc := 25) rfl rfl ?_
  refine q_iconst (pc := 26) (v := 4) rfl (by decide) ?_
  refine q_lushr (pc := 27) rfl ?_
  refine q_ladd (pc := 28) rfl ?_
  refine q_ldc2 (pc := 29) (v := 1085102592571150095) rfl rfl ?_
  refine q_land (pc := 32) rfl ?_
  refine q_lstore_n (pc := 33) (ls1 := [(0, q_l (((((a0 - (((Int64.toUInt64 a0 >>> ((Int32.toInt64 1).toUInt64 &&& Int64.toUInt64 63)).toInt64) &&& 6148914691236517205)) &&& 3689348814741910323) + (((Int64.toUInt64 (a0 - (((Int64.toUInt64 a0 >>> ((Int32.toInt64 1).toUInt64 &&& Int64.toUInt64 63)).toInt64) &&& 6148914691236517205)) >>> ((Int32.toInt64 2).toUInt64 &&& Int64.toUInt64 63)).toInt64) &&& 3689348814741910323)) + ((Int64.toUInt64 (((a0 - (((Int64.toUInt64 a0 >>> ((Int32.toInt64 1).toUInt64 &&& Int64.toUInt64 63)).toInt64) &&& 6148914691236517205)) &&& 3689348814741910323) + (((Int64.toUInt64 (a0 - (((Int64.toUInt64 a0 >>> ((Int32.toInt64 1).toUInt64 &&& Int64.toUInt64 63)).toInt64) &&& 6148914691236517205)) >>> ((Int32.toInt64 2).toUInt64 &&& Int64.toUInt64 63)).toInt64) &&& 3689348814741910323)) >>> ((Int32.toInt64 4).toUInt64 &&& Int64.toUInt64 63)).toInt64)) &&& 1085102592571150095))]) rfl (by decide) rfl ?_
  refine q_lload_n (pc := 34) rfl rfl ?_
  refine q_lload_n (pc := 35) rfl rfl ?_
  refine q_bipush (pc := 36) (v := 8) rfl (by decide) ?_
  refine q_lushr (pc := 38) rfl ?_
  refine q_ladd (pc := 39) rfl ?_
  refine q_lstore_n (pc := 40) (ls1 := [(0, q_l ((((((a0 - (((Int64.toUInt64 a0 >>> ((Int32.toInt64 1).toUInt64 &&& Int64.toUInt64 63)).toInt64) &&& 6148914691236517205)) &&& 3689348814741910323) + (((Int64.toUInt64 (a0 - (((Int64.toUInt64 a0 >>> ((Int32.toInt64 1).toUInt64 &&& Int64.toUInt64 63)).toInt64) &&& 6148914691236517205)) >>> ((Int32.toInt64 2).toUInt64 &&& Int64.toUInt64 63)).toInt64) &&& 3689348814741910323)) + ((Int64.toUInt64 (((a0 - (((Int64.toUInt64 a0 >>> ((Int32.toInt64 1).toUInt64 &&& Int64.toUInt64 63)).toInt64) &&& 6148914691236517205)) &&& 3689348814741910323) + (((Int64.toUInt64 (a0 - (((Int64.toUInt64 a0 >>> ((Int32.toInt64 1).toUInt64 &&& Int64.toUInt64 63)).toInt64) &&& 6148914691236517205)) >>> ((Int32.toInt64 2).toUInt64 &&& Int64.toUInt64 63)).toInt64) &&& 3689348814741910323)) >>> ((Int32.toInt64 4).toUInt64 &&& Int64.toUInt64 63)).toInt64)) &&& 1085102592571150095) + ((Int64.toUInt64 (((((a0 - (((Int64.toUInt64 a0 >>> ((Int32.toInt64 1).toUInt64 &&& Int64.toUInt64 63)).toInt64) &&& 6148914691236517205)) &&& 3689348814741910323) + (((Int64.toUInt64 (a0 - (((Int64.toUInt64 a0 >>> ((Int32.toInt64 1).toUInt64 &&& Int64.toUInt64 63)).toInt64) &&& 6148914691236517205)) >>> ((Int32.toInt64 2).toUInt64 &&& Int64.toUInt64 63)).toInt64) &&& 3689348814741910323)) + ((Int64.toUInt64 (((a0 - (((Int64.toUInt64 a0 >>> ((Int32.toInt64 1).toUInt64 &&& Int64.toUInt64 63)).toInt64) &&& 6148914691236517205)) &&& 3689348814741910323) + (((Int64.toUInt64 (a0 - (((Int64.toUInt64 a0 >>> ((Int32.toInt64 1).toUInt64 &&& Int64.toUInt64 63)).toInt64) &&& 6148914691236517205)) >>> ((Int32.toInt64 2).toUInt64 &&& Int64.toUInt64 63)).toInt64) &&& 3689348814741910323)) >>> ((Int32.toInt64 4).toUInt64 &&& Int64.toUInt64 63)).toInt64)) &&& 1085102592571150095) >>> ((Int32.toInt64 8).toUInt64 &&& Int64.toUInt64 63)).toInt64)))]) rfl (by decide) rfl ?_
  refine q_lload_n (pc := 41) rfl rfl ?_
  refine q_lload_n (pc := 42) rfl rfl ?_
  refine q_bipush (pc := 43) (v := 16) rfl (by decide) ?_
  refine q_lushr (pc := 45) rfl ?_
  refine q_ladd (pc := 46) rfl ?_
  refine q_lstore_n (pc := 47) (ls1 := [(0, q_l (((((((a0 - (((Int64.toUInt64 a0 >>> ((Int32.toInt64 1).toUInt64 &&& Int64.toUInt64 63)).toInt64) &&& 6148914691236517205)) &&& 3689348814741910323) + (((Int64.toUInt64 (a0 - (((Int64.toUInt64 a0 >>> ((Int32.toInt64 1).toUInt64 &&& Int64.toUInt64 63)).toInt64) &&& 6148914691236517205)) >>> ((Int32.toInt64 2).toUInt64 &&& Int64.toUInt64 63)).toInt64) &&& 3689348814741910323)) + ((Int64.toUInt64 (((a0 - (((Int64.toUInt64 a0 >>> ((Int32.toInt64 1).toUInt64 &&& Int64.toUInt64 63)).toInt64) &&& 6148914691236517205)) &&& 3689348814741910323) + (((Int64.toUInt64 (a0 - (((Int64.toUInt64 a0 >>> ((Int32.toInt64 1).toUInt64 &&& Int64.toUInt64 63)).toInt64) &&& 6148914691236517205)) >>> ((Int32.toInt64 2).toUInt64 &&& Int64.toUInt64 63)).toInt64) &&& 3689348814741910323)) >>> ((Int32.toInt64 4).toUInt64 &&& Int64.toUInt64 63)).toInt64)) &&& 1085102592571150095) + ((Int64.toUInt64 (((((a0 - (((Int64.toUInt64 a0 >>> ((Int32.toInt64 1).toUInt64 &&& Int64.toUInt64 63)).toInt64) &&& 6148914691236517205)) &&& 3689348814741910323) + (((Int64.toUInt64 (a0 - (((Int64.toUInt64 a0 >>> ((Int32.toInt64 1).toUInt64 &&& Int64.toUInt64 63)).toInt64) &&& 6148914691236517205)) >>> ((Int32.toInt64 2).toUInt64 &&& Int64.toUInt64 63)).toInt64) &&& 3689348814741910323)) + ((Int64.toUInt64 (((a0 - (((Int64.toUInt64 a0 >>> ((Int32.toInt64 1).toUInt64 &&& Int64.toUInt64 63)).toInt64) &&& 6148914691236517205)) &&& 3689348814741910323) + (((Int64.toUInt64 (a0 - (((Int64.toUInt64 a0 >>> ((Int32.toInt64 1).toUInt64 &&& Int64.toUInt64 63)).toInt64) &&& 6148914691236517205)) >>> ((Int32.toInt64 2).toUInt64 &&& Int64.toUInt64 63)).toInt64) &&& 3689348814741910323)) >>> ((Int32.toInt64 4).toUInt64 &&& Int64.toUInt64 63)).toInt64)) &&& 1085102592571150095) >>> ((Int32.toInt64 8).toUInt64 &&& Int64.toUInt64 63)).toInt64)) + ((Int64.toUInt64 ((((((a0 - (((Int64.toUInt64 a0 >>> ((Int32.toInt64 1).toUInt64 &&& Int64.toUInt64 63)).toInt64) &&& 6148914691236517205)) &&& 3689348814741910323) + (((Int64.toUInt64 (a0 - (((Int64.toUInt64 a0 >>> ((Int32.toInt64 1).toUInt64 &&& Int64.toUInt64 63)).toInt64) &&& 6148914691236517205)) >>> ((Int32.toInt64 2).toUInt64 &&& Int64.toUInt64 63)).toInt64) &&& 3689348814741910323)) + ((Int64.toUInt64 (((a0 - (((Int64.toUInt64 a0 >>> ((Int32.toInt64 1).toUInt64 &&& Int64.toUInt64 63)).toInt64) &&& 6148914691236517205)) &&& 3689348814741910323) + (((Int64.toUInt64 (a0 - (((Int64.toUInt64 a0 >>> ((Int32.toInt64 1).toUInt64 &&& Int64.toUInt64 63)).toInt64) &&& 6148914691236517205)) >>> ((Int32.toInt64 2).toUInt64 &&& Int64.toUInt64 63)).toInt64) &&& 3689348814741910323)) >>> ((Int32.toInt64 4).toUInt64 &&& Int64.toUInt64 63)).toInt64)) &&& 1085102592571150095) + ((Int64.toUInt64 (((((a0 - (((Int64.toUInt64 a0 >>> ((Int32.toInt64 1).toUInt64 &&& Int64.toUInt64 63)).toInt64) &&& 6148914691236517205)) &&& 3689348814741910323) + (((Int64.toUInt64 (a0 - (((Int64.toUInt64 a0 >>> ((Int32.toInt64 1).toUInt64 &&& Int64.toUInt64 63)).toInt64) &&& 6148914691236517205)) >>> ((Int32.toInt64 2).toUInt64 &&& Int64.toUInt64 63)).toInt64) &&& 3689348814741910323)) + ((Int64.toUInt64 (((a0 - (((Int64.toUInt64 a0 >>> ((Int32.toInt64 1).toUInt64 &&& Int64.toUInt64 63)).toInt64) &&& 6148914691236517205)) &&& 3689348814741910323) + (((Int64.toUInt64 (a0 - (((Int64.toUInt64 a0 >>> ((Int32.toInt64 1).toUInt64 &&& Int64.toUInt64 63)).toInt64) &&& 6148914691236517205)) >>> ((Int32.toInt64 2).toUInt64 &&& Int64.toUInt64 63)).toInt64) &&& 3689348814741910323)) >>> ((Int32.toInt64 4).toUInt64 &&& Int64.toUInt64 63)).toInt64)) &&& 1085102592571150095) >>> ((Int32.toInt64 8).toUInt64 &&& Int64.toUInt64 63)).toInt64)) >>> ((Int32.toInt64 16).toUInt64 &&& Int64.toUInt64 63)).toInt64)))]) rfl (by decide) rfl ?_
  refine q_lload_n (pc := 48) rfl rfl ?_
  refine q_lload_n (pc := 49) rfl rfl ?_
  refine q_bipush (pc := 50) (v := 32) rfl (by decide) ?_
  refine q_lushr (pc := 52) rfl ?_
  refine q_ladd (pc := 53) rfl ?_
  refine q_lstore_n (pc := 54) (ls1 := [(0, q_l ((((((((a0 - (((Int64.toUInt64 a0 >>> ((Int32.toInt64 1).toUInt64 &&& Int64.toUInt64 63)).toInt64) &&& 6148914691236517205)) &&& 3689348814741910323) + (((Int64.toUInt64 (a0 - (((Int64.toUInt64 a0 >>> ((Int32.toInt64 1).toUInt64 &&& Int64.toUInt64 63)).toInt64) &&& 6148914691236517205)) >>> ((Int32.toInt64 2).toUInt64 &&& Int64.toUInt64 63)).toInt64) &&& 3689348814741910323)) + ((Int64.toUInt64 (((a0 - (((Int64.toUInt64 a0 >>> ((Int32.toInt64 1).toUInt64 &&& Int64.toUInt64 63)).toInt64) &&& 6148914691236517205)) &&& 3689348814741910323) + (((Int64.toUInt64 (a0 - (((Int64.toUInt64 a0 >>> ((Int32.toInt64 1).toUInt64 &&& Int64.toUInt64 63)).toInt64) &&& 6148914691236517205)) >>> ((Int32.toInt64 2).toUInt64 &&& Int64.toUInt64 63)).toInt64) &&& 3689348814741910323)) >>> ((Int32.toInt64 4).toUInt64 &&& Int64.toUInt64 63)).toInt64)) &&& 1085102592571150095) + ((Int64.toUInt64 (((((a0 - (((Int64.toUInt64 a0 >>> ((Int32.toInt64 1).toUInt64 &&& Int64.toUInt64 63)).toInt64) &&& 6148914691236517205)) &&& 3689348814741910323) + (((Int64.toUInt64 (a0 - (((Int64.toUInt64 a0 >>> ((Int32.toInt64 1).toUInt64 &&& Int64.toUInt64 63)).toInt64) &&& 6148914691236517205)) >>> ((Int32.toInt64 2).toUInt64 &&& Int64.toUInt64 63)).toInt64) &&& 3689348814741910323)) + ((Int64.toUInt64 (((a0 - (((Int64.toUInt64 a0 >>> ((Int32.toInt64 1).toUInt64 &&& Int64.toUInt64 63)).toInt64) &&& 6148914691236517205)) &&& 3689348814741910323) + (((Int64.toUInt64 (a0 - (((Int64.toUInt64 a0 >>> ((Int32.toInt64 1).toUInt64 &&& Int64.toUInt64 63)).toInt64) &&& 6148914691236517205)) >>> ((Int32.toInt64 2).toUInt64 &&& Int64.toUInt64 63)).toInt64) &&& 3689348814741910323)) >>> ((Int32.toInt64 4).toUInt64 &&& Int64.toUInt64 63)).toInt64)) &&& 1085102592571150095) >>> ((Int32.toInt64 8).toUInt64 &&& Int64.toUInt64 63)).toInt64)) + ((Int64.toUInt64 ((((((a0 - (((Int64.toUInt64 a0 >>> ((Int32.toInt64 1).toUInt64 &&& Int64.toUInt64 63)).toInt64) &&& 6148914691236517205)) &&& 3689348814741910323) + (((Int64.toUInt64 (a0 - (((Int64.toUInt64 a0 >>> ((Int32.toInt64 1).toUInt64 &&& Int64.toUInt64 63)).toInt64) &&& 6148914691236517205)) >>> ((Int32.toInt64 2).toUInt64 &&& Int64.toUInt64 63)).toInt64) &&& 3689348814741910323)) + ((Int64.toUInt64 (((a0 - (((Int64.toUInt64 a0 >>> ((Int32.toInt64 1).toUInt64 &&& Int64.toUInt64 63)).toInt64) &&& 6148914691236517205)) &&& 3689348814741910323) + (((Int64.toUInt64 (a0 - (((Int64.toUInt64 a0 >>> ((Int32.toInt64 1).toUInt64 &&& Int64.toUInt64 63)).toInt64) &&& 6148914691236517205)) >>> ((Int32.toInt64 2).toUInt64 &&& Int64.toUInt64 63)).toInt64) &&& 3689348814741910323)) >>> ((Int32.toInt64 4).toUInt64 &&& Int64.toUInt64 63)).toInt64)) &&& 1085102592571150095) + ((Int64.toUInt64 (((((a0 - (((Int64.toUInt64 a0 >>> ((Int32.toInt64 1).toUInt64 &&& Int64.toUInt64 63)).toInt64) &&& 6148914691236517205)) &&& 3689348814741910323) + (((Int64.toUInt64 (a0 - (((Int64.toUInt64 a0 >>> ((Int32.toInt64 1).toUInt64 &&& Int64.toUInt64 63)).toInt64) &&& 6148914691236517205)) >>> ((Int32.toInt64 2).toUInt64 &&& Int64.toUInt64 63)).toInt64) &&& 3689348814741910323)) + ((Int64.toUInt64 (((a0 - (((Int64.toUInt64 a0 >>> ((Int32.toInt64 1).toUInt64 &&& Int64.toUInt64 63)).toInt64) &&& 6148914691236517205)) &&& 3689348814741910323) + (((Int64.toUInt64 (a0 - (((Int64.toUInt64 a0 >>> ((Int32.toInt64 1).toUInt64 &&& Int64.toUInt64 63)).toInt64) &&& 6148914691236517205)) >>> ((Int32.toInt64 2).toUInt64 &&& Int64.toUInt64 63)).toInt64) &&& 3689348814741910323)) >>> ((Int32.toInt64 4).toUInt64 &&& Int64.toUInt64 63)).toInt64)) &&& 1085102592571150095) >>> ((Int32.toInt64 8).toUInt64 &&& Int64.toUInt64 63)).toInt64)) >>> ((Int32.toInt64 16).toUInt64 &&& Int64.toUInt64 63)).toInt64)) + ((Int64.toUInt64 (((((((a0 - (((Int64.toUInt64 a0 >>> ((Int32.toInt64 1).toUInt64 &&& Int64.toUInt64 63)).toInt64) &&& 6148914691236517205)) &&& 3689348814741910323) + (((Int64.toUInt64 (a0 - (((Int64.toUInt64 a0 >>> ((Int32.toInt64 1).toUInt64 &&& Int64.toUInt64 63)).toInt64) &&& 6148914691236517205)) >>> ((Int32.toInt64 2).toUInt64 &&& Int64.toUInt64 63)).toInt64) &&& 3689348814741910323)) + ((Int64.toUInt64 (((a0 - (((Int64.toUInt64 a0 >>> ((Int32.toInt64 1).toUInt64 &&& Int64.toUInt64 63)).toInt64) &&& 6148914691236517205)) &&& 3689348814741910323) + (((Int64.toUInt64 (a0 - (((Int64.toUInt64 a0 >>> ((Int32.toInt64 1).toUInt64 &&& Int64.toUInt64 63)).toInt64) &&& 6148914691236517205)) >>> ((Int32.toInt64 2).toUInt64 &&& Int64.toUInt64 63)).toInt64) &&& 3689348814741910323)) >>> ((Int32.toInt64 4).toUInt64 &&& Int64.toUInt64 63)).toInt64)) &&& 1085102592571150095) + ((Int64.toUInt64 (((((a0 - (((Int64.toUInt64 a0 >>> ((Int32.toInt64 1).toUInt64 &&& Int64.toUInt64 63)).toInt64) &&& 6148914691236517205)) &&& 3689348814741910323) + (((Int64.toUInt64 (a0 - (((Int64.toUInt64 a0 >>> ((Int32.toInt64 1).toUInt64 &&& Int64.toUInt64 63)).toInt64) &&& 6148914691236517205)) >>> ((Int32.toInt64 2).toUInt64 &&& Int64.toUInt64 63)).toInt64) &&& 3689348814741910323)) + ((Int64.toUInt64 (((a0 - (((Int64.toUInt64 a0 >>> ((Int32.toInt64 1).toUInt64 &&& Int64.toUInt64 63)).toInt64) &&& 6148914691236517205)) &&& 3689348814741910323) + (((Int64.toUInt64 (a0 - (((Int64.toUInt64 a0 >>> ((Int32.toInt64 1).toUInt64 &&& Int64.toUInt64 63)).toInt64) &&& 6148914691236517205)) >>> ((Int32.toInt64 2).toUInt64 &&& Int64.toUInt64 63)).toInt64) &&& 3689348814741910323)) >>> ((Int32.toInt64 4).toUInt64 &&& Int64.toUInt64 63)).toInt64)) &&& 1085102592571150095) >>> ((Int32.toInt64 8).toUInt64 &&& Int64.toUInt64 63)).toInt64)) + ((Int64.toUInt64 ((((((a0 - (((Int64.toUInt64 a0 >>> ((Int32.toInt64 1).toUInt64 &&& Int64.toUInt64 63)).toInt64) &&& 6148914691236517205)) &&& 3689348814741910323) + (((Int64.toUInt64 (a0 - (((Int64.toUInt64 a0 >>> ((Int32.toInt64 1).toUInt64 &&& Int64.toUInt64 63)).toInt64) &&& 6148914691236517205)) >>> ((Int32.toInt64 2).toUInt64 &&& Int64.toUInt64 63)).toInt64) &&& 3689348814741910323)) + ((Int64.toUInt64 (((a0 - (((Int64.toUInt64 a0 >>> ((Int32.toInt64 1).toUInt64 &&& Int64.toUInt64 63)).toInt64) &&& 6148914691236517205)) &&& 3689348814741910323) + (((Int64.toUInt64 (a0 - (((Int64.toUInt64 a0 >>> ((Int32.toInt64 1).toUInt64 &&& Int64.toUInt64 63)).toInt64) &&& 6148914691236517205)) >>> ((Int32.toInt64 2).toUInt64 &&& Int64.toUInt64 63)).toInt64) &&& 3689348814741910323)) >>> ((Int32.toInt64 4).toUInt64 &&& Int64.toUInt64 63)).toInt64)) &&& 1085102592571150095) + ((Int64.toUInt64 (((((a0 - (((Int64.toUInt64 a0 >>> ((Int32.toInt64 1).toUInt64 &&& Int64.toUInt64 63)).toInt64) &&& 6148914691236517205)) &&& 3689348814741910323) + (((Int64.toUInt64 (a0 - (((Int64.toUInt64 a0 >>> ((Int32.toInt64 1).toUInt64 &&& Int64.toUInt64 63)).toInt64) &&& 6148914691236517205)) >>> ((Int32.toInt64 2).toUInt64 &&& Int64.toUInt64 63)).toInt64) &&& 3689348814741910323)) + ((Int64.toUInt64 (((a0 - (((Int64.toUInt64 a0 >>> ((Int32.toInt64 1).toUInt64 &&& Int64.toUInt64 63)).toInt64) &&& 6148914691236517205)) &&& 3689348814741910323) + (((Int64.toUInt64 (a0 - (((Int64.toUInt64 a0 >>> ((Int32.toInt64 1).toUInt64 &&& Int64.toUInt64 63)).toInt64) &&& 6148914691236517205)) >>> ((Int32.toInt64 2).toUInt64 &&& Int64.toUInt64 63)).toInt64) &&& 3689348814741910323)) >>> ((Int32.toInt64 4).toUInt64 &&& Int64.toUInt64 63)).toInt64)) &&& 1085102592571150095) >>> ((Int32.toInt64 8).toUInt64 &&& Int64.toUInt64 63)).toInt64)) >>> ((Int32.toInt64 16).toUInt64 &&& Int64.toUInt64 63)).toInt64)) >>> ((Int32.toInt64 32).toUInt64 &&& Int64.toUInt64 63)).toInt64)))]) rfl (by decide) rfl ?_
  refine q_lload_n (pc := 55) rfl rfl ?_
  refine q_l2i (pc := 56) rfl ?_
  refine q_bipush (pc := 57) (v := 127) rfl (by decide) ?_
  refine q_iand (pc := 59) rfl ?_
  exact q_iret (pc := 60) rfl rfl ⟨_, rfl, k⟩
set_option maxHeartbeats 4000000 in
set_option maxRecDepth 100000 in
theorem dn_X1_drainAwake {d : Nat} {i : Nat} {a1 : Int64} (hi : i < 6) {h : q_H} {Q : Int32 → q_H → Prop} (k : wp_X1_drainAwake i a1 h Q) : q_den (d + 2) 15 [q_r 2 i, q_l a1] h (q_ri Q) := by
  unfold wp_X1_drainAwake at k
  refine ⟨by decide, Nat.le_of_ble_eq_true rfl, ?_⟩
  show q_run (q_pcs q_t_X1_drainAwake) 1 3 none (q_den (d + 1)) 1 (q_ri Q) 0 [(0, q_r 2 i), (1, q_l a1)] [] h
  refine q_lload_n (pc := 0) rfl rfl ?_
  refine q_callS (kd := 0) (pc := 1) (As := [q_l a1]) (rest := []) rfl rfl rfl  rfl (Nat.le_of_ble_eq_true rfl) ?_
  refine q_den_mono _ _ _ _ _ _ ?_ (dn_J13_bitCount_95d88 (d := d)  k)
  rintro _ g1 ⟨r2, rfl, k⟩
  refine q_aload_n (pc := 4) rfl rfl ?_
  refine q_getR (pc := 5) rfl hi rfl rfl rfl ?_
  refine q_iconst (pc := 8) (v := 0) rfl (by decide) ?_
  refine q_iaload_c (pc := 9) (j := 0) rfl hi rfl rfl (q_vp (x := 0) (n := 4) (by decide)) (by decide) ?_
  refine q_imul (pc := 10) rfl ?_
  exact q_iret (pc := 11) rfl rfl ⟨_, rfl, k⟩
set_option maxHeartbeats 4000000 in
set_option maxRecDepth 100000 in
theorem dn_X1_restIn {d : Nat} {i : Nat} {a1 : Int32} {a2 : Int32} {a3 : Int32} (hi : i < 6) {h : q_H} {Q : Int32 → q_H → Prop} (k : wp_X1_restIn i a1 a2 a3 h Q) : q_den (d + 1) 16 [q_r 2 i, q_i a1, q_i a2, q_i a3] h (q_ri Q) := by
  unfold wp_X1_restIn at k
  refine ⟨by decide, Nat.le_of_ble_eq_true rfl, ?_⟩
  show q_run (q_pcs q_t_X1_restIn) 1 4 none (q_den d) 1 (q_ri Q) 0 [(0, q_r 2 i), (1, q_i a1), (2, q_i a2), (3, q_i a3)] [] h
  refine q_iload_n (pc := 0) rfl rfl ?_
  refine q_if_eq (pc := 1) (tgt := 8) rfl (by decide) (fun z => ?_) (fun z => ?_)
  · have k := k.1 z
    refine q_iload_n (pc := 8) rfl rfl ?_
    refine q_aload_n (pc := 9) rfl rfl ?_
    refine q_getR (pc := 10) rfl hi rfl rfl rfl ?_
    refine q_iload_n (pc := 13) rfl rfl ?_
    obtain ⟨b1, k⟩ := k
    refine q_iaload (pc := 14) rfl hi rfl rfl b1 ?_
    refine q_isub (pc := 15) rfl ?_
    exact q_iret (pc := 16) rfl rfl ⟨_, rfl, k⟩
  · have k := k.2 z
    refine q_iload_n (pc := 4) rfl rfl ?_
    refine q_goto (pc := 5) (tgt := 16) rfl (by decide) ?_
    exact q_iret (pc := 16) rfl rfl ⟨_, rfl, k⟩
set_option maxHeartbeats 4000000 in
set_option maxRecDepth 100000 in
theorem dn_X1_sumIn {d : Nat} {i : Nat} {a1 : Int32} {a2 : Int32} {a3 : Int32} (hi : i < 6) {h : q_H} {Q : Int32 → q_H → Prop} (k : wp_X1_sumIn i a1 a2 a3 h Q) : q_den (d + 2) 17 [q_r 2 i, q_i a1, q_i a2, q_i a3] h (q_ri Q) := by
  unfold wp_X1_sumIn at k
  refine ⟨by decide, Nat.le_of_ble_eq_true rfl, ?_⟩
  show q_run (q_pcs q_t_X1_sumIn) 1 5 none (q_den (d + 1)) 1 (q_ri Q) 0 [(0, q_r 2 i), (1, q_i a1), (2, q_i a2), (3, q_i a3)] [] h
  refine q_aload_n (pc := 0) rfl rfl ?_
  refine q_iload_n (pc := 1) rfl rfl ?_
  refine q_iload_n (pc := 2) rfl rfl ?_
  refine q_iload_n (pc := 3) rfl rfl ?_
  refine q_callV (pc := 4) (As := [q_i a1, q_i a2, q_i a3]) (rest := []) rfl rfl rfl hi rfl rfl (Nat.le_of_ble_eq_true rfl) ?_
  refine q_den_mono _ _ _ _ _ _ ?_ (dn_X1_restIn (d := d) hi k)
  rintro _ g1 ⟨r2, rfl, k⟩
  refine q_istore (pc := 7) (ls1 := [(4, q_i r2), (0, q_r 2 i), (1, q_i a1), (2, q_i a2), (3, q_i a3)]) rfl (by decide) rfl ?_
  refine q_iload (pc := 9) rfl rfl ?_
  refine q_aload_n (pc := 11) rfl rfl ?_
  refine q_getR (pc := 12) rfl hi rfl rfl rfl ?_
  refine q_iload_n (pc := 15) rfl rfl ?_
  obtain ⟨b3, k⟩ := k
  refine q_iaload (pc := 16) rfl hi rfl rfl b3 ?_
  refine q_imul (pc := 17) rfl ?_
  refine q_iload_n (pc := 18) rfl rfl ?_
  refine q_iload (pc := 19) rfl rfl ?_
  refine q_isub (pc := 21) rfl ?_
  refine q_aload_n (pc := 22) rfl rfl ?_
  refine q_getR (pc := 23) rfl hi rfl rfl rfl ?_
  refine q_iconst (pc := 26) (v := 0) rfl (by decide) ?_
  refine q_iaload_c (pc := 27) (j := 0) rfl hi rfl rfl (q_vp (x := 0) (n := 4) (by decide)) (by decide) ?_
  refine q_imul (pc := 28) rfl ?_
  refine q_iadd (pc := 29) rfl ?_
  refine q_iload_n (pc := 30) rfl rfl ?_
  refine q_if_eq (pc := 31) (tgt := 38) rfl (by decide) (fun z => ?_) (fun z => ?_)
  · have k := k.1 z
    refine q_aload_n (pc := 38) rfl rfl ?_
    refine q_getR (pc := 39) rfl hi rfl rfl rfl ?_
    refine q_iload_n (pc := 42) rfl rfl ?_
    obtain ⟨b4, k⟩ := k
    refine q_iaload (pc := 43) rfl hi rfl rfl b4 ?_
    refine q_iadd (pc := 44) rfl ?_
    exact q_iret (pc := 45) rfl rfl ⟨_, rfl, k⟩
  · have k := k.2 z
    refine q_iconst (pc := 34) (v := 0) rfl (by decide) ?_
    refine q_goto (pc := 35) (tgt := 44) rfl (by decide) ?_
    refine q_iadd (pc := 44) rfl ?_
    exact q_iret (pc := 45) rfl rfl ⟨_, rfl, k⟩
set_option maxHeartbeats 4000000 in
set_option maxRecDepth 100000 in
theorem dl_X1_bestState_5 {d : Nat} {i : Nat} {x1 : Int32} {x2 : Int32} (hi : i < 6) {E : Int32 → Int32 → q_H → Prop} {Q : Int32 → q_H → Prop} (hE : ∀ (x3 : Int32) (x4 : Int32) (h : q_H), E x3 x4 h → q_run (q_pcs q_t_X1_bestState) 1 6 none (q_den (d + 2)) 1 (q_ri Q) 61 [(0, q_r 2 i), (1, q_i x1), (2, q_i x2), (3, q_i x3), (4, q_i x4)] [] h) : ∀ (n : Nat) (x3 : Int32) (x4 : Int32) (h : q_H), lp_X1_bestState_5 i x1 x2 E n x3 x4 h → q_run (q_pcs q_t_X1_bestState) 1 6 none (q_den (d + 2)) 1 (q_ri Q) 5 [(0, q_r 2 i), (1, q_i x1), (2, q_i x2), (3, q_i x3), (4, q_i x4)] [] h := by
  intro n
  induction n with
  | zero => intro x3 x4 h k; exact k.elim
  | succ n ih =>
    intro x3 x4 h k
    unfold lp_X1_bestState_5 at k
    refine q_iload (pc := 5) rfl rfl ?_
    refine q_iconst (pc := 7) (v := 4) rfl (by decide) ?_
    refine q_icmp_ge (pc := 8) (tgt := 61) rfl (by decide) (fun z => ?_) (fun z => ?_)
    · have k := k.1 z
      refine q_sub (pc := 61) (ks := [0, 1, 2, 3, 4]) rfl ?_
      exact hE _ _ _ k
    · have k := k.2 z
      refine q_aload_n (pc := 11) rfl rfl ?_
      refine q_iload (pc := 12) rfl rfl ?_
      refine q_iload_n (pc := 14) rfl rfl ?_
      refine q_iload_n (pc := 15) rfl rfl ?_
      refine q_callV (pc := 16) (As := [q_i x4, q_i x1, q_i x2]) (rest := []) rfl rfl rfl hi rfl rfl (Nat.le_of_ble_eq_true rfl) ?_
      refine q_den_mono _ _ _ _ _ _ ?_ (dn_X1_restIn (d := d + 1) hi k)
      rintro _ g1 ⟨r2, rfl, k⟩
      refine q_if_lt (pc := 19) (tgt := 26) rfl (by decide) (fun z => ?_) (fun z => ?_)
      · have k := k.1 z
        refine q_iconst (pc := 26) (v := 0) rfl (by decide) ?_
        refine q_istore (pc := 27) (ls1 := [(5, q_i 0), (0, q_r 2 i), (1, q_i x1), (2, q_i x2), (3, q_i x3), (4, q_i x4)]) rfl (by decide) rfl ?_
        refine q_iload (pc := 29) rfl rfl ?_
        refine q_if_eq (pc := 31) (tgt := 55) rfl (by decide) (fun _ => ?_) (fun z => absurd z (by decide))
        refine q_iinc (pc := 55) (v := (x4 + 1)) (ls1 := [(4, q_i (x4 + 1)), (5, q_i 0), (0, q_r 2 i), (1, q_i x1), (2, q_i x2), (3, q_i x3)]) rfl (by decide) rfl (congrArg (fun z => x4 + z) (by decide : Int32.ofInt 1 = 1)) rfl ?_
        refine q_goto (pc := 58) (tgt := 5) rfl (by decide) ?_
        refine q_sub (pc := 5) (ks := [2, 3, 4, 5, 0]) rfl ?_
        exact ih _ _ _ k
      · have k := k.2 z
        refine q_iconst (pc := 22) (v := 1) rfl (by decide) ?_
        refine q_goto (pc := 23) (tgt := 27) rfl (by decide) ?_
        refine q_istore (pc := 27) (ls1 := [(5, q_i 1), (0, q_r 2 i), (1, q_i x1), (2, q_i x2), (3, q_i x3), (4, q_i x4)]) rfl (by decide) rfl ?_
        refine q_iload (pc := 29) rfl rfl ?_
        refine q_if_eq (pc := 31) (tgt := 55) rfl (by decide) (fun z => absurd z (by decide)) (fun _ => ?_)
        refine q_aload_n (pc := 34) rfl rfl ?_
        refine q_iload (pc := 35) rfl rfl ?_
        refine q_iload_n (pc := 37) rfl rfl ?_
        refine q_iload_n (pc := 38) rfl rfl ?_
        refine q_callV (pc := 39) (As := [q_i x4, q_i x1, q_i x2]) (rest := []) rfl rfl rfl hi rfl rfl (Nat.le_of_ble_eq_true rfl) ?_
        refine q_den_mono _ _ _ _ _ _ ?_ (dn_X1_sumIn (d := d) hi k)
        rintro _ g3 ⟨r4, rfl, k⟩
        refine q_aload_n (pc := 42) rfl rfl ?_
        refine q_iload_n (pc := 43) rfl rfl ?_
        refine q_iload_n (pc := 44) rfl rfl ?_
        refine q_iload_n (pc := 45) rfl rfl ?_
        refine q_callV (pc := 46) (As := [q_i x3, q_i x1, q_i x2]) (rest := [q_i r4]) rfl rfl rfl hi rfl rfl (Nat.le_of_ble_eq_true rfl) ?_
        refine q_den_mono _ _ _ _ _ _ ?_ (dn_X1_sumIn (d := d) hi k)
        rintro _ g5 ⟨r6, rfl, k⟩
        refine q_icmp_ge (pc := 49) (tgt := 55) rfl (by decide) (fun z => ?_) (fun z => ?_)
        · have k := k.1 z
          refine q_iinc (pc := 55) (v := (x4 + 1)) (ls1 := [(4, q_i (x4 + 1)), (5, q_i 1), (0, q_r 2 i), (1, q_i x1), (2, q_i x2), (3, q_i x3)]) rfl (by decide) rfl (congrArg (fun z => x4 + z) (by decide : Int32.ofInt 1 = 1)) rfl ?_
          refine q_goto (pc := 58) (tgt := 5) rfl (by decide) ?_
          refine q_sub (pc := 5) (ks := [2, 3, 4, 5, 0]) rfl ?_
          exact ih _ _ _ k
        · have k := k.2 z
          refine q_iload (pc := 52) rfl rfl ?_
          refine q_istore_n (pc := 54) (ls1 := [(3, q_i x4), (5, q_i 1), (0, q_r 2 i), (1, q_i x1), (2, q_i x2), (4, q_i x4)]) rfl (by decide) rfl ?_
          refine q_iinc (pc := 55) (v := (x4 + 1)) (ls1 := [(4, q_i (x4 + 1)), (3, q_i x4), (5, q_i 1), (0, q_r 2 i), (1, q_i x1), (2, q_i x2)]) rfl (by decide) rfl (congrArg (fun z => x4 + z) (by decide : Int32.ofInt 1 = 1)) rfl ?_
          refine q_goto (pc := 58) (tgt := 5) rfl (by decide) ?_
          refine q_sub (pc := 5) (ks := [3, 4, 5, 1, 0]) rfl ?_
          exact ih _ _ _ k
set_option maxHeartbeats 4000000 in
set_option maxRecDepth 100000 in
theorem dn_X1_bestState {d : Nat} {i : Nat} {a1 : Int32} {a2 : Int32} (hi : i < 6) {h : q_H} {Q : Int32 → q_H → Prop} (k : wp_X1_bestState i a1 a2 h Q) : q_den (d + 3) 18 [q_r 2 i, q_i a1, q_i a2] h (q_ri Q) := by
  unfold wp_X1_bestState at k
  refine ⟨by decide, Nat.le_of_ble_eq_true rfl, ?_⟩
  show q_run (q_pcs q_t_X1_bestState) 1 6 none (q_den (d + 2)) 1 (q_ri Q) 0 [(0, q_r 2 i), (1, q_i a1), (2, q_i a2)] [] h
  refine q_iconst (pc := 0) (v := 0) rfl (by decide) ?_
  refine q_istore_n (pc := 1) (ls1 := [(3, q_i 0), (0, q_r 2 i), (1, q_i a1), (2, q_i a2)]) rfl (by decide) rfl ?_
  refine q_iconst (pc := 2) (v := 1) rfl (by decide) ?_
  refine q_istore (pc := 3) (ls1 := [(4, q_i 1), (3, q_i 0), (0, q_r 2 i), (1, q_i a1), (2, q_i a2)]) rfl (by decide) rfl ?_
  obtain ⟨n7, k⟩ := k
  refine q_sub (pc := 5) (ks := [2, 3, 4, 1, 0]) rfl ?_
  refine dl_X1_bestState_5 hi (fun y3_7 y4_7 g7 k => ?_) n7 _ _ _ k
  refine q_iload_n (pc := 61) rfl rfl ?_
  exact q_iret (pc := 62) rfl rfl ⟨_, rfl, k⟩
set_option maxHeartbeats 4000000 in
set_option maxRecDepth 100000 in
theorem dn_X2_size {d : Nat} {h : q_H} {Q : Int32 → q_H → Prop} (k : wp_X2_size h Q) : q_den (d + 1) 28 [q_r 15 0] h (q_ri Q) := by
  unfold wp_X2_size at k
  refine ⟨by decide, Nat.le_of_ble_eq_true rfl, ?_⟩
  show q_run (q_pcs q_t_X2_size) 2 1 none (q_den d) 1 (q_ri Q) 0 [(0, q_r 15 0)] [] h
  refine q_aload_n (pc := 0) rfl rfl ?_
  refine q_getI (pc := 1) rfl (by decide) rfl rfl rfl ?_
  exact q_iret (pc := 4) rfl rfl ⟨_, rfl, k⟩
set_option maxHeartbeats 4000000 in
set_option maxRecDepth 100000 in
theorem dn_X2_lenOf {d : Nat} {a1 : Int32} {h : q_H} {Q : Int32 → q_H → Prop} (k : wp_X2_lenOf a1 h Q) : q_den (d + 1) 31 [q_r 15 0, q_i a1] h (q_ri Q) := by
  unfold wp_X2_lenOf at k
  refine ⟨by decide, Nat.le_of_ble_eq_true rfl, ?_⟩
  show q_run (q_pcs q_t_X2_lenOf) 2 2 none (q_den d) 1 (q_ri Q) 0 [(0, q_r 15 0), (1, q_i a1)] [] h
  refine q_aload_n (pc := 0) rfl rfl ?_
  refine q_getR (pc := 1) rfl (by decide) rfl rfl rfl ?_
  refine q_iload_n (pc := 4) rfl rfl ?_
  obtain ⟨b1, k⟩ := k
  refine q_iaload (pc := 5) rfl (by decide) rfl rfl b1 ?_
  exact q_iret (pc := 6) rfl rfl ⟨_, rfl, k⟩
set_option maxHeartbeats 4000000 in
set_option maxRecDepth 100000 in
theorem dn_X2_endsAll {d : Nat} {a1 : Int32} {h : q_H} {Q : Int32 → q_H → Prop} (k : wp_X2_endsAll a1 h Q) : q_den (d + 1) 32 [q_r 15 0, q_i a1] h (q_ri Q) := by
  unfold wp_X2_endsAll at k
  refine ⟨by decide, Nat.le_of_ble_eq_true rfl, ?_⟩
  show q_run (q_pcs q_t_X2_endsAll) 2 2 none (q_den d) 3 (q_ri Q) 0 [(0, q_r 15 0), (1, q_i a1)] [] h
  refine q_aload_n (pc := 0) rfl rfl ?_
  refine q_getR (pc := 1) rfl (by decide) rfl rfl rfl ?_
  refine q_iload_n (pc := 4) rfl rfl ?_
  obtain ⟨b1, k⟩ := k
  refine q_iaload (pc := 5) rfl (by decide) rfl rfl b1 ?_
  refine q_aload_n (pc := 6) rfl rfl ?_
  refine q_getR (pc := 7) rfl (by decide) rfl rfl rfl ?_
  refine q_iload_n (pc := 10) rfl rfl ?_
  obtain ⟨b2, k⟩ := k
  refine q_iaload (pc := 11) rfl (by decide) rfl rfl b2 ?_
  refine q_iadd (pc := 12) rfl ?_
  refine q_bipush (pc := 13) (v := 64) rfl (by decide) ?_
  refine q_icmp_ne (pc := 15) (tgt := 22) rfl (by decide) (fun z => ?_) (fun z => ?_)
  · have k := k.2 z
    refine q_iconst (pc := 22) (v := 0) rfl (by decide) ?_
    exact q_zret (pc := 23) rfl rfl (by decide) ⟨_, rfl, k⟩
  · have k := k.1 z
    refine q_iconst (pc := 18) (v := 1) rfl (by decide) ?_
    refine q_goto (pc := 19) (tgt := 23) rfl (by decide) ?_
    exact q_zret (pc := 23) rfl rfl (by decide) ⟨_, rfl, k⟩
set_option maxHeartbeats 4000000 in
set_option maxRecDepth 100000 in
theorem dl_X1_planned_4 {d : Nat} {i : Nat} (hi : i < 6) {E : Int32 → Int32 → q_H → Prop} {Q : Int32 → q_H → Prop} (hE : ∀ (x2 : Int32) (x3 : Int32) (h : q_H), E x2 x3 h → q_run (q_pcs q_t_X1_planned) 1 6 none (q_den (d + 3)) 1 (q_ri Q) 51 [(0, q_r 2 i), (1, q_r 15 0), (2, q_i x2), (3, q_i x3)] [] h) : ∀ (n : Nat) (x2 : Int32) (x3 : Int32) (h : q_H), lp_X1_planned_4 i E n x2 x3 h → q_run (q_pcs q_t_X1_planned) 1 6 none (q_den (d + 3)) 1 (q_ri Q) 4 [(0, q_r 2 i), (1, q_r 15 0), (2, q_i x2), (3, q_i x3)] [] h := by
  intro n
  induction n with
  | zero => intro x2 x3 h k; exact k.elim
  | succ n ih =>
    intro x2 x3 h k
    unfold lp_X1_planned_4 at k
    refine q_iload_n (pc := 4) rfl rfl ?_
    refine q_aload_n (pc := 5) rfl rfl ?_
    refine q_callV (pc := 6) (As := []) (rest := [q_i x3]) rfl rfl rfl (by decide) rfl rfl (Nat.le_of_ble_eq_true rfl) ?_
    refine q_den_mono _ _ _ _ _ _ ?_ (dn_X2_size (d := d + 2)  k)
    rintro _ g1 ⟨r2, rfl, k⟩
    refine q_icmp_ge (pc := 9) (tgt := 51) rfl (by decide) (fun z => ?_) (fun z => ?_)
    · have k := k.1 z
      refine q_sub (pc := 51) (ks := [0, 1, 2, 3]) rfl ?_
      exact hE _ _ _ k
    · have k := k.2 z
      refine q_aload_n (pc := 12) rfl rfl ?_
      refine q_iload_n (pc := 13) rfl rfl ?_
      refine q_callV (pc := 14) (As := [q_i x3]) (rest := []) rfl rfl rfl (by decide) rfl rfl (Nat.le_of_ble_eq_true rfl) ?_
      refine q_den_mono _ _ _ _ _ _ ?_ (dn_X2_lenOf (d := d + 2)  k)
      rintro _ g3 ⟨r4, rfl, k⟩
      refine q_istore (pc := 17) (ls1 := [(4, q_i r4), (0, q_r 2 i), (1, q_r 15 0), (2, q_i x2), (3, q_i x3)]) rfl (by decide) rfl ?_
      refine q_aload_n (pc := 19) rfl rfl ?_
      refine q_iload_n (pc := 20) rfl rfl ?_
      refine q_callV (pc := 21) (As := [q_i x3]) (rest := []) rfl rfl rfl (by decide) rfl rfl (Nat.le_of_ble_eq_true rfl) ?_
      refine q_den_mono _ _ _ _ _ _ ?_ (dn_X2_endsAll (d := d + 2)  k)
      rintro _ g5 ⟨r6, rfl, k⟩
      refine q_istore (pc := 24) (ls1 := [(5, q_i r6), (4, q_i r4), (0, q_r 2 i), (1, q_r 15 0), (2, q_i x2), (3, q_i x3)]) rfl (by decide) rfl ?_
      refine q_iload_n (pc := 26) rfl rfl ?_
      refine q_aload_n (pc := 27) rfl rfl ?_
      refine q_aload_n (pc := 28) rfl rfl ?_
      refine q_iload (pc := 29) rfl rfl ?_
      refine q_iload (pc := 31) rfl rfl ?_
      refine q_callV (pc := 33) (As := [q_i r4, q_i r6]) (rest := [q_r 2 i, q_i x2]) rfl rfl rfl hi rfl rfl (Nat.le_of_ble_eq_true rfl) ?_
      refine q_den_mono _ _ _ _ _ _ ?_ (dn_X1_bestState (d := d) hi k)
      rintro _ g7 ⟨r8, rfl, k⟩
      refine q_iload (pc := 36) rfl rfl ?_
      refine q_iload (pc := 38) rfl rfl ?_
      refine q_callV (pc := 40) (As := [q_i r8, q_i r4, q_i r6]) (rest := [q_i x2]) rfl rfl rfl hi rfl rfl (Nat.le_of_ble_eq_true rfl) ?_
      refine q_den_mono _ _ _ _ _ _ ?_ (dn_X1_sumIn (d := d + 1) hi k)
      rintro _ g9 ⟨r10, rfl, k⟩
      refine q_iadd (pc := 43) rfl ?_
      refine q_istore_n (pc := 44) (ls1 := [(2, q_i (x2 + r10)), (5, q_i r6), (4, q_i r4), (0, q_r 2 i), (1, q_r 15 0), (3, q_i x3)]) rfl (by decide) rfl ?_
      refine q_iinc (pc := 45) (v := (x3 + 1)) (ls1 := [(3, q_i (x3 + 1)), (2, q_i (x2 + r10)), (5, q_i r6), (4, q_i r4), (0, q_r 2 i), (1, q_r 15 0)]) rfl (by decide) rfl (congrArg (fun z => x3 + z) (by decide : Int32.ofInt 1 = 1)) rfl ?_
      refine q_goto (pc := 48) (tgt := 4) rfl (by decide) ?_
      refine q_sub (pc := 4) (ks := [4, 5, 1, 0]) rfl ?_
      exact ih _ _ _ k
set_option maxHeartbeats 4000000 in
set_option maxRecDepth 100000 in
theorem dn_X1_planned {d : Nat} {i : Nat} (hi : i < 6) {h : q_H} {Q : Int32 → q_H → Prop} (k : wp_X1_planned i h Q) : q_den (d + 4) 19 [q_r 2 i, q_r 15 0] h (q_ri Q) := by
  unfold wp_X1_planned at k
  refine ⟨by decide, Nat.le_of_ble_eq_true rfl, ?_⟩
  show q_run (q_pcs q_t_X1_planned) 1 6 none (q_den (d + 3)) 1 (q_ri Q) 0 [(0, q_r 2 i), (1, q_r 15 0)] [] h
  refine q_iconst (pc := 0) (v := 0) rfl (by decide) ?_
  refine q_istore_n (pc := 1) (ls1 := [(2, q_i 0), (0, q_r 2 i), (1, q_r 15 0)]) rfl (by decide) rfl ?_
  refine q_iconst (pc := 2) (v := 0) rfl (by decide) ?_
  refine q_istore_n (pc := 3) (ls1 := [(3, q_i 0), (2, q_i 0), (0, q_r 2 i), (1, q_r 15 0)]) rfl (by decide) rfl ?_
  obtain ⟨n11, k⟩ := k
  refine q_sub (pc := 4) (ks := [2, 3, 1, 0]) rfl ?_
  refine dl_X1_planned_4 hi (fun y2_11 y3_11 g11 k => ?_) n11 _ _ _ k
  refine q_iload_n (pc := 51) rfl rfl ?_
  exact q_iret (pc := 52) rfl rfl ⟨_, rfl, k⟩
set_option maxHeartbeats 4000000 in
set_option maxRecDepth 100000 in
theorem dl_X1_stateByRule_2 {d : Nat} {i : Nat} {x1 : Int32} (hi : i < 6) {E : Int32 → q_H → Prop} {Q : Int32 → q_H → Prop} (hE : ∀ (x2 : Int32) (h : q_H), E x2 h → q_run (q_pcs q_t_X1_stateByRule) 1 3 none (q_den (d)) 1 (q_ri Q) 24 [(0, q_r 2 i), (1, q_i x1), (2, q_i x2)] [] h) : ∀ (n : Nat) (x2 : Int32) (h : q_H), lp_X1_stateByRule_2 i x1 Q E n x2 h → q_run (q_pcs q_t_X1_stateByRule) 1 3 none (q_den (d)) 1 (q_ri Q) 2 [(0, q_r 2 i), (1, q_i x1), (2, q_i x2)] [] h := by
  intro n
  induction n with
  | zero => intro x2 h k; exact k.elim
  | succ n ih =>
    intro x2 h k
    unfold lp_X1_stateByRule_2 at k
    refine q_iload_n (pc := 2) rfl rfl ?_
    refine q_if_le (pc := 3) (tgt := 24) rfl (by decide) (fun z => ?_) (fun z => ?_)
    · have k := k.1 z
      refine q_sub (pc := 24) (ks := [0, 1, 2]) rfl ?_
      exact hE _ _ k
    · have k := k.2 z
      refine q_iload_n (pc := 6) rfl rfl ?_
      refine q_aload_n (pc := 7) rfl rfl ?_
      refine q_getR (pc := 8) rfl hi rfl rfl rfl ?_
      refine q_iload_n (pc := 11) rfl rfl ?_
      obtain ⟨b1, k⟩ := k
      refine q_iaload (pc := 12) rfl hi rfl rfl b1 ?_
      refine q_icmp_lt (pc := 13) (tgt := 18) rfl (by decide) (fun z => ?_) (fun z => ?_)
      · have k := k.1 z
        refine q_iinc (pc := 18) (v := (x2 + (-1))) (ls1 := [(2, q_i (x2 + (-1))), (0, q_r 2 i), (1, q_i x1)]) rfl (by decide) rfl (congrArg (fun z => x2 + z) (by decide : Int32.ofInt (-1) = (-1))) rfl ?_
        refine q_goto (pc := 21) (tgt := 2) rfl (by decide) ?_
        refine q_sub (pc := 2) (ks := [1, 2, 0]) rfl ?_
        exact ih _ _ k
      · have k := k.2 z
        refine q_iload_n (pc := 16) rfl rfl ?_
        exact q_iret (pc := 17) rfl rfl ⟨_, rfl, k⟩
set_option maxHeartbeats 4000000 in
set_option maxRecDepth 100000 in
theorem dn_X1_stateByRule {d : Nat} {i : Nat} {a1 : Int32} (hi : i < 6) {h : q_H} {Q : Int32 → q_H → Prop} (k : wp_X1_stateByRule i a1 h Q) : q_den (d + 1) 20 [q_r 2 i, q_i a1] h (q_ri Q) := by
  unfold wp_X1_stateByRule at k
  refine ⟨by decide, Nat.le_of_ble_eq_true rfl, ?_⟩
  show q_run (q_pcs q_t_X1_stateByRule) 1 3 none (q_den d) 1 (q_ri Q) 0 [(0, q_r 2 i), (1, q_i a1)] [] h
  refine q_iconst (pc := 0) (v := 3) rfl (by decide) ?_
  refine q_istore_n (pc := 1) (ls1 := [(2, q_i 3), (0, q_r 2 i), (1, q_i a1)]) rfl (by decide) rfl ?_
  obtain ⟨n2, k⟩ := k
  refine q_sub (pc := 2) (ks := [1, 2, 0]) rfl ?_
  refine dl_X1_stateByRule_2 hi (fun y2_2 g2 k => ?_) n2 _ _ k
  refine q_iconst (pc := 24) (v := 0) rfl (by decide) ?_
  exact q_iret (pc := 25) rfl rfl ⟨_, rfl, k⟩
set_option maxHeartbeats 4000000 in
set_option maxRecDepth 100000 in
theorem dl_X1_restByRule_8 {d : Nat} {i : Nat} {x1 : Int32} (hi : i < 6) {E : Int32 → q_H → Prop} {Q : Int32 → q_H → Prop} (hE : ∀ (x3 : Int32) (h : q_H), E x3 h → q_run (q_pcs q_t_X1_restByRule) 1 5 none (q_den (d)) 1 (q_ri Q) 83 [(0, q_r 2 i), (1, q_i x1), (3, q_i x3)] [] h) : ∀ (n : Nat) (x3 : Int32) (h : q_H), lp_X1_restByRule_8 i x1 Q E n x3 h → q_run (q_pcs q_t_X1_restByRule) 1 5 none (q_den (d)) 1 (q_ri Q) 8 [(0, q_r 2 i), (1, q_i x1), (3, q_i x3)] [] h := by
  intro n
  induction n with
  | zero => intro x3 h k; exact k.elim
  | succ n ih =>
    intro x3 h k
    unfold lp_X1_restByRule_8 at k
    refine q_iload_n (pc := 8) rfl rfl ?_
    refine q_if_le (pc := 9) (tgt := 83) rfl (by decide) (fun z => ?_) (fun z => ?_)
    · have k := k.1 z
      refine q_sub (pc := 83) (ks := [0, 1, 2]) rfl ?_
      exact hE _ _ k
    · have k := k.2 z
      refine q_iload_n (pc := 12) rfl rfl ?_
      refine q_aload_n (pc := 13) rfl rfl ?_
      refine q_getR (pc := 14) rfl hi rfl rfl rfl ?_
      refine q_iload_n (pc := 17) rfl rfl ?_
      obtain ⟨b1, k⟩ := k
      refine q_iaload (pc := 18) rfl hi rfl rfl b1 ?_
      refine q_isub (pc := 19) rfl ?_
      refine q_istore (pc := 20) (ls1 := [(4, q_i (x1 - (Prod.fst h 5 i (Int32.toNatClampNeg x3)))), (0, q_r 2 i), (1, q_i x1), (3, q_i x3)]) rfl (by decide) rfl ?_
      refine q_iload (pc := 22) rfl rfl ?_
      refine q_aload_n (pc := 24) rfl rfl ?_
      refine q_getR (pc := 25) rfl hi rfl rfl rfl ?_
      refine q_iload_n (pc := 28) rfl rfl ?_
      obtain ⟨b2, k⟩ := k
      refine q_iaload (pc := 29) rfl hi rfl rfl b2 ?_
      refine q_icmp_le (pc := 30) (tgt := 77) rfl (by decide) (fun z => ?_) (fun z => ?_)
      · have k := k.1 z
        refine q_iinc (pc := 77) (v := (x3 + (-1))) (ls1 := [(3, q_i (x3 + (-1))), (4, q_i (x1 - (Prod.fst h 5 i (Int32.toNatClampNeg x3)))), (0, q_r 2 i), (1, q_i x1)]) rfl (by decide) rfl (congrArg (fun z => x3 + z) (by decide : Int32.ofInt (-1) = (-1))) rfl ?_
        refine q_goto (pc := 80) (tgt := 8) rfl (by decide) ?_
        refine q_sub (pc := 8) (ks := [2, 3, 0]) rfl ?_
        exact ih _ _ k
      · have k := k.2 z
        refine q_aload_n (pc := 33) rfl rfl ?_
        refine q_getR (pc := 34) rfl hi rfl rfl rfl ?_
        refine q_iload_n (pc := 37) rfl rfl ?_
        refine q_iconst (pc := 38) (v := 1) rfl (by decide) ?_
        refine q_iadd (pc := 39) rfl ?_
        obtain ⟨b3, k⟩ := k
        refine q_iaload (pc := 40) rfl hi rfl rfl b3 ?_
        refine q_aload_n (pc := 41) rfl rfl ?_
        refine q_getR (pc := 42) rfl hi rfl rfl rfl ?_
        refine q_iload_n (pc := 45) rfl rfl ?_
        obtain ⟨b4, k⟩ := k
        refine q_iaload (pc := 46) rfl hi rfl rfl b4 ?_
        refine q_icmp_le (pc := 47) (tgt := 77) rfl (by decide) (fun z => ?_) (fun z => ?_)
        · have k := k.1 z
          refine q_iinc (pc := 77) (v := (x3 + (-1))) (ls1 := [(3, q_i (x3 + (-1))), (4, q_i (x1 - (Prod.fst h 5 i (Int32.toNatClampNeg x3)))), (0, q_r 2 i), (1, q_i x1)]) rfl (by decide) rfl (congrArg (fun z => x3 + z) (by decide : Int32.ofInt (-1) = (-1))) rfl ?_
          refine q_goto (pc := 80) (tgt := 8) rfl (by decide) ?_
          refine q_sub (pc := 8) (ks := [2, 3, 0]) rfl ?_
          exact ih _ _ k
        · have k := k.2 z
          refine q_iload (pc := 50) rfl rfl ?_
          refine q_aload_n (pc := 52) rfl rfl ?_
          refine q_getR (pc := 53) rfl hi rfl rfl rfl ?_
          refine q_iload_n (pc := 56) rfl rfl ?_
          refine q_iconst (pc := 57) (v := 1) rfl (by decide) ?_
          refine q_iadd (pc := 58) rfl ?_
          obtain ⟨b5, k⟩ := k
          refine q_iaload (pc := 59) rfl hi rfl rfl b5 ?_
          refine q_icmp_ge (pc := 60) (tgt := 68) rfl (by decide) (fun z => ?_) (fun z => ?_)
          · have k := k.1 z
            refine q_aload_n (pc := 68) rfl rfl ?_
            refine q_getR (pc := 69) rfl hi rfl rfl rfl ?_
            refine q_iload_n (pc := 72) rfl rfl ?_
            refine q_iconst (pc := 73) (v := 1) rfl (by decide) ?_
            refine q_iadd (pc := 74) rfl ?_
            obtain ⟨b6, k⟩ := k
            refine q_iaload (pc := 75) rfl hi rfl rfl b6 ?_
            exact q_iret (pc := 76) rfl rfl ⟨_, rfl, k⟩
          · have k := k.2 z
            refine q_iload (pc := 63) rfl rfl ?_
            refine q_goto (pc := 65) (tgt := 76) rfl (by decide) ?_
            exact q_iret (pc := 76) rfl rfl ⟨_, rfl, k⟩
set_option maxHeartbeats 4000000 in
set_option maxRecDepth 100000 in
theorem dn_X1_restByRule {d : Nat} {i : Nat} {a1 : Int32} {a2 : Int32} (hi : i < 6) {h : q_H} {Q : Int32 → q_H → Prop} (k : wp_X1_restByRule i a1 a2 h Q) : q_den (d + 1) 21 [q_r 2 i, q_i a1, q_i a2] h (q_ri Q) := by
  unfold wp_X1_restByRule at k
  refine ⟨by decide, Nat.le_of_ble_eq_true rfl, ?_⟩
  show q_run (q_pcs q_t_X1_restByRule) 1 5 none (q_den d) 1 (q_ri Q) 0 [(0, q_r 2 i), (1, q_i a1), (2, q_i a2)] [] h
  refine q_iload_n (pc := 0) rfl rfl ?_
  refine q_if_eq (pc := 1) (tgt := 6) rfl (by decide) (fun z => ?_) (fun z => ?_)
  · have k := k.1 z
    refine q_iconst (pc := 6) (v := 3) rfl (by decide) ?_
    refine q_istore_n (pc := 7) (ls1 := [(3, q_i 3), (0, q_r 2 i), (1, q_i a1), (2, q_i a2)]) rfl (by decide) rfl ?_
    obtain ⟨n7, k⟩ := k
    refine q_sub (pc := 8) (ks := [1, 2, 0]) rfl ?_
    refine dl_X1_restByRule_8 hi (fun y3_7 g7 k => ?_) n7 _ _ k
    refine q_iload_n (pc := 83) rfl rfl ?_
    refine q_aload_n (pc := 84) rfl rfl ?_
    refine q_getR (pc := 85) rfl hi rfl rfl rfl ?_
    refine q_iconst (pc := 88) (v := 1) rfl (by decide) ?_
    refine q_iaload_c (pc := 89) (j := 1) rfl hi rfl rfl (q_vp (x := 1) (n := 5) (by decide)) (by decide) ?_
    refine q_icmp_ge (pc := 90) (tgt := 97) rfl (by decide) (fun z => ?_) (fun z => ?_)
    · have k := k.1 z
      refine q_aload_n (pc := 97) rfl rfl ?_
      refine q_getR (pc := 98) rfl hi rfl rfl rfl ?_
      refine q_iconst (pc := 101) (v := 1) rfl (by decide) ?_
      refine q_iaload_c (pc := 102) (j := 1) rfl hi rfl rfl (q_vp (x := 1) (n := 5) (by decide)) (by decide) ?_
      exact q_iret (pc := 103) rfl rfl ⟨_, rfl, k⟩
    · have k := k.2 z
      refine q_iload_n (pc := 93) rfl rfl ?_
      refine q_goto (pc := 94) (tgt := 103) rfl (by decide) ?_
      exact q_iret (pc := 103) rfl rfl ⟨_, rfl, k⟩
  · have k := k.2 z
    refine q_iload_n (pc := 4) rfl rfl ?_
    exact q_iret (pc := 5) rfl rfl ⟨_, rfl, k⟩
set_option maxHeartbeats 4000000 in
set_option maxRecDepth 100000 in
theorem dl_X1_spanByRule_22 {d : Nat} {i : Nat} {x2 : Int32} {x3 : Int32} (hi : i < 6) {E : Int32 → Int32 → q_H → Prop} {Q : Int32 → q_H → Prop} (hE : ∀ (x4 : Int32) (x5 : Int32) (h : q_H), E x4 x5 h → q_run (q_pcs q_t_X1_spanByRule) 1 6 none (q_den (d + 1)) 1 (q_ri Q) 72 [(0, q_r 2 i), (2, q_i x2), (3, q_i x3), (4, q_i x4), (5, q_i x5)] [] h) : ∀ (n : Nat) (x4 : Int32) (x5 : Int32) (h : q_H), lp_X1_spanByRule_22 i x2 x3 E n x4 x5 h → q_run (q_pcs q_t_X1_spanByRule) 1 6 none (q_den (d + 1)) 1 (q_ri Q) 22 [(0, q_r 2 i), (2, q_i x2), (3, q_i x3), (4, q_i x4), (5, q_i x5)] [] h := by
  intro n
  induction n with
  | zero => intro x4 x5 h k; exact k.elim
  | succ n ih =>
    intro x4 x5 h k
    unfold lp_X1_spanByRule_22 at k
    refine q_iload (pc := 22) rfl rfl ?_
    refine q_iconst (pc := 24) (v := 4) rfl (by decide) ?_
    refine q_icmp_ge (pc := 25) (tgt := 72) rfl (by decide) (fun z => ?_) (fun z => ?_)
    · have k := k.1 z
      refine q_sub (pc := 72) (ks := [0, 1, 2, 3, 4]) rfl ?_
      exact hE _ _ _ k
    · have k := k.2 z
      refine q_iload (pc := 28) rfl rfl ?_
      refine q_aload_n (pc := 30) rfl rfl ?_
      refine q_getR (pc := 31) rfl hi rfl rfl rfl ?_
      refine q_iload (pc := 34) rfl rfl ?_
      obtain ⟨b3, k⟩ := k
      refine q_iaload (pc := 36) rfl hi rfl rfl b3 ?_
      refine q_aload_n (pc := 37) rfl rfl ?_
      refine q_getR (pc := 38) rfl hi rfl rfl rfl ?_
      refine q_iload (pc := 41) rfl rfl ?_
      refine q_iconst (pc := 43) (v := 1) rfl (by decide) ?_
      refine q_iadd (pc := 44) rfl ?_
      obtain ⟨b4, k⟩ := k
      refine q_iaload (pc := 45) rfl hi rfl rfl b4 ?_
      refine q_iload_n (pc := 46) rfl rfl ?_
      refine q_mmin (pc := 47) rfl rfl (Nat.le_of_ble_eq_true rfl) ?_
      refine q_aload_n (pc := 50) rfl rfl ?_
      refine q_getR (pc := 51) rfl hi rfl rfl rfl ?_
      refine q_iload (pc := 54) rfl rfl ?_
      obtain ⟨b5, k⟩ := k
      refine q_iaload (pc := 56) rfl hi rfl rfl b5 ?_
      refine q_iload_n (pc := 57) rfl rfl ?_
      refine q_mmin (pc := 58) rfl rfl (Nat.le_of_ble_eq_true rfl) ?_
      refine q_isub (pc := 61) rfl ?_
      refine q_imul (pc := 62) rfl ?_
      refine q_iadd (pc := 63) rfl ?_
      refine q_istore (pc := 64) (ls1 := [(4, q_i (x4 + ((Prod.fst h 3 i (Int32.toNatClampNeg x5)) * ((if x3 < (Prod.fst h 6 i (Int32.toNatClampNeg (x5 + 1))) then x3 else (Prod.fst h 6 i (Int32.toNatClampNeg (x5 + 1)))) - (if x3 < (Prod.fst h 6 i (Int32.toNatClampNeg x5)) then x3 else (Prod.fst h 6 i (Int32.toNatClampNeg x5))))))), (0, q_r 2 i), (2, q_i x2), (3, q_i x3), (5, q_i x5)]) rfl (by decide) rfl ?_
      refine q_iinc (pc := 66) (v := (x5 + 1)) (ls1 := [(5, q_i (x5 + 1)), (4, q_i (x4 + ((Prod.fst h 3 i (Int32.toNatClampNeg x5)) * ((if x3 < (Prod.fst h 6 i (Int32.toNatClampNeg (x5 + 1))) then x3 else (Prod.fst h 6 i (Int32.toNatClampNeg (x5 + 1)))) - (if x3 < (Prod.fst h 6 i (Int32.toNatClampNeg x5)) then x3 else (Prod.fst h 6 i (Int32.toNatClampNeg x5))))))), (0, q_r 2 i), (2, q_i x2), (3, q_i x3)]) rfl (by decide) rfl (congrArg (fun z => x5 + z) (by decide : Int32.ofInt 1 = 1)) rfl ?_
      refine q_goto (pc := 69) (tgt := 22) rfl (by decide) ?_
      refine q_sub (pc := 22) (ks := [2, 3, 4, 1, 0]) rfl ?_
      exact ih _ _ _ k
set_option maxHeartbeats 4000000 in
set_option maxRecDepth 100000 in
theorem dn_X1_spanByRule {d : Nat} {i : Nat} {a1 : Int32} {a2 : Int32} (hi : i < 6) {h : q_H} {Q : Int32 → q_H → Prop} (k : wp_X1_spanByRule i a1 a2 h Q) : q_den (d + 2) 23 [q_r 2 i, q_i a1, q_i a2] h (q_ri Q) := by
  unfold wp_X1_spanByRule at k
  refine ⟨by decide, Nat.le_of_ble_eq_true rfl, ?_⟩
  show q_run (q_pcs q_t_X1_spanByRule) 1 6 none (q_den (d + 1)) 1 (q_ri Q) 0 [(0, q_r 2 i), (1, q_i a1), (2, q_i a2)] [] h
  refine q_aload_n (pc := 0) rfl rfl ?_
  refine q_iload_n (pc := 1) rfl rfl ?_
  refine q_iload_n (pc := 2) rfl rfl ?_
  refine q_callV (pc := 3) (As := [q_i a1, q_i a2]) (rest := []) rfl rfl rfl hi rfl rfl (Nat.le_of_ble_eq_true rfl) ?_
  refine q_den_mono _ _ _ _ _ _ ?_ (dn_X1_restByRule (d := d) hi k)
  rintro _ g1 ⟨r2, rfl, k⟩
  refine q_istore_n (pc := 6) (ls1 := [(3, q_i r2), (0, q_r 2 i), (1, q_i a1), (2, q_i a2)]) rfl (by decide) rfl ?_
  refine q_iload_n (pc := 7) rfl rfl ?_
  refine q_iload_n (pc := 8) rfl rfl ?_
  refine q_isub (pc := 9) rfl ?_
  refine q_aload_n (pc := 10) rfl rfl ?_
  refine q_getR (pc := 11) rfl hi rfl rfl rfl ?_
  refine q_iconst (pc := 14) (v := 0) rfl (by decide) ?_
  refine q_iaload_c (pc := 15) (j := 0) rfl hi rfl rfl (q_vp (x := 0) (n := 4) (by decide)) (by decide) ?_
  refine q_imul (pc := 16) rfl ?_
  refine q_istore (pc := 17) (ls1 := [(4, q_i ((a1 - r2) * (Prod.fst g1 3 i 0))), (3, q_i r2), (0, q_r 2 i), (1, q_i a1), (2, q_i a2)]) rfl (by decide) rfl ?_
  refine q_iconst (pc := 19) (v := 0) rfl (by decide) ?_
  refine q_istore (pc := 20) (ls1 := [(5, q_i 0), (4, q_i ((a1 - r2) * (Prod.fst g1 3 i 0))), (3, q_i r2), (0, q_r 2 i), (1, q_i a1), (2, q_i a2)]) rfl (by decide) rfl ?_
  obtain ⟨n6, k⟩ := k
  refine q_sub (pc := 22) (ks := [3, 5, 2, 1, 0]) rfl ?_
  refine dl_X1_spanByRule_22 hi (fun y4_6 y5_6 g6 k => ?_) n6 _ _ _ k
  refine q_iload_n (pc := 72) rfl rfl ?_
  refine q_if_eq (pc := 73) (tgt := 81) rfl (by decide) (fun z => ?_) (fun z => ?_)
  · have k := k.1 z
    refine q_iload (pc := 81) rfl rfl ?_
    refine q_aload_n (pc := 83) rfl rfl ?_
    refine q_getR (pc := 84) rfl hi rfl rfl rfl ?_
    refine q_aload_n (pc := 87) rfl rfl ?_
    refine q_iload_n (pc := 88) rfl rfl ?_
    refine q_iconst (pc := 89) (v := 1) rfl (by decide) ?_
    refine q_isub (pc := 90) rfl ?_
    refine q_callV (pc := 91) (As := [q_i (r2 - 1)]) (rest := [q_r 4 i, q_i y4_6]) rfl rfl rfl hi rfl rfl (Nat.le_of_ble_eq_true rfl) ?_
    refine q_den_mono _ _ _ _ _ _ ?_ (dn_X1_stateByRule (d := d) hi k)
    rintro _ g7 ⟨r8, rfl, k⟩
    obtain ⟨b9, k⟩ := k
    refine q_iaload (pc := 94) rfl hi rfl rfl b9 ?_
    refine q_iadd (pc := 95) rfl ?_
    exact q_iret (pc := 96) rfl rfl ⟨_, rfl, k⟩
  · have k := k.2 z
    refine q_iload (pc := 76) rfl rfl ?_
    refine q_goto (pc := 78) (tgt := 96) rfl (by decide) ?_
    exact q_iret (pc := 96) rfl rfl ⟨_, rfl, k⟩
set_option maxHeartbeats 4000000 in
set_option maxRecDepth 100000 in
theorem dl_X1_sumByRule_4 {d : Nat} {i : Nat} (hi : i < 6) {E : Int32 → Int32 → q_H → Prop} {Q : Int32 → q_H → Prop} (hE : ∀ (x2 : Int32) (x3 : Int32) (h : q_H), E x2 x3 h → q_run (q_pcs q_t_X1_sumByRule) 1 4 none (q_den (d + 2)) 1 (q_ri Q) 35 [(0, q_r 2 i), (1, q_r 15 0), (2, q_i x2), (3, q_i x3)] [] h) : ∀ (n : Nat) (x2 : Int32) (x3 : Int32) (h : q_H), lp_X1_sumByRule_4 i E n x2 x3 h → q_run (q_pcs q_t_X1_sumByRule) 1 4 none (q_den (d + 2)) 1 (q_ri Q) 4 [(0, q_r 2 i), (1, q_r 15 0), (2, q_i x2), (3, q_i x3)] [] h := by
  intro n
  induction n with
  | zero => intro x2 x3 h k; exact k.elim
  | succ n ih =>
    intro x2 x3 h k
    unfold lp_X1_sumByRule_4 at k
    refine q_iload_n (pc := 4) rfl rfl ?_
    refine q_aload_n (pc := 5) rfl rfl ?_
    refine q_callV (pc := 6) (As := []) (rest := [q_i x3]) rfl rfl rfl (by decide) rfl rfl (Nat.le_of_ble_eq_true rfl) ?_
    refine q_den_mono _ _ _ _ _ _ ?_ (dn_X2_size (d := d + 1)  k)
    rintro _ g1 ⟨r2, rfl, k⟩
    refine q_icmp_ge (pc := 9) (tgt := 35) rfl (by decide) (fun z => ?_) (fun z => ?_)
    · have k := k.1 z
      refine q_sub (pc := 35) (ks := [0, 1, 2, 3]) rfl ?_
      exact hE _ _ _ k
    · have k := k.2 z
      refine q_iload_n (pc := 12) rfl rfl ?_
      refine q_aload_n (pc := 13) rfl rfl ?_
      refine q_aload_n (pc := 14) rfl rfl ?_
      refine q_iload_n (pc := 15) rfl rfl ?_
      refine q_callV (pc := 16) (As := [q_i x3]) (rest := [q_r 2 i, q_i x2]) rfl rfl rfl (by decide) rfl rfl (Nat.le_of_ble_eq_true rfl) ?_
      refine q_den_mono _ _ _ _ _ _ ?_ (dn_X2_lenOf (d := d + 1)  k)
      rintro _ g3 ⟨r4, rfl, k⟩
      refine q_aload_n (pc := 19) rfl rfl ?_
      refine q_iload_n (pc := 20) rfl rfl ?_
      refine q_callV (pc := 21) (As := [q_i x3]) (rest := [q_i r4, q_r 2 i, q_i x2]) rfl rfl rfl (by decide) rfl rfl (Nat.le_of_ble_eq_true rfl) ?_
      refine q_den_mono _ _ _ _ _ _ ?_ (dn_X2_endsAll (d := d + 1)  k)
      rintro _ g5 ⟨r6, rfl, k⟩
      refine q_callV (pc := 24) (As := [q_i r4, q_i r6]) (rest := [q_i x2]) rfl rfl rfl hi rfl rfl (Nat.le_of_ble_eq_true rfl) ?_
      refine q_den_mono _ _ _ _ _ _ ?_ (dn_X1_spanByRule (d := d) hi k)
      rintro _ g7 ⟨r8, rfl, k⟩
      refine q_iadd (pc := 27) rfl ?_
      refine q_istore_n (pc := 28) (ls1 := [(2, q_i (x2 + r8)), (0, q_r 2 i), (1, q_r 15 0), (3, q_i x3)]) rfl (by decide) rfl ?_
      refine q_iinc (pc := 29) (v := (x3 + 1)) (ls1 := [(3, q_i (x3 + 1)), (2, q_i (x2 + r8)), (0, q_r 2 i), (1, q_r 15 0)]) rfl (by decide) rfl (congrArg (fun z => x3 + z) (by decide : Int32.ofInt 1 = 1)) rfl ?_
      refine q_goto (pc := 32) (tgt := 4) rfl (by decide) ?_
      refine q_sub (pc := 4) (ks := [2, 3, 1, 0]) rfl ?_
      exact ih _ _ _ k
set_option maxHeartbeats 4000000 in
set_option maxRecDepth 100000 in
theorem dn_X1_sumByRule {d : Nat} {i : Nat} (hi : i < 6) {h : q_H} {Q : Int32 → q_H → Prop} (k : wp_X1_sumByRule i h Q) : q_den (d + 3) 22 [q_r 2 i, q_r 15 0] h (q_ri Q) := by
  unfold wp_X1_sumByRule at k
  refine ⟨by decide, Nat.le_of_ble_eq_true rfl, ?_⟩
  show q_run (q_pcs q_t_X1_sumByRule) 1 4 none (q_den (d + 2)) 1 (q_ri Q) 0 [(0, q_r 2 i), (1, q_r 15 0)] [] h
  refine q_iconst (pc := 0) (v := 0) rfl (by decide) ?_
  refine q_istore_n (pc := 1) (ls1 := [(2, q_i 0), (0, q_r 2 i), (1, q_r 15 0)]) rfl (by decide) rfl ?_
  refine q_iconst (pc := 2) (v := 0) rfl (by decide) ?_
  refine q_istore_n (pc := 3) (ls1 := [(3, q_i 0), (2, q_i 0), (0, q_r 2 i), (1, q_r 15 0)]) rfl (by decide) rfl ?_
  obtain ⟨n9, k⟩ := k
  refine q_sub (pc := 4) (ks := [2, 3, 1, 0]) rfl ?_
  refine dl_X1_sumByRule_4 hi (fun y2_9 y3_9 g9 k => ?_) n9 _ _ _ k
  refine q_iload_n (pc := 35) rfl rfl ?_
  exact q_iret (pc := 36) rfl rfl ⟨_, rfl, k⟩
set_option maxHeartbeats 4000000 in
set_option maxRecDepth 100000 in
theorem dn_X1_sumOfTry {d : Nat} {i : Nat} {a2 : Int32} {a3 : Int32} {a4 : Int32} (hi : i < 6) {h : q_H} {Q : Int32 → q_H → Prop} (k : wp_X1_sumOfTry i a2 a3 a4 h Q) : q_den (d + 4) 24 [q_r 2 i, q_r 15 0, q_i a2, q_i a3, q_i a4] h (q_ri Q) := by
  unfold wp_X1_sumOfTry at k
  refine ⟨by decide, Nat.le_of_ble_eq_true rfl, ?_⟩
  show q_run (q_pcs q_t_X1_sumOfTry) 1 5 none (q_den (d + 3)) 1 (q_ri Q) 0 [(0, q_r 2 i), (1, q_r 15 0), (2, q_i a2), (3, q_i a3), (4, q_i a4)] [] h
  refine q_aload_n (pc := 0) rfl rfl ?_
  refine q_iload_n (pc := 1) rfl rfl ?_
  refine q_iload_n (pc := 2) rfl rfl ?_
  refine q_iload (pc := 3) rfl rfl ?_
  refine q_callV (pc := 5) (As := [q_i a2, q_i a3, q_i a4]) (rest := []) rfl rfl rfl hi rfl rfl (Nat.le_of_ble_eq_true rfl) ?_
  refine q_den_mono _ _ _ _ _ _ ?_ (dn_X1_setThresholds (d := d + 2) hi k)
  rintro _ g1 ⟨rfl, k⟩
  refine q_aload_n (pc := 8) rfl rfl ?_
  refine q_aload_n (pc := 9) rfl rfl ?_
  refine q_callV (pc := 10) (As := [q_r 15 0]) (rest := []) rfl rfl rfl hi rfl rfl (Nat.le_of_ble_eq_true rfl) ?_
  refine q_den_mono _ _ _ _ _ _ ?_ (dn_X1_sumByRule (d := d) hi k)
  rintro _ g2 ⟨r3, rfl, k⟩
  exact q_iret (pc := 13) rfl rfl ⟨_, rfl, k⟩
set_option maxHeartbeats 4000000 in
set_option maxRecDepth 100000 in
theorem dl_X2_longest_4 {d : Nat} {E : Int32 → Int32 → q_H → Prop} {Q : Int32 → q_H → Prop} (hE : ∀ (x1 : Int32) (x2 : Int32) (h : q_H), E x1 x2 h → q_run (q_pcs q_t_X2_longest) 2 3 none (q_den (d)) 1 (q_ri Q) 29 [(0, q_r 15 0), (1, q_i x1), (2, q_i x2)] [] h) : ∀ (n : Nat) (x1 : Int32) (x2 : Int32) (h : q_H), lp_X2_longest_4 E n x1 x2 h → q_run (q_pcs q_t_X2_longest) 2 3 none (q_den (d)) 1 (q_ri Q) 4 [(0, q_r 15 0), (1, q_i x1), (2, q_i x2)] [] h := by
  intro n
  induction n with
  | zero => intro x1 x2 h k; exact k.elim
  | succ n ih =>
    intro x1 x2 h k
    unfold lp_X2_longest_4 at k
    refine q_iload_n (pc := 4) rfl rfl ?_
    refine q_aload_n (pc := 5) rfl rfl ?_
    refine q_getI (pc := 6) rfl (by decide) rfl rfl rfl ?_
    refine q_icmp_ge (pc := 9) (tgt := 29) rfl (by decide) (fun z => ?_) (fun z => ?_)
    · have k := k.1 z
      refine q_sub (pc := 29) (ks := [0, 1, 2]) rfl ?_
      exact hE _ _ _ k
    · have k := k.2 z
      refine q_iload_n (pc := 12) rfl rfl ?_
      refine q_aload_n (pc := 13) rfl rfl ?_
      refine q_getR (pc := 14) rfl (by decide) rfl rfl rfl ?_
      refine q_iload_n (pc := 17) rfl rfl ?_
      obtain ⟨b1, k⟩ := k
      refine q_iaload (pc := 18) rfl (by decide) rfl rfl b1 ?_
      refine q_mmax (pc := 19) rfl rfl (Nat.le_of_ble_eq_true rfl) ?_
      refine q_istore_n (pc := 22) (ls1 := [(1, q_i (if x1 < (Prod.fst h 17 0 (Int32.toNatClampNeg x2)) then (Prod.fst h 17 0 (Int32.toNatClampNeg x2)) else x1)), (0, q_r 15 0), (2, q_i x2)]) rfl (by decide) rfl ?_
      refine q_iinc (pc := 23) (v := (x2 + 1)) (ls1 := [(2, q_i (x2 + 1)), (1, q_i (if x1 < (Prod.fst h 17 0 (Int32.toNatClampNeg x2)) then (Prod.fst h 17 0 (Int32.toNatClampNeg x2)) else x1)), (0, q_r 15 0)]) rfl (by decide) rfl (congrArg (fun z => x2 + z) (by decide : Int32.ofInt 1 = 1)) rfl ?_
      refine q_goto (pc := 26) (tgt := 4) rfl (by decide) ?_
      refine q_sub (pc := 4) (ks := [2, 1, 0]) rfl ?_
      exact ih _ _ _ k
set_option maxHeartbeats 4000000 in
set_option maxRecDepth 100000 in
theorem dn_X2_longest {d : Nat} {h : q_H} {Q : Int32 → q_H → Prop} (k : wp_X2_longest h Q) : q_den (d + 1) 34 [q_r 15 0] h (q_ri Q) := by
  unfold wp_X2_longest at k
  refine ⟨by decide, Nat.le_of_ble_eq_true rfl, ?_⟩
  show q_run (q_pcs q_t_X2_longest) 2 3 none (q_den d) 1 (q_ri Q) 0 [(0, q_r 15 0)] [] h
  refine q_iconst (pc := 0) (v := 0) rfl (by decide) ?_
  refine q_istore_n (pc := 1) (ls1 := [(1, q_i 0), (0, q_r 15 0)]) rfl (by decide) rfl ?_
  refine q_iconst (pc := 2) (v := 0) rfl (by decide) ?_
  refine q_istore_n (pc := 3) (ls1 := [(2, q_i 0), (1, q_i 0), (0, q_r 15 0)]) rfl (by decide) rfl ?_
  obtain ⟨n2, k⟩ := k
  refine q_sub (pc := 4) (ks := [2, 1, 0]) rfl ?_
  refine dl_X2_longest_4 (fun y1_2 y2_2 g2 k => ?_) n2 _ _ _ k
  refine q_iload_n (pc := 29) rfl rfl ?_
  exact q_iret (pc := 30) rfl rfl ⟨_, rfl, k⟩
set_option maxHeartbeats 4000000 in
set_option maxRecDepth 100000 in
theorem dl_X1_bestLaterOff_11 {d : Nat} {i : Nat} {x2 : Int32} {x3 : Int32} (hi : i < 6) {E : Int32 → Int32 → Int32 → q_H → Prop} {Q : Int32 → q_H → Prop} (hE : ∀ (x4 : Int32) (x5 : Int32) (x6 : Int32) (h : q_H), E x4 x5 x6 h → q_run (q_pcs q_t_X1_bestLaterOff) 1 8 none (q_den (d + 4)) 1 (q_ri Q) 55 [(0, q_r 2 i), (1, q_r 15 0), (2, q_i x2), (3, q_i x3), (4, q_i x4), (5, q_i x5), (6, q_i x6)] [] h) : ∀ (n : Nat) (x4 : Int32) (x5 : Int32) (x6 : Int32) (h : q_H), lp_X1_bestLaterOff_11 i x2 x3 E n x4 x5 x6 h → q_run (q_pcs q_t_X1_bestLaterOff) 1 8 none (q_den (d + 4)) 1 (q_ri Q) 11 [(0, q_r 2 i), (1, q_r 15 0), (2, q_i x2), (3, q_i x3), (4, q_i x4), (5, q_i x5), (6, q_i x6)] [] h := by
  intro n
  induction n with
  | zero => intro x4 x5 x6 h k; exact k.elim
  | succ n ih =>
    intro x4 x5 x6 h k
    unfold lp_X1_bestLaterOff_11 at k
    refine q_iload (pc := 11) rfl rfl ?_
    refine q_iload_n (pc := 13) rfl rfl ?_
    refine q_icmp_gt (pc := 14) (tgt := 55) rfl (by decide) (fun z => ?_) (fun z => ?_)
    · have k := k.1 z
      refine q_sub (pc := 55) (ks := [0, 1, 2, 3, 4, 5, 6]) rfl ?_
      exact hE _ _ _ _ k
    · have k := k.2 z
      refine q_aload_n (pc := 17) rfl rfl ?_
      refine q_aload_n (pc := 18) rfl rfl ?_
      refine q_iconst (pc := 19) (v := 0) rfl (by decide) ?_
      refine q_iload_n (pc := 20) rfl rfl ?_
      refine q_iload (pc := 21) rfl rfl ?_
      refine q_callV (pc := 23) (As := [q_r 15 0, q_i 0, q_i x2, q_i x6]) (rest := []) rfl rfl rfl hi rfl rfl (Nat.le_of_ble_eq_true rfl) ?_
      refine q_den_mono _ _ _ _ _ _ ?_ (dn_X1_sumOfTry (d := d) hi k)
      rintro _ g1 ⟨r2, rfl, k⟩
      refine q_istore (pc := 26) (ls1 := [(7, q_i r2), (0, q_r 2 i), (1, q_r 15 0), (2, q_i x2), (3, q_i x3), (4, q_i x4), (5, q_i x5), (6, q_i x6)]) rfl (by decide) rfl ?_
      refine q_iload (pc := 28) rfl rfl ?_
      refine q_iload_n (pc := 30) rfl rfl ?_
      refine q_icmp_eq (pc := 31) (tgt := 41) rfl (by decide) (fun z => ?_) (fun z => ?_)
      · have k := k.1 z
        refine q_iload (pc := 41) rfl rfl ?_
        refine q_istore (pc := 43) (ls1 := [(4, q_i x6), (7, q_i r2), (0, q_r 2 i), (1, q_r 15 0), (2, q_i x2), (3, q_i x3), (5, q_i x5), (6, q_i x6)]) rfl (by decide) rfl ?_
        refine q_iload (pc := 45) rfl rfl ?_
        refine q_istore (pc := 47) (ls1 := [(5, q_i r2), (4, q_i x6), (7, q_i r2), (0, q_r 2 i), (1, q_r 15 0), (2, q_i x2), (3, q_i x3), (6, q_i x6)]) rfl (by decide) rfl ?_
        refine q_iinc (pc := 49) (v := (x6 + 1)) (ls1 := [(6, q_i (x6 + 1)), (5, q_i r2), (4, q_i x6), (7, q_i r2), (0, q_r 2 i), (1, q_r 15 0), (2, q_i x2), (3, q_i x3)]) rfl (by decide) rfl (congrArg (fun z => x6 + z) (by decide : Int32.ofInt 1 = 1)) rfl ?_
        refine q_goto (pc := 52) (tgt := 11) rfl (by decide) ?_
        refine q_sub (pc := 11) (ks := [4, 5, 6, 7, 2, 1, 0]) rfl ?_
        exact ih _ _ _ _ k
      · have k := k.2 z
        refine q_iload (pc := 34) rfl rfl ?_
        refine q_iload (pc := 36) rfl rfl ?_
        refine q_icmp_ge (pc := 38) (tgt := 49) rfl (by decide) (fun z => ?_) (fun z => ?_)
        · have k := k.1 z
          refine q_iinc (pc := 49) (v := (x6 + 1)) (ls1 := [(6, q_i (x6 + 1)), (7, q_i r2), (0, q_r 2 i), (1, q_r 15 0), (2, q_i x2), (3, q_i x3), (4, q_i x4), (5, q_i x5)]) rfl (by decide) rfl (congrArg (fun z => x6 + z) (by decide : Int32.ofInt 1 = 1)) rfl ?_
          refine q_goto (pc := 52) (tgt := 11) rfl (by decide) ?_
          refine q_sub (pc := 11) (ks := [2, 3, 4, 5, 6, 7, 0]) rfl ?_
          exact ih _ _ _ _ k
        · have k := k.2 z
          refine q_iload (pc := 41) rfl rfl ?_
          refine q_istore (pc := 43) (ls1 := [(4, q_i x6), (7, q_i r2), (0, q_r 2 i), (1, q_r 15 0), (2, q_i x2), (3, q_i x3), (5, q_i x5), (6, q_i x6)]) rfl (by decide) rfl ?_
          refine q_iload (pc := 45) rfl rfl ?_
          refine q_istore (pc := 47) (ls1 := [(5, q_i r2), (4, q_i x6), (7, q_i r2), (0, q_r 2 i), (1, q_r 15 0), (2, q_i x2), (3, q_i x3), (6, q_i x6)]) rfl (by decide) rfl ?_
          refine q_iinc (pc := 49) (v := (x6 + 1)) (ls1 := [(6, q_i (x6 + 1)), (5, q_i r2), (4, q_i x6), (7, q_i r2), (0, q_r 2 i), (1, q_r 15 0), (2, q_i x2), (3, q_i x3)]) rfl (by decide) rfl (congrArg (fun z => x6 + z) (by decide : Int32.ofInt 1 = 1)) rfl ?_
          refine q_goto (pc := 52) (tgt := 11) rfl (by decide) ?_
          refine q_sub (pc := 11) (ks := [4, 5, 6, 7, 2, 1, 0]) rfl ?_
          exact ih _ _ _ _ k
set_option maxHeartbeats 4000000 in
set_option maxRecDepth 100000 in
theorem dn_X1_bestLaterOff {d : Nat} {i : Nat} {a2 : Int32} {a3 : Int32} (hi : i < 6) {h : q_H} {Q : Int32 → q_H → Prop} (k : wp_X1_bestLaterOff i a2 a3 h Q) : q_den (d + 5) 26 [q_r 2 i, q_r 15 0, q_i a2, q_i a3] h (q_ri Q) := by
  unfold wp_X1_bestLaterOff at k
  refine ⟨by decide, Nat.le_of_ble_eq_true rfl, ?_⟩
  show q_run (q_pcs q_t_X1_bestLaterOff) 1 8 none (q_den (d + 4)) 1 (q_ri Q) 0 [(0, q_r 2 i), (1, q_r 15 0), (2, q_i a2), (3, q_i a3)] [] h
  refine q_iload_n (pc := 0) rfl rfl ?_
  refine q_istore (pc := 1) (ls1 := [(4, q_i a2), (0, q_r 2 i), (1, q_r 15 0), (2, q_i a2), (3, q_i a3)]) rfl (by decide) rfl ?_
  refine q_iconst (pc := 3) (v := 0) rfl (by decide) ?_
  refine q_istore (pc := 4) (ls1 := [(5, q_i 0), (4, q_i a2), (0, q_r 2 i), (1, q_r 15 0), (2, q_i a2), (3, q_i a3)]) rfl (by decide) rfl ?_
  refine q_iload_n (pc := 6) rfl rfl ?_
  refine q_iconst (pc := 7) (v := 1) rfl (by decide) ?_
  refine q_iadd (pc := 8) rfl ?_
  refine q_istore (pc := 9) (ls1 := [(6, q_i (a2 + 1)), (5, q_i 0), (4, q_i a2), (0, q_r 2 i), (1, q_r 15 0), (2, q_i a2), (3, q_i a3)]) rfl (by decide) rfl ?_
  obtain ⟨n3, k⟩ := k
  refine q_sub (pc := 11) (ks := [3, 4, 5, 6, 2, 1, 0]) rfl ?_
  refine dl_X1_bestLaterOff_11 hi (fun y4_3 y5_3 y6_3 g3 k => ?_) n3 _ _ _ _ k
  refine q_iload (pc := 55) rfl rfl ?_
  exact q_iret (pc := 57) rfl rfl ⟨_, rfl, k⟩
set_option maxHeartbeats 4000000 in
set_option maxRecDepth 100000 in
theorem dl_X1_takeBestThresholds_45 {d : Nat} {i : Nat} {x2 : Int32} {x7 : Int32} {x8 : Int32} (hi : i < 6) {E : Int32 → Int32 → Int32 → Int32 → Int32 → q_H → Prop} {Q : q_H → Prop} (hE : ∀ (x3 : Int32) (x4 : Int32) (x5 : Int32) (x6 : Int32) (x9 : Int32) (h : q_H), E x3 x4 x5 x6 x9 h → q_run (q_pcs q_t_X1_takeBestThresholds) 1 13 none (q_den (d + 5)) 0 (q_rv Q) 140 [(0, q_r 2 i), (1, q_r 15 0), (2, q_i x2), (3, q_i x3), (4, q_i x4), (5, q_i x5), (6, q_i x6), (7, q_i x7), (8, q_i x8), (9, q_i x9)] [] h) : ∀ (n : Nat) (x3 : Int32) (x4 : Int32) (x5 : Int32) (x6 : Int32) (x9 : Int32) (h : q_H), lp_X1_takeBestThresholds_45 i x2 x7 x8 E n x3 x4 x5 x6 x9 h → q_run (q_pcs q_t_X1_takeBestThresholds) 1 13 none (q_den (d + 5)) 0 (q_rv Q) 45 [(0, q_r 2 i), (1, q_r 15 0), (2, q_i x2), (3, q_i x3), (4, q_i x4), (5, q_i x5), (6, q_i x6), (7, q_i x7), (8, q_i x8), (9, q_i x9)] [] h := by
  intro n
  induction n with
  | zero => intro x3 x4 x5 x6 x9 h k; exact k.elim
  | succ n ih =>
    intro x3 x4 x5 x6 x9 h k
    unfold lp_X1_takeBestThresholds_45 at k
    refine q_iload (pc := 45) rfl rfl ?_
    refine q_iload (pc := 47) rfl rfl ?_
    refine q_icmp_gt (pc := 49) (tgt := 140) rfl (by decide) (fun z => ?_) (fun z => ?_)
    · have k := k.1 z
      refine q_sub (pc := 140) (ks := [0, 1, 2, 3, 4, 5, 6, 7, 8, 9]) rfl ?_
      exact hE _ _ _ _ _ _ k
    · have k := k.2 z
      refine q_aload_n (pc := 52) rfl rfl ?_
      refine q_aload_n (pc := 53) rfl rfl ?_
      refine q_iload (pc := 54) rfl rfl ?_
      refine q_iload (pc := 56) rfl rfl ?_
      refine q_iload (pc := 58) rfl rfl ?_
      refine q_callV (pc := 60) (As := [q_r 15 0, q_i x9, q_i x7, q_i x7]) (rest := []) rfl rfl rfl hi rfl rfl (Nat.le_of_ble_eq_true rfl) ?_
      refine q_den_mono _ _ _ _ _ _ ?_ (dn_X1_sumOfTry (d := d + 1) hi k)
      rintro _ g7 ⟨r8, rfl, k⟩
      refine q_istore (pc := 63) (ls1 := [(10, q_i r8), (0, q_r 2 i), (1, q_r 15 0), (2, q_i x2), (3, q_i x3), (4, q_i x4), (5, q_i x5), (6, q_i x6), (7, q_i x7), (8, q_i x8), (9, q_i x9)]) rfl (by decide) rfl ?_
      refine q_aload_n (pc := 65) rfl rfl ?_
      refine q_aload_n (pc := 66) rfl rfl ?_
      refine q_iload (pc := 67) rfl rfl ?_
      refine q_iload (pc := 69) rfl rfl ?_
      refine q_iload (pc := 71) rfl rfl ?_
      refine q_callV (pc := 73) (As := [q_r 15 0, q_i x9, q_i x7, q_i x8]) (rest := []) rfl rfl rfl hi rfl rfl (Nat.le_of_ble_eq_true rfl) ?_
      refine q_den_mono _ _ _ _ _ _ ?_ (dn_X1_sumOfTry (d := d + 1) hi k)
      rintro _ g9 ⟨r10, rfl, k⟩
      refine q_istore (pc := 76) (ls1 := [(11, q_i r10), (10, q_i r8), (0, q_r 2 i), (1, q_r 15 0), (2, q_i x2), (3, q_i x3), (4, q_i x4), (5, q_i x5), (6, q_i x6), (7, q_i x7), (8, q_i x8), (9, q_i x9)]) rfl (by decide) rfl ?_
      refine q_iload (pc := 78) rfl rfl ?_
      refine q_iload (pc := 80) rfl rfl ?_
      refine q_mmin (pc := 82) rfl rfl (Nat.le_of_ble_eq_true rfl) ?_
      refine q_istore (pc := 85) (ls1 := [(12, q_i (if r10 < r8 then r10 else r8)), (11, q_i r10), (10, q_i r8), (0, q_r 2 i), (1, q_r 15 0), (2, q_i x2), (3, q_i x3), (4, q_i x4), (5, q_i x5), (6, q_i x6), (7, q_i x7), (8, q_i x8), (9, q_i x9)]) rfl (by decide) rfl ?_
      refine q_iload (pc := 87) rfl rfl ?_
      refine q_iload (pc := 89) rfl rfl ?_
      refine q_icmp_lt (pc := 91) (tgt := 107) rfl (by decide) (fun z => ?_) (fun z => ?_)
      · have k := k.1 z
        refine q_iload (pc := 107) rfl rfl ?_
        refine q_istore (pc := 109) (ls1 := [(6, q_i (if r10 < r8 then r10 else r8)), (12, q_i (if r10 < r8 then r10 else r8)), (11, q_i r10), (10, q_i r8), (0, q_r 2 i), (1, q_r 15 0), (2, q_i x2), (3, q_i x3), (4, q_i x4), (5, q_i x5), (7, q_i x7), (8, q_i x8), (9, q_i x9)]) rfl (by decide) rfl ?_
        refine q_iload (pc := 111) rfl rfl ?_
        refine q_istore_n (pc := 113) (ls1 := [(3, q_i x9), (6, q_i (if r10 < r8 then r10 else r8)), (12, q_i (if r10 < r8 then r10 else r8)), (11, q_i r10), (10, q_i r8), (0, q_r 2 i), (1, q_r 15 0), (2, q_i x2), (4, q_i x4), (5, q_i x5), (7, q_i x7), (8, q_i x8), (9, q_i x9)]) rfl (by decide) rfl ?_
        refine q_iload (pc := 114) rfl rfl ?_
        refine q_istore (pc := 116) (ls1 := [(4, q_i x7), (3, q_i x9), (6, q_i (if r10 < r8 then r10 else r8)), (12, q_i (if r10 < r8 then r10 else r8)), (11, q_i r10), (10, q_i r8), (0, q_r 2 i), (1, q_r 15 0), (2, q_i x2), (5, q_i x5), (7, q_i x7), (8, q_i x8), (9, q_i x9)]) rfl (by decide) rfl ?_
        refine q_iload (pc := 118) rfl rfl ?_
        refine q_iload (pc := 120) rfl rfl ?_
        refine q_icmp_gt (pc := 122) (tgt := 130) rfl (by decide) (fun z => ?_) (fun z => ?_)
        · have k := k.1 z
          refine q_iload (pc := 130) rfl rfl ?_
          refine q_istore (pc := 132) (ls1 := [(5, q_i x8), (4, q_i x7), (3, q_i x9), (6, q_i (if r10 < r8 then r10 else r8)), (12, q_i (if r10 < r8 then r10 else r8)), (11, q_i r10), (10, q_i r8), (0, q_r 2 i), (1, q_r 15 0), (2, q_i x2), (7, q_i x7), (8, q_i x8), (9, q_i x9)]) rfl (by decide) rfl ?_
          refine q_iinc (pc := 134) (v := (x9 + 1)) (ls1 := [(9, q_i (x9 + 1)), (5, q_i x8), (4, q_i x7), (3, q_i x9), (6, q_i (if r10 < r8 then r10 else r8)), (12, q_i (if r10 < r8 then r10 else r8)), (11, q_i r10), (10, q_i r8), (0, q_r 2 i), (1, q_r 15 0), (2, q_i x2), (7, q_i x7), (8, q_i x8)]) rfl (by decide) rfl (congrArg (fun z => x9 + z) (by decide : Int32.ofInt 1 = 1)) rfl ?_
          refine q_goto (pc := 137) (tgt := 45) rfl (by decide) ?_
          refine q_sub (pc := 45) (ks := [8, 9, 10, 3, 2, 1, 4, 11, 12, 0]) rfl ?_
          exact ih _ _ _ _ _ _ k
        · have k := k.2 z
          refine q_iload (pc := 125) rfl rfl ?_
          refine q_goto (pc := 127) (tgt := 132) rfl (by decide) ?_
          refine q_istore (pc := 132) (ls1 := [(5, q_i x7), (4, q_i x7), (3, q_i x9), (6, q_i (if r10 < r8 then r10 else r8)), (12, q_i (if r10 < r8 then r10 else r8)), (11, q_i r10), (10, q_i r8), (0, q_r 2 i), (1, q_r 15 0), (2, q_i x2), (7, q_i x7), (8, q_i x8), (9, q_i x9)]) rfl (by decide) rfl ?_
          refine q_iinc (pc := 134) (v := (x9 + 1)) (ls1 := [(9, q_i (x9 + 1)), (5, q_i x7), (4, q_i x7), (3, q_i x9), (6, q_i (if r10 < r8 then r10 else r8)), (12, q_i (if r10 < r8 then r10 else r8)), (11, q_i r10), (10, q_i r8), (0, q_r 2 i), (1, q_r 15 0), (2, q_i x2), (7, q_i x7), (8, q_i x8)]) rfl (by decide) rfl (congrArg (fun z => x9 + z) (by decide : Int32.ofInt 1 = 1)) rfl ?_
          refine q_goto (pc := 137) (tgt := 45) rfl (by decide) ?_
          refine q_sub (pc := 45) (ks := [8, 9, 10, 3, 2, 1, 4, 11, 12, 0]) rfl ?_
          exact ih _ _ _ _ _ _ k
      · have k := k.2 z
        refine q_iload (pc := 94) rfl rfl ?_
        refine q_iload (pc := 96) rfl rfl ?_
        refine q_icmp_ne (pc := 98) (tgt := 134) rfl (by decide) (fun z => ?_) (fun z => ?_)
        · have k := k.2 z
          refine q_iinc (pc := 134) (v := (x9 + 1)) (ls1 := [(9, q_i (x9 + 1)), (12, q_i (if r10 < r8 then r10 else r8)), (11, q_i r10), (10, q_i r8), (0, q_r 2 i), (1, q_r 15 0), (2, q_i x2), (3, q_i x3), (4, q_i x4), (5, q_i x5), (6, q_i x6), (7, q_i x7), (8, q_i x8)]) rfl (by decide) rfl (congrArg (fun z => x9 + z) (by decide : Int32.ofInt 1 = 1)) rfl ?_
          refine q_goto (pc := 137) (tgt := 45) rfl (by decide) ?_
          refine q_sub (pc := 45) (ks := [4, 5, 6, 7, 8, 9, 10, 11, 12, 0]) rfl ?_
          exact ih _ _ _ _ _ _ k
        · have k := k.1 z
          refine q_iload (pc := 101) rfl rfl ?_
          refine q_iload_n (pc := 103) rfl rfl ?_
          refine q_icmp_ge (pc := 104) (tgt := 134) rfl (by decide) (fun z => ?_) (fun z => ?_)
          · have k := k.1 z
            refine q_iinc (pc := 134) (v := (x9 + 1)) (ls1 := [(9, q_i (x9 + 1)), (12, q_i (if r10 < r8 then r10 else r8)), (11, q_i r10), (10, q_i r8), (0, q_r 2 i), (1, q_r 15 0), (2, q_i x2), (3, q_i x3), (4, q_i x4), (5, q_i x5), (6, q_i x6), (7, q_i x7), (8, q_i x8)]) rfl (by decide) rfl (congrArg (fun z => x9 + z) (by decide : Int32.ofInt 1 = 1)) rfl ?_
            refine q_goto (pc := 137) (tgt := 45) rfl (by decide) ?_
            refine q_sub (pc := 45) (ks := [4, 5, 6, 7, 8, 9, 10, 11, 12, 0]) rfl ?_
            exact ih _ _ _ _ _ _ k
          · have k := k.2 z
            refine q_iload (pc := 107) rfl rfl ?_
            refine q_istore (pc := 109) (ls1 := [(6, q_i (if r10 < r8 then r10 else r8)), (12, q_i (if r10 < r8 then r10 else r8)), (11, q_i r10), (10, q_i r8), (0, q_r 2 i), (1, q_r 15 0), (2, q_i x2), (3, q_i x3), (4, q_i x4), (5, q_i x5), (7, q_i x7), (8, q_i x8), (9, q_i x9)]) rfl (by decide) rfl ?_
            refine q_iload (pc := 111) rfl rfl ?_
            refine q_istore_n (pc := 113) (ls1 := [(3, q_i x9), (6, q_i (if r10 < r8 then r10 else r8)), (12, q_i (if r10 < r8 then r10 else r8)), (11, q_i r10), (10, q_i r8), (0, q_r 2 i), (1, q_r 15 0), (2, q_i x2), (4, q_i x4), (5, q_i x5), (7, q_i x7), (8, q_i x8), (9, q_i x9)]) rfl (by decide) rfl ?_
            refine q_iload (pc := 114) rfl rfl ?_
            refine q_istore (pc := 116) (ls1 := [(4, q_i x7), (3, q_i x9), (6, q_i (if r10 < r8 then r10 else r8)), (12, q_i (if r10 < r8 then r10 else r8)), (11, q_i r10), (10, q_i r8), (0, q_r 2 i), (1, q_r 15 0), (2, q_i x2), (5, q_i x5), (7, q_i x7), (8, q_i x8), (9, q_i x9)]) rfl (by decide) rfl ?_
            refine q_iload (pc := 118) rfl rfl ?_
            refine q_iload (pc := 120) rfl rfl ?_
            refine q_icmp_gt (pc := 122) (tgt := 130) rfl (by decide) (fun z => ?_) (fun z => ?_)
            · have k := k.1 z
              refine q_iload (pc := 130) rfl rfl ?_
              refine q_istore (pc := 132) (ls1 := [(5, q_i x8), (4, q_i x7), (3, q_i x9), (6, q_i (if r10 < r8 then r10 else r8)), (12, q_i (if r10 < r8 then r10 else r8)), (11, q_i r10), (10, q_i r8), (0, q_r 2 i), (1, q_r 15 0), (2, q_i x2), (7, q_i x7), (8, q_i x8), (9, q_i x9)]) rfl (by decide) rfl ?_
              refine q_iinc (pc := 134) (v := (x9 + 1)) (ls1 := [(9, q_i (x9 + 1)), (5, q_i x8), (4, q_i x7), (3, q_i x9), (6, q_i (if r10 < r8 then r10 else r8)), (12, q_i (if r10 < r8 then r10 else r8)), (11, q_i r10), (10, q_i r8), (0, q_r 2 i), (1, q_r 15 0), (2, q_i x2), (7, q_i x7), (8, q_i x8)]) rfl (by decide) rfl (congrArg (fun z => x9 + z) (by decide : Int32.ofInt 1 = 1)) rfl ?_
              refine q_goto (pc := 137) (tgt := 45) rfl (by decide) ?_
              refine q_sub (pc := 45) (ks := [8, 9, 10, 3, 2, 1, 4, 11, 12, 0]) rfl ?_
              exact ih _ _ _ _ _ _ k
            · have k := k.2 z
              refine q_iload (pc := 125) rfl rfl ?_
              refine q_goto (pc := 127) (tgt := 132) rfl (by decide) ?_
              refine q_istore (pc := 132) (ls1 := [(5, q_i x7), (4, q_i x7), (3, q_i x9), (6, q_i (if r10 < r8 then r10 else r8)), (12, q_i (if r10 < r8 then r10 else r8)), (11, q_i r10), (10, q_i r8), (0, q_r 2 i), (1, q_r 15 0), (2, q_i x2), (7, q_i x7), (8, q_i x8), (9, q_i x9)]) rfl (by decide) rfl ?_
              refine q_iinc (pc := 134) (v := (x9 + 1)) (ls1 := [(9, q_i (x9 + 1)), (5, q_i x7), (4, q_i x7), (3, q_i x9), (6, q_i (if r10 < r8 then r10 else r8)), (12, q_i (if r10 < r8 then r10 else r8)), (11, q_i r10), (10, q_i r8), (0, q_r 2 i), (1, q_r 15 0), (2, q_i x2), (7, q_i x7), (8, q_i x8)]) rfl (by decide) rfl (congrArg (fun z => x9 + z) (by decide : Int32.ofInt 1 = 1)) rfl ?_
              refine q_goto (pc := 137) (tgt := 45) rfl (by decide) ?_
              refine q_sub (pc := 45) (ks := [8, 9, 10, 3, 2, 1, 4, 11, 12, 0]) rfl ?_
              exact ih _ _ _ _ _ _ k
set_option maxHeartbeats 4000000 in
set_option maxRecDepth 100000 in
theorem dl_X1_takeBestThresholds_26 {d : Nat} {i : Nat} {x2 : Int32} (hi : i < 6) {E : Int32 → Int32 → Int32 → Int32 → Int32 → q_H → Prop} {Q : q_H → Prop} (hE : ∀ (x3 : Int32) (x4 : Int32) (x5 : Int32) (x6 : Int32) (x7 : Int32) (h : q_H), E x3 x4 x5 x6 x7 h → q_run (q_pcs q_t_X1_takeBestThresholds) 1 13 none (q_den (d + 5)) 0 (q_rv Q) 146 [(0, q_r 2 i), (1, q_r 15 0), (2, q_i x2), (3, q_i x3), (4, q_i x4), (5, q_i x5), (6, q_i x6), (7, q_i x7)] [] h) : ∀ (n : Nat) (x3 : Int32) (x4 : Int32) (x5 : Int32) (x6 : Int32) (x7 : Int32) (h : q_H), lp_X1_takeBestThresholds_26 i x2 E n x3 x4 x5 x6 x7 h → q_run (q_pcs q_t_X1_takeBestThresholds) 1 13 none (q_den (d + 5)) 0 (q_rv Q) 26 [(0, q_r 2 i), (1, q_r 15 0), (2, q_i x2), (3, q_i x3), (4, q_i x4), (5, q_i x5), (6, q_i x6), (7, q_i x7)] [] h := by
  intro n
  induction n with
  | zero => intro x3 x4 x5 x6 x7 h k; exact k.elim
  | succ n ih =>
    intro x3 x4 x5 x6 x7 h k
    unfold lp_X1_takeBestThresholds_26 at k
    refine q_iload (pc := 26) rfl rfl ?_
    refine q_iload_n (pc := 28) rfl rfl ?_
    refine q_icmp_gt (pc := 29) (tgt := 146) rfl (by decide) (fun z => ?_) (fun z => ?_)
    · have k := k.1 z
      refine q_sub (pc := 146) (ks := [0, 1, 2, 3, 4, 5, 6, 7]) rfl ?_
      exact hE _ _ _ _ _ _ k
    · have k := k.2 z
      refine q_aload_n (pc := 32) rfl rfl ?_
      refine q_aload_n (pc := 33) rfl rfl ?_
      refine q_iload (pc := 34) rfl rfl ?_
      refine q_iload_n (pc := 36) rfl rfl ?_
      refine q_callV (pc := 37) (As := [q_r 15 0, q_i x7, q_i x2]) (rest := []) rfl rfl rfl hi rfl rfl (Nat.le_of_ble_eq_true rfl) ?_
      refine q_den_mono _ _ _ _ _ _ ?_ (dn_X1_bestLaterOff (d := d) hi k)
      rintro _ g5 ⟨r6, rfl, k⟩
      refine q_istore (pc := 40) (ls1 := [(8, q_i r6), (0, q_r 2 i), (1, q_r 15 0), (2, q_i x2), (3, q_i x3), (4, q_i x4), (5, q_i x5), (6, q_i x6), (7, q_i x7)]) rfl (by decide) rfl ?_
      refine q_iconst (pc := 42) (v := 0) rfl (by decide) ?_
      refine q_istore (pc := 43) (ls1 := [(9, q_i 0), (8, q_i r6), (0, q_r 2 i), (1, q_r 15 0), (2, q_i x2), (3, q_i x3), (4, q_i x4), (5, q_i x5), (6, q_i x6), (7, q_i x7)]) rfl (by decide) rfl ?_
      obtain ⟨n11, k⟩ := k
      refine q_sub (pc := 45) (ks := [2, 3, 4, 5, 6, 7, 8, 9, 1, 0]) rfl ?_
      refine dl_X1_takeBestThresholds_45 hi (fun y3_11 y4_11 y5_11 y6_11 y9_11 g11 k => ?_) n11 _ _ _ _ _ _ k
      refine q_iinc (pc := 140) (v := (x7 + 1)) (ls1 := [(7, q_i (x7 + 1)), (0, q_r 2 i), (1, q_r 15 0), (2, q_i x2), (3, q_i y3_11), (4, q_i y4_11), (5, q_i y5_11), (6, q_i y6_11), (8, q_i r6), (9, q_i y9_11)]) rfl (by decide) rfl (congrArg (fun z => x7 + z) (by decide : Int32.ofInt 1 = 1)) rfl ?_
      refine q_goto (pc := 143) (tgt := 26) rfl (by decide) ?_
      refine q_sub (pc := 26) (ks := [1, 2, 3, 4, 5, 6, 7, 0]) rfl ?_
      exact ih _ _ _ _ _ _ k
set_option maxHeartbeats 4000000 in
set_option maxRecDepth 100000 in
theorem dn_X1_takeBestThresholds {d : Nat} {i : Nat} (hi : i < 6) {h : q_H} {Q : q_H → Prop} (k : wp_X1_takeBestThresholds i h Q) : q_den (d + 6) 25 [q_r 2 i, q_r 15 0] h (q_rv Q) := by
  unfold wp_X1_takeBestThresholds at k
  refine ⟨by decide, Nat.le_of_ble_eq_true rfl, ?_⟩
  show q_run (q_pcs q_t_X1_takeBestThresholds) 1 13 none (q_den (d + 5)) 0 (q_rv Q) 0 [(0, q_r 2 i), (1, q_r 15 0)] [] h
  refine q_aload_n (pc := 0) rfl rfl ?_
  refine q_callV (pc := 1) (As := []) (rest := []) rfl rfl rfl (by decide) rfl rfl (Nat.le_of_ble_eq_true rfl) ?_
  refine q_den_mono _ _ _ _ _ _ ?_ (dn_X2_longest (d := d + 4)  k)
  rintro _ g1 ⟨r2, rfl, k⟩
  refine q_istore_n (pc := 4) (ls1 := [(2, q_i r2), (0, q_r 2 i), (1, q_r 15 0)]) rfl (by decide) rfl ?_
  refine q_iconst (pc := 5) (v := 0) rfl (by decide) ?_
  refine q_istore_n (pc := 6) (ls1 := [(3, q_i 0), (2, q_i r2), (0, q_r 2 i), (1, q_r 15 0)]) rfl (by decide) rfl ?_
  refine q_iconst (pc := 7) (v := 0) rfl (by decide) ?_
  refine q_istore (pc := 8) (ls1 := [(4, q_i 0), (3, q_i 0), (2, q_i r2), (0, q_r 2 i), (1, q_r 15 0)]) rfl (by decide) rfl ?_
  refine q_iconst (pc := 10) (v := 0) rfl (by decide) ?_
  refine q_istore (pc := 11) (ls1 := [(5, q_i 0), (4, q_i 0), (3, q_i 0), (2, q_i r2), (0, q_r 2 i), (1, q_r 15 0)]) rfl (by decide) rfl ?_
  refine q_aload_n (pc := 13) rfl rfl ?_
  refine q_aload_n (pc := 14) rfl rfl ?_
  refine q_iconst (pc := 15) (v := 0) rfl (by decide) ?_
  refine q_iconst (pc := 16) (v := 0) rfl (by decide) ?_
  refine q_iconst (pc := 17) (v := 0) rfl (by decide) ?_
  refine q_callV (pc := 18) (As := [q_r 15 0, q_i 0, q_i 0, q_i 0]) (rest := []) rfl rfl rfl hi rfl rfl (Nat.le_of_ble_eq_true rfl) ?_
  refine q_den_mono _ _ _ _ _ _ ?_ (dn_X1_sumOfTry (d := d + 1) hi k)
  rintro _ g3 ⟨r4, rfl, k⟩
  refine q_istore (pc := 21) (ls1 := [(6, q_i r4), (5, q_i 0), (4, q_i 0), (3, q_i 0), (2, q_i r2), (0, q_r 2 i), (1, q_r 15 0)]) rfl (by decide) rfl ?_
  refine q_iconst (pc := 23) (v := 0) rfl (by decide) ?_
  refine q_istore (pc := 24) (ls1 := [(7, q_i 0), (6, q_i r4), (5, q_i 0), (4, q_i 0), (3, q_i 0), (2, q_i r2), (0, q_r 2 i), (1, q_r 15 0)]) rfl (by decide) rfl ?_
  obtain ⟨n12, k⟩ := k
  refine q_sub (pc := 26) (ks := [6, 7, 5, 4, 3, 2, 1, 0]) rfl ?_
  refine dl_X1_takeBestThresholds_26 hi (fun y3_12 y4_12 y5_12 y6_12 y7_12 g12 k => ?_) n12 _ _ _ _ _ _ k
  refine q_aload_n (pc := 146) rfl rfl ?_
  refine q_iload_n (pc := 147) rfl rfl ?_
  refine q_iload (pc := 148) rfl rfl ?_
  refine q_iload (pc := 150) rfl rfl ?_
  refine q_callV (pc := 152) (As := [q_i y3_12, q_i y4_12, q_i y5_12]) (rest := []) rfl rfl rfl hi rfl rfl (Nat.le_of_ble_eq_true rfl) ?_
  refine q_den_mono _ _ _ _ _ _ ?_ (dn_X1_setThresholds (d := d + 4) hi k)
  rintro _ g13 ⟨rfl, k⟩
  exact q_vret (pc := 155) rfl rfl ⟨rfl, k⟩
set_option maxHeartbeats 4000000 in
set_option maxRecDepth 100000 in
theorem dn_X4_hasTick {d : Nat} {a0 : Int64} {a2 : Int32} {h : q_H} {Q : Int32 → q_H → Prop} (k : wp_X4_hasTick a0 a2 h Q) : q_den (d + 1) 71 [q_l a0, q_i a2] h (q_ri Q) := by
  unfold wp_X4_hasTick at k
  refine ⟨by decide, Nat.le_of_ble_eq_true rfl, ?_⟩
  show q_run (q_pcs q_t_X4_hasTick) 4 3 none (q_den d) 3 (q_ri Q) 0 [(0, q_l a0), (2, q_i a2)] [] h
  refine q_lload_n (pc := 0) rfl rfl ?_
  refine q_iload_n (pc := 1) rfl rfl ?_
  refine q_lushr (pc := 2) rfl ?_
  refine q_lconst (pc := 3) (v := 1) rfl (by decide) ?_
  refine q_land (pc := 4) rfl ?_
  refine q_lconst (pc := 5) (v := 0) rfl (by decide) ?_
  refine q_lcmp (pc := 6) rfl ?_
  refine q_if_eq (pc := 7) (tgt := 14) rfl (by decide) (fun z => ?_) (fun z => ?_)
  · have k := k.1 z
    refine q_iconst (pc := 14) (v := 0) rfl (by decide) ?_
    exact q_zret (pc := 15) rfl rfl (by decide) ⟨_, rfl, k⟩
  · have k := k.2 z
    refine q_iconst (pc := 10) (v := 1) rfl (by decide) ?_
    refine q_goto (pc := 11) (tgt := 15) rfl (by decide) ?_
    exact q_zret (pc := 15) rfl rfl (by decide) ⟨_, rfl, k⟩
set_option maxHeartbeats 4000000 in
set_option maxRecDepth 100000 in
theorem dl_X2_layOut_10 {d : Nat} {x1 : Int64} {E : Int32 → Int32 → q_H → Prop} {Q : q_H → Prop} (hE : ∀ (x3 : Int32) (x4 : Int32) (h : q_H), E x3 x4 h → q_run (q_pcs q_t_X2_layOut) 2 5 none (q_den (d + 1)) 0 (q_rv Q) 82 [(0, q_r 15 0), (1, q_l x1), (3, q_i x3), (4, q_i x4)] [] h) : ∀ (n : Nat) (x3 : Int32) (x4 : Int32) (h : q_H), lp_X2_layOut_10 x1 E n x3 x4 h → q_run (q_pcs q_t_X2_layOut) 2 5 none (q_den (d + 1)) 0 (q_rv Q) 10 [(0, q_r 15 0), (1, q_l x1), (3, q_i x3), (4, q_i x4)] [] h := by
  intro n
  induction n with
  | zero => intro x3 x4 h k; exact k.elim
  | succ n ih =>
    intro x3 x4 h k
    unfold lp_X2_layOut_10 at k
    refine q_iload (pc := 10) rfl rfl ?_
    refine q_bipush (pc := 12) (v := 64) rfl (by decide) ?_
    refine q_icmp_ge (pc := 14) (tgt := 82) rfl (by decide) (fun z => ?_) (fun z => ?_)
    · have k := k.1 z
      refine q_sub (pc := 82) (ks := [0, 1, 2, 3]) rfl ?_
      exact hE _ _ _ k
    · have k := k.2 z
      refine q_lload_n (pc := 17) rfl rfl ?_
      refine q_iload (pc := 18) rfl rfl ?_
      refine q_callS (kd := 1) (pc := 20) (As := [q_l x1, q_i x4]) (rest := []) rfl rfl rfl  rfl (Nat.le_of_ble_eq_true rfl) ?_
      refine q_den_mono _ _ _ _ _ _ ?_ (dn_X4_hasTick (d := d)  k)
      rintro _ g1 ⟨r2, rfl, k⟩
      refine q_if_eq (pc := 23) (tgt := 30) rfl (by decide) (fun z => ?_) (fun z => ?_)
      · have k := k.1 z
        refine q_iload_n (pc := 30) rfl rfl ?_
        refine q_iconst (pc := 31) (v := 1) rfl (by decide) ?_
        refine q_iadd (pc := 32) rfl ?_
        refine q_istore_n (pc := 33) (ls1 := [(3, q_i (x3 + 1)), (0, q_r 15 0), (1, q_l x1), (4, q_i x4)]) rfl (by decide) rfl ?_
        refine q_iload_n (pc := 34) rfl rfl ?_
        refine q_iconst (pc := 35) (v := 1) rfl (by decide) ?_
        refine q_icmp_ne (pc := 36) (tgt := 60) rfl (by decide) (fun z => ?_) (fun z => ?_)
        · have k := k.2 z
          refine q_iload_n (pc := 60) rfl rfl ?_
          refine q_if_le (pc := 61) (tgt := 76) rfl (by decide) (fun z => ?_) (fun z => ?_)
          · have k := k.1 z
            refine q_iinc (pc := 76) (v := (x4 + 1)) (ls1 := [(4, q_i (x4 + 1)), (3, q_i (x3 + 1)), (0, q_r 15 0), (1, q_l x1)]) rfl (by decide) rfl (congrArg (fun z => x4 + z) (by decide : Int32.ofInt 1 = 1)) rfl ?_
            refine q_goto (pc := 79) (tgt := 10) rfl (by decide) ?_
            refine q_sub (pc := 10) (ks := [2, 3, 1, 0]) rfl ?_
            exact ih _ _ _ k
          · have k := k.2 z
            refine q_aload_n (pc := 64) rfl rfl ?_
            refine q_getR (pc := 65) rfl (by decide) rfl rfl rfl ?_
            refine q_aload_n (pc := 68) rfl rfl ?_
            refine q_getI (pc := 69) rfl (by decide) rfl rfl rfl ?_
            refine q_iconst (pc := 72) (v := 1) rfl (by decide) ?_
            refine q_isub (pc := 73) rfl ?_
            refine q_iload_n (pc := 74) rfl rfl ?_
            obtain ⟨b3, k⟩ := k
            refine q_iastore (pc := 75) rfl (by decide) rfl rfl b3 ?_
            refine q_iinc (pc := 76) (v := (x4 + 1)) (ls1 := [(4, q_i (x4 + 1)), (3, q_i (x3 + 1)), (0, q_r 15 0), (1, q_l x1)]) rfl (by decide) rfl (congrArg (fun z => x4 + z) (by decide : Int32.ofInt 1 = 1)) rfl ?_
            refine q_goto (pc := 79) (tgt := 10) rfl (by decide) ?_
            refine q_sub (pc := 10) (ks := [2, 3, 1, 0]) rfl ?_
            exact ih _ _ _ k
        · have k := k.1 z
          refine q_aload_n (pc := 39) rfl rfl ?_
          refine q_getR (pc := 40) rfl (by decide) rfl rfl rfl ?_
          refine q_aload_n (pc := 43) rfl rfl ?_
          refine q_getI (pc := 44) rfl (by decide) rfl rfl rfl ?_
          refine q_iload (pc := 47) rfl rfl ?_
          obtain ⟨b4, k⟩ := k
          refine q_iastore (pc := 49) rfl (by decide) rfl rfl b4 ?_
          refine q_aload_n (pc := 50) rfl rfl ?_
          refine q_dup (pc := 51) rfl rfl ?_
          refine q_getI (pc := 52) rfl (by decide) rfl rfl rfl ?_
          refine q_iconst (pc := 55) (v := 1) rfl (by decide) ?_
          refine q_iadd (pc := 56) rfl ?_
          refine q_putI (pc := 57) rfl (by decide) rfl rfl rfl ?_
          refine q_iload_n (pc := 60) rfl rfl ?_
          refine q_if_le (pc := 61) (tgt := 76) rfl (by decide) (fun z => ?_) (fun z => ?_)
          · have k := k.1 z
            refine q_iinc (pc := 76) (v := (x4 + 1)) (ls1 := [(4, q_i (x4 + 1)), (3, q_i (x3 + 1)), (0, q_r 15 0), (1, q_l x1)]) rfl (by decide) rfl (congrArg (fun z => x4 + z) (by decide : Int32.ofInt 1 = 1)) rfl ?_
            refine q_goto (pc := 79) (tgt := 10) rfl (by decide) ?_
            refine q_sub (pc := 10) (ks := [2, 3, 1, 0]) rfl ?_
            exact ih _ _ _ k
          · have k := k.2 z
            refine q_aload_n (pc := 64) rfl rfl ?_
            refine q_getR (pc := 65) rfl (by decide) rfl rfl rfl ?_
            refine q_aload_n (pc := 68) rfl rfl ?_
            refine q_getI (pc := 69) rfl (by decide) rfl rfl rfl ?_
            refine q_iconst (pc := 72) (v := 1) rfl (by decide) ?_
            refine q_isub (pc := 73) rfl ?_
            refine q_iload_n (pc := 74) rfl rfl ?_
            obtain ⟨b5, k⟩ := k
            refine q_iastore (pc := 75) rfl (by decide) rfl rfl b5 ?_
            refine q_iinc (pc := 76) (v := (x4 + 1)) (ls1 := [(4, q_i (x4 + 1)), (3, q_i (x3 + 1)), (0, q_r 15 0), (1, q_l x1)]) rfl (by decide) rfl (congrArg (fun z => x4 + z) (by decide : Int32.ofInt 1 = 1)) rfl ?_
            refine q_goto (pc := 79) (tgt := 10) rfl (by decide) ?_
            refine q_sub (pc := 10) (ks := [2, 3, 1, 0]) rfl ?_
            exact ih _ _ _ k
      · have k := k.2 z
        refine q_iconst (pc := 26) (v := 0) rfl (by decide) ?_
        refine q_goto (pc := 27) (tgt := 33) rfl (by decide) ?_
        refine q_istore_n (pc := 33) (ls1 := [(3, q_i 0), (0, q_r 15 0), (1, q_l x1), (4, q_i x4)]) rfl (by decide) rfl ?_
        refine q_iload_n (pc := 34) rfl rfl ?_
        refine q_iconst (pc := 35) (v := 1) rfl (by decide) ?_
        refine q_icmp_ne (pc := 36) (tgt := 60) rfl (by decide) (fun _ => ?_) (fun z => absurd z (by decide))
        refine q_iload_n (pc := 60) rfl rfl ?_
        refine q_if_le (pc := 61) (tgt := 76) rfl (by decide) (fun _ => ?_) (fun z => absurd z (by decide))
        refine q_iinc (pc := 76) (v := (x4 + 1)) (ls1 := [(4, q_i (x4 + 1)), (3, q_i 0), (0, q_r 15 0), (1, q_l x1)]) rfl (by decide) rfl (congrArg (fun z => x4 + z) (by decide : Int32.ofInt 1 = 1)) rfl ?_
        refine q_goto (pc := 79) (tgt := 10) rfl (by decide) ?_
        refine q_sub (pc := 10) (ks := [2, 3, 1, 0]) rfl ?_
        exact ih _ _ _ k
set_option maxHeartbeats 4000000 in
set_option maxRecDepth 100000 in
theorem dn_X2_layOut {d : Nat} {a1 : Int64} {h : q_H} {Q : q_H → Prop} (k : wp_X2_layOut a1 h Q) : q_den (d + 2) 27 [q_r 15 0, q_l a1] h (q_rv Q) := by
  unfold wp_X2_layOut at k
  refine ⟨by decide, Nat.le_of_ble_eq_true rfl, ?_⟩
  show q_run (q_pcs q_t_X2_layOut) 2 5 none (q_den (d + 1)) 0 (q_rv Q) 0 [(0, q_r 15 0), (1, q_l a1)] [] h
  refine q_aload_n (pc := 0) rfl rfl ?_
  refine q_iconst (pc := 1) (v := 0) rfl (by decide) ?_
  refine q_putI (pc := 2) rfl (by decide) rfl rfl rfl ?_
  refine q_iconst (pc := 5) (v := 0) rfl (by decide) ?_
  refine q_istore_n (pc := 6) (ls1 := [(3, q_i 0), (0, q_r 15 0), (1, q_l a1)]) rfl (by decide) rfl ?_
  refine q_iconst (pc := 7) (v := 0) rfl (by decide) ?_
  refine q_istore (pc := 8) (ls1 := [(4, q_i 0), (3, q_i 0), (0, q_r 15 0), (1, q_l a1)]) rfl (by decide) rfl ?_
  obtain ⟨n6, k⟩ := k
  refine q_sub (pc := 10) (ks := [2, 3, 1, 0]) rfl ?_
  refine dl_X2_layOut_10 (fun y3_6 y4_6 g6 k => ?_) n6 _ _ _ k
  exact q_vret (pc := 82) rfl rfl ⟨rfl, k⟩
set_option maxHeartbeats 4000000 in
set_option maxRecDepth 100000 in
theorem dn_X2_has {d : Nat} {a1 : Int32} {h : q_H} {Q : Int32 → q_H → Prop} (k : wp_X2_has a1 h Q) : q_den (d + 1) 29 [q_r 15 0, q_i a1] h (q_ri Q) := by
  unfold wp_X2_has at k
  refine ⟨by decide, Nat.le_of_ble_eq_true rfl, ?_⟩
  show q_run (q_pcs q_t_X2_has) 2 2 none (q_den d) 3 (q_ri Q) 0 [(0, q_r 15 0), (1, q_i a1)] [] h
  refine q_iload_n (pc := 0) rfl rfl ?_
  refine q_if_lt (pc := 1) (tgt := 16) rfl (by decide) (fun z => ?_) (fun z => ?_)
  · have k := k.1 z
    refine q_iconst (pc := 16) (v := 0) rfl (by decide) ?_
    exact q_zret (pc := 17) rfl rfl (by decide) ⟨_, rfl, k⟩
  · have k := k.2 z
    refine q_iload_n (pc := 4) rfl rfl ?_
    refine q_aload_n (pc := 5) rfl rfl ?_
    refine q_getI (pc := 6) rfl (by decide) rfl rfl rfl ?_
    refine q_icmp_ge (pc := 9) (tgt := 16) rfl (by decide) (fun z => ?_) (fun z => ?_)
    · have k := k.1 z
      refine q_iconst (pc := 16) (v := 0) rfl (by decide) ?_
      exact q_zret (pc := 17) rfl rfl (by decide) ⟨_, rfl, k⟩
    · have k := k.2 z
      refine q_iconst (pc := 12) (v := 1) rfl (by decide) ?_
      refine q_goto (pc := 13) (tgt := 17) rfl (by decide) ?_
      exact q_zret (pc := 17) rfl rfl (by decide) ⟨_, rfl, k⟩
set_option maxHeartbeats 4000000 in
set_option maxRecDepth 100000 in
theorem dn_X2_firstOf {d : Nat} {a1 : Int32} {h : q_H} {Q : Int32 → q_H → Prop} (k : wp_X2_firstOf a1 h Q) : q_den (d + 1) 30 [q_r 15 0, q_i a1] h (q_ri Q) := by
  unfold wp_X2_firstOf at k
  refine ⟨by decide, Nat.le_of_ble_eq_true rfl, ?_⟩
  show q_run (q_pcs q_t_X2_firstOf) 2 2 none (q_den d) 1 (q_ri Q) 0 [(0, q_r 15 0), (1, q_i a1)] [] h
  refine q_aload_n (pc := 0) rfl rfl ?_
  refine q_getR (pc := 1) rfl (by decide) rfl rfl rfl ?_
  refine q_iload_n (pc := 4) rfl rfl ?_
  obtain ⟨b1, k⟩ := k
  refine q_iaload (pc := 5) rfl (by decide) rfl rfl b1 ?_
  exact q_iret (pc := 6) rfl rfl ⟨_, rfl, k⟩
set_option maxHeartbeats 4000000 in
set_option maxRecDepth 100000 in
theorem dl_X2_find_2 {d : Nat} {x1 : Int32} {E : Int32 → q_H → Prop} {Q : Int32 → q_H → Prop} (hE : ∀ (x2 : Int32) (h : q_H), E x2 h → q_run (q_pcs q_t_X2_find) 2 3 none (q_den (d)) 1 (q_ri Q) 45 [(0, q_r 15 0), (1, q_i x1), (2, q_i x2)] [] h) : ∀ (n : Nat) (x2 : Int32) (h : q_H), lp_X2_find_2 x1 Q E n x2 h → q_run (q_pcs q_t_X2_find) 2 3 none (q_den (d)) 1 (q_ri Q) 2 [(0, q_r 15 0), (1, q_i x1), (2, q_i x2)] [] h := by
  intro n
  induction n with
  | zero => intro x2 h k; exact k.elim
  | succ n ih =>
    intro x2 h k
    unfold lp_X2_find_2 at k
    refine q_iload_n (pc := 2) rfl rfl ?_
    refine q_aload_n (pc := 3) rfl rfl ?_
    refine q_getI (pc := 4) rfl (by decide) rfl rfl rfl ?_
    refine q_icmp_ge (pc := 7) (tgt := 45) rfl (by decide) (fun z => ?_) (fun z => ?_)
    · have k := k.1 z
      refine q_sub (pc := 45) (ks := [0, 1, 2]) rfl ?_
      exact hE _ _ k
    · have k := k.2 z
      refine q_iload_n (pc := 10) rfl rfl ?_
      refine q_aload_n (pc := 11) rfl rfl ?_
      refine q_getR (pc := 12) rfl (by decide) rfl rfl rfl ?_
      refine q_iload_n (pc := 15) rfl rfl ?_
      obtain ⟨b1, k⟩ := k
      refine q_iaload (pc := 16) rfl (by decide) rfl rfl b1 ?_
      refine q_icmp_lt (pc := 17) (tgt := 39) rfl (by decide) (fun z => ?_) (fun z => ?_)
      · have k := k.1 z
        refine q_iinc (pc := 39) (v := (x2 + 1)) (ls1 := [(2, q_i (x2 + 1)), (0, q_r 15 0), (1, q_i x1)]) rfl (by decide) rfl (congrArg (fun z => x2 + z) (by decide : Int32.ofInt 1 = 1)) rfl ?_
        refine q_goto (pc := 42) (tgt := 2) rfl (by decide) ?_
        refine q_sub (pc := 2) (ks := [1, 2, 0]) rfl ?_
        exact ih _ _ k
      · have k := k.2 z
        refine q_iload_n (pc := 20) rfl rfl ?_
        refine q_aload_n (pc := 21) rfl rfl ?_
        refine q_getR (pc := 22) rfl (by decide) rfl rfl rfl ?_
        refine q_iload_n (pc := 25) rfl rfl ?_
        obtain ⟨b2, k⟩ := k
        refine q_iaload (pc := 26) rfl (by decide) rfl rfl b2 ?_
        refine q_aload_n (pc := 27) rfl rfl ?_
        refine q_getR (pc := 28) rfl (by decide) rfl rfl rfl ?_
        refine q_iload_n (pc := 31) rfl rfl ?_
        obtain ⟨b3, k⟩ := k
        refine q_iaload (pc := 32) rfl (by decide) rfl rfl b3 ?_
        refine q_iadd (pc := 33) rfl ?_
        refine q_icmp_ge (pc := 34) (tgt := 39) rfl (by decide) (fun z => ?_) (fun z => ?_)
        · have k := k.1 z
          refine q_iinc (pc := 39) (v := (x2 + 1)) (ls1 := [(2, q_i (x2 + 1)), (0, q_r 15 0), (1, q_i x1)]) rfl (by decide) rfl (congrArg (fun z => x2 + z) (by decide : Int32.ofInt 1 = 1)) rfl ?_
          refine q_goto (pc := 42) (tgt := 2) rfl (by decide) ?_
          refine q_sub (pc := 2) (ks := [1, 2, 0]) rfl ?_
          exact ih _ _ k
        · have k := k.2 z
          refine q_iload_n (pc := 37) rfl rfl ?_
          exact q_iret (pc := 38) rfl rfl ⟨_, rfl, k⟩
set_option maxHeartbeats 4000000 in
set_option maxRecDepth 100000 in
theorem dn_X2_find {d : Nat} {a1 : Int32} {h : q_H} {Q : Int32 → q_H → Prop} (k : wp_X2_find a1 h Q) : q_den (d + 1) 33 [q_r 15 0, q_i a1] h (q_ri Q) := by
  unfold wp_X2_find at k
  refine ⟨by decide, Nat.le_of_ble_eq_true rfl, ?_⟩
  show q_run (q_pcs q_t_X2_find) 2 3 none (q_den d) 1 (q_ri Q) 0 [(0, q_r 15 0), (1, q_i a1)] [] h
  refine q_iconst (pc := 0) (v := 0) rfl (by decide) ?_
  refine q_istore_n (pc := 1) (ls1 := [(2, q_i 0), (0, q_r 15 0), (1, q_i a1)]) rfl (by decide) rfl ?_
  obtain ⟨n4, k⟩ := k
  refine q_sub (pc := 2) (ks := [1, 2, 0]) rfl ?_
  refine dl_X2_find_2 (fun y2_4 g4 k => ?_) n4 _ _ k
  refine q_iconst (pc := 45) (v := (-1)) rfl (by decide) ?_
  exact q_iret (pc := 46) rfl rfl ⟨_, rfl, k⟩
