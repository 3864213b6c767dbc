set_option maxHeartbeats 4000000 in
set_option maxRecDepth 100000 in
theorem dl_X3_clear_2 {d : Nat} {i : Nat} (hi : i < 2) {E : Int32 → q_H → Prop} {Q : q_H → Prop} (hE : ∀ (x1 : Int32) (h : q_H), E x1 h → q_run (q_pcs q_t_X3_clear) 3 2 none (q_den (d)) 0 (q_rv Q) 24 [(0, q_r 13 i), (1, q_i x1)] [] h) : ∀ (n : Nat) (x1 : Int32) (h : q_H), lp_X3_clear_2 i E n x1 h → q_run (q_pcs q_t_X3_clear) 3 2 none (q_den (d)) 0 (q_rv Q) 2 [(0, q_r 13 i), (1, q_i x1)] [] h := by
  intro n
  induction n with
  | zero => intro x1 h k; exact k.elim
  | succ n ih =>
    intro x1 h k
    unfold lp_X3_clear_2 at k
    refine q_iload_n (pc := 2) rfl rfl ?_
    refine q_aload_n (pc := 3) rfl rfl ?_
    refine q_getR (pc := 4) rfl hi rfl rfl rfl ?_
    refine q_alen (pc := 7) rfl hi rfl (Nat.le_of_ble_eq_true rfl) (Nat.le_of_ble_eq_true rfl) ?_
    refine q_icmp_ge (pc := 8) (tgt := 24) rfl (by decide) (fun z => ?_) (fun z => ?_)
    · have k := k.1 z
      refine q_sub (pc := 24) (ks := [0, 1]) rfl ?_
      exact hE _ _ k
    · have k := k.2 z
      refine q_aload_n (pc := 11) rfl rfl ?_
      refine q_getR (pc := 12) rfl hi rfl rfl rfl ?_
      refine q_iload_n (pc := 15) rfl rfl ?_
      refine q_lconst (pc := 16) (v := 0) rfl (by decide) ?_
      obtain ⟨b1, k⟩ := k
      refine q_lastore (pc := 17) rfl hi rfl rfl b1 ?_
      refine q_iinc (pc := 18) (v := (x1 + 1)) (ls1 := [(1, q_i (x1 + 1)), (0, q_r 13 i)]) rfl (by decide) rfl (congrArg (fun z => x1 + z) (by decide : Int32.ofInt 1 = 1)) rfl ?_
      refine q_goto (pc := 21) (tgt := 2) rfl (by decide) ?_
      refine q_sub (pc := 2) (ks := [1, 0]) rfl ?_
      exact ih _ _ k
set_option maxHeartbeats 4000000 in
set_option maxRecDepth 100000 in
theorem dn_X3_clear {d : Nat} {i : Nat} (hi : i < 2) {h : q_H} {Q : q_H → Prop} (k : wp_X3_clear i h Q) : q_den (d + 1) 35 [q_r 13 i] h (q_rv Q) := by
  unfold wp_X3_clear at k
  refine ⟨by decide, Nat.le_of_ble_eq_true rfl, ?_⟩
  show q_run (q_pcs q_t_X3_clear) 3 2 none (q_den d) 0 (q_rv Q) 0 [(0, q_r 13 i)] [] h
  refine q_iconst (pc := 0) (v := 0) rfl (by decide) ?_
  refine q_istore_n (pc := 1) (ls1 := [(1, q_i 0), (0, q_r 13 i)]) rfl (by decide) rfl ?_
  obtain ⟨n2, k⟩ := k
  refine q_sub (pc := 2) (ks := [1, 0]) rfl ?_
  refine dl_X3_clear_2 hi (fun y1_2 g2 k => ?_) n2 _ _ k
  exact q_vret (pc := 24) rfl rfl ⟨rfl, k⟩
set_option maxHeartbeats 4000000 in
set_option maxRecDepth 100000 in
theorem dn_X3_add {d : Nat} {i : Nat} {a1 : Int32} {a2 : Int32} {a3 : Int64} (hi : i < 2) {h : q_H} {Q : q_H → Prop} (k : wp_X3_add i a1 a2 a3 h Q) : q_den (d + 1) 36 [q_r 13 i, q_i a1, q_i a2, q_l a3] h (q_rv Q) := by
  unfold wp_X3_add at k
  refine ⟨by decide, Nat.le_of_ble_eq_true rfl, ?_⟩
  show q_run (q_pcs q_t_X3_add) 3 5 none (q_den d) 0 (q_rv Q) 0 [(0, q_r 13 i), (1, q_i a1), (2, q_i a2), (3, q_l a3)] [] h
  refine q_aload_n (pc := 0) rfl rfl ?_
  refine q_getR (pc := 1) rfl hi rfl rfl rfl ?_
  refine q_iload_n (pc := 4) rfl rfl ?_
  refine q_bipush (pc := 5) (v := 8) rfl (by decide) ?_
  refine q_imul (pc := 7) rfl ?_
  refine q_iload_n (pc := 8) rfl rfl ?_
  refine q_iadd (pc := 9) rfl ?_
  refine q_dup2_11 (pc := 10) rfl rfl rfl ?_
  obtain ⟨b1, k⟩ := k
  refine q_laload (pc := 11) rfl hi rfl rfl b1 ?_
  refine q_lload_n (pc := 12) rfl rfl ?_
  refine q_lor (pc := 13) rfl ?_
  obtain ⟨b2, k⟩ := k
  refine q_lastore (pc := 14) rfl hi rfl rfl b2 ?_
  exact q_vret (pc := 15) rfl rfl ⟨rfl, k⟩
set_option maxHeartbeats 4000000 in
set_option maxRecDepth 100000 in
theorem dn_X4_hasPart {d : Nat} {a0 : Int32} {a1 : Int32} {h : q_H} {Q : Int32 → q_H → Prop} (k : wp_X4_hasPart a0 a1 h Q) : q_den (d + 1) 70 [q_i a0, q_i a1] h (q_ri Q) := by
  unfold wp_X4_hasPart at k
  refine ⟨by decide, Nat.le_of_ble_eq_true rfl, ?_⟩
  show q_run (q_pcs q_t_X4_hasPart) 4 2 none (q_den d) 3 (q_ri Q) 0 [(0, q_i a0), (1, q_i a1)] [] h
  refine q_iload_n (pc := 0) rfl rfl ?_
  refine q_iload_n (pc := 1) rfl rfl ?_
  refine q_iushr (pc := 2) rfl ?_
  refine q_iconst (pc := 3) (v := 1) rfl (by decide) ?_
  refine q_iand (pc := 4) rfl ?_
  refine q_if_eq (pc := 5) (tgt := 12) rfl (by decide) (fun z => ?_) (fun z => ?_)
  · have k := k.1 z
    refine q_iconst (pc := 12) (v := 0) rfl (by decide) ?_
    exact q_zret (pc := 13) rfl rfl (by decide) ⟨_, rfl, k⟩
  · have k := k.2 z
    refine q_iconst (pc := 8) (v := 1) rfl (by decide) ?_
    refine q_goto (pc := 9) (tgt := 13) rfl (by decide) ?_
    exact q_zret (pc := 13) rfl rfl (by decide) ⟨_, rfl, k⟩
set_option maxHeartbeats 4000000 in
set_option maxRecDepth 100000 in
theorem dn_X3_ticksBy {d : Nat} {i : Nat} {a1 : Int32} {a2 : Int32} (hi : i < 2) {h : q_H} {Q : Int64 → q_H → Prop} (k : wp_X3_ticksBy i a1 a2 h Q) : q_den (d + 1) 39 [q_r 13 i, q_i a1, q_i a2] h (q_rl Q) := by
  unfold wp_X3_ticksBy at k
  refine ⟨by decide, Nat.le_of_ble_eq_true rfl, ?_⟩
  show q_run (q_pcs q_t_X3_ticksBy) 3 3 none (q_den d) 2 (q_rl Q) 0 [(0, q_r 13 i), (1, q_i a1), (2, q_i a2)] [] h
  refine q_aload_n (pc := 0) rfl rfl ?_
  refine q_getR (pc := 1) rfl hi rfl rfl rfl ?_
  refine q_iload_n (pc := 4) rfl rfl ?_
  refine q_bipush (pc := 5) (v := 8) rfl (by decide) ?_
  refine q_imul (pc := 7) rfl ?_
  refine q_iload_n (pc := 8) rfl rfl ?_
  refine q_iadd (pc := 9) rfl ?_
  obtain ⟨b1, k⟩ := k
  refine q_laload (pc := 10) rfl hi rfl rfl b1 ?_
  exact q_lret (pc := 11) rfl rfl ⟨_, rfl, k⟩
set_option maxHeartbeats 4000000 in
set_option maxRecDepth 100000 in
theorem dl_X3_addAll_2 {d : Nat} {i : Nat} {x1 : Int32} {x2 : Int32} (hi : i < 2) {E : Int32 → q_H → Prop} {Q : q_H → Prop} (hE : ∀ (x3 : Int32) (h : q_H), E x3 h → q_run (q_pcs q_t_X3_addAll) 3 4 none (q_den (d + 1)) 0 (q_rv Q) 26 [(0, q_r 13 i), (1, q_i x1), (2, q_i x2), (3, q_i x3)] [] h) : ∀ (n : Nat) (x3 : Int32) (h : q_H), lp_X3_addAll_2 i x1 x2 E n x3 h → q_run (q_pcs q_t_X3_addAll) 3 4 none (q_den (d + 1)) 0 (q_rv Q) 2 [(0, q_r 13 i), (1, q_i x1), (2, q_i x2), (3, q_i x3)] [] h := by
  intro n
  induction n with
  | zero => intro x3 h k; exact k.elim
  | succ n ih =>
    intro x3 h k
    unfold lp_X3_addAll_2 at k
    refine q_iload_n (pc := 2) rfl rfl ?_
    refine q_bipush (pc := 3) (v := 8) rfl (by decide) ?_
    refine q_icmp_ge (pc := 5) (tgt := 26) rfl (by decide) (fun z => ?_) (fun z => ?_)
    · have k := k.1 z
      refine q_sub (pc := 26) (ks := [0, 1, 2, 3]) rfl ?_
      exact hE _ _ k
    · have k := k.2 z
      refine q_aload_n (pc := 8) rfl rfl ?_
      refine q_iload_n (pc := 9) rfl rfl ?_
      refine q_iload_n (pc := 10) rfl rfl ?_
      refine q_aload_n (pc := 11) rfl rfl ?_
      refine q_iload_n (pc := 12) rfl rfl ?_
      refine q_iload_n (pc := 13) rfl rfl ?_
      refine q_callV (pc := 14) (As := [q_i x3, q_i x1]) (rest := [q_i x2, q_i x3, q_r 13 i]) rfl rfl rfl hi rfl rfl (Nat.le_of_ble_eq_true rfl) ?_
      refine q_den_mono _ _ _ _ _ _ ?_ (dn_X3_ticksBy (d := d) hi k)
      rintro _ g1 ⟨r2, rfl, k⟩
      refine q_callV (pc := 17) (As := [q_i x3, q_i x2, q_l r2]) (rest := []) rfl rfl rfl hi rfl rfl (Nat.le_of_ble_eq_true rfl) ?_
      refine q_den_mono _ _ _ _ _ _ ?_ (dn_X3_add (d := d) hi k)
      rintro _ g3 ⟨rfl, k⟩
      refine q_iinc (pc := 20) (v := (x3 + 1)) (ls1 := [(3, q_i (x3 + 1)), (0, q_r 13 i), (1, q_i x1), (2, q_i x2)]) rfl (by decide) rfl (congrArg (fun z => x3 + z) (by decide : Int32.ofInt 1 = 1)) rfl ?_
      refine q_goto (pc := 23) (tgt := 2) rfl (by decide) ?_
      refine q_sub (pc := 2) (ks := [1, 2, 3, 0]) rfl ?_
      exact ih _ _ k
set_option maxHeartbeats 4000000 in
set_option maxRecDepth 100000 in
theorem dn_X3_addAll {d : Nat} {i : Nat} {a1 : Int32} {a2 : Int32} (hi : i < 2) {h : q_H} {Q : q_H → Prop} (k : wp_X3_addAll i a1 a2 h Q) : q_den (d + 2) 38 [q_r 13 i, q_i a1, q_i a2] h (q_rv Q) := by
  unfold wp_X3_addAll at k
  refine ⟨by decide, Nat.le_of_ble_eq_true rfl, ?_⟩
  show q_run (q_pcs q_t_X3_addAll) 3 4 none (q_den (d + 1)) 0 (q_rv Q) 0 [(0, q_r 13 i), (1, q_i a1), (2, q_i a2)] [] h
  refine q_iconst (pc := 0) (v := 0) rfl (by decide) ?_
  refine q_istore_n (pc := 1) (ls1 := [(3, q_i 0), (0, q_r 13 i), (1, q_i a1), (2, q_i a2)]) rfl (by decide) rfl ?_
  obtain ⟨n4, k⟩ := k
  refine q_sub (pc := 2) (ks := [1, 2, 3, 0]) rfl ?_
  refine dl_X3_addAll_2 hi (fun y3_4 g4 k => ?_) n4 _ _ k
  exact q_vret (pc := 26) rfl rfl ⟨rfl, k⟩
set_option maxHeartbeats 4000000 in
set_option maxRecDepth 100000 in
theorem dl_X3_spread_19 {d : Nat} {i : Nat} {x2 : Int32} {x3 : Int32} (hi : i < 2) {E : Int32 → q_H → Prop} {Q : q_H → Prop} (hE : ∀ (x4 : Int32) (h : q_H), E x4 h → q_run (q_pcs q_t_X3_spread) 3 5 none (q_den (d + 2)) 0 (q_rv Q) 50 [(0, q_r 13 i), (1, q_r 7 0), (2, q_i x2), (3, q_i x3), (4, q_i x4)] [] h) : ∀ (n : Nat) (x4 : Int32) (h : q_H), lp_X3_spread_19 i x2 x3 E n x4 h → q_run (q_pcs q_t_X3_spread) 3 5 none (q_den (d + 2)) 0 (q_rv Q) 19 [(0, q_r 13 i), (1, q_r 7 0), (2, q_i x2), (3, q_i x3), (4, q_i x4)] [] h := by
  intro n
  induction n with
  | zero => intro x4 h k; exact k.elim
  | succ n ih =>
    intro x4 h k
    unfold lp_X3_spread_19 at k
    refine q_iload (pc := 19) rfl rfl ?_
    refine q_bipush (pc := 21) (v := 6) rfl (by decide) ?_
    refine q_icmp_ge (pc := 23) (tgt := 50) rfl (by decide) (fun z => ?_) (fun z => ?_)
    · have k := k.1 z
      refine q_sub (pc := 50) (ks := [0, 1, 2, 3, 4]) rfl ?_
      exact hE _ _ k
    · have k := k.2 z
      refine q_aload_n (pc := 26) rfl rfl ?_
      refine q_iload_n (pc := 27) rfl rfl ?_
      obtain ⟨b1, k⟩ := k
      refine q_iaload (pc := 28) rfl (by decide) rfl rfl b1 ?_
      refine q_iload (pc := 29) rfl rfl ?_
      refine q_callS (kd := 1) (pc := 31) (As := [q_i (Prod.fst h 7 0 (Int32.toNatClampNeg x3)), q_i x4]) (rest := []) rfl rfl rfl  rfl (Nat.le_of_ble_eq_true rfl) ?_
      refine q_den_mono _ _ _ _ _ _ ?_ (dn_X4_hasPart (d := d + 1)  k)
      rintro _ g2 ⟨r3, rfl, k⟩
      refine q_if_eq (pc := 34) (tgt := 44) rfl (by decide) (fun z => ?_) (fun z => ?_)
      · have k := k.1 z
        refine q_iinc (pc := 44) (v := (x4 + 1)) (ls1 := [(4, q_i (x4 + 1)), (0, q_r 13 i), (1, q_r 7 0), (2, q_i x2), (3, q_i x3)]) rfl (by decide) rfl (congrArg (fun z => x4 + z) (by decide : Int32.ofInt 1 = 1)) rfl ?_
        refine q_goto (pc := 47) (tgt := 19) rfl (by decide) ?_
        refine q_sub (pc := 19) (ks := [1, 2, 3, 4, 0]) rfl ?_
        exact ih _ _ k
      · have k := k.2 z
        refine q_aload_n (pc := 37) rfl rfl ?_
        refine q_iload_n (pc := 38) rfl rfl ?_
        refine q_iload (pc := 39) rfl rfl ?_
        refine q_callV (pc := 41) (As := [q_i x3, q_i x4]) (rest := []) rfl rfl rfl hi rfl rfl (Nat.le_of_ble_eq_true rfl) ?_
        refine q_den_mono _ _ _ _ _ _ ?_ (dn_X3_addAll (d := d) hi k)
        rintro _ g4 ⟨rfl, k⟩
        refine q_iinc (pc := 44) (v := (x4 + 1)) (ls1 := [(4, q_i (x4 + 1)), (0, q_r 13 i), (1, q_r 7 0), (2, q_i x2), (3, q_i x3)]) rfl (by decide) rfl (congrArg (fun z => x4 + z) (by decide : Int32.ofInt 1 = 1)) rfl ?_
        refine q_goto (pc := 47) (tgt := 19) rfl (by decide) ?_
        refine q_sub (pc := 19) (ks := [1, 2, 3, 4, 0]) rfl ?_
        exact ih _ _ k
set_option maxHeartbeats 4000000 in
set_option maxRecDepth 100000 in
theorem dl_X3_spread_10 {d : Nat} {i : Nat} {x2 : Int32} (hi : i < 2) {E : Int32 → q_H → Prop} {Q : q_H → Prop} (hE : ∀ (x3 : Int32) (h : q_H), E x3 h → q_run (q_pcs q_t_X3_spread) 3 5 none (q_den (d + 2)) 0 (q_rv Q) 56 [(0, q_r 13 i), (1, q_r 7 0), (2, q_i x2), (3, q_i x3)] [] h) : ∀ (n : Nat) (x3 : Int32) (h : q_H), lp_X3_spread_10 i x2 E n x3 h → q_run (q_pcs q_t_X3_spread) 3 5 none (q_den (d + 2)) 0 (q_rv Q) 10 [(0, q_r 13 i), (1, q_r 7 0), (2, q_i x2), (3, q_i x3)] [] h := by
  intro n
  induction n with
  | zero => intro x3 h k; exact k.elim
  | succ n ih =>
    intro x3 h k
    unfold lp_X3_spread_10 at k
    refine q_iload_n (pc := 10) rfl rfl ?_
    refine q_bipush (pc := 11) (v := 6) rfl (by decide) ?_
    refine q_icmp_ge (pc := 13) (tgt := 56) rfl (by decide) (fun z => ?_) (fun z => ?_)
    · have k := k.1 z
      refine q_sub (pc := 56) (ks := [0, 1, 2, 3]) rfl ?_
      exact hE _ _ k
    · have k := k.2 z
      refine q_iconst (pc := 16) (v := 0) rfl (by decide) ?_
      refine q_istore (pc := 17) (ls1 := [(4, q_i 0), (0, q_r 13 i), (1, q_r 7 0), (2, q_i x2), (3, q_i x3)]) rfl (by decide) rfl ?_
      obtain ⟨n5, k⟩ := k
      refine q_sub (pc := 19) (ks := [1, 2, 3, 4, 0]) rfl ?_
      refine dl_X3_spread_19 hi (fun y4_5 g5 k => ?_) n5 _ _ k
      refine q_iinc (pc := 50) (v := (x3 + 1)) (ls1 := [(3, q_i (x3 + 1)), (0, q_r 13 i), (1, q_r 7 0), (2, q_i x2), (4, q_i y4_5)]) rfl (by decide) rfl (congrArg (fun z => x3 + z) (by decide : Int32.ofInt 1 = 1)) rfl ?_
      refine q_goto (pc := 53) (tgt := 10) rfl (by decide) ?_
      refine q_sub (pc := 10) (ks := [1, 2, 3, 0]) rfl ?_
      exact ih _ _ k
set_option maxHeartbeats 4000000 in
set_option maxRecDepth 100000 in
theorem dl_X3_spread_2 {d : Nat} {i : Nat} (hi : i < 2) {E : Int32 → q_H → Prop} {Q : q_H → Prop} (hE : ∀ (x2 : Int32) (h : q_H), E x2 h → q_run (q_pcs q_t_X3_spread) 3 5 none (q_den (d + 2)) 0 (q_rv Q) 62 [(0, q_r 13 i), (1, q_r 7 0), (2, q_i x2)] [] h) : ∀ (n : Nat) (x2 : Int32) (h : q_H), lp_X3_spread_2 i E n x2 h → q_run (q_pcs q_t_X3_spread) 3 5 none (q_den (d + 2)) 0 (q_rv Q) 2 [(0, q_r 13 i), (1, q_r 7 0), (2, q_i x2)] [] h := by
  intro n
  induction n with
  | zero => intro x2 h k; exact k.elim
  | succ n ih =>
    intro x2 h k
    unfold lp_X3_spread_2 at k
    refine q_iload_n (pc := 2) rfl rfl ?_
    refine q_bipush (pc := 3) (v := 6) rfl (by decide) ?_
    refine q_icmp_ge (pc := 5) (tgt := 62) rfl (by decide) (fun z => ?_) (fun z => ?_)
    · have k := k.1 z
      refine q_sub (pc := 62) (ks := [0, 1, 2]) rfl ?_
      exact hE _ _ k
    · have k := k.2 z
      refine q_iconst (pc := 8) (v := 0) rfl (by decide) ?_
      refine q_istore_n (pc := 9) (ls1 := [(3, q_i 0), (0, q_r 13 i), (1, q_r 7 0), (2, q_i x2)]) rfl (by decide) rfl ?_
      obtain ⟨n6, k⟩ := k
      refine q_sub (pc := 10) (ks := [1, 2, 3, 0]) rfl ?_
      refine dl_X3_spread_10 hi (fun y3_6 g6 k => ?_) n6 _ _ k
      refine q_iinc (pc := 56) (v := (x2 + 1)) (ls1 := [(2, q_i (x2 + 1)), (0, q_r 13 i), (1, q_r 7 0), (3, q_i y3_6)]) rfl (by decide) rfl (congrArg (fun z => x2 + z) (by decide : Int32.ofInt 1 = 1)) rfl ?_
      refine q_goto (pc := 59) (tgt := 2) rfl (by decide) ?_
      refine q_sub (pc := 2) (ks := [1, 2, 0]) rfl ?_
      exact ih _ _ k
set_option maxHeartbeats 4000000 in
set_option maxRecDepth 100000 in
theorem dn_X3_spread {d : Nat} {i : Nat} (hi : i < 2) {h : q_H} {Q : q_H → Prop} (k : wp_X3_spread i h Q) : q_den (d + 3) 37 [q_r 13 i, q_r 7 0] h (q_rv Q) := by
  unfold wp_X3_spread at k
  refine ⟨by decide, Nat.le_of_ble_eq_true rfl, ?_⟩
  show q_run (q_pcs q_t_X3_spread) 3 5 none (q_den (d + 2)) 0 (q_rv Q) 0 [(0, q_r 13 i), (1, q_r 7 0)] [] h
  refine q_iconst (pc := 0) (v := 1) rfl (by decide) ?_
  refine q_istore_n (pc := 1) (ls1 := [(2, q_i 1), (0, q_r 13 i), (1, q_r 7 0)]) rfl (by decide) rfl ?_
  obtain ⟨n7, k⟩ := k
  refine q_sub (pc := 2) (ks := [1, 2, 0]) rfl ?_
  refine dl_X3_spread_2 hi (fun y2_7 g7 k => ?_) n7 _ _ k
  exact q_vret (pc := 62) rfl rfl ⟨rfl, k⟩
set_option maxHeartbeats 4000000 in
set_option maxRecDepth 100000 in
theorem dl_X3_ticksOf_5 {d : Nat} {i : Nat} {x1 : Int32} (hi : i < 2) {E : Int64 → Int32 → q_H → Prop} {Q : Int64 → q_H → Prop} (hE : ∀ (x2 : Int64) (x4 : Int32) (h : q_H), E x2 x4 h → q_run (q_pcs q_t_X3_ticksOf) 3 5 none (q_den (d + 1)) 2 (q_rl Q) 28 [(0, q_r 13 i), (1, q_i x1), (2, q_l x2), (4, q_i x4)] [] h) : ∀ (n : Nat) (x2 : Int64) (x4 : Int32) (h : q_H), lp_X3_ticksOf_5 i x1 E n x2 x4 h → q_run (q_pcs q_t_X3_ticksOf) 3 5 none (q_den (d + 1)) 2 (q_rl Q) 5 [(0, q_r 13 i), (1, q_i x1), (2, q_l x2), (4, q_i x4)] [] h := by
  intro n
  induction n with
  | zero => intro x2 x4 h k; exact k.elim
  | succ n ih =>
    intro x2 x4 h k
    unfold lp_X3_ticksOf_5 at k
    refine q_iload (pc := 5) rfl rfl ?_
    refine q_bipush (pc := 7) (v := 8) rfl (by decide) ?_
    refine q_icmp_ge (pc := 9) (tgt := 28) rfl (by decide) (fun z => ?_) (fun z => ?_)
    · have k := k.1 z
      refine q_sub (pc := 28) (ks := [0, 1, 2, 3]) rfl ?_
      exact hE _ _ _ k
    · have k := k.2 z
      refine q_lload_n (pc := 12) rfl rfl ?_
      refine q_aload_n (pc := 13) rfl rfl ?_
      refine q_iload (pc := 14) rfl rfl ?_
      refine q_iload_n (pc := 16) rfl rfl ?_
      refine q_callV (pc := 17) (As := [q_i x4, q_i x1]) (rest := [q_l x2]) rfl rfl rfl hi rfl rfl (Nat.le_of_ble_eq_true rfl) ?_
      refine q_den_mono _ _ _ _ _ _ ?_ (dn_X3_ticksBy (d := d) hi k)
      rintro _ g1 ⟨r2, rfl, k⟩
      refine q_lor (pc := 20) rfl ?_
      refine q_lstore_n (pc := 21) (ls1 := [(2, q_l (x2 ||| r2)), (0, q_r 13 i), (1, q_i x1), (4, q_i x4)]) rfl (by decide) rfl ?_
      refine q_iinc (pc := 22) (v := (x4 + 1)) (ls1 := [(4, q_i (x4 + 1)), (2, q_l (x2 ||| r2)), (0, q_r 13 i), (1, q_i x1)]) rfl (by decide) rfl (congrArg (fun z => x4 + z) (by decide : Int32.ofInt 1 = 1)) rfl ?_
      refine q_goto (pc := 25) (tgt := 5) rfl (by decide) ?_
      refine q_sub (pc := 5) (ks := [2, 3, 1, 0]) rfl ?_
      exact ih _ _ _ k
set_option maxHeartbeats 4000000 in
set_option maxRecDepth 100000 in
theorem dn_X3_ticksOf {d : Nat} {i : Nat} {a1 : Int32} (hi : i < 2) {h : q_H} {Q : Int64 → q_H → Prop} (k : wp_X3_ticksOf i a1 h Q) : q_den (d + 2) 40 [q_r 13 i, q_i a1] h (q_rl Q) := by
  unfold wp_X3_ticksOf at k
  refine ⟨by decide, Nat.le_of_ble_eq_true rfl, ?_⟩
  show q_run (q_pcs q_t_X3_ticksOf) 3 5 none (q_den (d + 1)) 2 (q_rl Q) 0 [(0, q_r 13 i), (1, q_i a1)] [] h
  refine q_lconst (pc := 0) (v := 0) rfl (by decide) ?_
  refine q_lstore_n (pc := 1) (ls1 := [(2, q_l 0), (0, q_r 13 i), (1, q_i a1)]) rfl (by decide) rfl ?_
  refine q_iconst (pc := 2) (v := 0) rfl (by decide) ?_
  refine q_istore (pc := 3) (ls1 := [(4, q_i 0), (2, q_l 0), (0, q_r 13 i), (1, q_i a1)]) rfl (by decide) rfl ?_
  obtain ⟨n3, k⟩ := k
  refine q_sub (pc := 5) (ks := [2, 3, 1, 0]) rfl ?_
  refine dl_X3_ticksOf_5 hi (fun y2_3 y4_3 g3 k => ?_) n3 _ _ _ k
  refine q_lload_n (pc := 28) rfl rfl ?_
  exact q_lret (pc := 29) rfl rfl ⟨_, rfl, k⟩
set_option maxHeartbeats 4000000 in
set_option maxRecDepth 100000 in
theorem dl_X3_programsAt_5 {d : Nat} {i : Nat} {x1 : Int32} {x2 : Int32} (hi : i < 2) {E : Int32 → Int32 → q_H → Prop} {Q : Int32 → q_H → Prop} (hE : ∀ (x3 : Int32) (x4 : Int32) (h : q_H), E x3 x4 h → q_run (q_pcs q_t_X3_programsAt) 3 5 none (q_den (d + 1)) 1 (q_ri Q) 35 [(0, q_r 13 i), (1, q_i x1), (2, q_i x2), (3, q_i x3), (4, q_i x4)] [] h) : ∀ (n : Nat) (x3 : Int32) (x4 : Int32) (h : q_H), lp_X3_programsAt_5 i x1 x2 E n x3 x4 h → q_run (q_pcs q_t_X3_programsAt) 3 5 none (q_den (d + 1)) 1 (q_ri Q) 5 [(0, q_r 13 i), (1, q_i x1), (2, q_i x2), (3, q_i x3), (4, q_i x4)] [] h := by
  intro n
  induction n with
  | zero => intro x3 x4 h k; exact k.elim
  | succ n ih =>
    intro x3 x4 h k
    unfold lp_X3_programsAt_5 at k
    refine q_iload (pc := 5) rfl rfl ?_
    refine q_bipush (pc := 7) (v := 8) rfl (by decide) ?_
    refine q_icmp_ge (pc := 9) (tgt := 35) rfl (by decide) (fun z => ?_) (fun z => ?_)
    · have k := k.1 z
      refine q_sub (pc := 35) (ks := [0, 1, 2, 3, 4]) rfl ?_
      exact hE _ _ _ k
    · have k := k.2 z
      refine q_aload_n (pc := 12) rfl rfl ?_
      refine q_iload (pc := 13) rfl rfl ?_
      refine q_iload_n (pc := 15) rfl rfl ?_
      refine q_callV (pc := 16) (As := [q_i x4, q_i x1]) (rest := []) rfl rfl rfl hi rfl rfl (Nat.le_of_ble_eq_true rfl) ?_
      refine q_den_mono _ _ _ _ _ _ ?_ (dn_X3_ticksBy (d := d) hi k)
      rintro _ g1 ⟨r2, rfl, k⟩
      refine q_iload_n (pc := 19) rfl rfl ?_
      refine q_callS (kd := 1) (pc := 20) (As := [q_l r2, q_i x2]) (rest := []) rfl rfl rfl  rfl (Nat.le_of_ble_eq_true rfl) ?_
      refine q_den_mono _ _ _ _ _ _ ?_ (dn_X4_hasTick (d := d)  k)
      rintro _ g3 ⟨r4, rfl, k⟩
      refine q_if_eq (pc := 23) (tgt := 29) rfl (by decide) (fun z => ?_) (fun z => ?_)
      · have k := k.1 z
        refine q_iinc (pc := 29) (v := (x4 + 1)) (ls1 := [(4, q_i (x4 + 1)), (0, q_r 13 i), (1, q_i x1), (2, q_i x2), (3, q_i x3)]) rfl (by decide) rfl (congrArg (fun z => x4 + z) (by decide : Int32.ofInt 1 = 1)) rfl ?_
        refine q_goto (pc := 32) (tgt := 5) rfl (by decide) ?_
        refine q_sub (pc := 5) (ks := [1, 2, 3, 4, 0]) rfl ?_
        exact ih _ _ _ k
      · have k := k.2 z
        refine q_iinc (pc := 26) (v := (x3 + 1)) (ls1 := [(3, q_i (x3 + 1)), (0, q_r 13 i), (1, q_i x1), (2, q_i x2), (4, q_i x4)]) rfl (by decide) rfl (congrArg (fun z => x3 + z) (by decide : Int32.ofInt 1 = 1)) rfl ?_
        refine q_iinc (pc := 29) (v := (x4 + 1)) (ls1 := [(4, q_i (x4 + 1)), (3, q_i (x3 + 1)), (0, q_r 13 i), (1, q_i x1), (2, q_i x2)]) rfl (by decide) rfl (congrArg (fun z => x4 + z) (by decide : Int32.ofInt 1 = 1)) rfl ?_
        refine q_goto (pc := 32) (tgt := 5) rfl (by decide) ?_
        refine q_sub (pc := 5) (ks := [2, 3, 4, 1, 0]) rfl ?_
        exact ih _ _ _ k
set_option maxHeartbeats 4000000 in
set_option maxRecDepth 100000 in
theorem dn_X3_programsAt {d : Nat} {i : Nat} {a1 : Int32} {a2 : Int32} (hi : i < 2) {h : q_H} {Q : Int32 → q_H → Prop} (k : wp_X3_programsAt i a1 a2 h Q) : q_den (d + 2) 41 [q_r 13 i, q_i a1, q_i a2] h (q_ri Q) := by
  unfold wp_X3_programsAt at k
  refine ⟨by decide, Nat.le_of_ble_eq_true rfl, ?_⟩
  show q_run (q_pcs q_t_X3_programsAt) 3 5 none (q_den (d + 1)) 1 (q_ri Q) 0 [(0, q_r 13 i), (1, q_i a1), (2, q_i a2)] [] h
  refine q_iconst (pc := 0) (v := 0) rfl (by decide) ?_
  refine q_istore_n (pc := 1) (ls1 := [(3, q_i 0), (0, q_r 13 i), (1, q_i a1), (2, q_i a2)]) rfl (by decide) rfl ?_
  refine q_iconst (pc := 2) (v := 0) rfl (by decide) ?_
  refine q_istore (pc := 3) (ls1 := [(4, q_i 0), (3, q_i 0), (0, q_r 13 i), (1, q_i a1), (2, q_i a2)]) rfl (by decide) rfl ?_
  obtain ⟨n5, k⟩ := k
  refine q_sub (pc := 5) (ks := [2, 3, 4, 1, 0]) rfl ?_
  refine dl_X3_programsAt_5 hi (fun y3_5 y4_5 g5 k => ?_) n5 _ _ _ k
  refine q_iload_n (pc := 35) rfl rfl ?_
  exact q_iret (pc := 36) rfl rfl ⟨_, rfl, k⟩
set_option maxHeartbeats 4000000 in
set_option maxRecDepth 100000 in
theorem dn_X4_rises {d : Nat} {a0 : Int32} {a1 : Int32} {a2 : Int32} {a3 : Int32} {h : q_H} {Q : Int32 → q_H → Prop} (k : wp_X4_rises a0 a1 a2 a3 h Q) : q_den (d + 1) 69 [q_i a0, q_i a1, q_i a2, q_i a3] h (q_ri Q) := by
  unfold wp_X4_rises at k
  refine ⟨by decide, Nat.le_of_ble_eq_true rfl, ?_⟩
  show q_run (q_pcs q_t_X4_rises) 4 4 none (q_den d) 3 (q_ri Q) 0 [(0, q_i a0), (1, q_i a1), (2, q_i a2), (3, q_i a3)] [] h
  refine q_iload_n (pc := 0) rfl rfl ?_
  refine q_if_lt (pc := 1) (tgt := 23) rfl (by decide) (fun z => ?_) (fun z => ?_)
  · have k := k.1 z
    refine q_iconst (pc := 23) (v := 0) rfl (by decide) ?_
    exact q_zret (pc := 24) rfl rfl (by decide) ⟨_, rfl, k⟩
  · have k := k.2 z
    refine q_iload_n (pc := 4) rfl rfl ?_
    refine q_iload_n (pc := 5) rfl rfl ?_
    refine q_icmp_gt (pc := 6) (tgt := 23) rfl (by decide) (fun z => ?_) (fun z => ?_)
    · have k := k.1 z
      refine q_iconst (pc := 23) (v := 0) rfl (by decide) ?_
      exact q_zret (pc := 24) rfl rfl (by decide) ⟨_, rfl, k⟩
    · have k := k.2 z
      refine q_iload_n (pc := 9) rfl rfl ?_
      refine q_iload_n (pc := 10) rfl rfl ?_
      refine q_icmp_gt (pc := 11) (tgt := 23) rfl (by decide) (fun z => ?_) (fun z => ?_)
      · have k := k.1 z
        refine q_iconst (pc := 23) (v := 0) rfl (by decide) ?_
        exact q_zret (pc := 24) rfl rfl (by decide) ⟨_, rfl, k⟩
      · have k := k.2 z
        refine q_iload_n (pc := 14) rfl rfl ?_
        refine q_iload_n (pc := 15) rfl rfl ?_
        refine q_icmp_gt (pc := 16) (tgt := 23) rfl (by decide) (fun z => ?_) (fun z => ?_)
        · have k := k.1 z
          refine q_iconst (pc := 23) (v := 0) rfl (by decide) ?_
          exact q_zret (pc := 24) rfl rfl (by decide) ⟨_, rfl, k⟩
        · have k := k.2 z
          refine q_iconst (pc := 19) (v := 1) rfl (by decide) ?_
          refine q_goto (pc := 20) (tgt := 24) rfl (by decide) ?_
          exact q_zret (pc := 24) rfl rfl (by decide) ⟨_, rfl, k⟩
set_option maxHeartbeats 4000000 in
set_option maxRecDepth 100000 in
theorem dn_X4_part {d : Nat} {a1 : Int32} {a2 : Int32} {a3 : Int32} {a4 : Int32} {h : q_H} {Q : Int32 → q_H → Prop} (k : wp_X4_part a1 a2 a3 a4 h Q) : q_den (d + 2) 42 [q_r 0 0, q_i a1, q_i a2, q_i a3, q_i a4] h (q_ri Q) := by
  unfold wp_X4_part at k
  refine ⟨by decide, Nat.le_of_ble_eq_true rfl, ?_⟩
  show q_run (q_pcs q_t_X4_part) 4 5 none (q_den (d + 1)) 1 (q_ri Q) 0 [(0, q_r 0 0), (1, q_i a1), (2, q_i a2), (3, q_i a3), (4, q_i a4)] [] h
  refine q_aload_n (pc := 0) rfl rfl ?_
  refine q_getI (pc := 1) rfl (by decide) rfl rfl rfl ?_
  refine q_bipush (pc := 4) (v := 6) rfl (by decide) ?_
  refine q_icmp_ge (pc := 6) (tgt := 32) rfl (by decide) (fun z => ?_) (fun z => ?_)
  · have k := k.1 z
    refine q_iconst (pc := 32) (v := (-1)) rfl (by decide) ?_
    exact q_iret (pc := 33) rfl rfl ⟨_, rfl, k⟩
  · have k := k.2 z
    refine q_iload (pc := 9) rfl rfl ?_
    refine q_iload_n (pc := 11) rfl rfl ?_
    refine q_iload_n (pc := 12) rfl rfl ?_
    refine q_bipush (pc := 13) (v := 99) rfl (by decide) ?_
    refine q_callS (kd := 0) (pc := 15) (As := [q_i a4, q_i a3, q_i a2, q_i 99]) (rest := []) rfl rfl rfl  rfl (Nat.le_of_ble_eq_true rfl) ?_
    refine q_den_mono _ _ _ _ _ _ ?_ (dn_X4_rises (d := d)  k)
    rintro _ g1 ⟨r2, rfl, k⟩
    refine q_if_eq (pc := 18) (tgt := 32) rfl (by decide) (fun z => ?_) (fun z => ?_)
    · have k := k.1 z
      refine q_iconst (pc := 32) (v := (-1)) rfl (by decide) ?_
      exact q_iret (pc := 33) rfl rfl ⟨_, rfl, k⟩
    · have k := k.2 z
      refine q_iload_n (pc := 21) rfl rfl ?_
      refine q_iload_n (pc := 22) rfl rfl ?_
      refine q_icmp_lt (pc := 23) (tgt := 32) rfl (by decide) (fun z => ?_) (fun z => ?_)
      · have k := k.1 z
        refine q_iconst (pc := 32) (v := (-1)) rfl (by decide) ?_
        exact q_iret (pc := 33) rfl rfl ⟨_, rfl, k⟩
      · have k := k.2 z
        refine q_iload_n (pc := 26) rfl rfl ?_
        refine q_bipush (pc := 27) (v := 99) rfl (by decide) ?_
        refine q_icmp_le (pc := 29) (tgt := 34) rfl (by decide) (fun z => ?_) (fun z => ?_)
        · have k := k.1 z
          refine q_aload_n (pc := 34) rfl rfl ?_
          refine q_getR (pc := 35) rfl (by decide) rfl rfl rfl ?_
          refine q_aload_n (pc := 38) rfl rfl ?_
          refine q_getI (pc := 39) rfl (by decide) rfl rfl rfl ?_
          obtain ⟨b3, k⟩ := k
          refine q_aaload (pc := 42) rfl (by decide) rfl rfl b3 ?_
          refine q_iload_n (pc := 43) rfl rfl ?_
          refine q_iload_n (pc := 44) rfl rfl ?_
          refine q_iload_n (pc := 45) rfl rfl ?_
          refine q_iload (pc := 46) rfl rfl ?_
          refine q_callV (pc := 48) (As := [q_i a1, q_i a2, q_i a3, q_i a4]) (rest := []) rfl rfl rfl (q_vin b3) rfl rfl (Nat.le_of_ble_eq_true rfl) ?_
          refine q_den_mono _ _ _ _ _ _ ?_ (dn_X1_setDrains (d := d) (q_vin b3) k)
          rintro _ g4 ⟨rfl, k⟩
          refine q_aload_n (pc := 51) rfl rfl ?_
          refine q_dup (pc := 52) rfl rfl ?_
          refine q_getI (pc := 53) rfl (by decide) rfl rfl rfl ?_
          refine q_iconst (pc := 56) (v := 1) rfl (by decide) ?_
          refine q_iadd (pc := 57) rfl ?_
          refine q_putI (pc := 58) rfl (by decide) rfl rfl rfl ?_
          refine q_aload_n (pc := 61) rfl rfl ?_
          refine q_getI (pc := 62) rfl (by decide) rfl rfl rfl ?_
          refine q_iconst (pc := 65) (v := 1) rfl (by decide) ?_
          refine q_isub (pc := 66) rfl ?_
          exact q_iret (pc := 67) rfl rfl ⟨_, rfl, k⟩
        · have k := k.2 z
          refine q_iconst (pc := 32) (v := (-1)) rfl (by decide) ?_
          exact q_iret (pc := 33) rfl rfl ⟨_, rfl, k⟩
set_option maxHeartbeats 4000000 in
set_option maxRecDepth 100000 in
theorem dn_X4_isPart {d : Nat} {a1 : Int32} {h : q_H} {Q : Int32 → q_H → Prop} (k : wp_X4_isPart a1 h Q) : q_den (d + 1) 66 [q_r 0 0, q_i a1] h (q_ri Q) := by
  unfold wp_X4_isPart at k
  refine ⟨by decide, Nat.le_of_ble_eq_true rfl, ?_⟩
  show q_run (q_pcs q_t_X4_isPart) 4 2 none (q_den d) 3 (q_ri Q) 0 [(0, q_r 0 0), (1, q_i a1)] [] h
  refine q_iload_n (pc := 0) rfl rfl ?_
  refine q_if_lt (pc := 1) (tgt := 16) rfl (by decide) (fun z => ?_) (fun z => ?_)
  · have k := k.1 z
    refine q_iconst (pc := 16) (v := 0) rfl (by decide) ?_
    exact q_zret (pc := 17) rfl rfl (by decide) ⟨_, rfl, k⟩
  · have k := k.2 z
    refine q_iload_n (pc := 4) rfl rfl ?_
    refine q_aload_n (pc := 5) rfl rfl ?_
    refine q_getI (pc := 6) rfl (by decide) rfl rfl rfl ?_
    refine q_icmp_ge (pc := 9) (tgt := 16) rfl (by decide) (fun z => ?_) (fun z => ?_)
    · have k := k.1 z
      refine q_iconst (pc := 16) (v := 0) rfl (by decide) ?_
      exact q_zret (pc := 17) rfl rfl (by decide) ⟨_, rfl, k⟩
    · have k := k.2 z
      refine q_iconst (pc := 12) (v := 1) rfl (by decide) ?_
      refine q_goto (pc := 13) (tgt := 17) rfl (by decide) ?_
      exact q_zret (pc := 17) rfl rfl (by decide) ⟨_, rfl, k⟩
set_option maxHeartbeats 4000000 in
set_option maxRecDepth 100000 in
theorem dn_X4_rise {d : Nat} {a1 : Int32} {a2 : Int32} {a3 : Int32} {a4 : Int32} {a5 : Int32} {a6 : Int32} {a7 : Int32} {h : q_H} {Q : Int32 → q_H → Prop} (k : wp_X4_rise a1 a2 a3 a4 a5 a6 a7 h Q) : q_den (d + 2) 43 [q_r 0 0, q_i a1, q_i a2, q_i a3, q_i a4, q_i a5, q_i a6, q_i a7] h (q_ri Q) := by
  unfold wp_X4_rise at k
  refine ⟨by decide, Nat.le_of_ble_eq_true rfl, ?_⟩
  show q_run (q_pcs q_t_X4_rise) 4 8 none (q_den (d + 1)) 3 (q_ri Q) 0 [(0, q_r 0 0), (1, q_i a1), (2, q_i a2), (3, q_i a3), (4, q_i a4), (5, q_i a5), (6, q_i a6), (7, q_i a7)] [] h
  refine q_aload_n (pc := 0) rfl rfl ?_
  refine q_iload_n (pc := 1) rfl rfl ?_
  refine q_callV (pc := 2) (As := [q_i a1]) (rest := []) rfl rfl rfl (by decide) rfl rfl (Nat.le_of_ble_eq_true rfl) ?_
  refine q_den_mono _ _ _ _ _ _ ?_ (dn_X4_isPart (d := d)  k)
  rintro _ g1 ⟨r2, rfl, k⟩
  refine q_if_eq (pc := 5) (tgt := 35) rfl (by decide) (fun z => ?_) (fun z => ?_)
  · have k := k.1 z
    refine q_iconst (pc := 35) (v := 0) rfl (by decide) ?_
    exact q_zret (pc := 36) rfl rfl (by decide) ⟨_, rfl, k⟩
  · have k := k.2 z
    refine q_iload_n (pc := 8) rfl rfl ?_
    refine q_iload_n (pc := 9) rfl rfl ?_
    refine q_iload (pc := 10) rfl rfl ?_
    refine q_sipush (pc := 12) (v := 999) rfl (by decide) ?_
    refine q_callS (kd := 0) (pc := 15) (As := [q_i a2, q_i a3, q_i a4, q_i 999]) (rest := []) rfl rfl rfl  rfl (Nat.le_of_ble_eq_true rfl) ?_
    refine q_den_mono _ _ _ _ _ _ ?_ (dn_X4_rises (d := d)  k)
    rintro _ g3 ⟨r4, rfl, k⟩
    refine q_if_eq (pc := 18) (tgt := 35) rfl (by decide) (fun z => ?_) (fun z => ?_)
    · have k := k.1 z
      refine q_iconst (pc := 35) (v := 0) rfl (by decide) ?_
      exact q_zret (pc := 36) rfl rfl (by decide) ⟨_, rfl, k⟩
    · have k := k.2 z
      refine q_iload (pc := 21) rfl rfl ?_
      refine q_iload (pc := 23) rfl rfl ?_
      refine q_iload (pc := 25) rfl rfl ?_
      refine q_bipush (pc := 27) (v := 9) rfl (by decide) ?_
      refine q_callS (kd := 0) (pc := 29) (As := [q_i a5, q_i a6, q_i a7, q_i 9]) (rest := []) rfl rfl rfl  rfl (Nat.le_of_ble_eq_true rfl) ?_
      refine q_den_mono _ _ _ _ _ _ ?_ (dn_X4_rises (d := d)  k)
      rintro _ g5 ⟨r6, rfl, k⟩
      refine q_if_ne (pc := 32) (tgt := 37) rfl (by decide) (fun z => ?_) (fun z => ?_)
      · have k := k.2 z
        refine q_aload_n (pc := 37) rfl rfl ?_
        refine q_getR (pc := 38) rfl (by decide) rfl rfl rfl ?_
        refine q_iload_n (pc := 41) rfl rfl ?_
        obtain ⟨b7, k⟩ := k
        refine q_aaload (pc := 42) rfl (by decide) rfl rfl b7 ?_
        refine q_iload_n (pc := 43) rfl rfl ?_
        refine q_iload_n (pc := 44) rfl rfl ?_
        refine q_iload (pc := 45) rfl rfl ?_
        refine q_callV (pc := 47) (As := [q_i a2, q_i a3, q_i a4]) (rest := []) rfl rfl rfl (q_vin b7) rfl rfl (Nat.le_of_ble_eq_true rfl) ?_
        refine q_den_mono _ _ _ _ _ _ ?_ (dn_X1_setCosts (d := d) (q_vin b7) k)
        rintro _ g8 ⟨rfl, k⟩
        refine q_aload_n (pc := 50) rfl rfl ?_
        refine q_getR (pc := 51) rfl (by decide) rfl rfl rfl ?_
        refine q_iload_n (pc := 54) rfl rfl ?_
        obtain ⟨b9, k⟩ := k
        refine q_aaload (pc := 55) rfl (by decide) rfl rfl b9 ?_
        refine q_iload (pc := 56) rfl rfl ?_
        refine q_iload (pc := 58) rfl rfl ?_
        refine q_iload (pc := 60) rfl rfl ?_
        refine q_callV (pc := 62) (As := [q_i a5, q_i a6, q_i a7]) (rest := []) rfl rfl rfl (q_vin b9) rfl rfl (Nat.le_of_ble_eq_true rfl) ?_
        refine q_den_mono _ _ _ _ _ _ ?_ (dn_X1_setRising (d := d) (q_vin b9) k)
        rintro _ g10 ⟨rfl, k⟩
        refine q_iconst (pc := 65) (v := 1) rfl (by decide) ?_
        exact q_zret (pc := 66) rfl rfl (by decide) ⟨_, rfl, k⟩
      · have k := k.1 z
        refine q_iconst (pc := 35) (v := 0) rfl (by decide) ?_
        exact q_zret (pc := 36) rfl rfl (by decide) ⟨_, rfl, k⟩
set_option maxHeartbeats 4000000 in
set_option maxRecDepth 100000 in
theorem dl_X4_leadsTo_17 {d : Nat} {x2 : Int32} {x4 : Int32} {E : Int32 → Int32 → q_H → Prop} {Q : Int32 → q_H → Prop} (hE : ∀ (x3 : Int32) (x5 : Int32) (h : q_H), E x3 x5 h → q_run (q_pcs q_t_X4_leadsTo) 4 6 none (q_den (d + 1)) 3 (q_ri Q) 49 [(0, q_r 0 0), (2, q_i x2), (3, q_i x3), (4, q_i x4), (5, q_i x5)] [] h) : ∀ (n : Nat) (x3 : Int32) (x5 : Int32) (h : q_H), lp_X4_leadsTo_17 x2 x4 E n x3 x5 h → q_run (q_pcs q_t_X4_leadsTo) 4 6 none (q_den (d + 1)) 3 (q_ri Q) 17 [(0, q_r 0 0), (2, q_i x2), (3, q_i x3), (4, q_i x4), (5, q_i x5)] [] h := by
  intro n
  induction n with
  | zero => intro x3 x5 h k; exact k.elim
  | succ n ih =>
    intro x3 x5 h k
    unfold lp_X4_leadsTo_17 at k
    refine q_iload (pc := 17) rfl rfl ?_
    refine q_bipush (pc := 19) (v := 6) rfl (by decide) ?_
    refine q_icmp_ge (pc := 21) (tgt := 49) rfl (by decide) (fun z => ?_) (fun z => ?_)
    · have k := k.1 z
      refine q_sub (pc := 49) (ks := [0, 1, 2, 3, 4]) rfl ?_
      exact hE _ _ _ k
    · have k := k.2 z
      refine q_iload_n (pc := 24) rfl rfl ?_
      refine q_iload (pc := 25) rfl rfl ?_
      refine q_callS (kd := 0) (pc := 27) (As := [q_i x3, q_i x5]) (rest := []) rfl rfl rfl  rfl (Nat.le_of_ble_eq_true rfl) ?_
      refine q_den_mono _ _ _ _ _ _ ?_ (dn_X4_hasPart (d := d)  k)
      rintro _ g1 ⟨r2, rfl, k⟩
      refine q_if_eq (pc := 30) (tgt := 43) rfl (by decide) (fun z => ?_) (fun z => ?_)
      · have k := k.1 z
        refine q_iinc (pc := 43) (v := (x5 + 1)) (ls1 := [(5, q_i (x5 + 1)), (0, q_r 0 0), (2, q_i x2), (3, q_i x3), (4, q_i x4)]) rfl (by decide) rfl (congrArg (fun z => x5 + z) (by decide : Int32.ofInt 1 = 1)) rfl ?_
        refine q_goto (pc := 46) (tgt := 17) rfl (by decide) ?_
        refine q_sub (pc := 17) (ks := [1, 2, 3, 4, 0]) rfl ?_
        exact ih _ _ _ k
      · have k := k.2 z
        refine q_iload_n (pc := 33) rfl rfl ?_
        refine q_aload_n (pc := 34) rfl rfl ?_
        refine q_getR (pc := 35) rfl (by decide) rfl rfl rfl ?_
        refine q_iload (pc := 38) rfl rfl ?_
        obtain ⟨b3, k⟩ := k
        refine q_iaload (pc := 40) rfl (by decide) rfl rfl b3 ?_
        refine q_ior (pc := 41) rfl ?_
        refine q_istore_n (pc := 42) (ls1 := [(3, q_i (x3 ||| (Prod.fst g1 7 0 (Int32.toNatClampNeg x5)))), (0, q_r 0 0), (2, q_i x2), (4, q_i x4), (5, q_i x5)]) rfl (by decide) rfl ?_
        refine q_iinc (pc := 43) (v := (x5 + 1)) (ls1 := [(5, q_i (x5 + 1)), (3, q_i (x3 ||| (Prod.fst g1 7 0 (Int32.toNatClampNeg x5)))), (0, q_r 0 0), (2, q_i x2), (4, q_i x4)]) rfl (by decide) rfl (congrArg (fun z => x5 + z) (by decide : Int32.ofInt 1 = 1)) rfl ?_
        refine q_goto (pc := 46) (tgt := 17) rfl (by decide) ?_
        refine q_sub (pc := 17) (ks := [2, 3, 1, 4, 0]) rfl ?_
        exact ih _ _ _ k
set_option maxHeartbeats 4000000 in
set_option maxRecDepth 100000 in
theorem dl_X4_leadsTo_7 {d : Nat} {x2 : Int32} {E : Int32 → Int32 → q_H → Prop} {Q : Int32 → q_H → Prop} (hE : ∀ (x3 : Int32) (x4 : Int32) (h : q_H), E x3 x4 h → q_run (q_pcs q_t_X4_leadsTo) 4 6 none (q_den (d + 1)) 3 (q_ri Q) 55 [(0, q_r 0 0), (2, q_i x2), (3, q_i x3), (4, q_i x4)] [] h) : ∀ (n : Nat) (x3 : Int32) (x4 : Int32) (h : q_H), lp_X4_leadsTo_7 x2 E n x3 x4 h → q_run (q_pcs q_t_X4_leadsTo) 4 6 none (q_den (d + 1)) 3 (q_ri Q) 7 [(0, q_r 0 0), (2, q_i x2), (3, q_i x3), (4, q_i x4)] [] h := by
  intro n
  induction n with
  | zero => intro x3 x4 h k; exact k.elim
  | succ n ih =>
    intro x3 x4 h k
    unfold lp_X4_leadsTo_7 at k
    refine q_iload (pc := 7) rfl rfl ?_
    refine q_bipush (pc := 9) (v := 6) rfl (by decide) ?_
    refine q_icmp_ge (pc := 11) (tgt := 55) rfl (by decide) (fun z => ?_) (fun z => ?_)
    · have k := k.1 z
      refine q_sub (pc := 55) (ks := [0, 1, 2, 3]) rfl ?_
      exact hE _ _ _ k
    · have k := k.2 z
      refine q_iconst (pc := 14) (v := 0) rfl (by decide) ?_
      refine q_istore (pc := 15) (ls1 := [(5, q_i 0), (0, q_r 0 0), (2, q_i x2), (3, q_i x3), (4, q_i x4)]) rfl (by decide) rfl ?_
      obtain ⟨n4, k⟩ := k
      refine q_sub (pc := 17) (ks := [1, 2, 3, 4, 0]) rfl ?_
      refine dl_X4_leadsTo_17 (fun y3_4 y5_4 g4 k => ?_) n4 _ _ _ k
      refine q_iinc (pc := 49) (v := (x4 + 1)) (ls1 := [(4, q_i (x4 + 1)), (0, q_r 0 0), (2, q_i x2), (3, q_i y3_4), (5, q_i y5_4)]) rfl (by decide) rfl (congrArg (fun z => x4 + z) (by decide : Int32.ofInt 1 = 1)) rfl ?_
      refine q_goto (pc := 52) (tgt := 7) rfl (by decide) ?_
      refine q_sub (pc := 7) (ks := [1, 2, 3, 0]) rfl ?_
      exact ih _ _ _ k
set_option maxHeartbeats 4000000 in
set_option maxRecDepth 100000 in
theorem dn_X4_leadsTo {d : Nat} {a1 : Int32} {a2 : Int32} {h : q_H} {Q : Int32 → q_H → Prop} (k : wp_X4_leadsTo a1 a2 h Q) : q_den (d + 2) 74 [q_r 0 0, q_i a1, q_i a2] h (q_ri Q) := by
  unfold wp_X4_leadsTo at k
  refine ⟨by decide, Nat.le_of_ble_eq_true rfl, ?_⟩
  show q_run (q_pcs q_t_X4_leadsTo) 4 6 none (q_den (d + 1)) 3 (q_ri Q) 0 [(0, q_r 0 0), (1, q_i a1), (2, q_i a2)] [] h
  refine q_iconst (pc := 0) (v := 1) rfl (by decide) ?_
  refine q_iload_n (pc := 1) rfl rfl ?_
  refine q_ishl (pc := 2) rfl ?_
  refine q_istore_n (pc := 3) (ls1 := [(3, q_i (1 <<< (a1 &&& 31))), (0, q_r 0 0), (1, q_i a1), (2, q_i a2)]) rfl (by decide) rfl ?_
  refine q_iconst (pc := 4) (v := 1) rfl (by decide) ?_
  refine q_istore (pc := 5) (ls1 := [(4, q_i 1), (3, q_i (1 <<< (a1 &&& 31))), (0, q_r 0 0), (1, q_i a1), (2, q_i a2)]) rfl (by decide) rfl ?_
  obtain ⟨n5, k⟩ := k
  refine q_sub (pc := 7) (ks := [2, 4, 1, 0]) rfl ?_
  refine dl_X4_leadsTo_7 (fun y3_5 y4_5 g5 k => ?_) n5 _ _ _ k
  refine q_iload_n (pc := 55) rfl rfl ?_
  refine q_iload_n (pc := 56) rfl rfl ?_
  refine q_callS (kd := 0) (pc := 57) (As := [q_i y3_5, q_i a2]) (rest := []) rfl rfl rfl  rfl (Nat.le_of_ble_eq_true rfl) ?_
  refine q_den_mono _ _ _ _ _ _ ?_ (dn_X4_hasPart (d := d)  k)
  rintro _ g6 ⟨r7, rfl, k⟩
  exact q_zret (pc := 60) rfl rfl k.1 ⟨_, rfl, k.2⟩
set_option maxHeartbeats 4000000 in
set_option maxRecDepth 100000 in
theorem dl_X4_leastTick_2 {d : Nat} {x0 : Int64} {E : Int32 → q_H → Prop} {Q : Int32 → q_H → Prop} (hE : ∀ (x2 : Int32) (h : q_H), E x2 h → q_run (q_pcs q_t_X4_leastTick) 4 3 none (q_den (d + 1)) 1 (q_ri Q) 24 [(0, q_l x0), (2, q_i x2)] [] h) : ∀ (n : Nat) (x2 : Int32) (h : q_H), lp_X4_leastTick_2 x0 Q E n x2 h → q_run (q_pcs q_t_X4_leastTick) 4 3 none (q_den (d + 1)) 1 (q_ri Q) 2 [(0, q_l x0), (2, q_i x2)] [] h := by
  intro n
  induction n with
  | zero => intro x2 h k; exact k.elim
  | succ n ih =>
    intro x2 h k
    unfold lp_X4_leastTick_2 at k
    refine q_iload_n (pc := 2) rfl rfl ?_
    refine q_bipush (pc := 3) (v := 64) rfl (by decide) ?_
    refine q_icmp_ge (pc := 5) (tgt := 24) rfl (by decide) (fun z => ?_) (fun z => ?_)
    · have k := k.1 z
      refine q_sub (pc := 24) (ks := [0, 1]) rfl ?_
      exact hE _ _ k
    · have k := k.2 z
      refine q_lload_n (pc := 8) rfl rfl ?_
      refine q_iload_n (pc := 9) rfl rfl ?_
      refine q_callS (kd := 0) (pc := 10) (As := [q_l x0, q_i x2]) (rest := []) rfl rfl rfl  rfl (Nat.le_of_ble_eq_true rfl) ?_
      refine q_den_mono _ _ _ _ _ _ ?_ (dn_X4_hasTick (d := d)  k)
      rintro _ g1 ⟨r2, rfl, k⟩
      refine q_if_eq (pc := 13) (tgt := 18) rfl (by decide) (fun z => ?_) (fun z => ?_)
      · have k := k.1 z
        refine q_iinc (pc := 18) (v := (x2 + 1)) (ls1 := [(2, q_i (x2 + 1)), (0, q_l x0)]) rfl (by decide) rfl (congrArg (fun z => x2 + z) (by decide : Int32.ofInt 1 = 1)) rfl ?_
        refine q_goto (pc := 21) (tgt := 2) rfl (by decide) ?_
        refine q_sub (pc := 2) (ks := [1, 0]) rfl ?_
        exact ih _ _ k
      · have k := k.2 z
        refine q_iload_n (pc := 16) rfl rfl ?_
        exact q_iret (pc := 17) rfl rfl ⟨_, rfl, k⟩
set_option maxHeartbeats 4000000 in
set_option maxRecDepth 100000 in
theorem dn_X4_leastTick {d : Nat} {a0 : Int64} {h : q_H} {Q : Int32 → q_H → Prop} (k : wp_X4_leastTick a0 h Q) : q_den (d + 2) 72 [q_l a0] h (q_ri Q) := by
  unfold wp_X4_leastTick at k
  refine ⟨by decide, Nat.le_of_ble_eq_true rfl, ?_⟩
  show q_run (q_pcs q_t_X4_leastTick) 4 3 none (q_den (d + 1)) 1 (q_ri Q) 0 [(0, q_l a0)] [] h
  refine q_iconst (pc := 0) (v := 0) rfl (by decide) ?_
  refine q_istore_n (pc := 1) (ls1 := [(2, q_i 0), (0, q_l a0)]) rfl (by decide) rfl ?_
  obtain ⟨n3, k⟩ := k
  refine q_sub (pc := 2) (ks := [1, 0]) rfl ?_
  refine dl_X4_leastTick_2 (fun y2_3 g3 k => ?_) n3 _ _ k
  refine q_iconst (pc := 24) (v := (-1)) rfl (by decide) ?_
  exact q_iret (pc := 25) rfl rfl ⟨_, rfl, k⟩
set_option maxHeartbeats 4000000 in
set_option maxRecDepth 100000 in
theorem dl_X4_gatherWants_6 {d : Nat} {w : Nat} {x2 : Int32} (hw : w < 2) {E : Int32 → q_H → Prop} {Q : q_H → Prop} (hE : ∀ (x3 : Int32) (h : q_H), E x3 h → q_run (q_pcs q_t_X4_gatherWants) 4 5 none (q_den (d + 3)) 0 (q_rv Q) 56 [(0, q_r 0 0), (1, q_r 13 w), (2, q_i x2), (3, q_i x3)] [] h) : ∀ (n : Nat) (x3 : Int32) (h : q_H), lp_X4_gatherWants_6 w x2 E n x3 h → q_run (q_pcs q_t_X4_gatherWants) 4 5 none (q_den (d + 3)) 0 (q_rv Q) 6 [(0, q_r 0 0), (1, q_r 13 w), (2, q_i x2), (3, q_i x3)] [] h := by
  intro n
  induction n with
  | zero => intro x3 h k; exact k.elim
  | succ n ih =>
    intro x3 h k
    unfold lp_X4_gatherWants_6 at k
    refine q_iload_n (pc := 6) rfl rfl ?_
    refine q_aload_n (pc := 7) rfl rfl ?_
    refine q_getR (pc := 8) rfl (by decide) rfl rfl rfl ?_
    refine q_callV (pc := 11) (As := []) (rest := [q_i x3]) rfl rfl rfl (by decide) rfl rfl (Nat.le_of_ble_eq_true rfl) ?_
    refine q_den_mono _ _ _ _ _ _ ?_ (dn_X0_size (d := d + 2) (by decide) k)
    rintro _ g2 ⟨r3, rfl, k⟩
    refine q_icmp_ge (pc := 14) (tgt := 56) rfl (by decide) (fun z => ?_) (fun z => ?_)
    · have k := k.1 z
      refine q_sub (pc := 56) (ks := [0, 1, 2, 3]) rfl ?_
      exact hE _ _ k
    · have k := k.2 z
      refine q_iload_n (pc := 17) rfl rfl ?_
      refine q_iload_n (pc := 18) rfl rfl ?_
      refine q_icmp_eq (pc := 19) (tgt := 50) rfl (by decide) (fun z => ?_) (fun z => ?_)
      · have k := k.1 z
        refine q_iinc (pc := 50) (v := (x3 + 1)) (ls1 := [(3, q_i (x3 + 1)), (0, q_r 0 0), (1, q_r 13 w), (2, q_i x2)]) rfl (by decide) rfl (congrArg (fun z => x3 + z) (by decide : Int32.ofInt 1 = 1)) rfl ?_
        refine q_goto (pc := 53) (tgt := 6) rfl (by decide) ?_
        refine q_sub (pc := 6) (ks := [1, 2, 3, 0]) rfl ?_
        exact ih _ _ k
      · have k := k.2 z
        refine q_aload_n (pc := 22) rfl rfl ?_
        refine q_aload_n (pc := 23) rfl rfl ?_
        refine q_getR (pc := 24) rfl (by decide) rfl rfl rfl ?_
        refine q_iload_n (pc := 27) rfl rfl ?_
        refine q_callV (pc := 28) (As := [q_i x3]) (rest := [q_r 13 w]) rfl rfl rfl (by decide) rfl rfl (Nat.le_of_ble_eq_true rfl) ?_
        refine q_den_mono _ _ _ _ _ _ ?_ (dn_X0_programOf (d := d + 2) (by decide) k)
        rintro _ g4 ⟨r5, rfl, k⟩
        refine q_aload_n (pc := 31) rfl rfl ?_
        refine q_getR (pc := 32) rfl (by decide) rfl rfl rfl ?_
        refine q_iload_n (pc := 35) rfl rfl ?_
        refine q_callV (pc := 36) (As := [q_i x3]) (rest := [q_i r5, q_r 13 w]) rfl rfl rfl (by decide) rfl rfl (Nat.le_of_ble_eq_true rfl) ?_
        refine q_den_mono _ _ _ _ _ _ ?_ (dn_X0_partOf (d := d + 2) (by decide) k)
        rintro _ g6 ⟨r7, rfl, k⟩
        refine q_aload_n (pc := 39) rfl rfl ?_
        refine q_getR (pc := 40) rfl (by decide) rfl rfl rfl ?_
        refine q_iload_n (pc := 43) rfl rfl ?_
        refine q_callV (pc := 44) (As := [q_i x3]) (rest := [q_i r7, q_i r5, q_r 13 w]) rfl rfl rfl (by decide) rfl rfl (Nat.le_of_ble_eq_true rfl) ?_
        refine q_den_mono _ _ _ _ _ _ ?_ (dn_X0_ticksOf (d := d + 1) (by decide) k)
        rintro _ g8 ⟨r9, rfl, k⟩
        refine q_callV (pc := 47) (As := [q_i r5, q_i r7, q_l r9]) (rest := []) rfl rfl rfl hw rfl rfl (Nat.le_of_ble_eq_true rfl) ?_
        refine q_den_mono _ _ _ _ _ _ ?_ (dn_X3_add (d := d + 2) hw k)
        rintro _ g10 ⟨rfl, k⟩
        refine q_iinc (pc := 50) (v := (x3 + 1)) (ls1 := [(3, q_i (x3 + 1)), (0, q_r 0 0), (1, q_r 13 w), (2, q_i x2)]) rfl (by decide) rfl (congrArg (fun z => x3 + z) (by decide : Int32.ofInt 1 = 1)) rfl ?_
        refine q_goto (pc := 53) (tgt := 6) rfl (by decide) ?_
        refine q_sub (pc := 6) (ks := [1, 2, 3, 0]) rfl ?_
        exact ih _ _ k
set_option maxHeartbeats 4000000 in
set_option maxRecDepth 100000 in
theorem dl_X4_gatherWants_58 {d : Nat} {w : Nat} (hw : w < 2) {E : Int32 → q_H → Prop} {Q : q_H → Prop} (hE : ∀ (x3 : Int32) (h : q_H), E x3 h → q_run (q_pcs q_t_X4_gatherWants) 4 5 none (q_den (d + 3)) 0 (q_rv Q) 123 [(0, q_r 0 0), (1, q_r 13 w), (3, q_i x3)] [] h) : ∀ (n : Nat) (x3 : Int32) (h : q_H), lp_X4_gatherWants_58 w E n x3 h → q_run (q_pcs q_t_X4_gatherWants) 4 5 none (q_den (d + 3)) 0 (q_rv Q) 58 [(0, q_r 0 0), (1, q_r 13 w), (3, q_i x3)] [] h := by
  intro n
  induction n with
  | zero => intro x3 h k; exact k.elim
  | succ n ih =>
    intro x3 h k
    unfold lp_X4_gatherWants_58 at k
    refine q_iload_n (pc := 58) rfl rfl ?_
    refine q_aload_n (pc := 59) rfl rfl ?_
    refine q_getR (pc := 60) rfl (by decide) rfl rfl rfl ?_
    refine q_callV (pc := 63) (As := []) (rest := [q_i x3]) rfl rfl rfl (by decide) rfl rfl (Nat.le_of_ble_eq_true rfl) ?_
    refine q_den_mono _ _ _ _ _ _ ?_ (dn_X0_size (d := d + 2) (by decide) k)
    rintro _ g12 ⟨r13, rfl, k⟩
    refine q_icmp_ge (pc := 66) (tgt := 123) rfl (by decide) (fun z => ?_) (fun z => ?_)
    · have k := k.1 z
      refine q_sub (pc := 123) (ks := [0, 1, 2]) rfl ?_
      exact hE _ _ k
    · have k := k.2 z
      refine q_aload_n (pc := 69) rfl rfl ?_
      refine q_getL (pc := 70) rfl (by decide) rfl rfl rfl ?_
      refine q_aload_n (pc := 73) rfl rfl ?_
      refine q_getR (pc := 74) rfl (by decide) rfl rfl rfl ?_
      refine q_iload_n (pc := 77) rfl rfl ?_
      refine q_callV (pc := 78) (As := [q_i x3]) (rest := [q_l (Prod.snd g12 0 0 5)]) rfl rfl rfl (by decide) rfl rfl (Nat.le_of_ble_eq_true rfl) ?_
      refine q_den_mono _ _ _ _ _ _ ?_ (dn_X0_ticksOf (d := d + 1) (by decide) k)
      rintro _ g14 ⟨r15, rfl, k⟩
      refine q_land (pc := 81) rfl ?_
      refine q_callS (kd := 0) (pc := 82) (As := [q_l ((Prod.snd g12 0 0 5) &&& r15)]) (rest := []) rfl rfl rfl  rfl (Nat.le_of_ble_eq_true rfl) ?_
      refine q_den_mono _ _ _ _ _ _ ?_ (dn_X4_leastTick (d := d + 1)  k)
      rintro _ g16 ⟨r17, rfl, k⟩
      refine q_istore (pc := 85) (ls1 := [(4, q_i r17), (0, q_r 0 0), (1, q_r 13 w), (3, q_i x3)]) rfl (by decide) rfl ?_
      refine q_iload (pc := 87) rfl rfl ?_
      refine q_iconst (pc := 89) (v := (-1)) rfl (by decide) ?_
      refine q_icmp_eq (pc := 90) (tgt := 117) rfl (by decide) (fun z => ?_) (fun z => ?_)
      · have k := k.1 z
        refine q_iinc (pc := 117) (v := (x3 + 1)) (ls1 := [(3, q_i (x3 + 1)), (4, q_i r17), (0, q_r 0 0), (1, q_r 13 w)]) rfl (by decide) rfl (congrArg (fun z => x3 + z) (by decide : Int32.ofInt 1 = 1)) rfl ?_
        refine q_goto (pc := 120) (tgt := 58) rfl (by decide) ?_
        refine q_sub (pc := 58) (ks := [2, 3, 0]) rfl ?_
        exact ih _ _ k
      · have k := k.2 z
        refine q_aload_n (pc := 93) rfl rfl ?_
        refine q_aload_n (pc := 94) rfl rfl ?_
        refine q_getR (pc := 95) rfl (by decide) rfl rfl rfl ?_
        refine q_iload_n (pc := 98) rfl rfl ?_
        refine q_callV (pc := 99) (As := [q_i x3]) (rest := [q_r 13 w]) rfl rfl rfl (by decide) rfl rfl (Nat.le_of_ble_eq_true rfl) ?_
        refine q_den_mono _ _ _ _ _ _ ?_ (dn_X0_programOf (d := d + 2) (by decide) k)
        rintro _ g18 ⟨r19, rfl, k⟩
        refine q_aload_n (pc := 102) rfl rfl ?_
        refine q_getR (pc := 103) rfl (by decide) rfl rfl rfl ?_
        refine q_iload_n (pc := 106) rfl rfl ?_
        refine q_callV (pc := 107) (As := [q_i x3]) (rest := [q_i r19, q_r 13 w]) rfl rfl rfl (by decide) rfl rfl (Nat.le_of_ble_eq_true rfl) ?_
        refine q_den_mono _ _ _ _ _ _ ?_ (dn_X0_partOf (d := d + 2) (by decide) k)
        rintro _ g20 ⟨r21, rfl, k⟩
        refine q_lconst (pc := 110) (v := 1) rfl (by decide) ?_
        refine q_iload (pc := 111) rfl rfl ?_
        refine q_lshl (pc := 113) rfl ?_
        refine q_callV (pc := 114) (As := [q_i r19, q_i r21, q_l (1 <<< (Int32.toInt64 r17 &&& 63))]) (rest := []) rfl rfl rfl hw rfl rfl (Nat.le_of_ble_eq_true rfl) ?_
        refine q_den_mono _ _ _ _ _ _ ?_ (dn_X3_add (d := d + 2) hw k)
        rintro _ g22 ⟨rfl, k⟩
        refine q_iinc (pc := 117) (v := (x3 + 1)) (ls1 := [(3, q_i (x3 + 1)), (4, q_i r17), (0, q_r 0 0), (1, q_r 13 w)]) rfl (by decide) rfl (congrArg (fun z => x3 + z) (by decide : Int32.ofInt 1 = 1)) rfl ?_
        refine q_goto (pc := 120) (tgt := 58) rfl (by decide) ?_
        refine q_sub (pc := 58) (ks := [2, 3, 0]) rfl ?_
        exact ih _ _ k
set_option maxHeartbeats 4000000 in
set_option maxRecDepth 100000 in
theorem dn_X4_gatherWants {d : Nat} {w : Nat} {a2 : Int32} (hw : w < 2) {h : q_H} {Q : q_H → Prop} (k : wp_X4_gatherWants w a2 h Q) : q_den (d + 4) 76 [q_r 0 0, q_r 13 w, q_i a2] h (q_rv Q) := by
  unfold wp_X4_gatherWants at k
  refine ⟨by decide, Nat.le_of_ble_eq_true rfl, ?_⟩
  show q_run (q_pcs q_t_X4_gatherWants) 4 5 none (q_den (d + 3)) 0 (q_rv Q) 0 [(0, q_r 0 0), (1, q_r 13 w), (2, q_i a2)] [] h
  refine q_aload_n (pc := 0) rfl rfl ?_
  refine q_callV (pc := 1) (As := []) (rest := []) rfl rfl rfl hw rfl rfl (Nat.le_of_ble_eq_true rfl) ?_
  refine q_den_mono _ _ _ _ _ _ ?_ (dn_X3_clear (d := d + 2) hw k)
  rintro _ g1 ⟨rfl, k⟩
  refine q_iconst (pc := 4) (v := 0) rfl (by decide) ?_
  refine q_istore_n (pc := 5) (ls1 := [(3, q_i 0), (0, q_r 0 0), (1, q_r 13 w), (2, q_i a2)]) rfl (by decide) rfl ?_
  obtain ⟨n11, k⟩ := k
  refine q_sub (pc := 6) (ks := [1, 2, 3, 0]) rfl ?_
  refine dl_X4_gatherWants_6 hw (fun y3_11 g11 k => ?_) n11 _ _ k
  refine q_iconst (pc := 56) (v := 0) rfl (by decide) ?_
  refine q_istore_n (pc := 57) (ls1 := [(3, q_i 0), (0, q_r 0 0), (1, q_r 13 w), (2, q_i a2)]) rfl (by decide) rfl ?_
  obtain ⟨n23, k⟩ := k
  refine q_sub (pc := 58) (ks := [1, 2, 0]) rfl ?_
  refine dl_X4_gatherWants_58 hw (fun y3_23 g23 k => ?_) n23 _ _ k
  refine q_aload_n (pc := 123) rfl rfl ?_
  refine q_aload_n (pc := 124) rfl rfl ?_
  refine q_getR (pc := 125) rfl (by decide) rfl rfl rfl ?_
  refine q_callV (pc := 128) (As := [q_r 7 0]) (rest := []) rfl rfl rfl hw rfl rfl (Nat.le_of_ble_eq_true rfl) ?_
  refine q_den_mono _ _ _ _ _ _ ?_ (dn_X3_spread (d := d) hw k)
  rintro _ g24 ⟨rfl, k⟩
  exact q_vret (pc := 131) rfl rfl ⟨rfl, k⟩
set_option maxHeartbeats 4000000 in
set_option maxRecDepth 100000 in
theorem dn_X4_need {d : Nat} {a1 : Int32} {a2 : Int32} {a3 : Int32} {h : q_H} {Q : Int32 → q_H → Prop} (k : wp_X4_need a1 a2 a3 h Q) : q_den (d + 5) 44 [q_r 0 0, q_i a1, q_i a2, q_i a3] h (q_ri Q) := by
  unfold wp_X4_need at k
  refine ⟨by decide, Nat.le_of_ble_eq_true rfl, ?_⟩
  show q_run (q_pcs q_t_X4_need) 4 4 none (q_den (d + 4)) 3 (q_ri Q) 0 [(0, q_r 0 0), (1, q_i a1), (2, q_i a2), (3, q_i a3)] [] h
  refine q_aload_n (pc := 0) rfl rfl ?_
  refine q_iload_n (pc := 1) rfl rfl ?_
  refine q_callV (pc := 2) (As := [q_i a1]) (rest := []) rfl rfl rfl (by decide) rfl rfl (Nat.le_of_ble_eq_true rfl) ?_
  refine q_den_mono _ _ _ _ _ _ ?_ (dn_X4_isPart (d := d + 3)  k)
  rintro _ g1 ⟨r2, rfl, k⟩
  refine q_if_eq (pc := 5) (tgt := 30) rfl (by decide) (fun z => ?_) (fun z => ?_)
  · have k := k.1 z
    refine q_iconst (pc := 30) (v := 0) rfl (by decide) ?_
    exact q_zret (pc := 31) rfl rfl (by decide) ⟨_, rfl, k⟩
  · have k := k.2 z
    refine q_aload_n (pc := 8) rfl rfl ?_
    refine q_iload_n (pc := 9) rfl rfl ?_
    refine q_callV (pc := 10) (As := [q_i a2]) (rest := []) rfl rfl rfl (by decide) rfl rfl (Nat.le_of_ble_eq_true rfl) ?_
    refine q_den_mono _ _ _ _ _ _ ?_ (dn_X4_isPart (d := d + 3)  k)
    rintro _ g3 ⟨r4, rfl, k⟩
    refine q_if_eq (pc := 13) (tgt := 30) rfl (by decide) (fun z => ?_) (fun z => ?_)
    · have k := k.1 z
      refine q_iconst (pc := 30) (v := 0) rfl (by decide) ?_
      exact q_zret (pc := 31) rfl rfl (by decide) ⟨_, rfl, k⟩
    · have k := k.2 z
      refine q_aload_n (pc := 16) rfl rfl ?_
      refine q_getR (pc := 17) rfl (by decide) rfl rfl rfl ?_
      refine q_iload_n (pc := 20) rfl rfl ?_
      obtain ⟨b5, k⟩ := k
      refine q_iaload (pc := 21) rfl (by decide) rfl rfl b5 ?_
      refine q_iload_n (pc := 22) rfl rfl ?_
      refine q_callS (kd := 0) (pc := 23) (As := [q_i (Prod.fst g3 7 0 (Int32.toNatClampNeg a1)), q_i a2]) (rest := []) rfl rfl rfl  rfl (Nat.le_of_ble_eq_true rfl) ?_
      refine q_den_mono _ _ _ _ _ _ ?_ (dn_X4_hasPart (d := d + 3)  k)
      rintro _ g6 ⟨r7, rfl, k⟩
      refine q_iload_n (pc := 26) rfl rfl ?_
      refine q_icmp_ne (pc := 27) (tgt := 32) rfl (by decide) (fun z => ?_) (fun z => ?_)
      · have k := k.2 z
        refine q_iload_n (pc := 32) rfl rfl ?_
        refine q_if_eq (pc := 33) (tgt := 47) rfl (by decide) (fun z => ?_) (fun z => ?_)
        · have k := k.1 z
          refine q_aload_n (pc := 47) rfl rfl ?_
          refine q_getR (pc := 48) rfl (by decide) rfl rfl rfl ?_
          refine q_iload_n (pc := 51) rfl rfl ?_
          refine q_dup2_11 (pc := 52) rfl rfl rfl ?_
          obtain ⟨b8, k⟩ := k
          refine q_iaload (pc := 53) rfl (by decide) rfl rfl b8 ?_
          refine q_iconst (pc := 54) (v := 1) rfl (by decide) ?_
          refine q_iload_n (pc := 55) rfl rfl ?_
          refine q_ishl (pc := 56) rfl ?_
          refine q_ixor (pc := 57) rfl ?_
          obtain ⟨b9, k⟩ := k
          refine q_iastore (pc := 58) rfl (by decide) rfl rfl b9 ?_
          refine q_aload_n (pc := 59) rfl rfl ?_
          refine q_aload_n (pc := 60) rfl rfl ?_
          refine q_getR (pc := 61) rfl (by decide) rfl rfl rfl ?_
          refine q_iconst (pc := 64) (v := (-1)) rfl (by decide) ?_
          refine q_callV (pc := 65) (As := [q_r 13 0, q_i (-1)]) (rest := []) rfl rfl rfl (by decide) rfl rfl (Nat.le_of_ble_eq_true rfl) ?_
          refine q_den_mono _ _ _ _ _ _ ?_ (dn_X4_gatherWants (d := d) (by decide) k)
          rintro _ g10 ⟨rfl, k⟩
          refine q_iconst (pc := 68) (v := 1) rfl (by decide) ?_
          exact q_zret (pc := 69) rfl rfl (by decide) ⟨_, rfl, k⟩
        · have k := k.2 z
          refine q_aload_n (pc := 36) rfl rfl ?_
          refine q_iload_n (pc := 37) rfl rfl ?_
          refine q_iload_n (pc := 38) rfl rfl ?_
          refine q_callV (pc := 39) (As := [q_i a2, q_i a1]) (rest := []) rfl rfl rfl (by decide) rfl rfl (Nat.le_of_ble_eq_true rfl) ?_
          refine q_den_mono _ _ _ _ _ _ ?_ (dn_X4_leadsTo (d := d + 2)  k)
          rintro _ g11 ⟨r12, rfl, k⟩
          refine q_if_eq (pc := 42) (tgt := 47) rfl (by decide) (fun z => ?_) (fun z => ?_)
          · have k := k.1 z
            refine q_aload_n (pc := 47) rfl rfl ?_
            refine q_getR (pc := 48) rfl (by decide) rfl rfl rfl ?_
            refine q_iload_n (pc := 51) rfl rfl ?_
            refine q_dup2_11 (pc := 52) rfl rfl rfl ?_
            obtain ⟨b13, k⟩ := k
            refine q_iaload (pc := 53) rfl (by decide) rfl rfl b13 ?_
            refine q_iconst (pc := 54) (v := 1) rfl (by decide) ?_
            refine q_iload_n (pc := 55) rfl rfl ?_
            refine q_ishl (pc := 56) rfl ?_
            refine q_ixor (pc := 57) rfl ?_
            obtain ⟨b14, k⟩ := k
            refine q_iastore (pc := 58) rfl (by decide) rfl rfl b14 ?_
            refine q_aload_n (pc := 59) rfl rfl ?_
            refine q_aload_n (pc := 60) rfl rfl ?_
            refine q_getR (pc := 61) rfl (by decide) rfl rfl rfl ?_
            refine q_iconst (pc := 64) (v := (-1)) rfl (by decide) ?_
            refine q_callV (pc := 65) (As := [q_r 13 0, q_i (-1)]) (rest := []) rfl rfl rfl (by decide) rfl rfl (Nat.le_of_ble_eq_true rfl) ?_
            refine q_den_mono _ _ _ _ _ _ ?_ (dn_X4_gatherWants (d := d) (by decide) k)
            rintro _ g15 ⟨rfl, k⟩
            refine q_iconst (pc := 68) (v := 1) rfl (by decide) ?_
            exact q_zret (pc := 69) rfl rfl (by decide) ⟨_, rfl, k⟩
          · have k := k.2 z
            refine q_iconst (pc := 45) (v := 0) rfl (by decide) ?_
            exact q_zret (pc := 46) rfl rfl (by decide) ⟨_, rfl, k⟩
      · have k := k.1 z
        refine q_iconst (pc := 30) (v := 0) rfl (by decide) ?_
        exact q_zret (pc := 31) rfl rfl (by decide) ⟨_, rfl, k⟩
set_option maxHeartbeats 4000000 in
set_option maxRecDepth 100000 in
theorem dn_X4_isProgram {d : Nat} {a0 : Int32} {h : q_H} {Q : Int32 → q_H → Prop} (k : wp_X4_isProgram a0 h Q) : q_den (d + 1) 67 [q_i a0] h (q_ri Q) := by
  unfold wp_X4_isProgram at k
  refine ⟨by decide, Nat.le_of_ble_eq_true rfl, ?_⟩
  show q_run (q_pcs q_t_X4_isProgram) 4 1 none (q_den d) 3 (q_ri Q) 0 [(0, q_i a0)] [] h
  refine q_iload_n (pc := 0) rfl rfl ?_
  refine q_if_lt (pc := 1) (tgt := 14) rfl (by decide) (fun z => ?_) (fun z => ?_)
  · have k := k.1 z
    refine q_iconst (pc := 14) (v := 0) rfl (by decide) ?_
    exact q_zret (pc := 15) rfl rfl (by decide) ⟨_, rfl, k⟩
  · have k := k.2 z
    refine q_iload_n (pc := 4) rfl rfl ?_
    refine q_bipush (pc := 5) (v := 8) rfl (by decide) ?_
    refine q_icmp_ge (pc := 7) (tgt := 14) rfl (by decide) (fun z => ?_) (fun z => ?_)
    · have k := k.1 z
      refine q_iconst (pc := 14) (v := 0) rfl (by decide) ?_
      exact q_zret (pc := 15) rfl rfl (by decide) ⟨_, rfl, k⟩
    · have k := k.2 z
      refine q_iconst (pc := 10) (v := 1) rfl (by decide) ?_
      refine q_goto (pc := 11) (tgt := 15) rfl (by decide) ?_
      exact q_zret (pc := 15) rfl rfl (by decide) ⟨_, rfl, k⟩
set_option maxHeartbeats 4000000 in
set_option maxRecDepth 100000 in
theorem dn_X4_hold {d : Nat} {a1 : Int32} {a2 : Int32} {a3 : Int32} {a4 : Int32} {h : q_H} {Q : Int32 → q_H → Prop} (k : wp_X4_hold a1 a2 a3 a4 h Q) : q_den (d + 5) 45 [q_r 0 0, q_i a1, q_i a2, q_i a3, q_i a4] h (q_ri Q) := by
  unfold wp_X4_hold at k
  refine ⟨by decide, Nat.le_of_ble_eq_true rfl, ?_⟩
  show q_run (q_pcs q_t_X4_hold) 4 6 none (q_den (d + 4)) 1 (q_ri Q) 0 [(0, q_r 0 0), (1, q_i a1), (2, q_i a2), (3, q_i a3), (4, q_i a4)] [] h
  refine q_iload_n (pc := 0) rfl rfl ?_
  refine q_callS (kd := 0) (pc := 1) (As := [q_i a1]) (rest := []) rfl rfl rfl  rfl (Nat.le_of_ble_eq_true rfl) ?_
  refine q_den_mono _ _ _ _ _ _ ?_ (dn_X4_isProgram (d := d + 3)  k)
  rintro _ g1 ⟨r2, rfl, k⟩
  refine q_if_eq (pc := 4) (tgt := 32) rfl (by decide) (fun z => ?_) (fun z => ?_)
  · have k := k.1 z
    refine q_iconst (pc := 32) (v := (-1)) rfl (by decide) ?_
    exact q_iret (pc := 33) rfl rfl ⟨_, rfl, k⟩
  · have k := k.2 z
    refine q_aload_n (pc := 7) rfl rfl ?_
    refine q_iload_n (pc := 8) rfl rfl ?_
    refine q_callV (pc := 9) (As := [q_i a2]) (rest := []) rfl rfl rfl (by decide) rfl rfl (Nat.le_of_ble_eq_true rfl) ?_
    refine q_den_mono _ _ _ _ _ _ ?_ (dn_X4_isPart (d := d + 3)  k)
    rintro _ g3 ⟨r4, rfl, k⟩
    refine q_if_eq (pc := 12) (tgt := 32) rfl (by decide) (fun z => ?_) (fun z => ?_)
    · have k := k.1 z
      refine q_iconst (pc := 32) (v := (-1)) rfl (by decide) ?_
      exact q_iret (pc := 33) rfl rfl ⟨_, rfl, k⟩
    · have k := k.2 z
      refine q_iload_n (pc := 15) rfl rfl ?_
      refine q_if_lt (pc := 16) (tgt := 32) rfl (by decide) (fun z => ?_) (fun z => ?_)
      · have k := k.1 z
        refine q_iconst (pc := 32) (v := (-1)) rfl (by decide) ?_
        exact q_iret (pc := 33) rfl rfl ⟨_, rfl, k⟩
      · have k := k.2 z
        refine q_iload_n (pc := 19) rfl rfl ?_
        refine q_iload (pc := 20) rfl rfl ?_
        refine q_icmp_ge (pc := 22) (tgt := 32) rfl (by decide) (fun z => ?_) (fun z => ?_)
        · have k := k.1 z
          refine q_iconst (pc := 32) (v := (-1)) rfl (by decide) ?_
          exact q_iret (pc := 33) rfl rfl ⟨_, rfl, k⟩
        · have k := k.2 z
          refine q_iload (pc := 25) rfl rfl ?_
          refine q_bipush (pc := 27) (v := 64) rfl (by decide) ?_
          refine q_icmp_le (pc := 29) (tgt := 34) rfl (by decide) (fun z => ?_) (fun z => ?_)
          · have k := k.1 z
            refine q_aload_n (pc := 34) rfl rfl ?_
            refine q_getR (pc := 35) rfl (by decide) rfl rfl rfl ?_
            refine q_iload_n (pc := 38) rfl rfl ?_
            refine q_iload_n (pc := 39) rfl rfl ?_
            refine q_iload_n (pc := 40) rfl rfl ?_
            refine q_iload (pc := 41) rfl rfl ?_
            refine q_callV (pc := 43) (As := [q_i a1, q_i a2, q_i a3, q_i a4]) (rest := []) rfl rfl rfl (by decide) rfl rfl (Nat.le_of_ble_eq_true rfl) ?_
            refine q_den_mono _ _ _ _ _ _ ?_ (dn_X0_add (d := d + 3) (by decide) k)
            rintro _ g5 ⟨r6, rfl, k⟩
            refine q_istore (pc := 46) (ls1 := [(5, q_i r6), (0, q_r 0 0), (1, q_i a1), (2, q_i a2), (3, q_i a3), (4, q_i a4)]) rfl (by decide) rfl ?_
            refine q_aload_n (pc := 48) rfl rfl ?_
            refine q_aload_n (pc := 49) rfl rfl ?_
            refine q_getR (pc := 50) rfl (by decide) rfl rfl rfl ?_
            refine q_iconst (pc := 53) (v := (-1)) rfl (by decide) ?_
            refine q_callV (pc := 54) (As := [q_r 13 0, q_i (-1)]) (rest := []) rfl rfl rfl (by decide) rfl rfl (Nat.le_of_ble_eq_true rfl) ?_
            refine q_den_mono _ _ _ _ _ _ ?_ (dn_X4_gatherWants (d := d) (by decide) k)
            rintro _ g7 ⟨rfl, k⟩
            refine q_iload (pc := 57) rfl rfl ?_
            exact q_iret (pc := 59) rfl rfl ⟨_, rfl, k⟩
          · have k := k.2 z
            refine q_iconst (pc := 32) (v := (-1)) rfl (by decide) ?_
            exact q_iret (pc := 33) rfl rfl ⟨_, rfl, k⟩
set_option maxHeartbeats 4000000 in
set_option maxRecDepth 100000 in
theorem dn_X4_back {d : Nat} {a1 : Int32} {a2 : Int32} {h : q_H} {Q : Int32 → q_H → Prop} (k : wp_X4_back a1 a2 h Q) : q_den (d + 5) 46 [q_r 0 0, q_i a1, q_i a2] h (q_ri Q) := by
  unfold wp_X4_back at k
  refine ⟨by decide, Nat.le_of_ble_eq_true rfl, ?_⟩
  show q_run (q_pcs q_t_X4_back) 4 3 none (q_den (d + 4)) 3 (q_ri Q) 0 [(0, q_r 0 0), (1, q_i a1), (2, q_i a2)] [] h
  refine q_aload_n (pc := 0) rfl rfl ?_
  refine q_getR (pc := 1) rfl (by decide) rfl rfl rfl ?_
  refine q_iload_n (pc := 4) rfl rfl ?_
  refine q_callV (pc := 5) (As := [q_i a1]) (rest := []) rfl rfl rfl (by decide) rfl rfl (Nat.le_of_ble_eq_true rfl) ?_
  refine q_den_mono _ _ _ _ _ _ ?_ (dn_X0_has (d := d + 3) (by decide) k)
  rintro _ g1 ⟨r2, rfl, k⟩
  refine q_if_eq (pc := 8) (tgt := 35) rfl (by decide) (fun z => ?_) (fun z => ?_)
  · have k := k.1 z
    refine q_iconst (pc := 35) (v := 0) rfl (by decide) ?_
    exact q_zret (pc := 36) rfl rfl (by decide) ⟨_, rfl, k⟩
  · have k := k.2 z
    refine q_iload_n (pc := 11) rfl rfl ?_
    refine q_aload_n (pc := 12) rfl rfl ?_
    refine q_getR (pc := 13) rfl (by decide) rfl rfl rfl ?_
    refine q_iload_n (pc := 16) rfl rfl ?_
    refine q_callV (pc := 17) (As := [q_i a1]) (rest := [q_i a2]) rfl rfl rfl (by decide) rfl rfl (Nat.le_of_ble_eq_true rfl) ?_
    refine q_den_mono _ _ _ _ _ _ ?_ (dn_X0_fromOf (d := d + 3) (by decide) k)
    rintro _ g3 ⟨r4, rfl, k⟩
    refine q_icmp_lt (pc := 20) (tgt := 35) rfl (by decide) (fun z => ?_) (fun z => ?_)
    · have k := k.1 z
      refine q_iconst (pc := 35) (v := 0) rfl (by decide) ?_
      exact q_zret (pc := 36) rfl rfl (by decide) ⟨_, rfl, k⟩
    · have k := k.2 z
      refine q_iload_n (pc := 23) rfl rfl ?_
      refine q_aload_n (pc := 24) rfl rfl ?_
      refine q_getR (pc := 25) rfl (by decide) rfl rfl rfl ?_
      refine q_iload_n (pc := 28) rfl rfl ?_
      refine q_callV (pc := 29) (As := [q_i a1]) (rest := [q_i a2]) rfl rfl rfl (by decide) rfl rfl (Nat.le_of_ble_eq_true rfl) ?_
      refine q_den_mono _ _ _ _ _ _ ?_ (dn_X0_toOf (d := d + 3) (by decide) k)
      rintro _ g5 ⟨r6, rfl, k⟩
      refine q_icmp_lt (pc := 32) (tgt := 37) rfl (by decide) (fun z => ?_) (fun z => ?_)
      · have k := k.1 z
        refine q_aload_n (pc := 37) rfl rfl ?_
        refine q_getR (pc := 38) rfl (by decide) rfl rfl rfl ?_
        refine q_iload_n (pc := 41) rfl rfl ?_
        refine q_iload_n (pc := 42) rfl rfl ?_
        refine q_callV (pc := 43) (As := [q_i a1, q_i a2]) (rest := []) rfl rfl rfl (by decide) rfl rfl (Nat.le_of_ble_eq_true rfl) ?_
        refine q_den_mono _ _ _ _ _ _ ?_ (dn_X0_endAhead (d := d + 3) (by decide) k)
        rintro _ g7 ⟨rfl, k⟩
        refine q_aload_n (pc := 46) rfl rfl ?_
        refine q_aload_n (pc := 47) rfl rfl ?_
        refine q_getR (pc := 48) rfl (by decide) rfl rfl rfl ?_
        refine q_iconst (pc := 51) (v := (-1)) rfl (by decide) ?_
        refine q_callV (pc := 52) (As := [q_r 13 0, q_i (-1)]) (rest := []) rfl rfl rfl (by decide) rfl rfl (Nat.le_of_ble_eq_true rfl) ?_
        refine q_den_mono _ _ _ _ _ _ ?_ (dn_X4_gatherWants (d := d) (by decide) k)
        rintro _ g8 ⟨rfl, k⟩
        refine q_iconst (pc := 55) (v := 1) rfl (by decide) ?_
        exact q_zret (pc := 56) rfl rfl (by decide) ⟨_, rfl, k⟩
      · have k := k.2 z
        refine q_iconst (pc := 35) (v := 0) rfl (by decide) ?_
        exact q_zret (pc := 36) rfl rfl (by decide) ⟨_, rfl, k⟩
set_option maxHeartbeats 4000000 in
set_option maxRecDepth 100000 in
theorem dl_X4_fewestWakings_4 {d : Nat} {E : Int64 → Int32 → q_H → Prop} {Q : Int64 → q_H → Prop} (hE : ∀ (x1 : Int64) (x3 : Int32) (h : q_H), E x1 x3 h → q_run (q_pcs q_t_X4_fewestWakings) 4 5 none (q_den (d + 3)) 2 (q_rl Q) 49 [(0, q_r 0 0), (1, q_l x1), (3, q_i x3)] [] h) : ∀ (n : Nat) (x1 : Int64) (x3 : Int32) (h : q_H), lp_X4_fewestWakings_4 E n x1 x3 h → q_run (q_pcs q_t_X4_fewestWakings) 4 5 none (q_den (d + 3)) 2 (q_rl Q) 4 [(0, q_r 0 0), (1, q_l x1), (3, q_i x3)] [] h := by
  intro n
  induction n with
  | zero => intro x1 x3 h k; exact k.elim
  | succ n ih =>
    intro x1 x3 h k
    unfold lp_X4_fewestWakings_4 at k
    refine q_iload_n (pc := 4) rfl rfl ?_
    refine q_aload_n (pc := 5) rfl rfl ?_
    refine q_getR (pc := 6) rfl (by decide) rfl rfl rfl ?_
    refine q_callV (pc := 9) (As := []) (rest := [q_i x3]) rfl rfl rfl (by decide) rfl rfl (Nat.le_of_ble_eq_true rfl) ?_
    refine q_den_mono _ _ _ _ _ _ ?_ (dn_X0_size (d := d + 2) (by decide) k)
    rintro _ g1 ⟨r2, rfl, k⟩
    refine q_icmp_ge (pc := 12) (tgt := 49) rfl (by decide) (fun z => ?_) (fun z => ?_)
    · have k := k.1 z
      refine q_sub (pc := 49) (ks := [0, 1, 2]) rfl ?_
      exact hE _ _ _ k
    · have k := k.2 z
      refine q_aload_n (pc := 15) rfl rfl ?_
      refine q_getR (pc := 16) rfl (by decide) rfl rfl rfl ?_
      refine q_lload_n (pc := 19) rfl rfl ?_
      refine q_callV (pc := 20) (As := [q_l x1]) (rest := []) rfl rfl rfl (by decide) rfl rfl (Nat.le_of_ble_eq_true rfl) ?_
      refine q_den_mono _ _ _ _ _ _ ?_ (dn_X0_firstEndWithNone (d := d) (by decide) k)
      rintro _ g3 ⟨r4, rfl, k⟩
      refine q_istore (pc := 23) (ls1 := [(4, q_i r4), (0, q_r 0 0), (1, q_l x1), (3, q_i x3)]) rfl (by decide) rfl ?_
      refine q_iload (pc := 25) rfl rfl ?_
      refine q_iconst (pc := 27) (v := (-1)) rfl (by decide) ?_
      refine q_icmp_ne (pc := 28) (tgt := 34) rfl (by decide) (fun z => ?_) (fun z => ?_)
      · have k := k.2 z
        refine q_lload_n (pc := 34) rfl rfl ?_
        refine q_lconst (pc := 35) (v := 1) rfl (by decide) ?_
        refine q_iload (pc := 36) rfl rfl ?_
        refine q_iconst (pc := 38) (v := 1) rfl (by decide) ?_
        refine q_isub (pc := 39) rfl ?_
        refine q_lshl (pc := 40) rfl ?_
        refine q_lor (pc := 41) rfl ?_
        refine q_lstore_n (pc := 42) (ls1 := [(1, q_l (x1 ||| (1 <<< (Int32.toInt64 (r4 - 1) &&& 63)))), (4, q_i r4), (0, q_r 0 0), (3, q_i x3)]) rfl (by decide) rfl ?_
        refine q_iinc (pc := 43) (v := (x3 + 1)) (ls1 := [(3, q_i (x3 + 1)), (1, q_l (x1 ||| (1 <<< (Int32.toInt64 (r4 - 1) &&& 63)))), (4, q_i r4), (0, q_r 0 0)]) rfl (by decide) rfl (congrArg (fun z => x3 + z) (by decide : Int32.ofInt 1 = 1)) rfl ?_
        refine q_goto (pc := 46) (tgt := 4) rfl (by decide) ?_
        refine q_sub (pc := 4) (ks := [3, 1, 0]) rfl ?_
        exact ih _ _ _ k
      · have k := k.1 z
        refine q_goto (pc := 31) (tgt := 49) rfl (by decide) ?_
        refine q_sub (pc := 49) (ks := [1, 2, 3]) rfl ?_
        exact hE _ _ _ k
set_option maxHeartbeats 4000000 in
set_option maxRecDepth 100000 in
theorem dn_X4_fewestWakings {d : Nat} {h : q_H} {Q : Int64 → q_H → Prop} (k : wp_X4_fewestWakings h Q) : q_den (d + 4) 75 [q_r 0 0] h (q_rl Q) := by
  unfold wp_X4_fewestWakings at k
  refine ⟨by decide, Nat.le_of_ble_eq_true rfl, ?_⟩
  show q_run (q_pcs q_t_X4_fewestWakings) 4 5 none (q_den (d + 3)) 2 (q_rl Q) 0 [(0, q_r 0 0)] [] h
  refine q_lconst (pc := 0) (v := 0) rfl (by decide) ?_
  refine q_lstore_n (pc := 1) (ls1 := [(1, q_l 0), (0, q_r 0 0)]) rfl (by decide) rfl ?_
  refine q_iconst (pc := 2) (v := 0) rfl (by decide) ?_
  refine q_istore_n (pc := 3) (ls1 := [(3, q_i 0), (1, q_l 0), (0, q_r 0 0)]) rfl (by decide) rfl ?_
  obtain ⟨n5, k⟩ := k
  refine q_sub (pc := 4) (ks := [2, 1, 0]) rfl ?_
  refine dl_X4_fewestWakings_4 (fun y1_5 y3_5 g5 k => ?_) n5 _ _ _ k
  refine q_lload_n (pc := 49) rfl rfl ?_
  exact q_lret (pc := 50) rfl rfl ⟨_, rfl, k⟩
set_option maxHeartbeats 4000000 in
set_option maxRecDepth 100000 in
theorem dn_X4_timer {d : Nat} {a1 : Int32} {a2 : Int32} {a3 : Int32} {a4 : Int32} {h : q_H} {Q : Int32 → q_H → Prop} (k : wp_X4_timer a1 a2 a3 a4 h Q) : q_den (d + 5) 47 [q_r 0 0, q_i a1, q_i a2, q_i a3, q_i a4] h (q_ri Q) := by
  unfold wp_X4_timer at k
  refine ⟨by decide, Nat.le_of_ble_eq_true rfl, ?_⟩
  show q_run (q_pcs q_t_X4_timer) 4 6 none (q_den (d + 4)) 1 (q_ri Q) 0 [(0, q_r 0 0), (1, q_i a1), (2, q_i a2), (3, q_i a3), (4, q_i a4)] [] h
  refine q_iload_n (pc := 0) rfl rfl ?_
  refine q_callS (kd := 0) (pc := 1) (As := [q_i a1]) (rest := []) rfl rfl rfl  rfl (Nat.le_of_ble_eq_true rfl) ?_
  refine q_den_mono _ _ _ _ _ _ ?_ (dn_X4_isProgram (d := d + 3)  k)
  rintro _ g1 ⟨r2, rfl, k⟩
  refine q_if_eq (pc := 4) (tgt := 32) rfl (by decide) (fun z => ?_) (fun z => ?_)
  · have k := k.1 z
    refine q_iconst (pc := 32) (v := (-1)) rfl (by decide) ?_
    exact q_iret (pc := 33) rfl rfl ⟨_, rfl, k⟩
  · have k := k.2 z
    refine q_aload_n (pc := 7) rfl rfl ?_
    refine q_iload_n (pc := 8) rfl rfl ?_
    refine q_callV (pc := 9) (As := [q_i a2]) (rest := []) rfl rfl rfl (by decide) rfl rfl (Nat.le_of_ble_eq_true rfl) ?_
    refine q_den_mono _ _ _ _ _ _ ?_ (dn_X4_isPart (d := d + 3)  k)
    rintro _ g3 ⟨r4, rfl, k⟩
    refine q_if_eq (pc := 12) (tgt := 32) rfl (by decide) (fun z => ?_) (fun z => ?_)
    · have k := k.1 z
      refine q_iconst (pc := 32) (v := (-1)) rfl (by decide) ?_
      exact q_iret (pc := 33) rfl rfl ⟨_, rfl, k⟩
    · have k := k.2 z
      refine q_iload_n (pc := 15) rfl rfl ?_
      refine q_if_lt (pc := 16) (tgt := 32) rfl (by decide) (fun z => ?_) (fun z => ?_)
      · have k := k.1 z
        refine q_iconst (pc := 32) (v := (-1)) rfl (by decide) ?_
        exact q_iret (pc := 33) rfl rfl ⟨_, rfl, k⟩
      · have k := k.2 z
        refine q_iload_n (pc := 19) rfl rfl ?_
        refine q_iload (pc := 20) rfl rfl ?_
        refine q_icmp_gt (pc := 22) (tgt := 32) rfl (by decide) (fun z => ?_) (fun z => ?_)
        · have k := k.1 z
          refine q_iconst (pc := 32) (v := (-1)) rfl (by decide) ?_
          exact q_iret (pc := 33) rfl rfl ⟨_, rfl, k⟩
        · have k := k.2 z
          refine q_iload (pc := 25) rfl rfl ?_
          refine q_bipush (pc := 27) (v := 64) rfl (by decide) ?_
          refine q_icmp_lt (pc := 29) (tgt := 34) rfl (by decide) (fun z => ?_) (fun z => ?_)
          · have k := k.1 z
            refine q_aload_n (pc := 34) rfl rfl ?_
            refine q_getR (pc := 35) rfl (by decide) rfl rfl rfl ?_
            refine q_iload_n (pc := 38) rfl rfl ?_
            refine q_iload_n (pc := 39) rfl rfl ?_
            refine q_iload_n (pc := 40) rfl rfl ?_
            refine q_iload (pc := 41) rfl rfl ?_
            refine q_iconst (pc := 43) (v := 1) rfl (by decide) ?_
            refine q_iadd (pc := 44) rfl ?_
            refine q_callV (pc := 45) (As := [q_i a1, q_i a2, q_i a3, q_i (a4 + 1)]) (rest := []) rfl rfl rfl (by decide) rfl rfl (Nat.le_of_ble_eq_true rfl) ?_
            refine q_den_mono _ _ _ _ _ _ ?_ (dn_X0_add (d := d + 3) (by decide) k)
            rintro _ g5 ⟨r6, rfl, k⟩
            refine q_istore (pc := 48) (ls1 := [(5, q_i r6), (0, q_r 0 0), (1, q_i a1), (2, q_i a2), (3, q_i a3), (4, q_i a4)]) rfl (by decide) rfl ?_
            refine q_aload_n (pc := 50) rfl rfl ?_
            refine q_aload_n (pc := 51) rfl rfl ?_
            refine q_callV (pc := 52) (As := []) (rest := [q_r 0 0]) rfl rfl rfl (by decide) rfl rfl (Nat.le_of_ble_eq_true rfl) ?_
            refine q_den_mono _ _ _ _ _ _ ?_ (dn_X4_fewestWakings (d := d)  k)
            rintro _ g7 ⟨r8, rfl, k⟩
            refine q_putL (pc := 55) rfl (by decide) rfl rfl rfl ?_
            refine q_aload_n (pc := 58) rfl rfl ?_
            refine q_aload_n (pc := 59) rfl rfl ?_
            refine q_getR (pc := 60) rfl (by decide) rfl rfl rfl ?_
            refine q_iconst (pc := 63) (v := (-1)) rfl (by decide) ?_
            refine q_callV (pc := 64) (As := [q_r 13 0, q_i (-1)]) (rest := []) rfl rfl rfl (by decide) rfl rfl (Nat.le_of_ble_eq_true rfl) ?_
            refine q_den_mono _ _ _ _ _ _ ?_ (dn_X4_gatherWants (d := d) (by decide) k)
            rintro _ g9 ⟨rfl, k⟩
            refine q_iload (pc := 67) rfl rfl ?_
            exact q_iret (pc := 69) rfl rfl ⟨_, rfl, k⟩
          · have k := k.2 z
            refine q_iconst (pc := 32) (v := (-1)) rfl (by decide) ?_
            exact q_iret (pc := 33) rfl rfl ⟨_, rfl, k⟩
set_option maxHeartbeats 4000000 in
set_option maxRecDepth 100000 in
theorem dn_X4_rule {d : Nat} {a1 : Int32} {a2 : Int32} {a3 : Int32} {a4 : Int32} {h : q_H} {Q : Int32 → q_H → Prop} (k : wp_X4_rule a1 a2 a3 a4 h Q) : q_den (d + 2) 48 [q_r 0 0, q_i a1, q_i a2, q_i a3, q_i a4] h (q_ri Q) := by
  unfold wp_X4_rule at k
  refine ⟨by decide, Nat.le_of_ble_eq_true rfl, ?_⟩
  show q_run (q_pcs q_t_X4_rule) 4 5 none (q_den (d + 1)) 3 (q_ri Q) 0 [(0, q_r 0 0), (1, q_i a1), (2, q_i a2), (3, q_i a3), (4, q_i a4)] [] h
  refine q_aload_n (pc := 0) rfl rfl ?_
  refine q_iload_n (pc := 1) rfl rfl ?_
  refine q_callV (pc := 2) (As := [q_i a1]) (rest := []) rfl rfl rfl (by decide) rfl rfl (Nat.le_of_ble_eq_true rfl) ?_
  refine q_den_mono _ _ _ _ _ _ ?_ (dn_X4_isPart (d := d)  k)
  rintro _ g1 ⟨r2, rfl, k⟩
  refine q_if_eq (pc := 5) (tgt := 20) rfl (by decide) (fun z => ?_) (fun z => ?_)
  · have k := k.1 z
    refine q_iconst (pc := 20) (v := 0) rfl (by decide) ?_
    exact q_zret (pc := 21) rfl rfl (by decide) ⟨_, rfl, k⟩
  · have k := k.2 z
    refine q_iload_n (pc := 8) rfl rfl ?_
    refine q_iload_n (pc := 9) rfl rfl ?_
    refine q_iload (pc := 10) rfl rfl ?_
    refine q_bipush (pc := 12) (v := 64) rfl (by decide) ?_
    refine q_callS (kd := 0) (pc := 14) (As := [q_i a2, q_i a3, q_i a4, q_i 64]) (rest := []) rfl rfl rfl  rfl (Nat.le_of_ble_eq_true rfl) ?_
    refine q_den_mono _ _ _ _ _ _ ?_ (dn_X4_rises (d := d)  k)
    rintro _ g3 ⟨r4, rfl, k⟩
    refine q_if_ne (pc := 17) (tgt := 22) rfl (by decide) (fun z => ?_) (fun z => ?_)
    · have k := k.2 z
      refine q_aload_n (pc := 22) rfl rfl ?_
      refine q_getR (pc := 23) rfl (by decide) rfl rfl rfl ?_
      refine q_iload_n (pc := 26) rfl rfl ?_
      obtain ⟨b5, k⟩ := k
      refine q_aaload (pc := 27) rfl (by decide) rfl rfl b5 ?_
      refine q_iload_n (pc := 28) rfl rfl ?_
      refine q_iload_n (pc := 29) rfl rfl ?_
      refine q_iload (pc := 30) rfl rfl ?_
      refine q_callV (pc := 32) (As := [q_i a2, q_i a3, q_i a4]) (rest := []) rfl rfl rfl (q_vin b5) rfl rfl (Nat.le_of_ble_eq_true rfl) ?_
      refine q_den_mono _ _ _ _ _ _ ?_ (dn_X1_setThresholds (d := d) (q_vin b5) k)
      rintro _ g6 ⟨rfl, k⟩
      refine q_iconst (pc := 35) (v := 1) rfl (by decide) ?_
      exact q_zret (pc := 36) rfl rfl (by decide) ⟨_, rfl, k⟩
    · have k := k.1 z
      refine q_iconst (pc := 20) (v := 0) rfl (by decide) ?_
      exact q_zret (pc := 21) rfl rfl (by decide) ⟨_, rfl, k⟩
set_option maxHeartbeats 4000000 in
set_option maxRecDepth 100000 in
theorem dn_X4_layOutIdle {d : Nat} {a1 : Int32} {h : q_H} {Q : q_H → Prop} (k : wp_X4_layOutIdle a1 h Q) : q_den (d + 3) 77 [q_r 0 0, q_i a1] h (q_rv Q) := by
  unfold wp_X4_layOutIdle at k
  refine ⟨by decide, Nat.le_of_ble_eq_true rfl, ?_⟩
  show q_run (q_pcs q_t_X4_layOutIdle) 4 2 none (q_den (d + 2)) 0 (q_rv Q) 0 [(0, q_r 0 0), (1, q_i a1)] [] h
  refine q_aload_n (pc := 0) rfl rfl ?_
  refine q_getR (pc := 1) rfl (by decide) rfl rfl rfl ?_
  refine q_aload_n (pc := 4) rfl rfl ?_
  refine q_getR (pc := 5) rfl (by decide) rfl rfl rfl ?_
  refine q_iload_n (pc := 8) rfl rfl ?_
  refine q_callV (pc := 9) (As := [q_i a1]) (rest := [q_r 15 0]) rfl rfl rfl (by decide) rfl rfl (Nat.le_of_ble_eq_true rfl) ?_
  refine q_den_mono _ _ _ _ _ _ ?_ (dn_X3_ticksOf (d := d) (by decide) k)
  rintro _ g1 ⟨r2, rfl, k⟩
  refine q_callV (pc := 12) (As := [q_l r2]) (rest := []) rfl rfl rfl (by decide) rfl rfl (Nat.le_of_ble_eq_true rfl) ?_
  refine q_den_mono _ _ _ _ _ _ ?_ (dn_X2_layOut (d := d)  k)
  rintro _ g3 ⟨rfl, k⟩
  exact q_vret (pc := 15) rfl rfl ⟨rfl, k⟩
set_option maxHeartbeats 4000000 in
set_option maxRecDepth 100000 in
theorem dn_X4_drainByRule {d : Nat} {a1 : Int32} {h : q_H} {Q : Int32 → q_H → Prop} (k : wp_X4_drainByRule a1 h Q) : q_den (d + 4) 79 [q_r 0 0, q_i a1] h (q_ri Q) := by
  unfold wp_X4_drainByRule at k
  refine ⟨by decide, Nat.le_of_ble_eq_true rfl, ?_⟩
  show q_run (q_pcs q_t_X4_drainByRule) 4 2 none (q_den (d + 3)) 1 (q_ri Q) 0 [(0, q_r 0 0), (1, q_i a1)] [] h
  refine q_aload_n (pc := 0) rfl rfl ?_
  refine q_iload_n (pc := 1) rfl rfl ?_
  refine q_callV (pc := 2) (As := [q_i a1]) (rest := []) rfl rfl rfl (by decide) rfl rfl (Nat.le_of_ble_eq_true rfl) ?_
  refine q_den_mono _ _ _ _ _ _ ?_ (dn_X4_layOutIdle (d := d)  k)
  rintro _ g1 ⟨rfl, k⟩
  refine q_aload_n (pc := 5) rfl rfl ?_
  refine q_getR (pc := 6) rfl (by decide) rfl rfl rfl ?_
  refine q_iload_n (pc := 9) rfl rfl ?_
  obtain ⟨b2, k⟩ := k
  refine q_aaload (pc := 10) rfl (by decide) rfl rfl b2 ?_
  refine q_aload_n (pc := 11) rfl rfl ?_
  refine q_getR (pc := 12) rfl (by decide) rfl rfl rfl ?_
  refine q_iload_n (pc := 15) rfl rfl ?_
  refine q_callV (pc := 16) (As := [q_i a1]) (rest := [q_r 2 (Int32.toNatClampNeg a1)]) rfl rfl rfl (by decide) rfl rfl (Nat.le_of_ble_eq_true rfl) ?_
  refine q_den_mono _ _ _ _ _ _ ?_ (dn_X3_ticksOf (d := d + 1) (by decide) k)
  rintro _ g3 ⟨r4, rfl, k⟩
  refine q_callV (pc := 19) (As := [q_l r4]) (rest := []) rfl rfl rfl (q_vin b2) rfl rfl (Nat.le_of_ble_eq_true rfl) ?_
  refine q_den_mono _ _ _ _ _ _ ?_ (dn_X1_drainAwake (d := d + 1) (q_vin b2) k)
  rintro _ g5 ⟨r6, rfl, k⟩
  refine q_aload_n (pc := 22) rfl rfl ?_
  refine q_getR (pc := 23) rfl (by decide) rfl rfl rfl ?_
  refine q_iload_n (pc := 26) rfl rfl ?_
  obtain ⟨b7, k⟩ := k
  refine q_aaload (pc := 27) rfl (by decide) rfl rfl b7 ?_
  refine q_aload_n (pc := 28) rfl rfl ?_
  refine q_getR (pc := 29) rfl (by decide) rfl rfl rfl ?_
  refine q_callV (pc := 32) (As := [q_r 15 0]) (rest := [q_i r6]) rfl rfl rfl (q_vin b7) rfl rfl (Nat.le_of_ble_eq_true rfl) ?_
  refine q_den_mono _ _ _ _ _ _ ?_ (dn_X1_sumByRule (d := d) (q_vin b7) k)
  rintro _ g8 ⟨r9, rfl, k⟩
  refine q_iadd (pc := 35) rfl ?_
  exact q_iret (pc := 36) rfl rfl ⟨_, rfl, k⟩
set_option maxHeartbeats 4000000 in
set_option maxRecDepth 100000 in
theorem dn_X4_learn {d : Nat} {a1 : Int32} {h : q_H} {Q : Int32 → q_H → Prop} (k : wp_X4_learn a1 h Q) : q_den (d + 7) 49 [q_r 0 0, q_i a1] h (q_ri Q) := by
  unfold wp_X4_learn at k
  refine ⟨by decide, Nat.le_of_ble_eq_true rfl, ?_⟩
  show q_run (q_pcs q_t_X4_learn) 4 2 none (q_den (d + 6)) 1 (q_ri Q) 0 [(0, q_r 0 0), (1, q_i a1)] [] h
  refine q_aload_n (pc := 0) rfl rfl ?_
  refine q_iload_n (pc := 1) rfl rfl ?_
  refine q_callV (pc := 2) (As := [q_i a1]) (rest := []) rfl rfl rfl (by decide) rfl rfl (Nat.le_of_ble_eq_true rfl) ?_
  refine q_den_mono _ _ _ _ _ _ ?_ (dn_X4_isPart (d := d + 5)  k)
  rintro _ g1 ⟨r2, rfl, k⟩
  refine q_if_ne (pc := 5) (tgt := 10) rfl (by decide) (fun z => ?_) (fun z => ?_)
  · have k := k.2 z
    refine q_aload_n (pc := 10) rfl rfl ?_
    refine q_iload_n (pc := 11) rfl rfl ?_
    refine q_callV (pc := 12) (As := [q_i a1]) (rest := []) rfl rfl rfl (by decide) rfl rfl (Nat.le_of_ble_eq_true rfl) ?_
    refine q_den_mono _ _ _ _ _ _ ?_ (dn_X4_layOutIdle (d := d + 3)  k)
    rintro _ g3 ⟨rfl, k⟩
    refine q_aload_n (pc := 15) rfl rfl ?_
    refine q_getR (pc := 16) rfl (by decide) rfl rfl rfl ?_
    refine q_iload_n (pc := 19) rfl rfl ?_
    obtain ⟨b4, k⟩ := k
    refine q_aaload (pc := 20) rfl (by decide) rfl rfl b4 ?_
    refine q_aload_n (pc := 21) rfl rfl ?_
    refine q_getR (pc := 22) rfl (by decide) rfl rfl rfl ?_
    refine q_callV (pc := 25) (As := [q_r 15 0]) (rest := []) rfl rfl rfl (q_vin b4) rfl rfl (Nat.le_of_ble_eq_true rfl) ?_
    refine q_den_mono _ _ _ _ _ _ ?_ (dn_X1_takeBestThresholds (d := d) (q_vin b4) k)
    rintro _ g5 ⟨rfl, k⟩
    refine q_aload_n (pc := 28) rfl rfl ?_
    refine q_iload_n (pc := 29) rfl rfl ?_
    refine q_callV (pc := 30) (As := [q_i a1]) (rest := []) rfl rfl rfl (by decide) rfl rfl (Nat.le_of_ble_eq_true rfl) ?_
    refine q_den_mono _ _ _ _ _ _ ?_ (dn_X4_drainByRule (d := d + 2)  k)
    rintro _ g6 ⟨r7, rfl, k⟩
    exact q_iret (pc := 33) rfl rfl ⟨_, rfl, k⟩
  · have k := k.1 z
    refine q_iconst (pc := 8) (v := (-1)) rfl (by decide) ?_
    exact q_iret (pc := 9) rfl rfl ⟨_, rfl, k⟩
set_option maxHeartbeats 4000000 in
set_option maxRecDepth 100000 in
theorem dn_X4_look {d : Nat} {a1 : Int32} {h : q_H} {Q : Int32 → q_H → Prop} (k : wp_X4_look a1 h Q) : q_den (d + 2) 50 [q_r 0 0, q_i a1] h (q_ri Q) := by
  unfold wp_X4_look at k
  refine ⟨by decide, Nat.le_of_ble_eq_true rfl, ?_⟩
  show q_run (q_pcs q_t_X4_look) 4 2 none (q_den (d + 1)) 1 (q_ri Q) 0 [(0, q_r 0 0), (1, q_i a1)] [] h
  refine q_iload_n (pc := 0) rfl rfl ?_
  by_cases z0 : Int32.toInt a1 = 0
  · refine q_tsIn (pc := 1) (tgt := 32) rfl (by rw [z0]; decide) (by rw [z0]; decide) (by rw [z0]; rfl) (by decide) ?_
    have k := k.1 z0
    refine q_aload_n (pc := 32) rfl rfl ?_
    refine q_getI (pc := 33) rfl (by decide) rfl rfl rfl ?_
    exact q_iret (pc := 36) rfl rfl ⟨_, rfl, k⟩
  by_cases z1 : Int32.toInt a1 = 1
  · refine q_tsIn (pc := 1) (tgt := 37) rfl (by rw [z1]; decide) (by rw [z1]; decide) (by rw [z1]; rfl) (by decide) ?_
    have k := k.2.1 z1
    refine q_aload_n (pc := 37) rfl rfl ?_
    refine q_getR (pc := 38) rfl (by decide) rfl rfl rfl ?_
    refine q_callV (pc := 41) (As := []) (rest := []) rfl rfl rfl (by decide) rfl rfl (Nat.le_of_ble_eq_true rfl) ?_
    refine q_den_mono _ _ _ _ _ _ ?_ (dn_X0_size (d := d) (by decide) k)
    rintro _ g1 ⟨r2, rfl, k⟩
    exact q_iret (pc := 44) rfl rfl ⟨_, rfl, k⟩
  by_cases z2 : Int32.toInt a1 = 2
  · refine q_tsIn (pc := 1) (tgt := 45) rfl (by rw [z2]; decide) (by rw [z2]; decide) (by rw [z2]; rfl) (by decide) ?_
    have k := k.2.2.1 z2
    refine q_aload_n (pc := 45) rfl rfl ?_
    refine q_getR (pc := 46) rfl (by decide) rfl rfl rfl ?_
    refine q_callV (pc := 49) (As := []) (rest := []) rfl rfl rfl (by decide) rfl rfl (Nat.le_of_ble_eq_true rfl) ?_
    refine q_den_mono _ _ _ _ _ _ ?_ (dn_X0_size (d := d) (by decide) k)
    rintro _ g3 ⟨r4, rfl, k⟩
    exact q_iret (pc := 52) rfl rfl ⟨_, rfl, k⟩
  by_cases z3 : Int32.toInt a1 = 3
  · refine q_tsIn (pc := 1) (tgt := 53) rfl (by rw [z3]; decide) (by rw [z3]; decide) (by rw [z3]; rfl) (by decide) ?_
    have k := k.2.2.2.1 z3
    refine q_aload_n (pc := 53) rfl rfl ?_
    refine q_getL (pc := 54) rfl (by decide) rfl rfl rfl ?_
    refine q_callS (kd := 0) (pc := 57) (As := [q_l (Prod.snd h 0 0 5)]) (rest := []) rfl rfl rfl  rfl (Nat.le_of_ble_eq_true rfl) ?_
    refine q_den_mono _ _ _ _ _ _ ?_ (dn_J13_bitCount_95d88 (d := d)  k)
    rintro _ g5 ⟨r6, rfl, k⟩
    exact q_iret (pc := 60) rfl rfl ⟨_, rfl, k⟩
  have z : Int32.toInt a1 < 0 ∨ 3 < Int32.toInt a1 := by omega
  refine q_tsOut (pc := 1) (tgt := 61) rfl z (by decide) ?_
  have k := k.2.2.2.2 z
  refine q_iconst (pc := 61) (v := (-1)) rfl (by decide) ?_
  exact q_iret (pc := 62) rfl rfl ⟨_, rfl, k⟩
set_option maxHeartbeats 4000000 in
set_option maxRecDepth 100000 in
theorem dn_X4_held {d : Nat} {a1 : Int32} {a2 : Int32} {h : q_H} {Q : Int32 → q_H → Prop} (k : wp_X4_held a1 a2 h Q) : q_den (d + 2) 51 [q_r 0 0, q_i a1, q_i a2] h (q_ri Q) := by
  unfold wp_X4_held at k
  refine ⟨by decide, Nat.le_of_ble_eq_true rfl, ?_⟩
  show q_run (q_pcs q_t_X4_held) 4 3 none (q_den (d + 1)) 1 (q_ri Q) 0 [(0, q_r 0 0), (1, q_i a1), (2, q_i a2)] [] h
  refine q_aload_n (pc := 0) rfl rfl ?_
  refine q_getR (pc := 1) rfl (by decide) rfl rfl rfl ?_
  refine q_iload_n (pc := 4) rfl rfl ?_
  refine q_callV (pc := 5) (As := [q_i a1]) (rest := []) rfl rfl rfl (by decide) rfl rfl (Nat.le_of_ble_eq_true rfl) ?_
  refine q_den_mono _ _ _ _ _ _ ?_ (dn_X0_has (d := d) (by decide) k)
  rintro _ g1 ⟨r2, rfl, k⟩
  refine q_if_ne (pc := 8) (tgt := 13) rfl (by decide) (fun z => ?_) (fun z => ?_)
  · have k := k.2 z
    refine q_iload_n (pc := 13) rfl rfl ?_
    by_cases z0 : Int32.toInt a2 = 0
    · refine q_tsIn (pc := 14) (tgt := 44) rfl (by rw [z0]; decide) (by rw [z0]; decide) (by rw [z0]; rfl) (by decide) ?_
      have k := k.1 z0
      refine q_aload_n (pc := 44) rfl rfl ?_
      refine q_getR (pc := 45) rfl (by decide) rfl rfl rfl ?_
      refine q_iload_n (pc := 48) rfl rfl ?_
      refine q_callV (pc := 49) (As := [q_i a1]) (rest := []) rfl rfl rfl (by decide) rfl rfl (Nat.le_of_ble_eq_true rfl) ?_
      refine q_den_mono _ _ _ _ _ _ ?_ (dn_X0_programOf (d := d) (by decide) k)
      rintro _ g3 ⟨r4, rfl, k⟩
      exact q_iret (pc := 52) rfl rfl ⟨_, rfl, k⟩
    by_cases z1 : Int32.toInt a2 = 1
    · refine q_tsIn (pc := 14) (tgt := 53) rfl (by rw [z1]; decide) (by rw [z1]; decide) (by rw [z1]; rfl) (by decide) ?_
      have k := k.2.1 z1
      refine q_aload_n (pc := 53) rfl rfl ?_
      refine q_getR (pc := 54) rfl (by decide) rfl rfl rfl ?_
      refine q_iload_n (pc := 57) rfl rfl ?_
      refine q_callV (pc := 58) (As := [q_i a1]) (rest := []) rfl rfl rfl (by decide) rfl rfl (Nat.le_of_ble_eq_true rfl) ?_
      refine q_den_mono _ _ _ _ _ _ ?_ (dn_X0_partOf (d := d) (by decide) k)
      rintro _ g5 ⟨r6, rfl, k⟩
      exact q_iret (pc := 61) rfl rfl ⟨_, rfl, k⟩
    by_cases z2 : Int32.toInt a2 = 2
    · refine q_tsIn (pc := 14) (tgt := 62) rfl (by rw [z2]; decide) (by rw [z2]; decide) (by rw [z2]; rfl) (by decide) ?_
      have k := k.2.2.1 z2
      refine q_aload_n (pc := 62) rfl rfl ?_
      refine q_getR (pc := 63) rfl (by decide) rfl rfl rfl ?_
      refine q_iload_n (pc := 66) rfl rfl ?_
      refine q_callV (pc := 67) (As := [q_i a1]) (rest := []) rfl rfl rfl (by decide) rfl rfl (Nat.le_of_ble_eq_true rfl) ?_
      refine q_den_mono _ _ _ _ _ _ ?_ (dn_X0_fromOf (d := d) (by decide) k)
      rintro _ g7 ⟨r8, rfl, k⟩
      exact q_iret (pc := 70) rfl rfl ⟨_, rfl, k⟩
    by_cases z3 : Int32.toInt a2 = 3
    · refine q_tsIn (pc := 14) (tgt := 71) rfl (by rw [z3]; decide) (by rw [z3]; decide) (by rw [z3]; rfl) (by decide) ?_
      have k := k.2.2.2.1 z3
      refine q_aload_n (pc := 71) rfl rfl ?_
      refine q_getR (pc := 72) rfl (by decide) rfl rfl rfl ?_
      refine q_iload_n (pc := 75) rfl rfl ?_
      refine q_callV (pc := 76) (As := [q_i a1]) (rest := []) rfl rfl rfl (by decide) rfl rfl (Nat.le_of_ble_eq_true rfl) ?_
      refine q_den_mono _ _ _ _ _ _ ?_ (dn_X0_toOf (d := d) (by decide) k)
      rintro _ g9 ⟨r10, rfl, k⟩
      exact q_iret (pc := 79) rfl rfl ⟨_, rfl, k⟩
    have z : Int32.toInt a2 < 0 ∨ 3 < Int32.toInt a2 := by omega
    refine q_tsOut (pc := 14) (tgt := 80) rfl z (by decide) ?_
    have k := k.2.2.2.2 z
    refine q_iconst (pc := 80) (v := (-1)) rfl (by decide) ?_
    exact q_iret (pc := 81) rfl rfl ⟨_, rfl, k⟩
  · have k := k.1 z
    refine q_iconst (pc := 11) (v := (-1)) rfl (by decide) ?_
    exact q_iret (pc := 12) rfl rfl ⟨_, rfl, k⟩
set_option maxHeartbeats 4000000 in
set_option maxRecDepth 100000 in
theorem dl_X4_waking_10 {d : Nat} {E : Int32 → Int32 → q_H → Prop} {Q : Int32 → q_H → Prop} (hE : ∀ (x2 : Int32) (x3 : Int32) (h : q_H), E x2 x3 h → q_run (q_pcs q_t_X4_waking) 4 4 none (q_den (d + 1)) 1 (q_ri Q) 42 [(0, q_r 0 0), (2, q_i x2), (3, q_i x3)] [] h) : ∀ (n : Nat) (x2 : Int32) (x3 : Int32) (h : q_H), lp_X4_waking_10 Q E n x2 x3 h → q_run (q_pcs q_t_X4_waking) 4 4 none (q_den (d + 1)) 1 (q_ri Q) 10 [(0, q_r 0 0), (2, q_i x2), (3, q_i x3)] [] h := by
  intro n
  induction n with
  | zero => intro x2 x3 h k; exact k.elim
  | succ n ih =>
    intro x2 x3 h k
    unfold lp_X4_waking_10 at k
    refine q_iload_n (pc := 10) rfl rfl ?_
    refine q_bipush (pc := 11) (v := 64) rfl (by decide) ?_
    refine q_icmp_ge (pc := 13) (tgt := 42) rfl (by decide) (fun z => ?_) (fun z => ?_)
    · have k := k.1 z
      refine q_sub (pc := 42) (ks := [0, 1, 2]) rfl ?_
      exact hE _ _ _ k
    · have k := k.2 z
      refine q_aload_n (pc := 16) rfl rfl ?_
      refine q_getL (pc := 17) rfl (by decide) rfl rfl rfl ?_
      refine q_iload_n (pc := 20) rfl rfl ?_
      refine q_callS (kd := 0) (pc := 21) (As := [q_l (Prod.snd h 0 0 5), q_i x3]) (rest := []) rfl rfl rfl  rfl (Nat.le_of_ble_eq_true rfl) ?_
      refine q_den_mono _ _ _ _ _ _ ?_ (dn_X4_hasTick (d := d)  k)
      rintro _ g1 ⟨r2, rfl, k⟩
      refine q_if_eq (pc := 24) (tgt := 36) rfl (by decide) (fun z => ?_) (fun z => ?_)
      · have k := k.1 z
        refine q_iinc (pc := 36) (v := (x3 + 1)) (ls1 := [(3, q_i (x3 + 1)), (0, q_r 0 0), (2, q_i x2)]) rfl (by decide) rfl (congrArg (fun z => x3 + z) (by decide : Int32.ofInt 1 = 1)) rfl ?_
        refine q_goto (pc := 39) (tgt := 10) rfl (by decide) ?_
        refine q_sub (pc := 10) (ks := [1, 2, 0]) rfl ?_
        exact ih _ _ _ k
      · have k := k.2 z
        refine q_iload_n (pc := 27) rfl rfl ?_
        refine q_if_ne (pc := 28) (tgt := 33) rfl (by decide) (fun z => ?_) (fun z => ?_)
        · have k := k.2 z
          refine q_iinc (pc := 33) (v := (x2 + (-1))) (ls1 := [(2, q_i (x2 + (-1))), (0, q_r 0 0), (3, q_i x3)]) rfl (by decide) rfl (congrArg (fun z => x2 + z) (by decide : Int32.ofInt (-1) = (-1))) rfl ?_
          refine q_iinc (pc := 36) (v := (x3 + 1)) (ls1 := [(3, q_i (x3 + 1)), (2, q_i (x2 + (-1))), (0, q_r 0 0)]) rfl (by decide) rfl (congrArg (fun z => x3 + z) (by decide : Int32.ofInt 1 = 1)) rfl ?_
          refine q_goto (pc := 39) (tgt := 10) rfl (by decide) ?_
          refine q_sub (pc := 10) (ks := [2, 1, 0]) rfl ?_
          exact ih _ _ _ k
        · have k := k.1 z
          refine q_iload_n (pc := 31) rfl rfl ?_
          exact q_iret (pc := 32) rfl rfl ⟨_, rfl, k⟩
set_option maxHeartbeats 4000000 in
set_option maxRecDepth 100000 in
theorem dn_X4_waking {d : Nat} {a1 : Int32} {h : q_H} {Q : Int32 → q_H → Prop} (k : wp_X4_waking a1 h Q) : q_den (d + 2) 52 [q_r 0 0, q_i a1] h (q_ri Q) := by
  unfold wp_X4_waking at k
  refine ⟨by decide, Nat.le_of_ble_eq_true rfl, ?_⟩
  show q_run (q_pcs q_t_X4_waking) 4 4 none (q_den (d + 1)) 1 (q_ri Q) 0 [(0, q_r 0 0), (1, q_i a1)] [] h
  refine q_iload_n (pc := 0) rfl rfl ?_
  refine q_if_ge (pc := 1) (tgt := 6) rfl (by decide) (fun z => ?_) (fun z => ?_)
  · have k := k.1 z
    refine q_iload_n (pc := 6) rfl rfl ?_
    refine q_istore_n (pc := 7) (ls1 := [(2, q_i a1), (0, q_r 0 0), (1, q_i a1)]) rfl (by decide) rfl ?_
    refine q_iconst (pc := 8) (v := 0) rfl (by decide) ?_
    refine q_istore_n (pc := 9) (ls1 := [(3, q_i 0), (2, q_i a1), (0, q_r 0 0), (1, q_i a1)]) rfl (by decide) rfl ?_
    obtain ⟨n3, k⟩ := k
    refine q_sub (pc := 10) (ks := [2, 1, 0]) rfl ?_
    refine dl_X4_waking_10 (fun y2_3 y3_3 g3 k => ?_) n3 _ _ _ k
    refine q_iconst (pc := 42) (v := (-1)) rfl (by decide) ?_
    exact q_iret (pc := 43) rfl rfl ⟨_, rfl, k⟩
  · have k := k.2 z
    refine q_iconst (pc := 4) (v := (-1)) rfl (by decide) ?_
    exact q_iret (pc := 5) rfl rfl ⟨_, rfl, k⟩
set_option maxHeartbeats 4000000 in
set_option maxRecDepth 100000 in
theorem dn_X4_fires {d : Nat} {a1 : Int32} {h : q_H} {Q : Int32 → q_H → Prop} (k : wp_X4_fires a1 h Q) : q_den (d + 3) 53 [q_r 0 0, q_i a1] h (q_ri Q) := by
  unfold wp_X4_fires at k
  refine ⟨by decide, Nat.le_of_ble_eq_true rfl, ?_⟩
  show q_run (q_pcs q_t_X4_fires) 4 2 none (q_den (d + 2)) 1 (q_ri Q) 0 [(0, q_r 0 0), (1, q_i a1)] [] h
  refine q_aload_n (pc := 0) rfl rfl ?_
  refine q_getR (pc := 1) rfl (by decide) rfl rfl rfl ?_
  refine q_iload_n (pc := 4) rfl rfl ?_
  refine q_callV (pc := 5) (As := [q_i a1]) (rest := []) rfl rfl rfl (by decide) rfl rfl (Nat.le_of_ble_eq_true rfl) ?_
  refine q_den_mono _ _ _ _ _ _ ?_ (dn_X0_has (d := d + 1) (by decide) k)
  rintro _ g1 ⟨r2, rfl, k⟩
  refine q_if_eq (pc := 8) (tgt := 30) rfl (by decide) (fun z => ?_) (fun z => ?_)
  · have k := k.1 z
    refine q_iconst (pc := 30) (v := (-1)) rfl (by decide) ?_
    exact q_iret (pc := 31) rfl rfl ⟨_, rfl, k⟩
  · have k := k.2 z
    refine q_aload_n (pc := 11) rfl rfl ?_
    refine q_getL (pc := 12) rfl (by decide) rfl rfl rfl ?_
    refine q_aload_n (pc := 15) rfl rfl ?_
    refine q_getR (pc := 16) rfl (by decide) rfl rfl rfl ?_
    refine q_iload_n (pc := 19) rfl rfl ?_
    refine q_callV (pc := 20) (As := [q_i a1]) (rest := [q_l (Prod.snd g1 0 0 5)]) rfl rfl rfl (by decide) rfl rfl (Nat.le_of_ble_eq_true rfl) ?_
    refine q_den_mono _ _ _ _ _ _ ?_ (dn_X0_ticksOf (d := d) (by decide) k)
    rintro _ g3 ⟨r4, rfl, k⟩
    refine q_land (pc := 23) rfl ?_
    refine q_callS (kd := 0) (pc := 24) (As := [q_l ((Prod.snd g1 0 0 5) &&& r4)]) (rest := []) rfl rfl rfl  rfl (Nat.le_of_ble_eq_true rfl) ?_
    refine q_den_mono _ _ _ _ _ _ ?_ (dn_X4_leastTick (d := d)  k)
    rintro _ g5 ⟨r6, rfl, k⟩
    refine q_goto (pc := 27) (tgt := 31) rfl (by decide) ?_
    exact q_iret (pc := 31) rfl rfl ⟨_, rfl, k⟩
set_option maxHeartbeats 4000000 in
set_option maxRecDepth 100000 in
theorem dn_X4_isTick {d : Nat} {a0 : Int32} {h : q_H} {Q : Int32 → q_H → Prop} (k : wp_X4_isTick a0 h Q) : q_den (d + 1) 68 [q_i a0] h (q_ri Q) := by
  unfold wp_X4_isTick at k
  refine ⟨by decide, Nat.le_of_ble_eq_true rfl, ?_⟩
  show q_run (q_pcs q_t_X4_isTick) 4 1 none (q_den d) 3 (q_ri Q) 0 [(0, q_i a0)] [] h
  refine q_iload_n (pc := 0) rfl rfl ?_
  refine q_if_lt (pc := 1) (tgt := 14) rfl (by decide) (fun z => ?_) (fun z => ?_)
  · have k := k.1 z
    refine q_iconst (pc := 14) (v := 0) rfl (by decide) ?_
    exact q_zret (pc := 15) rfl rfl (by decide) ⟨_, rfl, k⟩
  · have k := k.2 z
    refine q_iload_n (pc := 4) rfl rfl ?_
    refine q_bipush (pc := 5) (v := 64) rfl (by decide) ?_
    refine q_icmp_ge (pc := 7) (tgt := 14) rfl (by decide) (fun z => ?_) (fun z => ?_)
    · have k := k.1 z
      refine q_iconst (pc := 14) (v := 0) rfl (by decide) ?_
      exact q_zret (pc := 15) rfl rfl (by decide) ⟨_, rfl, k⟩
    · have k := k.2 z
      refine q_iconst (pc := 10) (v := 1) rfl (by decide) ?_
      refine q_goto (pc := 11) (tgt := 15) rfl (by decide) ?_
      exact q_zret (pc := 15) rfl rfl (by decide) ⟨_, rfl, k⟩
set_option maxHeartbeats 4000000 in
set_option maxRecDepth 100000 in
theorem dn_X4_wanted {d : Nat} {a1 : Int32} {a2 : Int32} {h : q_H} {Q : Int32 → q_H → Prop} (k : wp_X4_wanted a1 a2 h Q) : q_den (d + 3) 54 [q_r 0 0, q_i a1, q_i a2] h (q_ri Q) := by
  unfold wp_X4_wanted at k
  refine ⟨by decide, Nat.le_of_ble_eq_true rfl, ?_⟩
  show q_run (q_pcs q_t_X4_wanted) 4 3 none (q_den (d + 2)) 1 (q_ri Q) 0 [(0, q_r 0 0), (1, q_i a1), (2, q_i a2)] [] h
  refine q_aload_n (pc := 0) rfl rfl ?_
  refine q_iload_n (pc := 1) rfl rfl ?_
  refine q_callV (pc := 2) (As := [q_i a1]) (rest := []) rfl rfl rfl (by decide) rfl rfl (Nat.le_of_ble_eq_true rfl) ?_
  refine q_den_mono _ _ _ _ _ _ ?_ (dn_X4_isPart (d := d + 1)  k)
  rintro _ g1 ⟨r2, rfl, k⟩
  refine q_if_eq (pc := 5) (tgt := 15) rfl (by decide) (fun z => ?_) (fun z => ?_)
  · have k := k.1 z
    refine q_iconst (pc := 15) (v := (-1)) rfl (by decide) ?_
    exact q_iret (pc := 16) rfl rfl ⟨_, rfl, k⟩
  · have k := k.2 z
    refine q_iload_n (pc := 8) rfl rfl ?_
    refine q_callS (kd := 0) (pc := 9) (As := [q_i a2]) (rest := []) rfl rfl rfl  rfl (Nat.le_of_ble_eq_true rfl) ?_
    refine q_den_mono _ _ _ _ _ _ ?_ (dn_X4_isTick (d := d + 1)  k)
    rintro _ g3 ⟨r4, rfl, k⟩
    refine q_if_ne (pc := 12) (tgt := 17) rfl (by decide) (fun z => ?_) (fun z => ?_)
    · have k := k.2 z
      refine q_aload_n (pc := 17) rfl rfl ?_
      refine q_getR (pc := 18) rfl (by decide) rfl rfl rfl ?_
      refine q_iload_n (pc := 21) rfl rfl ?_
      refine q_callV (pc := 22) (As := [q_i a1]) (rest := []) rfl rfl rfl (by decide) rfl rfl (Nat.le_of_ble_eq_true rfl) ?_
      refine q_den_mono _ _ _ _ _ _ ?_ (dn_X3_ticksOf (d := d) (by decide) k)
      rintro _ g5 ⟨r6, rfl, k⟩
      refine q_iload_n (pc := 25) rfl rfl ?_
      refine q_callS (kd := 0) (pc := 26) (As := [q_l r6, q_i a2]) (rest := []) rfl rfl rfl  rfl (Nat.le_of_ble_eq_true rfl) ?_
      refine q_den_mono _ _ _ _ _ _ ?_ (dn_X4_hasTick (d := d + 1)  k)
      rintro _ g7 ⟨r8, rfl, k⟩
      refine q_if_eq (pc := 29) (tgt := 36) rfl (by decide) (fun z => ?_) (fun z => ?_)
      · have k := k.1 z
        refine q_iconst (pc := 36) (v := 0) rfl (by decide) ?_
        exact q_iret (pc := 37) rfl rfl ⟨_, rfl, k⟩
      · have k := k.2 z
        refine q_iconst (pc := 32) (v := 1) rfl (by decide) ?_
        refine q_goto (pc := 33) (tgt := 37) rfl (by decide) ?_
        exact q_iret (pc := 37) rfl rfl ⟨_, rfl, k⟩
    · have k := k.1 z
      refine q_iconst (pc := 15) (v := (-1)) rfl (by decide) ?_
      exact q_iret (pc := 16) rfl rfl ⟨_, rfl, k⟩
set_option maxHeartbeats 4000000 in
set_option maxRecDepth 100000 in
theorem dn_X4_when {d : Nat} {a1 : Int32} {h : q_H} {Q : Int64 → q_H → Prop} (k : wp_X4_when a1 h Q) : q_den (d + 3) 55 [q_r 0 0, q_i a1] h (q_rl Q) := by
  unfold wp_X4_when at k
  refine ⟨by decide, Nat.le_of_ble_eq_true rfl, ?_⟩
  show q_run (q_pcs q_t_X4_when) 4 2 none (q_den (d + 2)) 2 (q_rl Q) 0 [(0, q_r 0 0), (1, q_i a1)] [] h
  refine q_aload_n (pc := 0) rfl rfl ?_
  refine q_iload_n (pc := 1) rfl rfl ?_
  refine q_callV (pc := 2) (As := [q_i a1]) (rest := []) rfl rfl rfl (by decide) rfl rfl (Nat.le_of_ble_eq_true rfl) ?_
  refine q_den_mono _ _ _ _ _ _ ?_ (dn_X4_isPart (d := d + 1)  k)
  rintro _ g1 ⟨r2, rfl, k⟩
  refine q_if_eq (pc := 5) (tgt := 19) rfl (by decide) (fun z => ?_) (fun z => ?_)
  · have k := k.1 z
    refine q_lconst (pc := 19) (v := 0) rfl (by decide) ?_
    exact q_lret (pc := 20) rfl rfl ⟨_, rfl, k⟩
  · have k := k.2 z
    refine q_aload_n (pc := 8) rfl rfl ?_
    refine q_getR (pc := 9) rfl (by decide) rfl rfl rfl ?_
    refine q_iload_n (pc := 12) rfl rfl ?_
    refine q_callV (pc := 13) (As := [q_i a1]) (rest := []) rfl rfl rfl (by decide) rfl rfl (Nat.le_of_ble_eq_true rfl) ?_
    refine q_den_mono _ _ _ _ _ _ ?_ (dn_X3_ticksOf (d := d) (by decide) k)
    rintro _ g3 ⟨r4, rfl, k⟩
    refine q_goto (pc := 16) (tgt := 20) rfl (by decide) ?_
    exact q_lret (pc := 20) rfl rfl ⟨_, rfl, k⟩
set_option maxHeartbeats 4000000 in
set_option maxRecDepth 100000 in
theorem dn_X4_spans {d : Nat} {a1 : Int32} {h : q_H} {Q : Int32 → q_H → Prop} (k : wp_X4_spans a1 h Q) : q_den (d + 4) 56 [q_r 0 0, q_i a1] h (q_ri Q) := by
  unfold wp_X4_spans at k
  refine ⟨by decide, Nat.le_of_ble_eq_true rfl, ?_⟩
  show q_run (q_pcs q_t_X4_spans) 4 2 none (q_den (d + 3)) 1 (q_ri Q) 0 [(0, q_r 0 0), (1, q_i a1)] [] h
  refine q_aload_n (pc := 0) rfl rfl ?_
  refine q_iload_n (pc := 1) rfl rfl ?_
  refine q_callV (pc := 2) (As := [q_i a1]) (rest := []) rfl rfl rfl (by decide) rfl rfl (Nat.le_of_ble_eq_true rfl) ?_
  refine q_den_mono _ _ _ _ _ _ ?_ (dn_X4_isPart (d := d + 2)  k)
  rintro _ g1 ⟨r2, rfl, k⟩
  refine q_if_ne (pc := 5) (tgt := 10) rfl (by decide) (fun z => ?_) (fun z => ?_)
  · have k := k.2 z
    refine q_aload_n (pc := 10) rfl rfl ?_
    refine q_iload_n (pc := 11) rfl rfl ?_
    refine q_callV (pc := 12) (As := [q_i a1]) (rest := []) rfl rfl rfl (by decide) rfl rfl (Nat.le_of_ble_eq_true rfl) ?_
    refine q_den_mono _ _ _ _ _ _ ?_ (dn_X4_layOutIdle (d := d)  k)
    rintro _ g3 ⟨rfl, k⟩
    refine q_aload_n (pc := 15) rfl rfl ?_
    refine q_getR (pc := 16) rfl (by decide) rfl rfl rfl ?_
    refine q_callV (pc := 19) (As := []) (rest := []) rfl rfl rfl (by decide) rfl rfl (Nat.le_of_ble_eq_true rfl) ?_
    refine q_den_mono _ _ _ _ _ _ ?_ (dn_X2_size (d := d + 2)  k)
    rintro _ g4 ⟨r5, rfl, k⟩
    exact q_iret (pc := 22) rfl rfl ⟨_, rfl, k⟩
  · have k := k.1 z
    refine q_iconst (pc := 8) (v := (-1)) rfl (by decide) ?_
    exact q_iret (pc := 9) rfl rfl ⟨_, rfl, k⟩
set_option maxHeartbeats 4000000 in
set_option maxRecDepth 100000 in
theorem dn_X4_span {d : Nat} {a1 : Int32} {a2 : Int32} {a3 : Int32} {h : q_H} {Q : Int32 → q_H → Prop} (k : wp_X4_span a1 a2 a3 h Q) : q_den (d + 4) 57 [q_r 0 0, q_i a1, q_i a2, q_i a3] h (q_ri Q) := by
  unfold wp_X4_span at k
  refine ⟨by decide, Nat.le_of_ble_eq_true rfl, ?_⟩
  show q_run (q_pcs q_t_X4_span) 4 7 none (q_den (d + 3)) 1 (q_ri Q) 0 [(0, q_r 0 0), (1, q_i a1), (2, q_i a2), (3, q_i a3)] [] h
  refine q_aload_n (pc := 0) rfl rfl ?_
  refine q_iload_n (pc := 1) rfl rfl ?_
  refine q_callV (pc := 2) (As := [q_i a1]) (rest := []) rfl rfl rfl (by decide) rfl rfl (Nat.le_of_ble_eq_true rfl) ?_
  refine q_den_mono _ _ _ _ _ _ ?_ (dn_X4_isPart (d := d + 2)  k)
  rintro _ g1 ⟨r2, rfl, k⟩
  refine q_if_ne (pc := 5) (tgt := 10) rfl (by decide) (fun z => ?_) (fun z => ?_)
  · have k := k.2 z
    refine q_aload_n (pc := 10) rfl rfl ?_
    refine q_iload_n (pc := 11) rfl rfl ?_
    refine q_callV (pc := 12) (As := [q_i a1]) (rest := []) rfl rfl rfl (by decide) rfl rfl (Nat.le_of_ble_eq_true rfl) ?_
    refine q_den_mono _ _ _ _ _ _ ?_ (dn_X4_layOutIdle (d := d)  k)
    rintro _ g3 ⟨rfl, k⟩
    refine q_aload_n (pc := 15) rfl rfl ?_
    refine q_getR (pc := 16) rfl (by decide) rfl rfl rfl ?_
    refine q_iload_n (pc := 19) rfl rfl ?_
    refine q_callV (pc := 20) (As := [q_i a2]) (rest := []) rfl rfl rfl (by decide) rfl rfl (Nat.le_of_ble_eq_true rfl) ?_
    refine q_den_mono _ _ _ _ _ _ ?_ (dn_X2_has (d := d + 2)  k)
    rintro _ g4 ⟨r5, rfl, k⟩
    refine q_if_ne (pc := 23) (tgt := 28) rfl (by decide) (fun z => ?_) (fun z => ?_)
    · have k := k.2 z
      refine q_aload_n (pc := 28) rfl rfl ?_
      refine q_getR (pc := 29) rfl (by decide) rfl rfl rfl ?_
      refine q_iload_n (pc := 32) rfl rfl ?_
      refine q_callV (pc := 33) (As := [q_i a2]) (rest := []) rfl rfl rfl (by decide) rfl rfl (Nat.le_of_ble_eq_true rfl) ?_
      refine q_den_mono _ _ _ _ _ _ ?_ (dn_X2_lenOf (d := d + 2)  k)
      rintro _ g6 ⟨r7, rfl, k⟩
      refine q_istore (pc := 36) (ls1 := [(4, q_i r7), (0, q_r 0 0), (1, q_i a1), (2, q_i a2), (3, q_i a3)]) rfl (by decide) rfl ?_
      refine q_aload_n (pc := 38) rfl rfl ?_
      refine q_getR (pc := 39) rfl (by decide) rfl rfl rfl ?_
      refine q_iload_n (pc := 42) rfl rfl ?_
      refine q_callV (pc := 43) (As := [q_i a2]) (rest := []) rfl rfl rfl (by decide) rfl rfl (Nat.le_of_ble_eq_true rfl) ?_
      refine q_den_mono _ _ _ _ _ _ ?_ (dn_X2_endsAll (d := d + 2)  k)
      rintro _ g8 ⟨r9, rfl, k⟩
      refine q_istore (pc := 46) (ls1 := [(5, q_i r9), (4, q_i r7), (0, q_r 0 0), (1, q_i a1), (2, q_i a2), (3, q_i a3)]) rfl (by decide) rfl ?_
      refine q_aload_n (pc := 48) rfl rfl ?_
      refine q_getR (pc := 49) rfl (by decide) rfl rfl rfl ?_
      refine q_iload_n (pc := 52) rfl rfl ?_
      obtain ⟨b10, k⟩ := k
      refine q_aaload (pc := 53) rfl (by decide) rfl rfl b10 ?_
      refine q_iload (pc := 54) rfl rfl ?_
      refine q_iload (pc := 56) rfl rfl ?_
      refine q_callV (pc := 58) (As := [q_i r7, q_i r9]) (rest := []) rfl rfl rfl (q_vin b10) rfl rfl (Nat.le_of_ble_eq_true rfl) ?_
      refine q_den_mono _ _ _ _ _ _ ?_ (dn_X1_bestState (d := d) (q_vin b10) k)
      rintro _ g11 ⟨r12, rfl, k⟩
      refine q_istore (pc := 61) (ls1 := [(6, q_i r12), (5, q_i r9), (4, q_i r7), (0, q_r 0 0), (1, q_i a1), (2, q_i a2), (3, q_i a3)]) rfl (by decide) rfl ?_
      refine q_iload_n (pc := 63) rfl rfl ?_
      by_cases z0 : Int32.toInt a3 = 0
      · refine q_tsIn (pc := 64) (tgt := 104) rfl (by rw [z0]; decide) (by rw [z0]; decide) (by rw [z0]; rfl) (by decide) ?_
        have k := k.1 z0
        refine q_aload_n (pc := 104) rfl rfl ?_
        refine q_getR (pc := 105) rfl (by decide) rfl rfl rfl ?_
        refine q_iload_n (pc := 108) rfl rfl ?_
        refine q_callV (pc := 109) (As := [q_i a2]) (rest := []) rfl rfl rfl (by decide) rfl rfl (Nat.le_of_ble_eq_true rfl) ?_
        refine q_den_mono _ _ _ _ _ _ ?_ (dn_X2_firstOf (d := d + 2)  k)
        rintro _ g13 ⟨r14, rfl, k⟩
        exact q_iret (pc := 112) rfl rfl ⟨_, rfl, k⟩
      by_cases z1 : Int32.toInt a3 = 1
      · refine q_tsIn (pc := 64) (tgt := 113) rfl (by rw [z1]; decide) (by rw [z1]; decide) (by rw [z1]; rfl) (by decide) ?_
        have k := k.2.1 z1
        refine q_iload (pc := 113) rfl rfl ?_
        exact q_iret (pc := 115) rfl rfl ⟨_, rfl, k⟩
      by_cases z2 : Int32.toInt a3 = 2
      · refine q_tsIn (pc := 64) (tgt := 116) rfl (by rw [z2]; decide) (by rw [z2]; decide) (by rw [z2]; rfl) (by decide) ?_
        have k := k.2.2.1 z2
        refine q_iload (pc := 116) rfl rfl ?_
        exact q_iret (pc := 118) rfl rfl ⟨_, rfl, k⟩
      by_cases z3 : Int32.toInt a3 = 3
      · refine q_tsIn (pc := 64) (tgt := 119) rfl (by rw [z3]; decide) (by rw [z3]; decide) (by rw [z3]; rfl) (by decide) ?_
        have k := k.2.2.2.1 z3
        refine q_aload_n (pc := 119) rfl rfl ?_
        refine q_getR (pc := 120) rfl (by decide) rfl rfl rfl ?_
        refine q_iload_n (pc := 123) rfl rfl ?_
        obtain ⟨b15, k⟩ := k
        refine q_aaload (pc := 124) rfl (by decide) rfl rfl b15 ?_
        refine q_iload (pc := 125) rfl rfl ?_
        refine q_iload (pc := 127) rfl rfl ?_
        refine q_iload (pc := 129) rfl rfl ?_
        refine q_callV (pc := 131) (As := [q_i r12, q_i r7, q_i r9]) (rest := []) rfl rfl rfl (q_vin b15) rfl rfl (Nat.le_of_ble_eq_true rfl) ?_
        refine q_den_mono _ _ _ _ _ _ ?_ (dn_X1_sumIn (d := d + 1) (q_vin b15) k)
        rintro _ g16 ⟨r17, rfl, k⟩
        exact q_iret (pc := 134) rfl rfl ⟨_, rfl, k⟩
      by_cases z4 : Int32.toInt a3 = 4
      · refine q_tsIn (pc := 64) (tgt := 135) rfl (by rw [z4]; decide) (by rw [z4]; decide) (by rw [z4]; rfl) (by decide) ?_
        have k := k.2.2.2.2.1 z4
        refine q_aload_n (pc := 135) rfl rfl ?_
        refine q_getR (pc := 136) rfl (by decide) rfl rfl rfl ?_
        refine q_iload_n (pc := 139) rfl rfl ?_
        obtain ⟨b18, k⟩ := k
        refine q_aaload (pc := 140) rfl (by decide) rfl rfl b18 ?_
        refine q_iconst (pc := 141) (v := 0) rfl (by decide) ?_
        refine q_iload (pc := 142) rfl rfl ?_
        refine q_iload (pc := 144) rfl rfl ?_
        refine q_callV (pc := 146) (As := [q_i 0, q_i r7, q_i r9]) (rest := []) rfl rfl rfl (q_vin b18) rfl rfl (Nat.le_of_ble_eq_true rfl) ?_
        refine q_den_mono _ _ _ _ _ _ ?_ (dn_X1_sumIn (d := d + 1) (q_vin b18) k)
        rintro _ g19 ⟨r20, rfl, k⟩
        exact q_iret (pc := 149) rfl rfl ⟨_, rfl, k⟩
      by_cases z5 : Int32.toInt a3 = 5
      · refine q_tsIn (pc := 64) (tgt := 150) rfl (by rw [z5]; decide) (by rw [z5]; decide) (by rw [z5]; rfl) (by decide) ?_
        have k := k.2.2.2.2.2.1 z5
        refine q_iload (pc := 150) rfl rfl ?_
        refine q_if_ne (pc := 152) (tgt := 160) rfl (by decide) (fun z => ?_) (fun z => ?_)
        · have k := k.2 z
          refine q_iconst (pc := 160) (v := (-1)) rfl (by decide) ?_
          refine q_goto (pc := 161) (tgt := 188) rfl (by decide) ?_
          exact q_iret (pc := 188) rfl rfl ⟨_, rfl, k⟩
        · have k := k.1 z
          refine q_iload (pc := 155) rfl rfl ?_
          refine q_if_ne (pc := 157) (tgt := 164) rfl (by decide) (fun z => ?_) (fun z => ?_)
          · have k := k.2 z
            refine q_aload_n (pc := 164) rfl rfl ?_
            refine q_getR (pc := 165) rfl (by decide) rfl rfl rfl ?_
            refine q_iload_n (pc := 168) rfl rfl ?_
            refine q_callV (pc := 169) (As := [q_i a2]) (rest := []) rfl rfl rfl (by decide) rfl rfl (Nat.le_of_ble_eq_true rfl) ?_
            refine q_den_mono _ _ _ _ _ _ ?_ (dn_X2_firstOf (d := d + 2)  k)
            rintro _ g21 ⟨r22, rfl, k⟩
            refine q_aload_n (pc := 172) rfl rfl ?_
            refine q_getR (pc := 173) rfl (by decide) rfl rfl rfl ?_
            refine q_iload_n (pc := 176) rfl rfl ?_
            obtain ⟨b23, k⟩ := k
            refine q_aaload (pc := 177) rfl (by decide) rfl rfl b23 ?_
            refine q_iload (pc := 178) rfl rfl ?_
            refine q_iload (pc := 180) rfl rfl ?_
            refine q_iload (pc := 182) rfl rfl ?_
            refine q_callV (pc := 184) (As := [q_i r12, q_i r7, q_i r9]) (rest := [q_i r22]) rfl rfl rfl (q_vin b23) rfl rfl (Nat.le_of_ble_eq_true rfl) ?_
            refine q_den_mono _ _ _ _ _ _ ?_ (dn_X1_restIn (d := d + 2) (q_vin b23) k)
            rintro _ g24 ⟨r25, rfl, k⟩
            refine q_iadd (pc := 187) rfl ?_
            exact q_iret (pc := 188) rfl rfl ⟨_, rfl, k⟩
          · have k := k.1 z
            refine q_iconst (pc := 160) (v := (-1)) rfl (by decide) ?_
            refine q_goto (pc := 161) (tgt := 188) rfl (by decide) ?_
            exact q_iret (pc := 188) rfl rfl ⟨_, rfl, k⟩
      have z : Int32.toInt a3 < 0 ∨ 5 < Int32.toInt a3 := by omega
      refine q_tsOut (pc := 64) (tgt := 189) rfl z (by decide) ?_
      have k := k.2.2.2.2.2.2 z
      refine q_iconst (pc := 189) (v := (-1)) rfl (by decide) ?_
      exact q_iret (pc := 190) rfl rfl ⟨_, rfl, k⟩
    · have k := k.1 z
      refine q_iconst (pc := 26) (v := (-1)) rfl (by decide) ?_
      exact q_iret (pc := 27) rfl rfl ⟨_, rfl, k⟩
  · have k := k.1 z
    refine q_iconst (pc := 8) (v := (-1)) rfl (by decide) ?_
    exact q_iret (pc := 9) rfl rfl ⟨_, rfl, k⟩
set_option maxHeartbeats 4000000 in
set_option maxRecDepth 100000 in
theorem dn_X4_drainInPlan {d : Nat} {a1 : Int32} {a2 : Int64} {h : q_H} {Q : Int32 → q_H → Prop} (k : wp_X4_drainInPlan a1 a2 h Q) : q_den (d + 5) 78 [q_r 0 0, q_i a1, q_l a2] h (q_ri Q) := by
  unfold wp_X4_drainInPlan at k
  refine ⟨by decide, Nat.le_of_ble_eq_true rfl, ?_⟩
  show q_run (q_pcs q_t_X4_drainInPlan) 4 4 none (q_den (d + 4)) 1 (q_ri Q) 0 [(0, q_r 0 0), (1, q_i a1), (2, q_l a2)] [] h
  refine q_aload_n (pc := 0) rfl rfl ?_
  refine q_getR (pc := 1) rfl (by decide) rfl rfl rfl ?_
  refine q_lload_n (pc := 4) rfl rfl ?_
  refine q_callV (pc := 5) (As := [q_l a2]) (rest := []) rfl rfl rfl (by decide) rfl rfl (Nat.le_of_ble_eq_true rfl) ?_
  refine q_den_mono _ _ _ _ _ _ ?_ (dn_X2_layOut (d := d + 2)  k)
  rintro _ g1 ⟨rfl, k⟩
  refine q_aload_n (pc := 8) rfl rfl ?_
  refine q_getR (pc := 9) rfl (by decide) rfl rfl rfl ?_
  refine q_iload_n (pc := 12) rfl rfl ?_
  obtain ⟨b2, k⟩ := k
  refine q_aaload (pc := 13) rfl (by decide) rfl rfl b2 ?_
  refine q_lload_n (pc := 14) rfl rfl ?_
  refine q_callV (pc := 15) (As := [q_l a2]) (rest := []) rfl rfl rfl (q_vin b2) rfl rfl (Nat.le_of_ble_eq_true rfl) ?_
  refine q_den_mono _ _ _ _ _ _ ?_ (dn_X1_drainAwake (d := d + 2) (q_vin b2) k)
  rintro _ g3 ⟨r4, rfl, k⟩
  refine q_aload_n (pc := 18) rfl rfl ?_
  refine q_getR (pc := 19) rfl (by decide) rfl rfl rfl ?_
  refine q_iload_n (pc := 22) rfl rfl ?_
  obtain ⟨b5, k⟩ := k
  refine q_aaload (pc := 23) rfl (by decide) rfl rfl b5 ?_
  refine q_aload_n (pc := 24) rfl rfl ?_
  refine q_getR (pc := 25) rfl (by decide) rfl rfl rfl ?_
  refine q_callV (pc := 28) (As := [q_r 15 0]) (rest := [q_i r4]) rfl rfl rfl (q_vin b5) rfl rfl (Nat.le_of_ble_eq_true rfl) ?_
  refine q_den_mono _ _ _ _ _ _ ?_ (dn_X1_planned (d := d) (q_vin b5) k)
  rintro _ g6 ⟨r7, rfl, k⟩
  refine q_iadd (pc := 31) rfl ?_
  exact q_iret (pc := 32) rfl rfl ⟨_, rfl, k⟩
set_option maxHeartbeats 4000000 in
set_option maxRecDepth 100000 in
theorem dn_X4_drain {d : Nat} {a1 : Int32} {h : q_H} {Q : Int32 → q_H → Prop} (k : wp_X4_drain a1 h Q) : q_den (d + 6) 58 [q_r 0 0, q_i a1] h (q_ri Q) := by
  unfold wp_X4_drain at k
  refine ⟨by decide, Nat.le_of_ble_eq_true rfl, ?_⟩
  show q_run (q_pcs q_t_X4_drain) 4 2 none (q_den (d + 5)) 1 (q_ri Q) 0 [(0, q_r 0 0), (1, q_i a1)] [] h
  refine q_aload_n (pc := 0) rfl rfl ?_
  refine q_iload_n (pc := 1) rfl rfl ?_
  refine q_callV (pc := 2) (As := [q_i a1]) (rest := []) rfl rfl rfl (by decide) rfl rfl (Nat.le_of_ble_eq_true rfl) ?_
  refine q_den_mono _ _ _ _ _ _ ?_ (dn_X4_isPart (d := d + 4)  k)
  rintro _ g1 ⟨r2, rfl, k⟩
  refine q_if_eq (pc := 5) (tgt := 24) rfl (by decide) (fun z => ?_) (fun z => ?_)
  · have k := k.1 z
    refine q_iconst (pc := 24) (v := (-1)) rfl (by decide) ?_
    exact q_iret (pc := 25) rfl rfl ⟨_, rfl, k⟩
  · have k := k.2 z
    refine q_aload_n (pc := 8) rfl rfl ?_
    refine q_iload_n (pc := 9) rfl rfl ?_
    refine q_aload_n (pc := 10) rfl rfl ?_
    refine q_getR (pc := 11) rfl (by decide) rfl rfl rfl ?_
    refine q_iload_n (pc := 14) rfl rfl ?_
    refine q_callV (pc := 15) (As := [q_i a1]) (rest := [q_i a1, q_r 0 0]) rfl rfl rfl (by decide) rfl rfl (Nat.le_of_ble_eq_true rfl) ?_
    refine q_den_mono _ _ _ _ _ _ ?_ (dn_X3_ticksOf (d := d + 3) (by decide) k)
    rintro _ g3 ⟨r4, rfl, k⟩
    refine q_callV (pc := 18) (As := [q_i a1, q_l r4]) (rest := []) rfl rfl rfl (by decide) rfl rfl (Nat.le_of_ble_eq_true rfl) ?_
    refine q_den_mono _ _ _ _ _ _ ?_ (dn_X4_drainInPlan (d := d)  k)
    rintro _ g5 ⟨r6, rfl, k⟩
    refine q_goto (pc := 21) (tgt := 25) rfl (by decide) ?_
    exact q_iret (pc := 25) rfl rfl ⟨_, rfl, k⟩
set_option maxHeartbeats 4000000 in
set_option maxRecDepth 100000 in
theorem dn_X4_ruled {d : Nat} {a1 : Int32} {h : q_H} {Q : Int32 → q_H → Prop} (k : wp_X4_ruled a1 h Q) : q_den (d + 5) 59 [q_r 0 0, q_i a1] h (q_ri Q) := by
  unfold wp_X4_ruled at k
  refine ⟨by decide, Nat.le_of_ble_eq_true rfl, ?_⟩
  show q_run (q_pcs q_t_X4_ruled) 4 2 none (q_den (d + 4)) 1 (q_ri Q) 0 [(0, q_r 0 0), (1, q_i a1)] [] h
  refine q_aload_n (pc := 0) rfl rfl ?_
  refine q_iload_n (pc := 1) rfl rfl ?_
  refine q_callV (pc := 2) (As := [q_i a1]) (rest := []) rfl rfl rfl (by decide) rfl rfl (Nat.le_of_ble_eq_true rfl) ?_
  refine q_den_mono _ _ _ _ _ _ ?_ (dn_X4_isPart (d := d + 3)  k)
  rintro _ g1 ⟨r2, rfl, k⟩
  refine q_if_eq (pc := 5) (tgt := 16) rfl (by decide) (fun z => ?_) (fun z => ?_)
  · have k := k.1 z
    refine q_iconst (pc := 16) (v := (-1)) rfl (by decide) ?_
    exact q_iret (pc := 17) rfl rfl ⟨_, rfl, k⟩
  · have k := k.2 z
    refine q_aload_n (pc := 8) rfl rfl ?_
    refine q_iload_n (pc := 9) rfl rfl ?_
    refine q_callV (pc := 10) (As := [q_i a1]) (rest := []) rfl rfl rfl (by decide) rfl rfl (Nat.le_of_ble_eq_true rfl) ?_
    refine q_den_mono _ _ _ _ _ _ ?_ (dn_X4_drainByRule (d := d)  k)
    rintro _ g3 ⟨r4, rfl, k⟩
    refine q_goto (pc := 13) (tgt := 17) rfl (by decide) ?_
    exact q_iret (pc := 17) rfl rfl ⟨_, rfl, k⟩
