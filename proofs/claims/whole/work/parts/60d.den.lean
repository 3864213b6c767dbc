set_option maxHeartbeats 4000000 in
set_option maxRecDepth 100000 in
theorem dn_X5_fires {d : Nat} {a1 : Int32} {h : q_H} {Q : Int32 → q_H → Prop} (k : wp_X5_fires a1 h Q) : q_den (d + 2) 100 [q_r 18 0, q_i a1] h (q_ri Q) := by
  unfold wp_X5_fires at k
  refine ⟨by decide, Nat.le_of_ble_eq_true rfl, ?_⟩
  show q_run (q_pcs q_t_X5_fires) 5 2 none (q_den (d + 1)) 1 (q_ri Q) 0 [(0, q_r 18 0), (1, q_i a1)] [] h
  refine q_aload_n (pc := 0) rfl rfl ?_
  refine q_callV (pc := 1) (As := []) (rest := []) rfl rfl rfl (by decide) rfl rfl (Nat.le_of_ble_eq_true rfl) ?_
  refine q_den_mono _ _ _ _ _ _ ?_ (dn_X5_wakes (d := d)  k)
  rintro _ g1 ⟨rfl, k⟩
  refine q_iload_n (pc := 4) rfl rfl ?_
  refine q_iconst (pc := 5) (v := 0) rfl (by decide) ?_
  refine q_aload_n (pc := 6) rfl rfl ?_
  refine q_getI (pc := 7) rfl (by decide) rfl rfl rfl ?_
  refine q_iconst (pc := 10) (v := 1) rfl (by decide) ?_
  refine q_isub (pc := 11) rfl ?_
  refine q_callS (kd := 0) (pc := 12) (As := [q_i a1, q_i 0, q_i ((Prod.fst g1 18 0 2) - 1)]) (rest := []) rfl rfl rfl  rfl (Nat.le_of_ble_eq_true rfl) ?_
  refine q_den_mono _ _ _ _ _ _ ?_ (dn_X5_isIn (d := d)  k)
  rintro _ g2 ⟨r3, rfl, k⟩
  refine q_if_eq (pc := 15) (tgt := 26) rfl (by decide) (fun z => ?_) (fun z => ?_)
  · have k := k.1 z
    refine q_iconst (pc := 26) (v := (-1)) rfl (by decide) ?_
    exact q_iret (pc := 27) rfl rfl ⟨_, rfl, k⟩
  · have k := k.2 z
    refine q_aload_n (pc := 18) rfl rfl ?_
    refine q_iload_n (pc := 19) rfl rfl ?_
    refine q_callV (pc := 20) (As := [q_i a1]) (rest := []) rfl rfl rfl (by decide) rfl rfl (Nat.le_of_ble_eq_true rfl) ?_
    refine q_den_mono _ _ _ _ _ _ ?_ (dn_X5_firesAt (d := d)  k)
    rintro _ g4 ⟨r5, rfl, k⟩
    refine q_goto (pc := 23) (tgt := 27) rfl (by decide) ?_
    exact q_iret (pc := 27) rfl rfl ⟨_, rfl, k⟩
set_option maxHeartbeats 4000000 in
set_option maxRecDepth 100000 in
theorem dn_X5_look {d : Nat} {a1 : Int32} {h : q_H} {Q : Int32 → q_H → Prop} (k : wp_X5_look a1 h Q) : q_den (d + 2) 101 [q_r 18 0, q_i a1] h (q_ri Q) := by
  unfold wp_X5_look at k
  refine ⟨by decide, Nat.le_of_ble_eq_true rfl, ?_⟩
  show q_run (q_pcs q_t_X5_look) 5 2 none (q_den (d + 1)) 1 (q_ri Q) 0 [(0, q_r 18 0), (1, q_i a1)] [] h
  refine q_aload_n (pc := 0) rfl rfl ?_
  refine q_callV (pc := 1) (As := []) (rest := []) rfl rfl rfl (by decide) rfl rfl (Nat.le_of_ble_eq_true rfl) ?_
  refine q_den_mono _ _ _ _ _ _ ?_ (dn_X5_wakes (d := d)  k)
  rintro _ g1 ⟨rfl, k⟩
  refine q_iload_n (pc := 4) rfl rfl ?_
  refine q_if_ne (pc := 5) (tgt := 15) rfl (by decide) (fun z => ?_) (fun z => ?_)
  · have k := k.2 z
    refine q_iload_n (pc := 15) rfl rfl ?_
    refine q_iconst (pc := 16) (v := 1) rfl (by decide) ?_
    refine q_icmp_ne (pc := 17) (tgt := 27) rfl (by decide) (fun z => ?_) (fun z => ?_)
    · have k := k.2 z
      refine q_iload_n (pc := 27) rfl rfl ?_
      refine q_iconst (pc := 28) (v := 2) rfl (by decide) ?_
      refine q_icmp_ne (pc := 29) (tgt := 39) rfl (by decide) (fun z => ?_) (fun z => ?_)
      · have k := k.2 z
        refine q_iload_n (pc := 39) rfl rfl ?_
        refine q_iconst (pc := 40) (v := 3) rfl (by decide) ?_
        refine q_icmp_ne (pc := 41) (tgt := 51) rfl (by decide) (fun z => ?_) (fun z => ?_)
        · have k := k.2 z
          refine q_iconst (pc := 51) (v := (-1)) rfl (by decide) ?_
          exact q_iret (pc := 52) rfl rfl ⟨_, rfl, k⟩
        · have k := k.1 z
          refine q_aload_n (pc := 44) rfl rfl ?_
          refine q_getI (pc := 45) rfl (by decide) rfl rfl rfl ?_
          refine q_goto (pc := 48) (tgt := 52) rfl (by decide) ?_
          exact q_iret (pc := 52) rfl rfl ⟨_, rfl, k⟩
      · have k := k.1 z
        refine q_aload_n (pc := 32) rfl rfl ?_
        refine q_getI (pc := 33) rfl (by decide) rfl rfl rfl ?_
        refine q_goto (pc := 36) (tgt := 52) rfl (by decide) ?_
        exact q_iret (pc := 52) rfl rfl ⟨_, rfl, k⟩
    · have k := k.1 z
      refine q_aload_n (pc := 20) rfl rfl ?_
      refine q_getI (pc := 21) rfl (by decide) rfl rfl rfl ?_
      refine q_goto (pc := 24) (tgt := 52) rfl (by decide) ?_
      exact q_iret (pc := 52) rfl rfl ⟨_, rfl, k⟩
  · have k := k.1 z
    refine q_aload_n (pc := 8) rfl rfl ?_
    refine q_getI (pc := 9) rfl (by decide) rfl rfl rfl ?_
    refine q_goto (pc := 12) (tgt := 52) rfl (by decide) ?_
    exact q_iret (pc := 52) rfl rfl ⟨_, rfl, k⟩
set_option maxHeartbeats 4000000 in
set_option maxRecDepth 100000 in
theorem dn_X5_held {d : Nat} {a1 : Int32} {a2 : Int32} {h : q_H} {Q : Int32 → q_H → Prop} (k : wp_X5_held a1 a2 h Q) : q_den (d + 2) 102 [q_r 18 0, q_i a1, q_i a2] h (q_ri Q) := by
  unfold wp_X5_held at k
  refine ⟨by decide, Nat.le_of_ble_eq_true rfl, ?_⟩
  show q_run (q_pcs q_t_X5_held) 5 3 none (q_den (d + 1)) 1 (q_ri Q) 0 [(0, q_r 18 0), (1, q_i a1), (2, q_i a2)] [] h
  refine q_iload_n (pc := 0) rfl rfl ?_
  refine q_iconst (pc := 1) (v := 0) rfl (by decide) ?_
  refine q_aload_n (pc := 2) rfl rfl ?_
  refine q_getI (pc := 3) rfl (by decide) rfl rfl rfl ?_
  refine q_iconst (pc := 6) (v := 1) rfl (by decide) ?_
  refine q_isub (pc := 7) rfl ?_
  refine q_callS (kd := 0) (pc := 8) (As := [q_i a1, q_i 0, q_i ((Prod.fst h 18 0 1) - 1)]) (rest := []) rfl rfl rfl  rfl (Nat.le_of_ble_eq_true rfl) ?_
  refine q_den_mono _ _ _ _ _ _ ?_ (dn_X5_isIn (d := d)  k)
  rintro _ g1 ⟨r2, rfl, k⟩
  refine q_if_eq (pc := 11) (tgt := 36) rfl (by decide) (fun z => ?_) (fun z => ?_)
  · have k := k.1 z
    refine q_iconst (pc := 36) (v := (-1)) rfl (by decide) ?_
    exact q_iret (pc := 37) rfl rfl ⟨_, rfl, k⟩
  · have k := k.2 z
    refine q_iload_n (pc := 14) rfl rfl ?_
    refine q_iconst (pc := 15) (v := 0) rfl (by decide) ?_
    refine q_iconst (pc := 16) (v := 3) rfl (by decide) ?_
    refine q_callS (kd := 0) (pc := 17) (As := [q_i a2, q_i 0, q_i 3]) (rest := []) rfl rfl rfl  rfl (Nat.le_of_ble_eq_true rfl) ?_
    refine q_den_mono _ _ _ _ _ _ ?_ (dn_X5_isIn (d := d)  k)
    rintro _ g3 ⟨r4, rfl, k⟩
    refine q_if_eq (pc := 20) (tgt := 36) rfl (by decide) (fun z => ?_) (fun z => ?_)
    · have k := k.1 z
      refine q_iconst (pc := 36) (v := (-1)) rfl (by decide) ?_
      exact q_iret (pc := 37) rfl rfl ⟨_, rfl, k⟩
    · have k := k.2 z
      refine q_aload_n (pc := 23) rfl rfl ?_
      refine q_getR (pc := 24) rfl (by decide) rfl rfl rfl ?_
      refine q_iconst (pc := 27) (v := 4) rfl (by decide) ?_
      refine q_iload_n (pc := 28) rfl rfl ?_
      refine q_imul (pc := 29) rfl ?_
      refine q_iload_n (pc := 30) rfl rfl ?_
      refine q_iadd (pc := 31) rfl ?_
      obtain ⟨b5, k⟩ := k
      refine q_iaload (pc := 32) rfl (by decide) rfl rfl b5 ?_
      refine q_goto (pc := 33) (tgt := 37) rfl (by decide) ?_
      exact q_iret (pc := 37) rfl rfl ⟨_, rfl, k⟩
set_option maxHeartbeats 4000000 in
set_option maxRecDepth 100000 in
theorem dl_X5_wants_6 {d : Nat} {E : Int32 → q_H → Prop} {Q : q_H → Prop} (hE : ∀ (x1 : Int32) (h : q_H), E x1 h → q_run (q_pcs q_t_X5_wants) 5 5 none (q_den (d + 1)) 0 (q_rv Q) 26 [(0, q_r 18 0), (1, q_i x1)] [] h) : ∀ (n : Nat) (x1 : Int32) (h : q_H), lp_X5_wants_6 E n x1 h → q_run (q_pcs q_t_X5_wants) 5 5 none (q_den (d + 1)) 0 (q_rv Q) 6 [(0, q_r 18 0), (1, q_i x1)] [] h := by
  intro n
  induction n with
  | zero => intro x1 h k; exact k.elim
  | succ n ih =>
    intro x1 h k
    unfold lp_X5_wants_6 at k
    refine q_iload_n (pc := 6) rfl rfl ?_
    refine q_sipush (pc := 7) (v := 384) rfl (by decide) ?_
    refine q_icmp_ge (pc := 10) (tgt := 26) rfl (by decide) (fun z => ?_) (fun z => ?_)
    · have k := k.1 z
      refine q_sub (pc := 26) (ks := [0, 1]) rfl ?_
      exact hE _ _ k
    · have k := k.2 z
      refine q_aload_n (pc := 13) rfl rfl ?_
      refine q_getR (pc := 14) rfl (by decide) rfl rfl rfl ?_
      refine q_iload_n (pc := 17) rfl rfl ?_
      refine q_iconst (pc := 18) (v := 0) rfl (by decide) ?_
      obtain ⟨b2, k⟩ := k
      refine q_iastore (pc := 19) rfl (by decide) rfl rfl b2 ?_
      refine q_iinc (pc := 20) (v := (x1 + 1)) (ls1 := [(1, q_i (x1 + 1)), (0, q_r 18 0)]) rfl (by decide) rfl (congrArg (fun z => x1 + z) (by decide : Int32.ofInt 1 = 1)) rfl ?_
      refine q_goto (pc := 23) (tgt := 6) rfl (by decide) ?_
      refine q_sub (pc := 6) (ks := [1, 0]) rfl ?_
      exact ih _ _ k
set_option maxHeartbeats 4000000 in
set_option maxRecDepth 100000 in
theorem dl_X5_wants_55 {d : Nat} {x1 : Int32} {E : Int32 → q_H → Prop} {Q : q_H → Prop} (hE : ∀ (x2 : Int32) (h : q_H), E x2 h → q_run (q_pcs q_t_X5_wants) 5 5 none (q_den (d + 1)) 0 (q_rv Q) 108 [(0, q_r 18 0), (1, q_i x1), (2, q_i x2)] [] h) : ∀ (n : Nat) (x2 : Int32) (h : q_H), lp_X5_wants_55 x1 E n x2 h → q_run (q_pcs q_t_X5_wants) 5 5 none (q_den (d + 1)) 0 (q_rv Q) 55 [(0, q_r 18 0), (1, q_i x1), (2, q_i x2)] [] h := by
  intro n
  induction n with
  | zero => intro x2 h k; exact k.elim
  | succ n ih =>
    intro x2 h k
    unfold lp_X5_wants_55 at k
    refine q_iload_n (pc := 55) rfl rfl ?_
    refine q_aload_n (pc := 56) rfl rfl ?_
    refine q_getR (pc := 57) rfl (by decide) rfl rfl rfl ?_
    refine q_iconst (pc := 60) (v := 4) rfl (by decide) ?_
    refine q_iload_n (pc := 61) rfl rfl ?_
    refine q_imul (pc := 62) rfl ?_
    refine q_iconst (pc := 63) (v := 3) rfl (by decide) ?_
    refine q_iadd (pc := 64) rfl ?_
    obtain ⟨b5, k⟩ := k
    refine q_iaload (pc := 65) rfl (by decide) rfl rfl b5 ?_
    refine q_icmp_ge (pc := 66) (tgt := 108) rfl (by decide) (fun z => ?_) (fun z => ?_)
    · have k := k.1 z
      refine q_sub (pc := 108) (ks := [0, 1, 2]) rfl ?_
      exact hE _ _ k
    · have k := k.2 z
      refine q_aload_n (pc := 69) rfl rfl ?_
      refine q_getR (pc := 70) rfl (by decide) rfl rfl rfl ?_
      refine q_bipush (pc := 73) (v := 64) rfl (by decide) ?_
      refine q_aload_n (pc := 75) rfl rfl ?_
      refine q_getR (pc := 76) rfl (by decide) rfl rfl rfl ?_
      refine q_iconst (pc := 79) (v := 4) rfl (by decide) ?_
      refine q_iload_n (pc := 80) rfl rfl ?_
      refine q_imul (pc := 81) rfl ?_
      refine q_iconst (pc := 82) (v := 1) rfl (by decide) ?_
      refine q_iadd (pc := 83) rfl ?_
      obtain ⟨b6, k⟩ := k
      refine q_iaload (pc := 84) rfl (by decide) rfl rfl b6 ?_
      refine q_imul (pc := 85) rfl ?_
      refine q_iload_n (pc := 86) rfl rfl ?_
      refine q_iadd (pc := 87) rfl ?_
      refine q_dup2_11 (pc := 88) rfl rfl rfl ?_
      obtain ⟨b7, k⟩ := k
      refine q_iaload (pc := 89) rfl (by decide) rfl rfl b7 ?_
      refine q_iconst (pc := 90) (v := 1) rfl (by decide) ?_
      refine q_aload_n (pc := 91) rfl rfl ?_
      refine q_getR (pc := 92) rfl (by decide) rfl rfl rfl ?_
      refine q_iconst (pc := 95) (v := 4) rfl (by decide) ?_
      refine q_iload_n (pc := 96) rfl rfl ?_
      refine q_imul (pc := 97) rfl ?_
      obtain ⟨b8, k⟩ := k
      refine q_iaload (pc := 98) rfl (by decide) rfl rfl b8 ?_
      refine q_ishl (pc := 99) rfl ?_
      refine q_ior (pc := 100) rfl ?_
      obtain ⟨b9, k⟩ := k
      refine q_iastore (pc := 101) rfl (by decide) rfl rfl b9 ?_
      refine q_iinc (pc := 102) (v := (x2 + 1)) (ls1 := [(2, q_i (x2 + 1)), (0, q_r 18 0), (1, q_i x1)]) rfl (by decide) rfl (congrArg (fun z => x2 + z) (by decide : Int32.ofInt 1 = 1)) rfl ?_
      refine q_goto (pc := 105) (tgt := 55) rfl (by decide) ?_
      refine q_sub (pc := 55) (ks := [1, 2, 0]) rfl ?_
      exact ih _ _ k
set_option maxHeartbeats 4000000 in
set_option maxRecDepth 100000 in
theorem dl_X5_wants_28 {d : Nat} {E : Int32 → q_H → Prop} {Q : q_H → Prop} (hE : ∀ (x1 : Int32) (h : q_H), E x1 h → q_run (q_pcs q_t_X5_wants) 5 5 none (q_den (d + 1)) 0 (q_rv Q) 114 [(0, q_r 18 0), (1, q_i x1)] [] h) : ∀ (n : Nat) (x1 : Int32) (h : q_H), lp_X5_wants_28 E n x1 h → q_run (q_pcs q_t_X5_wants) 5 5 none (q_den (d + 1)) 0 (q_rv Q) 28 [(0, q_r 18 0), (1, q_i x1)] [] h := by
  intro n
  induction n with
  | zero => intro x1 h k; exact k.elim
  | succ n ih =>
    intro x1 h k
    unfold lp_X5_wants_28 at k
    refine q_iload_n (pc := 28) rfl rfl ?_
    refine q_aload_n (pc := 29) rfl rfl ?_
    refine q_getI (pc := 30) rfl (by decide) rfl rfl rfl ?_
    refine q_icmp_ge (pc := 33) (tgt := 114) rfl (by decide) (fun z => ?_) (fun z => ?_)
    · have k := k.1 z
      refine q_sub (pc := 114) (ks := [0, 1]) rfl ?_
      exact hE _ _ k
    · have k := k.2 z
      refine q_iload_n (pc := 36) rfl rfl ?_
      refine q_aload_n (pc := 37) rfl rfl ?_
      refine q_getI (pc := 38) rfl (by decide) rfl rfl rfl ?_
      refine q_icmp_eq (pc := 41) (tgt := 108) rfl (by decide) (fun z => ?_) (fun z => ?_)
      · have k := k.1 z
        refine q_iinc (pc := 108) (v := (x1 + 1)) (ls1 := [(1, q_i (x1 + 1)), (0, q_r 18 0)]) rfl (by decide) rfl (congrArg (fun z => x1 + z) (by decide : Int32.ofInt 1 = 1)) rfl ?_
        refine q_goto (pc := 111) (tgt := 28) rfl (by decide) ?_
        refine q_sub (pc := 28) (ks := [1, 0]) rfl ?_
        exact ih _ _ k
      · have k := k.2 z
        refine q_aload_n (pc := 44) rfl rfl ?_
        refine q_getR (pc := 45) rfl (by decide) rfl rfl rfl ?_
        refine q_iconst (pc := 48) (v := 4) rfl (by decide) ?_
        refine q_iload_n (pc := 49) rfl rfl ?_
        refine q_imul (pc := 50) rfl ?_
        refine q_iconst (pc := 51) (v := 2) rfl (by decide) ?_
        refine q_iadd (pc := 52) rfl ?_
        obtain ⟨b4, k⟩ := k
        refine q_iaload (pc := 53) rfl (by decide) rfl rfl b4 ?_
        refine q_istore_n (pc := 54) (ls1 := [(2, q_i (Prod.fst h 24 0 (Int32.toNatClampNeg ((4 * x1) + 2)))), (0, q_r 18 0), (1, q_i x1)]) rfl (by decide) rfl ?_
        obtain ⟨n10, k⟩ := k
        refine q_sub (pc := 55) (ks := [1, 2, 0]) rfl ?_
        refine dl_X5_wants_55 (fun y2_10 g10 k => ?_) n10 _ _ k
        refine q_iinc (pc := 108) (v := (x1 + 1)) (ls1 := [(1, q_i (x1 + 1)), (0, q_r 18 0), (2, q_i y2_10)]) rfl (by decide) rfl (congrArg (fun z => x1 + z) (by decide : Int32.ofInt 1 = 1)) rfl ?_
        refine q_goto (pc := 111) (tgt := 28) rfl (by decide) ?_
        refine q_sub (pc := 28) (ks := [1, 0]) rfl ?_
        exact ih _ _ k
set_option maxHeartbeats 4000000 in
set_option maxRecDepth 100000 in
theorem dl_X5_wants_116 {d : Nat} {E : Int32 → q_H → Prop} {Q : q_H → Prop} (hE : ∀ (x1 : Int32) (h : q_H), E x1 h → q_run (q_pcs q_t_X5_wants) 5 5 none (q_den (d + 1)) 0 (q_rv Q) 167 [(0, q_r 18 0), (1, q_i x1)] [] h) : ∀ (n : Nat) (x1 : Int32) (h : q_H), lp_X5_wants_116 E n x1 h → q_run (q_pcs q_t_X5_wants) 5 5 none (q_den (d + 1)) 0 (q_rv Q) 116 [(0, q_r 18 0), (1, q_i x1)] [] h := by
  intro n
  induction n with
  | zero => intro x1 h k; exact k.elim
  | succ n ih =>
    intro x1 h k
    unfold lp_X5_wants_116 at k
    refine q_iload_n (pc := 116) rfl rfl ?_
    refine q_aload_n (pc := 117) rfl rfl ?_
    refine q_getI (pc := 118) rfl (by decide) rfl rfl rfl ?_
    refine q_icmp_ge (pc := 121) (tgt := 167) rfl (by decide) (fun z => ?_) (fun z => ?_)
    · have k := k.1 z
      refine q_sub (pc := 167) (ks := [0, 1]) rfl ?_
      exact hE _ _ k
    · have k := k.2 z
      refine q_aload_n (pc := 124) rfl rfl ?_
      refine q_getR (pc := 125) rfl (by decide) rfl rfl rfl ?_
      refine q_bipush (pc := 128) (v := 64) rfl (by decide) ?_
      refine q_aload_n (pc := 130) rfl rfl ?_
      refine q_getR (pc := 131) rfl (by decide) rfl rfl rfl ?_
      refine q_iconst (pc := 134) (v := 4) rfl (by decide) ?_
      refine q_iload_n (pc := 135) rfl rfl ?_
      refine q_imul (pc := 136) rfl ?_
      refine q_iconst (pc := 137) (v := 1) rfl (by decide) ?_
      refine q_iadd (pc := 138) rfl ?_
      obtain ⟨b12, k⟩ := k
      refine q_iaload (pc := 139) rfl (by decide) rfl rfl b12 ?_
      refine q_imul (pc := 140) rfl ?_
      refine q_aload_n (pc := 141) rfl rfl ?_
      refine q_iload_n (pc := 142) rfl rfl ?_
      refine q_callV (pc := 143) (As := [q_i x1]) (rest := [q_i (64 * (Prod.fst h 25 0 (Int32.toNatClampNeg ((4 * x1) + 1)))), q_r 27 0]) rfl rfl rfl (by decide) rfl rfl (Nat.le_of_ble_eq_true rfl) ?_
      refine q_den_mono _ _ _ _ _ _ ?_ (dn_X5_firesAt (d := d)  k)
      rintro _ g13 ⟨r14, rfl, k⟩
      refine q_iadd (pc := 146) rfl ?_
      refine q_dup2_11 (pc := 147) rfl rfl rfl ?_
      obtain ⟨b15, k⟩ := k
      refine q_iaload (pc := 148) rfl (by decide) rfl rfl b15 ?_
      refine q_iconst (pc := 149) (v := 1) rfl (by decide) ?_
      refine q_aload_n (pc := 150) rfl rfl ?_
      refine q_getR (pc := 151) rfl (by decide) rfl rfl rfl ?_
      refine q_iconst (pc := 154) (v := 4) rfl (by decide) ?_
      refine q_iload_n (pc := 155) rfl rfl ?_
      refine q_imul (pc := 156) rfl ?_
      obtain ⟨b16, k⟩ := k
      refine q_iaload (pc := 157) rfl (by decide) rfl rfl b16 ?_
      refine q_ishl (pc := 158) rfl ?_
      refine q_ior (pc := 159) rfl ?_
      obtain ⟨b17, k⟩ := k
      refine q_iastore (pc := 160) rfl (by decide) rfl rfl b17 ?_
      refine q_iinc (pc := 161) (v := (x1 + 1)) (ls1 := [(1, q_i (x1 + 1)), (0, q_r 18 0)]) rfl (by decide) rfl (congrArg (fun z => x1 + z) (by decide : Int32.ofInt 1 = 1)) rfl ?_
      refine q_goto (pc := 164) (tgt := 116) rfl (by decide) ?_
      refine q_sub (pc := 116) (ks := [1, 0]) rfl ?_
      exact ih _ _ k
set_option maxHeartbeats 4000000 in
set_option maxRecDepth 100000 in
theorem dl_X5_wants_212 {d : Nat} {x1 : Int32} {x2 : Int32} {x3 : Int32} {E : Int32 → q_H → Prop} {Q : q_H → Prop} (hE : ∀ (x4 : Int32) (h : q_H), E x4 h → q_run (q_pcs q_t_X5_wants) 5 5 none (q_den (d + 1)) 0 (q_rv Q) 252 [(0, q_r 18 0), (1, q_i x1), (2, q_i x2), (3, q_i x3), (4, q_i x4)] [] h) : ∀ (n : Nat) (x4 : Int32) (h : q_H), lp_X5_wants_212 x1 x2 x3 E n x4 h → q_run (q_pcs q_t_X5_wants) 5 5 none (q_den (d + 1)) 0 (q_rv Q) 212 [(0, q_r 18 0), (1, q_i x1), (2, q_i x2), (3, q_i x3), (4, q_i x4)] [] h := by
  intro n
  induction n with
  | zero => intro x4 h k; exact k.elim
  | succ n ih =>
    intro x4 h k
    unfold lp_X5_wants_212 at k
    refine q_iload (pc := 212) rfl rfl ?_
    refine q_bipush (pc := 214) (v := 64) rfl (by decide) ?_
    refine q_icmp_ge (pc := 216) (tgt := 252) rfl (by decide) (fun z => ?_) (fun z => ?_)
    · have k := k.1 z
      refine q_sub (pc := 252) (ks := [0, 1, 2, 3, 4]) rfl ?_
      exact hE _ _ k
    · have k := k.2 z
      refine q_aload_n (pc := 219) rfl rfl ?_
      refine q_getR (pc := 220) rfl (by decide) rfl rfl rfl ?_
      refine q_bipush (pc := 223) (v := 64) rfl (by decide) ?_
      refine q_iload_n (pc := 225) rfl rfl ?_
      refine q_imul (pc := 226) rfl ?_
      refine q_iload (pc := 227) rfl rfl ?_
      refine q_iadd (pc := 229) rfl ?_
      refine q_dup2_11 (pc := 230) rfl rfl rfl ?_
      obtain ⟨b20, k⟩ := k
      refine q_iaload (pc := 231) rfl (by decide) rfl rfl b20 ?_
      refine q_aload_n (pc := 232) rfl rfl ?_
      refine q_getR (pc := 233) rfl (by decide) rfl rfl rfl ?_
      refine q_bipush (pc := 236) (v := 64) rfl (by decide) ?_
      refine q_iload_n (pc := 238) rfl rfl ?_
      refine q_imul (pc := 239) rfl ?_
      refine q_iload (pc := 240) rfl rfl ?_
      refine q_iadd (pc := 242) rfl ?_
      obtain ⟨b21, k⟩ := k
      refine q_iaload (pc := 243) rfl (by decide) rfl rfl b21 ?_
      refine q_ior (pc := 244) rfl ?_
      obtain ⟨b22, k⟩ := k
      refine q_iastore (pc := 245) rfl (by decide) rfl rfl b22 ?_
      refine q_iinc (pc := 246) (v := (x4 + 1)) (ls1 := [(4, q_i (x4 + 1)), (0, q_r 18 0), (1, q_i x1), (2, q_i x2), (3, q_i x3)]) rfl (by decide) rfl (congrArg (fun z => x4 + z) (by decide : Int32.ofInt 1 = 1)) rfl ?_
      refine q_goto (pc := 249) (tgt := 212) rfl (by decide) ?_
      refine q_sub (pc := 212) (ks := [1, 2, 3, 4, 0]) rfl ?_
      exact ih _ _ k
set_option maxHeartbeats 4000000 in
set_option maxRecDepth 100000 in
theorem dl_X5_wants_187 {d : Nat} {x1 : Int32} {x2 : Int32} {E : Int32 → q_H → Prop} {Q : q_H → Prop} (hE : ∀ (x3 : Int32) (h : q_H), E x3 h → q_run (q_pcs q_t_X5_wants) 5 5 none (q_den (d + 1)) 0 (q_rv Q) 258 [(0, q_r 18 0), (1, q_i x1), (2, q_i x2), (3, q_i x3)] [] h) : ∀ (n : Nat) (x3 : Int32) (h : q_H), lp_X5_wants_187 x1 x2 E n x3 h → q_run (q_pcs q_t_X5_wants) 5 5 none (q_den (d + 1)) 0 (q_rv Q) 187 [(0, q_r 18 0), (1, q_i x1), (2, q_i x2), (3, q_i x3)] [] h := by
  intro n
  induction n with
  | zero => intro x3 h k; exact k.elim
  | succ n ih =>
    intro x3 h k
    unfold lp_X5_wants_187 at k
    refine q_iload_n (pc := 187) rfl rfl ?_
    refine q_aload_n (pc := 188) rfl rfl ?_
    refine q_getI (pc := 189) rfl (by decide) rfl rfl rfl ?_
    refine q_icmp_ge (pc := 192) (tgt := 258) rfl (by decide) (fun z => ?_) (fun z => ?_)
    · have k := k.1 z
      refine q_sub (pc := 258) (ks := [0, 1, 2, 3]) rfl ?_
      exact hE _ _ k
    · have k := k.2 z
      refine q_aload_n (pc := 195) rfl rfl ?_
      refine q_getR (pc := 196) rfl (by decide) rfl rfl rfl ?_
      refine q_bipush (pc := 199) (v := 6) rfl (by decide) ?_
      refine q_iload_n (pc := 201) rfl rfl ?_
      refine q_imul (pc := 202) rfl ?_
      refine q_iload_n (pc := 203) rfl rfl ?_
      refine q_iadd (pc := 204) rfl ?_
      obtain ⟨b19, k⟩ := k
      refine q_zaload (pc := 205) rfl (by decide) rfl rfl b19 ?_
      refine q_if_eq (pc := 206) (tgt := 252) rfl (by decide) (fun z => ?_) (fun z => ?_)
      · have k := k.1 z
        refine q_iinc (pc := 252) (v := (x3 + 1)) (ls1 := [(3, q_i (x3 + 1)), (0, q_r 18 0), (1, q_i x1), (2, q_i x2)]) rfl (by decide) rfl (congrArg (fun z => x3 + z) (by decide : Int32.ofInt 1 = 1)) rfl ?_
        refine q_goto (pc := 255) (tgt := 187) rfl (by decide) ?_
        refine q_sub (pc := 187) (ks := [1, 2, 3, 0]) rfl ?_
        exact ih _ _ k
      · have k := k.2 z
        refine q_iconst (pc := 209) (v := 0) rfl (by decide) ?_
        refine q_istore (pc := 210) (ls1 := [(4, q_i 0), (0, q_r 18 0), (1, q_i x1), (2, q_i x2), (3, q_i x3)]) rfl (by decide) rfl ?_
        obtain ⟨n23, k⟩ := k
        refine q_sub (pc := 212) (ks := [1, 2, 3, 4, 0]) rfl ?_
        refine dl_X5_wants_212 (fun y4_23 g23 k => ?_) n23 _ _ k
        refine q_iinc (pc := 252) (v := (x3 + 1)) (ls1 := [(3, q_i (x3 + 1)), (0, q_r 18 0), (1, q_i x1), (2, q_i x2), (4, q_i y4_23)]) rfl (by decide) rfl (congrArg (fun z => x3 + z) (by decide : Int32.ofInt 1 = 1)) rfl ?_
        refine q_goto (pc := 255) (tgt := 187) rfl (by decide) ?_
        refine q_sub (pc := 187) (ks := [1, 2, 3, 0]) rfl ?_
        exact ih _ _ k
set_option maxHeartbeats 4000000 in
set_option maxRecDepth 100000 in
theorem dl_X5_wants_177 {d : Nat} {x1 : Int32} {E : Int32 → q_H → Prop} {Q : q_H → Prop} (hE : ∀ (x2 : Int32) (h : q_H), E x2 h → q_run (q_pcs q_t_X5_wants) 5 5 none (q_den (d + 1)) 0 (q_rv Q) 264 [(0, q_r 18 0), (1, q_i x1), (2, q_i x2)] [] h) : ∀ (n : Nat) (x2 : Int32) (h : q_H), lp_X5_wants_177 x1 E n x2 h → q_run (q_pcs q_t_X5_wants) 5 5 none (q_den (d + 1)) 0 (q_rv Q) 177 [(0, q_r 18 0), (1, q_i x1), (2, q_i x2)] [] h := by
  intro n
  induction n with
  | zero => intro x2 h k; exact k.elim
  | succ n ih =>
    intro x2 h k
    unfold lp_X5_wants_177 at k
    refine q_iload_n (pc := 177) rfl rfl ?_
    refine q_aload_n (pc := 178) rfl rfl ?_
    refine q_getI (pc := 179) rfl (by decide) rfl rfl rfl ?_
    refine q_icmp_ge (pc := 182) (tgt := 264) rfl (by decide) (fun z => ?_) (fun z => ?_)
    · have k := k.1 z
      refine q_sub (pc := 264) (ks := [0, 1, 2]) rfl ?_
      exact hE _ _ k
    · have k := k.2 z
      refine q_iconst (pc := 185) (v := 0) rfl (by decide) ?_
      refine q_istore_n (pc := 186) (ls1 := [(3, q_i 0), (0, q_r 18 0), (1, q_i x1), (2, q_i x2)]) rfl (by decide) rfl ?_
      obtain ⟨n24, k⟩ := k
      refine q_sub (pc := 187) (ks := [1, 2, 3, 0]) rfl ?_
      refine dl_X5_wants_187 (fun y3_24 g24 k => ?_) n24 _ _ k
      refine q_iinc (pc := 258) (v := (x2 + 1)) (ls1 := [(2, q_i (x2 + 1)), (0, q_r 18 0), (1, q_i x1), (3, q_i y3_24)]) rfl (by decide) rfl (congrArg (fun z => x2 + z) (by decide : Int32.ofInt 1 = 1)) rfl ?_
      refine q_goto (pc := 261) (tgt := 177) rfl (by decide) ?_
      refine q_sub (pc := 177) (ks := [1, 2, 0]) rfl ?_
      exact ih _ _ k
set_option maxHeartbeats 4000000 in
set_option maxRecDepth 100000 in
theorem dl_X5_wants_169 {d : Nat} {E : Int32 → q_H → Prop} {Q : q_H → Prop} (hE : ∀ (x1 : Int32) (h : q_H), E x1 h → q_run (q_pcs q_t_X5_wants) 5 5 none (q_den (d + 1)) 0 (q_rv Q) 270 [(0, q_r 18 0), (1, q_i x1)] [] h) : ∀ (n : Nat) (x1 : Int32) (h : q_H), lp_X5_wants_169 E n x1 h → q_run (q_pcs q_t_X5_wants) 5 5 none (q_den (d + 1)) 0 (q_rv Q) 169 [(0, q_r 18 0), (1, q_i x1)] [] h := by
  intro n
  induction n with
  | zero => intro x1 h k; exact k.elim
  | succ n ih =>
    intro x1 h k
    unfold lp_X5_wants_169 at k
    refine q_iload_n (pc := 169) rfl rfl ?_
    refine q_bipush (pc := 170) (v := 6) rfl (by decide) ?_
    refine q_icmp_ge (pc := 172) (tgt := 270) rfl (by decide) (fun z => ?_) (fun z => ?_)
    · have k := k.1 z
      refine q_sub (pc := 270) (ks := [0, 1]) rfl ?_
      exact hE _ _ k
    · have k := k.2 z
      refine q_iconst (pc := 175) (v := 0) rfl (by decide) ?_
      refine q_istore_n (pc := 176) (ls1 := [(2, q_i 0), (0, q_r 18 0), (1, q_i x1)]) rfl (by decide) rfl ?_
      obtain ⟨n25, k⟩ := k
      refine q_sub (pc := 177) (ks := [1, 2, 0]) rfl ?_
      refine dl_X5_wants_177 (fun y2_25 g25 k => ?_) n25 _ _ k
      refine q_iinc (pc := 264) (v := (x1 + 1)) (ls1 := [(1, q_i (x1 + 1)), (0, q_r 18 0), (2, q_i y2_25)]) rfl (by decide) rfl (congrArg (fun z => x1 + z) (by decide : Int32.ofInt 1 = 1)) rfl ?_
      refine q_goto (pc := 267) (tgt := 169) rfl (by decide) ?_
      refine q_sub (pc := 169) (ks := [1, 0]) rfl ?_
      exact ih _ _ k
set_option maxHeartbeats 4000000 in
set_option maxRecDepth 100000 in
theorem dn_X5_wants {d : Nat} {h : q_H} {Q : q_H → Prop} (k : wp_X5_wants h Q) : q_den (d + 2) 103 [q_r 18 0] h (q_rv Q) := by
  unfold wp_X5_wants at k
  refine ⟨by decide, Nat.le_of_ble_eq_true rfl, ?_⟩
  show q_run (q_pcs q_t_X5_wants) 5 5 none (q_den (d + 1)) 0 (q_rv Q) 0 [(0, q_r 18 0)] [] h
  refine q_aload_n (pc := 0) rfl rfl ?_
  refine q_callV (pc := 1) (As := []) (rest := []) rfl rfl rfl (by decide) rfl rfl (Nat.le_of_ble_eq_true rfl) ?_
  refine q_den_mono _ _ _ _ _ _ ?_ (dn_X5_wakes (d := d)  k)
  rintro _ g1 ⟨rfl, k⟩
  refine q_iconst (pc := 4) (v := 0) rfl (by decide) ?_
  refine q_istore_n (pc := 5) (ls1 := [(1, q_i 0), (0, q_r 18 0)]) rfl (by decide) rfl ?_
  obtain ⟨n3, k⟩ := k
  refine q_sub (pc := 6) (ks := [1, 0]) rfl ?_
  refine dl_X5_wants_6 (fun y1_3 g3 k => ?_) n3 _ _ k
  refine q_iconst (pc := 26) (v := 0) rfl (by decide) ?_
  refine q_istore_n (pc := 27) (ls1 := [(1, q_i 0), (0, q_r 18 0)]) rfl (by decide) rfl ?_
  obtain ⟨n11, k⟩ := k
  refine q_sub (pc := 28) (ks := [1, 0]) rfl ?_
  refine dl_X5_wants_28 (fun y1_11 g11 k => ?_) n11 _ _ k
  refine q_iconst (pc := 114) (v := 0) rfl (by decide) ?_
  refine q_istore_n (pc := 115) (ls1 := [(1, q_i 0), (0, q_r 18 0)]) rfl (by decide) rfl ?_
  obtain ⟨n18, k⟩ := k
  refine q_sub (pc := 116) (ks := [1, 0]) rfl ?_
  refine dl_X5_wants_116 (fun y1_18 g18 k => ?_) n18 _ _ k
  refine q_iconst (pc := 167) (v := 0) rfl (by decide) ?_
  refine q_istore_n (pc := 168) (ls1 := [(1, q_i 0), (0, q_r 18 0)]) rfl (by decide) rfl ?_
  obtain ⟨n26, k⟩ := k
  refine q_sub (pc := 169) (ks := [1, 0]) rfl ?_
  refine dl_X5_wants_169 (fun y1_26 g26 k => ?_) n26 _ _ k
  exact q_vret (pc := 270) rfl rfl ⟨rfl, k⟩
set_option maxHeartbeats 4000000 in
set_option maxRecDepth 100000 in
theorem dn_X5_isWanted {d : Nat} {a1 : Int32} {a2 : Int32} {h : q_H} {Q : Int32 → q_H → Prop} (k : wp_X5_isWanted a1 a2 h Q) : q_den (d + 1) 104 [q_r 18 0, q_i a1, q_i a2] h (q_ri Q) := by
  unfold wp_X5_isWanted at k
  refine ⟨by decide, Nat.le_of_ble_eq_true rfl, ?_⟩
  show q_run (q_pcs q_t_X5_isWanted) 5 3 none (q_den d) 3 (q_ri Q) 0 [(0, q_r 18 0), (1, q_i a1), (2, q_i a2)] [] h
  refine q_aload_n (pc := 0) rfl rfl ?_
  refine q_getR (pc := 1) rfl (by decide) rfl rfl rfl ?_
  refine q_bipush (pc := 4) (v := 64) rfl (by decide) ?_
  refine q_iload_n (pc := 6) rfl rfl ?_
  refine q_imul (pc := 7) rfl ?_
  refine q_iload_n (pc := 8) rfl rfl ?_
  refine q_iadd (pc := 9) rfl ?_
  obtain ⟨b1, k⟩ := k
  refine q_iaload (pc := 10) rfl (by decide) rfl rfl b1 ?_
  refine q_if_eq (pc := 11) (tgt := 18) rfl (by decide) (fun z => ?_) (fun z => ?_)
  · have k := k.1 z
    refine q_iconst (pc := 18) (v := 0) rfl (by decide) ?_
    exact q_zret (pc := 19) rfl rfl (by decide) ⟨_, rfl, k⟩
  · have k := k.2 z
    refine q_iconst (pc := 14) (v := 1) rfl (by decide) ?_
    refine q_goto (pc := 15) (tgt := 19) rfl (by decide) ?_
    exact q_zret (pc := 19) rfl rfl (by decide) ⟨_, rfl, k⟩
set_option maxHeartbeats 4000000 in
set_option maxRecDepth 100000 in
theorem dn_X5_wanted {d : Nat} {a1 : Int32} {a2 : Int32} {h : q_H} {Q : Int32 → q_H → Prop} (k : wp_X5_wanted a1 a2 h Q) : q_den (d + 3) 105 [q_r 18 0, q_i a1, q_i a2] h (q_ri Q) := by
  unfold wp_X5_wanted at k
  refine ⟨by decide, Nat.le_of_ble_eq_true rfl, ?_⟩
  show q_run (q_pcs q_t_X5_wanted) 5 3 none (q_den (d + 2)) 1 (q_ri Q) 0 [(0, q_r 18 0), (1, q_i a1), (2, q_i a2)] [] h
  refine q_aload_n (pc := 0) rfl rfl ?_
  refine q_iload_n (pc := 1) rfl rfl ?_
  refine q_callV (pc := 2) (As := [q_i a1]) (rest := []) rfl rfl rfl (by decide) rfl rfl (Nat.le_of_ble_eq_true rfl) ?_
  refine q_den_mono _ _ _ _ _ _ ?_ (dn_X5_isPart (d := d)  k)
  rintro _ g1 ⟨r2, rfl, k⟩
  refine q_if_eq (pc := 5) (tgt := 15) rfl (by decide) (fun z => ?_) (fun z => ?_)
  · have k := k.1 z
    refine q_iconst (pc := 15) (v := (-1)) rfl (by decide) ?_
    exact q_iret (pc := 16) rfl rfl ⟨_, rfl, k⟩
  · have k := k.2 z
    refine q_iload_n (pc := 8) rfl rfl ?_
    refine q_callS (kd := 0) (pc := 9) (As := [q_i a2]) (rest := []) rfl rfl rfl  rfl (Nat.le_of_ble_eq_true rfl) ?_
    refine q_den_mono _ _ _ _ _ _ ?_ (dn_X5_isTick (d := d)  k)
    rintro _ g3 ⟨r4, rfl, k⟩
    refine q_if_ne (pc := 12) (tgt := 17) rfl (by decide) (fun z => ?_) (fun z => ?_)
    · have k := k.2 z
      refine q_aload_n (pc := 17) rfl rfl ?_
      refine q_callV (pc := 18) (As := []) (rest := []) rfl rfl rfl (by decide) rfl rfl (Nat.le_of_ble_eq_true rfl) ?_
      refine q_den_mono _ _ _ _ _ _ ?_ (dn_X5_wants (d := d)  k)
      rintro _ g5 ⟨rfl, k⟩
      refine q_aload_n (pc := 21) rfl rfl ?_
      refine q_iload_n (pc := 22) rfl rfl ?_
      refine q_iload_n (pc := 23) rfl rfl ?_
      refine q_callV (pc := 24) (As := [q_i a1, q_i a2]) (rest := []) rfl rfl rfl (by decide) rfl rfl (Nat.le_of_ble_eq_true rfl) ?_
      refine q_den_mono _ _ _ _ _ _ ?_ (dn_X5_isWanted (d := d + 1)  k)
      rintro _ g6 ⟨r7, rfl, k⟩
      refine q_if_eq (pc := 27) (tgt := 34) rfl (by decide) (fun z => ?_) (fun z => ?_)
      · have k := k.1 z
        refine q_iconst (pc := 34) (v := 0) rfl (by decide) ?_
        exact q_iret (pc := 35) rfl rfl ⟨_, rfl, k⟩
      · have k := k.2 z
        refine q_iconst (pc := 30) (v := 1) rfl (by decide) ?_
        refine q_goto (pc := 31) (tgt := 35) rfl (by decide) ?_
        exact q_iret (pc := 35) rfl rfl ⟨_, rfl, k⟩
    · have k := k.1 z
      refine q_iconst (pc := 15) (v := (-1)) rfl (by decide) ?_
      exact q_iret (pc := 16) rfl rfl ⟨_, rfl, k⟩
set_option maxHeartbeats 4000000 in
set_option maxRecDepth 100000 in
theorem dl_X5_when_19 {d : Nat} {x1 : Int32} {E : Int64 → Int32 → q_H → Prop} {Q : Int64 → q_H → Prop} (hE : ∀ (x2 : Int64) (x4 : Int32) (h : q_H), E x2 x4 h → q_run (q_pcs q_t_X5_when) 5 5 none (q_den (d + 2)) 2 (q_rl Q) 49 [(0, q_r 18 0), (1, q_i x1), (2, q_l x2), (4, q_i x4)] [] h) : ∀ (n : Nat) (x2 : Int64) (x4 : Int32) (h : q_H), lp_X5_when_19 x1 E n x2 x4 h → q_run (q_pcs q_t_X5_when) 5 5 none (q_den (d + 2)) 2 (q_rl Q) 19 [(0, q_r 18 0), (1, q_i x1), (2, q_l x2), (4, q_i x4)] [] h := by
  intro n
  induction n with
  | zero => intro x2 x4 h k; exact k.elim
  | succ n ih =>
    intro x2 x4 h k
    unfold lp_X5_when_19 at k
    refine q_iload (pc := 19) rfl rfl ?_
    refine q_bipush (pc := 21) (v := 64) rfl (by decide) ?_
    refine q_icmp_ge (pc := 23) (tgt := 49) rfl (by decide) (fun z => ?_) (fun z => ?_)
    · have k := k.1 z
      refine q_sub (pc := 49) (ks := [0, 1, 2, 3]) rfl ?_
      exact hE _ _ _ k
    · have k := k.2 z
      refine q_aload_n (pc := 26) rfl rfl ?_
      refine q_iload_n (pc := 27) rfl rfl ?_
      refine q_iload (pc := 28) rfl rfl ?_
      refine q_callV (pc := 30) (As := [q_i x1, q_i x4]) (rest := []) rfl rfl rfl (by decide) rfl rfl (Nat.le_of_ble_eq_true rfl) ?_
      refine q_den_mono _ _ _ _ _ _ ?_ (dn_X5_isWanted (d := d + 1)  k)
      rintro _ g4 ⟨r5, rfl, k⟩
      refine q_if_eq (pc := 33) (tgt := 43) rfl (by decide) (fun z => ?_) (fun z => ?_)
      · have k := k.1 z
        refine q_iinc (pc := 43) (v := (x4 + 1)) (ls1 := [(4, q_i (x4 + 1)), (0, q_r 18 0), (1, q_i x1), (2, q_l x2)]) rfl (by decide) rfl (congrArg (fun z => x4 + z) (by decide : Int32.ofInt 1 = 1)) rfl ?_
        refine q_goto (pc := 46) (tgt := 19) rfl (by decide) ?_
        refine q_sub (pc := 19) (ks := [1, 2, 3, 0]) rfl ?_
        exact ih _ _ _ k
      · have k := k.2 z
        refine q_lload_n (pc := 36) rfl rfl ?_
        refine q_lconst (pc := 37) (v := 1) rfl (by decide) ?_
        refine q_iload (pc := 38) rfl rfl ?_
        refine q_lshl (pc := 40) rfl ?_
        refine q_lor (pc := 41) rfl ?_
        refine q_lstore_n (pc := 42) (ls1 := [(2, q_l (x2 ||| (1 <<< (Int32.toInt64 x4 &&& 63)))), (0, q_r 18 0), (1, q_i x1), (4, q_i x4)]) rfl (by decide) rfl ?_
        refine q_iinc (pc := 43) (v := (x4 + 1)) (ls1 := [(4, q_i (x4 + 1)), (2, q_l (x2 ||| (1 <<< (Int32.toInt64 x4 &&& 63)))), (0, q_r 18 0), (1, q_i x1)]) rfl (by decide) rfl (congrArg (fun z => x4 + z) (by decide : Int32.ofInt 1 = 1)) rfl ?_
        refine q_goto (pc := 46) (tgt := 19) rfl (by decide) ?_
        refine q_sub (pc := 19) (ks := [2, 3, 1, 0]) rfl ?_
        exact ih _ _ _ k
set_option maxHeartbeats 4000000 in
set_option maxRecDepth 100000 in
theorem dn_X5_when {d : Nat} {a1 : Int32} {h : q_H} {Q : Int64 → q_H → Prop} (k : wp_X5_when a1 h Q) : q_den (d + 3) 106 [q_r 18 0, q_i a1] h (q_rl Q) := by
  unfold wp_X5_when at k
  refine ⟨by decide, Nat.le_of_ble_eq_true rfl, ?_⟩
  show q_run (q_pcs q_t_X5_when) 5 5 none (q_den (d + 2)) 2 (q_rl Q) 0 [(0, q_r 18 0), (1, q_i a1)] [] h
  refine q_lconst (pc := 0) (v := 0) rfl (by decide) ?_
  refine q_lstore_n (pc := 1) (ls1 := [(2, q_l 0), (0, q_r 18 0), (1, q_i a1)]) rfl (by decide) rfl ?_
  refine q_aload_n (pc := 2) rfl rfl ?_
  refine q_iload_n (pc := 3) rfl rfl ?_
  refine q_callV (pc := 4) (As := [q_i a1]) (rest := []) rfl rfl rfl (by decide) rfl rfl (Nat.le_of_ble_eq_true rfl) ?_
  refine q_den_mono _ _ _ _ _ _ ?_ (dn_X5_isPart (d := d)  k)
  rintro _ g1 ⟨r2, rfl, k⟩
  refine q_if_ne (pc := 7) (tgt := 12) rfl (by decide) (fun z => ?_) (fun z => ?_)
  · have k := k.2 z
    refine q_aload_n (pc := 12) rfl rfl ?_
    refine q_callV (pc := 13) (As := []) (rest := []) rfl rfl rfl (by decide) rfl rfl (Nat.le_of_ble_eq_true rfl) ?_
    refine q_den_mono _ _ _ _ _ _ ?_ (dn_X5_wants (d := d)  k)
    rintro _ g3 ⟨rfl, k⟩
    refine q_iconst (pc := 16) (v := 0) rfl (by decide) ?_
    refine q_istore (pc := 17) (ls1 := [(4, q_i 0), (2, q_l 0), (0, q_r 18 0), (1, q_i a1)]) rfl (by decide) rfl ?_
    obtain ⟨n6, k⟩ := k
    refine q_sub (pc := 19) (ks := [2, 3, 1, 0]) rfl ?_
    refine dl_X5_when_19 (fun y2_6 y4_6 g6 k => ?_) n6 _ _ _ k
    refine q_lload_n (pc := 49) rfl rfl ?_
    exact q_lret (pc := 50) rfl rfl ⟨_, rfl, k⟩
  · have k := k.1 z
    refine q_lload_n (pc := 10) rfl rfl ?_
    exact q_lret (pc := 11) rfl rfl ⟨_, rfl, k⟩
set_option maxHeartbeats 4000000 in
set_option maxRecDepth 100000 in
theorem dl_X5_begins_36 {d : Nat} {x1 : Int32} {x2 : Int32} {E : q_H → Prop} {Q : Int32 → q_H → Prop} (hE : ∀  (h : q_H), E  h → q_run (q_pcs q_t_X5_begins) 5 3 none (q_den (d + 1)) 3 (q_ri Q) 74 [(0, q_r 18 0), (1, q_i x1), (2, q_i x2)] [] h) : ∀ (n : Nat)  (h : q_H), lp_X5_begins_36 x1 x2 E n  h → q_run (q_pcs q_t_X5_begins) 5 3 none (q_den (d + 1)) 3 (q_ri Q) 36 [(0, q_r 18 0), (1, q_i x1), (2, q_i x2)] [] h := by
  intro n
  induction n with
  | zero => intro  h k; exact k.elim
  | succ n ih =>
    intro  h k
    unfold lp_X5_begins_36 at k
    refine q_iload_n (pc := 36) rfl rfl ?_
    refine q_aload_n (pc := 37) rfl rfl ?_
    refine q_getI (pc := 38) rfl (by decide) rfl rfl rfl ?_
    refine q_iadd (pc := 41) rfl ?_
    refine q_bipush (pc := 42) (v := 64) rfl (by decide) ?_
    refine q_icmp_ge (pc := 44) (tgt := 74) rfl (by decide) (fun z => ?_) (fun z => ?_)
    · have k := k.1 z
      refine q_sub (pc := 74) (ks := [0, 1, 2]) rfl ?_
      exact hE  _ k
    · have k := k.2 z
      refine q_aload_n (pc := 47) rfl rfl ?_
      refine q_iload_n (pc := 48) rfl rfl ?_
      refine q_iload_n (pc := 49) rfl rfl ?_
      refine q_aload_n (pc := 50) rfl rfl ?_
      refine q_getI (pc := 51) rfl (by decide) rfl rfl rfl ?_
      refine q_iadd (pc := 54) rfl ?_
      refine q_callV (pc := 55) (As := [q_i x1, q_i (x2 + (Prod.fst h 18 0 15))]) (rest := []) rfl rfl rfl (by decide) rfl rfl (Nat.le_of_ble_eq_true rfl) ?_
      refine q_den_mono _ _ _ _ _ _ ?_ (dn_X5_isWanted (d := d)  k)
      rintro _ g3 ⟨r4, rfl, k⟩
      refine q_if_ne (pc := 58) (tgt := 74) rfl (by decide) (fun z => ?_) (fun z => ?_)
      · have k := k.2 z
        refine q_sub (pc := 74) (ks := [0, 1, 2]) rfl ?_
        exact hE  _ k
      · have k := k.1 z
        refine q_aload_n (pc := 61) rfl rfl ?_
        refine q_dup (pc := 62) rfl rfl ?_
        refine q_getI (pc := 63) rfl (by decide) rfl rfl rfl ?_
        refine q_iconst (pc := 66) (v := 1) rfl (by decide) ?_
        refine q_iadd (pc := 67) rfl ?_
        refine q_putI (pc := 68) rfl (by decide) rfl rfl rfl ?_
        refine q_goto (pc := 71) (tgt := 36) rfl (by decide) ?_
        refine q_sub (pc := 36) (ks := [0, 1, 2]) rfl ?_
        exact ih  _ k
set_option maxHeartbeats 4000000 in
set_option maxRecDepth 100000 in
theorem dn_X5_begins {d : Nat} {a1 : Int32} {a2 : Int32} {h : q_H} {Q : Int32 → q_H → Prop} (k : wp_X5_begins a1 a2 h Q) : q_den (d + 2) 107 [q_r 18 0, q_i a1, q_i a2] h (q_ri Q) := by
  unfold wp_X5_begins at k
  refine ⟨by decide, Nat.le_of_ble_eq_true rfl, ?_⟩
  show q_run (q_pcs q_t_X5_begins) 5 3 none (q_den (d + 1)) 3 (q_ri Q) 0 [(0, q_r 18 0), (1, q_i a1), (2, q_i a2)] [] h
  refine q_aload_n (pc := 0) rfl rfl ?_
  refine q_iload_n (pc := 1) rfl rfl ?_
  refine q_iload_n (pc := 2) rfl rfl ?_
  refine q_callV (pc := 3) (As := [q_i a1, q_i a2]) (rest := []) rfl rfl rfl (by decide) rfl rfl (Nat.le_of_ble_eq_true rfl) ?_
  refine q_den_mono _ _ _ _ _ _ ?_ (dn_X5_isWanted (d := d)  k)
  rintro _ g1 ⟨r2, rfl, k⟩
  refine q_if_ne (pc := 6) (tgt := 24) rfl (by decide) (fun z => ?_) (fun z => ?_)
  · have k := k.2 z
    refine q_iconst (pc := 24) (v := 0) rfl (by decide) ?_
    exact q_zret (pc := 25) rfl rfl (by decide) ⟨_, rfl, k⟩
  · have k := k.1 z
    refine q_iload_n (pc := 9) rfl rfl ?_
    refine q_if_le (pc := 10) (tgt := 26) rfl (by decide) (fun z => ?_) (fun z => ?_)
    · have k := k.1 z
      refine q_aload_n (pc := 26) rfl rfl ?_
      refine q_iload_n (pc := 27) rfl rfl ?_
      refine q_putI (pc := 28) rfl (by decide) rfl rfl rfl ?_
      refine q_aload_n (pc := 31) rfl rfl ?_
      refine q_iconst (pc := 32) (v := 0) rfl (by decide) ?_
      refine q_putI (pc := 33) rfl (by decide) rfl rfl rfl ?_
      obtain ⟨n5, k⟩ := k
      refine q_sub (pc := 36) (ks := [0, 1, 2]) rfl ?_
      refine dl_X5_begins_36 (fun  g5 k => ?_) n5  _ k
      refine q_iconst (pc := 74) (v := 1) rfl (by decide) ?_
      exact q_zret (pc := 75) rfl rfl (by decide) ⟨_, rfl, k⟩
    · have k := k.2 z
      refine q_aload_n (pc := 13) rfl rfl ?_
      refine q_iload_n (pc := 14) rfl rfl ?_
      refine q_iload_n (pc := 15) rfl rfl ?_
      refine q_iconst (pc := 16) (v := 1) rfl (by decide) ?_
      refine q_isub (pc := 17) rfl ?_
      refine q_callV (pc := 18) (As := [q_i a1, q_i (a2 - 1)]) (rest := []) rfl rfl rfl (by decide) rfl rfl (Nat.le_of_ble_eq_true rfl) ?_
      refine q_den_mono _ _ _ _ _ _ ?_ (dn_X5_isWanted (d := d)  k)
      rintro _ g6 ⟨r7, rfl, k⟩
      refine q_if_ne (pc := 21) (tgt := 26) rfl (by decide) (fun z => ?_) (fun z => ?_)
      · have k := k.2 z
        refine q_aload_n (pc := 26) rfl rfl ?_
        refine q_iload_n (pc := 27) rfl rfl ?_
        refine q_putI (pc := 28) rfl (by decide) rfl rfl rfl ?_
        refine q_aload_n (pc := 31) rfl rfl ?_
        refine q_iconst (pc := 32) (v := 0) rfl (by decide) ?_
        refine q_putI (pc := 33) rfl (by decide) rfl rfl rfl ?_
        obtain ⟨n8, k⟩ := k
        refine q_sub (pc := 36) (ks := [0, 1, 2]) rfl ?_
        refine dl_X5_begins_36 (fun  g8 k => ?_) n8  _ k
        refine q_iconst (pc := 74) (v := 1) rfl (by decide) ?_
        exact q_zret (pc := 75) rfl rfl (by decide) ⟨_, rfl, k⟩
      · have k := k.1 z
        refine q_iconst (pc := 24) (v := 0) rfl (by decide) ?_
        exact q_zret (pc := 25) rfl rfl (by decide) ⟨_, rfl, k⟩
set_option maxHeartbeats 4000000 in
set_option maxRecDepth 100000 in
theorem dn_X5_isLast {d : Nat} {h : q_H} {Q : Int32 → q_H → Prop} (k : wp_X5_isLast h Q) : q_den (d + 1) 108 [q_r 18 0] h (q_ri Q) := by
  unfold wp_X5_isLast at k
  refine ⟨by decide, Nat.le_of_ble_eq_true rfl, ?_⟩
  show q_run (q_pcs q_t_X5_isLast) 5 1 none (q_den d) 3 (q_ri Q) 0 [(0, q_r 18 0)] [] h
  refine q_aload_n (pc := 0) rfl rfl ?_
  refine q_getI (pc := 1) rfl (by decide) rfl rfl rfl ?_
  refine q_aload_n (pc := 4) rfl rfl ?_
  refine q_getI (pc := 5) rfl (by decide) rfl rfl rfl ?_
  refine q_iadd (pc := 8) rfl ?_
  refine q_bipush (pc := 9) (v := 64) rfl (by decide) ?_
  refine q_icmp_ne (pc := 11) (tgt := 18) rfl (by decide) (fun z => ?_) (fun z => ?_)
  · have k := k.2 z
    refine q_iconst (pc := 18) (v := 0) rfl (by decide) ?_
    exact q_zret (pc := 19) rfl rfl (by decide) ⟨_, rfl, k⟩
  · have k := k.1 z
    refine q_iconst (pc := 14) (v := 1) rfl (by decide) ?_
    refine q_goto (pc := 15) (tgt := 19) rfl (by decide) ?_
    exact q_zret (pc := 19) rfl rfl (by decide) ⟨_, rfl, k⟩
set_option maxHeartbeats 4000000 in
set_option maxRecDepth 100000 in
theorem dn_X5_costs {d : Nat} {a1 : Int32} {a2 : Int32} {h : q_H} {Q : Int32 → q_H → Prop} (k : wp_X5_costs a1 a2 h Q) : q_den (d + 2) 109 [q_r 18 0, q_i a1, q_i a2] h (q_ri Q) := by
  unfold wp_X5_costs at k
  refine ⟨by decide, Nat.le_of_ble_eq_true rfl, ?_⟩
  show q_run (q_pcs q_t_X5_costs) 5 5 none (q_den (d + 1)) 1 (q_ri Q) 0 [(0, q_r 18 0), (1, q_i a1), (2, q_i a2)] [] h
  refine q_aload_n (pc := 0) rfl rfl ?_
  refine q_getR (pc := 1) rfl (by decide) rfl rfl rfl ?_
  refine q_iconst (pc := 4) (v := 4) rfl (by decide) ?_
  refine q_iload_n (pc := 5) rfl rfl ?_
  refine q_imul (pc := 6) rfl ?_
  refine q_iload_n (pc := 7) rfl rfl ?_
  refine q_iadd (pc := 8) rfl ?_
  obtain ⟨b1, k⟩ := k
  refine q_iaload (pc := 9) rfl (by decide) rfl rfl b1 ?_
  refine q_istore_n (pc := 10) (ls1 := [(3, q_i (Prod.fst h 19 0 (Int32.toNatClampNeg ((4 * a1) + a2)))), (0, q_r 18 0), (1, q_i a1), (2, q_i a2)]) rfl (by decide) rfl ?_
  refine q_aload_n (pc := 11) rfl rfl ?_
  refine q_callV (pc := 12) (As := []) (rest := []) rfl rfl rfl (by decide) rfl rfl (Nat.le_of_ble_eq_true rfl) ?_
  refine q_den_mono _ _ _ _ _ _ ?_ (dn_X5_isLast (d := d)  k)
  rintro _ g2 ⟨r3, rfl, k⟩
  refine q_if_eq (pc := 15) (tgt := 25) rfl (by decide) (fun z => ?_) (fun z => ?_)
  · have k := k.1 z
    refine q_aload_n (pc := 25) rfl rfl ?_
    refine q_getR (pc := 26) rfl (by decide) rfl rfl rfl ?_
    refine q_iconst (pc := 29) (v := 4) rfl (by decide) ?_
    refine q_iload_n (pc := 30) rfl rfl ?_
    refine q_imul (pc := 31) rfl ?_
    refine q_iload_n (pc := 32) rfl rfl ?_
    refine q_iadd (pc := 33) rfl ?_
    obtain ⟨b4, k⟩ := k
    refine q_iaload (pc := 34) rfl (by decide) rfl rfl b4 ?_
    refine q_istore (pc := 35) (ls1 := [(4, q_i (Prod.fst g2 21 0 (Int32.toNatClampNeg ((4 * a1) + a2)))), (3, q_i (Prod.fst h 19 0 (Int32.toNatClampNeg ((4 * a1) + a2)))), (0, q_r 18 0), (1, q_i a1), (2, q_i a2)]) rfl (by decide) rfl ?_
    refine q_iload (pc := 37) rfl rfl ?_
    refine q_aload_n (pc := 39) rfl rfl ?_
    refine q_getI (pc := 40) rfl (by decide) rfl rfl rfl ?_
    refine q_icmp_le (pc := 43) (tgt := 50) rfl (by decide) (fun z => ?_) (fun z => ?_)
    · have k := k.1 z
      refine q_iload_n (pc := 50) rfl rfl ?_
      refine q_aload_n (pc := 51) rfl rfl ?_
      refine q_getI (pc := 52) rfl (by decide) rfl rfl rfl ?_
      refine q_iload (pc := 55) rfl rfl ?_
      refine q_isub (pc := 57) rfl ?_
      refine q_imul (pc := 58) rfl ?_
      refine q_aload_n (pc := 59) rfl rfl ?_
      refine q_getR (pc := 60) rfl (by decide) rfl rfl rfl ?_
      refine q_iconst (pc := 63) (v := 4) rfl (by decide) ?_
      refine q_iload_n (pc := 64) rfl rfl ?_
      refine q_imul (pc := 65) rfl ?_
      obtain ⟨b5, k⟩ := k
      refine q_iaload (pc := 66) rfl (by decide) rfl rfl b5 ?_
      refine q_iload (pc := 67) rfl rfl ?_
      refine q_imul (pc := 69) rfl ?_
      refine q_iadd (pc := 70) rfl ?_
      refine q_aload_n (pc := 71) rfl rfl ?_
      refine q_getR (pc := 72) rfl (by decide) rfl rfl rfl ?_
      refine q_iconst (pc := 75) (v := 4) rfl (by decide) ?_
      refine q_iload_n (pc := 76) rfl rfl ?_
      refine q_imul (pc := 77) rfl ?_
      refine q_iload_n (pc := 78) rfl rfl ?_
      refine q_iadd (pc := 79) rfl ?_
      obtain ⟨b6, k⟩ := k
      refine q_iaload (pc := 80) rfl (by decide) rfl rfl b6 ?_
      refine q_iadd (pc := 81) rfl ?_
      exact q_iret (pc := 82) rfl rfl ⟨_, rfl, k⟩
    · have k := k.2 z
      refine q_iconst (pc := 46) (v := (-1)) rfl (by decide) ?_
      refine q_goto (pc := 47) (tgt := 82) rfl (by decide) ?_
      exact q_iret (pc := 82) rfl rfl ⟨_, rfl, k⟩
  · have k := k.2 z
    refine q_iload_n (pc := 18) rfl rfl ?_
    refine q_aload_n (pc := 19) rfl rfl ?_
    refine q_getI (pc := 20) rfl (by decide) rfl rfl rfl ?_
    refine q_imul (pc := 23) rfl ?_
    exact q_iret (pc := 24) rfl rfl ⟨_, rfl, k⟩
set_option maxHeartbeats 4000000 in
set_option maxRecDepth 100000 in
theorem dl_X5_choice_4 {d : Nat} {x1 : Int32} {E : Int32 → Int32 → q_H → Prop} {Q : Int32 → q_H → Prop} (hE : ∀ (x2 : Int32) (x3 : Int32) (h : q_H), E x2 x3 h → q_run (q_pcs q_t_X5_choice) 5 4 none (q_den (d + 2)) 1 (q_ri Q) 42 [(0, q_r 18 0), (1, q_i x1), (2, q_i x2), (3, q_i x3)] [] h) : ∀ (n : Nat) (x2 : Int32) (x3 : Int32) (h : q_H), lp_X5_choice_4 x1 E n x2 x3 h → q_run (q_pcs q_t_X5_choice) 5 4 none (q_den (d + 2)) 1 (q_ri Q) 4 [(0, q_r 18 0), (1, q_i x1), (2, q_i x2), (3, q_i x3)] [] h := by
  intro n
  induction n with
  | zero => intro x2 x3 h k; exact k.elim
  | succ n ih =>
    intro x2 x3 h k
    unfold lp_X5_choice_4 at k
    refine q_iload_n (pc := 4) rfl rfl ?_
    refine q_iconst (pc := 5) (v := 4) rfl (by decide) ?_
    refine q_icmp_ge (pc := 6) (tgt := 42) rfl (by decide) (fun z => ?_) (fun z => ?_)
    · have k := k.1 z
      refine q_sub (pc := 42) (ks := [0, 1, 2, 3]) rfl ?_
      exact hE _ _ _ k
    · have k := k.2 z
      refine q_aload_n (pc := 9) rfl rfl ?_
      refine q_iload_n (pc := 10) rfl rfl ?_
      refine q_iload_n (pc := 11) rfl rfl ?_
      refine q_callV (pc := 12) (As := [q_i x1, q_i x3]) (rest := []) rfl rfl rfl (by decide) rfl rfl (Nat.le_of_ble_eq_true rfl) ?_
      refine q_den_mono _ _ _ _ _ _ ?_ (dn_X5_costs (d := d)  k)
      rintro _ g1 ⟨r2, rfl, k⟩
      refine q_iconst (pc := 15) (v := (-1)) rfl (by decide) ?_
      refine q_icmp_eq (pc := 16) (tgt := 36) rfl (by decide) (fun z => ?_) (fun z => ?_)
      · have k := k.1 z
        refine q_iinc (pc := 36) (v := (x3 + 1)) (ls1 := [(3, q_i (x3 + 1)), (0, q_r 18 0), (1, q_i x1), (2, q_i x2)]) rfl (by decide) rfl (congrArg (fun z => x3 + z) (by decide : Int32.ofInt 1 = 1)) rfl ?_
        refine q_goto (pc := 39) (tgt := 4) rfl (by decide) ?_
        refine q_sub (pc := 4) (ks := [1, 2, 3, 0]) rfl ?_
        exact ih _ _ _ k
      · have k := k.2 z
        refine q_aload_n (pc := 19) rfl rfl ?_
        refine q_iload_n (pc := 20) rfl rfl ?_
        refine q_iload_n (pc := 21) rfl rfl ?_
        refine q_callV (pc := 22) (As := [q_i x1, q_i x3]) (rest := []) rfl rfl rfl (by decide) rfl rfl (Nat.le_of_ble_eq_true rfl) ?_
        refine q_den_mono _ _ _ _ _ _ ?_ (dn_X5_costs (d := d)  k)
        rintro _ g3 ⟨r4, rfl, k⟩
        refine q_aload_n (pc := 25) rfl rfl ?_
        refine q_iload_n (pc := 26) rfl rfl ?_
        refine q_iload_n (pc := 27) rfl rfl ?_
        refine q_callV (pc := 28) (As := [q_i x1, q_i x2]) (rest := [q_i r4]) rfl rfl rfl (by decide) rfl rfl (Nat.le_of_ble_eq_true rfl) ?_
        refine q_den_mono _ _ _ _ _ _ ?_ (dn_X5_costs (d := d)  k)
        rintro _ g5 ⟨r6, rfl, k⟩
        refine q_icmp_ge (pc := 31) (tgt := 36) rfl (by decide) (fun z => ?_) (fun z => ?_)
        · have k := k.1 z
          refine q_iinc (pc := 36) (v := (x3 + 1)) (ls1 := [(3, q_i (x3 + 1)), (0, q_r 18 0), (1, q_i x1), (2, q_i x2)]) rfl (by decide) rfl (congrArg (fun z => x3 + z) (by decide : Int32.ofInt 1 = 1)) rfl ?_
          refine q_goto (pc := 39) (tgt := 4) rfl (by decide) ?_
          refine q_sub (pc := 4) (ks := [1, 2, 3, 0]) rfl ?_
          exact ih _ _ _ k
        · have k := k.2 z
          refine q_iload_n (pc := 34) rfl rfl ?_
          refine q_istore_n (pc := 35) (ls1 := [(2, q_i x3), (0, q_r 18 0), (1, q_i x1), (3, q_i x3)]) rfl (by decide) rfl ?_
          refine q_iinc (pc := 36) (v := (x3 + 1)) (ls1 := [(3, q_i (x3 + 1)), (2, q_i x3), (0, q_r 18 0), (1, q_i x1)]) rfl (by decide) rfl (congrArg (fun z => x3 + z) (by decide : Int32.ofInt 1 = 1)) rfl ?_
          refine q_goto (pc := 39) (tgt := 4) rfl (by decide) ?_
          refine q_sub (pc := 4) (ks := [2, 3, 1, 0]) rfl ?_
          exact ih _ _ _ k
set_option maxHeartbeats 4000000 in
set_option maxRecDepth 100000 in
theorem dn_X5_choice {d : Nat} {a1 : Int32} {h : q_H} {Q : Int32 → q_H → Prop} (k : wp_X5_choice a1 h Q) : q_den (d + 3) 110 [q_r 18 0, q_i a1] h (q_ri Q) := by
  unfold wp_X5_choice at k
  refine ⟨by decide, Nat.le_of_ble_eq_true rfl, ?_⟩
  show q_run (q_pcs q_t_X5_choice) 5 4 none (q_den (d + 2)) 1 (q_ri Q) 0 [(0, q_r 18 0), (1, q_i a1)] [] h
  refine q_iconst (pc := 0) (v := 0) rfl (by decide) ?_
  refine q_istore_n (pc := 1) (ls1 := [(2, q_i 0), (0, q_r 18 0), (1, q_i a1)]) rfl (by decide) rfl ?_
  refine q_iconst (pc := 2) (v := 1) rfl (by decide) ?_
  refine q_istore_n (pc := 3) (ls1 := [(3, q_i 1), (2, q_i 0), (0, q_r 18 0), (1, q_i a1)]) rfl (by decide) rfl ?_
  obtain ⟨n7, k⟩ := k
  refine q_sub (pc := 4) (ks := [2, 3, 1, 0]) rfl ?_
  refine dl_X5_choice_4 (fun y2_7 y3_7 g7 k => ?_) n7 _ _ _ k
  refine q_iload_n (pc := 42) rfl rfl ?_
  exact q_iret (pc := 43) rfl rfl ⟨_, rfl, k⟩
set_option maxHeartbeats 4000000 in
set_option maxRecDepth 100000 in
theorem dl_X5_spans_18 {d : Nat} {x1 : Int32} {E : Int32 → Int32 → q_H → Prop} {Q : Int32 → q_H → Prop} (hE : ∀ (x2 : Int32) (x3 : Int32) (h : q_H), E x2 x3 h → q_run (q_pcs q_t_X5_spans) 5 4 none (q_den (d + 2)) 1 (q_ri Q) 47 [(0, q_r 18 0), (1, q_i x1), (2, q_i x2), (3, q_i x3)] [] h) : ∀ (n : Nat) (x2 : Int32) (x3 : Int32) (h : q_H), lp_X5_spans_18 x1 E n x2 x3 h → q_run (q_pcs q_t_X5_spans) 5 4 none (q_den (d + 2)) 1 (q_ri Q) 18 [(0, q_r 18 0), (1, q_i x1), (2, q_i x2), (3, q_i x3)] [] h := by
  intro n
  induction n with
  | zero => intro x2 x3 h k; exact k.elim
  | succ n ih =>
    intro x2 x3 h k
    unfold lp_X5_spans_18 at k
    refine q_iload_n (pc := 18) rfl rfl ?_
    refine q_bipush (pc := 19) (v := 64) rfl (by decide) ?_
    refine q_icmp_ge (pc := 21) (tgt := 47) rfl (by decide) (fun z => ?_) (fun z => ?_)
    · have k := k.1 z
      refine q_sub (pc := 47) (ks := [0, 1, 2, 3]) rfl ?_
      exact hE _ _ _ k
    · have k := k.2 z
      refine q_iload_n (pc := 24) rfl rfl ?_
      refine q_aload_n (pc := 25) rfl rfl ?_
      refine q_iload_n (pc := 26) rfl rfl ?_
      refine q_iload_n (pc := 27) rfl rfl ?_
      refine q_callV (pc := 28) (As := [q_i x1, q_i x3]) (rest := [q_i x2]) rfl rfl rfl (by decide) rfl rfl (Nat.le_of_ble_eq_true rfl) ?_
      refine q_den_mono _ _ _ _ _ _ ?_ (dn_X5_begins (d := d)  k)
      rintro _ g4 ⟨r5, rfl, k⟩
      refine q_if_eq (pc := 31) (tgt := 38) rfl (by decide) (fun z => ?_) (fun z => ?_)
      · have k := k.1 z
        refine q_iconst (pc := 38) (v := 0) rfl (by decide) ?_
        refine q_iadd (pc := 39) rfl ?_
        refine q_istore_n (pc := 40) (ls1 := [(2, q_i (x2 + 0)), (0, q_r 18 0), (1, q_i x1), (3, q_i x3)]) rfl (by decide) rfl ?_
        refine q_iinc (pc := 41) (v := (x3 + 1)) (ls1 := [(3, q_i (x3 + 1)), (2, q_i (x2 + 0)), (0, q_r 18 0), (1, q_i x1)]) rfl (by decide) rfl (congrArg (fun z => x3 + z) (by decide : Int32.ofInt 1 = 1)) rfl ?_
        refine q_goto (pc := 44) (tgt := 18) rfl (by decide) ?_
        refine q_sub (pc := 18) (ks := [2, 3, 1, 0]) rfl ?_
        exact ih _ _ _ k
      · have k := k.2 z
        refine q_iconst (pc := 34) (v := 1) rfl (by decide) ?_
        refine q_goto (pc := 35) (tgt := 39) rfl (by decide) ?_
        refine q_iadd (pc := 39) rfl ?_
        refine q_istore_n (pc := 40) (ls1 := [(2, q_i (x2 + 1)), (0, q_r 18 0), (1, q_i x1), (3, q_i x3)]) rfl (by decide) rfl ?_
        refine q_iinc (pc := 41) (v := (x3 + 1)) (ls1 := [(3, q_i (x3 + 1)), (2, q_i (x2 + 1)), (0, q_r 18 0), (1, q_i x1)]) rfl (by decide) rfl (congrArg (fun z => x3 + z) (by decide : Int32.ofInt 1 = 1)) rfl ?_
        refine q_goto (pc := 44) (tgt := 18) rfl (by decide) ?_
        refine q_sub (pc := 18) (ks := [2, 3, 1, 0]) rfl ?_
        exact ih _ _ _ k
set_option maxHeartbeats 4000000 in
set_option maxRecDepth 100000 in
theorem dn_X5_spans {d : Nat} {a1 : Int32} {h : q_H} {Q : Int32 → q_H → Prop} (k : wp_X5_spans a1 h Q) : q_den (d + 3) 111 [q_r 18 0, q_i a1] h (q_ri Q) := by
  unfold wp_X5_spans at k
  refine ⟨by decide, Nat.le_of_ble_eq_true rfl, ?_⟩
  show q_run (q_pcs q_t_X5_spans) 5 4 none (q_den (d + 2)) 1 (q_ri Q) 0 [(0, q_r 18 0), (1, q_i a1)] [] h
  refine q_aload_n (pc := 0) rfl rfl ?_
  refine q_iload_n (pc := 1) rfl rfl ?_
  refine q_callV (pc := 2) (As := [q_i a1]) (rest := []) rfl rfl rfl (by decide) rfl rfl (Nat.le_of_ble_eq_true rfl) ?_
  refine q_den_mono _ _ _ _ _ _ ?_ (dn_X5_isPart (d := d)  k)
  rintro _ g1 ⟨r2, rfl, k⟩
  refine q_if_ne (pc := 5) (tgt := 10) rfl (by decide) (fun z => ?_) (fun z => ?_)
  · have k := k.2 z
    refine q_aload_n (pc := 10) rfl rfl ?_
    refine q_callV (pc := 11) (As := []) (rest := []) rfl rfl rfl (by decide) rfl rfl (Nat.le_of_ble_eq_true rfl) ?_
    refine q_den_mono _ _ _ _ _ _ ?_ (dn_X5_wants (d := d)  k)
    rintro _ g3 ⟨rfl, k⟩
    refine q_iconst (pc := 14) (v := 0) rfl (by decide) ?_
    refine q_istore_n (pc := 15) (ls1 := [(2, q_i 0), (0, q_r 18 0), (1, q_i a1)]) rfl (by decide) rfl ?_
    refine q_iconst (pc := 16) (v := 0) rfl (by decide) ?_
    refine q_istore_n (pc := 17) (ls1 := [(3, q_i 0), (2, q_i 0), (0, q_r 18 0), (1, q_i a1)]) rfl (by decide) rfl ?_
    obtain ⟨n6, k⟩ := k
    refine q_sub (pc := 18) (ks := [2, 3, 1, 0]) rfl ?_
    refine dl_X5_spans_18 (fun y2_6 y3_6 g6 k => ?_) n6 _ _ _ k
    refine q_iload_n (pc := 47) rfl rfl ?_
    exact q_iret (pc := 48) rfl rfl ⟨_, rfl, k⟩
  · have k := k.1 z
    refine q_iconst (pc := 8) (v := (-1)) rfl (by decide) ?_
    exact q_iret (pc := 9) rfl rfl ⟨_, rfl, k⟩
set_option maxHeartbeats 4000000 in
set_option maxRecDepth 100000 in
theorem dn_X5_ofSpan {d : Nat} {a1 : Int32} {a2 : Int32} {h : q_H} {Q : Int32 → q_H → Prop} (k : wp_X5_ofSpan a1 a2 h Q) : q_den (d + 4) 113 [q_r 18 0, q_i a1, q_i a2] h (q_ri Q) := by
  unfold wp_X5_ofSpan at k
  refine ⟨by decide, Nat.le_of_ble_eq_true rfl, ?_⟩
  show q_run (q_pcs q_t_X5_ofSpan) 5 4 none (q_den (d + 3)) 1 (q_ri Q) 0 [(0, q_r 18 0), (1, q_i a1), (2, q_i a2)] [] h
  refine q_aload_n (pc := 0) rfl rfl ?_
  refine q_iload_n (pc := 1) rfl rfl ?_
  refine q_callV (pc := 2) (As := [q_i a1]) (rest := []) rfl rfl rfl (by decide) rfl rfl (Nat.le_of_ble_eq_true rfl) ?_
  refine q_den_mono _ _ _ _ _ _ ?_ (dn_X5_choice (d := d)  k)
  rintro _ g1 ⟨r2, rfl, k⟩
  refine q_istore_n (pc := 5) (ls1 := [(3, q_i r2), (0, q_r 18 0), (1, q_i a1), (2, q_i a2)]) rfl (by decide) rfl ?_
  refine q_iload_n (pc := 6) rfl rfl ?_
  by_cases z0 : Int32.toInt a2 = 0
  · refine q_tsIn (pc := 7) (tgt := 40) rfl (by rw [z0]; decide) (by rw [z0]; decide) (by rw [z0]; rfl) (by decide) ?_
    have k := k.1 z0
    refine q_aload_n (pc := 40) rfl rfl ?_
    refine q_getI (pc := 41) rfl (by decide) rfl rfl rfl ?_
    exact q_iret (pc := 44) rfl rfl ⟨_, rfl, k⟩
  by_cases z1 : Int32.toInt a2 = 1
  · refine q_tsIn (pc := 7) (tgt := 45) rfl (by rw [z1]; decide) (by rw [z1]; decide) (by rw [z1]; rfl) (by decide) ?_
    have k := k.2.1 z1
    refine q_aload_n (pc := 45) rfl rfl ?_
    refine q_getI (pc := 46) rfl (by decide) rfl rfl rfl ?_
    exact q_iret (pc := 49) rfl rfl ⟨_, rfl, k⟩
  by_cases z2 : Int32.toInt a2 = 2
  · refine q_tsIn (pc := 7) (tgt := 50) rfl (by rw [z2]; decide) (by rw [z2]; decide) (by rw [z2]; rfl) (by decide) ?_
    have k := k.2.2.1 z2
    refine q_iload_n (pc := 50) rfl rfl ?_
    exact q_iret (pc := 51) rfl rfl ⟨_, rfl, k⟩
  by_cases z3 : Int32.toInt a2 = 3
  · refine q_tsIn (pc := 7) (tgt := 52) rfl (by rw [z3]; decide) (by rw [z3]; decide) (by rw [z3]; rfl) (by decide) ?_
    have k := k.2.2.2.1 z3
    refine q_aload_n (pc := 52) rfl rfl ?_
    refine q_iload_n (pc := 53) rfl rfl ?_
    refine q_iload_n (pc := 54) rfl rfl ?_
    refine q_callV (pc := 55) (As := [q_i a1, q_i r2]) (rest := []) rfl rfl rfl (by decide) rfl rfl (Nat.le_of_ble_eq_true rfl) ?_
    refine q_den_mono _ _ _ _ _ _ ?_ (dn_X5_costs (d := d + 1)  k)
    rintro _ g3 ⟨r4, rfl, k⟩
    exact q_iret (pc := 58) rfl rfl ⟨_, rfl, k⟩
  by_cases z4 : Int32.toInt a2 = 4
  · refine q_tsIn (pc := 7) (tgt := 59) rfl (by rw [z4]; decide) (by rw [z4]; decide) (by rw [z4]; rfl) (by decide) ?_
    have k := k.2.2.2.2.1 z4
    refine q_aload_n (pc := 59) rfl rfl ?_
    refine q_iload_n (pc := 60) rfl rfl ?_
    refine q_iconst (pc := 61) (v := 0) rfl (by decide) ?_
    refine q_callV (pc := 62) (As := [q_i a1, q_i 0]) (rest := []) rfl rfl rfl (by decide) rfl rfl (Nat.le_of_ble_eq_true rfl) ?_
    refine q_den_mono _ _ _ _ _ _ ?_ (dn_X5_costs (d := d + 1)  k)
    rintro _ g5 ⟨r6, rfl, k⟩
    exact q_iret (pc := 65) rfl rfl ⟨_, rfl, k⟩
  have z : Int32.toInt a2 < 0 ∨ 4 < Int32.toInt a2 := by omega
  refine q_tsOut (pc := 7) (tgt := 66) rfl z (by decide) ?_
  have k := k.2.2.2.2.2 z
  refine q_iload_n (pc := 66) rfl rfl ?_
  refine q_if_eq (pc := 67) (tgt := 77) rfl (by decide) (fun z => ?_) (fun z => ?_)
  · have k := k.1 z
    refine q_iconst (pc := 77) (v := (-1)) rfl (by decide) ?_
    refine q_goto (pc := 78) (tgt := 101) rfl (by decide) ?_
    exact q_iret (pc := 101) rfl rfl ⟨_, rfl, k⟩
  · have k := k.2 z
    refine q_aload_n (pc := 70) rfl rfl ?_
    refine q_callV (pc := 71) (As := []) (rest := []) rfl rfl rfl (by decide) rfl rfl (Nat.le_of_ble_eq_true rfl) ?_
    refine q_den_mono _ _ _ _ _ _ ?_ (dn_X5_isLast (d := d + 2)  k)
    rintro _ g7 ⟨r8, rfl, k⟩
    refine q_if_eq (pc := 74) (tgt := 81) rfl (by decide) (fun z => ?_) (fun z => ?_)
    · have k := k.1 z
      refine q_aload_n (pc := 81) rfl rfl ?_
      refine q_getI (pc := 82) rfl (by decide) rfl rfl rfl ?_
      refine q_aload_n (pc := 85) rfl rfl ?_
      refine q_getI (pc := 86) rfl (by decide) rfl rfl rfl ?_
      refine q_iadd (pc := 89) rfl ?_
      refine q_aload_n (pc := 90) rfl rfl ?_
      refine q_getR (pc := 91) rfl (by decide) rfl rfl rfl ?_
      refine q_iconst (pc := 94) (v := 4) rfl (by decide) ?_
      refine q_iload_n (pc := 95) rfl rfl ?_
      refine q_imul (pc := 96) rfl ?_
      refine q_iload_n (pc := 97) rfl rfl ?_
      refine q_iadd (pc := 98) rfl ?_
      obtain ⟨b9, k⟩ := k
      refine q_iaload (pc := 99) rfl (by decide) rfl rfl b9 ?_
      refine q_isub (pc := 100) rfl ?_
      exact q_iret (pc := 101) rfl rfl ⟨_, rfl, k⟩
    · have k := k.2 z
      refine q_iconst (pc := 77) (v := (-1)) rfl (by decide) ?_
      refine q_goto (pc := 78) (tgt := 101) rfl (by decide) ?_
      exact q_iret (pc := 101) rfl rfl ⟨_, rfl, k⟩
set_option maxHeartbeats 4000000 in
set_option maxRecDepth 100000 in
theorem dl_X5_span_29 {d : Nat} {x1 : Int32} {x2 : Int32} {x3 : Int32} {E : Int32 → Int32 → q_H → Prop} {Q : Int32 → q_H → Prop} (hE : ∀ (x4 : Int32) (x5 : Int32) (h : q_H), E x4 x5 h → q_run (q_pcs q_t_X5_span) 5 6 none (q_den (d + 4)) 1 (q_ri Q) 71 [(0, q_r 18 0), (1, q_i x1), (2, q_i x2), (3, q_i x3), (4, q_i x4), (5, q_i x5)] [] h) : ∀ (n : Nat) (x4 : Int32) (x5 : Int32) (h : q_H), lp_X5_span_29 x1 x2 x3 Q E n x4 x5 h → q_run (q_pcs q_t_X5_span) 5 6 none (q_den (d + 4)) 1 (q_ri Q) 29 [(0, q_r 18 0), (1, q_i x1), (2, q_i x2), (3, q_i x3), (4, q_i x4), (5, q_i x5)] [] h := by
  intro n
  induction n with
  | zero => intro x4 x5 h k; exact k.elim
  | succ n ih =>
    intro x4 x5 h k
    unfold lp_X5_span_29 at k
    refine q_iload (pc := 29) rfl rfl ?_
    refine q_bipush (pc := 31) (v := 64) rfl (by decide) ?_
    refine q_icmp_ge (pc := 33) (tgt := 71) rfl (by decide) (fun z => ?_) (fun z => ?_)
    · have k := k.1 z
      refine q_sub (pc := 71) (ks := [0, 1, 2, 3, 4, 5]) rfl ?_
      exact hE _ _ _ k
    · have k := k.2 z
      refine q_aload_n (pc := 36) rfl rfl ?_
      refine q_iload_n (pc := 37) rfl rfl ?_
      refine q_iload (pc := 38) rfl rfl ?_
      refine q_callV (pc := 40) (As := [q_i x1, q_i x5]) (rest := []) rfl rfl rfl (by decide) rfl rfl (Nat.le_of_ble_eq_true rfl) ?_
      refine q_den_mono _ _ _ _ _ _ ?_ (dn_X5_begins (d := d + 2)  k)
      rintro _ g6 ⟨r7, rfl, k⟩
      refine q_if_ne (pc := 43) (tgt := 49) rfl (by decide) (fun z => ?_) (fun z => ?_)
      · have k := k.2 z
        refine q_iload (pc := 49) rfl rfl ?_
        refine q_iload_n (pc := 51) rfl rfl ?_
        refine q_icmp_ne (pc := 52) (tgt := 62) rfl (by decide) (fun z => ?_) (fun z => ?_)
        · have k := k.2 z
          refine q_iinc (pc := 62) (v := (x4 + 1)) (ls1 := [(4, q_i (x4 + 1)), (0, q_r 18 0), (1, q_i x1), (2, q_i x2), (3, q_i x3), (5, q_i x5)]) rfl (by decide) rfl (congrArg (fun z => x4 + z) (by decide : Int32.ofInt 1 = 1)) rfl ?_
          refine q_iinc (pc := 65) (v := (x5 + 1)) (ls1 := [(5, q_i (x5 + 1)), (4, q_i (x4 + 1)), (0, q_r 18 0), (1, q_i x1), (2, q_i x2), (3, q_i x3)]) rfl (by decide) rfl (congrArg (fun z => x5 + z) (by decide : Int32.ofInt 1 = 1)) rfl ?_
          refine q_goto (pc := 68) (tgt := 29) rfl (by decide) ?_
          refine q_sub (pc := 29) (ks := [2, 3, 4, 5, 1, 0]) rfl ?_
          exact ih _ _ _ k
        · have k := k.1 z
          refine q_aload_n (pc := 55) rfl rfl ?_
          refine q_iload_n (pc := 56) rfl rfl ?_
          refine q_iload_n (pc := 57) rfl rfl ?_
          refine q_callV (pc := 58) (As := [q_i x1, q_i x3]) (rest := []) rfl rfl rfl (by decide) rfl rfl (Nat.le_of_ble_eq_true rfl) ?_
          refine q_den_mono _ _ _ _ _ _ ?_ (dn_X5_ofSpan (d := d)  k)
          rintro _ g8 ⟨r9, rfl, k⟩
          exact q_iret (pc := 61) rfl rfl ⟨_, rfl, k⟩
      · have k := k.1 z
        refine q_goto (pc := 46) (tgt := 65) rfl (by decide) ?_
        refine q_iinc (pc := 65) (v := (x5 + 1)) (ls1 := [(5, q_i (x5 + 1)), (0, q_r 18 0), (1, q_i x1), (2, q_i x2), (3, q_i x3), (4, q_i x4)]) rfl (by decide) rfl (congrArg (fun z => x5 + z) (by decide : Int32.ofInt 1 = 1)) rfl ?_
        refine q_goto (pc := 68) (tgt := 29) rfl (by decide) ?_
        refine q_sub (pc := 29) (ks := [1, 2, 3, 4, 5, 0]) rfl ?_
        exact ih _ _ _ k
set_option maxHeartbeats 4000000 in
set_option maxRecDepth 100000 in
theorem dn_X5_span {d : Nat} {a1 : Int32} {a2 : Int32} {a3 : Int32} {h : q_H} {Q : Int32 → q_H → Prop} (k : wp_X5_span a1 a2 a3 h Q) : q_den (d + 5) 112 [q_r 18 0, q_i a1, q_i a2, q_i a3] h (q_ri Q) := by
  unfold wp_X5_span at k
  refine ⟨by decide, Nat.le_of_ble_eq_true rfl, ?_⟩
  show q_run (q_pcs q_t_X5_span) 5 6 none (q_den (d + 4)) 1 (q_ri Q) 0 [(0, q_r 18 0), (1, q_i a1), (2, q_i a2), (3, q_i a3)] [] h
  refine q_aload_n (pc := 0) rfl rfl ?_
  refine q_iload_n (pc := 1) rfl rfl ?_
  refine q_callV (pc := 2) (As := [q_i a1]) (rest := []) rfl rfl rfl (by decide) rfl rfl (Nat.le_of_ble_eq_true rfl) ?_
  refine q_den_mono _ _ _ _ _ _ ?_ (dn_X5_isPart (d := d + 2)  k)
  rintro _ g1 ⟨r2, rfl, k⟩
  refine q_if_eq (pc := 5) (tgt := 17) rfl (by decide) (fun z => ?_) (fun z => ?_)
  · have k := k.1 z
    refine q_iconst (pc := 17) (v := (-1)) rfl (by decide) ?_
    exact q_iret (pc := 18) rfl rfl ⟨_, rfl, k⟩
  · have k := k.2 z
    refine q_iload_n (pc := 8) rfl rfl ?_
    refine q_iconst (pc := 9) (v := 0) rfl (by decide) ?_
    refine q_iconst (pc := 10) (v := 5) rfl (by decide) ?_
    refine q_callS (kd := 0) (pc := 11) (As := [q_i a3, q_i 0, q_i 5]) (rest := []) rfl rfl rfl  rfl (Nat.le_of_ble_eq_true rfl) ?_
    refine q_den_mono _ _ _ _ _ _ ?_ (dn_X5_isIn (d := d + 3)  k)
    rintro _ g3 ⟨r4, rfl, k⟩
    refine q_if_ne (pc := 14) (tgt := 19) rfl (by decide) (fun z => ?_) (fun z => ?_)
    · have k := k.2 z
      refine q_aload_n (pc := 19) rfl rfl ?_
      refine q_callV (pc := 20) (As := []) (rest := []) rfl rfl rfl (by decide) rfl rfl (Nat.le_of_ble_eq_true rfl) ?_
      refine q_den_mono _ _ _ _ _ _ ?_ (dn_X5_wants (d := d + 2)  k)
      rintro _ g5 ⟨rfl, k⟩
      refine q_iconst (pc := 23) (v := 0) rfl (by decide) ?_
      refine q_istore (pc := 24) (ls1 := [(4, q_i 0), (0, q_r 18 0), (1, q_i a1), (2, q_i a2), (3, q_i a3)]) rfl (by decide) rfl ?_
      refine q_iconst (pc := 26) (v := 0) rfl (by decide) ?_
      refine q_istore (pc := 27) (ls1 := [(5, q_i 0), (4, q_i 0), (0, q_r 18 0), (1, q_i a1), (2, q_i a2), (3, q_i a3)]) rfl (by decide) rfl ?_
      obtain ⟨n10, k⟩ := k
      refine q_sub (pc := 29) (ks := [2, 3, 4, 5, 1, 0]) rfl ?_
      refine dl_X5_span_29 (fun y4_10 y5_10 g10 k => ?_) n10 _ _ _ k
      refine q_iconst (pc := 71) (v := (-1)) rfl (by decide) ?_
      exact q_iret (pc := 72) rfl rfl ⟨_, rfl, k⟩
    · have k := k.1 z
      refine q_iconst (pc := 17) (v := (-1)) rfl (by decide) ?_
      exact q_iret (pc := 18) rfl rfl ⟨_, rfl, k⟩
set_option maxHeartbeats 4000000 in
set_option maxRecDepth 100000 in
theorem dl_X5_drained_4 {d : Nat} {x1 : Int32} {E : Int32 → Int32 → q_H → Prop} {Q : Int32 → q_H → Prop} (hE : ∀ (x2 : Int32) (x3 : Int32) (h : q_H), E x2 x3 h → q_run (q_pcs q_t_X5_drained) 5 4 none (q_den (d + 3)) 1 (q_ri Q) 61 [(0, q_r 18 0), (1, q_i x1), (2, q_i x2), (3, q_i x3)] [] h) : ∀ (n : Nat) (x2 : Int32) (x3 : Int32) (h : q_H), lp_X5_drained_4 x1 E n x2 x3 h → q_run (q_pcs q_t_X5_drained) 5 4 none (q_den (d + 3)) 1 (q_ri Q) 4 [(0, q_r 18 0), (1, q_i x1), (2, q_i x2), (3, q_i x3)] [] h := by
  intro n
  induction n with
  | zero => intro x2 x3 h k; exact k.elim
  | succ n ih =>
    intro x2 x3 h k
    unfold lp_X5_drained_4 at k
    refine q_iload_n (pc := 4) rfl rfl ?_
    refine q_bipush (pc := 5) (v := 64) rfl (by decide) ?_
    refine q_icmp_ge (pc := 7) (tgt := 61) rfl (by decide) (fun z => ?_) (fun z => ?_)
    · have k := k.1 z
      refine q_sub (pc := 61) (ks := [0, 1, 2, 3]) rfl ?_
      exact hE _ _ _ k
    · have k := k.2 z
      refine q_aload_n (pc := 10) rfl rfl ?_
      refine q_iload_n (pc := 11) rfl rfl ?_
      refine q_iload_n (pc := 12) rfl rfl ?_
      refine q_callV (pc := 13) (As := [q_i x1, q_i x3]) (rest := []) rfl rfl rfl (by decide) rfl rfl (Nat.le_of_ble_eq_true rfl) ?_
      refine q_den_mono _ _ _ _ _ _ ?_ (dn_X5_isWanted (d := d + 2)  k)
      rintro _ g1 ⟨r2, rfl, k⟩
      refine q_if_eq (pc := 16) (tgt := 33) rfl (by decide) (fun z => ?_) (fun z => ?_)
      · have k := k.1 z
        refine q_aload_n (pc := 33) rfl rfl ?_
        refine q_iload_n (pc := 34) rfl rfl ?_
        refine q_iload_n (pc := 35) rfl rfl ?_
        refine q_callV (pc := 36) (As := [q_i x1, q_i x3]) (rest := []) rfl rfl rfl (by decide) rfl rfl (Nat.le_of_ble_eq_true rfl) ?_
        refine q_den_mono _ _ _ _ _ _ ?_ (dn_X5_begins (d := d + 1)  k)
        rintro _ g3 ⟨r4, rfl, k⟩
        refine q_if_eq (pc := 39) (tgt := 55) rfl (by decide) (fun z => ?_) (fun z => ?_)
        · have k := k.1 z
          refine q_iinc (pc := 55) (v := (x3 + 1)) (ls1 := [(3, q_i (x3 + 1)), (0, q_r 18 0), (1, q_i x1), (2, q_i x2)]) rfl (by decide) rfl (congrArg (fun z => x3 + z) (by decide : Int32.ofInt 1 = 1)) rfl ?_
          refine q_goto (pc := 58) (tgt := 4) rfl (by decide) ?_
          refine q_sub (pc := 4) (ks := [1, 2, 3, 0]) rfl ?_
          exact ih _ _ _ k
        · have k := k.2 z
          refine q_iload_n (pc := 42) rfl rfl ?_
          refine q_aload_n (pc := 43) rfl rfl ?_
          refine q_iload_n (pc := 44) rfl rfl ?_
          refine q_aload_n (pc := 45) rfl rfl ?_
          refine q_iload_n (pc := 46) rfl rfl ?_
          refine q_callV (pc := 47) (As := [q_i x1]) (rest := [q_i x1, q_r 18 0, q_i x2]) rfl rfl rfl (by decide) rfl rfl (Nat.le_of_ble_eq_true rfl) ?_
          refine q_den_mono _ _ _ _ _ _ ?_ (dn_X5_choice (d := d)  k)
          rintro _ g5 ⟨r6, rfl, k⟩
          refine q_callV (pc := 50) (As := [q_i x1, q_i r6]) (rest := [q_i x2]) rfl rfl rfl (by decide) rfl rfl (Nat.le_of_ble_eq_true rfl) ?_
          refine q_den_mono _ _ _ _ _ _ ?_ (dn_X5_costs (d := d + 1)  k)
          rintro _ g7 ⟨r8, rfl, k⟩
          refine q_iadd (pc := 53) rfl ?_
          refine q_istore_n (pc := 54) (ls1 := [(2, q_i (x2 + r8)), (0, q_r 18 0), (1, q_i x1), (3, q_i x3)]) rfl (by decide) rfl ?_
          refine q_iinc (pc := 55) (v := (x3 + 1)) (ls1 := [(3, q_i (x3 + 1)), (2, q_i (x2 + r8)), (0, q_r 18 0), (1, q_i x1)]) rfl (by decide) rfl (congrArg (fun z => x3 + z) (by decide : Int32.ofInt 1 = 1)) rfl ?_
          refine q_goto (pc := 58) (tgt := 4) rfl (by decide) ?_
          refine q_sub (pc := 4) (ks := [2, 3, 1, 0]) rfl ?_
          exact ih _ _ _ k
      · have k := k.2 z
        refine q_iload_n (pc := 19) rfl rfl ?_
        refine q_aload_n (pc := 20) rfl rfl ?_
        refine q_getR (pc := 21) rfl (by decide) rfl rfl rfl ?_
        refine q_iconst (pc := 24) (v := 4) rfl (by decide) ?_
        refine q_iload_n (pc := 25) rfl rfl ?_
        refine q_imul (pc := 26) rfl ?_
        obtain ⟨b9, k⟩ := k
        refine q_iaload (pc := 27) rfl (by decide) rfl rfl b9 ?_
        refine q_iadd (pc := 28) rfl ?_
        refine q_istore_n (pc := 29) (ls1 := [(2, q_i (x2 + (Prod.fst g1 19 0 (Int32.toNatClampNeg (4 * x1))))), (0, q_r 18 0), (1, q_i x1), (3, q_i x3)]) rfl (by decide) rfl ?_
        refine q_goto (pc := 30) (tgt := 55) rfl (by decide) ?_
        refine q_iinc (pc := 55) (v := (x3 + 1)) (ls1 := [(3, q_i (x3 + 1)), (2, q_i (x2 + (Prod.fst g1 19 0 (Int32.toNatClampNeg (4 * x1))))), (0, q_r 18 0), (1, q_i x1)]) rfl (by decide) rfl (congrArg (fun z => x3 + z) (by decide : Int32.ofInt 1 = 1)) rfl ?_
        refine q_goto (pc := 58) (tgt := 4) rfl (by decide) ?_
        refine q_sub (pc := 4) (ks := [2, 3, 1, 0]) rfl ?_
        exact ih _ _ _ k
set_option maxHeartbeats 4000000 in
set_option maxRecDepth 100000 in
theorem dn_X5_drained {d : Nat} {a1 : Int32} {h : q_H} {Q : Int32 → q_H → Prop} (k : wp_X5_drained a1 h Q) : q_den (d + 4) 114 [q_r 18 0, q_i a1] h (q_ri Q) := by
  unfold wp_X5_drained at k
  refine ⟨by decide, Nat.le_of_ble_eq_true rfl, ?_⟩
  show q_run (q_pcs q_t_X5_drained) 5 4 none (q_den (d + 3)) 1 (q_ri Q) 0 [(0, q_r 18 0), (1, q_i a1)] [] h
  refine q_iconst (pc := 0) (v := 0) rfl (by decide) ?_
  refine q_istore_n (pc := 1) (ls1 := [(2, q_i 0), (0, q_r 18 0), (1, q_i a1)]) rfl (by decide) rfl ?_
  refine q_iconst (pc := 2) (v := 0) rfl (by decide) ?_
  refine q_istore_n (pc := 3) (ls1 := [(3, q_i 0), (2, q_i 0), (0, q_r 18 0), (1, q_i a1)]) rfl (by decide) rfl ?_
  obtain ⟨n10, k⟩ := k
  refine q_sub (pc := 4) (ks := [2, 3, 1, 0]) rfl ?_
  refine dl_X5_drained_4 (fun y2_10 y3_10 g10 k => ?_) n10 _ _ _ k
  refine q_iload_n (pc := 61) rfl rfl ?_
  exact q_iret (pc := 62) rfl rfl ⟨_, rfl, k⟩
set_option maxHeartbeats 4000000 in
set_option maxRecDepth 100000 in
theorem dn_X5_drain {d : Nat} {a1 : Int32} {h : q_H} {Q : Int32 → q_H → Prop} (k : wp_X5_drain a1 h Q) : q_den (d + 5) 115 [q_r 18 0, q_i a1] h (q_ri Q) := by
  unfold wp_X5_drain at k
  refine ⟨by decide, Nat.le_of_ble_eq_true rfl, ?_⟩
  show q_run (q_pcs q_t_X5_drain) 5 2 none (q_den (d + 4)) 1 (q_ri Q) 0 [(0, q_r 18 0), (1, q_i a1)] [] h
  refine q_aload_n (pc := 0) rfl rfl ?_
  refine q_iload_n (pc := 1) rfl rfl ?_
  refine q_callV (pc := 2) (As := [q_i a1]) (rest := []) rfl rfl rfl (by decide) rfl rfl (Nat.le_of_ble_eq_true rfl) ?_
  refine q_den_mono _ _ _ _ _ _ ?_ (dn_X5_isPart (d := d + 2)  k)
  rintro _ g1 ⟨r2, rfl, k⟩
  refine q_if_ne (pc := 5) (tgt := 10) rfl (by decide) (fun z => ?_) (fun z => ?_)
  · have k := k.2 z
    refine q_aload_n (pc := 10) rfl rfl ?_
    refine q_callV (pc := 11) (As := []) (rest := []) rfl rfl rfl (by decide) rfl rfl (Nat.le_of_ble_eq_true rfl) ?_
    refine q_den_mono _ _ _ _ _ _ ?_ (dn_X5_wants (d := d + 2)  k)
    rintro _ g3 ⟨rfl, k⟩
    refine q_aload_n (pc := 14) rfl rfl ?_
    refine q_iload_n (pc := 15) rfl rfl ?_
    refine q_callV (pc := 16) (As := [q_i a1]) (rest := []) rfl rfl rfl (by decide) rfl rfl (Nat.le_of_ble_eq_true rfl) ?_
    refine q_den_mono _ _ _ _ _ _ ?_ (dn_X5_drained (d := d)  k)
    rintro _ g4 ⟨r5, rfl, k⟩
    exact q_iret (pc := 19) rfl rfl ⟨_, rfl, k⟩
  · have k := k.1 z
    refine q_iconst (pc := 8) (v := (-1)) rfl (by decide) ?_
    exact q_iret (pc := 9) rfl rfl ⟨_, rfl, k⟩
set_option maxHeartbeats 4000000 in
set_option maxRecDepth 100000 in
theorem dl_X5_state_34 {d : Nat} {x1 : Int32} {x2 : Int32} {E : Int32 → q_H → Prop} {Q : Int32 → q_H → Prop} (hE : ∀ (x3 : Int32) (h : q_H), E x3 h → q_run (q_pcs q_t_X5_state) 5 5 none (q_den (d + 3)) 1 (q_ri Q) 55 [(0, q_r 18 0), (1, q_i x1), (2, q_i x2), (3, q_i x3)] [] h) : ∀ (n : Nat) (x3 : Int32) (h : q_H), lp_X5_state_34 x1 x2 E n x3 h → q_run (q_pcs q_t_X5_state) 5 5 none (q_den (d + 3)) 1 (q_ri Q) 34 [(0, q_r 18 0), (1, q_i x1), (2, q_i x2), (3, q_i x3)] [] h := by
  intro n
  induction n with
  | zero => intro x3 h k; exact k.elim
  | succ n ih =>
    intro x3 h k
    unfold lp_X5_state_34 at k
    refine q_iload_n (pc := 34) rfl rfl ?_
    refine q_if_le (pc := 35) (tgt := 55) rfl (by decide) (fun z => ?_) (fun z => ?_)
    · have k := k.1 z
      refine q_sub (pc := 55) (ks := [0, 1, 2, 3]) rfl ?_
      exact hE _ _ k
    · have k := k.2 z
      refine q_aload_n (pc := 38) rfl rfl ?_
      refine q_iload_n (pc := 39) rfl rfl ?_
      refine q_iload_n (pc := 40) rfl rfl ?_
      refine q_iconst (pc := 41) (v := 1) rfl (by decide) ?_
      refine q_isub (pc := 42) rfl ?_
      refine q_callV (pc := 43) (As := [q_i x1, q_i (x3 - 1)]) (rest := []) rfl rfl rfl (by decide) rfl rfl (Nat.le_of_ble_eq_true rfl) ?_
      refine q_den_mono _ _ _ _ _ _ ?_ (dn_X5_isWanted (d := d + 2)  k)
      rintro _ g8 ⟨r9, rfl, k⟩
      refine q_if_ne (pc := 46) (tgt := 55) rfl (by decide) (fun z => ?_) (fun z => ?_)
      · have k := k.2 z
        refine q_sub (pc := 55) (ks := [0, 1, 2, 3]) rfl ?_
        exact hE _ _ k
      · have k := k.1 z
        refine q_iinc (pc := 49) (v := (x3 + (-1))) (ls1 := [(3, q_i (x3 + (-1))), (0, q_r 18 0), (1, q_i x1), (2, q_i x2)]) rfl (by decide) rfl (congrArg (fun z => x3 + z) (by decide : Int32.ofInt (-1) = (-1))) rfl ?_
        refine q_goto (pc := 52) (tgt := 34) rfl (by decide) ?_
        refine q_sub (pc := 34) (ks := [1, 2, 3, 0]) rfl ?_
        exact ih _ _ k
set_option maxHeartbeats 4000000 in
set_option maxRecDepth 100000 in
theorem dn_X5_state {d : Nat} {a1 : Int32} {a2 : Int32} {h : q_H} {Q : Int32 → q_H → Prop} (k : wp_X5_state a1 a2 h Q) : q_den (d + 4) 116 [q_r 18 0, q_i a1, q_i a2] h (q_ri Q) := by
  unfold wp_X5_state at k
  refine ⟨by decide, Nat.le_of_ble_eq_true rfl, ?_⟩
  show q_run (q_pcs q_t_X5_state) 5 5 none (q_den (d + 3)) 1 (q_ri Q) 0 [(0, q_r 18 0), (1, q_i a1), (2, q_i a2)] [] h
  refine q_aload_n (pc := 0) rfl rfl ?_
  refine q_iload_n (pc := 1) rfl rfl ?_
  refine q_callV (pc := 2) (As := [q_i a1]) (rest := []) rfl rfl rfl (by decide) rfl rfl (Nat.le_of_ble_eq_true rfl) ?_
  refine q_den_mono _ _ _ _ _ _ ?_ (dn_X5_isPart (d := d + 1)  k)
  rintro _ g1 ⟨r2, rfl, k⟩
  refine q_if_eq (pc := 5) (tgt := 15) rfl (by decide) (fun z => ?_) (fun z => ?_)
  · have k := k.1 z
    refine q_iconst (pc := 15) (v := (-1)) rfl (by decide) ?_
    exact q_iret (pc := 16) rfl rfl ⟨_, rfl, k⟩
  · have k := k.2 z
    refine q_iload_n (pc := 8) rfl rfl ?_
    refine q_callS (kd := 0) (pc := 9) (As := [q_i a2]) (rest := []) rfl rfl rfl  rfl (Nat.le_of_ble_eq_true rfl) ?_
    refine q_den_mono _ _ _ _ _ _ ?_ (dn_X5_isTick (d := d + 1)  k)
    rintro _ g3 ⟨r4, rfl, k⟩
    refine q_if_ne (pc := 12) (tgt := 17) rfl (by decide) (fun z => ?_) (fun z => ?_)
    · have k := k.2 z
      refine q_aload_n (pc := 17) rfl rfl ?_
      refine q_callV (pc := 18) (As := []) (rest := []) rfl rfl rfl (by decide) rfl rfl (Nat.le_of_ble_eq_true rfl) ?_
      refine q_den_mono _ _ _ _ _ _ ?_ (dn_X5_wants (d := d + 1)  k)
      rintro _ g5 ⟨rfl, k⟩
      refine q_aload_n (pc := 21) rfl rfl ?_
      refine q_iload_n (pc := 22) rfl rfl ?_
      refine q_iload_n (pc := 23) rfl rfl ?_
      refine q_callV (pc := 24) (As := [q_i a1, q_i a2]) (rest := []) rfl rfl rfl (by decide) rfl rfl (Nat.le_of_ble_eq_true rfl) ?_
      refine q_den_mono _ _ _ _ _ _ ?_ (dn_X5_isWanted (d := d + 2)  k)
      rintro _ g6 ⟨r7, rfl, k⟩
      refine q_if_eq (pc := 27) (tgt := 32) rfl (by decide) (fun z => ?_) (fun z => ?_)
      · have k := k.1 z
        refine q_iload_n (pc := 32) rfl rfl ?_
        refine q_istore_n (pc := 33) (ls1 := [(3, q_i a2), (0, q_r 18 0), (1, q_i a1), (2, q_i a2)]) rfl (by decide) rfl ?_
        obtain ⟨n10, k⟩ := k
        refine q_sub (pc := 34) (ks := [1, 2, 3, 0]) rfl ?_
        refine dl_X5_state_34 (fun y3_10 g10 k => ?_) n10 _ _ k
        refine q_aload_n (pc := 55) rfl rfl ?_
        refine q_iload_n (pc := 56) rfl rfl ?_
        refine q_iload_n (pc := 57) rfl rfl ?_
        refine q_callV (pc := 58) (As := [q_i a1, q_i y3_10]) (rest := []) rfl rfl rfl (by decide) rfl rfl (Nat.le_of_ble_eq_true rfl) ?_
        refine q_den_mono _ _ _ _ _ _ ?_ (dn_X5_begins (d := d + 1)  k)
        rintro _ g11 ⟨r12, rfl, k⟩
        refine q_if_ne (pc := 61) (tgt := 66) rfl (by decide) (fun z => ?_) (fun z => ?_)
        · have k := k.2 z
          refine q_aload_n (pc := 66) rfl rfl ?_
          refine q_iload_n (pc := 67) rfl rfl ?_
          refine q_callV (pc := 68) (As := [q_i a1]) (rest := []) rfl rfl rfl (by decide) rfl rfl (Nat.le_of_ble_eq_true rfl) ?_
          refine q_den_mono _ _ _ _ _ _ ?_ (dn_X5_choice (d := d)  k)
          rintro _ g13 ⟨r14, rfl, k⟩
          refine q_istore (pc := 71) (ls1 := [(4, q_i r14), (0, q_r 18 0), (1, q_i a1), (2, q_i a2), (3, q_i y3_10)]) rfl (by decide) rfl ?_
          refine q_aload_n (pc := 73) rfl rfl ?_
          refine q_callV (pc := 74) (As := []) (rest := []) rfl rfl rfl (by decide) rfl rfl (Nat.le_of_ble_eq_true rfl) ?_
          refine q_den_mono _ _ _ _ _ _ ?_ (dn_X5_isLast (d := d + 2)  k)
          rintro _ g15 ⟨r16, rfl, k⟩
          refine q_if_ne (pc := 77) (tgt := 109) rfl (by decide) (fun z => ?_) (fun z => ?_)
          · have k := k.2 z
            refine q_iload (pc := 109) rfl rfl ?_
            exact q_iret (pc := 111) rfl rfl ⟨_, rfl, k⟩
          · have k := k.1 z
            refine q_iload_n (pc := 80) rfl rfl ?_
            refine q_aload_n (pc := 81) rfl rfl ?_
            refine q_getI (pc := 82) rfl (by decide) rfl rfl rfl ?_
            refine q_aload_n (pc := 85) rfl rfl ?_
            refine q_getI (pc := 86) rfl (by decide) rfl rfl rfl ?_
            refine q_iadd (pc := 89) rfl ?_
            refine q_aload_n (pc := 90) rfl rfl ?_
            refine q_getR (pc := 91) rfl (by decide) rfl rfl rfl ?_
            refine q_iconst (pc := 94) (v := 4) rfl (by decide) ?_
            refine q_iload_n (pc := 95) rfl rfl ?_
            refine q_imul (pc := 96) rfl ?_
            refine q_iload (pc := 97) rfl rfl ?_
            refine q_iadd (pc := 99) rfl ?_
            obtain ⟨b17, k⟩ := k
            refine q_iaload (pc := 100) rfl (by decide) rfl rfl b17 ?_
            refine q_isub (pc := 101) rfl ?_
            refine q_icmp_lt (pc := 102) (tgt := 109) rfl (by decide) (fun z => ?_) (fun z => ?_)
            · have k := k.1 z
              refine q_iload (pc := 109) rfl rfl ?_
              exact q_iret (pc := 111) rfl rfl ⟨_, rfl, k⟩
            · have k := k.2 z
              refine q_iconst (pc := 105) (v := 0) rfl (by decide) ?_
              refine q_goto (pc := 106) (tgt := 111) rfl (by decide) ?_
              exact q_iret (pc := 111) rfl rfl ⟨_, rfl, k⟩
        · have k := k.1 z
          refine q_iconst (pc := 64) (v := (-1)) rfl (by decide) ?_
          exact q_iret (pc := 65) rfl rfl ⟨_, rfl, k⟩
      · have k := k.2 z
        refine q_iconst (pc := 30) (v := 0) rfl (by decide) ?_
        exact q_iret (pc := 31) rfl rfl ⟨_, rfl, k⟩
    · have k := k.1 z
      refine q_iconst (pc := 15) (v := (-1)) rfl (by decide) ?_
      exact q_iret (pc := 16) rfl rfl ⟨_, rfl, k⟩
set_option maxHeartbeats 4000000 in
set_option maxRecDepth 100000 in
theorem dn_X5_ruleState {d : Nat} {a1 : Int32} {a2 : Int32} {h : q_H} {Q : Int32 → q_H → Prop} (k : wp_X5_ruleState a1 a2 h Q) : q_den (d + 1) 117 [q_r 18 0, q_i a1, q_i a2] h (q_ri Q) := by
  unfold wp_X5_ruleState at k
  refine ⟨by decide, Nat.le_of_ble_eq_true rfl, ?_⟩
  show q_run (q_pcs q_t_X5_ruleState) 5 3 none (q_den d) 1 (q_ri Q) 0 [(0, q_r 18 0), (1, q_i a1), (2, q_i a2)] [] h
  refine q_iload_n (pc := 0) rfl rfl ?_
  refine q_aload_n (pc := 1) rfl rfl ?_
  refine q_getR (pc := 2) rfl (by decide) rfl rfl rfl ?_
  refine q_iconst (pc := 5) (v := 3) rfl (by decide) ?_
  refine q_iload_n (pc := 6) rfl rfl ?_
  refine q_imul (pc := 7) rfl ?_
  obtain ⟨b1, k⟩ := k
  refine q_iaload (pc := 8) rfl (by decide) rfl rfl b1 ?_
  refine q_icmp_ge (pc := 9) (tgt := 16) rfl (by decide) (fun z => ?_) (fun z => ?_)
  · have k := k.1 z
    refine q_iload_n (pc := 16) rfl rfl ?_
    refine q_aload_n (pc := 17) rfl rfl ?_
    refine q_getR (pc := 18) rfl (by decide) rfl rfl rfl ?_
    refine q_iconst (pc := 21) (v := 3) rfl (by decide) ?_
    refine q_iload_n (pc := 22) rfl rfl ?_
    refine q_imul (pc := 23) rfl ?_
    refine q_iconst (pc := 24) (v := 1) rfl (by decide) ?_
    refine q_iadd (pc := 25) rfl ?_
    obtain ⟨b2, k⟩ := k
    refine q_iaload (pc := 26) rfl (by decide) rfl rfl b2 ?_
    refine q_icmp_ge (pc := 27) (tgt := 34) rfl (by decide) (fun z => ?_) (fun z => ?_)
    · have k := k.1 z
      refine q_iload_n (pc := 34) rfl rfl ?_
      refine q_aload_n (pc := 35) rfl rfl ?_
      refine q_getR (pc := 36) rfl (by decide) rfl rfl rfl ?_
      refine q_iconst (pc := 39) (v := 3) rfl (by decide) ?_
      refine q_iload_n (pc := 40) rfl rfl ?_
      refine q_imul (pc := 41) rfl ?_
      refine q_iconst (pc := 42) (v := 2) rfl (by decide) ?_
      refine q_iadd (pc := 43) rfl ?_
      obtain ⟨b3, k⟩ := k
      refine q_iaload (pc := 44) rfl (by decide) rfl rfl b3 ?_
      refine q_icmp_ge (pc := 45) (tgt := 52) rfl (by decide) (fun z => ?_) (fun z => ?_)
      · have k := k.1 z
        refine q_iconst (pc := 52) (v := 3) rfl (by decide) ?_
        exact q_iret (pc := 53) rfl rfl ⟨_, rfl, k⟩
      · have k := k.2 z
        refine q_iconst (pc := 48) (v := 2) rfl (by decide) ?_
        refine q_goto (pc := 49) (tgt := 53) rfl (by decide) ?_
        exact q_iret (pc := 53) rfl rfl ⟨_, rfl, k⟩
    · have k := k.2 z
      refine q_iconst (pc := 30) (v := 1) rfl (by decide) ?_
      refine q_goto (pc := 31) (tgt := 53) rfl (by decide) ?_
      exact q_iret (pc := 53) rfl rfl ⟨_, rfl, k⟩
  · have k := k.2 z
    refine q_iconst (pc := 12) (v := 0) rfl (by decide) ?_
    refine q_goto (pc := 13) (tgt := 53) rfl (by decide) ?_
    exact q_iret (pc := 53) rfl rfl ⟨_, rfl, k⟩
set_option maxHeartbeats 4000000 in
set_option maxRecDepth 100000 in
theorem dn_X5_ahead {d : Nat} {a1 : Int32} {a2 : Int32} {h : q_H} {Q : Int32 → q_H → Prop} (k : wp_X5_ahead a1 a2 h Q) : q_den (d + 2) 118 [q_r 18 0, q_i a1, q_i a2] h (q_ri Q) := by
  unfold wp_X5_ahead at k
  refine ⟨by decide, Nat.le_of_ble_eq_true rfl, ?_⟩
  show q_run (q_pcs q_t_X5_ahead) 5 3 none (q_den (d + 1)) 1 (q_ri Q) 0 [(0, q_r 18 0), (1, q_i a1), (2, q_i a2)] [] h
  refine q_iload_n (pc := 0) rfl rfl ?_
  refine q_if_ne (pc := 1) (tgt := 8) rfl (by decide) (fun z => ?_) (fun z => ?_)
  · have k := k.2 z
    refine q_aload_n (pc := 8) rfl rfl ?_
    refine q_iload_n (pc := 9) rfl rfl ?_
    refine q_iload_n (pc := 10) rfl rfl ?_
    refine q_iconst (pc := 11) (v := 1) rfl (by decide) ?_
    refine q_isub (pc := 12) rfl ?_
    refine q_callV (pc := 13) (As := [q_i a1, q_i (a2 - 1)]) (rest := []) rfl rfl rfl (by decide) rfl rfl (Nat.le_of_ble_eq_true rfl) ?_
    refine q_den_mono _ _ _ _ _ _ ?_ (dn_X5_ruleState (d := d)  k)
    rintro _ g1 ⟨r2, rfl, k⟩
    exact q_iret (pc := 16) rfl rfl ⟨_, rfl, k⟩
  · have k := k.1 z
    refine q_iconst (pc := 4) (v := 0) rfl (by decide) ?_
    refine q_goto (pc := 5) (tgt := 16) rfl (by decide) ?_
    exact q_iret (pc := 16) rfl rfl ⟨_, rfl, k⟩
set_option maxHeartbeats 4000000 in
set_option maxRecDepth 100000 in
theorem dl_X5_rises_17 {d : Nat} {x1 : Int32} {E : Int32 → q_H → Prop} {Q : Int32 → q_H → Prop} (hE : ∀ (x2 : Int32) (h : q_H), E x2 h → q_run (q_pcs q_t_X5_rises) 5 3 none (q_den (d + 2)) 1 (q_ri Q) 47 [(0, q_r 18 0), (1, q_i x1), (2, q_i x2)] [] h) : ∀ (n : Nat) (x2 : Int32) (h : q_H), lp_X5_rises_17 x1 E n x2 h → q_run (q_pcs q_t_X5_rises) 5 3 none (q_den (d + 2)) 1 (q_ri Q) 17 [(0, q_r 18 0), (1, q_i x1), (2, q_i x2)] [] h := by
  intro n
  induction n with
  | zero => intro x2 h k; exact k.elim
  | succ n ih =>
    intro x2 h k
    unfold lp_X5_rises_17 at k
    refine q_iload_n (pc := 17) rfl rfl ?_
    refine q_aload_n (pc := 18) rfl rfl ?_
    refine q_getR (pc := 19) rfl (by decide) rfl rfl rfl ?_
    refine q_iconst (pc := 22) (v := 4) rfl (by decide) ?_
    refine q_iload_n (pc := 23) rfl rfl ?_
    refine q_imul (pc := 24) rfl ?_
    refine q_aload_n (pc := 25) rfl rfl ?_
    refine q_iload_n (pc := 26) rfl rfl ?_
    refine q_iload_n (pc := 27) rfl rfl ?_
    refine q_callV (pc := 28) (As := [q_i x1, q_i x2]) (rest := [q_i (4 * x1), q_r 21 0, q_i x2]) rfl rfl rfl (by decide) rfl rfl (Nat.le_of_ble_eq_true rfl) ?_
    refine q_den_mono _ _ _ _ _ _ ?_ (dn_X5_ahead (d := d)  k)
    rintro _ g3 ⟨r4, rfl, k⟩
    refine q_iadd (pc := 31) rfl ?_
    obtain ⟨b5, k⟩ := k
    refine q_iaload (pc := 32) rfl (by decide) rfl rfl b5 ?_
    refine q_iadd (pc := 33) rfl ?_
    refine q_aload_n (pc := 34) rfl rfl ?_
    refine q_getI (pc := 35) rfl (by decide) rfl rfl rfl ?_
    refine q_icmp_le (pc := 38) (tgt := 47) rfl (by decide) (fun z => ?_) (fun z => ?_)
    · have k := k.1 z
      refine q_sub (pc := 47) (ks := [0, 1, 2]) rfl ?_
      exact hE _ _ k
    · have k := k.2 z
      refine q_iinc (pc := 41) (v := (x2 + (-1))) (ls1 := [(2, q_i (x2 + (-1))), (0, q_r 18 0), (1, q_i x1)]) rfl (by decide) rfl (congrArg (fun z => x2 + z) (by decide : Int32.ofInt (-1) = (-1))) rfl ?_
      refine q_goto (pc := 44) (tgt := 17) rfl (by decide) ?_
      refine q_sub (pc := 17) (ks := [1, 2, 0]) rfl ?_
      exact ih _ _ k
set_option maxHeartbeats 4000000 in
set_option maxRecDepth 100000 in
theorem dn_X5_rises {d : Nat} {a1 : Int32} {h : q_H} {Q : Int32 → q_H → Prop} (k : wp_X5_rises a1 h Q) : q_den (d + 3) 119 [q_r 18 0, q_i a1] h (q_ri Q) := by
  unfold wp_X5_rises at k
  refine ⟨by decide, Nat.le_of_ble_eq_true rfl, ?_⟩
  show q_run (q_pcs q_t_X5_rises) 5 3 none (q_den (d + 2)) 1 (q_ri Q) 0 [(0, q_r 18 0), (1, q_i a1)] [] h
  refine q_aload_n (pc := 0) rfl rfl ?_
  refine q_callV (pc := 1) (As := []) (rest := []) rfl rfl rfl (by decide) rfl rfl (Nat.le_of_ble_eq_true rfl) ?_
  refine q_den_mono _ _ _ _ _ _ ?_ (dn_X5_isLast (d := d + 1)  k)
  rintro _ g1 ⟨r2, rfl, k⟩
  refine q_if_eq (pc := 4) (tgt := 12) rfl (by decide) (fun z => ?_) (fun z => ?_)
  · have k := k.1 z
    refine q_aload_n (pc := 12) rfl rfl ?_
    refine q_getI (pc := 13) rfl (by decide) rfl rfl rfl ?_
    refine q_istore_n (pc := 16) (ls1 := [(2, q_i (Prod.fst g1 18 0 15)), (0, q_r 18 0), (1, q_i a1)]) rfl (by decide) rfl ?_
    obtain ⟨n6, k⟩ := k
    refine q_sub (pc := 17) (ks := [1, 2, 0]) rfl ?_
    refine dl_X5_rises_17 (fun y2_6 g6 k => ?_) n6 _ _ k
    refine q_iload_n (pc := 47) rfl rfl ?_
    exact q_iret (pc := 48) rfl rfl ⟨_, rfl, k⟩
  · have k := k.2 z
    refine q_aload_n (pc := 7) rfl rfl ?_
    refine q_getI (pc := 8) rfl (by decide) rfl rfl rfl ?_
    exact q_iret (pc := 11) rfl rfl ⟨_, rfl, k⟩
set_option maxHeartbeats 4000000 in
set_option maxRecDepth 100000 in
theorem dl_X5_ruledSpan_36 {d : Nat} {x1 : Int32} {x2 : Int32} {E : Int32 → Int32 → q_H → Prop} {Q : Int32 → q_H → Prop} (hE : ∀ (x3 : Int32) (x4 : Int32) (h : q_H), E x3 x4 h → q_run (q_pcs q_t_X5_ruledSpan) 5 5 none (q_den (d + 3)) 1 (q_ri Q) 80 [(0, q_r 18 0), (1, q_i x1), (2, q_i x2), (3, q_i x3), (4, q_i x4)] [] h) : ∀ (n : Nat) (x3 : Int32) (x4 : Int32) (h : q_H), lp_X5_ruledSpan_36 x1 x2 E n x3 x4 h → q_run (q_pcs q_t_X5_ruledSpan) 5 5 none (q_den (d + 3)) 1 (q_ri Q) 36 [(0, q_r 18 0), (1, q_i x1), (2, q_i x2), (3, q_i x3), (4, q_i x4)] [] h := by
  intro n
  induction n with
  | zero => intro x3 x4 h k; exact k.elim
  | succ n ih =>
    intro x3 x4 h k
    unfold lp_X5_ruledSpan_36 at k
    refine q_iload (pc := 36) rfl rfl ?_
    refine q_aload_n (pc := 38) rfl rfl ?_
    refine q_getI (pc := 39) rfl (by decide) rfl rfl rfl ?_
    refine q_icmp_ge (pc := 42) (tgt := 80) rfl (by decide) (fun z => ?_) (fun z => ?_)
    · have k := k.1 z
      refine q_sub (pc := 80) (ks := [0, 1, 2, 3, 4]) rfl ?_
      exact hE _ _ _ k
    · have k := k.2 z
      refine q_iload_n (pc := 45) rfl rfl ?_
      refine q_aload_n (pc := 46) rfl rfl ?_
      refine q_getR (pc := 47) rfl (by decide) rfl rfl rfl ?_
      refine q_iconst (pc := 50) (v := 4) rfl (by decide) ?_
      refine q_iload_n (pc := 51) rfl rfl ?_
      refine q_imul (pc := 52) rfl ?_
      refine q_iload (pc := 53) rfl rfl ?_
      refine q_iload_n (pc := 55) rfl rfl ?_
      refine q_icmp_ge (pc := 56) (tgt := 69) rfl (by decide) (fun z => ?_) (fun z => ?_)
      · have k := k.1 z
        refine q_iconst (pc := 69) (v := 0) rfl (by decide) ?_
        refine q_iadd (pc := 70) rfl ?_
        obtain ⟨b8, k⟩ := k
        refine q_iaload (pc := 71) rfl (by decide) rfl rfl b8 ?_
        refine q_iadd (pc := 72) rfl ?_
        refine q_istore_n (pc := 73) (ls1 := [(3, q_i (x3 + (Prod.fst h 19 0 (Int32.toNatClampNeg ((4 * x1) + 0))))), (0, q_r 18 0), (1, q_i x1), (2, q_i x2), (4, q_i x4)]) rfl (by decide) rfl ?_
        refine q_iinc (pc := 74) (v := (x4 + 1)) (ls1 := [(4, q_i (x4 + 1)), (3, q_i (x3 + (Prod.fst h 19 0 (Int32.toNatClampNeg ((4 * x1) + 0))))), (0, q_r 18 0), (1, q_i x1), (2, q_i x2)]) rfl (by decide) rfl (congrArg (fun z => x4 + z) (by decide : Int32.ofInt 1 = 1)) rfl ?_
        refine q_goto (pc := 77) (tgt := 36) rfl (by decide) ?_
        refine q_sub (pc := 36) (ks := [2, 3, 4, 1, 0]) rfl ?_
        exact ih _ _ _ k
      · have k := k.2 z
        refine q_aload_n (pc := 59) rfl rfl ?_
        refine q_iload_n (pc := 60) rfl rfl ?_
        refine q_iload (pc := 61) rfl rfl ?_
        refine q_callV (pc := 63) (As := [q_i x1, q_i x4]) (rest := [q_i (4 * x1), q_r 19 0, q_i x3]) rfl rfl rfl (by decide) rfl rfl (Nat.le_of_ble_eq_true rfl) ?_
        refine q_den_mono _ _ _ _ _ _ ?_ (dn_X5_ruleState (d := d + 2)  k)
        rintro _ g9 ⟨r10, rfl, k⟩
        refine q_goto (pc := 66) (tgt := 70) rfl (by decide) ?_
        refine q_iadd (pc := 70) rfl ?_
        obtain ⟨b11, k⟩ := k
        refine q_iaload (pc := 71) rfl (by decide) rfl rfl b11 ?_
        refine q_iadd (pc := 72) rfl ?_
        refine q_istore_n (pc := 73) (ls1 := [(3, q_i (x3 + (Prod.fst g9 19 0 (Int32.toNatClampNeg ((4 * x1) + r10))))), (0, q_r 18 0), (1, q_i x1), (2, q_i x2), (4, q_i x4)]) rfl (by decide) rfl ?_
        refine q_iinc (pc := 74) (v := (x4 + 1)) (ls1 := [(4, q_i (x4 + 1)), (3, q_i (x3 + (Prod.fst g9 19 0 (Int32.toNatClampNeg ((4 * x1) + r10))))), (0, q_r 18 0), (1, q_i x1), (2, q_i x2)]) rfl (by decide) rfl (congrArg (fun z => x4 + z) (by decide : Int32.ofInt 1 = 1)) rfl ?_
        refine q_goto (pc := 77) (tgt := 36) rfl (by decide) ?_
        refine q_sub (pc := 36) (ks := [2, 3, 4, 1, 0]) rfl ?_
        exact ih _ _ _ k
set_option maxHeartbeats 4000000 in
set_option maxRecDepth 100000 in
theorem dn_X5_ruledSpan {d : Nat} {a1 : Int32} {h : q_H} {Q : Int32 → q_H → Prop} (k : wp_X5_ruledSpan a1 h Q) : q_den (d + 4) 120 [q_r 18 0, q_i a1] h (q_ri Q) := by
  unfold wp_X5_ruledSpan at k
  refine ⟨by decide, Nat.le_of_ble_eq_true rfl, ?_⟩
  show q_run (q_pcs q_t_X5_ruledSpan) 5 5 none (q_den (d + 3)) 1 (q_ri Q) 0 [(0, q_r 18 0), (1, q_i a1)] [] h
  refine q_aload_n (pc := 0) rfl rfl ?_
  refine q_iload_n (pc := 1) rfl rfl ?_
  refine q_callV (pc := 2) (As := [q_i a1]) (rest := []) rfl rfl rfl (by decide) rfl rfl (Nat.le_of_ble_eq_true rfl) ?_
  refine q_den_mono _ _ _ _ _ _ ?_ (dn_X5_rises (d := d)  k)
  rintro _ g1 ⟨r2, rfl, k⟩
  refine q_istore_n (pc := 5) (ls1 := [(2, q_i r2), (0, q_r 18 0), (1, q_i a1)]) rfl (by decide) rfl ?_
  refine q_aload_n (pc := 6) rfl rfl ?_
  refine q_callV (pc := 7) (As := []) (rest := []) rfl rfl rfl (by decide) rfl rfl (Nat.le_of_ble_eq_true rfl) ?_
  refine q_den_mono _ _ _ _ _ _ ?_ (dn_X5_isLast (d := d + 2)  k)
  rintro _ g3 ⟨r4, rfl, k⟩
  refine q_if_eq (pc := 10) (tgt := 17) rfl (by decide) (fun z => ?_) (fun z => ?_)
  · have k := k.1 z
    refine q_aload_n (pc := 17) rfl rfl ?_
    refine q_getR (pc := 18) rfl (by decide) rfl rfl rfl ?_
    refine q_iconst (pc := 21) (v := 4) rfl (by decide) ?_
    refine q_iload_n (pc := 22) rfl rfl ?_
    refine q_imul (pc := 23) rfl ?_
    refine q_aload_n (pc := 24) rfl rfl ?_
    refine q_iload_n (pc := 25) rfl rfl ?_
    refine q_iload_n (pc := 26) rfl rfl ?_
    refine q_callV (pc := 27) (As := [q_i a1, q_i r2]) (rest := [q_i (4 * a1), q_r 20 0]) rfl rfl rfl (by decide) rfl rfl (Nat.le_of_ble_eq_true rfl) ?_
    refine q_den_mono _ _ _ _ _ _ ?_ (dn_X5_ahead (d := d + 1)  k)
    rintro _ g5 ⟨r6, rfl, k⟩
    refine q_iadd (pc := 30) rfl ?_
    obtain ⟨b7, k⟩ := k
    refine q_iaload (pc := 31) rfl (by decide) rfl rfl b7 ?_
    refine q_istore_n (pc := 32) (ls1 := [(3, q_i (Prod.fst g5 20 0 (Int32.toNatClampNeg ((4 * a1) + r6)))), (2, q_i r2), (0, q_r 18 0), (1, q_i a1)]) rfl (by decide) rfl ?_
    refine q_iconst (pc := 33) (v := 0) rfl (by decide) ?_
    refine q_istore (pc := 34) (ls1 := [(4, q_i 0), (3, q_i (Prod.fst g5 20 0 (Int32.toNatClampNeg ((4 * a1) + r6)))), (2, q_i r2), (0, q_r 18 0), (1, q_i a1)]) rfl (by decide) rfl ?_
    obtain ⟨n12, k⟩ := k
    refine q_sub (pc := 36) (ks := [3, 4, 2, 1, 0]) rfl ?_
    refine dl_X5_ruledSpan_36 (fun y3_12 y4_12 g12 k => ?_) n12 _ _ _ k
    refine q_iload_n (pc := 80) rfl rfl ?_
    exact q_iret (pc := 81) rfl rfl ⟨_, rfl, k⟩
  · have k := k.2 z
    refine q_iconst (pc := 13) (v := 0) rfl (by decide) ?_
    refine q_goto (pc := 14) (tgt := 32) rfl (by decide) ?_
    refine q_istore_n (pc := 32) (ls1 := [(3, q_i 0), (2, q_i r2), (0, q_r 18 0), (1, q_i a1)]) rfl (by decide) rfl ?_
    refine q_iconst (pc := 33) (v := 0) rfl (by decide) ?_
    refine q_istore (pc := 34) (ls1 := [(4, q_i 0), (3, q_i 0), (2, q_i r2), (0, q_r 18 0), (1, q_i a1)]) rfl (by decide) rfl ?_
    obtain ⟨n13, k⟩ := k
    refine q_sub (pc := 36) (ks := [3, 4, 2, 1, 0]) rfl ?_
    refine dl_X5_ruledSpan_36 (fun y3_13 y4_13 g13 k => ?_) n13 _ _ _ k
    refine q_iload_n (pc := 80) rfl rfl ?_
    exact q_iret (pc := 81) rfl rfl ⟨_, rfl, k⟩
set_option maxHeartbeats 4000000 in
set_option maxRecDepth 100000 in
theorem dl_X5_ruledSum_4 {d : Nat} {x1 : Int32} {E : Int32 → Int32 → q_H → Prop} {Q : Int32 → q_H → Prop} (hE : ∀ (x2 : Int32) (x3 : Int32) (h : q_H), E x2 x3 h → q_run (q_pcs q_t_X5_ruledSum) 5 4 none (q_den (d + 4)) 1 (q_ri Q) 56 [(0, q_r 18 0), (1, q_i x1), (2, q_i x2), (3, q_i x3)] [] h) : ∀ (n : Nat) (x2 : Int32) (x3 : Int32) (h : q_H), lp_X5_ruledSum_4 x1 E n x2 x3 h → q_run (q_pcs q_t_X5_ruledSum) 5 4 none (q_den (d + 4)) 1 (q_ri Q) 4 [(0, q_r 18 0), (1, q_i x1), (2, q_i x2), (3, q_i x3)] [] h := by
  intro n
  induction n with
  | zero => intro x2 x3 h k; exact k.elim
  | succ n ih =>
    intro x2 x3 h k
    unfold lp_X5_ruledSum_4 at k
    refine q_iload_n (pc := 4) rfl rfl ?_
    refine q_bipush (pc := 5) (v := 64) rfl (by decide) ?_
    refine q_icmp_ge (pc := 7) (tgt := 56) rfl (by decide) (fun z => ?_) (fun z => ?_)
    · have k := k.1 z
      refine q_sub (pc := 56) (ks := [0, 1, 2, 3]) rfl ?_
      exact hE _ _ _ k
    · have k := k.2 z
      refine q_aload_n (pc := 10) rfl rfl ?_
      refine q_iload_n (pc := 11) rfl rfl ?_
      refine q_iload_n (pc := 12) rfl rfl ?_
      refine q_callV (pc := 13) (As := [q_i x1, q_i x3]) (rest := []) rfl rfl rfl (by decide) rfl rfl (Nat.le_of_ble_eq_true rfl) ?_
      refine q_den_mono _ _ _ _ _ _ ?_ (dn_X5_isWanted (d := d + 3)  k)
      rintro _ g1 ⟨r2, rfl, k⟩
      refine q_if_eq (pc := 16) (tgt := 33) rfl (by decide) (fun z => ?_) (fun z => ?_)
      · have k := k.1 z
        refine q_aload_n (pc := 33) rfl rfl ?_
        refine q_iload_n (pc := 34) rfl rfl ?_
        refine q_iload_n (pc := 35) rfl rfl ?_
        refine q_callV (pc := 36) (As := [q_i x1, q_i x3]) (rest := []) rfl rfl rfl (by decide) rfl rfl (Nat.le_of_ble_eq_true rfl) ?_
        refine q_den_mono _ _ _ _ _ _ ?_ (dn_X5_begins (d := d + 2)  k)
        rintro _ g3 ⟨r4, rfl, k⟩
        refine q_if_eq (pc := 39) (tgt := 50) rfl (by decide) (fun z => ?_) (fun z => ?_)
        · have k := k.1 z
          refine q_iinc (pc := 50) (v := (x3 + 1)) (ls1 := [(3, q_i (x3 + 1)), (0, q_r 18 0), (1, q_i x1), (2, q_i x2)]) rfl (by decide) rfl (congrArg (fun z => x3 + z) (by decide : Int32.ofInt 1 = 1)) rfl ?_
          refine q_goto (pc := 53) (tgt := 4) rfl (by decide) ?_
          refine q_sub (pc := 4) (ks := [1, 2, 3, 0]) rfl ?_
          exact ih _ _ _ k
        · have k := k.2 z
          refine q_iload_n (pc := 42) rfl rfl ?_
          refine q_aload_n (pc := 43) rfl rfl ?_
          refine q_iload_n (pc := 44) rfl rfl ?_
          refine q_callV (pc := 45) (As := [q_i x1]) (rest := [q_i x2]) rfl rfl rfl (by decide) rfl rfl (Nat.le_of_ble_eq_true rfl) ?_
          refine q_den_mono _ _ _ _ _ _ ?_ (dn_X5_ruledSpan (d := d)  k)
          rintro _ g5 ⟨r6, rfl, k⟩
          refine q_iadd (pc := 48) rfl ?_
          refine q_istore_n (pc := 49) (ls1 := [(2, q_i (x2 + r6)), (0, q_r 18 0), (1, q_i x1), (3, q_i x3)]) rfl (by decide) rfl ?_
          refine q_iinc (pc := 50) (v := (x3 + 1)) (ls1 := [(3, q_i (x3 + 1)), (2, q_i (x2 + r6)), (0, q_r 18 0), (1, q_i x1)]) rfl (by decide) rfl (congrArg (fun z => x3 + z) (by decide : Int32.ofInt 1 = 1)) rfl ?_
          refine q_goto (pc := 53) (tgt := 4) rfl (by decide) ?_
          refine q_sub (pc := 4) (ks := [2, 3, 1, 0]) rfl ?_
          exact ih _ _ _ k
      · have k := k.2 z
        refine q_iload_n (pc := 19) rfl rfl ?_
        refine q_aload_n (pc := 20) rfl rfl ?_
        refine q_getR (pc := 21) rfl (by decide) rfl rfl rfl ?_
        refine q_iconst (pc := 24) (v := 4) rfl (by decide) ?_
        refine q_iload_n (pc := 25) rfl rfl ?_
        refine q_imul (pc := 26) rfl ?_
        obtain ⟨b7, k⟩ := k
        refine q_iaload (pc := 27) rfl (by decide) rfl rfl b7 ?_
        refine q_iadd (pc := 28) rfl ?_
        refine q_istore_n (pc := 29) (ls1 := [(2, q_i (x2 + (Prod.fst g1 19 0 (Int32.toNatClampNeg (4 * x1))))), (0, q_r 18 0), (1, q_i x1), (3, q_i x3)]) rfl (by decide) rfl ?_
        refine q_goto (pc := 30) (tgt := 50) rfl (by decide) ?_
        refine q_iinc (pc := 50) (v := (x3 + 1)) (ls1 := [(3, q_i (x3 + 1)), (2, q_i (x2 + (Prod.fst g1 19 0 (Int32.toNatClampNeg (4 * x1))))), (0, q_r 18 0), (1, q_i x1)]) rfl (by decide) rfl (congrArg (fun z => x3 + z) (by decide : Int32.ofInt 1 = 1)) rfl ?_
        refine q_goto (pc := 53) (tgt := 4) rfl (by decide) ?_
        refine q_sub (pc := 4) (ks := [2, 3, 1, 0]) rfl ?_
        exact ih _ _ _ k
set_option maxHeartbeats 4000000 in
set_option maxRecDepth 100000 in
theorem dn_X5_ruledSum {d : Nat} {a1 : Int32} {h : q_H} {Q : Int32 → q_H → Prop} (k : wp_X5_ruledSum a1 h Q) : q_den (d + 5) 121 [q_r 18 0, q_i a1] h (q_ri Q) := by
  unfold wp_X5_ruledSum at k
  refine ⟨by decide, Nat.le_of_ble_eq_true rfl, ?_⟩
  show q_run (q_pcs q_t_X5_ruledSum) 5 4 none (q_den (d + 4)) 1 (q_ri Q) 0 [(0, q_r 18 0), (1, q_i a1)] [] h
  refine q_iconst (pc := 0) (v := 0) rfl (by decide) ?_
  refine q_istore_n (pc := 1) (ls1 := [(2, q_i 0), (0, q_r 18 0), (1, q_i a1)]) rfl (by decide) rfl ?_
  refine q_iconst (pc := 2) (v := 0) rfl (by decide) ?_
  refine q_istore_n (pc := 3) (ls1 := [(3, q_i 0), (2, q_i 0), (0, q_r 18 0), (1, q_i a1)]) rfl (by decide) rfl ?_
  obtain ⟨n8, k⟩ := k
  refine q_sub (pc := 4) (ks := [2, 3, 1, 0]) rfl ?_
  refine dl_X5_ruledSum_4 (fun y2_8 y3_8 g8 k => ?_) n8 _ _ _ k
  refine q_iload_n (pc := 56) rfl rfl ?_
  exact q_iret (pc := 57) rfl rfl ⟨_, rfl, k⟩
set_option maxHeartbeats 4000000 in
set_option maxRecDepth 100000 in
theorem dn_X5_ruled {d : Nat} {a1 : Int32} {h : q_H} {Q : Int32 → q_H → Prop} (k : wp_X5_ruled a1 h Q) : q_den (d + 6) 122 [q_r 18 0, q_i a1] h (q_ri Q) := by
  unfold wp_X5_ruled at k
  refine ⟨by decide, Nat.le_of_ble_eq_true rfl, ?_⟩
  show q_run (q_pcs q_t_X5_ruled) 5 2 none (q_den (d + 5)) 1 (q_ri Q) 0 [(0, q_r 18 0), (1, q_i a1)] [] h
  refine q_aload_n (pc := 0) rfl rfl ?_
  refine q_iload_n (pc := 1) rfl rfl ?_
  refine q_callV (pc := 2) (As := [q_i a1]) (rest := []) rfl rfl rfl (by decide) rfl rfl (Nat.le_of_ble_eq_true rfl) ?_
  refine q_den_mono _ _ _ _ _ _ ?_ (dn_X5_isPart (d := d + 3)  k)
  rintro _ g1 ⟨r2, rfl, k⟩
  refine q_if_ne (pc := 5) (tgt := 10) rfl (by decide) (fun z => ?_) (fun z => ?_)
  · have k := k.2 z
    refine q_aload_n (pc := 10) rfl rfl ?_
    refine q_callV (pc := 11) (As := []) (rest := []) rfl rfl rfl (by decide) rfl rfl (Nat.le_of_ble_eq_true rfl) ?_
    refine q_den_mono _ _ _ _ _ _ ?_ (dn_X5_wants (d := d + 3)  k)
    rintro _ g3 ⟨rfl, k⟩
    refine q_aload_n (pc := 14) rfl rfl ?_
    refine q_iload_n (pc := 15) rfl rfl ?_
    refine q_callV (pc := 16) (As := [q_i a1]) (rest := []) rfl rfl rfl (by decide) rfl rfl (Nat.le_of_ble_eq_true rfl) ?_
    refine q_den_mono _ _ _ _ _ _ ?_ (dn_X5_ruledSum (d := d)  k)
    rintro _ g4 ⟨r5, rfl, k⟩
    exact q_iret (pc := 19) rfl rfl ⟨_, rfl, k⟩
  · have k := k.1 z
    refine q_iconst (pc := 8) (v := (-1)) rfl (by decide) ?_
    exact q_iret (pc := 9) rfl rfl ⟨_, rfl, k⟩
set_option maxHeartbeats 4000000 in
set_option maxRecDepth 100000 in
theorem dl_X5_ruledState_34 {d : Nat} {x1 : Int32} {x2 : Int32} {E : Int32 → q_H → Prop} {Q : Int32 → q_H → Prop} (hE : ∀ (x3 : Int32) (h : q_H), E x3 h → q_run (q_pcs q_t_X5_ruledState) 5 4 none (q_den (d + 3)) 1 (q_ri Q) 55 [(0, q_r 18 0), (1, q_i x1), (2, q_i x2), (3, q_i x3)] [] h) : ∀ (n : Nat) (x3 : Int32) (h : q_H), lp_X5_ruledState_34 x1 x2 E n x3 h → q_run (q_pcs q_t_X5_ruledState) 5 4 none (q_den (d + 3)) 1 (q_ri Q) 34 [(0, q_r 18 0), (1, q_i x1), (2, q_i x2), (3, q_i x3)] [] h := by
  intro n
  induction n with
  | zero => intro x3 h k; exact k.elim
  | succ n ih =>
    intro x3 h k
    unfold lp_X5_ruledState_34 at k
    refine q_iload_n (pc := 34) rfl rfl ?_
    refine q_if_le (pc := 35) (tgt := 55) rfl (by decide) (fun z => ?_) (fun z => ?_)
    · have k := k.1 z
      refine q_sub (pc := 55) (ks := [0, 1, 2, 3]) rfl ?_
      exact hE _ _ k
    · have k := k.2 z
      refine q_aload_n (pc := 38) rfl rfl ?_
      refine q_iload_n (pc := 39) rfl rfl ?_
      refine q_iload_n (pc := 40) rfl rfl ?_
      refine q_iconst (pc := 41) (v := 1) rfl (by decide) ?_
      refine q_isub (pc := 42) rfl ?_
      refine q_callV (pc := 43) (As := [q_i x1, q_i (x3 - 1)]) (rest := []) rfl rfl rfl (by decide) rfl rfl (Nat.le_of_ble_eq_true rfl) ?_
      refine q_den_mono _ _ _ _ _ _ ?_ (dn_X5_isWanted (d := d + 2)  k)
      rintro _ g8 ⟨r9, rfl, k⟩
      refine q_if_ne (pc := 46) (tgt := 55) rfl (by decide) (fun z => ?_) (fun z => ?_)
      · have k := k.2 z
        refine q_sub (pc := 55) (ks := [0, 1, 2, 3]) rfl ?_
        exact hE _ _ k
      · have k := k.1 z
        refine q_iinc (pc := 49) (v := (x3 + (-1))) (ls1 := [(3, q_i (x3 + (-1))), (0, q_r 18 0), (1, q_i x1), (2, q_i x2)]) rfl (by decide) rfl (congrArg (fun z => x3 + z) (by decide : Int32.ofInt (-1) = (-1))) rfl ?_
        refine q_goto (pc := 52) (tgt := 34) rfl (by decide) ?_
        refine q_sub (pc := 34) (ks := [1, 2, 3, 0]) rfl ?_
        exact ih _ _ k
set_option maxHeartbeats 4000000 in
set_option maxRecDepth 100000 in
theorem dn_X5_ruledState {d : Nat} {a1 : Int32} {a2 : Int32} {h : q_H} {Q : Int32 → q_H → Prop} (k : wp_X5_ruledState a1 a2 h Q) : q_den (d + 4) 123 [q_r 18 0, q_i a1, q_i a2] h (q_ri Q) := by
  unfold wp_X5_ruledState at k
  refine ⟨by decide, Nat.le_of_ble_eq_true rfl, ?_⟩
  show q_run (q_pcs q_t_X5_ruledState) 5 4 none (q_den (d + 3)) 1 (q_ri Q) 0 [(0, q_r 18 0), (1, q_i a1), (2, q_i a2)] [] h
  refine q_aload_n (pc := 0) rfl rfl ?_
  refine q_iload_n (pc := 1) rfl rfl ?_
  refine q_callV (pc := 2) (As := [q_i a1]) (rest := []) rfl rfl rfl (by decide) rfl rfl (Nat.le_of_ble_eq_true rfl) ?_
  refine q_den_mono _ _ _ _ _ _ ?_ (dn_X5_isPart (d := d + 1)  k)
  rintro _ g1 ⟨r2, rfl, k⟩
  refine q_if_eq (pc := 5) (tgt := 15) rfl (by decide) (fun z => ?_) (fun z => ?_)
  · have k := k.1 z
    refine q_iconst (pc := 15) (v := (-1)) rfl (by decide) ?_
    exact q_iret (pc := 16) rfl rfl ⟨_, rfl, k⟩
  · have k := k.2 z
    refine q_iload_n (pc := 8) rfl rfl ?_
    refine q_callS (kd := 0) (pc := 9) (As := [q_i a2]) (rest := []) rfl rfl rfl  rfl (Nat.le_of_ble_eq_true rfl) ?_
    refine q_den_mono _ _ _ _ _ _ ?_ (dn_X5_isTick (d := d + 1)  k)
    rintro _ g3 ⟨r4, rfl, k⟩
    refine q_if_ne (pc := 12) (tgt := 17) rfl (by decide) (fun z => ?_) (fun z => ?_)
    · have k := k.2 z
      refine q_aload_n (pc := 17) rfl rfl ?_
      refine q_callV (pc := 18) (As := []) (rest := []) rfl rfl rfl (by decide) rfl rfl (Nat.le_of_ble_eq_true rfl) ?_
      refine q_den_mono _ _ _ _ _ _ ?_ (dn_X5_wants (d := d + 1)  k)
      rintro _ g5 ⟨rfl, k⟩
      refine q_aload_n (pc := 21) rfl rfl ?_
      refine q_iload_n (pc := 22) rfl rfl ?_
      refine q_iload_n (pc := 23) rfl rfl ?_
      refine q_callV (pc := 24) (As := [q_i a1, q_i a2]) (rest := []) rfl rfl rfl (by decide) rfl rfl (Nat.le_of_ble_eq_true rfl) ?_
      refine q_den_mono _ _ _ _ _ _ ?_ (dn_X5_isWanted (d := d + 2)  k)
      rintro _ g6 ⟨r7, rfl, k⟩
      refine q_if_eq (pc := 27) (tgt := 32) rfl (by decide) (fun z => ?_) (fun z => ?_)
      · have k := k.1 z
        refine q_iload_n (pc := 32) rfl rfl ?_
        refine q_istore_n (pc := 33) (ls1 := [(3, q_i a2), (0, q_r 18 0), (1, q_i a1), (2, q_i a2)]) rfl (by decide) rfl ?_
        obtain ⟨n10, k⟩ := k
        refine q_sub (pc := 34) (ks := [1, 2, 3, 0]) rfl ?_
        refine dl_X5_ruledState_34 (fun y3_10 g10 k => ?_) n10 _ _ k
        refine q_aload_n (pc := 55) rfl rfl ?_
        refine q_iload_n (pc := 56) rfl rfl ?_
        refine q_iload_n (pc := 57) rfl rfl ?_
        refine q_callV (pc := 58) (As := [q_i a1, q_i y3_10]) (rest := []) rfl rfl rfl (by decide) rfl rfl (Nat.le_of_ble_eq_true rfl) ?_
        refine q_den_mono _ _ _ _ _ _ ?_ (dn_X5_begins (d := d + 1)  k)
        rintro _ g11 ⟨r12, rfl, k⟩
        refine q_if_ne (pc := 61) (tgt := 66) rfl (by decide) (fun z => ?_) (fun z => ?_)
        · have k := k.2 z
          refine q_iload_n (pc := 66) rfl rfl ?_
          refine q_aload_n (pc := 67) rfl rfl ?_
          refine q_getI (pc := 68) rfl (by decide) rfl rfl rfl ?_
          refine q_isub (pc := 71) rfl ?_
          refine q_aload_n (pc := 72) rfl rfl ?_
          refine q_iload_n (pc := 73) rfl rfl ?_
          refine q_callV (pc := 74) (As := [q_i a1]) (rest := [q_i (a2 - (Prod.fst g11 18 0 14))]) rfl rfl rfl (by decide) rfl rfl (Nat.le_of_ble_eq_true rfl) ?_
          refine q_den_mono _ _ _ _ _ _ ?_ (dn_X5_rises (d := d)  k)
          rintro _ g13 ⟨r14, rfl, k⟩
          refine q_icmp_ge (pc := 77) (tgt := 94) rfl (by decide) (fun z => ?_) (fun z => ?_)
          · have k := k.1 z
            refine q_iconst (pc := 94) (v := 0) rfl (by decide) ?_
            exact q_iret (pc := 95) rfl rfl ⟨_, rfl, k⟩
          · have k := k.2 z
            refine q_aload_n (pc := 80) rfl rfl ?_
            refine q_iload_n (pc := 81) rfl rfl ?_
            refine q_iload_n (pc := 82) rfl rfl ?_
            refine q_aload_n (pc := 83) rfl rfl ?_
            refine q_getI (pc := 84) rfl (by decide) rfl rfl rfl ?_
            refine q_isub (pc := 87) rfl ?_
            refine q_callV (pc := 88) (As := [q_i a1, q_i (a2 - (Prod.fst g13 18 0 14))]) (rest := []) rfl rfl rfl (by decide) rfl rfl (Nat.le_of_ble_eq_true rfl) ?_
            refine q_den_mono _ _ _ _ _ _ ?_ (dn_X5_ruleState (d := d + 2)  k)
            rintro _ g15 ⟨r16, rfl, k⟩
            refine q_goto (pc := 91) (tgt := 95) rfl (by decide) ?_
            exact q_iret (pc := 95) rfl rfl ⟨_, rfl, k⟩
        · have k := k.1 z
          refine q_iconst (pc := 64) (v := (-1)) rfl (by decide) ?_
          exact q_iret (pc := 65) rfl rfl ⟨_, rfl, k⟩
      · have k := k.2 z
        refine q_iconst (pc := 30) (v := 0) rfl (by decide) ?_
        exact q_iret (pc := 31) rfl rfl ⟨_, rfl, k⟩
    · have k := k.1 z
      refine q_iconst (pc := 15) (v := (-1)) rfl (by decide) ?_
      exact q_iret (pc := 16) rfl rfl ⟨_, rfl, k⟩
