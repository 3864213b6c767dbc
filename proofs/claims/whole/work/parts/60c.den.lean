set_option maxHeartbeats 4000000 in
set_option maxRecDepth 100000 in
theorem dn_X4_state {d : Nat} {a1 : Int32} {a2 : Int32} {h : q_H} {Q : Int32 → q_H → Prop} (k : wp_X4_state a1 a2 h Q) : q_den (d + 4) 60 [q_r 0 0, q_i a1, q_i a2] h (q_ri Q) := by
  unfold wp_X4_state at k
  refine ⟨by decide, Nat.le_of_ble_eq_true rfl, ?_⟩
  show q_run (q_pcs q_t_X4_state) 4 7 none (q_den (d + 3)) 1 (q_ri Q) 0 [(0, q_r 0 0), (1, q_i a1), (2, q_i a2)] [] h
  refine q_aload_n (pc := 0) rfl rfl ?_
  refine q_iload_n (pc := 1) rfl rfl ?_
  refine q_callV (pc := 2) (As := [q_i a1]) (rest := []) rfl rfl rfl (by decide) rfl rfl (Nat.le_of_ble_eq_true rfl) ?_
  refine q_den_mono _ _ _ _ _ _ ?_ (dn_X4_isPart (d := d + 2)  k)
  rintro _ g1 ⟨r2, rfl, k⟩
  refine q_if_eq (pc := 5) (tgt := 15) rfl (by decide) (fun z => ?_) (fun z => ?_)
  · have k := k.1 z
    refine q_iconst (pc := 15) (v := (-1)) rfl (by decide) ?_
    exact q_iret (pc := 16) rfl rfl ⟨_, rfl, k⟩
  · have k := k.2 z
    refine q_iload_n (pc := 8) rfl rfl ?_
    refine q_callS (kd := 0) (pc := 9) (As := [q_i a2]) (rest := []) rfl rfl rfl  rfl (Nat.le_of_ble_eq_true rfl) ?_
    refine q_den_mono _ _ _ _ _ _ ?_ (dn_X4_isTick (d := d + 2)  k)
    rintro _ g3 ⟨r4, rfl, k⟩
    refine q_if_ne (pc := 12) (tgt := 17) rfl (by decide) (fun z => ?_) (fun z => ?_)
    · have k := k.2 z
      refine q_aload_n (pc := 17) rfl rfl ?_
      refine q_iload_n (pc := 18) rfl rfl ?_
      refine q_callV (pc := 19) (As := [q_i a1]) (rest := []) rfl rfl rfl (by decide) rfl rfl (Nat.le_of_ble_eq_true rfl) ?_
      refine q_den_mono _ _ _ _ _ _ ?_ (dn_X4_layOutIdle (d := d)  k)
      rintro _ g5 ⟨rfl, k⟩
      refine q_aload_n (pc := 22) rfl rfl ?_
      refine q_getR (pc := 23) rfl (by decide) rfl rfl rfl ?_
      refine q_iload_n (pc := 26) rfl rfl ?_
      refine q_callV (pc := 27) (As := [q_i a2]) (rest := []) rfl rfl rfl (by decide) rfl rfl (Nat.le_of_ble_eq_true rfl) ?_
      refine q_den_mono _ _ _ _ _ _ ?_ (dn_X2_find (d := d + 2)  k)
      rintro _ g6 ⟨r7, rfl, k⟩
      refine q_istore_n (pc := 30) (ls1 := [(3, q_i r7), (0, q_r 0 0), (1, q_i a1), (2, q_i a2)]) rfl (by decide) rfl ?_
      refine q_iload_n (pc := 31) rfl rfl ?_
      refine q_iconst (pc := 32) (v := (-1)) rfl (by decide) ?_
      refine q_icmp_ne (pc := 33) (tgt := 38) rfl (by decide) (fun z => ?_) (fun z => ?_)
      · have k := k.2 z
        refine q_aload_n (pc := 38) rfl rfl ?_
        refine q_getR (pc := 39) rfl (by decide) rfl rfl rfl ?_
        refine q_iload_n (pc := 42) rfl rfl ?_
        refine q_callV (pc := 43) (As := [q_i r7]) (rest := []) rfl rfl rfl (by decide) rfl rfl (Nat.le_of_ble_eq_true rfl) ?_
        refine q_den_mono _ _ _ _ _ _ ?_ (dn_X2_lenOf (d := d + 2)  k)
        rintro _ g8 ⟨r9, rfl, k⟩
        refine q_istore (pc := 46) (ls1 := [(4, q_i r9), (3, q_i r7), (0, q_r 0 0), (1, q_i a1), (2, q_i a2)]) rfl (by decide) rfl ?_
        refine q_aload_n (pc := 48) rfl rfl ?_
        refine q_getR (pc := 49) rfl (by decide) rfl rfl rfl ?_
        refine q_iload_n (pc := 52) rfl rfl ?_
        refine q_callV (pc := 53) (As := [q_i r7]) (rest := []) rfl rfl rfl (by decide) rfl rfl (Nat.le_of_ble_eq_true rfl) ?_
        refine q_den_mono _ _ _ _ _ _ ?_ (dn_X2_endsAll (d := d + 2)  k)
        rintro _ g10 ⟨r11, rfl, k⟩
        refine q_istore (pc := 56) (ls1 := [(5, q_i r11), (4, q_i r9), (3, q_i r7), (0, q_r 0 0), (1, q_i a1), (2, q_i a2)]) rfl (by decide) rfl ?_
        refine q_aload_n (pc := 58) rfl rfl ?_
        refine q_getR (pc := 59) rfl (by decide) rfl rfl rfl ?_
        refine q_iload_n (pc := 62) rfl rfl ?_
        obtain ⟨b12, k⟩ := k
        refine q_aaload (pc := 63) rfl (by decide) rfl rfl b12 ?_
        refine q_iload (pc := 64) rfl rfl ?_
        refine q_iload (pc := 66) rfl rfl ?_
        refine q_callV (pc := 68) (As := [q_i r9, q_i r11]) (rest := []) rfl rfl rfl (q_vin b12) rfl rfl (Nat.le_of_ble_eq_true rfl) ?_
        refine q_den_mono _ _ _ _ _ _ ?_ (dn_X1_bestState (d := d) (q_vin b12) k)
        rintro _ g13 ⟨r14, rfl, k⟩
        refine q_istore (pc := 71) (ls1 := [(6, q_i r14), (5, q_i r11), (4, q_i r9), (3, q_i r7), (0, q_r 0 0), (1, q_i a1), (2, q_i a2)]) rfl (by decide) rfl ?_
        refine q_iload_n (pc := 73) rfl rfl ?_
        refine q_aload_n (pc := 74) rfl rfl ?_
        refine q_getR (pc := 75) rfl (by decide) rfl rfl rfl ?_
        refine q_iload_n (pc := 78) rfl rfl ?_
        refine q_callV (pc := 79) (As := [q_i r7]) (rest := [q_i a2]) rfl rfl rfl (by decide) rfl rfl (Nat.le_of_ble_eq_true rfl) ?_
        refine q_den_mono _ _ _ _ _ _ ?_ (dn_X2_firstOf (d := d + 2)  k)
        rintro _ g15 ⟨r16, rfl, k⟩
        refine q_isub (pc := 82) rfl ?_
        refine q_aload_n (pc := 83) rfl rfl ?_
        refine q_getR (pc := 84) rfl (by decide) rfl rfl rfl ?_
        refine q_iload_n (pc := 87) rfl rfl ?_
        obtain ⟨b17, k⟩ := k
        refine q_aaload (pc := 88) rfl (by decide) rfl rfl b17 ?_
        refine q_iload (pc := 89) rfl rfl ?_
        refine q_iload (pc := 91) rfl rfl ?_
        refine q_iload (pc := 93) rfl rfl ?_
        refine q_callV (pc := 95) (As := [q_i r14, q_i r9, q_i r11]) (rest := [q_i (a2 - r16)]) rfl rfl rfl (q_vin b17) rfl rfl (Nat.le_of_ble_eq_true rfl) ?_
        refine q_den_mono _ _ _ _ _ _ ?_ (dn_X1_restIn (d := d + 2) (q_vin b17) k)
        rintro _ g18 ⟨r19, rfl, k⟩
        refine q_icmp_ge (pc := 98) (tgt := 106) rfl (by decide) (fun z => ?_) (fun z => ?_)
        · have k := k.1 z
          refine q_iconst (pc := 106) (v := 0) rfl (by decide) ?_
          exact q_iret (pc := 107) rfl rfl ⟨_, rfl, k⟩
        · have k := k.2 z
          refine q_iload (pc := 101) rfl rfl ?_
          refine q_goto (pc := 103) (tgt := 107) rfl (by decide) ?_
          exact q_iret (pc := 107) rfl rfl ⟨_, rfl, k⟩
      · have k := k.1 z
        refine q_iconst (pc := 36) (v := 0) rfl (by decide) ?_
        exact q_iret (pc := 37) rfl rfl ⟨_, rfl, k⟩
    · have k := k.1 z
      refine q_iconst (pc := 15) (v := (-1)) rfl (by decide) ?_
      exact q_iret (pc := 16) rfl rfl ⟨_, rfl, k⟩
set_option maxHeartbeats 4000000 in
set_option maxRecDepth 100000 in
theorem dn_X4_ruledState {d : Nat} {a1 : Int32} {a2 : Int32} {h : q_H} {Q : Int32 → q_H → Prop} (k : wp_X4_ruledState a1 a2 h Q) : q_den (d + 4) 61 [q_r 0 0, q_i a1, q_i a2] h (q_ri Q) := by
  unfold wp_X4_ruledState at k
  refine ⟨by decide, Nat.le_of_ble_eq_true rfl, ?_⟩
  show q_run (q_pcs q_t_X4_ruledState) 4 6 none (q_den (d + 3)) 1 (q_ri Q) 0 [(0, q_r 0 0), (1, q_i a1), (2, q_i a2)] [] h
  refine q_aload_n (pc := 0) rfl rfl ?_
  refine q_iload_n (pc := 1) rfl rfl ?_
  refine q_callV (pc := 2) (As := [q_i a1]) (rest := []) rfl rfl rfl (by decide) rfl rfl (Nat.le_of_ble_eq_true rfl) ?_
  refine q_den_mono _ _ _ _ _ _ ?_ (dn_X4_isPart (d := d + 2)  k)
  rintro _ g1 ⟨r2, rfl, k⟩
  refine q_if_eq (pc := 5) (tgt := 15) rfl (by decide) (fun z => ?_) (fun z => ?_)
  · have k := k.1 z
    refine q_iconst (pc := 15) (v := (-1)) rfl (by decide) ?_
    exact q_iret (pc := 16) rfl rfl ⟨_, rfl, k⟩
  · have k := k.2 z
    refine q_iload_n (pc := 8) rfl rfl ?_
    refine q_callS (kd := 0) (pc := 9) (As := [q_i a2]) (rest := []) rfl rfl rfl  rfl (Nat.le_of_ble_eq_true rfl) ?_
    refine q_den_mono _ _ _ _ _ _ ?_ (dn_X4_isTick (d := d + 2)  k)
    rintro _ g3 ⟨r4, rfl, k⟩
    refine q_if_ne (pc := 12) (tgt := 17) rfl (by decide) (fun z => ?_) (fun z => ?_)
    · have k := k.2 z
      refine q_aload_n (pc := 17) rfl rfl ?_
      refine q_iload_n (pc := 18) rfl rfl ?_
      refine q_callV (pc := 19) (As := [q_i a1]) (rest := []) rfl rfl rfl (by decide) rfl rfl (Nat.le_of_ble_eq_true rfl) ?_
      refine q_den_mono _ _ _ _ _ _ ?_ (dn_X4_layOutIdle (d := d)  k)
      rintro _ g5 ⟨rfl, k⟩
      refine q_aload_n (pc := 22) rfl rfl ?_
      refine q_getR (pc := 23) rfl (by decide) rfl rfl rfl ?_
      refine q_iload_n (pc := 26) rfl rfl ?_
      refine q_callV (pc := 27) (As := [q_i a2]) (rest := []) rfl rfl rfl (by decide) rfl rfl (Nat.le_of_ble_eq_true rfl) ?_
      refine q_den_mono _ _ _ _ _ _ ?_ (dn_X2_find (d := d + 2)  k)
      rintro _ g6 ⟨r7, rfl, k⟩
      refine q_istore_n (pc := 30) (ls1 := [(3, q_i r7), (0, q_r 0 0), (1, q_i a1), (2, q_i a2)]) rfl (by decide) rfl ?_
      refine q_iload_n (pc := 31) rfl rfl ?_
      refine q_iconst (pc := 32) (v := (-1)) rfl (by decide) ?_
      refine q_icmp_ne (pc := 33) (tgt := 38) rfl (by decide) (fun z => ?_) (fun z => ?_)
      · have k := k.2 z
        refine q_iload_n (pc := 38) rfl rfl ?_
        refine q_aload_n (pc := 39) rfl rfl ?_
        refine q_getR (pc := 40) rfl (by decide) rfl rfl rfl ?_
        refine q_iload_n (pc := 43) rfl rfl ?_
        refine q_callV (pc := 44) (As := [q_i r7]) (rest := [q_i a2]) rfl rfl rfl (by decide) rfl rfl (Nat.le_of_ble_eq_true rfl) ?_
        refine q_den_mono _ _ _ _ _ _ ?_ (dn_X2_firstOf (d := d + 2)  k)
        rintro _ g8 ⟨r9, rfl, k⟩
        refine q_isub (pc := 47) rfl ?_
        refine q_istore (pc := 48) (ls1 := [(4, q_i (a2 - r9)), (3, q_i r7), (0, q_r 0 0), (1, q_i a1), (2, q_i a2)]) rfl (by decide) rfl ?_
        refine q_iload (pc := 50) rfl rfl ?_
        refine q_aload_n (pc := 52) rfl rfl ?_
        refine q_getR (pc := 53) rfl (by decide) rfl rfl rfl ?_
        refine q_iload_n (pc := 56) rfl rfl ?_
        obtain ⟨b10, k⟩ := k
        refine q_aaload (pc := 57) rfl (by decide) rfl rfl b10 ?_
        refine q_aload_n (pc := 58) rfl rfl ?_
        refine q_getR (pc := 59) rfl (by decide) rfl rfl rfl ?_
        refine q_iload_n (pc := 62) rfl rfl ?_
        refine q_callV (pc := 63) (As := [q_i r7]) (rest := [q_r 2 (Int32.toNatClampNeg a1), q_i (a2 - r9)]) rfl rfl rfl (by decide) rfl rfl (Nat.le_of_ble_eq_true rfl) ?_
        refine q_den_mono _ _ _ _ _ _ ?_ (dn_X2_lenOf (d := d + 2)  k)
        rintro _ g11 ⟨r12, rfl, k⟩
        refine q_aload_n (pc := 66) rfl rfl ?_
        refine q_getR (pc := 67) rfl (by decide) rfl rfl rfl ?_
        refine q_iload_n (pc := 70) rfl rfl ?_
        refine q_callV (pc := 71) (As := [q_i r7]) (rest := [q_i r12, q_r 2 (Int32.toNatClampNeg a1), q_i (a2 - r9)]) rfl rfl rfl (by decide) rfl rfl (Nat.le_of_ble_eq_true rfl) ?_
        refine q_den_mono _ _ _ _ _ _ ?_ (dn_X2_endsAll (d := d + 2)  k)
        rintro _ g13 ⟨r14, rfl, k⟩
        refine q_callV (pc := 74) (As := [q_i r12, q_i r14]) (rest := [q_i (a2 - r9)]) rfl rfl rfl (q_vin b10) rfl rfl (Nat.le_of_ble_eq_true rfl) ?_
        refine q_den_mono _ _ _ _ _ _ ?_ (dn_X1_restByRule (d := d + 2) (q_vin b10) k)
        rintro _ g15 ⟨r16, rfl, k⟩
        refine q_icmp_ge (pc := 77) (tgt := 84) rfl (by decide) (fun z => ?_) (fun z => ?_)
        · have k := k.1 z
          refine q_iconst (pc := 84) (v := 0) rfl (by decide) ?_
          refine q_istore (pc := 85) (ls1 := [(5, q_i 0), (4, q_i (a2 - r9)), (3, q_i r7), (0, q_r 0 0), (1, q_i a1), (2, q_i a2)]) rfl (by decide) rfl ?_
          refine q_iload (pc := 87) rfl rfl ?_
          refine q_if_eq (pc := 89) (tgt := 106) rfl (by decide) (fun _ => ?_) (fun z => absurd z (by decide))
          refine q_iconst (pc := 106) (v := 0) rfl (by decide) ?_
          exact q_iret (pc := 107) rfl rfl ⟨_, rfl, k⟩
        · have k := k.2 z
          refine q_iconst (pc := 80) (v := 1) rfl (by decide) ?_
          refine q_goto (pc := 81) (tgt := 85) rfl (by decide) ?_
          refine q_istore (pc := 85) (ls1 := [(5, q_i 1), (4, q_i (a2 - r9)), (3, q_i r7), (0, q_r 0 0), (1, q_i a1), (2, q_i a2)]) rfl (by decide) rfl ?_
          refine q_iload (pc := 87) rfl rfl ?_
          refine q_if_eq (pc := 89) (tgt := 106) rfl (by decide) (fun z => absurd z (by decide)) (fun _ => ?_)
          refine q_aload_n (pc := 92) rfl rfl ?_
          refine q_getR (pc := 93) rfl (by decide) rfl rfl rfl ?_
          refine q_iload_n (pc := 96) rfl rfl ?_
          obtain ⟨b17, k⟩ := k
          refine q_aaload (pc := 97) rfl (by decide) rfl rfl b17 ?_
          refine q_iload (pc := 98) rfl rfl ?_
          refine q_callV (pc := 100) (As := [q_i (a2 - r9)]) (rest := []) rfl rfl rfl (q_vin b17) rfl rfl (Nat.le_of_ble_eq_true rfl) ?_
          refine q_den_mono _ _ _ _ _ _ ?_ (dn_X1_stateByRule (d := d + 2) (q_vin b17) k)
          rintro _ g18 ⟨r19, rfl, k⟩
          refine q_goto (pc := 103) (tgt := 107) rfl (by decide) ?_
          exact q_iret (pc := 107) rfl rfl ⟨_, rfl, k⟩
      · have k := k.1 z
        refine q_iconst (pc := 36) (v := 0) rfl (by decide) ?_
        exact q_iret (pc := 37) rfl rfl ⟨_, rfl, k⟩
    · have k := k.1 z
      refine q_iconst (pc := 15) (v := (-1)) rfl (by decide) ?_
      exact q_iret (pc := 16) rfl rfl ⟨_, rfl, k⟩
set_option maxHeartbeats 4000000 in
set_option maxRecDepth 100000 in
theorem dl_X4_drainOfAll_4 {d : Nat} {w : Nat} (hw : w < 2) {E : Int32 → Int32 → q_H → Prop} {Q : Int32 → q_H → Prop} (hE : ∀ (x2 : Int32) (x3 : Int32) (h : q_H), E x2 x3 h → q_run (q_pcs q_t_X4_drainOfAll) 4 4 none (q_den (d + 5)) 1 (q_ri Q) 31 [(0, q_r 0 0), (1, q_r 13 w), (2, q_i x2), (3, q_i x3)] [] h) : ∀ (n : Nat) (x2 : Int32) (x3 : Int32) (h : q_H), lp_X4_drainOfAll_4 w E n x2 x3 h → q_run (q_pcs q_t_X4_drainOfAll) 4 4 none (q_den (d + 5)) 1 (q_ri Q) 4 [(0, q_r 0 0), (1, q_r 13 w), (2, q_i x2), (3, q_i x3)] [] h := by
  intro n
  induction n with
  | zero => intro x2 x3 h k; exact k.elim
  | succ n ih =>
    intro x2 x3 h k
    unfold lp_X4_drainOfAll_4 at k
    refine q_iload_n (pc := 4) rfl rfl ?_
    refine q_aload_n (pc := 5) rfl rfl ?_
    refine q_getI (pc := 6) rfl (by decide) rfl rfl rfl ?_
    refine q_icmp_ge (pc := 9) (tgt := 31) rfl (by decide) (fun z => ?_) (fun z => ?_)
    · have k := k.1 z
      refine q_sub (pc := 31) (ks := [0, 1, 2, 3]) rfl ?_
      exact hE _ _ _ k
    · have k := k.2 z
      refine q_iload_n (pc := 12) rfl rfl ?_
      refine q_aload_n (pc := 13) rfl rfl ?_
      refine q_iload_n (pc := 14) rfl rfl ?_
      refine q_aload_n (pc := 15) rfl rfl ?_
      refine q_iload_n (pc := 16) rfl rfl ?_
      refine q_callV (pc := 17) (As := [q_i x3]) (rest := [q_i x3, q_r 0 0, q_i x2]) rfl rfl rfl hw rfl rfl (Nat.le_of_ble_eq_true rfl) ?_
      refine q_den_mono _ _ _ _ _ _ ?_ (dn_X3_ticksOf (d := d + 3) hw k)
      rintro _ g1 ⟨r2, rfl, k⟩
      refine q_callV (pc := 20) (As := [q_i x3, q_l r2]) (rest := [q_i x2]) rfl rfl rfl (by decide) rfl rfl (Nat.le_of_ble_eq_true rfl) ?_
      refine q_den_mono _ _ _ _ _ _ ?_ (dn_X4_drainInPlan (d := d)  k)
      rintro _ g3 ⟨r4, rfl, k⟩
      refine q_iadd (pc := 23) rfl ?_
      refine q_istore_n (pc := 24) (ls1 := [(2, q_i (x2 + r4)), (0, q_r 0 0), (1, q_r 13 w), (3, q_i x3)]) rfl (by decide) rfl ?_
      refine q_iinc (pc := 25) (v := (x3 + 1)) (ls1 := [(3, q_i (x3 + 1)), (2, q_i (x2 + r4)), (0, q_r 0 0), (1, q_r 13 w)]) rfl (by decide) rfl (congrArg (fun z => x3 + z) (by decide : Int32.ofInt 1 = 1)) rfl ?_
      refine q_goto (pc := 28) (tgt := 4) rfl (by decide) ?_
      refine q_sub (pc := 4) (ks := [2, 3, 1, 0]) rfl ?_
      exact ih _ _ _ k
set_option maxHeartbeats 4000000 in
set_option maxRecDepth 100000 in
theorem dn_X4_drainOfAll {d : Nat} {w : Nat} (hw : w < 2) {h : q_H} {Q : Int32 → q_H → Prop} (k : wp_X4_drainOfAll w h Q) : q_den (d + 6) 81 [q_r 0 0, q_r 13 w] h (q_ri Q) := by
  unfold wp_X4_drainOfAll at k
  refine ⟨by decide, Nat.le_of_ble_eq_true rfl, ?_⟩
  show q_run (q_pcs q_t_X4_drainOfAll) 4 4 none (q_den (d + 5)) 1 (q_ri Q) 0 [(0, q_r 0 0), (1, q_r 13 w)] [] h
  refine q_iconst (pc := 0) (v := 0) rfl (by decide) ?_
  refine q_istore_n (pc := 1) (ls1 := [(2, q_i 0), (0, q_r 0 0), (1, q_r 13 w)]) rfl (by decide) rfl ?_
  refine q_iconst (pc := 2) (v := 0) rfl (by decide) ?_
  refine q_istore_n (pc := 3) (ls1 := [(3, q_i 0), (2, q_i 0), (0, q_r 0 0), (1, q_r 13 w)]) rfl (by decide) rfl ?_
  obtain ⟨n5, k⟩ := k
  refine q_sub (pc := 4) (ks := [2, 3, 1, 0]) rfl ?_
  refine dl_X4_drainOfAll_4 hw (fun y2_5 y3_5 g5 k => ?_) n5 _ _ _ k
  refine q_iload_n (pc := 31) rfl rfl ?_
  exact q_iret (pc := 32) rfl rfl ⟨_, rfl, k⟩
set_option maxHeartbeats 4000000 in
set_option maxRecDepth 100000 in
theorem dn_X4_all {d : Nat} {h : q_H} {Q : Int32 → q_H → Prop} (k : wp_X4_all h Q) : q_den (d + 7) 62 [q_r 0 0] h (q_ri Q) := by
  unfold wp_X4_all at k
  refine ⟨by decide, Nat.le_of_ble_eq_true rfl, ?_⟩
  show q_run (q_pcs q_t_X4_all) 4 1 none (q_den (d + 6)) 1 (q_ri Q) 0 [(0, q_r 0 0)] [] h
  refine q_aload_n (pc := 0) rfl rfl ?_
  refine q_aload_n (pc := 1) rfl rfl ?_
  refine q_getR (pc := 2) rfl (by decide) rfl rfl rfl ?_
  refine q_callV (pc := 5) (As := [q_r 13 0]) (rest := []) rfl rfl rfl (by decide) rfl rfl (Nat.le_of_ble_eq_true rfl) ?_
  refine q_den_mono _ _ _ _ _ _ ?_ (dn_X4_drainOfAll (d := d) (by decide) k)
  rintro _ g1 ⟨r2, rfl, k⟩
  exact q_iret (pc := 8) rfl rfl ⟨_, rfl, k⟩
set_option maxHeartbeats 4000000 in
set_option maxRecDepth 100000 in
theorem dn_X4_without {d : Nat} {a1 : Int32} {h : q_H} {Q : Int32 → q_H → Prop} (k : wp_X4_without a1 h Q) : q_den (d + 7) 63 [q_r 0 0, q_i a1] h (q_ri Q) := by
  unfold wp_X4_without at k
  refine ⟨by decide, Nat.le_of_ble_eq_true rfl, ?_⟩
  show q_run (q_pcs q_t_X4_without) 4 2 none (q_den (d + 6)) 1 (q_ri Q) 0 [(0, q_r 0 0), (1, q_i a1)] [] h
  refine q_aload_n (pc := 0) rfl rfl ?_
  refine q_getR (pc := 1) rfl (by decide) rfl rfl rfl ?_
  refine q_iload_n (pc := 4) rfl rfl ?_
  refine q_callV (pc := 5) (As := [q_i a1]) (rest := []) rfl rfl rfl (by decide) rfl rfl (Nat.le_of_ble_eq_true rfl) ?_
  refine q_den_mono _ _ _ _ _ _ ?_ (dn_X0_has (d := d + 5) (by decide) k)
  rintro _ g1 ⟨r2, rfl, k⟩
  refine q_if_ne (pc := 8) (tgt := 14) rfl (by decide) (fun z => ?_) (fun z => ?_)
  · have k := k.2 z
    refine q_aload_n (pc := 14) rfl rfl ?_
    refine q_aload_n (pc := 15) rfl rfl ?_
    refine q_getR (pc := 16) rfl (by decide) rfl rfl rfl ?_
    refine q_iload_n (pc := 19) rfl rfl ?_
    refine q_callV (pc := 20) (As := [q_r 13 1, q_i a1]) (rest := []) rfl rfl rfl (by decide) rfl rfl (Nat.le_of_ble_eq_true rfl) ?_
    refine q_den_mono _ _ _ _ _ _ ?_ (dn_X4_gatherWants (d := d + 2) (by decide) k)
    rintro _ g3 ⟨rfl, k⟩
    refine q_aload_n (pc := 23) rfl rfl ?_
    refine q_aload_n (pc := 24) rfl rfl ?_
    refine q_getR (pc := 25) rfl (by decide) rfl rfl rfl ?_
    refine q_callV (pc := 28) (As := [q_r 13 0]) (rest := []) rfl rfl rfl (by decide) rfl rfl (Nat.le_of_ble_eq_true rfl) ?_
    refine q_den_mono _ _ _ _ _ _ ?_ (dn_X4_drainOfAll (d := d) (by decide) k)
    rintro _ g4 ⟨r5, rfl, k⟩
    refine q_aload_n (pc := 31) rfl rfl ?_
    refine q_aload_n (pc := 32) rfl rfl ?_
    refine q_getR (pc := 33) rfl (by decide) rfl rfl rfl ?_
    refine q_callV (pc := 36) (As := [q_r 13 1]) (rest := [q_i r5]) rfl rfl rfl (by decide) rfl rfl (Nat.le_of_ble_eq_true rfl) ?_
    refine q_den_mono _ _ _ _ _ _ ?_ (dn_X4_drainOfAll (d := d) (by decide) k)
    rintro _ g6 ⟨r7, rfl, k⟩
    refine q_isub (pc := 39) rfl ?_
    exact q_iret (pc := 40) rfl rfl ⟨_, rfl, k⟩
  · have k := k.1 z
    refine q_ldc (pc := 11) (v := (-100001)) rfl rfl ?_
    exact q_iret (pc := 13) rfl rfl ⟨_, rfl, k⟩
set_option maxHeartbeats 4000000 in
set_option maxRecDepth 100000 in
theorem dn_X4_drainInSpans {d : Nat} {a1 : Int32} {h : q_H} {Q : Int32 → q_H → Prop} (k : wp_X4_drainInSpans a1 h Q) : q_den (d + 5) 80 [q_r 0 0, q_i a1] h (q_ri Q) := by
  unfold wp_X4_drainInSpans at k
  refine ⟨by decide, Nat.le_of_ble_eq_true rfl, ?_⟩
  show q_run (q_pcs q_t_X4_drainInSpans) 4 2 none (q_den (d + 4)) 1 (q_ri Q) 0 [(0, q_r 0 0), (1, q_i a1)] [] h
  refine q_aload_n (pc := 0) rfl rfl ?_
  refine q_iload_n (pc := 1) rfl rfl ?_
  refine q_callV (pc := 2) (As := [q_i a1]) (rest := []) rfl rfl rfl (by decide) rfl rfl (Nat.le_of_ble_eq_true rfl) ?_
  refine q_den_mono _ _ _ _ _ _ ?_ (dn_X4_layOutIdle (d := d + 1)  k)
  rintro _ g1 ⟨rfl, k⟩
  refine q_aload_n (pc := 5) rfl rfl ?_
  refine q_getR (pc := 6) rfl (by decide) rfl rfl rfl ?_
  refine q_iload_n (pc := 9) rfl rfl ?_
  obtain ⟨b2, k⟩ := k
  refine q_aaload (pc := 10) rfl (by decide) rfl rfl b2 ?_
  refine q_aload_n (pc := 11) rfl rfl ?_
  refine q_getR (pc := 12) rfl (by decide) rfl rfl rfl ?_
  refine q_callV (pc := 15) (As := [q_r 15 0]) (rest := []) rfl rfl rfl (q_vin b2) rfl rfl (Nat.le_of_ble_eq_true rfl) ?_
  refine q_den_mono _ _ _ _ _ _ ?_ (dn_X1_planned (d := d) (q_vin b2) k)
  rintro _ g3 ⟨r4, rfl, k⟩
  exact q_iret (pc := 18) rfl rfl ⟨_, rfl, k⟩
set_option maxHeartbeats 4000000 in
set_option maxRecDepth 100000 in
theorem dl_X4_blameIn_16 {d : Nat} {x1 : Int32} {x4 : Int64} {E : Int32 → Int32 → q_H → Prop} {Q : Int32 → q_H → Prop} (hE : ∀ (x3 : Int32) (x6 : Int32) (h : q_H), E x3 x6 h → q_run (q_pcs q_t_X4_blameIn) 4 8 none (q_den (d + 2)) 1 (q_ri Q) 69 [(0, q_r 0 0), (1, q_i x1), (3, q_i x3), (4, q_l x4), (6, q_i x6)] [] h) : ∀ (n : Nat) (x3 : Int32) (x6 : Int32) (h : q_H), lp_X4_blameIn_16 x1 x4 E n x3 x6 h → q_run (q_pcs q_t_X4_blameIn) 4 8 none (q_den (d + 2)) 1 (q_ri Q) 16 [(0, q_r 0 0), (1, q_i x1), (3, q_i x3), (4, q_l x4), (6, q_i x6)] [] h := by
  intro n
  induction n with
  | zero => intro x3 x6 h k; exact k.elim
  | succ n ih =>
    intro x3 x6 h k
    unfold lp_X4_blameIn_16 at k
    refine q_iload (pc := 16) rfl rfl ?_
    refine q_bipush (pc := 18) (v := 64) rfl (by decide) ?_
    refine q_icmp_ge (pc := 20) (tgt := 69) rfl (by decide) (fun z => ?_) (fun z => ?_)
    · have k := k.1 z
      refine q_sub (pc := 69) (ks := [0, 1, 2, 3, 4]) rfl ?_
      exact hE _ _ _ k
    · have k := k.2 z
      refine q_lload (pc := 23) rfl rfl ?_
      refine q_iload (pc := 25) rfl rfl ?_
      refine q_callS (kd := 0) (pc := 27) (As := [q_l x4, q_i x6]) (rest := []) rfl rfl rfl  rfl (Nat.le_of_ble_eq_true rfl) ?_
      refine q_den_mono _ _ _ _ _ _ ?_ (dn_X4_hasTick (d := d + 1)  k)
      rintro _ g3 ⟨r4, rfl, k⟩
      refine q_if_eq (pc := 30) (tgt := 63) rfl (by decide) (fun z => ?_) (fun z => ?_)
      · have k := k.1 z
        refine q_iinc (pc := 63) (v := (x6 + 1)) (ls1 := [(6, q_i (x6 + 1)), (0, q_r 0 0), (1, q_i x1), (3, q_i x3), (4, q_l x4)]) rfl (by decide) rfl (congrArg (fun z => x6 + z) (by decide : Int32.ofInt 1 = 1)) rfl ?_
        refine q_goto (pc := 66) (tgt := 16) rfl (by decide) ?_
        refine q_sub (pc := 16) (ks := [1, 2, 3, 4, 0]) rfl ?_
        exact ih _ _ _ k
      · have k := k.2 z
        refine q_aload_n (pc := 33) rfl rfl ?_
        refine q_getR (pc := 34) rfl (by decide) rfl rfl rfl ?_
        refine q_iload_n (pc := 37) rfl rfl ?_
        refine q_iload (pc := 38) rfl rfl ?_
        refine q_callV (pc := 40) (As := [q_i x1, q_i x6]) (rest := []) rfl rfl rfl (by decide) rfl rfl (Nat.le_of_ble_eq_true rfl) ?_
        refine q_den_mono _ _ _ _ _ _ ?_ (dn_X3_programsAt (d := d) (by decide) k)
        rintro _ g5 ⟨r6, rfl, k⟩
        refine q_istore (pc := 43) (ls1 := [(7, q_i r6), (0, q_r 0 0), (1, q_i x1), (3, q_i x3), (4, q_l x4), (6, q_i x6)]) rfl (by decide) rfl ?_
        refine q_iload_n (pc := 45) rfl rfl ?_
        refine q_iload (pc := 46) rfl rfl ?_
        refine q_if_le (pc := 48) (tgt := 60) rfl (by decide) (fun z => ?_) (fun z => ?_)
        · have k := k.1 z
          refine q_iconst (pc := 60) (v := 0) rfl (by decide) ?_
          refine q_iadd (pc := 61) rfl ?_
          refine q_istore_n (pc := 62) (ls1 := [(3, q_i (x3 + 0)), (7, q_i r6), (0, q_r 0 0), (1, q_i x1), (4, q_l x4), (6, q_i x6)]) rfl (by decide) rfl ?_
          refine q_iinc (pc := 63) (v := (x6 + 1)) (ls1 := [(6, q_i (x6 + 1)), (3, q_i (x3 + 0)), (7, q_i r6), (0, q_r 0 0), (1, q_i x1), (4, q_l x4)]) rfl (by decide) rfl (congrArg (fun z => x6 + z) (by decide : Int32.ofInt 1 = 1)) rfl ?_
          refine q_goto (pc := 66) (tgt := 16) rfl (by decide) ?_
          refine q_sub (pc := 16) (ks := [3, 4, 1, 5, 0]) rfl ?_
          exact ih _ _ _ k
        · have k := k.2 z
          refine q_sipush (pc := 51) (v := 840) rfl (by decide) ?_
          refine q_iload (pc := 54) rfl rfl ?_
          obtain ⟨b7, k⟩ := k
          refine q_idiv (pc := 56) rfl b7 ?_
          refine q_goto (pc := 57) (tgt := 61) rfl (by decide) ?_
          refine q_iadd (pc := 61) rfl ?_
          refine q_istore_n (pc := 62) (ls1 := [(3, q_i (x3 + (840 / r6))), (7, q_i r6), (0, q_r 0 0), (1, q_i x1), (4, q_l x4), (6, q_i x6)]) rfl (by decide) rfl ?_
          refine q_iinc (pc := 63) (v := (x6 + 1)) (ls1 := [(6, q_i (x6 + 1)), (3, q_i (x3 + (840 / r6))), (7, q_i r6), (0, q_r 0 0), (1, q_i x1), (4, q_l x4)]) rfl (by decide) rfl (congrArg (fun z => x6 + z) (by decide : Int32.ofInt 1 = 1)) rfl ?_
          refine q_goto (pc := 66) (tgt := 16) rfl (by decide) ?_
          refine q_sub (pc := 16) (ks := [3, 4, 1, 5, 0]) rfl ?_
          exact ih _ _ _ k
set_option maxHeartbeats 4000000 in
set_option maxRecDepth 100000 in
theorem dn_X4_blameIn {d : Nat} {a1 : Int32} {a2 : Int32} {h : q_H} {Q : Int32 → q_H → Prop} (k : wp_X4_blameIn a1 a2 h Q) : q_den (d + 3) 82 [q_r 0 0, q_i a1, q_i a2] h (q_ri Q) := by
  unfold wp_X4_blameIn at k
  refine ⟨by decide, Nat.le_of_ble_eq_true rfl, ?_⟩
  show q_run (q_pcs q_t_X4_blameIn) 4 8 none (q_den (d + 2)) 1 (q_ri Q) 0 [(0, q_r 0 0), (1, q_i a1), (2, q_i a2)] [] h
  refine q_iconst (pc := 0) (v := 0) rfl (by decide) ?_
  refine q_istore_n (pc := 1) (ls1 := [(3, q_i 0), (0, q_r 0 0), (1, q_i a1), (2, q_i a2)]) rfl (by decide) rfl ?_
  refine q_aload_n (pc := 2) rfl rfl ?_
  refine q_getR (pc := 3) rfl (by decide) rfl rfl rfl ?_
  refine q_iload_n (pc := 6) rfl rfl ?_
  refine q_iload_n (pc := 7) rfl rfl ?_
  refine q_callV (pc := 8) (As := [q_i a2, q_i a1]) (rest := []) rfl rfl rfl (by decide) rfl rfl (Nat.le_of_ble_eq_true rfl) ?_
  refine q_den_mono _ _ _ _ _ _ ?_ (dn_X3_ticksBy (d := d + 1) (by decide) k)
  rintro _ g1 ⟨r2, rfl, k⟩
  refine q_lstore (pc := 11) (ls1 := [(4, q_l r2), (3, q_i 0), (0, q_r 0 0), (1, q_i a1), (2, q_i a2)]) rfl (by decide) rfl ?_
  refine q_iconst (pc := 13) (v := 0) rfl (by decide) ?_
  refine q_istore (pc := 14) (ls1 := [(6, q_i 0), (4, q_l r2), (3, q_i 0), (0, q_r 0 0), (1, q_i a1), (2, q_i a2)]) rfl (by decide) rfl ?_
  obtain ⟨n8, k⟩ := k
  refine q_sub (pc := 16) (ks := [3, 4, 2, 1, 0]) rfl ?_
  refine dl_X4_blameIn_16 (fun y3_8 y6_8 g8 k => ?_) n8 _ _ _ k
  refine q_iload_n (pc := 69) rfl rfl ?_
  refine q_aload_n (pc := 70) rfl rfl ?_
  refine q_getR (pc := 71) rfl (by decide) rfl rfl rfl ?_
  refine q_iload_n (pc := 74) rfl rfl ?_
  obtain ⟨b9, k⟩ := k
  refine q_aaload (pc := 75) rfl (by decide) rfl rfl b9 ?_
  refine q_iconst (pc := 76) (v := 0) rfl (by decide) ?_
  refine q_callV (pc := 77) (As := [q_i 0]) (rest := [q_i y3_8]) rfl rfl rfl (q_vin b9) rfl rfl (Nat.le_of_ble_eq_true rfl) ?_
  refine q_den_mono _ _ _ _ _ _ ?_ (dn_X1_drainIn (d := d + 1) (q_vin b9) k)
  rintro _ g10 ⟨r11, rfl, k⟩
  refine q_imul (pc := 80) rfl ?_
  exact q_iret (pc := 81) rfl rfl ⟨_, rfl, k⟩
set_option maxHeartbeats 4000000 in
set_option maxRecDepth 100000 in
theorem dl_X4_blame_19 {d : Nat} {x1 : Int32} {E : Int32 → Int32 → q_H → Prop} {Q : Int32 → q_H → Prop} (hE : ∀ (x2 : Int32) (x3 : Int32) (h : q_H), E x2 x3 h → q_run (q_pcs q_t_X4_blame) 4 4 none (q_den (d + 5)) 1 (q_ri Q) 60 [(0, q_r 0 0), (1, q_i x1), (2, q_i x2), (3, q_i x3)] [] h) : ∀ (n : Nat) (x2 : Int32) (x3 : Int32) (h : q_H), lp_X4_blame_19 x1 E n x2 x3 h → q_run (q_pcs q_t_X4_blame) 4 4 none (q_den (d + 5)) 1 (q_ri Q) 19 [(0, q_r 0 0), (1, q_i x1), (2, q_i x2), (3, q_i x3)] [] h := by
  intro n
  induction n with
  | zero => intro x2 x3 h k; exact k.elim
  | succ n ih =>
    intro x2 x3 h k
    unfold lp_X4_blame_19 at k
    refine q_iload_n (pc := 19) rfl rfl ?_
    refine q_aload_n (pc := 20) rfl rfl ?_
    refine q_getI (pc := 21) rfl (by decide) rfl rfl rfl ?_
    refine q_icmp_ge (pc := 24) (tgt := 60) rfl (by decide) (fun z => ?_) (fun z => ?_)
    · have k := k.1 z
      refine q_sub (pc := 60) (ks := [0, 1, 2, 3]) rfl ?_
      exact hE _ _ _ k
    · have k := k.2 z
      refine q_iload_n (pc := 27) rfl rfl ?_
      refine q_iload_n (pc := 28) rfl rfl ?_
      refine q_bipush (pc := 29) (v := 8) rfl (by decide) ?_
      refine q_icmp_ne (pc := 31) (tgt := 46) rfl (by decide) (fun z => ?_) (fun z => ?_)
      · have k := k.2 z
        refine q_aload_n (pc := 46) rfl rfl ?_
        refine q_iload_n (pc := 47) rfl rfl ?_
        refine q_iload_n (pc := 48) rfl rfl ?_
        refine q_callV (pc := 49) (As := [q_i x3, q_i x1]) (rest := [q_i x2]) rfl rfl rfl (by decide) rfl rfl (Nat.le_of_ble_eq_true rfl) ?_
        refine q_den_mono _ _ _ _ _ _ ?_ (dn_X4_blameIn (d := d + 2)  k)
        rintro _ g1 ⟨r2, rfl, k⟩
        refine q_iadd (pc := 52) rfl ?_
        refine q_istore_n (pc := 53) (ls1 := [(2, q_i (x2 + r2)), (0, q_r 0 0), (1, q_i x1), (3, q_i x3)]) rfl (by decide) rfl ?_
        refine q_iinc (pc := 54) (v := (x3 + 1)) (ls1 := [(3, q_i (x3 + 1)), (2, q_i (x2 + r2)), (0, q_r 0 0), (1, q_i x1)]) rfl (by decide) rfl (congrArg (fun z => x3 + z) (by decide : Int32.ofInt 1 = 1)) rfl ?_
        refine q_goto (pc := 57) (tgt := 19) rfl (by decide) ?_
        refine q_sub (pc := 19) (ks := [2, 3, 1, 0]) rfl ?_
        exact ih _ _ _ k
      · have k := k.1 z
        refine q_sipush (pc := 34) (v := 840) rfl (by decide) ?_
        refine q_aload_n (pc := 37) rfl rfl ?_
        refine q_iload_n (pc := 38) rfl rfl ?_
        refine q_callV (pc := 39) (As := [q_i x3]) (rest := [q_i 840, q_i x2]) rfl rfl rfl (by decide) rfl rfl (Nat.le_of_ble_eq_true rfl) ?_
        refine q_den_mono _ _ _ _ _ _ ?_ (dn_X4_drainInSpans (d := d)  k)
        rintro _ g3 ⟨r4, rfl, k⟩
        refine q_imul (pc := 42) rfl ?_
        refine q_goto (pc := 43) (tgt := 52) rfl (by decide) ?_
        refine q_iadd (pc := 52) rfl ?_
        refine q_istore_n (pc := 53) (ls1 := [(2, q_i (x2 + (840 * r4))), (0, q_r 0 0), (1, q_i x1), (3, q_i x3)]) rfl (by decide) rfl ?_
        refine q_iinc (pc := 54) (v := (x3 + 1)) (ls1 := [(3, q_i (x3 + 1)), (2, q_i (x2 + (840 * r4))), (0, q_r 0 0), (1, q_i x1)]) rfl (by decide) rfl (congrArg (fun z => x3 + z) (by decide : Int32.ofInt 1 = 1)) rfl ?_
        refine q_goto (pc := 57) (tgt := 19) rfl (by decide) ?_
        refine q_sub (pc := 19) (ks := [2, 3, 1, 0]) rfl ?_
        exact ih _ _ _ k
set_option maxHeartbeats 4000000 in
set_option maxRecDepth 100000 in
theorem dn_X4_blame {d : Nat} {a1 : Int32} {h : q_H} {Q : Int32 → q_H → Prop} (k : wp_X4_blame a1 h Q) : q_den (d + 6) 64 [q_r 0 0, q_i a1] h (q_ri Q) := by
  unfold wp_X4_blame at k
  refine ⟨by decide, Nat.le_of_ble_eq_true rfl, ?_⟩
  show q_run (q_pcs q_t_X4_blame) 4 4 none (q_den (d + 5)) 1 (q_ri Q) 0 [(0, q_r 0 0), (1, q_i a1)] [] h
  refine q_iload_n (pc := 0) rfl rfl ?_
  refine q_bipush (pc := 1) (v := 8) rfl (by decide) ?_
  refine q_icmp_eq (pc := 3) (tgt := 15) rfl (by decide) (fun z => ?_) (fun z => ?_)
  · have k := k.1 z
    refine q_iconst (pc := 15) (v := 0) rfl (by decide) ?_
    refine q_istore_n (pc := 16) (ls1 := [(2, q_i 0), (0, q_r 0 0), (1, q_i a1)]) rfl (by decide) rfl ?_
    refine q_iconst (pc := 17) (v := 0) rfl (by decide) ?_
    refine q_istore_n (pc := 18) (ls1 := [(3, q_i 0), (2, q_i 0), (0, q_r 0 0), (1, q_i a1)]) rfl (by decide) rfl ?_
    obtain ⟨n5, k⟩ := k
    refine q_sub (pc := 19) (ks := [2, 3, 1, 0]) rfl ?_
    refine dl_X4_blame_19 (fun y2_5 y3_5 g5 k => ?_) n5 _ _ _ k
    refine q_iload_n (pc := 60) rfl rfl ?_
    exact q_iret (pc := 61) rfl rfl ⟨_, rfl, k⟩
  · have k := k.2 z
    refine q_iload_n (pc := 6) rfl rfl ?_
    refine q_callS (kd := 0) (pc := 7) (As := [q_i a1]) (rest := []) rfl rfl rfl  rfl (Nat.le_of_ble_eq_true rfl) ?_
    refine q_den_mono _ _ _ _ _ _ ?_ (dn_X4_isProgram (d := d + 4)  k)
    rintro _ g6 ⟨r7, rfl, k⟩
    refine q_if_ne (pc := 10) (tgt := 15) rfl (by decide) (fun z => ?_) (fun z => ?_)
    · have k := k.2 z
      refine q_iconst (pc := 15) (v := 0) rfl (by decide) ?_
      refine q_istore_n (pc := 16) (ls1 := [(2, q_i 0), (0, q_r 0 0), (1, q_i a1)]) rfl (by decide) rfl ?_
      refine q_iconst (pc := 17) (v := 0) rfl (by decide) ?_
      refine q_istore_n (pc := 18) (ls1 := [(3, q_i 0), (2, q_i 0), (0, q_r 0 0), (1, q_i a1)]) rfl (by decide) rfl ?_
      obtain ⟨n8, k⟩ := k
      refine q_sub (pc := 19) (ks := [2, 3, 1, 0]) rfl ?_
      refine dl_X4_blame_19 (fun y2_8 y3_8 g8 k => ?_) n8 _ _ _ k
      refine q_iload_n (pc := 60) rfl rfl ?_
      exact q_iret (pc := 61) rfl rfl ⟨_, rfl, k⟩
    · have k := k.1 z
      refine q_iconst (pc := 13) (v := (-1)) rfl (by decide) ?_
      exact q_iret (pc := 14) rfl rfl ⟨_, rfl, k⟩
set_option maxHeartbeats 4000000 in
set_option maxRecDepth 100000 in
theorem dl_X4_gettingUp_4 {d : Nat} {x1 : Int32} {E : Int32 → Int32 → q_H → Prop} {Q : Int32 → q_H → Prop} (hE : ∀ (x2 : Int32) (x3 : Int32) (h : q_H), E x2 x3 h → q_run (q_pcs q_t_X4_gettingUp) 4 7 none (q_den (d + 2)) 1 (q_ri Q) 70 [(0, q_r 0 0), (1, q_i x1), (2, q_i x2), (3, q_i x3)] [] h) : ∀ (n : Nat) (x2 : Int32) (x3 : Int32) (h : q_H), lp_X4_gettingUp_4 x1 E n x2 x3 h → q_run (q_pcs q_t_X4_gettingUp) 4 7 none (q_den (d + 2)) 1 (q_ri Q) 4 [(0, q_r 0 0), (1, q_i x1), (2, q_i x2), (3, q_i x3)] [] h := by
  intro n
  induction n with
  | zero => intro x2 x3 h k; exact k.elim
  | succ n ih =>
    intro x2 x3 h k
    unfold lp_X4_gettingUp_4 at k
    refine q_iload_n (pc := 4) rfl rfl ?_
    refine q_aload_n (pc := 5) rfl rfl ?_
    refine q_getI (pc := 6) rfl (by decide) rfl rfl rfl ?_
    refine q_icmp_ge (pc := 9) (tgt := 70) rfl (by decide) (fun z => ?_) (fun z => ?_)
    · have k := k.1 z
      refine q_sub (pc := 70) (ks := [0, 1, 2, 3]) rfl ?_
      exact hE _ _ _ k
    · have k := k.2 z
      refine q_aload_n (pc := 12) rfl rfl ?_
      refine q_getR (pc := 13) rfl (by decide) rfl rfl rfl ?_
      refine q_iload_n (pc := 16) rfl rfl ?_
      refine q_callV (pc := 17) (As := [q_i x3]) (rest := []) rfl rfl rfl (by decide) rfl rfl (Nat.le_of_ble_eq_true rfl) ?_
      refine q_den_mono _ _ _ _ _ _ ?_ (dn_X3_ticksOf (d := d) (by decide) k)
      rintro _ g1 ⟨r2, rfl, k⟩
      refine q_lstore (pc := 20) (ls1 := [(4, q_l r2), (0, q_r 0 0), (1, q_i x1), (2, q_i x2), (3, q_i x3)]) rfl (by decide) rfl ?_
      refine q_iload_n (pc := 22) rfl rfl ?_
      refine q_if_le (pc := 23) (tgt := 41) rfl (by decide) (fun z => ?_) (fun z => ?_)
      · have k := k.1 z
        refine q_iconst (pc := 41) (v := 0) rfl (by decide) ?_
        refine q_istore (pc := 42) (ls1 := [(6, q_i 0), (4, q_l r2), (0, q_r 0 0), (1, q_i x1), (2, q_i x2), (3, q_i x3)]) rfl (by decide) rfl ?_
        refine q_lload (pc := 44) rfl rfl ?_
        refine q_iload_n (pc := 46) rfl rfl ?_
        refine q_callS (kd := 0) (pc := 47) (As := [q_l r2, q_i x1]) (rest := []) rfl rfl rfl  rfl (Nat.le_of_ble_eq_true rfl) ?_
        refine q_den_mono _ _ _ _ _ _ ?_ (dn_X4_hasTick (d := d + 1)  k)
        rintro _ g3 ⟨r4, rfl, k⟩
        refine q_if_eq (pc := 50) (tgt := 64) rfl (by decide) (fun z => ?_) (fun z => ?_)
        · have k := k.1 z
          refine q_iinc (pc := 64) (v := (x3 + 1)) (ls1 := [(3, q_i (x3 + 1)), (6, q_i 0), (4, q_l r2), (0, q_r 0 0), (1, q_i x1), (2, q_i x2)]) rfl (by decide) rfl (congrArg (fun z => x3 + z) (by decide : Int32.ofInt 1 = 1)) rfl ?_
          refine q_goto (pc := 67) (tgt := 4) rfl (by decide) ?_
          refine q_sub (pc := 4) (ks := [3, 4, 5, 0]) rfl ?_
          exact ih _ _ _ k
        · have k := k.2 z
          refine q_iload (pc := 53) rfl rfl ?_
          refine q_if_ne (pc := 55) (tgt := 64) rfl (by decide) (fun z => absurd z (by decide)) (fun _ => ?_)
          refine q_iload_n (pc := 58) rfl rfl ?_
          refine q_iconst (pc := 59) (v := 1) rfl (by decide) ?_
          refine q_iload_n (pc := 60) rfl rfl ?_
          refine q_ishl (pc := 61) rfl ?_
          refine q_ior (pc := 62) rfl ?_
          refine q_istore_n (pc := 63) (ls1 := [(2, q_i (x2 ||| (1 <<< (x3 &&& 31)))), (6, q_i 0), (4, q_l r2), (0, q_r 0 0), (1, q_i x1), (3, q_i x3)]) rfl (by decide) rfl ?_
          refine q_iinc (pc := 64) (v := (x3 + 1)) (ls1 := [(3, q_i (x3 + 1)), (2, q_i (x2 ||| (1 <<< (x3 &&& 31)))), (6, q_i 0), (4, q_l r2), (0, q_r 0 0), (1, q_i x1)]) rfl (by decide) rfl (congrArg (fun z => x3 + z) (by decide : Int32.ofInt 1 = 1)) rfl ?_
          refine q_goto (pc := 67) (tgt := 4) rfl (by decide) ?_
          refine q_sub (pc := 4) (ks := [4, 5, 1, 0]) rfl ?_
          exact ih _ _ _ k
      · have k := k.2 z
        refine q_lload (pc := 26) rfl rfl ?_
        refine q_iload_n (pc := 28) rfl rfl ?_
        refine q_iconst (pc := 29) (v := 1) rfl (by decide) ?_
        refine q_isub (pc := 30) rfl ?_
        refine q_callS (kd := 0) (pc := 31) (As := [q_l r2, q_i (x1 - 1)]) (rest := []) rfl rfl rfl  rfl (Nat.le_of_ble_eq_true rfl) ?_
        refine q_den_mono _ _ _ _ _ _ ?_ (dn_X4_hasTick (d := d + 1)  k)
        rintro _ g5 ⟨r6, rfl, k⟩
        refine q_if_eq (pc := 34) (tgt := 41) rfl (by decide) (fun z => ?_) (fun z => ?_)
        · have k := k.1 z
          refine q_iconst (pc := 41) (v := 0) rfl (by decide) ?_
          refine q_istore (pc := 42) (ls1 := [(6, q_i 0), (4, q_l r2), (0, q_r 0 0), (1, q_i x1), (2, q_i x2), (3, q_i x3)]) rfl (by decide) rfl ?_
          refine q_lload (pc := 44) rfl rfl ?_
          refine q_iload_n (pc := 46) rfl rfl ?_
          refine q_callS (kd := 0) (pc := 47) (As := [q_l r2, q_i x1]) (rest := []) rfl rfl rfl  rfl (Nat.le_of_ble_eq_true rfl) ?_
          refine q_den_mono _ _ _ _ _ _ ?_ (dn_X4_hasTick (d := d + 1)  k)
          rintro _ g7 ⟨r8, rfl, k⟩
          refine q_if_eq (pc := 50) (tgt := 64) rfl (by decide) (fun z => ?_) (fun z => ?_)
          · have k := k.1 z
            refine q_iinc (pc := 64) (v := (x3 + 1)) (ls1 := [(3, q_i (x3 + 1)), (6, q_i 0), (4, q_l r2), (0, q_r 0 0), (1, q_i x1), (2, q_i x2)]) rfl (by decide) rfl (congrArg (fun z => x3 + z) (by decide : Int32.ofInt 1 = 1)) rfl ?_
            refine q_goto (pc := 67) (tgt := 4) rfl (by decide) ?_
            refine q_sub (pc := 4) (ks := [3, 4, 5, 0]) rfl ?_
            exact ih _ _ _ k
          · have k := k.2 z
            refine q_iload (pc := 53) rfl rfl ?_
            refine q_if_ne (pc := 55) (tgt := 64) rfl (by decide) (fun z => absurd z (by decide)) (fun _ => ?_)
            refine q_iload_n (pc := 58) rfl rfl ?_
            refine q_iconst (pc := 59) (v := 1) rfl (by decide) ?_
            refine q_iload_n (pc := 60) rfl rfl ?_
            refine q_ishl (pc := 61) rfl ?_
            refine q_ior (pc := 62) rfl ?_
            refine q_istore_n (pc := 63) (ls1 := [(2, q_i (x2 ||| (1 <<< (x3 &&& 31)))), (6, q_i 0), (4, q_l r2), (0, q_r 0 0), (1, q_i x1), (3, q_i x3)]) rfl (by decide) rfl ?_
            refine q_iinc (pc := 64) (v := (x3 + 1)) (ls1 := [(3, q_i (x3 + 1)), (2, q_i (x2 ||| (1 <<< (x3 &&& 31)))), (6, q_i 0), (4, q_l r2), (0, q_r 0 0), (1, q_i x1)]) rfl (by decide) rfl (congrArg (fun z => x3 + z) (by decide : Int32.ofInt 1 = 1)) rfl ?_
            refine q_goto (pc := 67) (tgt := 4) rfl (by decide) ?_
            refine q_sub (pc := 4) (ks := [4, 5, 1, 0]) rfl ?_
            exact ih _ _ _ k
        · have k := k.2 z
          refine q_iconst (pc := 37) (v := 1) rfl (by decide) ?_
          refine q_goto (pc := 38) (tgt := 42) rfl (by decide) ?_
          refine q_istore (pc := 42) (ls1 := [(6, q_i 1), (4, q_l r2), (0, q_r 0 0), (1, q_i x1), (2, q_i x2), (3, q_i x3)]) rfl (by decide) rfl ?_
          refine q_lload (pc := 44) rfl rfl ?_
          refine q_iload_n (pc := 46) rfl rfl ?_
          refine q_callS (kd := 0) (pc := 47) (As := [q_l r2, q_i x1]) (rest := []) rfl rfl rfl  rfl (Nat.le_of_ble_eq_true rfl) ?_
          refine q_den_mono _ _ _ _ _ _ ?_ (dn_X4_hasTick (d := d + 1)  k)
          rintro _ g9 ⟨r10, rfl, k⟩
          refine q_if_eq (pc := 50) (tgt := 64) rfl (by decide) (fun z => ?_) (fun z => ?_)
          · have k := k.1 z
            refine q_iinc (pc := 64) (v := (x3 + 1)) (ls1 := [(3, q_i (x3 + 1)), (6, q_i 1), (4, q_l r2), (0, q_r 0 0), (1, q_i x1), (2, q_i x2)]) rfl (by decide) rfl (congrArg (fun z => x3 + z) (by decide : Int32.ofInt 1 = 1)) rfl ?_
            refine q_goto (pc := 67) (tgt := 4) rfl (by decide) ?_
            refine q_sub (pc := 4) (ks := [3, 4, 5, 0]) rfl ?_
            exact ih _ _ _ k
          · have k := k.2 z
            refine q_iload (pc := 53) rfl rfl ?_
            refine q_if_ne (pc := 55) (tgt := 64) rfl (by decide) (fun _ => ?_) (fun z => absurd z (by decide))
            refine q_iinc (pc := 64) (v := (x3 + 1)) (ls1 := [(3, q_i (x3 + 1)), (6, q_i 1), (4, q_l r2), (0, q_r 0 0), (1, q_i x1), (2, q_i x2)]) rfl (by decide) rfl (congrArg (fun z => x3 + z) (by decide : Int32.ofInt 1 = 1)) rfl ?_
            refine q_goto (pc := 67) (tgt := 4) rfl (by decide) ?_
            refine q_sub (pc := 4) (ks := [3, 4, 5, 0]) rfl ?_
            exact ih _ _ _ k
set_option maxHeartbeats 4000000 in
set_option maxRecDepth 100000 in
theorem dn_X4_gettingUp {d : Nat} {a1 : Int32} {h : q_H} {Q : Int32 → q_H → Prop} (k : wp_X4_gettingUp a1 h Q) : q_den (d + 3) 83 [q_r 0 0, q_i a1] h (q_ri Q) := by
  unfold wp_X4_gettingUp at k
  refine ⟨by decide, Nat.le_of_ble_eq_true rfl, ?_⟩
  show q_run (q_pcs q_t_X4_gettingUp) 4 7 none (q_den (d + 2)) 1 (q_ri Q) 0 [(0, q_r 0 0), (1, q_i a1)] [] h
  refine q_iconst (pc := 0) (v := 0) rfl (by decide) ?_
  refine q_istore_n (pc := 1) (ls1 := [(2, q_i 0), (0, q_r 0 0), (1, q_i a1)]) rfl (by decide) rfl ?_
  refine q_iconst (pc := 2) (v := 0) rfl (by decide) ?_
  refine q_istore_n (pc := 3) (ls1 := [(3, q_i 0), (2, q_i 0), (0, q_r 0 0), (1, q_i a1)]) rfl (by decide) rfl ?_
  obtain ⟨n11, k⟩ := k
  refine q_sub (pc := 4) (ks := [2, 3, 1, 0]) rfl ?_
  refine dl_X4_gettingUp_4 (fun y2_11 y3_11 g11 k => ?_) n11 _ _ _ k
  refine q_iload_n (pc := 70) rfl rfl ?_
  exact q_iret (pc := 71) rfl rfl ⟨_, rfl, k⟩
set_option maxHeartbeats 4000000 in
set_option maxRecDepth 100000 in
theorem dl_X4_leastReady_2 {d : Nat} {x1 : Int32} {E : Int32 → q_H → Prop} {Q : Int32 → q_H → Prop} (hE : ∀ (x2 : Int32) (h : q_H), E x2 h → q_run (q_pcs q_t_X4_leastReady) 4 3 none (q_den (d + 1)) 1 (q_ri Q) 35 [(0, q_r 0 0), (1, q_i x1), (2, q_i x2)] [] h) : ∀ (n : Nat) (x2 : Int32) (h : q_H), lp_X4_leastReady_2 x1 Q E n x2 h → q_run (q_pcs q_t_X4_leastReady) 4 3 none (q_den (d + 1)) 1 (q_ri Q) 2 [(0, q_r 0 0), (1, q_i x1), (2, q_i x2)] [] h := by
  intro n
  induction n with
  | zero => intro x2 h k; exact k.elim
  | succ n ih =>
    intro x2 h k
    unfold lp_X4_leastReady_2 at k
    refine q_iload_n (pc := 2) rfl rfl ?_
    refine q_bipush (pc := 3) (v := 6) rfl (by decide) ?_
    refine q_icmp_ge (pc := 5) (tgt := 35) rfl (by decide) (fun z => ?_) (fun z => ?_)
    · have k := k.1 z
      refine q_sub (pc := 35) (ks := [0, 1, 2]) rfl ?_
      exact hE _ _ k
    · have k := k.2 z
      refine q_iload_n (pc := 8) rfl rfl ?_
      refine q_iload_n (pc := 9) rfl rfl ?_
      refine q_callS (kd := 0) (pc := 10) (As := [q_i x1, q_i x2]) (rest := []) rfl rfl rfl  rfl (Nat.le_of_ble_eq_true rfl) ?_
      refine q_den_mono _ _ _ _ _ _ ?_ (dn_X4_hasPart (d := d)  k)
      rintro _ g1 ⟨r2, rfl, k⟩
      refine q_if_eq (pc := 13) (tgt := 29) rfl (by decide) (fun z => ?_) (fun z => ?_)
      · have k := k.1 z
        refine q_iinc (pc := 29) (v := (x2 + 1)) (ls1 := [(2, q_i (x2 + 1)), (0, q_r 0 0), (1, q_i x1)]) rfl (by decide) rfl (congrArg (fun z => x2 + z) (by decide : Int32.ofInt 1 = 1)) rfl ?_
        refine q_goto (pc := 32) (tgt := 2) rfl (by decide) ?_
        refine q_sub (pc := 2) (ks := [1, 2, 0]) rfl ?_
        exact ih _ _ k
      · have k := k.2 z
        refine q_aload_n (pc := 16) rfl rfl ?_
        refine q_getR (pc := 17) rfl (by decide) rfl rfl rfl ?_
        refine q_iload_n (pc := 20) rfl rfl ?_
        obtain ⟨b3, k⟩ := k
        refine q_iaload (pc := 21) rfl (by decide) rfl rfl b3 ?_
        refine q_iload_n (pc := 22) rfl rfl ?_
        refine q_iand (pc := 23) rfl ?_
        refine q_if_ne (pc := 24) (tgt := 29) rfl (by decide) (fun z => ?_) (fun z => ?_)
        · have k := k.2 z
          refine q_iinc (pc := 29) (v := (x2 + 1)) (ls1 := [(2, q_i (x2 + 1)), (0, q_r 0 0), (1, q_i x1)]) rfl (by decide) rfl (congrArg (fun z => x2 + z) (by decide : Int32.ofInt 1 = 1)) rfl ?_
          refine q_goto (pc := 32) (tgt := 2) rfl (by decide) ?_
          refine q_sub (pc := 2) (ks := [1, 2, 0]) rfl ?_
          exact ih _ _ k
        · have k := k.1 z
          refine q_iload_n (pc := 27) rfl rfl ?_
          exact q_iret (pc := 28) rfl rfl ⟨_, rfl, k⟩
set_option maxHeartbeats 4000000 in
set_option maxRecDepth 100000 in
theorem dn_X4_leastReady {d : Nat} {a1 : Int32} {h : q_H} {Q : Int32 → q_H → Prop} (k : wp_X4_leastReady a1 h Q) : q_den (d + 2) 84 [q_r 0 0, q_i a1] h (q_ri Q) := by
  unfold wp_X4_leastReady at k
  refine ⟨by decide, Nat.le_of_ble_eq_true rfl, ?_⟩
  show q_run (q_pcs q_t_X4_leastReady) 4 3 none (q_den (d + 1)) 1 (q_ri Q) 0 [(0, q_r 0 0), (1, q_i a1)] [] h
  refine q_iconst (pc := 0) (v := 0) rfl (by decide) ?_
  refine q_istore_n (pc := 1) (ls1 := [(2, q_i 0), (0, q_r 0 0), (1, q_i a1)]) rfl (by decide) rfl ?_
  obtain ⟨n4, k⟩ := k
  refine q_sub (pc := 2) (ks := [1, 2, 0]) rfl ?_
  refine dl_X4_leastReady_2 (fun y2_4 g4 k => ?_) n4 _ _ k
  refine q_iconst (pc := 35) (v := (-1)) rfl (by decide) ?_
  exact q_iret (pc := 36) rfl rfl ⟨_, rfl, k⟩
set_option maxHeartbeats 4000000 in
set_option maxRecDepth 100000 in
theorem dl_X4_order_22 {d : Nat} {x2 : Int32} {E : Int32 → Int32 → q_H → Prop} {Q : Int32 → q_H → Prop} (hE : ∀ (x3 : Int32) (x4 : Int32) (h : q_H), E x3 x4 h → q_run (q_pcs q_t_X4_order) 4 6 none (q_den (d + 3)) 1 (q_ri Q) 70 [(0, q_r 0 0), (2, q_i x2), (3, q_i x3), (4, q_i x4)] [] h) : ∀ (n : Nat) (x3 : Int32) (x4 : Int32) (h : q_H), lp_X4_order_22 x2 Q E n x3 x4 h → q_run (q_pcs q_t_X4_order) 4 6 none (q_den (d + 3)) 1 (q_ri Q) 22 [(0, q_r 0 0), (2, q_i x2), (3, q_i x3), (4, q_i x4)] [] h := by
  intro n
  induction n with
  | zero => intro x3 x4 h k; exact k.elim
  | succ n ih =>
    intro x3 x4 h k
    unfold lp_X4_order_22 at k
    refine q_iload (pc := 22) rfl rfl ?_
    refine q_bipush (pc := 24) (v := 6) rfl (by decide) ?_
    refine q_icmp_ge (pc := 26) (tgt := 70) rfl (by decide) (fun z => ?_) (fun z => ?_)
    · have k := k.1 z
      refine q_sub (pc := 70) (ks := [0, 1, 2, 3]) rfl ?_
      exact hE _ _ _ k
    · have k := k.2 z
      refine q_iload_n (pc := 29) rfl rfl ?_
      refine q_if_eq (pc := 30) (tgt := 70) rfl (by decide) (fun z => ?_) (fun z => ?_)
      · have k := k.1 z
        refine q_sub (pc := 70) (ks := [0, 1, 2, 3]) rfl ?_
        exact hE _ _ _ k
      · have k := k.2 z
        refine q_aload_n (pc := 33) rfl rfl ?_
        refine q_iload_n (pc := 34) rfl rfl ?_
        refine q_callV (pc := 35) (As := [q_i x3]) (rest := []) rfl rfl rfl (by decide) rfl rfl (Nat.le_of_ble_eq_true rfl) ?_
        refine q_den_mono _ _ _ _ _ _ ?_ (dn_X4_leastReady (d := d + 1)  k)
        rintro _ g5 ⟨r6, rfl, k⟩
        refine q_istore (pc := 38) (ls1 := [(5, q_i r6), (0, q_r 0 0), (2, q_i x2), (3, q_i x3), (4, q_i x4)]) rfl (by decide) rfl ?_
        refine q_iload (pc := 40) rfl rfl ?_
        refine q_iload_n (pc := 42) rfl rfl ?_
        refine q_icmp_ne (pc := 43) (tgt := 49) rfl (by decide) (fun z => ?_) (fun z => ?_)
        · have k := k.2 z
          refine q_iload (pc := 49) rfl rfl ?_
          refine q_iconst (pc := 51) (v := (-1)) rfl (by decide) ?_
          refine q_icmp_eq (pc := 52) (tgt := 64) rfl (by decide) (fun z => ?_) (fun z => ?_)
          · have k := k.1 z
            refine q_iinc (pc := 64) (v := (x4 + 1)) (ls1 := [(4, q_i (x4 + 1)), (5, q_i r6), (0, q_r 0 0), (2, q_i x2), (3, q_i x3)]) rfl (by decide) rfl (congrArg (fun z => x4 + z) (by decide : Int32.ofInt 1 = 1)) rfl ?_
            refine q_goto (pc := 67) (tgt := 22) rfl (by decide) ?_
            refine q_sub (pc := 22) (ks := [2, 3, 4, 0]) rfl ?_
            exact ih _ _ _ k
          · have k := k.2 z
            refine q_iload_n (pc := 55) rfl rfl ?_
            refine q_iconst (pc := 56) (v := 1) rfl (by decide) ?_
            refine q_iload (pc := 57) rfl rfl ?_
            refine q_ishl (pc := 59) rfl ?_
            refine q_iconst (pc := 60) (v := (-1)) rfl (by decide) ?_
            refine q_ixor (pc := 61) rfl ?_
            refine q_iand (pc := 62) rfl ?_
            refine q_istore_n (pc := 63) (ls1 := [(3, q_i (x3 &&& ((1 <<< (r6 &&& 31)) ^^^ (-1)))), (5, q_i r6), (0, q_r 0 0), (2, q_i x2), (4, q_i x4)]) rfl (by decide) rfl ?_
            refine q_iinc (pc := 64) (v := (x4 + 1)) (ls1 := [(4, q_i (x4 + 1)), (3, q_i (x3 &&& ((1 <<< (r6 &&& 31)) ^^^ (-1)))), (5, q_i r6), (0, q_r 0 0), (2, q_i x2)]) rfl (by decide) rfl (congrArg (fun z => x4 + z) (by decide : Int32.ofInt 1 = 1)) rfl ?_
            refine q_goto (pc := 67) (tgt := 22) rfl (by decide) ?_
            refine q_sub (pc := 22) (ks := [3, 4, 1, 0]) rfl ?_
            exact ih _ _ _ k
        · have k := k.1 z
          refine q_iload (pc := 46) rfl rfl ?_
          exact q_iret (pc := 48) rfl rfl ⟨_, rfl, k⟩
set_option maxHeartbeats 4000000 in
set_option maxRecDepth 100000 in
theorem dn_X4_order {d : Nat} {a1 : Int32} {a2 : Int32} {h : q_H} {Q : Int32 → q_H → Prop} (k : wp_X4_order a1 a2 h Q) : q_den (d + 4) 65 [q_r 0 0, q_i a1, q_i a2] h (q_ri Q) := by
  unfold wp_X4_order at k
  refine ⟨by decide, Nat.le_of_ble_eq_true rfl, ?_⟩
  show q_run (q_pcs q_t_X4_order) 4 6 none (q_den (d + 3)) 1 (q_ri Q) 0 [(0, q_r 0 0), (1, q_i a1), (2, q_i a2)] [] h
  refine q_iload_n (pc := 0) rfl rfl ?_
  refine q_callS (kd := 0) (pc := 1) (As := [q_i a1]) (rest := []) rfl rfl rfl  rfl (Nat.le_of_ble_eq_true rfl) ?_
  refine q_den_mono _ _ _ _ _ _ ?_ (dn_X4_isTick (d := d + 2)  k)
  rintro _ g1 ⟨r2, rfl, k⟩
  refine q_if_eq (pc := 4) (tgt := 11) rfl (by decide) (fun z => ?_) (fun z => ?_)
  · have k := k.1 z
    refine q_iconst (pc := 11) (v := (-1)) rfl (by decide) ?_
    exact q_iret (pc := 12) rfl rfl ⟨_, rfl, k⟩
  · have k := k.2 z
    refine q_iload_n (pc := 7) rfl rfl ?_
    refine q_if_ge (pc := 8) (tgt := 13) rfl (by decide) (fun z => ?_) (fun z => ?_)
    · have k := k.1 z
      refine q_aload_n (pc := 13) rfl rfl ?_
      refine q_iload_n (pc := 14) rfl rfl ?_
      refine q_callV (pc := 15) (As := [q_i a1]) (rest := []) rfl rfl rfl (by decide) rfl rfl (Nat.le_of_ble_eq_true rfl) ?_
      refine q_den_mono _ _ _ _ _ _ ?_ (dn_X4_gettingUp (d := d)  k)
      rintro _ g3 ⟨r4, rfl, k⟩
      refine q_istore_n (pc := 18) (ls1 := [(3, q_i r4), (0, q_r 0 0), (1, q_i a1), (2, q_i a2)]) rfl (by decide) rfl ?_
      refine q_iconst (pc := 19) (v := 0) rfl (by decide) ?_
      refine q_istore (pc := 20) (ls1 := [(4, q_i 0), (3, q_i r4), (0, q_r 0 0), (1, q_i a1), (2, q_i a2)]) rfl (by decide) rfl ?_
      obtain ⟨n7, k⟩ := k
      refine q_sub (pc := 22) (ks := [2, 4, 1, 0]) rfl ?_
      refine dl_X4_order_22 (fun y3_7 y4_7 g7 k => ?_) n7 _ _ _ k
      refine q_iconst (pc := 70) (v := (-1)) rfl (by decide) ?_
      exact q_iret (pc := 71) rfl rfl ⟨_, rfl, k⟩
    · have k := k.2 z
      refine q_iconst (pc := 11) (v := (-1)) rfl (by decide) ?_
      exact q_iret (pc := 12) rfl rfl ⟨_, rfl, k⟩
set_option maxHeartbeats 4000000 in
set_option maxRecDepth 100000 in
theorem dn_X5_isIn {d : Nat} {a0 : Int32} {a1 : Int32} {a2 : Int32} {h : q_H} {Q : Int32 → q_H → Prop} (k : wp_X5_isIn a0 a1 a2 h Q) : q_den (d + 1) 85 [q_i a0, q_i a1, q_i a2] h (q_ri Q) := by
  unfold wp_X5_isIn at k
  refine ⟨by decide, Nat.le_of_ble_eq_true rfl, ?_⟩
  show q_run (q_pcs q_t_X5_isIn) 5 3 none (q_den d) 3 (q_ri Q) 0 [(0, q_i a0), (1, q_i a1), (2, q_i a2)] [] h
  refine q_iload_n (pc := 0) rfl rfl ?_
  refine q_iload_n (pc := 1) rfl rfl ?_
  refine q_icmp_lt (pc := 2) (tgt := 14) rfl (by decide) (fun z => ?_) (fun z => ?_)
  · have k := k.1 z
    refine q_iconst (pc := 14) (v := 0) rfl (by decide) ?_
    exact q_zret (pc := 15) rfl rfl (by decide) ⟨_, rfl, k⟩
  · have k := k.2 z
    refine q_iload_n (pc := 5) rfl rfl ?_
    refine q_iload_n (pc := 6) rfl rfl ?_
    refine q_icmp_gt (pc := 7) (tgt := 14) rfl (by decide) (fun z => ?_) (fun z => ?_)
    · have k := k.1 z
      refine q_iconst (pc := 14) (v := 0) rfl (by decide) ?_
      exact q_zret (pc := 15) rfl rfl (by decide) ⟨_, rfl, k⟩
    · have k := k.2 z
      refine q_iconst (pc := 10) (v := 1) rfl (by decide) ?_
      refine q_goto (pc := 11) (tgt := 15) rfl (by decide) ?_
      exact q_zret (pc := 15) rfl rfl (by decide) ⟨_, rfl, k⟩
set_option maxHeartbeats 4000000 in
set_option maxRecDepth 100000 in
theorem dn_X5_isPart {d : Nat} {a1 : Int32} {h : q_H} {Q : Int32 → q_H → Prop} (k : wp_X5_isPart a1 h Q) : q_den (d + 2) 86 [q_r 18 0, q_i a1] h (q_ri Q) := by
  unfold wp_X5_isPart at k
  refine ⟨by decide, Nat.le_of_ble_eq_true rfl, ?_⟩
  show q_run (q_pcs q_t_X5_isPart) 5 2 none (q_den (d + 1)) 3 (q_ri Q) 0 [(0, q_r 18 0), (1, q_i a1)] [] h
  refine q_iload_n (pc := 0) rfl rfl ?_
  refine q_iconst (pc := 1) (v := 0) rfl (by decide) ?_
  refine q_aload_n (pc := 2) rfl rfl ?_
  refine q_getI (pc := 3) rfl (by decide) rfl rfl rfl ?_
  refine q_iconst (pc := 6) (v := 1) rfl (by decide) ?_
  refine q_isub (pc := 7) rfl ?_
  refine q_callS (kd := 0) (pc := 8) (As := [q_i a1, q_i 0, q_i ((Prod.fst h 18 0 0) - 1)]) (rest := []) rfl rfl rfl  rfl (Nat.le_of_ble_eq_true rfl) ?_
  refine q_den_mono _ _ _ _ _ _ ?_ (dn_X5_isIn (d := d)  k)
  rintro _ g1 ⟨r2, rfl, k⟩
  exact q_zret (pc := 11) rfl rfl k.1 ⟨_, rfl, k.2⟩
set_option maxHeartbeats 4000000 in
set_option maxRecDepth 100000 in
theorem dn_X5_isTick {d : Nat} {a0 : Int32} {h : q_H} {Q : Int32 → q_H → Prop} (k : wp_X5_isTick a0 h Q) : q_den (d + 2) 87 [q_i a0] h (q_ri Q) := by
  unfold wp_X5_isTick at k
  refine ⟨by decide, Nat.le_of_ble_eq_true rfl, ?_⟩
  show q_run (q_pcs q_t_X5_isTick) 5 1 none (q_den (d + 1)) 3 (q_ri Q) 0 [(0, q_i a0)] [] h
  refine q_iload_n (pc := 0) rfl rfl ?_
  refine q_iconst (pc := 1) (v := 0) rfl (by decide) ?_
  refine q_bipush (pc := 2) (v := 63) rfl (by decide) ?_
  refine q_callS (kd := 0) (pc := 4) (As := [q_i a0, q_i 0, q_i 63]) (rest := []) rfl rfl rfl  rfl (Nat.le_of_ble_eq_true rfl) ?_
  refine q_den_mono _ _ _ _ _ _ ?_ (dn_X5_isIn (d := d)  k)
  rintro _ g1 ⟨r2, rfl, k⟩
  exact q_zret (pc := 7) rfl rfl k.1 ⟨_, rfl, k.2⟩
set_option maxHeartbeats 4000000 in
set_option maxRecDepth 100000 in
theorem dl_X5_part_115 {d : Nat} {x5 : Int32} {E : Int32 → q_H → Prop} {Q : Int32 → q_H → Prop} (hE : ∀ (x6 : Int32) (h : q_H), E x6 h → q_run (q_pcs q_t_X5_part) 5 7 none (q_den (d + 1)) 1 (q_ri Q) 141 [(0, q_r 18 0), (5, q_i x5), (6, q_i x6)] [] h) : ∀ (n : Nat) (x6 : Int32) (h : q_H), lp_X5_part_115 x5 E n x6 h → q_run (q_pcs q_t_X5_part) 5 7 none (q_den (d + 1)) 1 (q_ri Q) 115 [(0, q_r 18 0), (5, q_i x5), (6, q_i x6)] [] h := by
  intro n
  induction n with
  | zero => intro x6 h k; exact k.elim
  | succ n ih =>
    intro x6 h k
    unfold lp_X5_part_115 at k
    refine q_iload (pc := 115) rfl rfl ?_
    refine q_iconst (pc := 117) (v := 3) rfl (by decide) ?_
    refine q_icmp_ge (pc := 118) (tgt := 141) rfl (by decide) (fun z => ?_) (fun z => ?_)
    · have k := k.1 z
      refine q_sub (pc := 141) (ks := [0, 1, 2]) rfl ?_
      exact hE _ _ k
    · have k := k.2 z
      refine q_aload_n (pc := 121) rfl rfl ?_
      refine q_getR (pc := 122) rfl (by decide) rfl rfl rfl ?_
      refine q_iconst (pc := 125) (v := 3) rfl (by decide) ?_
      refine q_iload (pc := 126) rfl rfl ?_
      refine q_imul (pc := 128) rfl ?_
      refine q_iload (pc := 129) rfl rfl ?_
      refine q_iadd (pc := 131) rfl ?_
      refine q_bipush (pc := 132) (v := 64) rfl (by decide) ?_
      obtain ⟨b13, k⟩ := k
      refine q_iastore (pc := 134) rfl (by decide) rfl rfl b13 ?_
      refine q_iinc (pc := 135) (v := (x6 + 1)) (ls1 := [(6, q_i (x6 + 1)), (0, q_r 18 0), (5, q_i x5)]) rfl (by decide) rfl (congrArg (fun z => x6 + z) (by decide : Int32.ofInt 1 = 1)) rfl ?_
      refine q_goto (pc := 138) (tgt := 115) rfl (by decide) ?_
      refine q_sub (pc := 115) (ks := [1, 2, 0]) rfl ?_
      exact ih _ _ k
set_option maxHeartbeats 4000000 in
set_option maxRecDepth 100000 in
theorem dn_X5_part {d : Nat} {a1 : Int32} {a2 : Int32} {a3 : Int32} {a4 : Int32} {h : q_H} {Q : Int32 → q_H → Prop} (k : wp_X5_part a1 a2 a3 a4 h Q) : q_den (d + 2) 88 [q_r 18 0, q_i a1, q_i a2, q_i a3, q_i a4] h (q_ri Q) := by
  unfold wp_X5_part at k
  refine ⟨by decide, Nat.le_of_ble_eq_true rfl, ?_⟩
  show q_run (q_pcs q_t_X5_part) 5 7 none (q_den (d + 1)) 1 (q_ri Q) 0 [(0, q_r 18 0), (1, q_i a1), (2, q_i a2), (3, q_i a3), (4, q_i a4)] [] h
  refine q_iload_n (pc := 0) rfl rfl ?_
  refine q_iconst (pc := 1) (v := 0) rfl (by decide) ?_
  refine q_bipush (pc := 2) (v := 99) rfl (by decide) ?_
  refine q_callS (kd := 0) (pc := 4) (As := [q_i a1, q_i 0, q_i 99]) (rest := []) rfl rfl rfl  rfl (Nat.le_of_ble_eq_true rfl) ?_
  refine q_den_mono _ _ _ _ _ _ ?_ (dn_X5_isIn (d := d)  k)
  rintro _ g1 ⟨r2, rfl, k⟩
  refine q_if_eq (pc := 7) (tgt := 47) rfl (by decide) (fun z => ?_) (fun z => ?_)
  · have k := k.1 z
    refine q_iconst (pc := 47) (v := (-1)) rfl (by decide) ?_
    exact q_iret (pc := 48) rfl rfl ⟨_, rfl, k⟩
  · have k := k.2 z
    refine q_iload_n (pc := 10) rfl rfl ?_
    refine q_iconst (pc := 11) (v := 0) rfl (by decide) ?_
    refine q_iload_n (pc := 12) rfl rfl ?_
    refine q_callS (kd := 0) (pc := 13) (As := [q_i a2, q_i 0, q_i a1]) (rest := []) rfl rfl rfl  rfl (Nat.le_of_ble_eq_true rfl) ?_
    refine q_den_mono _ _ _ _ _ _ ?_ (dn_X5_isIn (d := d)  k)
    rintro _ g3 ⟨r4, rfl, k⟩
    refine q_if_eq (pc := 16) (tgt := 47) rfl (by decide) (fun z => ?_) (fun z => ?_)
    · have k := k.1 z
      refine q_iconst (pc := 47) (v := (-1)) rfl (by decide) ?_
      exact q_iret (pc := 48) rfl rfl ⟨_, rfl, k⟩
    · have k := k.2 z
      refine q_iload_n (pc := 19) rfl rfl ?_
      refine q_iconst (pc := 20) (v := 0) rfl (by decide) ?_
      refine q_iload_n (pc := 21) rfl rfl ?_
      refine q_callS (kd := 0) (pc := 22) (As := [q_i a3, q_i 0, q_i a2]) (rest := []) rfl rfl rfl  rfl (Nat.le_of_ble_eq_true rfl) ?_
      refine q_den_mono _ _ _ _ _ _ ?_ (dn_X5_isIn (d := d)  k)
      rintro _ g5 ⟨r6, rfl, k⟩
      refine q_if_eq (pc := 25) (tgt := 47) rfl (by decide) (fun z => ?_) (fun z => ?_)
      · have k := k.1 z
        refine q_iconst (pc := 47) (v := (-1)) rfl (by decide) ?_
        exact q_iret (pc := 48) rfl rfl ⟨_, rfl, k⟩
      · have k := k.2 z
        refine q_iload (pc := 28) rfl rfl ?_
        refine q_iconst (pc := 30) (v := 0) rfl (by decide) ?_
        refine q_iload_n (pc := 31) rfl rfl ?_
        refine q_callS (kd := 0) (pc := 32) (As := [q_i a4, q_i 0, q_i a3]) (rest := []) rfl rfl rfl  rfl (Nat.le_of_ble_eq_true rfl) ?_
        refine q_den_mono _ _ _ _ _ _ ?_ (dn_X5_isIn (d := d)  k)
        rintro _ g7 ⟨r8, rfl, k⟩
        refine q_if_eq (pc := 35) (tgt := 47) rfl (by decide) (fun z => ?_) (fun z => ?_)
        · have k := k.1 z
          refine q_iconst (pc := 47) (v := (-1)) rfl (by decide) ?_
          exact q_iret (pc := 48) rfl rfl ⟨_, rfl, k⟩
        · have k := k.2 z
          refine q_aload_n (pc := 38) rfl rfl ?_
          refine q_getI (pc := 39) rfl (by decide) rfl rfl rfl ?_
          refine q_bipush (pc := 42) (v := 6) rfl (by decide) ?_
          refine q_icmp_ne (pc := 44) (tgt := 49) rfl (by decide) (fun z => ?_) (fun z => ?_)
          · have k := k.2 z
            refine q_aload_n (pc := 49) rfl rfl ?_
            refine q_getI (pc := 50) rfl (by decide) rfl rfl rfl ?_
            refine q_istore (pc := 53) (ls1 := [(5, q_i (Prod.fst g7 18 0 0)), (0, q_r 18 0), (1, q_i a1), (2, q_i a2), (3, q_i a3), (4, q_i a4)]) rfl (by decide) rfl ?_
            refine q_aload_n (pc := 55) rfl rfl ?_
            refine q_dup (pc := 56) rfl rfl ?_
            refine q_getI (pc := 57) rfl (by decide) rfl rfl rfl ?_
            refine q_iconst (pc := 60) (v := 1) rfl (by decide) ?_
            refine q_iadd (pc := 61) rfl ?_
            refine q_putI (pc := 62) rfl (by decide) rfl rfl rfl ?_
            refine q_aload_n (pc := 65) rfl rfl ?_
            refine q_getR (pc := 66) rfl (by decide) rfl rfl rfl ?_
            refine q_iconst (pc := 69) (v := 4) rfl (by decide) ?_
            refine q_iload (pc := 70) rfl rfl ?_
            refine q_imul (pc := 72) rfl ?_
            refine q_iload_n (pc := 73) rfl rfl ?_
            obtain ⟨b9, k⟩ := k
            refine q_iastore (pc := 74) rfl (by decide) rfl rfl b9 ?_
            refine q_aload_n (pc := 75) rfl rfl ?_
            refine q_getR (pc := 76) rfl (by decide) rfl rfl rfl ?_
            refine q_iconst (pc := 79) (v := 4) rfl (by decide) ?_
            refine q_iload (pc := 80) rfl rfl ?_
            refine q_imul (pc := 82) rfl ?_
            refine q_iconst (pc := 83) (v := 1) rfl (by decide) ?_
            refine q_iadd (pc := 84) rfl ?_
            refine q_iload_n (pc := 85) rfl rfl ?_
            obtain ⟨b10, k⟩ := k
            refine q_iastore (pc := 86) rfl (by decide) rfl rfl b10 ?_
            refine q_aload_n (pc := 87) rfl rfl ?_
            refine q_getR (pc := 88) rfl (by decide) rfl rfl rfl ?_
            refine q_iconst (pc := 91) (v := 4) rfl (by decide) ?_
            refine q_iload (pc := 92) rfl rfl ?_
            refine q_imul (pc := 94) rfl ?_
            refine q_iconst (pc := 95) (v := 2) rfl (by decide) ?_
            refine q_iadd (pc := 96) rfl ?_
            refine q_iload_n (pc := 97) rfl rfl ?_
            obtain ⟨b11, k⟩ := k
            refine q_iastore (pc := 98) rfl (by decide) rfl rfl b11 ?_
            refine q_aload_n (pc := 99) rfl rfl ?_
            refine q_getR (pc := 100) rfl (by decide) rfl rfl rfl ?_
            refine q_iconst (pc := 103) (v := 4) rfl (by decide) ?_
            refine q_iload (pc := 104) rfl rfl ?_
            refine q_imul (pc := 106) rfl ?_
            refine q_iconst (pc := 107) (v := 3) rfl (by decide) ?_
            refine q_iadd (pc := 108) rfl ?_
            refine q_iload (pc := 109) rfl rfl ?_
            obtain ⟨b12, k⟩ := k
            refine q_iastore (pc := 111) rfl (by decide) rfl rfl b12 ?_
            refine q_iconst (pc := 112) (v := 0) rfl (by decide) ?_
            refine q_istore (pc := 113) (ls1 := [(6, q_i 0), (5, q_i (Prod.fst g7 18 0 0)), (0, q_r 18 0), (1, q_i a1), (2, q_i a2), (3, q_i a3), (4, q_i a4)]) rfl (by decide) rfl ?_
            obtain ⟨n14, k⟩ := k
            refine q_sub (pc := 115) (ks := [2, 1, 0]) rfl ?_
            refine dl_X5_part_115 (fun y6_14 g14 k => ?_) n14 _ _ k
            refine q_iload (pc := 141) rfl rfl ?_
            exact q_iret (pc := 143) rfl rfl ⟨_, rfl, k⟩
          · have k := k.1 z
            refine q_iconst (pc := 47) (v := (-1)) rfl (by decide) ?_
            exact q_iret (pc := 48) rfl rfl ⟨_, rfl, k⟩
set_option maxHeartbeats 4000000 in
set_option maxRecDepth 100000 in
theorem dn_X5_rise {d : Nat} {a1 : Int32} {a2 : Int32} {a3 : Int32} {a4 : Int32} {a5 : Int32} {a6 : Int32} {a7 : Int32} {h : q_H} {Q : Int32 → q_H → Prop} (k : wp_X5_rise a1 a2 a3 a4 a5 a6 a7 h Q) : q_den (d + 3) 89 [q_r 18 0, q_i a1, q_i a2, q_i a3, q_i a4, q_i a5, q_i a6, q_i a7] h (q_ri Q) := by
  unfold wp_X5_rise at k
  refine ⟨by decide, Nat.le_of_ble_eq_true rfl, ?_⟩
  show q_run (q_pcs q_t_X5_rise) 5 8 none (q_den (d + 2)) 3 (q_ri Q) 0 [(0, q_r 18 0), (1, q_i a1), (2, q_i a2), (3, q_i a3), (4, q_i a4), (5, q_i a5), (6, q_i a6), (7, q_i a7)] [] h
  refine q_aload_n (pc := 0) rfl rfl ?_
  refine q_iload_n (pc := 1) rfl rfl ?_
  refine q_callV (pc := 2) (As := [q_i a1]) (rest := []) rfl rfl rfl (by decide) rfl rfl (Nat.le_of_ble_eq_true rfl) ?_
  refine q_den_mono _ _ _ _ _ _ ?_ (dn_X5_isPart (d := d)  k)
  rintro _ g1 ⟨r2, rfl, k⟩
  refine q_if_eq (pc := 5) (tgt := 77) rfl (by decide) (fun z => ?_) (fun z => ?_)
  · have k := k.1 z
    refine q_iconst (pc := 77) (v := 0) rfl (by decide) ?_
    exact q_zret (pc := 78) rfl rfl (by decide) ⟨_, rfl, k⟩
  · have k := k.2 z
    refine q_iload_n (pc := 8) rfl rfl ?_
    refine q_iconst (pc := 9) (v := 0) rfl (by decide) ?_
    refine q_sipush (pc := 10) (v := 999) rfl (by decide) ?_
    refine q_callS (kd := 0) (pc := 13) (As := [q_i a2, q_i 0, q_i 999]) (rest := []) rfl rfl rfl  rfl (Nat.le_of_ble_eq_true rfl) ?_
    refine q_den_mono _ _ _ _ _ _ ?_ (dn_X5_isIn (d := d + 1)  k)
    rintro _ g3 ⟨r4, rfl, k⟩
    refine q_if_eq (pc := 16) (tgt := 77) rfl (by decide) (fun z => ?_) (fun z => ?_)
    · have k := k.1 z
      refine q_iconst (pc := 77) (v := 0) rfl (by decide) ?_
      exact q_zret (pc := 78) rfl rfl (by decide) ⟨_, rfl, k⟩
    · have k := k.2 z
      refine q_iload_n (pc := 19) rfl rfl ?_
      refine q_iload_n (pc := 20) rfl rfl ?_
      refine q_sipush (pc := 21) (v := 999) rfl (by decide) ?_
      refine q_callS (kd := 0) (pc := 24) (As := [q_i a3, q_i a2, q_i 999]) (rest := []) rfl rfl rfl  rfl (Nat.le_of_ble_eq_true rfl) ?_
      refine q_den_mono _ _ _ _ _ _ ?_ (dn_X5_isIn (d := d + 1)  k)
      rintro _ g5 ⟨r6, rfl, k⟩
      refine q_if_eq (pc := 27) (tgt := 77) rfl (by decide) (fun z => ?_) (fun z => ?_)
      · have k := k.1 z
        refine q_iconst (pc := 77) (v := 0) rfl (by decide) ?_
        exact q_zret (pc := 78) rfl rfl (by decide) ⟨_, rfl, k⟩
      · have k := k.2 z
        refine q_iload (pc := 30) rfl rfl ?_
        refine q_iload_n (pc := 32) rfl rfl ?_
        refine q_sipush (pc := 33) (v := 999) rfl (by decide) ?_
        refine q_callS (kd := 0) (pc := 36) (As := [q_i a4, q_i a3, q_i 999]) (rest := []) rfl rfl rfl  rfl (Nat.le_of_ble_eq_true rfl) ?_
        refine q_den_mono _ _ _ _ _ _ ?_ (dn_X5_isIn (d := d + 1)  k)
        rintro _ g7 ⟨r8, rfl, k⟩
        refine q_if_eq (pc := 39) (tgt := 77) rfl (by decide) (fun z => ?_) (fun z => ?_)
        · have k := k.1 z
          refine q_iconst (pc := 77) (v := 0) rfl (by decide) ?_
          exact q_zret (pc := 78) rfl rfl (by decide) ⟨_, rfl, k⟩
        · have k := k.2 z
          refine q_iload (pc := 42) rfl rfl ?_
          refine q_iconst (pc := 44) (v := 0) rfl (by decide) ?_
          refine q_bipush (pc := 45) (v := 9) rfl (by decide) ?_
          refine q_callS (kd := 0) (pc := 47) (As := [q_i a5, q_i 0, q_i 9]) (rest := []) rfl rfl rfl  rfl (Nat.le_of_ble_eq_true rfl) ?_
          refine q_den_mono _ _ _ _ _ _ ?_ (dn_X5_isIn (d := d + 1)  k)
          rintro _ g9 ⟨r10, rfl, k⟩
          refine q_if_eq (pc := 50) (tgt := 77) rfl (by decide) (fun z => ?_) (fun z => ?_)
          · have k := k.1 z
            refine q_iconst (pc := 77) (v := 0) rfl (by decide) ?_
            exact q_zret (pc := 78) rfl rfl (by decide) ⟨_, rfl, k⟩
          · have k := k.2 z
            refine q_iload (pc := 53) rfl rfl ?_
            refine q_iload (pc := 55) rfl rfl ?_
            refine q_bipush (pc := 57) (v := 9) rfl (by decide) ?_
            refine q_callS (kd := 0) (pc := 59) (As := [q_i a6, q_i a5, q_i 9]) (rest := []) rfl rfl rfl  rfl (Nat.le_of_ble_eq_true rfl) ?_
            refine q_den_mono _ _ _ _ _ _ ?_ (dn_X5_isIn (d := d + 1)  k)
            rintro _ g11 ⟨r12, rfl, k⟩
            refine q_if_eq (pc := 62) (tgt := 77) rfl (by decide) (fun z => ?_) (fun z => ?_)
            · have k := k.1 z
              refine q_iconst (pc := 77) (v := 0) rfl (by decide) ?_
              exact q_zret (pc := 78) rfl rfl (by decide) ⟨_, rfl, k⟩
            · have k := k.2 z
              refine q_iload (pc := 65) rfl rfl ?_
              refine q_iload (pc := 67) rfl rfl ?_
              refine q_bipush (pc := 69) (v := 9) rfl (by decide) ?_
              refine q_callS (kd := 0) (pc := 71) (As := [q_i a7, q_i a6, q_i 9]) (rest := []) rfl rfl rfl  rfl (Nat.le_of_ble_eq_true rfl) ?_
              refine q_den_mono _ _ _ _ _ _ ?_ (dn_X5_isIn (d := d + 1)  k)
              rintro _ g13 ⟨r14, rfl, k⟩
              refine q_if_ne (pc := 74) (tgt := 79) rfl (by decide) (fun z => ?_) (fun z => ?_)
              · have k := k.2 z
                refine q_aload_n (pc := 79) rfl rfl ?_
                refine q_getR (pc := 80) rfl (by decide) rfl rfl rfl ?_
                refine q_iconst (pc := 83) (v := 4) rfl (by decide) ?_
                refine q_iload_n (pc := 84) rfl rfl ?_
                refine q_imul (pc := 85) rfl ?_
                refine q_iconst (pc := 86) (v := 1) rfl (by decide) ?_
                refine q_iadd (pc := 87) rfl ?_
                refine q_iload_n (pc := 88) rfl rfl ?_
                obtain ⟨b15, k⟩ := k
                refine q_iastore (pc := 89) rfl (by decide) rfl rfl b15 ?_
                refine q_aload_n (pc := 90) rfl rfl ?_
                refine q_getR (pc := 91) rfl (by decide) rfl rfl rfl ?_
                refine q_iconst (pc := 94) (v := 4) rfl (by decide) ?_
                refine q_iload_n (pc := 95) rfl rfl ?_
                refine q_imul (pc := 96) rfl ?_
                refine q_iconst (pc := 97) (v := 2) rfl (by decide) ?_
                refine q_iadd (pc := 98) rfl ?_
                refine q_iload_n (pc := 99) rfl rfl ?_
                obtain ⟨b16, k⟩ := k
                refine q_iastore (pc := 100) rfl (by decide) rfl rfl b16 ?_
                refine q_aload_n (pc := 101) rfl rfl ?_
                refine q_getR (pc := 102) rfl (by decide) rfl rfl rfl ?_
                refine q_iconst (pc := 105) (v := 4) rfl (by decide) ?_
                refine q_iload_n (pc := 106) rfl rfl ?_
                refine q_imul (pc := 107) rfl ?_
                refine q_iconst (pc := 108) (v := 3) rfl (by decide) ?_
                refine q_iadd (pc := 109) rfl ?_
                refine q_iload (pc := 110) rfl rfl ?_
                obtain ⟨b17, k⟩ := k
                refine q_iastore (pc := 112) rfl (by decide) rfl rfl b17 ?_
                refine q_aload_n (pc := 113) rfl rfl ?_
                refine q_getR (pc := 114) rfl (by decide) rfl rfl rfl ?_
                refine q_iconst (pc := 117) (v := 4) rfl (by decide) ?_
                refine q_iload_n (pc := 118) rfl rfl ?_
                refine q_imul (pc := 119) rfl ?_
                refine q_iconst (pc := 120) (v := 1) rfl (by decide) ?_
                refine q_iadd (pc := 121) rfl ?_
                refine q_iload (pc := 122) rfl rfl ?_
                obtain ⟨b18, k⟩ := k
                refine q_iastore (pc := 124) rfl (by decide) rfl rfl b18 ?_
                refine q_aload_n (pc := 125) rfl rfl ?_
                refine q_getR (pc := 126) rfl (by decide) rfl rfl rfl ?_
                refine q_iconst (pc := 129) (v := 4) rfl (by decide) ?_
                refine q_iload_n (pc := 130) rfl rfl ?_
                refine q_imul (pc := 131) rfl ?_
                refine q_iconst (pc := 132) (v := 2) rfl (by decide) ?_
                refine q_iadd (pc := 133) rfl ?_
                refine q_iload (pc := 134) rfl rfl ?_
                obtain ⟨b19, k⟩ := k
                refine q_iastore (pc := 136) rfl (by decide) rfl rfl b19 ?_
                refine q_aload_n (pc := 137) rfl rfl ?_
                refine q_getR (pc := 138) rfl (by decide) rfl rfl rfl ?_
                refine q_iconst (pc := 141) (v := 4) rfl (by decide) ?_
                refine q_iload_n (pc := 142) rfl rfl ?_
                refine q_imul (pc := 143) rfl ?_
                refine q_iconst (pc := 144) (v := 3) rfl (by decide) ?_
                refine q_iadd (pc := 145) rfl ?_
                refine q_iload (pc := 146) rfl rfl ?_
                obtain ⟨b20, k⟩ := k
                refine q_iastore (pc := 148) rfl (by decide) rfl rfl b20 ?_
                refine q_iconst (pc := 149) (v := 1) rfl (by decide) ?_
                exact q_zret (pc := 150) rfl rfl (by decide) ⟨_, rfl, k⟩
              · have k := k.1 z
                refine q_iconst (pc := 77) (v := 0) rfl (by decide) ?_
                exact q_zret (pc := 78) rfl rfl (by decide) ⟨_, rfl, k⟩
set_option maxHeartbeats 4000000 in
set_option maxRecDepth 100000 in
theorem dl_X5_reaches_29 {d : Nat} {x2 : Int32} {x4 : Int32} {x5 : Int32} {E : Int32 → Int32 → q_H → Prop} {Q : Int32 → q_H → Prop} (hE : ∀ (x3 : Int32) (x6 : Int32) (h : q_H), E x3 x6 h → q_run (q_pcs q_t_X5_reaches) 5 7 none (q_den (d)) 3 (q_ri Q) 77 [(0, q_r 18 0), (2, q_i x2), (3, q_i x3), (4, q_i x4), (5, q_i x5), (6, q_i x6)] [] h) : ∀ (n : Nat) (x3 : Int32) (x6 : Int32) (h : q_H), lp_X5_reaches_29 x2 x4 x5 E n x3 x6 h → q_run (q_pcs q_t_X5_reaches) 5 7 none (q_den (d)) 3 (q_ri Q) 29 [(0, q_r 18 0), (2, q_i x2), (3, q_i x3), (4, q_i x4), (5, q_i x5), (6, q_i x6)] [] h := by
  intro n
  induction n with
  | zero => intro x3 x6 h k; exact k.elim
  | succ n ih =>
    intro x3 x6 h k
    unfold lp_X5_reaches_29 at k
    refine q_iload (pc := 29) rfl rfl ?_
    refine q_aload_n (pc := 31) rfl rfl ?_
    refine q_getI (pc := 32) rfl (by decide) rfl rfl rfl ?_
    refine q_icmp_ge (pc := 35) (tgt := 77) rfl (by decide) (fun z => ?_) (fun z => ?_)
    · have k := k.1 z
      refine q_sub (pc := 77) (ks := [0, 1, 2, 3, 4, 5]) rfl ?_
      exact hE _ _ _ k
    · have k := k.2 z
      refine q_iload_n (pc := 38) rfl rfl ?_
      refine q_iload (pc := 39) rfl rfl ?_
      refine q_ishr (pc := 41) rfl ?_
      refine q_iconst (pc := 42) (v := 1) rfl (by decide) ?_
      refine q_iand (pc := 43) rfl ?_
      refine q_iconst (pc := 44) (v := 1) rfl (by decide) ?_
      refine q_icmp_ne (pc := 45) (tgt := 71) rfl (by decide) (fun z => ?_) (fun z => ?_)
      · have k := k.2 z
        refine q_iinc (pc := 71) (v := (x6 + 1)) (ls1 := [(6, q_i (x6 + 1)), (0, q_r 18 0), (2, q_i x2), (3, q_i x3), (4, q_i x4), (5, q_i x5)]) rfl (by decide) rfl (congrArg (fun z => x6 + z) (by decide : Int32.ofInt 1 = 1)) rfl ?_
        refine q_goto (pc := 74) (tgt := 29) rfl (by decide) ?_
        refine q_sub (pc := 29) (ks := [1, 2, 3, 4, 5, 0]) rfl ?_
        exact ih _ _ _ k
      · have k := k.1 z
        refine q_aload_n (pc := 48) rfl rfl ?_
        refine q_getR (pc := 49) rfl (by decide) rfl rfl rfl ?_
        refine q_bipush (pc := 52) (v := 6) rfl (by decide) ?_
        refine q_iload (pc := 54) rfl rfl ?_
        refine q_imul (pc := 56) rfl ?_
        refine q_iload (pc := 57) rfl rfl ?_
        refine q_iadd (pc := 59) rfl ?_
        obtain ⟨b1, k⟩ := k
        refine q_zaload (pc := 60) rfl (by decide) rfl rfl b1 ?_
        refine q_if_eq (pc := 61) (tgt := 71) rfl (by decide) (fun z => ?_) (fun z => ?_)
        · have k := k.1 z
          refine q_iinc (pc := 71) (v := (x6 + 1)) (ls1 := [(6, q_i (x6 + 1)), (0, q_r 18 0), (2, q_i x2), (3, q_i x3), (4, q_i x4), (5, q_i x5)]) rfl (by decide) rfl (congrArg (fun z => x6 + z) (by decide : Int32.ofInt 1 = 1)) rfl ?_
          refine q_goto (pc := 74) (tgt := 29) rfl (by decide) ?_
          refine q_sub (pc := 29) (ks := [1, 2, 3, 4, 5, 0]) rfl ?_
          exact ih _ _ _ k
        · have k := k.2 z
          refine q_iload_n (pc := 64) rfl rfl ?_
          refine q_iconst (pc := 65) (v := 1) rfl (by decide) ?_
          refine q_iload (pc := 66) rfl rfl ?_
          refine q_ishl (pc := 68) rfl ?_
          refine q_ior (pc := 69) rfl ?_
          refine q_istore_n (pc := 70) (ls1 := [(3, q_i (x3 ||| (1 <<< (x6 &&& 31)))), (0, q_r 18 0), (2, q_i x2), (4, q_i x4), (5, q_i x5), (6, q_i x6)]) rfl (by decide) rfl ?_
          refine q_iinc (pc := 71) (v := (x6 + 1)) (ls1 := [(6, q_i (x6 + 1)), (3, q_i (x3 ||| (1 <<< (x6 &&& 31)))), (0, q_r 18 0), (2, q_i x2), (4, q_i x4), (5, q_i x5)]) rfl (by decide) rfl (congrArg (fun z => x6 + z) (by decide : Int32.ofInt 1 = 1)) rfl ?_
          refine q_goto (pc := 74) (tgt := 29) rfl (by decide) ?_
          refine q_sub (pc := 29) (ks := [2, 3, 1, 4, 5, 0]) rfl ?_
          exact ih _ _ _ k
set_option maxHeartbeats 4000000 in
set_option maxRecDepth 100000 in
theorem dl_X5_reaches_17 {d : Nat} {x2 : Int32} {x4 : Int32} {E : Int32 → Int32 → q_H → Prop} {Q : Int32 → q_H → Prop} (hE : ∀ (x3 : Int32) (x5 : Int32) (h : q_H), E x3 x5 h → q_run (q_pcs q_t_X5_reaches) 5 7 none (q_den (d)) 3 (q_ri Q) 83 [(0, q_r 18 0), (2, q_i x2), (3, q_i x3), (4, q_i x4), (5, q_i x5)] [] h) : ∀ (n : Nat) (x3 : Int32) (x5 : Int32) (h : q_H), lp_X5_reaches_17 x2 x4 E n x3 x5 h → q_run (q_pcs q_t_X5_reaches) 5 7 none (q_den (d)) 3 (q_ri Q) 17 [(0, q_r 18 0), (2, q_i x2), (3, q_i x3), (4, q_i x4), (5, q_i x5)] [] h := by
  intro n
  induction n with
  | zero => intro x3 x5 h k; exact k.elim
  | succ n ih =>
    intro x3 x5 h k
    unfold lp_X5_reaches_17 at k
    refine q_iload (pc := 17) rfl rfl ?_
    refine q_aload_n (pc := 19) rfl rfl ?_
    refine q_getI (pc := 20) rfl (by decide) rfl rfl rfl ?_
    refine q_icmp_ge (pc := 23) (tgt := 83) rfl (by decide) (fun z => ?_) (fun z => ?_)
    · have k := k.1 z
      refine q_sub (pc := 83) (ks := [0, 1, 2, 3, 4]) rfl ?_
      exact hE _ _ _ k
    · have k := k.2 z
      refine q_iconst (pc := 26) (v := 0) rfl (by decide) ?_
      refine q_istore (pc := 27) (ls1 := [(6, q_i 0), (0, q_r 18 0), (2, q_i x2), (3, q_i x3), (4, q_i x4), (5, q_i x5)]) rfl (by decide) rfl ?_
      obtain ⟨n2, k⟩ := k
      refine q_sub (pc := 29) (ks := [1, 2, 3, 4, 5, 0]) rfl ?_
      refine dl_X5_reaches_29 (fun y3_2 y6_2 g2 k => ?_) n2 _ _ _ k
      refine q_iinc (pc := 77) (v := (x5 + 1)) (ls1 := [(5, q_i (x5 + 1)), (0, q_r 18 0), (2, q_i x2), (3, q_i y3_2), (4, q_i x4), (6, q_i y6_2)]) rfl (by decide) rfl (congrArg (fun z => x5 + z) (by decide : Int32.ofInt 1 = 1)) rfl ?_
      refine q_goto (pc := 80) (tgt := 17) rfl (by decide) ?_
      refine q_sub (pc := 17) (ks := [1, 2, 3, 4, 0]) rfl ?_
      exact ih _ _ _ k
set_option maxHeartbeats 4000000 in
set_option maxRecDepth 100000 in
theorem dl_X5_reaches_7 {d : Nat} {x2 : Int32} {E : Int32 → Int32 → q_H → Prop} {Q : Int32 → q_H → Prop} (hE : ∀ (x3 : Int32) (x4 : Int32) (h : q_H), E x3 x4 h → q_run (q_pcs q_t_X5_reaches) 5 7 none (q_den (d)) 3 (q_ri Q) 89 [(0, q_r 18 0), (2, q_i x2), (3, q_i x3), (4, q_i x4)] [] h) : ∀ (n : Nat) (x3 : Int32) (x4 : Int32) (h : q_H), lp_X5_reaches_7 x2 E n x3 x4 h → q_run (q_pcs q_t_X5_reaches) 5 7 none (q_den (d)) 3 (q_ri Q) 7 [(0, q_r 18 0), (2, q_i x2), (3, q_i x3), (4, q_i x4)] [] h := by
  intro n
  induction n with
  | zero => intro x3 x4 h k; exact k.elim
  | succ n ih =>
    intro x3 x4 h k
    unfold lp_X5_reaches_7 at k
    refine q_iload (pc := 7) rfl rfl ?_
    refine q_bipush (pc := 9) (v := 6) rfl (by decide) ?_
    refine q_icmp_ge (pc := 11) (tgt := 89) rfl (by decide) (fun z => ?_) (fun z => ?_)
    · have k := k.1 z
      refine q_sub (pc := 89) (ks := [0, 1, 2, 3]) rfl ?_
      exact hE _ _ _ k
    · have k := k.2 z
      refine q_iconst (pc := 14) (v := 0) rfl (by decide) ?_
      refine q_istore (pc := 15) (ls1 := [(5, q_i 0), (0, q_r 18 0), (2, q_i x2), (3, q_i x3), (4, q_i x4)]) rfl (by decide) rfl ?_
      obtain ⟨n3, k⟩ := k
      refine q_sub (pc := 17) (ks := [1, 2, 3, 4, 0]) rfl ?_
      refine dl_X5_reaches_17 (fun y3_3 y5_3 g3 k => ?_) n3 _ _ _ k
      refine q_iinc (pc := 83) (v := (x4 + 1)) (ls1 := [(4, q_i (x4 + 1)), (0, q_r 18 0), (2, q_i x2), (3, q_i y3_3), (5, q_i y5_3)]) rfl (by decide) rfl (congrArg (fun z => x4 + z) (by decide : Int32.ofInt 1 = 1)) rfl ?_
      refine q_goto (pc := 86) (tgt := 7) rfl (by decide) ?_
      refine q_sub (pc := 7) (ks := [1, 2, 3, 0]) rfl ?_
      exact ih _ _ _ k
set_option maxHeartbeats 4000000 in
set_option maxRecDepth 100000 in
theorem dn_X5_reaches {d : Nat} {a1 : Int32} {a2 : Int32} {h : q_H} {Q : Int32 → q_H → Prop} (k : wp_X5_reaches a1 a2 h Q) : q_den (d + 1) 90 [q_r 18 0, q_i a1, q_i a2] h (q_ri Q) := by
  unfold wp_X5_reaches at k
  refine ⟨by decide, Nat.le_of_ble_eq_true rfl, ?_⟩
  show q_run (q_pcs q_t_X5_reaches) 5 7 none (q_den d) 3 (q_ri Q) 0 [(0, q_r 18 0), (1, q_i a1), (2, q_i a2)] [] h
  refine q_iconst (pc := 0) (v := 1) rfl (by decide) ?_
  refine q_iload_n (pc := 1) rfl rfl ?_
  refine q_ishl (pc := 2) rfl ?_
  refine q_istore_n (pc := 3) (ls1 := [(3, q_i (1 <<< (a1 &&& 31))), (0, q_r 18 0), (1, q_i a1), (2, q_i a2)]) rfl (by decide) rfl ?_
  refine q_iconst (pc := 4) (v := 0) rfl (by decide) ?_
  refine q_istore (pc := 5) (ls1 := [(4, q_i 0), (3, q_i (1 <<< (a1 &&& 31))), (0, q_r 18 0), (1, q_i a1), (2, q_i a2)]) rfl (by decide) rfl ?_
  obtain ⟨n4, k⟩ := k
  refine q_sub (pc := 7) (ks := [2, 4, 1, 0]) rfl ?_
  refine dl_X5_reaches_7 (fun y3_4 y4_4 g4 k => ?_) n4 _ _ _ k
  refine q_iload_n (pc := 89) rfl rfl ?_
  refine q_iload_n (pc := 90) rfl rfl ?_
  refine q_ishr (pc := 91) rfl ?_
  refine q_iconst (pc := 92) (v := 1) rfl (by decide) ?_
  refine q_iand (pc := 93) rfl ?_
  refine q_iconst (pc := 94) (v := 1) rfl (by decide) ?_
  refine q_icmp_ne (pc := 95) (tgt := 102) rfl (by decide) (fun z => ?_) (fun z => ?_)
  · have k := k.2 z
    refine q_iconst (pc := 102) (v := 0) rfl (by decide) ?_
    exact q_zret (pc := 103) rfl rfl (by decide) ⟨_, rfl, k⟩
  · have k := k.1 z
    refine q_iconst (pc := 98) (v := 1) rfl (by decide) ?_
    refine q_goto (pc := 99) (tgt := 103) rfl (by decide) ?_
    exact q_zret (pc := 103) rfl rfl (by decide) ⟨_, rfl, k⟩
set_option maxHeartbeats 4000000 in
set_option maxRecDepth 100000 in
theorem dn_X5_need {d : Nat} {a1 : Int32} {a2 : Int32} {a3 : Int32} {h : q_H} {Q : Int32 → q_H → Prop} (k : wp_X5_need a1 a2 a3 h Q) : q_den (d + 3) 91 [q_r 18 0, q_i a1, q_i a2, q_i a3] h (q_ri Q) := by
  unfold wp_X5_need at k
  refine ⟨by decide, Nat.le_of_ble_eq_true rfl, ?_⟩
  show q_run (q_pcs q_t_X5_need) 5 4 none (q_den (d + 2)) 3 (q_ri Q) 0 [(0, q_r 18 0), (1, q_i a1), (2, q_i a2), (3, q_i a3)] [] h
  refine q_aload_n (pc := 0) rfl rfl ?_
  refine q_iload_n (pc := 1) rfl rfl ?_
  refine q_callV (pc := 2) (As := [q_i a1]) (rest := []) rfl rfl rfl (by decide) rfl rfl (Nat.le_of_ble_eq_true rfl) ?_
  refine q_den_mono _ _ _ _ _ _ ?_ (dn_X5_isPart (d := d)  k)
  rintro _ g1 ⟨r2, rfl, k⟩
  refine q_if_eq (pc := 5) (tgt := 44) rfl (by decide) (fun z => ?_) (fun z => ?_)
  · have k := k.1 z
    refine q_iconst (pc := 44) (v := 0) rfl (by decide) ?_
    exact q_zret (pc := 45) rfl rfl (by decide) ⟨_, rfl, k⟩
  · have k := k.2 z
    refine q_aload_n (pc := 8) rfl rfl ?_
    refine q_iload_n (pc := 9) rfl rfl ?_
    refine q_callV (pc := 10) (As := [q_i a2]) (rest := []) rfl rfl rfl (by decide) rfl rfl (Nat.le_of_ble_eq_true rfl) ?_
    refine q_den_mono _ _ _ _ _ _ ?_ (dn_X5_isPart (d := d)  k)
    rintro _ g3 ⟨r4, rfl, k⟩
    refine q_if_eq (pc := 13) (tgt := 44) rfl (by decide) (fun z => ?_) (fun z => ?_)
    · have k := k.1 z
      refine q_iconst (pc := 44) (v := 0) rfl (by decide) ?_
      exact q_zret (pc := 45) rfl rfl (by decide) ⟨_, rfl, k⟩
    · have k := k.2 z
      refine q_aload_n (pc := 16) rfl rfl ?_
      refine q_getR (pc := 17) rfl (by decide) rfl rfl rfl ?_
      refine q_bipush (pc := 20) (v := 6) rfl (by decide) ?_
      refine q_iload_n (pc := 22) rfl rfl ?_
      refine q_imul (pc := 23) rfl ?_
      refine q_iload_n (pc := 24) rfl rfl ?_
      refine q_iadd (pc := 25) rfl ?_
      obtain ⟨b5, k⟩ := k
      refine q_zaload (pc := 26) rfl (by decide) rfl rfl b5 ?_
      refine q_iload_n (pc := 27) rfl rfl ?_
      refine q_icmp_eq (pc := 28) (tgt := 44) rfl (by decide) (fun z => ?_) (fun z => ?_)
      · have k := k.1 z
        refine q_iconst (pc := 44) (v := 0) rfl (by decide) ?_
        exact q_zret (pc := 45) rfl rfl (by decide) ⟨_, rfl, k⟩
      · have k := k.2 z
        refine q_iload_n (pc := 31) rfl rfl ?_
        refine q_if_eq (pc := 32) (tgt := 46) rfl (by decide) (fun z => ?_) (fun z => ?_)
        · have k := k.1 z
          refine q_aload_n (pc := 46) rfl rfl ?_
          refine q_getR (pc := 47) rfl (by decide) rfl rfl rfl ?_
          refine q_bipush (pc := 50) (v := 6) rfl (by decide) ?_
          refine q_iload_n (pc := 52) rfl rfl ?_
          refine q_imul (pc := 53) rfl ?_
          refine q_iload_n (pc := 54) rfl rfl ?_
          refine q_iadd (pc := 55) rfl ?_
          refine q_iload_n (pc := 56) rfl rfl ?_
          obtain ⟨b6, k⟩ := k
          obtain ⟨b7, k⟩ := k
          refine q_zastore (pc := 57) rfl (by decide) rfl rfl b7 b6 ?_
          refine q_iconst (pc := 58) (v := 1) rfl (by decide) ?_
          exact q_zret (pc := 59) rfl rfl (by decide) ⟨_, rfl, k⟩
        · have k := k.2 z
          refine q_aload_n (pc := 35) rfl rfl ?_
          refine q_iload_n (pc := 36) rfl rfl ?_
          refine q_iload_n (pc := 37) rfl rfl ?_
          refine q_callV (pc := 38) (As := [q_i a2, q_i a1]) (rest := []) rfl rfl rfl (by decide) rfl rfl (Nat.le_of_ble_eq_true rfl) ?_
          refine q_den_mono _ _ _ _ _ _ ?_ (dn_X5_reaches (d := d + 1)  k)
          rintro _ g8 ⟨r9, rfl, k⟩
          refine q_if_eq (pc := 41) (tgt := 46) rfl (by decide) (fun z => ?_) (fun z => ?_)
          · have k := k.1 z
            refine q_aload_n (pc := 46) rfl rfl ?_
            refine q_getR (pc := 47) rfl (by decide) rfl rfl rfl ?_
            refine q_bipush (pc := 50) (v := 6) rfl (by decide) ?_
            refine q_iload_n (pc := 52) rfl rfl ?_
            refine q_imul (pc := 53) rfl ?_
            refine q_iload_n (pc := 54) rfl rfl ?_
            refine q_iadd (pc := 55) rfl ?_
            refine q_iload_n (pc := 56) rfl rfl ?_
            obtain ⟨b10, k⟩ := k
            obtain ⟨b11, k⟩ := k
            refine q_zastore (pc := 57) rfl (by decide) rfl rfl b11 b10 ?_
            refine q_iconst (pc := 58) (v := 1) rfl (by decide) ?_
            exact q_zret (pc := 59) rfl rfl (by decide) ⟨_, rfl, k⟩
          · have k := k.2 z
            refine q_iconst (pc := 44) (v := 0) rfl (by decide) ?_
            exact q_zret (pc := 45) rfl rfl (by decide) ⟨_, rfl, k⟩
set_option maxHeartbeats 4000000 in
set_option maxRecDepth 100000 in
theorem dn_X5_isProgram {d : Nat} {a0 : Int32} {h : q_H} {Q : Int32 → q_H → Prop} (k : wp_X5_isProgram a0 h Q) : q_den (d + 2) 92 [q_i a0] h (q_ri Q) := by
  unfold wp_X5_isProgram at k
  refine ⟨by decide, Nat.le_of_ble_eq_true rfl, ?_⟩
  show q_run (q_pcs q_t_X5_isProgram) 5 1 none (q_den (d + 1)) 3 (q_ri Q) 0 [(0, q_i a0)] [] h
  refine q_iload_n (pc := 0) rfl rfl ?_
  refine q_iconst (pc := 1) (v := 0) rfl (by decide) ?_
  refine q_bipush (pc := 2) (v := 7) rfl (by decide) ?_
  refine q_callS (kd := 0) (pc := 4) (As := [q_i a0, q_i 0, q_i 7]) (rest := []) rfl rfl rfl  rfl (Nat.le_of_ble_eq_true rfl) ?_
  refine q_den_mono _ _ _ _ _ _ ?_ (dn_X5_isIn (d := d)  k)
  rintro _ g1 ⟨r2, rfl, k⟩
  exact q_zret (pc := 7) rfl rfl k.1 ⟨_, rfl, k.2⟩
set_option maxHeartbeats 4000000 in
set_option maxRecDepth 100000 in
theorem dn_X5_hold {d : Nat} {a1 : Int32} {a2 : Int32} {a3 : Int32} {a4 : Int32} {h : q_H} {Q : Int32 → q_H → Prop} (k : wp_X5_hold a1 a2 a3 a4 h Q) : q_den (d + 3) 93 [q_r 18 0, q_i a1, q_i a2, q_i a3, q_i a4] h (q_ri Q) := by
  unfold wp_X5_hold at k
  refine ⟨by decide, Nat.le_of_ble_eq_true rfl, ?_⟩
  show q_run (q_pcs q_t_X5_hold) 5 6 none (q_den (d + 2)) 1 (q_ri Q) 0 [(0, q_r 18 0), (1, q_i a1), (2, q_i a2), (3, q_i a3), (4, q_i a4)] [] h
  refine q_iload_n (pc := 0) rfl rfl ?_
  refine q_callS (kd := 0) (pc := 1) (As := [q_i a1]) (rest := []) rfl rfl rfl  rfl (Nat.le_of_ble_eq_true rfl) ?_
  refine q_den_mono _ _ _ _ _ _ ?_ (dn_X5_isProgram (d := d)  k)
  rintro _ g1 ⟨r2, rfl, k⟩
  refine q_if_eq (pc := 4) (tgt := 41) rfl (by decide) (fun z => ?_) (fun z => ?_)
  · have k := k.1 z
    refine q_iconst (pc := 41) (v := (-1)) rfl (by decide) ?_
    exact q_iret (pc := 42) rfl rfl ⟨_, rfl, k⟩
  · have k := k.2 z
    refine q_aload_n (pc := 7) rfl rfl ?_
    refine q_iload_n (pc := 8) rfl rfl ?_
    refine q_callV (pc := 9) (As := [q_i a2]) (rest := []) rfl rfl rfl (by decide) rfl rfl (Nat.le_of_ble_eq_true rfl) ?_
    refine q_den_mono _ _ _ _ _ _ ?_ (dn_X5_isPart (d := d)  k)
    rintro _ g3 ⟨r4, rfl, k⟩
    refine q_if_eq (pc := 12) (tgt := 41) rfl (by decide) (fun z => ?_) (fun z => ?_)
    · have k := k.1 z
      refine q_iconst (pc := 41) (v := (-1)) rfl (by decide) ?_
      exact q_iret (pc := 42) rfl rfl ⟨_, rfl, k⟩
    · have k := k.2 z
      refine q_iload_n (pc := 15) rfl rfl ?_
      refine q_if_lt (pc := 16) (tgt := 41) rfl (by decide) (fun z => ?_) (fun z => ?_)
      · have k := k.1 z
        refine q_iconst (pc := 41) (v := (-1)) rfl (by decide) ?_
        exact q_iret (pc := 42) rfl rfl ⟨_, rfl, k⟩
      · have k := k.2 z
        refine q_iload_n (pc := 19) rfl rfl ?_
        refine q_iload (pc := 20) rfl rfl ?_
        refine q_icmp_ge (pc := 22) (tgt := 41) rfl (by decide) (fun z => ?_) (fun z => ?_)
        · have k := k.1 z
          refine q_iconst (pc := 41) (v := (-1)) rfl (by decide) ?_
          exact q_iret (pc := 42) rfl rfl ⟨_, rfl, k⟩
        · have k := k.2 z
          refine q_iload (pc := 25) rfl rfl ?_
          refine q_bipush (pc := 27) (v := 64) rfl (by decide) ?_
          refine q_icmp_gt (pc := 29) (tgt := 41) rfl (by decide) (fun z => ?_) (fun z => ?_)
          · have k := k.1 z
            refine q_iconst (pc := 41) (v := (-1)) rfl (by decide) ?_
            exact q_iret (pc := 42) rfl rfl ⟨_, rfl, k⟩
          · have k := k.2 z
            refine q_aload_n (pc := 32) rfl rfl ?_
            refine q_getI (pc := 33) rfl (by decide) rfl rfl rfl ?_
            refine q_bipush (pc := 36) (v := 20) rfl (by decide) ?_
            refine q_icmp_ne (pc := 38) (tgt := 43) rfl (by decide) (fun z => ?_) (fun z => ?_)
            · have k := k.2 z
              refine q_iconst (pc := 43) (v := 4) rfl (by decide) ?_
              refine q_aload_n (pc := 44) rfl rfl ?_
              refine q_getI (pc := 45) rfl (by decide) rfl rfl rfl ?_
              refine q_imul (pc := 48) rfl ?_
              refine q_istore (pc := 49) (ls1 := [(5, q_i (4 * (Prod.fst g3 18 0 1))), (0, q_r 18 0), (1, q_i a1), (2, q_i a2), (3, q_i a3), (4, q_i a4)]) rfl (by decide) rfl ?_
              refine q_aload_n (pc := 51) rfl rfl ?_
              refine q_getR (pc := 52) rfl (by decide) rfl rfl rfl ?_
              refine q_iload (pc := 55) rfl rfl ?_
              refine q_iload_n (pc := 57) rfl rfl ?_
              obtain ⟨b5, k⟩ := k
              refine q_iastore (pc := 58) rfl (by decide) rfl rfl b5 ?_
              refine q_aload_n (pc := 59) rfl rfl ?_
              refine q_getR (pc := 60) rfl (by decide) rfl rfl rfl ?_
              refine q_iload (pc := 63) rfl rfl ?_
              refine q_iconst (pc := 65) (v := 1) rfl (by decide) ?_
              refine q_iadd (pc := 66) rfl ?_
              refine q_iload_n (pc := 67) rfl rfl ?_
              obtain ⟨b6, k⟩ := k
              refine q_iastore (pc := 68) rfl (by decide) rfl rfl b6 ?_
              refine q_aload_n (pc := 69) rfl rfl ?_
              refine q_getR (pc := 70) rfl (by decide) rfl rfl rfl ?_
              refine q_iload (pc := 73) rfl rfl ?_
              refine q_iconst (pc := 75) (v := 2) rfl (by decide) ?_
              refine q_iadd (pc := 76) rfl ?_
              refine q_iload_n (pc := 77) rfl rfl ?_
              obtain ⟨b7, k⟩ := k
              refine q_iastore (pc := 78) rfl (by decide) rfl rfl b7 ?_
              refine q_aload_n (pc := 79) rfl rfl ?_
              refine q_getR (pc := 80) rfl (by decide) rfl rfl rfl ?_
              refine q_iload (pc := 83) rfl rfl ?_
              refine q_iconst (pc := 85) (v := 3) rfl (by decide) ?_
              refine q_iadd (pc := 86) rfl ?_
              refine q_iload (pc := 87) rfl rfl ?_
              obtain ⟨b8, k⟩ := k
              refine q_iastore (pc := 89) rfl (by decide) rfl rfl b8 ?_
              refine q_aload_n (pc := 90) rfl rfl ?_
              refine q_dup (pc := 91) rfl rfl ?_
              refine q_getI (pc := 92) rfl (by decide) rfl rfl rfl ?_
              refine q_iconst (pc := 95) (v := 1) rfl (by decide) ?_
              refine q_iadd (pc := 96) rfl ?_
              refine q_putI (pc := 97) rfl (by decide) rfl rfl rfl ?_
              refine q_aload_n (pc := 100) rfl rfl ?_
              refine q_getI (pc := 101) rfl (by decide) rfl rfl rfl ?_
              refine q_iconst (pc := 104) (v := 1) rfl (by decide) ?_
              refine q_isub (pc := 105) rfl ?_
              exact q_iret (pc := 106) rfl rfl ⟨_, rfl, k⟩
            · have k := k.1 z
              refine q_iconst (pc := 41) (v := (-1)) rfl (by decide) ?_
              exact q_iret (pc := 42) rfl rfl ⟨_, rfl, k⟩
set_option maxHeartbeats 4000000 in
set_option maxRecDepth 100000 in
theorem dn_X5_back {d : Nat} {a1 : Int32} {a2 : Int32} {h : q_H} {Q : Int32 → q_H → Prop} (k : wp_X5_back a1 a2 h Q) : q_den (d + 2) 94 [q_r 18 0, q_i a1, q_i a2] h (q_ri Q) := by
  unfold wp_X5_back at k
  refine ⟨by decide, Nat.le_of_ble_eq_true rfl, ?_⟩
  show q_run (q_pcs q_t_X5_back) 5 3 none (q_den (d + 1)) 3 (q_ri Q) 0 [(0, q_r 18 0), (1, q_i a1), (2, q_i a2)] [] h
  refine q_iload_n (pc := 0) rfl rfl ?_
  refine q_iconst (pc := 1) (v := 0) rfl (by decide) ?_
  refine q_aload_n (pc := 2) rfl rfl ?_
  refine q_getI (pc := 3) rfl (by decide) rfl rfl rfl ?_
  refine q_iconst (pc := 6) (v := 1) rfl (by decide) ?_
  refine q_isub (pc := 7) rfl ?_
  refine q_callS (kd := 0) (pc := 8) (As := [q_i a1, q_i 0, q_i ((Prod.fst h 18 0 1) - 1)]) (rest := []) rfl rfl rfl  rfl (Nat.le_of_ble_eq_true rfl) ?_
  refine q_den_mono _ _ _ _ _ _ ?_ (dn_X5_isIn (d := d)  k)
  rintro _ g1 ⟨r2, rfl, k⟩
  refine q_if_eq (pc := 11) (tgt := 43) rfl (by decide) (fun z => ?_) (fun z => ?_)
  · have k := k.1 z
    refine q_iconst (pc := 43) (v := 0) rfl (by decide) ?_
    exact q_zret (pc := 44) rfl rfl (by decide) ⟨_, rfl, k⟩
  · have k := k.2 z
    refine q_iload_n (pc := 14) rfl rfl ?_
    refine q_aload_n (pc := 15) rfl rfl ?_
    refine q_getR (pc := 16) rfl (by decide) rfl rfl rfl ?_
    refine q_iconst (pc := 19) (v := 4) rfl (by decide) ?_
    refine q_iload_n (pc := 20) rfl rfl ?_
    refine q_imul (pc := 21) rfl ?_
    refine q_iconst (pc := 22) (v := 2) rfl (by decide) ?_
    refine q_iadd (pc := 23) rfl ?_
    obtain ⟨b3, k⟩ := k
    refine q_iaload (pc := 24) rfl (by decide) rfl rfl b3 ?_
    refine q_aload_n (pc := 25) rfl rfl ?_
    refine q_getR (pc := 26) rfl (by decide) rfl rfl rfl ?_
    refine q_iconst (pc := 29) (v := 4) rfl (by decide) ?_
    refine q_iload_n (pc := 30) rfl rfl ?_
    refine q_imul (pc := 31) rfl ?_
    refine q_iconst (pc := 32) (v := 3) rfl (by decide) ?_
    refine q_iadd (pc := 33) rfl ?_
    obtain ⟨b4, k⟩ := k
    refine q_iaload (pc := 34) rfl (by decide) rfl rfl b4 ?_
    refine q_iconst (pc := 35) (v := 1) rfl (by decide) ?_
    refine q_isub (pc := 36) rfl ?_
    refine q_callS (kd := 0) (pc := 37) (As := [q_i a2, q_i (Prod.fst g1 24 0 (Int32.toNatClampNeg ((4 * a1) + 2))), q_i ((Prod.fst g1 24 0 (Int32.toNatClampNeg ((4 * a1) + 3))) - 1)]) (rest := []) rfl rfl rfl  rfl (Nat.le_of_ble_eq_true rfl) ?_
    refine q_den_mono _ _ _ _ _ _ ?_ (dn_X5_isIn (d := d)  k)
    rintro _ g5 ⟨r6, rfl, k⟩
    refine q_if_ne (pc := 40) (tgt := 45) rfl (by decide) (fun z => ?_) (fun z => ?_)
    · have k := k.2 z
      refine q_aload_n (pc := 45) rfl rfl ?_
      refine q_getR (pc := 46) rfl (by decide) rfl rfl rfl ?_
      refine q_iconst (pc := 49) (v := 4) rfl (by decide) ?_
      refine q_iload_n (pc := 50) rfl rfl ?_
      refine q_imul (pc := 51) rfl ?_
      refine q_iconst (pc := 52) (v := 3) rfl (by decide) ?_
      refine q_iadd (pc := 53) rfl ?_
      refine q_iload_n (pc := 54) rfl rfl ?_
      obtain ⟨b7, k⟩ := k
      refine q_iastore (pc := 55) rfl (by decide) rfl rfl b7 ?_
      refine q_iconst (pc := 56) (v := 1) rfl (by decide) ?_
      exact q_zret (pc := 57) rfl rfl (by decide) ⟨_, rfl, k⟩
    · have k := k.1 z
      refine q_iconst (pc := 43) (v := 0) rfl (by decide) ?_
      exact q_zret (pc := 44) rfl rfl (by decide) ⟨_, rfl, k⟩
set_option maxHeartbeats 4000000 in
set_option maxRecDepth 100000 in
theorem dn_X5_timer {d : Nat} {a1 : Int32} {a2 : Int32} {a3 : Int32} {a4 : Int32} {h : q_H} {Q : Int32 → q_H → Prop} (k : wp_X5_timer a1 a2 a3 a4 h Q) : q_den (d + 3) 95 [q_r 18 0, q_i a1, q_i a2, q_i a3, q_i a4] h (q_ri Q) := by
  unfold wp_X5_timer at k
  refine ⟨by decide, Nat.le_of_ble_eq_true rfl, ?_⟩
  show q_run (q_pcs q_t_X5_timer) 5 6 none (q_den (d + 2)) 1 (q_ri Q) 0 [(0, q_r 18 0), (1, q_i a1), (2, q_i a2), (3, q_i a3), (4, q_i a4)] [] h
  refine q_iload_n (pc := 0) rfl rfl ?_
  refine q_callS (kd := 0) (pc := 1) (As := [q_i a1]) (rest := []) rfl rfl rfl  rfl (Nat.le_of_ble_eq_true rfl) ?_
  refine q_den_mono _ _ _ _ _ _ ?_ (dn_X5_isProgram (d := d)  k)
  rintro _ g1 ⟨r2, rfl, k⟩
  refine q_if_eq (pc := 4) (tgt := 45) rfl (by decide) (fun z => ?_) (fun z => ?_)
  · have k := k.1 z
    refine q_iconst (pc := 45) (v := (-1)) rfl (by decide) ?_
    exact q_iret (pc := 46) rfl rfl ⟨_, rfl, k⟩
  · have k := k.2 z
    refine q_aload_n (pc := 7) rfl rfl ?_
    refine q_iload_n (pc := 8) rfl rfl ?_
    refine q_callV (pc := 9) (As := [q_i a2]) (rest := []) rfl rfl rfl (by decide) rfl rfl (Nat.le_of_ble_eq_true rfl) ?_
    refine q_den_mono _ _ _ _ _ _ ?_ (dn_X5_isPart (d := d)  k)
    rintro _ g3 ⟨r4, rfl, k⟩
    refine q_if_eq (pc := 12) (tgt := 45) rfl (by decide) (fun z => ?_) (fun z => ?_)
    · have k := k.1 z
      refine q_iconst (pc := 45) (v := (-1)) rfl (by decide) ?_
      exact q_iret (pc := 46) rfl rfl ⟨_, rfl, k⟩
    · have k := k.2 z
      refine q_iload_n (pc := 15) rfl rfl ?_
      refine q_callS (kd := 0) (pc := 16) (As := [q_i a3]) (rest := []) rfl rfl rfl  rfl (Nat.le_of_ble_eq_true rfl) ?_
      refine q_den_mono _ _ _ _ _ _ ?_ (dn_X5_isTick (d := d)  k)
      rintro _ g5 ⟨r6, rfl, k⟩
      refine q_if_eq (pc := 19) (tgt := 45) rfl (by decide) (fun z => ?_) (fun z => ?_)
      · have k := k.1 z
        refine q_iconst (pc := 45) (v := (-1)) rfl (by decide) ?_
        exact q_iret (pc := 46) rfl rfl ⟨_, rfl, k⟩
      · have k := k.2 z
        refine q_iload (pc := 22) rfl rfl ?_
        refine q_callS (kd := 0) (pc := 24) (As := [q_i a4]) (rest := []) rfl rfl rfl  rfl (Nat.le_of_ble_eq_true rfl) ?_
        refine q_den_mono _ _ _ _ _ _ ?_ (dn_X5_isTick (d := d)  k)
        rintro _ g7 ⟨r8, rfl, k⟩
        refine q_if_eq (pc := 27) (tgt := 45) rfl (by decide) (fun z => ?_) (fun z => ?_)
        · have k := k.1 z
          refine q_iconst (pc := 45) (v := (-1)) rfl (by decide) ?_
          exact q_iret (pc := 46) rfl rfl ⟨_, rfl, k⟩
        · have k := k.2 z
          refine q_iload_n (pc := 30) rfl rfl ?_
          refine q_iload (pc := 31) rfl rfl ?_
          refine q_icmp_gt (pc := 33) (tgt := 45) rfl (by decide) (fun z => ?_) (fun z => ?_)
          · have k := k.1 z
            refine q_iconst (pc := 45) (v := (-1)) rfl (by decide) ?_
            exact q_iret (pc := 46) rfl rfl ⟨_, rfl, k⟩
          · have k := k.2 z
            refine q_aload_n (pc := 36) rfl rfl ?_
            refine q_getI (pc := 37) rfl (by decide) rfl rfl rfl ?_
            refine q_bipush (pc := 40) (v := 12) rfl (by decide) ?_
            refine q_icmp_ne (pc := 42) (tgt := 47) rfl (by decide) (fun z => ?_) (fun z => ?_)
            · have k := k.2 z
              refine q_iconst (pc := 47) (v := 4) rfl (by decide) ?_
              refine q_aload_n (pc := 48) rfl rfl ?_
              refine q_getI (pc := 49) rfl (by decide) rfl rfl rfl ?_
              refine q_imul (pc := 52) rfl ?_
              refine q_istore (pc := 53) (ls1 := [(5, q_i (4 * (Prod.fst g7 18 0 2))), (0, q_r 18 0), (1, q_i a1), (2, q_i a2), (3, q_i a3), (4, q_i a4)]) rfl (by decide) rfl ?_
              refine q_aload_n (pc := 55) rfl rfl ?_
              refine q_getR (pc := 56) rfl (by decide) rfl rfl rfl ?_
              refine q_iload (pc := 59) rfl rfl ?_
              refine q_iload_n (pc := 61) rfl rfl ?_
              obtain ⟨b9, k⟩ := k
              refine q_iastore (pc := 62) rfl (by decide) rfl rfl b9 ?_
              refine q_aload_n (pc := 63) rfl rfl ?_
              refine q_getR (pc := 64) rfl (by decide) rfl rfl rfl ?_
              refine q_iload (pc := 67) rfl rfl ?_
              refine q_iconst (pc := 69) (v := 1) rfl (by decide) ?_
              refine q_iadd (pc := 70) rfl ?_
              refine q_iload_n (pc := 71) rfl rfl ?_
              obtain ⟨b10, k⟩ := k
              refine q_iastore (pc := 72) rfl (by decide) rfl rfl b10 ?_
              refine q_aload_n (pc := 73) rfl rfl ?_
              refine q_getR (pc := 74) rfl (by decide) rfl rfl rfl ?_
              refine q_iload (pc := 77) rfl rfl ?_
              refine q_iconst (pc := 79) (v := 2) rfl (by decide) ?_
              refine q_iadd (pc := 80) rfl ?_
              refine q_iload_n (pc := 81) rfl rfl ?_
              obtain ⟨b11, k⟩ := k
              refine q_iastore (pc := 82) rfl (by decide) rfl rfl b11 ?_
              refine q_aload_n (pc := 83) rfl rfl ?_
              refine q_getR (pc := 84) rfl (by decide) rfl rfl rfl ?_
              refine q_iload (pc := 87) rfl rfl ?_
              refine q_iconst (pc := 89) (v := 3) rfl (by decide) ?_
              refine q_iadd (pc := 90) rfl ?_
              refine q_iload (pc := 91) rfl rfl ?_
              obtain ⟨b12, k⟩ := k
              refine q_iastore (pc := 93) rfl (by decide) rfl rfl b12 ?_
              refine q_aload_n (pc := 94) rfl rfl ?_
              refine q_dup (pc := 95) rfl rfl ?_
              refine q_getI (pc := 96) rfl (by decide) rfl rfl rfl ?_
              refine q_iconst (pc := 99) (v := 1) rfl (by decide) ?_
              refine q_iadd (pc := 100) rfl ?_
              refine q_putI (pc := 101) rfl (by decide) rfl rfl rfl ?_
              refine q_aload_n (pc := 104) rfl rfl ?_
              refine q_getI (pc := 105) rfl (by decide) rfl rfl rfl ?_
              refine q_iconst (pc := 108) (v := 1) rfl (by decide) ?_
              refine q_isub (pc := 109) rfl ?_
              exact q_iret (pc := 110) rfl rfl ⟨_, rfl, k⟩
            · have k := k.1 z
              refine q_iconst (pc := 45) (v := (-1)) rfl (by decide) ?_
              exact q_iret (pc := 46) rfl rfl ⟨_, rfl, k⟩
set_option maxHeartbeats 4000000 in
set_option maxRecDepth 100000 in
theorem dn_X5_rule {d : Nat} {a1 : Int32} {a2 : Int32} {a3 : Int32} {a4 : Int32} {h : q_H} {Q : Int32 → q_H → Prop} (k : wp_X5_rule a1 a2 a3 a4 h Q) : q_den (d + 3) 96 [q_r 18 0, q_i a1, q_i a2, q_i a3, q_i a4] h (q_ri Q) := by
  unfold wp_X5_rule at k
  refine ⟨by decide, Nat.le_of_ble_eq_true rfl, ?_⟩
  show q_run (q_pcs q_t_X5_rule) 5 5 none (q_den (d + 2)) 3 (q_ri Q) 0 [(0, q_r 18 0), (1, q_i a1), (2, q_i a2), (3, q_i a3), (4, q_i a4)] [] h
  refine q_aload_n (pc := 0) rfl rfl ?_
  refine q_iload_n (pc := 1) rfl rfl ?_
  refine q_callV (pc := 2) (As := [q_i a1]) (rest := []) rfl rfl rfl (by decide) rfl rfl (Nat.le_of_ble_eq_true rfl) ?_
  refine q_den_mono _ _ _ _ _ _ ?_ (dn_X5_isPart (d := d)  k)
  rintro _ g1 ⟨r2, rfl, k⟩
  refine q_if_eq (pc := 5) (tgt := 39) rfl (by decide) (fun z => ?_) (fun z => ?_)
  · have k := k.1 z
    refine q_iconst (pc := 39) (v := 0) rfl (by decide) ?_
    exact q_zret (pc := 40) rfl rfl (by decide) ⟨_, rfl, k⟩
  · have k := k.2 z
    refine q_iload_n (pc := 8) rfl rfl ?_
    refine q_iconst (pc := 9) (v := 0) rfl (by decide) ?_
    refine q_bipush (pc := 10) (v := 64) rfl (by decide) ?_
    refine q_callS (kd := 0) (pc := 12) (As := [q_i a2, q_i 0, q_i 64]) (rest := []) rfl rfl rfl  rfl (Nat.le_of_ble_eq_true rfl) ?_
    refine q_den_mono _ _ _ _ _ _ ?_ (dn_X5_isIn (d := d + 1)  k)
    rintro _ g3 ⟨r4, rfl, k⟩
    refine q_if_eq (pc := 15) (tgt := 39) rfl (by decide) (fun z => ?_) (fun z => ?_)
    · have k := k.1 z
      refine q_iconst (pc := 39) (v := 0) rfl (by decide) ?_
      exact q_zret (pc := 40) rfl rfl (by decide) ⟨_, rfl, k⟩
    · have k := k.2 z
      refine q_iload_n (pc := 18) rfl rfl ?_
      refine q_iload_n (pc := 19) rfl rfl ?_
      refine q_bipush (pc := 20) (v := 64) rfl (by decide) ?_
      refine q_callS (kd := 0) (pc := 22) (As := [q_i a3, q_i a2, q_i 64]) (rest := []) rfl rfl rfl  rfl (Nat.le_of_ble_eq_true rfl) ?_
      refine q_den_mono _ _ _ _ _ _ ?_ (dn_X5_isIn (d := d + 1)  k)
      rintro _ g5 ⟨r6, rfl, k⟩
      refine q_if_eq (pc := 25) (tgt := 39) rfl (by decide) (fun z => ?_) (fun z => ?_)
      · have k := k.1 z
        refine q_iconst (pc := 39) (v := 0) rfl (by decide) ?_
        exact q_zret (pc := 40) rfl rfl (by decide) ⟨_, rfl, k⟩
      · have k := k.2 z
        refine q_iload (pc := 28) rfl rfl ?_
        refine q_iload_n (pc := 30) rfl rfl ?_
        refine q_bipush (pc := 31) (v := 64) rfl (by decide) ?_
        refine q_callS (kd := 0) (pc := 33) (As := [q_i a4, q_i a3, q_i 64]) (rest := []) rfl rfl rfl  rfl (Nat.le_of_ble_eq_true rfl) ?_
        refine q_den_mono _ _ _ _ _ _ ?_ (dn_X5_isIn (d := d + 1)  k)
        rintro _ g7 ⟨r8, rfl, k⟩
        refine q_if_ne (pc := 36) (tgt := 41) rfl (by decide) (fun z => ?_) (fun z => ?_)
        · have k := k.2 z
          refine q_aload_n (pc := 41) rfl rfl ?_
          refine q_getR (pc := 42) rfl (by decide) rfl rfl rfl ?_
          refine q_iconst (pc := 45) (v := 3) rfl (by decide) ?_
          refine q_iload_n (pc := 46) rfl rfl ?_
          refine q_imul (pc := 47) rfl ?_
          refine q_iload_n (pc := 48) rfl rfl ?_
          obtain ⟨b9, k⟩ := k
          refine q_iastore (pc := 49) rfl (by decide) rfl rfl b9 ?_
          refine q_aload_n (pc := 50) rfl rfl ?_
          refine q_getR (pc := 51) rfl (by decide) rfl rfl rfl ?_
          refine q_iconst (pc := 54) (v := 3) rfl (by decide) ?_
          refine q_iload_n (pc := 55) rfl rfl ?_
          refine q_imul (pc := 56) rfl ?_
          refine q_iconst (pc := 57) (v := 1) rfl (by decide) ?_
          refine q_iadd (pc := 58) rfl ?_
          refine q_iload_n (pc := 59) rfl rfl ?_
          obtain ⟨b10, k⟩ := k
          refine q_iastore (pc := 60) rfl (by decide) rfl rfl b10 ?_
          refine q_aload_n (pc := 61) rfl rfl ?_
          refine q_getR (pc := 62) rfl (by decide) rfl rfl rfl ?_
          refine q_iconst (pc := 65) (v := 3) rfl (by decide) ?_
          refine q_iload_n (pc := 66) rfl rfl ?_
          refine q_imul (pc := 67) rfl ?_
          refine q_iconst (pc := 68) (v := 2) rfl (by decide) ?_
          refine q_iadd (pc := 69) rfl ?_
          refine q_iload (pc := 70) rfl rfl ?_
          obtain ⟨b11, k⟩ := k
          refine q_iastore (pc := 72) rfl (by decide) rfl rfl b11 ?_
          refine q_iconst (pc := 73) (v := 1) rfl (by decide) ?_
          exact q_zret (pc := 74) rfl rfl (by decide) ⟨_, rfl, k⟩
        · have k := k.1 z
          refine q_iconst (pc := 39) (v := 0) rfl (by decide) ?_
          exact q_zret (pc := 40) rfl rfl (by decide) ⟨_, rfl, k⟩
set_option maxHeartbeats 4000000 in
set_option maxRecDepth 100000 in
theorem dl_X5_wakes_20 {d : Nat} {x1 : Int32} {x2 : Int32} {E : Int32 → Int32 → q_H → Prop} {Q : q_H → Prop} (hE : ∀ (x3 : Int32) (x4 : Int32) (h : q_H), E x3 x4 h → q_run (q_pcs q_t_X5_wakes) 5 5 none (q_den (d)) 0 (q_rv Q) 75 [(0, q_r 18 0), (1, q_i x1), (2, q_i x2), (3, q_i x3), (4, q_i x4)] [] h) : ∀ (n : Nat) (x3 : Int32) (x4 : Int32) (h : q_H), lp_X5_wakes_20 x1 x2 E n x3 x4 h → q_run (q_pcs q_t_X5_wakes) 5 5 none (q_den (d)) 0 (q_rv Q) 20 [(0, q_r 18 0), (1, q_i x1), (2, q_i x2), (3, q_i x3), (4, q_i x4)] [] h := by
  intro n
  induction n with
  | zero => intro x3 x4 h k; exact k.elim
  | succ n ih =>
    intro x3 x4 h k
    unfold lp_X5_wakes_20 at k
    refine q_iload (pc := 20) rfl rfl ?_
    refine q_aload_n (pc := 22) rfl rfl ?_
    refine q_getI (pc := 23) rfl (by decide) rfl rfl rfl ?_
    refine q_icmp_ge (pc := 26) (tgt := 75) rfl (by decide) (fun z => ?_) (fun z => ?_)
    · have k := k.1 z
      refine q_sub (pc := 75) (ks := [0, 1, 2, 3, 4]) rfl ?_
      exact hE _ _ _ k
    · have k := k.2 z
      refine q_iload_n (pc := 29) rfl rfl ?_
      refine q_if_ne (pc := 30) (tgt := 63) rfl (by decide) (fun z => ?_) (fun z => ?_)
      · have k := k.2 z
        refine q_iconst (pc := 63) (v := 1) rfl (by decide) ?_
        refine q_goto (pc := 64) (tgt := 68) rfl (by decide) ?_
        refine q_istore_n (pc := 68) (ls1 := [(3, q_i 1), (0, q_r 18 0), (1, q_i x1), (2, q_i x2), (4, q_i x4)]) rfl (by decide) rfl ?_
        refine q_iinc (pc := 69) (v := (x4 + 1)) (ls1 := [(4, q_i (x4 + 1)), (3, q_i 1), (0, q_r 18 0), (1, q_i x1), (2, q_i x2)]) rfl (by decide) rfl (congrArg (fun z => x4 + z) (by decide : Int32.ofInt 1 = 1)) rfl ?_
        refine q_goto (pc := 72) (tgt := 20) rfl (by decide) ?_
        refine q_sub (pc := 20) (ks := [2, 3, 4, 1, 0]) rfl ?_
        exact ih _ _ _ k
      · have k := k.1 z
        refine q_aload_n (pc := 33) rfl rfl ?_
        refine q_getR (pc := 34) rfl (by decide) rfl rfl rfl ?_
        refine q_iconst (pc := 37) (v := 4) rfl (by decide) ?_
        refine q_iload (pc := 38) rfl rfl ?_
        refine q_imul (pc := 40) rfl ?_
        refine q_iconst (pc := 41) (v := 3) rfl (by decide) ?_
        refine q_iadd (pc := 42) rfl ?_
        obtain ⟨b1, k⟩ := k
        refine q_iaload (pc := 43) rfl (by decide) rfl rfl b1 ?_
        refine q_iload_n (pc := 44) rfl rfl ?_
        refine q_icmp_ne (pc := 45) (tgt := 67) rfl (by decide) (fun z => ?_) (fun z => ?_)
        · have k := k.2 z
          refine q_iconst (pc := 67) (v := 0) rfl (by decide) ?_
          refine q_istore_n (pc := 68) (ls1 := [(3, q_i 0), (0, q_r 18 0), (1, q_i x1), (2, q_i x2), (4, q_i x4)]) rfl (by decide) rfl ?_
          refine q_iinc (pc := 69) (v := (x4 + 1)) (ls1 := [(4, q_i (x4 + 1)), (3, q_i 0), (0, q_r 18 0), (1, q_i x1), (2, q_i x2)]) rfl (by decide) rfl (congrArg (fun z => x4 + z) (by decide : Int32.ofInt 1 = 1)) rfl ?_
          refine q_goto (pc := 72) (tgt := 20) rfl (by decide) ?_
          refine q_sub (pc := 20) (ks := [2, 3, 4, 1, 0]) rfl ?_
          exact ih _ _ _ k
        · have k := k.1 z
          refine q_aload_n (pc := 48) rfl rfl ?_
          refine q_getR (pc := 49) rfl (by decide) rfl rfl rfl ?_
          refine q_iconst (pc := 52) (v := 4) rfl (by decide) ?_
          refine q_iload (pc := 53) rfl rfl ?_
          refine q_imul (pc := 55) rfl ?_
          refine q_iconst (pc := 56) (v := 2) rfl (by decide) ?_
          refine q_iadd (pc := 57) rfl ?_
          obtain ⟨b2, k⟩ := k
          refine q_iaload (pc := 58) rfl (by decide) rfl rfl b2 ?_
          refine q_iload_n (pc := 59) rfl rfl ?_
          refine q_icmp_le (pc := 60) (tgt := 67) rfl (by decide) (fun z => ?_) (fun z => ?_)
          · have k := k.1 z
            refine q_iconst (pc := 67) (v := 0) rfl (by decide) ?_
            refine q_istore_n (pc := 68) (ls1 := [(3, q_i 0), (0, q_r 18 0), (1, q_i x1), (2, q_i x2), (4, q_i x4)]) rfl (by decide) rfl ?_
            refine q_iinc (pc := 69) (v := (x4 + 1)) (ls1 := [(4, q_i (x4 + 1)), (3, q_i 0), (0, q_r 18 0), (1, q_i x1), (2, q_i x2)]) rfl (by decide) rfl (congrArg (fun z => x4 + z) (by decide : Int32.ofInt 1 = 1)) rfl ?_
            refine q_goto (pc := 72) (tgt := 20) rfl (by decide) ?_
            refine q_sub (pc := 20) (ks := [2, 3, 4, 1, 0]) rfl ?_
            exact ih _ _ _ k
          · have k := k.2 z
            refine q_iconst (pc := 63) (v := 1) rfl (by decide) ?_
            refine q_goto (pc := 64) (tgt := 68) rfl (by decide) ?_
            refine q_istore_n (pc := 68) (ls1 := [(3, q_i 1), (0, q_r 18 0), (1, q_i x1), (2, q_i x2), (4, q_i x4)]) rfl (by decide) rfl ?_
            refine q_iinc (pc := 69) (v := (x4 + 1)) (ls1 := [(4, q_i (x4 + 1)), (3, q_i 1), (0, q_r 18 0), (1, q_i x1), (2, q_i x2)]) rfl (by decide) rfl (congrArg (fun z => x4 + z) (by decide : Int32.ofInt 1 = 1)) rfl ?_
            refine q_goto (pc := 72) (tgt := 20) rfl (by decide) ?_
            refine q_sub (pc := 20) (ks := [2, 3, 4, 1, 0]) rfl ?_
            exact ih _ _ _ k
set_option maxHeartbeats 4000000 in
set_option maxRecDepth 100000 in
theorem dl_X5_wakes_9 {d : Nat} {E : Int32 → Int32 → q_H → Prop} {Q : q_H → Prop} (hE : ∀ (x1 : Int32) (x2 : Int32) (h : q_H), E x1 x2 h → q_run (q_pcs q_t_X5_wakes) 5 5 none (q_den (d)) 0 (q_rv Q) 110 [(0, q_r 18 0), (1, q_i x1), (2, q_i x2)] [] h) : ∀ (n : Nat) (x1 : Int32) (x2 : Int32) (h : q_H), lp_X5_wakes_9 E n x1 x2 h → q_run (q_pcs q_t_X5_wakes) 5 5 none (q_den (d)) 0 (q_rv Q) 9 [(0, q_r 18 0), (1, q_i x1), (2, q_i x2)] [] h := by
  intro n
  induction n with
  | zero => intro x1 x2 h k; exact k.elim
  | succ n ih =>
    intro x1 x2 h k
    unfold lp_X5_wakes_9 at k
    refine q_iload_n (pc := 9) rfl rfl ?_
    refine q_bipush (pc := 10) (v := 64) rfl (by decide) ?_
    refine q_icmp_ge (pc := 12) (tgt := 110) rfl (by decide) (fun z => ?_) (fun z => ?_)
    · have k := k.1 z
      refine q_sub (pc := 110) (ks := [0, 1, 2]) rfl ?_
      exact hE _ _ _ k
    · have k := k.2 z
      refine q_iconst (pc := 15) (v := 0) rfl (by decide) ?_
      refine q_istore_n (pc := 16) (ls1 := [(3, q_i 0), (0, q_r 18 0), (1, q_i x1), (2, q_i x2)]) rfl (by decide) rfl ?_
      refine q_iconst (pc := 17) (v := 0) rfl (by decide) ?_
      refine q_istore (pc := 18) (ls1 := [(4, q_i 0), (3, q_i 0), (0, q_r 18 0), (1, q_i x1), (2, q_i x2)]) rfl (by decide) rfl ?_
      obtain ⟨n3, k⟩ := k
      refine q_sub (pc := 20) (ks := [2, 3, 4, 1, 0]) rfl ?_
      refine dl_X5_wakes_20 (fun y3_3 y4_3 g3 k => ?_) n3 _ _ _ k
      refine q_iload_n (pc := 75) rfl rfl ?_
      refine q_if_ne (pc := 76) (tgt := 82) rfl (by decide) (fun z => ?_) (fun z => ?_)
      · have k := k.2 z
        refine q_aload_n (pc := 82) rfl rfl ?_
        refine q_getR (pc := 83) rfl (by decide) rfl rfl rfl ?_
        refine q_aload_n (pc := 86) rfl rfl ?_
        refine q_getI (pc := 87) rfl (by decide) rfl rfl rfl ?_
        refine q_iload_n (pc := 90) rfl rfl ?_
        obtain ⟨b4, k⟩ := k
        refine q_iastore (pc := 91) rfl (by decide) rfl rfl b4 ?_
        refine q_aload_n (pc := 92) rfl rfl ?_
        refine q_dup (pc := 93) rfl rfl ?_
        refine q_getI (pc := 94) rfl (by decide) rfl rfl rfl ?_
        refine q_iconst (pc := 97) (v := 1) rfl (by decide) ?_
        refine q_iadd (pc := 98) rfl ?_
        refine q_putI (pc := 99) rfl (by decide) rfl rfl rfl ?_
        refine q_iload_n (pc := 102) rfl rfl ?_
        refine q_istore_n (pc := 103) (ls1 := [(1, q_i x2), (0, q_r 18 0), (2, q_i x2), (3, q_i y3_3), (4, q_i y4_3)]) rfl (by decide) rfl ?_
        refine q_iinc (pc := 104) (v := (x2 + 1)) (ls1 := [(2, q_i (x2 + 1)), (1, q_i x2), (0, q_r 18 0), (3, q_i y3_3), (4, q_i y4_3)]) rfl (by decide) rfl (congrArg (fun z => x2 + z) (by decide : Int32.ofInt 1 = 1)) rfl ?_
        refine q_goto (pc := 107) (tgt := 9) rfl (by decide) ?_
        refine q_sub (pc := 9) (ks := [2, 1, 0]) rfl ?_
        exact ih _ _ _ k
      · have k := k.1 z
        refine q_goto (pc := 79) (tgt := 104) rfl (by decide) ?_
        refine q_iinc (pc := 104) (v := (x2 + 1)) (ls1 := [(2, q_i (x2 + 1)), (0, q_r 18 0), (1, q_i x1), (3, q_i y3_3), (4, q_i y4_3)]) rfl (by decide) rfl (congrArg (fun z => x2 + z) (by decide : Int32.ofInt 1 = 1)) rfl ?_
        refine q_goto (pc := 107) (tgt := 9) rfl (by decide) ?_
        refine q_sub (pc := 9) (ks := [1, 2, 0]) rfl ?_
        exact ih _ _ _ k
set_option maxHeartbeats 4000000 in
set_option maxRecDepth 100000 in
theorem dn_X5_wakes {d : Nat} {h : q_H} {Q : q_H → Prop} (k : wp_X5_wakes h Q) : q_den (d + 1) 97 [q_r 18 0] h (q_rv Q) := by
  unfold wp_X5_wakes at k
  refine ⟨by decide, Nat.le_of_ble_eq_true rfl, ?_⟩
  show q_run (q_pcs q_t_X5_wakes) 5 5 none (q_den d) 0 (q_rv Q) 0 [(0, q_r 18 0)] [] h
  refine q_aload_n (pc := 0) rfl rfl ?_
  refine q_iconst (pc := 1) (v := 0) rfl (by decide) ?_
  refine q_putI (pc := 2) rfl (by decide) rfl rfl rfl ?_
  refine q_iconst (pc := 5) (v := (-1)) rfl (by decide) ?_
  refine q_istore_n (pc := 6) (ls1 := [(1, q_i (-1)), (0, q_r 18 0)]) rfl (by decide) rfl ?_
  refine q_iconst (pc := 7) (v := 0) rfl (by decide) ?_
  refine q_istore_n (pc := 8) (ls1 := [(2, q_i 0), (1, q_i (-1)), (0, q_r 18 0)]) rfl (by decide) rfl ?_
  obtain ⟨n5, k⟩ := k
  refine q_sub (pc := 9) (ks := [2, 1, 0]) rfl ?_
  refine dl_X5_wakes_9 (fun y1_5 y2_5 g5 k => ?_) n5 _ _ _ k
  exact q_vret (pc := 110) rfl rfl ⟨rfl, k⟩
set_option maxHeartbeats 4000000 in
set_option maxRecDepth 100000 in
theorem dl_X5_firesAt_2 {d : Nat} {x1 : Int32} {E : Int32 → q_H → Prop} {Q : Int32 → q_H → Prop} (hE : ∀ (x2 : Int32) (h : q_H), E x2 h → q_run (q_pcs q_t_X5_firesAt) 5 3 none (q_den (d)) 1 (q_ri Q) 27 [(0, q_r 18 0), (1, q_i x1), (2, q_i x2)] [] h) : ∀ (n : Nat) (x2 : Int32) (h : q_H), lp_X5_firesAt_2 x1 E n x2 h → q_run (q_pcs q_t_X5_firesAt) 5 3 none (q_den (d)) 1 (q_ri Q) 2 [(0, q_r 18 0), (1, q_i x1), (2, q_i x2)] [] h := by
  intro n
  induction n with
  | zero => intro x2 h k; exact k.elim
  | succ n ih =>
    intro x2 h k
    unfold lp_X5_firesAt_2 at k
    refine q_aload_n (pc := 2) rfl rfl ?_
    refine q_getR (pc := 3) rfl (by decide) rfl rfl rfl ?_
    refine q_iload_n (pc := 6) rfl rfl ?_
    obtain ⟨b1, k⟩ := k
    refine q_iaload (pc := 7) rfl (by decide) rfl rfl b1 ?_
    refine q_aload_n (pc := 8) rfl rfl ?_
    refine q_getR (pc := 9) rfl (by decide) rfl rfl rfl ?_
    refine q_iconst (pc := 12) (v := 4) rfl (by decide) ?_
    refine q_iload_n (pc := 13) rfl rfl ?_
    refine q_imul (pc := 14) rfl ?_
    refine q_iconst (pc := 15) (v := 2) rfl (by decide) ?_
    refine q_iadd (pc := 16) rfl ?_
    obtain ⟨b2, k⟩ := k
    refine q_iaload (pc := 17) rfl (by decide) rfl rfl b2 ?_
    refine q_icmp_ge (pc := 18) (tgt := 27) rfl (by decide) (fun z => ?_) (fun z => ?_)
    · have k := k.1 z
      refine q_sub (pc := 27) (ks := [0, 1, 2]) rfl ?_
      exact hE _ _ k
    · have k := k.2 z
      refine q_iinc (pc := 21) (v := (x2 + 1)) (ls1 := [(2, q_i (x2 + 1)), (0, q_r 18 0), (1, q_i x1)]) rfl (by decide) rfl (congrArg (fun z => x2 + z) (by decide : Int32.ofInt 1 = 1)) rfl ?_
      refine q_goto (pc := 24) (tgt := 2) rfl (by decide) ?_
      refine q_sub (pc := 2) (ks := [1, 2, 0]) rfl ?_
      exact ih _ _ k
set_option maxHeartbeats 4000000 in
set_option maxRecDepth 100000 in
theorem dn_X5_firesAt {d : Nat} {a1 : Int32} {h : q_H} {Q : Int32 → q_H → Prop} (k : wp_X5_firesAt a1 h Q) : q_den (d + 1) 98 [q_r 18 0, q_i a1] h (q_ri Q) := by
  unfold wp_X5_firesAt at k
  refine ⟨by decide, Nat.le_of_ble_eq_true rfl, ?_⟩
  show q_run (q_pcs q_t_X5_firesAt) 5 3 none (q_den d) 1 (q_ri Q) 0 [(0, q_r 18 0), (1, q_i a1)] [] h
  refine q_iconst (pc := 0) (v := 0) rfl (by decide) ?_
  refine q_istore_n (pc := 1) (ls1 := [(2, q_i 0), (0, q_r 18 0), (1, q_i a1)]) rfl (by decide) rfl ?_
  obtain ⟨n3, k⟩ := k
  refine q_sub (pc := 2) (ks := [1, 2, 0]) rfl ?_
  refine dl_X5_firesAt_2 (fun y2_3 g3 k => ?_) n3 _ _ k
  refine q_aload_n (pc := 27) rfl rfl ?_
  refine q_getR (pc := 28) rfl (by decide) rfl rfl rfl ?_
  refine q_iload_n (pc := 31) rfl rfl ?_
  obtain ⟨b4, k⟩ := k
  refine q_iaload (pc := 32) rfl (by decide) rfl rfl b4 ?_
  exact q_iret (pc := 33) rfl rfl ⟨_, rfl, k⟩
set_option maxHeartbeats 4000000 in
set_option maxRecDepth 100000 in
theorem dn_X5_waking {d : Nat} {a1 : Int32} {h : q_H} {Q : Int32 → q_H → Prop} (k : wp_X5_waking a1 h Q) : q_den (d + 2) 99 [q_r 18 0, q_i a1] h (q_ri Q) := by
  unfold wp_X5_waking at k
  refine ⟨by decide, Nat.le_of_ble_eq_true rfl, ?_⟩
  show q_run (q_pcs q_t_X5_waking) 5 2 none (q_den (d + 1)) 1 (q_ri Q) 0 [(0, q_r 18 0), (1, q_i a1)] [] h
  refine q_aload_n (pc := 0) rfl rfl ?_
  refine q_callV (pc := 1) (As := []) (rest := []) rfl rfl rfl (by decide) rfl rfl (Nat.le_of_ble_eq_true rfl) ?_
  refine q_den_mono _ _ _ _ _ _ ?_ (dn_X5_wakes (d := d)  k)
  rintro _ g1 ⟨rfl, k⟩
  refine q_iload_n (pc := 4) rfl rfl ?_
  refine q_iconst (pc := 5) (v := 0) rfl (by decide) ?_
  refine q_aload_n (pc := 6) rfl rfl ?_
  refine q_getI (pc := 7) rfl (by decide) rfl rfl rfl ?_
  refine q_iconst (pc := 10) (v := 1) rfl (by decide) ?_
  refine q_isub (pc := 11) rfl ?_
  refine q_callS (kd := 0) (pc := 12) (As := [q_i a1, q_i 0, q_i ((Prod.fst g1 18 0 11) - 1)]) (rest := []) rfl rfl rfl  rfl (Nat.le_of_ble_eq_true rfl) ?_
  refine q_den_mono _ _ _ _ _ _ ?_ (dn_X5_isIn (d := d)  k)
  rintro _ g2 ⟨r3, rfl, k⟩
  refine q_if_eq (pc := 15) (tgt := 27) rfl (by decide) (fun z => ?_) (fun z => ?_)
  · have k := k.1 z
    refine q_iconst (pc := 27) (v := (-1)) rfl (by decide) ?_
    exact q_iret (pc := 28) rfl rfl ⟨_, rfl, k⟩
  · have k := k.2 z
    refine q_aload_n (pc := 18) rfl rfl ?_
    refine q_getR (pc := 19) rfl (by decide) rfl rfl rfl ?_
    refine q_iload_n (pc := 22) rfl rfl ?_
    obtain ⟨b4, k⟩ := k
    refine q_iaload (pc := 23) rfl (by decide) rfl rfl b4 ?_
    refine q_goto (pc := 24) (tgt := 28) rfl (by decide) ?_
    exact q_iret (pc := 28) rfl rfl ⟨_, rfl, k⟩
