set_option maxHeartbeats 4000000 in
set_option maxRecDepth 100000 in
theorem dl_X5_learn_49 {d : Nat} {x1 : Int32} {x6 : Int32} {x7 : Int32} {E : Int32 → Int32 → Int32 → Int32 → Int32 → q_H → Prop} {Q : Int32 → q_H → Prop} (hE : ∀ (x2 : Int32) (x3 : Int32) (x4 : Int32) (x5 : Int32) (x8 : Int32) (h : q_H), E x2 x3 x4 x5 x8 h → q_run (q_pcs q_t_X5_learn) 5 10 none (q_den (d + 5)) 1 (q_ri Q) 131 [(0, q_r 18 0), (1, q_i x1), (2, q_i x2), (3, q_i x3), (4, q_i x4), (5, q_i x5), (6, q_i x6), (7, q_i x7), (8, q_i x8)] [] h) : ∀ (n : Nat) (x2 : Int32) (x3 : Int32) (x4 : Int32) (x5 : Int32) (x8 : Int32) (h : q_H), lp_X5_learn_49 x1 x6 x7 E n x2 x3 x4 x5 x8 h → q_run (q_pcs q_t_X5_learn) 5 10 none (q_den (d + 5)) 1 (q_ri Q) 49 [(0, q_r 18 0), (1, q_i x1), (2, q_i x2), (3, q_i x3), (4, q_i x4), (5, q_i x5), (6, q_i x6), (7, q_i x7), (8, q_i x8)] [] h := by
  intro n
  induction n with
  | zero => intro x2 x3 x4 x5 x8 h k; exact k.elim
  | succ n ih =>
    intro x2 x3 x4 x5 x8 h k
    unfold lp_X5_learn_49 at k
    refine q_iload (pc := 49) rfl rfl ?_
    refine q_bipush (pc := 51) (v := 64) rfl (by decide) ?_
    refine q_icmp_gt (pc := 53) (tgt := 131) rfl (by decide) (fun z => ?_) (fun z => ?_)
    · have k := k.1 z
      refine q_sub (pc := 131) (ks := [0, 1, 2, 3, 4, 5, 6, 7, 8]) rfl ?_
      exact hE _ _ _ _ _ _ k
    · have k := k.2 z
      refine q_aload_n (pc := 56) rfl rfl ?_
      refine q_getR (pc := 57) rfl (by decide) rfl rfl rfl ?_
      refine q_iconst (pc := 60) (v := 3) rfl (by decide) ?_
      refine q_iload_n (pc := 61) rfl rfl ?_
      refine q_imul (pc := 62) rfl ?_
      refine q_iload (pc := 63) rfl rfl ?_
      obtain ⟨b4, k⟩ := k
      refine q_iastore (pc := 65) rfl (by decide) rfl rfl b4 ?_
      refine q_aload_n (pc := 66) rfl rfl ?_
      refine q_getR (pc := 67) rfl (by decide) rfl rfl rfl ?_
      refine q_iconst (pc := 70) (v := 3) rfl (by decide) ?_
      refine q_iload_n (pc := 71) rfl rfl ?_
      refine q_imul (pc := 72) rfl ?_
      refine q_iconst (pc := 73) (v := 1) rfl (by decide) ?_
      refine q_iadd (pc := 74) rfl ?_
      refine q_iload (pc := 75) rfl rfl ?_
      obtain ⟨b5, k⟩ := k
      refine q_iastore (pc := 77) rfl (by decide) rfl rfl b5 ?_
      refine q_aload_n (pc := 78) rfl rfl ?_
      refine q_getR (pc := 79) rfl (by decide) rfl rfl rfl ?_
      refine q_iconst (pc := 82) (v := 3) rfl (by decide) ?_
      refine q_iload_n (pc := 83) rfl rfl ?_
      refine q_imul (pc := 84) rfl ?_
      refine q_iconst (pc := 85) (v := 2) rfl (by decide) ?_
      refine q_iadd (pc := 86) rfl ?_
      refine q_iload (pc := 87) rfl rfl ?_
      obtain ⟨b6, k⟩ := k
      refine q_iastore (pc := 89) rfl (by decide) rfl rfl b6 ?_
      refine q_aload_n (pc := 90) rfl rfl ?_
      refine q_iload_n (pc := 91) rfl rfl ?_
      refine q_callV (pc := 92) (As := [q_i x1]) (rest := []) rfl rfl rfl (by decide) rfl rfl (Nat.le_of_ble_eq_true rfl) ?_
      refine q_den_mono _ _ _ _ _ _ ?_ (dn_X5_ruledSum (d := d)  k)
      rintro _ g7 ⟨r8, rfl, k⟩
      refine q_istore (pc := 95) (ls1 := [(9, q_i r8), (0, q_r 18 0), (1, q_i x1), (2, q_i x2), (3, q_i x3), (4, q_i x4), (5, q_i x5), (6, q_i x6), (7, q_i x7), (8, q_i x8)]) rfl (by decide) rfl ?_
      refine q_iload_n (pc := 97) rfl rfl ?_
      refine q_iconst (pc := 98) (v := (-1)) rfl (by decide) ?_
      refine q_icmp_eq (pc := 99) (tgt := 111) rfl (by decide) (fun z => ?_) (fun z => ?_)
      · have k := k.1 z
        refine q_iload (pc := 111) rfl rfl ?_
        refine q_istore_n (pc := 113) (ls1 := [(2, q_i r8), (9, q_i r8), (0, q_r 18 0), (1, q_i x1), (3, q_i x3), (4, q_i x4), (5, q_i x5), (6, q_i x6), (7, q_i x7), (8, q_i x8)]) rfl (by decide) rfl ?_
        refine q_iload (pc := 114) rfl rfl ?_
        refine q_istore_n (pc := 116) (ls1 := [(3, q_i x6), (2, q_i r8), (9, q_i r8), (0, q_r 18 0), (1, q_i x1), (4, q_i x4), (5, q_i x5), (6, q_i x6), (7, q_i x7), (8, q_i x8)]) rfl (by decide) rfl ?_
        refine q_iload (pc := 117) rfl rfl ?_
        refine q_istore (pc := 119) (ls1 := [(4, q_i x7), (3, q_i x6), (2, q_i r8), (9, q_i r8), (0, q_r 18 0), (1, q_i x1), (5, q_i x5), (6, q_i x6), (7, q_i x7), (8, q_i x8)]) rfl (by decide) rfl ?_
        refine q_iload (pc := 121) rfl rfl ?_
        refine q_istore (pc := 123) (ls1 := [(5, q_i x8), (4, q_i x7), (3, q_i x6), (2, q_i r8), (9, q_i r8), (0, q_r 18 0), (1, q_i x1), (6, q_i x6), (7, q_i x7), (8, q_i x8)]) rfl (by decide) rfl ?_
        refine q_iinc (pc := 125) (v := (x8 + 1)) (ls1 := [(8, q_i (x8 + 1)), (5, q_i x8), (4, q_i x7), (3, q_i x6), (2, q_i r8), (9, q_i r8), (0, q_r 18 0), (1, q_i x1), (6, q_i x6), (7, q_i x7)]) rfl (by decide) rfl (congrArg (fun z => x8 + z) (by decide : Int32.ofInt 1 = 1)) rfl ?_
        refine q_goto (pc := 128) (tgt := 49) rfl (by decide) ?_
        refine q_sub (pc := 49) (ks := [6, 7, 4, 3, 2, 1, 8, 9, 0]) rfl ?_
        exact ih _ _ _ _ _ _ k
      · have k := k.2 z
        refine q_iload (pc := 102) rfl rfl ?_
        refine q_iload_n (pc := 104) rfl rfl ?_
        refine q_icmp_lt (pc := 105) (tgt := 111) rfl (by decide) (fun z => ?_) (fun z => ?_)
        · have k := k.1 z
          refine q_iload (pc := 111) rfl rfl ?_
          refine q_istore_n (pc := 113) (ls1 := [(2, q_i r8), (9, q_i r8), (0, q_r 18 0), (1, q_i x1), (3, q_i x3), (4, q_i x4), (5, q_i x5), (6, q_i x6), (7, q_i x7), (8, q_i x8)]) rfl (by decide) rfl ?_
          refine q_iload (pc := 114) rfl rfl ?_
          refine q_istore_n (pc := 116) (ls1 := [(3, q_i x6), (2, q_i r8), (9, q_i r8), (0, q_r 18 0), (1, q_i x1), (4, q_i x4), (5, q_i x5), (6, q_i x6), (7, q_i x7), (8, q_i x8)]) rfl (by decide) rfl ?_
          refine q_iload (pc := 117) rfl rfl ?_
          refine q_istore (pc := 119) (ls1 := [(4, q_i x7), (3, q_i x6), (2, q_i r8), (9, q_i r8), (0, q_r 18 0), (1, q_i x1), (5, q_i x5), (6, q_i x6), (7, q_i x7), (8, q_i x8)]) rfl (by decide) rfl ?_
          refine q_iload (pc := 121) rfl rfl ?_
          refine q_istore (pc := 123) (ls1 := [(5, q_i x8), (4, q_i x7), (3, q_i x6), (2, q_i r8), (9, q_i r8), (0, q_r 18 0), (1, q_i x1), (6, q_i x6), (7, q_i x7), (8, q_i x8)]) rfl (by decide) rfl ?_
          refine q_iinc (pc := 125) (v := (x8 + 1)) (ls1 := [(8, q_i (x8 + 1)), (5, q_i x8), (4, q_i x7), (3, q_i x6), (2, q_i r8), (9, q_i r8), (0, q_r 18 0), (1, q_i x1), (6, q_i x6), (7, q_i x7)]) rfl (by decide) rfl (congrArg (fun z => x8 + z) (by decide : Int32.ofInt 1 = 1)) rfl ?_
          refine q_goto (pc := 128) (tgt := 49) rfl (by decide) ?_
          refine q_sub (pc := 49) (ks := [6, 7, 4, 3, 2, 1, 8, 9, 0]) rfl ?_
          exact ih _ _ _ _ _ _ k
        · have k := k.2 z
          refine q_goto (pc := 108) (tgt := 125) rfl (by decide) ?_
          refine q_iinc (pc := 125) (v := (x8 + 1)) (ls1 := [(8, q_i (x8 + 1)), (9, q_i r8), (0, q_r 18 0), (1, q_i x1), (2, q_i x2), (3, q_i x3), (4, q_i x4), (5, q_i x5), (6, q_i x6), (7, q_i x7)]) rfl (by decide) rfl (congrArg (fun z => x8 + z) (by decide : Int32.ofInt 1 = 1)) rfl ?_
          refine q_goto (pc := 128) (tgt := 49) rfl (by decide) ?_
          refine q_sub (pc := 49) (ks := [2, 3, 4, 5, 6, 7, 8, 9, 0]) rfl ?_
          exact ih _ _ _ _ _ _ k
set_option maxHeartbeats 4000000 in
set_option maxRecDepth 100000 in
theorem dl_X5_learn_38 {d : Nat} {x1 : Int32} {x6 : Int32} {E : Int32 → Int32 → Int32 → Int32 → Int32 → q_H → Prop} {Q : Int32 → q_H → Prop} (hE : ∀ (x2 : Int32) (x3 : Int32) (x4 : Int32) (x5 : Int32) (x7 : Int32) (h : q_H), E x2 x3 x4 x5 x7 h → q_run (q_pcs q_t_X5_learn) 5 10 none (q_den (d + 5)) 1 (q_ri Q) 137 [(0, q_r 18 0), (1, q_i x1), (2, q_i x2), (3, q_i x3), (4, q_i x4), (5, q_i x5), (6, q_i x6), (7, q_i x7)] [] h) : ∀ (n : Nat) (x2 : Int32) (x3 : Int32) (x4 : Int32) (x5 : Int32) (x7 : Int32) (h : q_H), lp_X5_learn_38 x1 x6 E n x2 x3 x4 x5 x7 h → q_run (q_pcs q_t_X5_learn) 5 10 none (q_den (d + 5)) 1 (q_ri Q) 38 [(0, q_r 18 0), (1, q_i x1), (2, q_i x2), (3, q_i x3), (4, q_i x4), (5, q_i x5), (6, q_i x6), (7, q_i x7)] [] h := by
  intro n
  induction n with
  | zero => intro x2 x3 x4 x5 x7 h k; exact k.elim
  | succ n ih =>
    intro x2 x3 x4 x5 x7 h k
    unfold lp_X5_learn_38 at k
    refine q_iload (pc := 38) rfl rfl ?_
    refine q_bipush (pc := 40) (v := 64) rfl (by decide) ?_
    refine q_icmp_gt (pc := 42) (tgt := 137) rfl (by decide) (fun z => ?_) (fun z => ?_)
    · have k := k.1 z
      refine q_sub (pc := 137) (ks := [0, 1, 2, 3, 4, 5, 6, 7]) rfl ?_
      exact hE _ _ _ _ _ _ k
    · have k := k.2 z
      refine q_iload (pc := 45) rfl rfl ?_
      refine q_istore (pc := 47) (ls1 := [(8, q_i x7), (0, q_r 18 0), (1, q_i x1), (2, q_i x2), (3, q_i x3), (4, q_i x4), (5, q_i x5), (6, q_i x6), (7, q_i x7)]) rfl (by decide) rfl ?_
      obtain ⟨n9, k⟩ := k
      refine q_sub (pc := 49) (ks := [1, 2, 3, 4, 5, 6, 7, 8, 0]) rfl ?_
      refine dl_X5_learn_49 (fun y2_9 y3_9 y4_9 y5_9 y8_9 g9 k => ?_) n9 _ _ _ _ _ _ k
      refine q_iinc (pc := 131) (v := (x7 + 1)) (ls1 := [(7, q_i (x7 + 1)), (0, q_r 18 0), (1, q_i x1), (2, q_i y2_9), (3, q_i y3_9), (4, q_i y4_9), (5, q_i y5_9), (6, q_i x6), (8, q_i y8_9)]) rfl (by decide) rfl (congrArg (fun z => x7 + z) (by decide : Int32.ofInt 1 = 1)) rfl ?_
      refine q_goto (pc := 134) (tgt := 38) rfl (by decide) ?_
      refine q_sub (pc := 38) (ks := [1, 2, 3, 4, 5, 6, 7, 0]) rfl ?_
      exact ih _ _ _ _ _ _ k
set_option maxHeartbeats 4000000 in
set_option maxRecDepth 100000 in
theorem dl_X5_learn_27 {d : Nat} {x1 : Int32} {E : Int32 → Int32 → Int32 → Int32 → Int32 → q_H → Prop} {Q : Int32 → q_H → Prop} (hE : ∀ (x2 : Int32) (x3 : Int32) (x4 : Int32) (x5 : Int32) (x6 : Int32) (h : q_H), E x2 x3 x4 x5 x6 h → q_run (q_pcs q_t_X5_learn) 5 10 none (q_den (d + 5)) 1 (q_ri Q) 143 [(0, q_r 18 0), (1, q_i x1), (2, q_i x2), (3, q_i x3), (4, q_i x4), (5, q_i x5), (6, q_i x6)] [] h) : ∀ (n : Nat) (x2 : Int32) (x3 : Int32) (x4 : Int32) (x5 : Int32) (x6 : Int32) (h : q_H), lp_X5_learn_27 x1 E n x2 x3 x4 x5 x6 h → q_run (q_pcs q_t_X5_learn) 5 10 none (q_den (d + 5)) 1 (q_ri Q) 27 [(0, q_r 18 0), (1, q_i x1), (2, q_i x2), (3, q_i x3), (4, q_i x4), (5, q_i x5), (6, q_i x6)] [] h := by
  intro n
  induction n with
  | zero => intro x2 x3 x4 x5 x6 h k; exact k.elim
  | succ n ih =>
    intro x2 x3 x4 x5 x6 h k
    unfold lp_X5_learn_27 at k
    refine q_iload (pc := 27) rfl rfl ?_
    refine q_bipush (pc := 29) (v := 64) rfl (by decide) ?_
    refine q_icmp_gt (pc := 31) (tgt := 143) rfl (by decide) (fun z => ?_) (fun z => ?_)
    · have k := k.1 z
      refine q_sub (pc := 143) (ks := [0, 1, 2, 3, 4, 5, 6]) rfl ?_
      exact hE _ _ _ _ _ _ k
    · have k := k.2 z
      refine q_iload (pc := 34) rfl rfl ?_
      refine q_istore (pc := 36) (ls1 := [(7, q_i x6), (0, q_r 18 0), (1, q_i x1), (2, q_i x2), (3, q_i x3), (4, q_i x4), (5, q_i x5), (6, q_i x6)]) rfl (by decide) rfl ?_
      obtain ⟨n10, k⟩ := k
      refine q_sub (pc := 38) (ks := [1, 2, 3, 4, 5, 6, 7, 0]) rfl ?_
      refine dl_X5_learn_38 (fun y2_10 y3_10 y4_10 y5_10 y7_10 g10 k => ?_) n10 _ _ _ _ _ _ k
      refine q_iinc (pc := 137) (v := (x6 + 1)) (ls1 := [(6, q_i (x6 + 1)), (0, q_r 18 0), (1, q_i x1), (2, q_i y2_10), (3, q_i y3_10), (4, q_i y4_10), (5, q_i y5_10), (7, q_i y7_10)]) rfl (by decide) rfl (congrArg (fun z => x6 + z) (by decide : Int32.ofInt 1 = 1)) rfl ?_
      refine q_goto (pc := 140) (tgt := 27) rfl (by decide) ?_
      refine q_sub (pc := 27) (ks := [1, 2, 3, 4, 5, 6, 0]) rfl ?_
      exact ih _ _ _ _ _ _ k
set_option maxHeartbeats 4000000 in
set_option maxRecDepth 100000 in
theorem dn_X5_learn {d : Nat} {a1 : Int32} {h : q_H} {Q : Int32 → q_H → Prop} (k : wp_X5_learn a1 h Q) : q_den (d + 6) 124 [q_r 18 0, q_i a1] h (q_ri Q) := by
  unfold wp_X5_learn at k
  refine ⟨by decide, Nat.le_of_ble_eq_true rfl, ?_⟩
  show q_run (q_pcs q_t_X5_learn) 5 10 none (q_den (d + 5)) 1 (q_ri Q) 0 [(0, q_r 18 0), (1, q_i a1)] [] h
  refine q_aload_n (pc := 0) rfl rfl ?_
  refine q_iload_n (pc := 1) rfl rfl ?_
  refine q_callV (pc := 2) (As := [q_i a1]) (rest := []) rfl rfl rfl (by decide) rfl rfl (Nat.le_of_ble_eq_true rfl) ?_
  refine q_den_mono _ _ _ _ _ _ ?_ (dn_X5_isPart (d := d + 3)  k)
  rintro _ g1 ⟨r2, rfl, k⟩
  refine q_if_ne (pc := 5) (tgt := 10) rfl (by decide) (fun z => ?_) (fun z => ?_)
  · have k := k.2 z
    refine q_aload_n (pc := 10) rfl rfl ?_
    refine q_callV (pc := 11) (As := []) (rest := []) rfl rfl rfl (by decide) rfl rfl (Nat.le_of_ble_eq_true rfl) ?_
    refine q_den_mono _ _ _ _ _ _ ?_ (dn_X5_wants (d := d + 3)  k)
    rintro _ g3 ⟨rfl, k⟩
    refine q_iconst (pc := 14) (v := (-1)) rfl (by decide) ?_
    refine q_istore_n (pc := 15) (ls1 := [(2, q_i (-1)), (0, q_r 18 0), (1, q_i a1)]) rfl (by decide) rfl ?_
    refine q_iconst (pc := 16) (v := 0) rfl (by decide) ?_
    refine q_istore_n (pc := 17) (ls1 := [(3, q_i 0), (2, q_i (-1)), (0, q_r 18 0), (1, q_i a1)]) rfl (by decide) rfl ?_
    refine q_iconst (pc := 18) (v := 0) rfl (by decide) ?_
    refine q_istore (pc := 19) (ls1 := [(4, q_i 0), (3, q_i 0), (2, q_i (-1)), (0, q_r 18 0), (1, q_i a1)]) rfl (by decide) rfl ?_
    refine q_iconst (pc := 21) (v := 0) rfl (by decide) ?_
    refine q_istore (pc := 22) (ls1 := [(5, q_i 0), (4, q_i 0), (3, q_i 0), (2, q_i (-1)), (0, q_r 18 0), (1, q_i a1)]) rfl (by decide) rfl ?_
    refine q_iconst (pc := 24) (v := 0) rfl (by decide) ?_
    refine q_istore (pc := 25) (ls1 := [(6, q_i 0), (5, q_i 0), (4, q_i 0), (3, q_i 0), (2, q_i (-1)), (0, q_r 18 0), (1, q_i a1)]) rfl (by decide) rfl ?_
    obtain ⟨n11, k⟩ := k
    refine q_sub (pc := 27) (ks := [5, 6, 4, 3, 2, 1, 0]) rfl ?_
    refine dl_X5_learn_27 (fun y2_11 y3_11 y4_11 y5_11 y6_11 g11 k => ?_) n11 _ _ _ _ _ _ k
    refine q_aload_n (pc := 143) rfl rfl ?_
    refine q_getR (pc := 144) rfl (by decide) rfl rfl rfl ?_
    refine q_iconst (pc := 147) (v := 3) rfl (by decide) ?_
    refine q_iload_n (pc := 148) rfl rfl ?_
    refine q_imul (pc := 149) rfl ?_
    refine q_iload_n (pc := 150) rfl rfl ?_
    obtain ⟨b12, k⟩ := k
    refine q_iastore (pc := 151) rfl (by decide) rfl rfl b12 ?_
    refine q_aload_n (pc := 152) rfl rfl ?_
    refine q_getR (pc := 153) rfl (by decide) rfl rfl rfl ?_
    refine q_iconst (pc := 156) (v := 3) rfl (by decide) ?_
    refine q_iload_n (pc := 157) rfl rfl ?_
    refine q_imul (pc := 158) rfl ?_
    refine q_iconst (pc := 159) (v := 1) rfl (by decide) ?_
    refine q_iadd (pc := 160) rfl ?_
    refine q_iload (pc := 161) rfl rfl ?_
    obtain ⟨b13, k⟩ := k
    refine q_iastore (pc := 163) rfl (by decide) rfl rfl b13 ?_
    refine q_aload_n (pc := 164) rfl rfl ?_
    refine q_getR (pc := 165) rfl (by decide) rfl rfl rfl ?_
    refine q_iconst (pc := 168) (v := 3) rfl (by decide) ?_
    refine q_iload_n (pc := 169) rfl rfl ?_
    refine q_imul (pc := 170) rfl ?_
    refine q_iconst (pc := 171) (v := 2) rfl (by decide) ?_
    refine q_iadd (pc := 172) rfl ?_
    refine q_iload (pc := 173) rfl rfl ?_
    obtain ⟨b14, k⟩ := k
    refine q_iastore (pc := 175) rfl (by decide) rfl rfl b14 ?_
    refine q_iload_n (pc := 176) rfl rfl ?_
    exact q_iret (pc := 177) rfl rfl ⟨_, rfl, k⟩
  · have k := k.1 z
    refine q_iconst (pc := 8) (v := (-1)) rfl (by decide) ?_
    exact q_iret (pc := 9) rfl rfl ⟨_, rfl, k⟩
set_option maxHeartbeats 4000000 in
set_option maxRecDepth 100000 in
theorem dl_X5_all_8 {d : Nat} {E : Int32 → Int32 → q_H → Prop} {Q : Int32 → q_H → Prop} (hE : ∀ (x1 : Int32) (x2 : Int32) (h : q_H), E x1 x2 h → q_run (q_pcs q_t_X5_all) 5 3 none (q_den (d + 4)) 1 (q_ri Q) 30 [(0, q_r 18 0), (1, q_i x1), (2, q_i x2)] [] h) : ∀ (n : Nat) (x1 : Int32) (x2 : Int32) (h : q_H), lp_X5_all_8 E n x1 x2 h → q_run (q_pcs q_t_X5_all) 5 3 none (q_den (d + 4)) 1 (q_ri Q) 8 [(0, q_r 18 0), (1, q_i x1), (2, q_i x2)] [] h := by
  intro n
  induction n with
  | zero => intro x1 x2 h k; exact k.elim
  | succ n ih =>
    intro x1 x2 h k
    unfold lp_X5_all_8 at k
    refine q_iload_n (pc := 8) rfl rfl ?_
    refine q_aload_n (pc := 9) rfl rfl ?_
    refine q_getI (pc := 10) rfl (by decide) rfl rfl rfl ?_
    refine q_icmp_ge (pc := 13) (tgt := 30) rfl (by decide) (fun z => ?_) (fun z => ?_)
    · have k := k.1 z
      refine q_sub (pc := 30) (ks := [0, 1, 2]) rfl ?_
      exact hE _ _ _ k
    · have k := k.2 z
      refine q_iload_n (pc := 16) rfl rfl ?_
      refine q_aload_n (pc := 17) rfl rfl ?_
      refine q_iload_n (pc := 18) rfl rfl ?_
      refine q_callV (pc := 19) (As := [q_i x2]) (rest := [q_i x1]) rfl rfl rfl (by decide) rfl rfl (Nat.le_of_ble_eq_true rfl) ?_
      refine q_den_mono _ _ _ _ _ _ ?_ (dn_X5_drained (d := d)  k)
      rintro _ g2 ⟨r3, rfl, k⟩
      refine q_iadd (pc := 22) rfl ?_
      refine q_istore_n (pc := 23) (ls1 := [(1, q_i (x1 + r3)), (0, q_r 18 0), (2, q_i x2)]) rfl (by decide) rfl ?_
      refine q_iinc (pc := 24) (v := (x2 + 1)) (ls1 := [(2, q_i (x2 + 1)), (1, q_i (x1 + r3)), (0, q_r 18 0)]) rfl (by decide) rfl (congrArg (fun z => x2 + z) (by decide : Int32.ofInt 1 = 1)) rfl ?_
      refine q_goto (pc := 27) (tgt := 8) rfl (by decide) ?_
      refine q_sub (pc := 8) (ks := [2, 1, 0]) rfl ?_
      exact ih _ _ _ k
set_option maxHeartbeats 4000000 in
set_option maxRecDepth 100000 in
theorem dn_X5_all {d : Nat} {h : q_H} {Q : Int32 → q_H → Prop} (k : wp_X5_all h Q) : q_den (d + 5) 125 [q_r 18 0] h (q_ri Q) := by
  unfold wp_X5_all at k
  refine ⟨by decide, Nat.le_of_ble_eq_true rfl, ?_⟩
  show q_run (q_pcs q_t_X5_all) 5 3 none (q_den (d + 4)) 1 (q_ri Q) 0 [(0, q_r 18 0)] [] h
  refine q_aload_n (pc := 0) rfl rfl ?_
  refine q_callV (pc := 1) (As := []) (rest := []) rfl rfl rfl (by decide) rfl rfl (Nat.le_of_ble_eq_true rfl) ?_
  refine q_den_mono _ _ _ _ _ _ ?_ (dn_X5_wants (d := d + 2)  k)
  rintro _ g1 ⟨rfl, k⟩
  refine q_iconst (pc := 4) (v := 0) rfl (by decide) ?_
  refine q_istore_n (pc := 5) (ls1 := [(1, q_i 0), (0, q_r 18 0)]) rfl (by decide) rfl ?_
  refine q_iconst (pc := 6) (v := 0) rfl (by decide) ?_
  refine q_istore_n (pc := 7) (ls1 := [(2, q_i 0), (1, q_i 0), (0, q_r 18 0)]) rfl (by decide) rfl ?_
  obtain ⟨n4, k⟩ := k
  refine q_sub (pc := 8) (ks := [2, 1, 0]) rfl ?_
  refine dl_X5_all_8 (fun y1_4 y2_4 g4 k => ?_) n4 _ _ _ k
  refine q_iload_n (pc := 30) rfl rfl ?_
  exact q_iret (pc := 31) rfl rfl ⟨_, rfl, k⟩
set_option maxHeartbeats 4000000 in
set_option maxRecDepth 100000 in
theorem dn_X5_without {d : Nat} {a1 : Int32} {h : q_H} {Q : Int32 → q_H → Prop} (k : wp_X5_without a1 h Q) : q_den (d + 6) 126 [q_r 18 0, q_i a1] h (q_ri Q) := by
  unfold wp_X5_without at k
  refine ⟨by decide, Nat.le_of_ble_eq_true rfl, ?_⟩
  show q_run (q_pcs q_t_X5_without) 5 4 none (q_den (d + 5)) 1 (q_ri Q) 0 [(0, q_r 18 0), (1, q_i a1)] [] h
  refine q_iload_n (pc := 0) rfl rfl ?_
  refine q_iconst (pc := 1) (v := 0) rfl (by decide) ?_
  refine q_aload_n (pc := 2) rfl rfl ?_
  refine q_getI (pc := 3) rfl (by decide) rfl rfl rfl ?_
  refine q_iconst (pc := 6) (v := 1) rfl (by decide) ?_
  refine q_isub (pc := 7) rfl ?_
  refine q_callS (kd := 0) (pc := 8) (As := [q_i a1, q_i 0, q_i ((Prod.fst h 18 0 1) - 1)]) (rest := []) rfl rfl rfl  rfl (Nat.le_of_ble_eq_true rfl) ?_
  refine q_den_mono _ _ _ _ _ _ ?_ (dn_X5_isIn (d := d + 4)  k)
  rintro _ g1 ⟨r2, rfl, k⟩
  refine q_if_ne (pc := 11) (tgt := 17) rfl (by decide) (fun z => ?_) (fun z => ?_)
  · have k := k.2 z
    refine q_aload_n (pc := 17) rfl rfl ?_
    refine q_callV (pc := 18) (As := []) (rest := []) rfl rfl rfl (by decide) rfl rfl (Nat.le_of_ble_eq_true rfl) ?_
    refine q_den_mono _ _ _ _ _ _ ?_ (dn_X5_all (d := d)  k)
    rintro _ g3 ⟨r4, rfl, k⟩
    refine q_istore_n (pc := 21) (ls1 := [(2, q_i r4), (0, q_r 18 0), (1, q_i a1)]) rfl (by decide) rfl ?_
    refine q_aload_n (pc := 22) rfl rfl ?_
    refine q_iload_n (pc := 23) rfl rfl ?_
    refine q_putI (pc := 24) rfl (by decide) rfl rfl rfl ?_
    refine q_aload_n (pc := 27) rfl rfl ?_
    refine q_callV (pc := 28) (As := []) (rest := []) rfl rfl rfl (by decide) rfl rfl (Nat.le_of_ble_eq_true rfl) ?_
    refine q_den_mono _ _ _ _ _ _ ?_ (dn_X5_all (d := d)  k)
    rintro _ g5 ⟨r6, rfl, k⟩
    refine q_istore_n (pc := 31) (ls1 := [(3, q_i r6), (2, q_i r4), (0, q_r 18 0), (1, q_i a1)]) rfl (by decide) rfl ?_
    refine q_aload_n (pc := 32) rfl rfl ?_
    refine q_iconst (pc := 33) (v := (-1)) rfl (by decide) ?_
    refine q_putI (pc := 34) rfl (by decide) rfl rfl rfl ?_
    refine q_iload_n (pc := 37) rfl rfl ?_
    refine q_iload_n (pc := 38) rfl rfl ?_
    refine q_isub (pc := 39) rfl ?_
    exact q_iret (pc := 40) rfl rfl ⟨_, rfl, k⟩
  · have k := k.1 z
    refine q_ldc (pc := 14) (v := (-100001)) rfl rfl ?_
    exact q_iret (pc := 16) rfl rfl ⟨_, rfl, k⟩
set_option maxHeartbeats 4000000 in
set_option maxRecDepth 100000 in
theorem dl_X5_bits_4 {d : Nat} {x0 : Int32} {E : Int32 → Int32 → q_H → Prop} {Q : Int32 → q_H → Prop} (hE : ∀ (x1 : Int32) (x2 : Int32) (h : q_H), E x1 x2 h → q_run (q_pcs q_t_X5_bits) 5 3 none (q_den (d)) 1 (q_ri Q) 24 [(0, q_i x0), (1, q_i x1), (2, q_i x2)] [] h) : ∀ (n : Nat) (x1 : Int32) (x2 : Int32) (h : q_H), lp_X5_bits_4 x0 E n x1 x2 h → q_run (q_pcs q_t_X5_bits) 5 3 none (q_den (d)) 1 (q_ri Q) 4 [(0, q_i x0), (1, q_i x1), (2, q_i x2)] [] h := by
  intro n
  induction n with
  | zero => intro x1 x2 h k; exact k.elim
  | succ n ih =>
    intro x1 x2 h k
    unfold lp_X5_bits_4 at k
    refine q_iload_n (pc := 4) rfl rfl ?_
    refine q_bipush (pc := 5) (v := 8) rfl (by decide) ?_
    refine q_icmp_ge (pc := 7) (tgt := 24) rfl (by decide) (fun z => ?_) (fun z => ?_)
    · have k := k.1 z
      refine q_sub (pc := 24) (ks := [0, 1, 2]) rfl ?_
      exact hE _ _ _ k
    · have k := k.2 z
      refine q_iload_n (pc := 10) rfl rfl ?_
      refine q_iload_n (pc := 11) rfl rfl ?_
      refine q_iload_n (pc := 12) rfl rfl ?_
      refine q_ishr (pc := 13) rfl ?_
      refine q_iconst (pc := 14) (v := 1) rfl (by decide) ?_
      refine q_iand (pc := 15) rfl ?_
      refine q_iadd (pc := 16) rfl ?_
      refine q_istore_n (pc := 17) (ls1 := [(1, q_i (x1 + ((x0 >>> (x2 &&& 31)) &&& 1))), (0, q_i x0), (2, q_i x2)]) rfl (by decide) rfl ?_
      refine q_iinc (pc := 18) (v := (x2 + 1)) (ls1 := [(2, q_i (x2 + 1)), (1, q_i (x1 + ((x0 >>> (x2 &&& 31)) &&& 1))), (0, q_i x0)]) rfl (by decide) rfl (congrArg (fun z => x2 + z) (by decide : Int32.ofInt 1 = 1)) rfl ?_
      refine q_goto (pc := 21) (tgt := 4) rfl (by decide) ?_
      refine q_sub (pc := 4) (ks := [2, 1, 0]) rfl ?_
      exact ih _ _ _ k
set_option maxHeartbeats 4000000 in
set_option maxRecDepth 100000 in
theorem dn_X5_bits {d : Nat} {a0 : Int32} {h : q_H} {Q : Int32 → q_H → Prop} (k : wp_X5_bits a0 h Q) : q_den (d + 1) 127 [q_i a0] h (q_ri Q) := by
  unfold wp_X5_bits at k
  refine ⟨by decide, Nat.le_of_ble_eq_true rfl, ?_⟩
  show q_run (q_pcs q_t_X5_bits) 5 3 none (q_den d) 1 (q_ri Q) 0 [(0, q_i a0)] [] h
  refine q_iconst (pc := 0) (v := 0) rfl (by decide) ?_
  refine q_istore_n (pc := 1) (ls1 := [(1, q_i 0), (0, q_i a0)]) rfl (by decide) rfl ?_
  refine q_iconst (pc := 2) (v := 0) rfl (by decide) ?_
  refine q_istore_n (pc := 3) (ls1 := [(2, q_i 0), (1, q_i 0), (0, q_i a0)]) rfl (by decide) rfl ?_
  obtain ⟨n1, k⟩ := k
  refine q_sub (pc := 4) (ks := [2, 1, 0]) rfl ?_
  refine dl_X5_bits_4 (fun y1_1 y2_1 g1 k => ?_) n1 _ _ _ k
  refine q_iload_n (pc := 24) rfl rfl ?_
  exact q_iret (pc := 25) rfl rfl ⟨_, rfl, k⟩
set_option maxHeartbeats 4000000 in
set_option maxRecDepth 100000 in
theorem dl_X5_blame_31 {d : Nat} {x1 : Int32} {x3 : Int32} {E : Int32 → Int32 → q_H → Prop} {Q : Int32 → q_H → Prop} (hE : ∀ (x2 : Int32) (x4 : Int32) (h : q_H), E x2 x4 h → q_run (q_pcs q_t_X5_blame) 5 6 none (q_den (d + 3)) 1 (q_ri Q) 128 [(0, q_r 18 0), (1, q_i x1), (2, q_i x2), (3, q_i x3), (4, q_i x4)] [] h) : ∀ (n : Nat) (x2 : Int32) (x4 : Int32) (h : q_H), lp_X5_blame_31 x1 x3 E n x2 x4 h → q_run (q_pcs q_t_X5_blame) 5 6 none (q_den (d + 3)) 1 (q_ri Q) 31 [(0, q_r 18 0), (1, q_i x1), (2, q_i x2), (3, q_i x3), (4, q_i x4)] [] h := by
  intro n
  induction n with
  | zero => intro x2 x4 h k; exact k.elim
  | succ n ih =>
    intro x2 x4 h k
    unfold lp_X5_blame_31 at k
    refine q_iload (pc := 31) rfl rfl ?_
    refine q_bipush (pc := 33) (v := 64) rfl (by decide) ?_
    refine q_icmp_ge (pc := 35) (tgt := 128) rfl (by decide) (fun z => ?_) (fun z => ?_)
    · have k := k.1 z
      refine q_sub (pc := 128) (ks := [0, 1, 2, 3, 4]) rfl ?_
      exact hE _ _ _ k
    · have k := k.2 z
      refine q_aload_n (pc := 38) rfl rfl ?_
      refine q_getR (pc := 39) rfl (by decide) rfl rfl rfl ?_
      refine q_bipush (pc := 42) (v := 64) rfl (by decide) ?_
      refine q_iload_n (pc := 44) rfl rfl ?_
      refine q_imul (pc := 45) rfl ?_
      refine q_iload (pc := 46) rfl rfl ?_
      refine q_iadd (pc := 48) rfl ?_
      obtain ⟨b4, k⟩ := k
      refine q_iaload (pc := 49) rfl (by decide) rfl rfl b4 ?_
      refine q_istore (pc := 50) (ls1 := [(5, q_i (Prod.fst h 27 0 (Int32.toNatClampNeg ((64 * x3) + x4)))), (0, q_r 18 0), (1, q_i x1), (2, q_i x2), (3, q_i x3), (4, q_i x4)]) rfl (by decide) rfl ?_
      refine q_iload_n (pc := 52) rfl rfl ?_
      refine q_bipush (pc := 53) (v := 8) rfl (by decide) ?_
      refine q_icmp_ne (pc := 55) (tgt := 85) rfl (by decide) (fun z => ?_) (fun z => ?_)
      · have k := k.2 z
        refine q_iload_n (pc := 85) rfl rfl ?_
        refine q_bipush (pc := 86) (v := 8) rfl (by decide) ?_
        refine q_icmp_ge (pc := 88) (tgt := 122) rfl (by decide) (fun z => ?_) (fun z => ?_)
        · have k := k.1 z
          refine q_iinc (pc := 122) (v := (x4 + 1)) (ls1 := [(4, q_i (x4 + 1)), (5, q_i (Prod.fst h 27 0 (Int32.toNatClampNeg ((64 * x3) + x4)))), (0, q_r 18 0), (1, q_i x1), (2, q_i x2), (3, q_i x3)]) rfl (by decide) rfl (congrArg (fun z => x4 + z) (by decide : Int32.ofInt 1 = 1)) rfl ?_
          refine q_goto (pc := 125) (tgt := 31) rfl (by decide) ?_
          refine q_sub (pc := 31) (ks := [2, 3, 4, 5, 0]) rfl ?_
          exact ih _ _ _ k
        · have k := k.2 z
          refine q_iload (pc := 91) rfl rfl ?_
          refine q_iload_n (pc := 93) rfl rfl ?_
          refine q_ishr (pc := 94) rfl ?_
          refine q_iconst (pc := 95) (v := 1) rfl (by decide) ?_
          refine q_iand (pc := 96) rfl ?_
          refine q_iconst (pc := 97) (v := 1) rfl (by decide) ?_
          refine q_icmp_ne (pc := 98) (tgt := 122) rfl (by decide) (fun z => ?_) (fun z => ?_)
          · have k := k.2 z
            refine q_iinc (pc := 122) (v := (x4 + 1)) (ls1 := [(4, q_i (x4 + 1)), (5, q_i (Prod.fst h 27 0 (Int32.toNatClampNeg ((64 * x3) + x4)))), (0, q_r 18 0), (1, q_i x1), (2, q_i x2), (3, q_i x3)]) rfl (by decide) rfl (congrArg (fun z => x4 + z) (by decide : Int32.ofInt 1 = 1)) rfl ?_
            refine q_goto (pc := 125) (tgt := 31) rfl (by decide) ?_
            refine q_sub (pc := 31) (ks := [2, 3, 4, 5, 0]) rfl ?_
            exact ih _ _ _ k
          · have k := k.1 z
            refine q_iload_n (pc := 101) rfl rfl ?_
            refine q_sipush (pc := 102) (v := 840) rfl (by decide) ?_
            refine q_iload (pc := 105) rfl rfl ?_
            refine q_callS (kd := 0) (pc := 107) (As := [q_i (Prod.fst h 27 0 (Int32.toNatClampNeg ((64 * x3) + x4)))]) (rest := [q_i 840, q_i x2]) rfl rfl rfl  rfl (Nat.le_of_ble_eq_true rfl) ?_
            refine q_den_mono _ _ _ _ _ _ ?_ (dn_X5_bits (d := d + 2)  k)
            rintro _ g5 ⟨r6, rfl, k⟩
            obtain ⟨b7, k⟩ := k
            refine q_idiv (pc := 110) rfl b7 ?_
            refine q_aload_n (pc := 111) rfl rfl ?_
            refine q_getR (pc := 112) rfl (by decide) rfl rfl rfl ?_
            refine q_iconst (pc := 115) (v := 4) rfl (by decide) ?_
            refine q_iload_n (pc := 116) rfl rfl ?_
            refine q_imul (pc := 117) rfl ?_
            obtain ⟨b8, k⟩ := k
            refine q_iaload (pc := 118) rfl (by decide) rfl rfl b8 ?_
            refine q_imul (pc := 119) rfl ?_
            refine q_iadd (pc := 120) rfl ?_
            refine q_istore_n (pc := 121) (ls1 := [(2, q_i (x2 + ((840 / r6) * (Prod.fst g5 19 0 (Int32.toNatClampNeg (4 * x3)))))), (5, q_i (Prod.fst h 27 0 (Int32.toNatClampNeg ((64 * x3) + x4)))), (0, q_r 18 0), (1, q_i x1), (3, q_i x3), (4, q_i x4)]) rfl (by decide) rfl ?_
            refine q_iinc (pc := 122) (v := (x4 + 1)) (ls1 := [(4, q_i (x4 + 1)), (2, q_i (x2 + ((840 / r6) * (Prod.fst g5 19 0 (Int32.toNatClampNeg (4 * x3)))))), (5, q_i (Prod.fst h 27 0 (Int32.toNatClampNeg ((64 * x3) + x4)))), (0, q_r 18 0), (1, q_i x1), (3, q_i x3)]) rfl (by decide) rfl (congrArg (fun z => x4 + z) (by decide : Int32.ofInt 1 = 1)) rfl ?_
            refine q_goto (pc := 125) (tgt := 31) rfl (by decide) ?_
            refine q_sub (pc := 31) (ks := [3, 4, 1, 5, 0]) rfl ?_
            exact ih _ _ _ k
      · have k := k.1 z
        refine q_aload_n (pc := 58) rfl rfl ?_
        refine q_iload_n (pc := 59) rfl rfl ?_
        refine q_iload (pc := 60) rfl rfl ?_
        refine q_callV (pc := 62) (As := [q_i x3, q_i x4]) (rest := []) rfl rfl rfl (by decide) rfl rfl (Nat.le_of_ble_eq_true rfl) ?_
        refine q_den_mono _ _ _ _ _ _ ?_ (dn_X5_begins (d := d + 1)  k)
        rintro _ g9 ⟨r10, rfl, k⟩
        refine q_if_eq (pc := 65) (tgt := 85) rfl (by decide) (fun z => ?_) (fun z => ?_)
        · have k := k.1 z
          refine q_iload_n (pc := 85) rfl rfl ?_
          refine q_bipush (pc := 86) (v := 8) rfl (by decide) ?_
          refine q_icmp_ge (pc := 88) (tgt := 122) rfl (by decide) (fun z => ?_) (fun z => ?_)
          · have k := k.1 z
            refine q_iinc (pc := 122) (v := (x4 + 1)) (ls1 := [(4, q_i (x4 + 1)), (5, q_i (Prod.fst h 27 0 (Int32.toNatClampNeg ((64 * x3) + x4)))), (0, q_r 18 0), (1, q_i x1), (2, q_i x2), (3, q_i x3)]) rfl (by decide) rfl (congrArg (fun z => x4 + z) (by decide : Int32.ofInt 1 = 1)) rfl ?_
            refine q_goto (pc := 125) (tgt := 31) rfl (by decide) ?_
            refine q_sub (pc := 31) (ks := [2, 3, 4, 5, 0]) rfl ?_
            exact ih _ _ _ k
          · have k := k.2 z
            refine q_iload (pc := 91) rfl rfl ?_
            refine q_iload_n (pc := 93) rfl rfl ?_
            refine q_ishr (pc := 94) rfl ?_
            refine q_iconst (pc := 95) (v := 1) rfl (by decide) ?_
            refine q_iand (pc := 96) rfl ?_
            refine q_iconst (pc := 97) (v := 1) rfl (by decide) ?_
            refine q_icmp_ne (pc := 98) (tgt := 122) rfl (by decide) (fun z => ?_) (fun z => ?_)
            · have k := k.2 z
              refine q_iinc (pc := 122) (v := (x4 + 1)) (ls1 := [(4, q_i (x4 + 1)), (5, q_i (Prod.fst h 27 0 (Int32.toNatClampNeg ((64 * x3) + x4)))), (0, q_r 18 0), (1, q_i x1), (2, q_i x2), (3, q_i x3)]) rfl (by decide) rfl (congrArg (fun z => x4 + z) (by decide : Int32.ofInt 1 = 1)) rfl ?_
              refine q_goto (pc := 125) (tgt := 31) rfl (by decide) ?_
              refine q_sub (pc := 31) (ks := [2, 3, 4, 5, 0]) rfl ?_
              exact ih _ _ _ k
            · have k := k.1 z
              refine q_iload_n (pc := 101) rfl rfl ?_
              refine q_sipush (pc := 102) (v := 840) rfl (by decide) ?_
              refine q_iload (pc := 105) rfl rfl ?_
              refine q_callS (kd := 0) (pc := 107) (As := [q_i (Prod.fst h 27 0 (Int32.toNatClampNeg ((64 * x3) + x4)))]) (rest := [q_i 840, q_i x2]) rfl rfl rfl  rfl (Nat.le_of_ble_eq_true rfl) ?_
              refine q_den_mono _ _ _ _ _ _ ?_ (dn_X5_bits (d := d + 2)  k)
              rintro _ g11 ⟨r12, rfl, k⟩
              obtain ⟨b13, k⟩ := k
              refine q_idiv (pc := 110) rfl b13 ?_
              refine q_aload_n (pc := 111) rfl rfl ?_
              refine q_getR (pc := 112) rfl (by decide) rfl rfl rfl ?_
              refine q_iconst (pc := 115) (v := 4) rfl (by decide) ?_
              refine q_iload_n (pc := 116) rfl rfl ?_
              refine q_imul (pc := 117) rfl ?_
              obtain ⟨b14, k⟩ := k
              refine q_iaload (pc := 118) rfl (by decide) rfl rfl b14 ?_
              refine q_imul (pc := 119) rfl ?_
              refine q_iadd (pc := 120) rfl ?_
              refine q_istore_n (pc := 121) (ls1 := [(2, q_i (x2 + ((840 / r12) * (Prod.fst g11 19 0 (Int32.toNatClampNeg (4 * x3)))))), (5, q_i (Prod.fst h 27 0 (Int32.toNatClampNeg ((64 * x3) + x4)))), (0, q_r 18 0), (1, q_i x1), (3, q_i x3), (4, q_i x4)]) rfl (by decide) rfl ?_
              refine q_iinc (pc := 122) (v := (x4 + 1)) (ls1 := [(4, q_i (x4 + 1)), (2, q_i (x2 + ((840 / r12) * (Prod.fst g11 19 0 (Int32.toNatClampNeg (4 * x3)))))), (5, q_i (Prod.fst h 27 0 (Int32.toNatClampNeg ((64 * x3) + x4)))), (0, q_r 18 0), (1, q_i x1), (3, q_i x3)]) rfl (by decide) rfl (congrArg (fun z => x4 + z) (by decide : Int32.ofInt 1 = 1)) rfl ?_
              refine q_goto (pc := 125) (tgt := 31) rfl (by decide) ?_
              refine q_sub (pc := 31) (ks := [3, 4, 1, 5, 0]) rfl ?_
              exact ih _ _ _ k
        · have k := k.2 z
          refine q_iload_n (pc := 68) rfl rfl ?_
          refine q_sipush (pc := 69) (v := 840) rfl (by decide) ?_
          refine q_aload_n (pc := 72) rfl rfl ?_
          refine q_iload_n (pc := 73) rfl rfl ?_
          refine q_aload_n (pc := 74) rfl rfl ?_
          refine q_iload_n (pc := 75) rfl rfl ?_
          refine q_callV (pc := 76) (As := [q_i x3]) (rest := [q_i x3, q_r 18 0, q_i 840, q_i x2]) rfl rfl rfl (by decide) rfl rfl (Nat.le_of_ble_eq_true rfl) ?_
          refine q_den_mono _ _ _ _ _ _ ?_ (dn_X5_choice (d := d)  k)
          rintro _ g15 ⟨r16, rfl, k⟩
          refine q_callV (pc := 79) (As := [q_i x3, q_i r16]) (rest := [q_i 840, q_i x2]) rfl rfl rfl (by decide) rfl rfl (Nat.le_of_ble_eq_true rfl) ?_
          refine q_den_mono _ _ _ _ _ _ ?_ (dn_X5_costs (d := d + 1)  k)
          rintro _ g17 ⟨r18, rfl, k⟩
          refine q_imul (pc := 82) rfl ?_
          refine q_iadd (pc := 83) rfl ?_
          refine q_istore_n (pc := 84) (ls1 := [(2, q_i (x2 + (840 * r18))), (5, q_i (Prod.fst h 27 0 (Int32.toNatClampNeg ((64 * x3) + x4)))), (0, q_r 18 0), (1, q_i x1), (3, q_i x3), (4, q_i x4)]) rfl (by decide) rfl ?_
          refine q_iload_n (pc := 85) rfl rfl ?_
          refine q_bipush (pc := 86) (v := 8) rfl (by decide) ?_
          refine q_icmp_ge (pc := 88) (tgt := 122) rfl (by decide) (fun z => ?_) (fun z => ?_)
          · have k := k.1 z
            refine q_iinc (pc := 122) (v := (x4 + 1)) (ls1 := [(4, q_i (x4 + 1)), (2, q_i (x2 + (840 * r18))), (5, q_i (Prod.fst h 27 0 (Int32.toNatClampNeg ((64 * x3) + x4)))), (0, q_r 18 0), (1, q_i x1), (3, q_i x3)]) rfl (by decide) rfl (congrArg (fun z => x4 + z) (by decide : Int32.ofInt 1 = 1)) rfl ?_
            refine q_goto (pc := 125) (tgt := 31) rfl (by decide) ?_
            refine q_sub (pc := 31) (ks := [3, 4, 1, 5, 0]) rfl ?_
            exact ih _ _ _ k
          · have k := k.2 z
            refine q_iload (pc := 91) rfl rfl ?_
            refine q_iload_n (pc := 93) rfl rfl ?_
            refine q_ishr (pc := 94) rfl ?_
            refine q_iconst (pc := 95) (v := 1) rfl (by decide) ?_
            refine q_iand (pc := 96) rfl ?_
            refine q_iconst (pc := 97) (v := 1) rfl (by decide) ?_
            refine q_icmp_ne (pc := 98) (tgt := 122) rfl (by decide) (fun z => ?_) (fun z => ?_)
            · have k := k.2 z
              refine q_iinc (pc := 122) (v := (x4 + 1)) (ls1 := [(4, q_i (x4 + 1)), (2, q_i (x2 + (840 * r18))), (5, q_i (Prod.fst h 27 0 (Int32.toNatClampNeg ((64 * x3) + x4)))), (0, q_r 18 0), (1, q_i x1), (3, q_i x3)]) rfl (by decide) rfl (congrArg (fun z => x4 + z) (by decide : Int32.ofInt 1 = 1)) rfl ?_
              refine q_goto (pc := 125) (tgt := 31) rfl (by decide) ?_
              refine q_sub (pc := 31) (ks := [3, 4, 1, 5, 0]) rfl ?_
              exact ih _ _ _ k
            · have k := k.1 z
              refine q_iload_n (pc := 101) rfl rfl ?_
              refine q_sipush (pc := 102) (v := 840) rfl (by decide) ?_
              refine q_iload (pc := 105) rfl rfl ?_
              refine q_callS (kd := 0) (pc := 107) (As := [q_i (Prod.fst h 27 0 (Int32.toNatClampNeg ((64 * x3) + x4)))]) (rest := [q_i 840, q_i (x2 + (840 * r18))]) rfl rfl rfl  rfl (Nat.le_of_ble_eq_true rfl) ?_
              refine q_den_mono _ _ _ _ _ _ ?_ (dn_X5_bits (d := d + 2)  k)
              rintro _ g19 ⟨r20, rfl, k⟩
              obtain ⟨b21, k⟩ := k
              refine q_idiv (pc := 110) rfl b21 ?_
              refine q_aload_n (pc := 111) rfl rfl ?_
              refine q_getR (pc := 112) rfl (by decide) rfl rfl rfl ?_
              refine q_iconst (pc := 115) (v := 4) rfl (by decide) ?_
              refine q_iload_n (pc := 116) rfl rfl ?_
              refine q_imul (pc := 117) rfl ?_
              obtain ⟨b22, k⟩ := k
              refine q_iaload (pc := 118) rfl (by decide) rfl rfl b22 ?_
              refine q_imul (pc := 119) rfl ?_
              refine q_iadd (pc := 120) rfl ?_
              refine q_istore_n (pc := 121) (ls1 := [(2, q_i ((x2 + (840 * r18)) + ((840 / r20) * (Prod.fst g19 19 0 (Int32.toNatClampNeg (4 * x3)))))), (5, q_i (Prod.fst h 27 0 (Int32.toNatClampNeg ((64 * x3) + x4)))), (0, q_r 18 0), (1, q_i x1), (3, q_i x3), (4, q_i x4)]) rfl (by decide) rfl ?_
              refine q_iinc (pc := 122) (v := (x4 + 1)) (ls1 := [(4, q_i (x4 + 1)), (2, q_i ((x2 + (840 * r18)) + ((840 / r20) * (Prod.fst g19 19 0 (Int32.toNatClampNeg (4 * x3)))))), (5, q_i (Prod.fst h 27 0 (Int32.toNatClampNeg ((64 * x3) + x4)))), (0, q_r 18 0), (1, q_i x1), (3, q_i x3)]) rfl (by decide) rfl (congrArg (fun z => x4 + z) (by decide : Int32.ofInt 1 = 1)) rfl ?_
              refine q_goto (pc := 125) (tgt := 31) rfl (by decide) ?_
              refine q_sub (pc := 31) (ks := [3, 4, 1, 5, 0]) rfl ?_
              exact ih _ _ _ k
set_option maxHeartbeats 4000000 in
set_option maxRecDepth 100000 in
theorem dl_X5_blame_20 {d : Nat} {x1 : Int32} {E : Int32 → Int32 → q_H → Prop} {Q : Int32 → q_H → Prop} (hE : ∀ (x2 : Int32) (x3 : Int32) (h : q_H), E x2 x3 h → q_run (q_pcs q_t_X5_blame) 5 6 none (q_den (d + 3)) 1 (q_ri Q) 134 [(0, q_r 18 0), (1, q_i x1), (2, q_i x2), (3, q_i x3)] [] h) : ∀ (n : Nat) (x2 : Int32) (x3 : Int32) (h : q_H), lp_X5_blame_20 x1 E n x2 x3 h → q_run (q_pcs q_t_X5_blame) 5 6 none (q_den (d + 3)) 1 (q_ri Q) 20 [(0, q_r 18 0), (1, q_i x1), (2, q_i x2), (3, q_i x3)] [] h := by
  intro n
  induction n with
  | zero => intro x2 x3 h k; exact k.elim
  | succ n ih =>
    intro x2 x3 h k
    unfold lp_X5_blame_20 at k
    refine q_iload_n (pc := 20) rfl rfl ?_
    refine q_aload_n (pc := 21) rfl rfl ?_
    refine q_getI (pc := 22) rfl (by decide) rfl rfl rfl ?_
    refine q_icmp_ge (pc := 25) (tgt := 134) rfl (by decide) (fun z => ?_) (fun z => ?_)
    · have k := k.1 z
      refine q_sub (pc := 134) (ks := [0, 1, 2, 3]) rfl ?_
      exact hE _ _ _ k
    · have k := k.2 z
      refine q_iconst (pc := 28) (v := 0) rfl (by decide) ?_
      refine q_istore (pc := 29) (ls1 := [(4, q_i 0), (0, q_r 18 0), (1, q_i x1), (2, q_i x2), (3, q_i x3)]) rfl (by decide) rfl ?_
      obtain ⟨n23, k⟩ := k
      refine q_sub (pc := 31) (ks := [1, 2, 3, 4, 0]) rfl ?_
      refine dl_X5_blame_31 (fun y2_23 y4_23 g23 k => ?_) n23 _ _ _ k
      refine q_iinc (pc := 128) (v := (x3 + 1)) (ls1 := [(3, q_i (x3 + 1)), (0, q_r 18 0), (1, q_i x1), (2, q_i y2_23), (4, q_i y4_23)]) rfl (by decide) rfl (congrArg (fun z => x3 + z) (by decide : Int32.ofInt 1 = 1)) rfl ?_
      refine q_goto (pc := 131) (tgt := 20) rfl (by decide) ?_
      refine q_sub (pc := 20) (ks := [1, 2, 3, 0]) rfl ?_
      exact ih _ _ _ k
set_option maxHeartbeats 4000000 in
set_option maxRecDepth 100000 in
theorem dn_X5_blame {d : Nat} {a1 : Int32} {h : q_H} {Q : Int32 → q_H → Prop} (k : wp_X5_blame a1 h Q) : q_den (d + 4) 128 [q_r 18 0, q_i a1] h (q_ri Q) := by
  unfold wp_X5_blame at k
  refine ⟨by decide, Nat.le_of_ble_eq_true rfl, ?_⟩
  show q_run (q_pcs q_t_X5_blame) 5 6 none (q_den (d + 3)) 1 (q_ri Q) 0 [(0, q_r 18 0), (1, q_i a1)] [] h
  refine q_iload_n (pc := 0) rfl rfl ?_
  refine q_iconst (pc := 1) (v := 0) rfl (by decide) ?_
  refine q_bipush (pc := 2) (v := 8) rfl (by decide) ?_
  refine q_callS (kd := 0) (pc := 4) (As := [q_i a1, q_i 0, q_i 8]) (rest := []) rfl rfl rfl  rfl (Nat.le_of_ble_eq_true rfl) ?_
  refine q_den_mono _ _ _ _ _ _ ?_ (dn_X5_isIn (d := d + 2)  k)
  rintro _ g1 ⟨r2, rfl, k⟩
  refine q_if_ne (pc := 7) (tgt := 12) rfl (by decide) (fun z => ?_) (fun z => ?_)
  · have k := k.2 z
    refine q_aload_n (pc := 12) rfl rfl ?_
    refine q_callV (pc := 13) (As := []) (rest := []) rfl rfl rfl (by decide) rfl rfl (Nat.le_of_ble_eq_true rfl) ?_
    refine q_den_mono _ _ _ _ _ _ ?_ (dn_X5_wants (d := d + 1)  k)
    rintro _ g3 ⟨rfl, k⟩
    refine q_iconst (pc := 16) (v := 0) rfl (by decide) ?_
    refine q_istore_n (pc := 17) (ls1 := [(2, q_i 0), (0, q_r 18 0), (1, q_i a1)]) rfl (by decide) rfl ?_
    refine q_iconst (pc := 18) (v := 0) rfl (by decide) ?_
    refine q_istore_n (pc := 19) (ls1 := [(3, q_i 0), (2, q_i 0), (0, q_r 18 0), (1, q_i a1)]) rfl (by decide) rfl ?_
    obtain ⟨n24, k⟩ := k
    refine q_sub (pc := 20) (ks := [2, 3, 1, 0]) rfl ?_
    refine dl_X5_blame_20 (fun y2_24 y3_24 g24 k => ?_) n24 _ _ _ k
    refine q_iload_n (pc := 134) rfl rfl ?_
    exact q_iret (pc := 135) rfl rfl ⟨_, rfl, k⟩
  · have k := k.1 z
    refine q_iconst (pc := 10) (v := (-1)) rfl (by decide) ?_
    exact q_iret (pc := 11) rfl rfl ⟨_, rfl, k⟩
set_option maxHeartbeats 4000000 in
set_option maxRecDepth 100000 in
theorem dl_X5_isFirst_15 {d : Nat} {x1 : Int32} {x2 : Int32} {E : Int32 → Int32 → q_H → Prop} {Q : Int32 → q_H → Prop} (hE : ∀ (x3 : Int32) (x4 : Int32) (h : q_H), E x3 x4 h → q_run (q_pcs q_t_X5_isFirst) 5 5 none (q_den (d)) 3 (q_ri Q) 65 [(0, q_r 18 0), (1, q_i x1), (2, q_i x2), (3, q_i x3), (4, q_i x4)] [] h) : ∀ (n : Nat) (x3 : Int32) (x4 : Int32) (h : q_H), lp_X5_isFirst_15 x1 x2 E n x3 x4 h → q_run (q_pcs q_t_X5_isFirst) 5 5 none (q_den (d)) 3 (q_ri Q) 15 [(0, q_r 18 0), (1, q_i x1), (2, q_i x2), (3, q_i x3), (4, q_i x4)] [] h := by
  intro n
  induction n with
  | zero => intro x3 x4 h k; exact k.elim
  | succ n ih =>
    intro x3 x4 h k
    unfold lp_X5_isFirst_15 at k
    refine q_iload (pc := 15) rfl rfl ?_
    refine q_aload_n (pc := 17) rfl rfl ?_
    refine q_getI (pc := 18) rfl (by decide) rfl rfl rfl ?_
    refine q_icmp_ge (pc := 21) (tgt := 65) rfl (by decide) (fun z => ?_) (fun z => ?_)
    · have k := k.1 z
      refine q_sub (pc := 65) (ks := [0, 1, 2, 3, 4]) rfl ?_
      exact hE _ _ _ k
    · have k := k.2 z
      refine q_iload_n (pc := 24) rfl rfl ?_
      refine q_if_eq (pc := 25) (tgt := 57) rfl (by decide) (fun z => ?_) (fun z => ?_)
      · have k := k.1 z
        refine q_iconst (pc := 57) (v := 0) rfl (by decide) ?_
        refine q_istore_n (pc := 58) (ls1 := [(3, q_i 0), (0, q_r 18 0), (1, q_i x1), (2, q_i x2), (4, q_i x4)]) rfl (by decide) rfl ?_
        refine q_iinc (pc := 59) (v := (x4 + 1)) (ls1 := [(4, q_i (x4 + 1)), (3, q_i 0), (0, q_r 18 0), (1, q_i x1), (2, q_i x2)]) rfl (by decide) rfl (congrArg (fun z => x4 + z) (by decide : Int32.ofInt 1 = 1)) rfl ?_
        refine q_goto (pc := 62) (tgt := 15) rfl (by decide) ?_
        refine q_sub (pc := 15) (ks := [2, 3, 4, 1, 0]) rfl ?_
        exact ih _ _ _ k
      · have k := k.2 z
        refine q_aload_n (pc := 28) rfl rfl ?_
        refine q_getR (pc := 29) rfl (by decide) rfl rfl rfl ?_
        refine q_bipush (pc := 32) (v := 6) rfl (by decide) ?_
        refine q_iload_n (pc := 34) rfl rfl ?_
        refine q_imul (pc := 35) rfl ?_
        refine q_iload (pc := 36) rfl rfl ?_
        refine q_iadd (pc := 38) rfl ?_
        obtain ⟨b1, k⟩ := k
        refine q_zaload (pc := 39) rfl (by decide) rfl rfl b1 ?_
        refine q_if_eq (pc := 40) (tgt := 53) rfl (by decide) (fun z => ?_) (fun z => ?_)
        · have k := k.1 z
          refine q_iconst (pc := 53) (v := 1) rfl (by decide) ?_
          refine q_goto (pc := 54) (tgt := 58) rfl (by decide) ?_
          refine q_istore_n (pc := 58) (ls1 := [(3, q_i 1), (0, q_r 18 0), (1, q_i x1), (2, q_i x2), (4, q_i x4)]) rfl (by decide) rfl ?_
          refine q_iinc (pc := 59) (v := (x4 + 1)) (ls1 := [(4, q_i (x4 + 1)), (3, q_i 1), (0, q_r 18 0), (1, q_i x1), (2, q_i x2)]) rfl (by decide) rfl (congrArg (fun z => x4 + z) (by decide : Int32.ofInt 1 = 1)) rfl ?_
          refine q_goto (pc := 62) (tgt := 15) rfl (by decide) ?_
          refine q_sub (pc := 15) (ks := [2, 3, 4, 1, 0]) rfl ?_
          exact ih _ _ _ k
        · have k := k.2 z
          refine q_iload_n (pc := 43) rfl rfl ?_
          refine q_iload (pc := 44) rfl rfl ?_
          refine q_ishr (pc := 46) rfl ?_
          refine q_iconst (pc := 47) (v := 1) rfl (by decide) ?_
          refine q_iand (pc := 48) rfl ?_
          refine q_iconst (pc := 49) (v := 1) rfl (by decide) ?_
          refine q_icmp_eq (pc := 50) (tgt := 57) rfl (by decide) (fun z => ?_) (fun z => ?_)
          · have k := k.1 z
            refine q_iconst (pc := 57) (v := 0) rfl (by decide) ?_
            refine q_istore_n (pc := 58) (ls1 := [(3, q_i 0), (0, q_r 18 0), (1, q_i x1), (2, q_i x2), (4, q_i x4)]) rfl (by decide) rfl ?_
            refine q_iinc (pc := 59) (v := (x4 + 1)) (ls1 := [(4, q_i (x4 + 1)), (3, q_i 0), (0, q_r 18 0), (1, q_i x1), (2, q_i x2)]) rfl (by decide) rfl (congrArg (fun z => x4 + z) (by decide : Int32.ofInt 1 = 1)) rfl ?_
            refine q_goto (pc := 62) (tgt := 15) rfl (by decide) ?_
            refine q_sub (pc := 15) (ks := [2, 3, 4, 1, 0]) rfl ?_
            exact ih _ _ _ k
          · have k := k.2 z
            refine q_iconst (pc := 53) (v := 1) rfl (by decide) ?_
            refine q_goto (pc := 54) (tgt := 58) rfl (by decide) ?_
            refine q_istore_n (pc := 58) (ls1 := [(3, q_i 1), (0, q_r 18 0), (1, q_i x1), (2, q_i x2), (4, q_i x4)]) rfl (by decide) rfl ?_
            refine q_iinc (pc := 59) (v := (x4 + 1)) (ls1 := [(4, q_i (x4 + 1)), (3, q_i 1), (0, q_r 18 0), (1, q_i x1), (2, q_i x2)]) rfl (by decide) rfl (congrArg (fun z => x4 + z) (by decide : Int32.ofInt 1 = 1)) rfl ?_
            refine q_goto (pc := 62) (tgt := 15) rfl (by decide) ?_
            refine q_sub (pc := 15) (ks := [2, 3, 4, 1, 0]) rfl ?_
            exact ih _ _ _ k
set_option maxHeartbeats 4000000 in
set_option maxRecDepth 100000 in
theorem dn_X5_isFirst {d : Nat} {a1 : Int32} {a2 : Int32} {h : q_H} {Q : Int32 → q_H → Prop} (k : wp_X5_isFirst a1 a2 h Q) : q_den (d + 1) 130 [q_r 18 0, q_i a1, q_i a2] h (q_ri Q) := by
  unfold wp_X5_isFirst at k
  refine ⟨by decide, Nat.le_of_ble_eq_true rfl, ?_⟩
  show q_run (q_pcs q_t_X5_isFirst) 5 5 none (q_den d) 3 (q_ri Q) 0 [(0, q_r 18 0), (1, q_i a1), (2, q_i a2)] [] h
  refine q_iload_n (pc := 0) rfl rfl ?_
  refine q_iload_n (pc := 1) rfl rfl ?_
  refine q_ishr (pc := 2) rfl ?_
  refine q_iconst (pc := 3) (v := 1) rfl (by decide) ?_
  refine q_iand (pc := 4) rfl ?_
  refine q_if_ne (pc := 5) (tgt := 10) rfl (by decide) (fun z => ?_) (fun z => ?_)
  · have k := k.2 z
    refine q_iconst (pc := 10) (v := 1) rfl (by decide) ?_
    refine q_istore_n (pc := 11) (ls1 := [(3, q_i 1), (0, q_r 18 0), (1, q_i a1), (2, q_i a2)]) rfl (by decide) rfl ?_
    refine q_iconst (pc := 12) (v := 0) rfl (by decide) ?_
    refine q_istore (pc := 13) (ls1 := [(4, q_i 0), (3, q_i 1), (0, q_r 18 0), (1, q_i a1), (2, q_i a2)]) rfl (by decide) rfl ?_
    obtain ⟨n2, k⟩ := k
    refine q_sub (pc := 15) (ks := [2, 3, 4, 1, 0]) rfl ?_
    refine dl_X5_isFirst_15 (fun y3_2 y4_2 g2 k => ?_) n2 _ _ _ k
    refine q_iload_n (pc := 65) rfl rfl ?_
    exact q_zret (pc := 66) rfl rfl k.1 ⟨_, rfl, k.2⟩
  · have k := k.1 z
    refine q_iconst (pc := 8) (v := 0) rfl (by decide) ?_
    exact q_zret (pc := 9) rfl rfl (by decide) ⟨_, rfl, k⟩
set_option maxHeartbeats 4000000 in
set_option maxRecDepth 100000 in
theorem dl_X5_order_22 {d : Nat} {x1 : Int32} {x2 : Int32} {E : Int32 → Int32 → q_H → Prop} {Q : Int32 → q_H → Prop} (hE : ∀ (x3 : Int32) (x4 : Int32) (h : q_H), E x3 x4 h → q_run (q_pcs q_t_X5_order) 5 6 none (q_den (d + 2)) 1 (q_ri Q) 70 [(0, q_r 18 0), (1, q_i x1), (2, q_i x2), (3, q_i x3), (4, q_i x4)] [] h) : ∀ (n : Nat) (x3 : Int32) (x4 : Int32) (h : q_H), lp_X5_order_22 x1 x2 E n x3 x4 h → q_run (q_pcs q_t_X5_order) 5 6 none (q_den (d + 2)) 1 (q_ri Q) 22 [(0, q_r 18 0), (1, q_i x1), (2, q_i x2), (3, q_i x3), (4, q_i x4)] [] h := by
  intro n
  induction n with
  | zero => intro x3 x4 h k; exact k.elim
  | succ n ih =>
    intro x3 x4 h k
    unfold lp_X5_order_22 at k
    refine q_iload (pc := 22) rfl rfl ?_
    refine q_aload_n (pc := 24) rfl rfl ?_
    refine q_getI (pc := 25) rfl (by decide) rfl rfl rfl ?_
    refine q_icmp_ge (pc := 28) (tgt := 70) rfl (by decide) (fun z => ?_) (fun z => ?_)
    · have k := k.1 z
      refine q_sub (pc := 70) (ks := [0, 1, 2, 3, 4]) rfl ?_
      exact hE _ _ _ k
    · have k := k.2 z
      refine q_aload_n (pc := 31) rfl rfl ?_
      refine q_iload (pc := 32) rfl rfl ?_
      refine q_iload_n (pc := 34) rfl rfl ?_
      refine q_callV (pc := 35) (As := [q_i x4, q_i x1]) (rest := []) rfl rfl rfl (by decide) rfl rfl (Nat.le_of_ble_eq_true rfl) ?_
      refine q_den_mono _ _ _ _ _ _ ?_ (dn_X5_isWanted (d := d + 1)  k)
      rintro _ g4 ⟨r5, rfl, k⟩
      refine q_if_eq (pc := 38) (tgt := 64) rfl (by decide) (fun z => ?_) (fun z => ?_)
      · have k := k.1 z
        refine q_iinc (pc := 64) (v := (x4 + 1)) (ls1 := [(4, q_i (x4 + 1)), (0, q_r 18 0), (1, q_i x1), (2, q_i x2), (3, q_i x3)]) rfl (by decide) rfl (congrArg (fun z => x4 + z) (by decide : Int32.ofInt 1 = 1)) rfl ?_
        refine q_goto (pc := 67) (tgt := 22) rfl (by decide) ?_
        refine q_sub (pc := 22) (ks := [1, 2, 3, 4, 0]) rfl ?_
        exact ih _ _ _ k
      · have k := k.2 z
        refine q_iload_n (pc := 41) rfl rfl ?_
        refine q_if_eq (pc := 42) (tgt := 57) rfl (by decide) (fun z => ?_) (fun z => ?_)
        · have k := k.1 z
          refine q_iload_n (pc := 57) rfl rfl ?_
          refine q_iconst (pc := 58) (v := 1) rfl (by decide) ?_
          refine q_iload (pc := 59) rfl rfl ?_
          refine q_ishl (pc := 61) rfl ?_
          refine q_ior (pc := 62) rfl ?_
          refine q_istore_n (pc := 63) (ls1 := [(3, q_i (x3 ||| (1 <<< (x4 &&& 31)))), (0, q_r 18 0), (1, q_i x1), (2, q_i x2), (4, q_i x4)]) rfl (by decide) rfl ?_
          refine q_iinc (pc := 64) (v := (x4 + 1)) (ls1 := [(4, q_i (x4 + 1)), (3, q_i (x3 ||| (1 <<< (x4 &&& 31)))), (0, q_r 18 0), (1, q_i x1), (2, q_i x2)]) rfl (by decide) rfl (congrArg (fun z => x4 + z) (by decide : Int32.ofInt 1 = 1)) rfl ?_
          refine q_goto (pc := 67) (tgt := 22) rfl (by decide) ?_
          refine q_sub (pc := 22) (ks := [2, 3, 4, 1, 0]) rfl ?_
          exact ih _ _ _ k
        · have k := k.2 z
          refine q_aload_n (pc := 45) rfl rfl ?_
          refine q_iload (pc := 46) rfl rfl ?_
          refine q_iload_n (pc := 48) rfl rfl ?_
          refine q_iconst (pc := 49) (v := 1) rfl (by decide) ?_
          refine q_isub (pc := 50) rfl ?_
          refine q_callV (pc := 51) (As := [q_i x4, q_i (x1 - 1)]) (rest := []) rfl rfl rfl (by decide) rfl rfl (Nat.le_of_ble_eq_true rfl) ?_
          refine q_den_mono _ _ _ _ _ _ ?_ (dn_X5_isWanted (d := d + 1)  k)
          rintro _ g6 ⟨r7, rfl, k⟩
          refine q_if_ne (pc := 54) (tgt := 64) rfl (by decide) (fun z => ?_) (fun z => ?_)
          · have k := k.2 z
            refine q_iinc (pc := 64) (v := (x4 + 1)) (ls1 := [(4, q_i (x4 + 1)), (0, q_r 18 0), (1, q_i x1), (2, q_i x2), (3, q_i x3)]) rfl (by decide) rfl (congrArg (fun z => x4 + z) (by decide : Int32.ofInt 1 = 1)) rfl ?_
            refine q_goto (pc := 67) (tgt := 22) rfl (by decide) ?_
            refine q_sub (pc := 22) (ks := [1, 2, 3, 4, 0]) rfl ?_
            exact ih _ _ _ k
          · have k := k.1 z
            refine q_iload_n (pc := 57) rfl rfl ?_
            refine q_iconst (pc := 58) (v := 1) rfl (by decide) ?_
            refine q_iload (pc := 59) rfl rfl ?_
            refine q_ishl (pc := 61) rfl ?_
            refine q_ior (pc := 62) rfl ?_
            refine q_istore_n (pc := 63) (ls1 := [(3, q_i (x3 ||| (1 <<< (x4 &&& 31)))), (0, q_r 18 0), (1, q_i x1), (2, q_i x2), (4, q_i x4)]) rfl (by decide) rfl ?_
            refine q_iinc (pc := 64) (v := (x4 + 1)) (ls1 := [(4, q_i (x4 + 1)), (3, q_i (x3 ||| (1 <<< (x4 &&& 31)))), (0, q_r 18 0), (1, q_i x1), (2, q_i x2)]) rfl (by decide) rfl (congrArg (fun z => x4 + z) (by decide : Int32.ofInt 1 = 1)) rfl ?_
            refine q_goto (pc := 67) (tgt := 22) rfl (by decide) ?_
            refine q_sub (pc := 22) (ks := [2, 3, 4, 1, 0]) rfl ?_
            exact ih _ _ _ k
set_option maxHeartbeats 4000000 in
set_option maxRecDepth 100000 in
theorem dl_X5_order_80 {d : Nat} {x2 : Int32} {x3 : Int32} {x4 : Int32} {E : Int32 → q_H → Prop} {Q : Int32 → q_H → Prop} (hE : ∀ (x5 : Int32) (h : q_H), E x5 h → q_run (q_pcs q_t_X5_order) 5 6 none (q_den (d + 2)) 1 (q_ri Q) 96 [(0, q_r 18 0), (2, q_i x2), (3, q_i x3), (4, q_i x4), (5, q_i x5)] [] h) : ∀ (n : Nat) (x5 : Int32) (h : q_H), lp_X5_order_80 x2 x3 x4 E n x5 h → q_run (q_pcs q_t_X5_order) 5 6 none (q_den (d + 2)) 1 (q_ri Q) 80 [(0, q_r 18 0), (2, q_i x2), (3, q_i x3), (4, q_i x4), (5, q_i x5)] [] h := by
  intro n
  induction n with
  | zero => intro x5 h k; exact k.elim
  | succ n ih =>
    intro x5 h k
    unfold lp_X5_order_80 at k
    refine q_aload_n (pc := 80) rfl rfl ?_
    refine q_iload (pc := 81) rfl rfl ?_
    refine q_iload_n (pc := 83) rfl rfl ?_
    refine q_callV (pc := 84) (As := [q_i x5, q_i x3]) (rest := []) rfl rfl rfl (by decide) rfl rfl (Nat.le_of_ble_eq_true rfl) ?_
    refine q_den_mono _ _ _ _ _ _ ?_ (dn_X5_isFirst (d := d + 1)  k)
    rintro _ g9 ⟨r10, rfl, k⟩
    refine q_if_ne (pc := 87) (tgt := 96) rfl (by decide) (fun z => ?_) (fun z => ?_)
    · have k := k.2 z
      refine q_sub (pc := 96) (ks := [0, 1, 2, 3, 4]) rfl ?_
      exact hE _ _ k
    · have k := k.1 z
      refine q_iinc (pc := 90) (v := (x5 + 1)) (ls1 := [(5, q_i (x5 + 1)), (0, q_r 18 0), (2, q_i x2), (3, q_i x3), (4, q_i x4)]) rfl (by decide) rfl (congrArg (fun z => x5 + z) (by decide : Int32.ofInt 1 = 1)) rfl ?_
      refine q_goto (pc := 93) (tgt := 80) rfl (by decide) ?_
      refine q_sub (pc := 80) (ks := [1, 2, 3, 4, 0]) rfl ?_
      exact ih _ _ k
set_option maxHeartbeats 4000000 in
set_option maxRecDepth 100000 in
theorem dl_X5_order_73 {d : Nat} {x2 : Int32} {E : Int32 → Int32 → q_H → Prop} {Q : Int32 → q_H → Prop} (hE : ∀ (x3 : Int32) (x4 : Int32) (h : q_H), E x3 x4 h → q_run (q_pcs q_t_X5_order) 5 6 none (q_den (d + 2)) 1 (q_ri Q) 120 [(0, q_r 18 0), (2, q_i x2), (3, q_i x3), (4, q_i x4)] [] h) : ∀ (n : Nat) (x3 : Int32) (x4 : Int32) (h : q_H), lp_X5_order_73 x2 Q E n x3 x4 h → q_run (q_pcs q_t_X5_order) 5 6 none (q_den (d + 2)) 1 (q_ri Q) 73 [(0, q_r 18 0), (2, q_i x2), (3, q_i x3), (4, q_i x4)] [] h := by
  intro n
  induction n with
  | zero => intro x3 x4 h k; exact k.elim
  | succ n ih =>
    intro x3 x4 h k
    unfold lp_X5_order_73 at k
    refine q_iload_n (pc := 73) rfl rfl ?_
    refine q_if_eq (pc := 74) (tgt := 120) rfl (by decide) (fun z => ?_) (fun z => ?_)
    · have k := k.1 z
      refine q_sub (pc := 120) (ks := [0, 1, 2, 3]) rfl ?_
      exact hE _ _ _ k
    · have k := k.2 z
      refine q_iconst (pc := 77) (v := 0) rfl (by decide) ?_
      refine q_istore (pc := 78) (ls1 := [(5, q_i 0), (0, q_r 18 0), (2, q_i x2), (3, q_i x3), (4, q_i x4)]) rfl (by decide) rfl ?_
      obtain ⟨n11, k⟩ := k
      refine q_sub (pc := 80) (ks := [1, 2, 3, 4, 0]) rfl ?_
      refine dl_X5_order_80 (fun y5_11 g11 k => ?_) n11 _ _ k
      refine q_iload (pc := 96) rfl rfl ?_
      refine q_iload_n (pc := 98) rfl rfl ?_
      refine q_icmp_ne (pc := 99) (tgt := 105) rfl (by decide) (fun z => ?_) (fun z => ?_)
      · have k := k.2 z
        refine q_iload_n (pc := 105) rfl rfl ?_
        refine q_iconst (pc := 106) (v := 1) rfl (by decide) ?_
        refine q_iload (pc := 107) rfl rfl ?_
        refine q_ishl (pc := 109) rfl ?_
        refine q_iconst (pc := 110) (v := (-1)) rfl (by decide) ?_
        refine q_ixor (pc := 111) rfl ?_
        refine q_iand (pc := 112) rfl ?_
        refine q_istore_n (pc := 113) (ls1 := [(3, q_i (x3 &&& ((1 <<< (y5_11 &&& 31)) ^^^ (-1)))), (0, q_r 18 0), (2, q_i x2), (4, q_i x4), (5, q_i y5_11)]) rfl (by decide) rfl ?_
        refine q_iinc (pc := 114) (v := (x4 + 1)) (ls1 := [(4, q_i (x4 + 1)), (3, q_i (x3 &&& ((1 <<< (y5_11 &&& 31)) ^^^ (-1)))), (0, q_r 18 0), (2, q_i x2), (5, q_i y5_11)]) rfl (by decide) rfl (congrArg (fun z => x4 + z) (by decide : Int32.ofInt 1 = 1)) rfl ?_
        refine q_goto (pc := 117) (tgt := 73) rfl (by decide) ?_
        refine q_sub (pc := 73) (ks := [2, 3, 1, 0]) rfl ?_
        exact ih _ _ _ k
      · have k := k.1 z
        refine q_iload (pc := 102) rfl rfl ?_
        exact q_iret (pc := 104) rfl rfl ⟨_, rfl, k⟩
set_option maxHeartbeats 4000000 in
set_option maxRecDepth 100000 in
theorem dn_X5_order {d : Nat} {a1 : Int32} {a2 : Int32} {h : q_H} {Q : Int32 → q_H → Prop} (k : wp_X5_order a1 a2 h Q) : q_den (d + 3) 129 [q_r 18 0, q_i a1, q_i a2] h (q_ri Q) := by
  unfold wp_X5_order at k
  refine ⟨by decide, Nat.le_of_ble_eq_true rfl, ?_⟩
  show q_run (q_pcs q_t_X5_order) 5 6 none (q_den (d + 2)) 1 (q_ri Q) 0 [(0, q_r 18 0), (1, q_i a1), (2, q_i a2)] [] h
  refine q_iload_n (pc := 0) rfl rfl ?_
  refine q_callS (kd := 0) (pc := 1) (As := [q_i a1]) (rest := []) rfl rfl rfl  rfl (Nat.le_of_ble_eq_true rfl) ?_
  refine q_den_mono _ _ _ _ _ _ ?_ (dn_X5_isTick (d := d)  k)
  rintro _ g1 ⟨r2, rfl, k⟩
  refine q_if_eq (pc := 4) (tgt := 11) rfl (by decide) (fun z => ?_) (fun z => ?_)
  · have k := k.1 z
    refine q_iconst (pc := 11) (v := (-1)) rfl (by decide) ?_
    exact q_iret (pc := 12) rfl rfl ⟨_, rfl, k⟩
  · have k := k.2 z
    refine q_iload_n (pc := 7) rfl rfl ?_
    refine q_if_ge (pc := 8) (tgt := 13) rfl (by decide) (fun z => ?_) (fun z => ?_)
    · have k := k.1 z
      refine q_aload_n (pc := 13) rfl rfl ?_
      refine q_callV (pc := 14) (As := []) (rest := []) rfl rfl rfl (by decide) rfl rfl (Nat.le_of_ble_eq_true rfl) ?_
      refine q_den_mono _ _ _ _ _ _ ?_ (dn_X5_wants (d := d)  k)
      rintro _ g3 ⟨rfl, k⟩
      refine q_iconst (pc := 17) (v := 0) rfl (by decide) ?_
      refine q_istore_n (pc := 18) (ls1 := [(3, q_i 0), (0, q_r 18 0), (1, q_i a1), (2, q_i a2)]) rfl (by decide) rfl ?_
      refine q_iconst (pc := 19) (v := 0) rfl (by decide) ?_
      refine q_istore (pc := 20) (ls1 := [(4, q_i 0), (3, q_i 0), (0, q_r 18 0), (1, q_i a1), (2, q_i a2)]) rfl (by decide) rfl ?_
      obtain ⟨n8, k⟩ := k
      refine q_sub (pc := 22) (ks := [2, 3, 4, 1, 0]) rfl ?_
      refine dl_X5_order_22 (fun y3_8 y4_8 g8 k => ?_) n8 _ _ _ k
      refine q_iconst (pc := 70) (v := 0) rfl (by decide) ?_
      refine q_istore (pc := 71) (ls1 := [(4, q_i 0), (0, q_r 18 0), (1, q_i a1), (2, q_i a2), (3, q_i y3_8)]) rfl (by decide) rfl ?_
      obtain ⟨n12, k⟩ := k
      refine q_sub (pc := 73) (ks := [1, 3, 4, 0]) rfl ?_
      refine dl_X5_order_73 (fun y3_12 y4_12 g12 k => ?_) n12 _ _ _ k
      refine q_iconst (pc := 120) (v := (-1)) rfl (by decide) ?_
      exact q_iret (pc := 121) rfl rfl ⟨_, rfl, k⟩
    · have k := k.2 z
      refine q_iconst (pc := 11) (v := (-1)) rfl (by decide) ?_
      exact q_iret (pc := 12) rfl rfl ⟨_, rfl, k⟩
