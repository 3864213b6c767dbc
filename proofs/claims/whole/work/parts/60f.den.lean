set_option maxHeartbeats 4000000 in
set_option maxRecDepth 100000 in
theorem dl_L_law_18 {d : Nat} {L : Nat} {xs : Nat → Int32} {E : Int32 → q_H → Prop} {Q : Int32 → q_H → Prop} (hE : ∀ (x3 : Int32) (h : q_H), E x3 h → q_run (q_pcs q_t_L_law) 8 4 (some (L, xs)) (q_den (8)) 3 (q_ri Q) 993 [(0, q_r 28 0), (1, q_r 0 0), (2, q_r 18 0), (3, q_i x3)] [] h) : ∀ (n : Nat) (x3 : Int32) (h : q_H), lp_L_law_18 L xs Q E n x3 h → q_run (q_pcs q_t_L_law) 8 4 (some (L, xs)) (q_den (8)) 3 (q_ri Q) 18 [(0, q_r 28 0), (1, q_r 0 0), (2, q_r 18 0), (3, q_i x3)] [] h := by
  intro n
  induction n with
  | zero => intro x3 h k; exact k.elim
  | succ n ih =>
    intro x3 h k
    unfold lp_L_law_18 at k
    refine q_iload_n (pc := 18) rfl rfl ?_
    refine q_aload_n (pc := 19) rfl rfl ?_
    refine q_slen (pc := 20) rfl rfl ?_
    refine q_bipush (pc := 21) (v := 8) rfl (by decide) ?_
    refine q_isub (pc := 23) rfl ?_
    refine q_icmp_gt (pc := 24) (tgt := 993) rfl (by decide) (fun z => ?_) (fun z => ?_)
    · have k := k.1 z
      refine q_sub (pc := 993) (ks := [0, 1, 2, 3]) rfl ?_
      exact hE _ _ k
    · have k := k.2 z
      refine q_aload_n (pc := 27) rfl rfl ?_
      refine q_iload_n (pc := 28) rfl rfl ?_
      obtain ⟨b1, k⟩ := k
      refine q_sld (pc := 29) rfl rfl b1 ?_
      refine q_bipush (pc := 30) (v := 31) rfl (by decide) ?_
      refine q_iand (pc := 32) rfl ?_
      by_cases z0 : Int32.toInt ((xs (Int32.toNatClampNeg x3)) &&& 31) = 0
      · refine q_tsIn (pc := 33) (tgt := 144) rfl (by rw [z0]; decide) (by rw [z0]; decide) (by rw [z0]; rfl) (by decide) ?_
        have k := k.1 z0
        refine q_aload_n (pc := 144) rfl rfl ?_
        refine q_aload_n (pc := 145) rfl rfl ?_
        refine q_iload_n (pc := 146) rfl rfl ?_
        refine q_iconst (pc := 147) (v := 1) rfl (by decide) ?_
        refine q_iadd (pc := 148) rfl ?_
        obtain ⟨b2, k⟩ := k
        refine q_sld (pc := 149) rfl rfl b2 ?_
        refine q_aload_n (pc := 150) rfl rfl ?_
        refine q_iload_n (pc := 151) rfl rfl ?_
        refine q_iconst (pc := 152) (v := 2) rfl (by decide) ?_
        refine q_iadd (pc := 153) rfl ?_
        obtain ⟨b3, k⟩ := k
        refine q_sld (pc := 154) rfl rfl b3 ?_
        refine q_aload_n (pc := 155) rfl rfl ?_
        refine q_iload_n (pc := 156) rfl rfl ?_
        refine q_iconst (pc := 157) (v := 3) rfl (by decide) ?_
        refine q_iadd (pc := 158) rfl ?_
        obtain ⟨b4, k⟩ := k
        refine q_sld (pc := 159) rfl rfl b4 ?_
        refine q_aload_n (pc := 160) rfl rfl ?_
        refine q_iload_n (pc := 161) rfl rfl ?_
        refine q_iconst (pc := 162) (v := 4) rfl (by decide) ?_
        refine q_iadd (pc := 163) rfl ?_
        obtain ⟨b5, k⟩ := k
        refine q_sld (pc := 164) rfl rfl b5 ?_
        refine q_callV (pc := 165) (As := [q_i (xs (Int32.toNatClampNeg (x3 + 1))), q_i (xs (Int32.toNatClampNeg (x3 + 2))), q_i (xs (Int32.toNatClampNeg (x3 + 3))), q_i (xs (Int32.toNatClampNeg (x3 + 4)))]) (rest := []) rfl rfl rfl (by decide) rfl rfl (Nat.le_of_ble_eq_true rfl) ?_
        refine q_den_mono _ _ _ _ _ _ ?_ (dn_X4_part (d := 6)  k)
        rintro _ g6 ⟨r7, rfl, k⟩
        refine q_aload_n (pc := 168) rfl rfl ?_
        refine q_aload_n (pc := 169) rfl rfl ?_
        refine q_iload_n (pc := 170) rfl rfl ?_
        refine q_iconst (pc := 171) (v := 1) rfl (by decide) ?_
        refine q_iadd (pc := 172) rfl ?_
        obtain ⟨b8, k⟩ := k
        refine q_sld (pc := 173) rfl rfl b8 ?_
        refine q_aload_n (pc := 174) rfl rfl ?_
        refine q_iload_n (pc := 175) rfl rfl ?_
        refine q_iconst (pc := 176) (v := 2) rfl (by decide) ?_
        refine q_iadd (pc := 177) rfl ?_
        obtain ⟨b9, k⟩ := k
        refine q_sld (pc := 178) rfl rfl b9 ?_
        refine q_aload_n (pc := 179) rfl rfl ?_
        refine q_iload_n (pc := 180) rfl rfl ?_
        refine q_iconst (pc := 181) (v := 3) rfl (by decide) ?_
        refine q_iadd (pc := 182) rfl ?_
        obtain ⟨b10, k⟩ := k
        refine q_sld (pc := 183) rfl rfl b10 ?_
        refine q_aload_n (pc := 184) rfl rfl ?_
        refine q_iload_n (pc := 185) rfl rfl ?_
        refine q_iconst (pc := 186) (v := 4) rfl (by decide) ?_
        refine q_iadd (pc := 187) rfl ?_
        obtain ⟨b11, k⟩ := k
        refine q_sld (pc := 188) rfl rfl b11 ?_
        refine q_callV (pc := 189) (As := [q_i (xs (Int32.toNatClampNeg (x3 + 1))), q_i (xs (Int32.toNatClampNeg (x3 + 2))), q_i (xs (Int32.toNatClampNeg (x3 + 3))), q_i (xs (Int32.toNatClampNeg (x3 + 4)))]) (rest := [q_i r7]) rfl rfl rfl (by decide) rfl rfl (Nat.le_of_ble_eq_true rfl) ?_
        refine q_den_mono _ _ _ _ _ _ ?_ (dn_X5_part (d := 6)  k)
        rintro _ g12 ⟨r13, rfl, k⟩
        refine q_icmp_eq (pc := 192) (tgt := 987) rfl (by decide) (fun z => ?_) (fun z => ?_)
        · have k := k.1 z
          refine q_iinc (pc := 987) (v := (x3 + 8)) (ls1 := [(3, q_i (x3 + 8)), (0, q_r 28 0), (1, q_r 0 0), (2, q_r 18 0)]) rfl (by decide) rfl (congrArg (fun z => x3 + z) (by decide : Int32.ofInt 8 = 8)) rfl ?_
          refine q_goto (pc := 990) (tgt := 18) rfl (by decide) ?_
          refine q_sub (pc := 18) (ks := [1, 2, 3, 0]) rfl ?_
          exact ih _ _ k
        · have k := k.2 z
          refine q_iconst (pc := 195) (v := 0) rfl (by decide) ?_
          exact q_zret (pc := 196) rfl rfl (by decide) ⟨_, rfl, k⟩
      by_cases z1 : Int32.toInt ((xs (Int32.toNatClampNeg x3)) &&& 31) = 1
      · refine q_tsIn (pc := 33) (tgt := 197) rfl (by rw [z1]; decide) (by rw [z1]; decide) (by rw [z1]; rfl) (by decide) ?_
        have k := k.2.1 z1
        refine q_aload_n (pc := 197) rfl rfl ?_
        refine q_aload_n (pc := 198) rfl rfl ?_
        refine q_iload_n (pc := 199) rfl rfl ?_
        refine q_iconst (pc := 200) (v := 1) rfl (by decide) ?_
        refine q_iadd (pc := 201) rfl ?_
        obtain ⟨b14, k⟩ := k
        refine q_sld (pc := 202) rfl rfl b14 ?_
        refine q_aload_n (pc := 203) rfl rfl ?_
        refine q_iload_n (pc := 204) rfl rfl ?_
        refine q_iconst (pc := 205) (v := 2) rfl (by decide) ?_
        refine q_iadd (pc := 206) rfl ?_
        obtain ⟨b15, k⟩ := k
        refine q_sld (pc := 207) rfl rfl b15 ?_
        refine q_aload_n (pc := 208) rfl rfl ?_
        refine q_iload_n (pc := 209) rfl rfl ?_
        refine q_iconst (pc := 210) (v := 3) rfl (by decide) ?_
        refine q_iadd (pc := 211) rfl ?_
        obtain ⟨b16, k⟩ := k
        refine q_sld (pc := 212) rfl rfl b16 ?_
        refine q_aload_n (pc := 213) rfl rfl ?_
        refine q_iload_n (pc := 214) rfl rfl ?_
        refine q_iconst (pc := 215) (v := 4) rfl (by decide) ?_
        refine q_iadd (pc := 216) rfl ?_
        obtain ⟨b17, k⟩ := k
        refine q_sld (pc := 217) rfl rfl b17 ?_
        refine q_aload_n (pc := 218) rfl rfl ?_
        refine q_iload_n (pc := 219) rfl rfl ?_
        refine q_iconst (pc := 220) (v := 5) rfl (by decide) ?_
        refine q_iadd (pc := 221) rfl ?_
        obtain ⟨b18, k⟩ := k
        refine q_sld (pc := 222) rfl rfl b18 ?_
        refine q_aload_n (pc := 223) rfl rfl ?_
        refine q_iload_n (pc := 224) rfl rfl ?_
        refine q_bipush (pc := 225) (v := 6) rfl (by decide) ?_
        refine q_iadd (pc := 227) rfl ?_
        obtain ⟨b19, k⟩ := k
        refine q_sld (pc := 228) rfl rfl b19 ?_
        refine q_aload_n (pc := 229) rfl rfl ?_
        refine q_iload_n (pc := 230) rfl rfl ?_
        refine q_bipush (pc := 231) (v := 7) rfl (by decide) ?_
        refine q_iadd (pc := 233) rfl ?_
        obtain ⟨b20, k⟩ := k
        refine q_sld (pc := 234) rfl rfl b20 ?_
        refine q_callV (pc := 235) (As := [q_i (xs (Int32.toNatClampNeg (x3 + 1))), q_i (xs (Int32.toNatClampNeg (x3 + 2))), q_i (xs (Int32.toNatClampNeg (x3 + 3))), q_i (xs (Int32.toNatClampNeg (x3 + 4))), q_i (xs (Int32.toNatClampNeg (x3 + 5))), q_i (xs (Int32.toNatClampNeg (x3 + 6))), q_i (xs (Int32.toNatClampNeg (x3 + 7)))]) (rest := []) rfl rfl rfl (by decide) rfl rfl (Nat.le_of_ble_eq_true rfl) ?_
        refine q_den_mono _ _ _ _ _ _ ?_ (dn_X4_rise (d := 6)  k)
        rintro _ g21 ⟨r22, rfl, k⟩
        refine q_aload_n (pc := 238) rfl rfl ?_
        refine q_aload_n (pc := 239) rfl rfl ?_
        refine q_iload_n (pc := 240) rfl rfl ?_
        refine q_iconst (pc := 241) (v := 1) rfl (by decide) ?_
        refine q_iadd (pc := 242) rfl ?_
        obtain ⟨b23, k⟩ := k
        refine q_sld (pc := 243) rfl rfl b23 ?_
        refine q_aload_n (pc := 244) rfl rfl ?_
        refine q_iload_n (pc := 245) rfl rfl ?_
        refine q_iconst (pc := 246) (v := 2) rfl (by decide) ?_
        refine q_iadd (pc := 247) rfl ?_
        obtain ⟨b24, k⟩ := k
        refine q_sld (pc := 248) rfl rfl b24 ?_
        refine q_aload_n (pc := 249) rfl rfl ?_
        refine q_iload_n (pc := 250) rfl rfl ?_
        refine q_iconst (pc := 251) (v := 3) rfl (by decide) ?_
        refine q_iadd (pc := 252) rfl ?_
        obtain ⟨b25, k⟩ := k
        refine q_sld (pc := 253) rfl rfl b25 ?_
        refine q_aload_n (pc := 254) rfl rfl ?_
        refine q_iload_n (pc := 255) rfl rfl ?_
        refine q_iconst (pc := 256) (v := 4) rfl (by decide) ?_
        refine q_iadd (pc := 257) rfl ?_
        obtain ⟨b26, k⟩ := k
        refine q_sld (pc := 258) rfl rfl b26 ?_
        refine q_aload_n (pc := 259) rfl rfl ?_
        refine q_iload_n (pc := 260) rfl rfl ?_
        refine q_iconst (pc := 261) (v := 5) rfl (by decide) ?_
        refine q_iadd (pc := 262) rfl ?_
        obtain ⟨b27, k⟩ := k
        refine q_sld (pc := 263) rfl rfl b27 ?_
        refine q_aload_n (pc := 264) rfl rfl ?_
        refine q_iload_n (pc := 265) rfl rfl ?_
        refine q_bipush (pc := 266) (v := 6) rfl (by decide) ?_
        refine q_iadd (pc := 268) rfl ?_
        obtain ⟨b28, k⟩ := k
        refine q_sld (pc := 269) rfl rfl b28 ?_
        refine q_aload_n (pc := 270) rfl rfl ?_
        refine q_iload_n (pc := 271) rfl rfl ?_
        refine q_bipush (pc := 272) (v := 7) rfl (by decide) ?_
        refine q_iadd (pc := 274) rfl ?_
        obtain ⟨b29, k⟩ := k
        refine q_sld (pc := 275) rfl rfl b29 ?_
        refine q_callV (pc := 276) (As := [q_i (xs (Int32.toNatClampNeg (x3 + 1))), q_i (xs (Int32.toNatClampNeg (x3 + 2))), q_i (xs (Int32.toNatClampNeg (x3 + 3))), q_i (xs (Int32.toNatClampNeg (x3 + 4))), q_i (xs (Int32.toNatClampNeg (x3 + 5))), q_i (xs (Int32.toNatClampNeg (x3 + 6))), q_i (xs (Int32.toNatClampNeg (x3 + 7)))]) (rest := [q_i r22]) rfl rfl rfl (by decide) rfl rfl (Nat.le_of_ble_eq_true rfl) ?_
        refine q_den_mono _ _ _ _ _ _ ?_ (dn_X5_rise (d := 5)  k)
        rintro _ g30 ⟨r31, rfl, k⟩
        refine q_icmp_eq (pc := 279) (tgt := 987) rfl (by decide) (fun z => ?_) (fun z => ?_)
        · have k := k.1 z
          refine q_iinc (pc := 987) (v := (x3 + 8)) (ls1 := [(3, q_i (x3 + 8)), (0, q_r 28 0), (1, q_r 0 0), (2, q_r 18 0)]) rfl (by decide) rfl (congrArg (fun z => x3 + z) (by decide : Int32.ofInt 8 = 8)) rfl ?_
          refine q_goto (pc := 990) (tgt := 18) rfl (by decide) ?_
          refine q_sub (pc := 18) (ks := [1, 2, 3, 0]) rfl ?_
          exact ih _ _ k
        · have k := k.2 z
          refine q_iconst (pc := 282) (v := 0) rfl (by decide) ?_
          exact q_zret (pc := 283) rfl rfl (by decide) ⟨_, rfl, k⟩
      by_cases z2 : Int32.toInt ((xs (Int32.toNatClampNeg x3)) &&& 31) = 2
      · refine q_tsIn (pc := 33) (tgt := 284) rfl (by rw [z2]; decide) (by rw [z2]; decide) (by rw [z2]; rfl) (by decide) ?_
        have k := k.2.2.1 z2
        refine q_aload_n (pc := 284) rfl rfl ?_
        refine q_aload_n (pc := 285) rfl rfl ?_
        refine q_iload_n (pc := 286) rfl rfl ?_
        refine q_iconst (pc := 287) (v := 1) rfl (by decide) ?_
        refine q_iadd (pc := 288) rfl ?_
        obtain ⟨b32, k⟩ := k
        refine q_sld (pc := 289) rfl rfl b32 ?_
        refine q_aload_n (pc := 290) rfl rfl ?_
        refine q_iload_n (pc := 291) rfl rfl ?_
        refine q_iconst (pc := 292) (v := 2) rfl (by decide) ?_
        refine q_iadd (pc := 293) rfl ?_
        obtain ⟨b33, k⟩ := k
        refine q_sld (pc := 294) rfl rfl b33 ?_
        refine q_aload_n (pc := 295) rfl rfl ?_
        refine q_iload_n (pc := 296) rfl rfl ?_
        refine q_iconst (pc := 297) (v := 3) rfl (by decide) ?_
        refine q_iadd (pc := 298) rfl ?_
        obtain ⟨b34, k⟩ := k
        refine q_sld (pc := 299) rfl rfl b34 ?_
        refine q_if_eq (pc := 300) (tgt := 307) rfl (by decide) (fun z => ?_) (fun z => ?_)
        · have k := k.1 z
          refine q_iconst (pc := 307) (v := 0) rfl (by decide) ?_
          refine q_callV (pc := 308) (As := [q_i (xs (Int32.toNatClampNeg (x3 + 1))), q_i (xs (Int32.toNatClampNeg (x3 + 2))), q_i 0]) (rest := []) rfl rfl rfl (by decide) rfl rfl (Nat.le_of_ble_eq_true rfl) ?_
          refine q_den_mono _ _ _ _ _ _ ?_ (dn_X4_need (d := 3)  k)
          rintro _ g35 ⟨r36, rfl, k⟩
          refine q_aload_n (pc := 311) rfl rfl ?_
          refine q_aload_n (pc := 312) rfl rfl ?_
          refine q_iload_n (pc := 313) rfl rfl ?_
          refine q_iconst (pc := 314) (v := 1) rfl (by decide) ?_
          refine q_iadd (pc := 315) rfl ?_
          obtain ⟨b37, k⟩ := k
          refine q_sld (pc := 316) rfl rfl b37 ?_
          refine q_aload_n (pc := 317) rfl rfl ?_
          refine q_iload_n (pc := 318) rfl rfl ?_
          refine q_iconst (pc := 319) (v := 2) rfl (by decide) ?_
          refine q_iadd (pc := 320) rfl ?_
          obtain ⟨b38, k⟩ := k
          refine q_sld (pc := 321) rfl rfl b38 ?_
          refine q_aload_n (pc := 322) rfl rfl ?_
          refine q_iload_n (pc := 323) rfl rfl ?_
          refine q_iconst (pc := 324) (v := 3) rfl (by decide) ?_
          refine q_iadd (pc := 325) rfl ?_
          obtain ⟨b39, k⟩ := k
          refine q_sld (pc := 326) rfl rfl b39 ?_
          refine q_if_eq (pc := 327) (tgt := 334) rfl (by decide) (fun z => ?_) (fun z => ?_)
          · have k := k.1 z
            refine q_iconst (pc := 334) (v := 0) rfl (by decide) ?_
            refine q_callV (pc := 335) (As := [q_i (xs (Int32.toNatClampNeg (x3 + 1))), q_i (xs (Int32.toNatClampNeg (x3 + 2))), q_i 0]) (rest := [q_i r36]) rfl rfl rfl (by decide) rfl rfl (Nat.le_of_ble_eq_true rfl) ?_
            refine q_den_mono _ _ _ _ _ _ ?_ (dn_X5_need (d := 5)  k)
            rintro _ g40 ⟨r41, rfl, k⟩
            refine q_icmp_eq (pc := 338) (tgt := 987) rfl (by decide) (fun z => ?_) (fun z => ?_)
            · have k := k.1 z
              refine q_iinc (pc := 987) (v := (x3 + 8)) (ls1 := [(3, q_i (x3 + 8)), (0, q_r 28 0), (1, q_r 0 0), (2, q_r 18 0)]) rfl (by decide) rfl (congrArg (fun z => x3 + z) (by decide : Int32.ofInt 8 = 8)) rfl ?_
              refine q_goto (pc := 990) (tgt := 18) rfl (by decide) ?_
              refine q_sub (pc := 18) (ks := [1, 2, 3, 0]) rfl ?_
              exact ih _ _ k
            · have k := k.2 z
              refine q_iconst (pc := 341) (v := 0) rfl (by decide) ?_
              exact q_zret (pc := 342) rfl rfl (by decide) ⟨_, rfl, k⟩
          · have k := k.2 z
            refine q_iconst (pc := 330) (v := 1) rfl (by decide) ?_
            refine q_goto (pc := 331) (tgt := 335) rfl (by decide) ?_
            refine q_callV (pc := 335) (As := [q_i (xs (Int32.toNatClampNeg (x3 + 1))), q_i (xs (Int32.toNatClampNeg (x3 + 2))), q_i 1]) (rest := [q_i r36]) rfl rfl rfl (by decide) rfl rfl (Nat.le_of_ble_eq_true rfl) ?_
            refine q_den_mono _ _ _ _ _ _ ?_ (dn_X5_need (d := 5)  k)
            rintro _ g42 ⟨r43, rfl, k⟩
            refine q_icmp_eq (pc := 338) (tgt := 987) rfl (by decide) (fun z => ?_) (fun z => ?_)
            · have k := k.1 z
              refine q_iinc (pc := 987) (v := (x3 + 8)) (ls1 := [(3, q_i (x3 + 8)), (0, q_r 28 0), (1, q_r 0 0), (2, q_r 18 0)]) rfl (by decide) rfl (congrArg (fun z => x3 + z) (by decide : Int32.ofInt 8 = 8)) rfl ?_
              refine q_goto (pc := 990) (tgt := 18) rfl (by decide) ?_
              refine q_sub (pc := 18) (ks := [1, 2, 3, 0]) rfl ?_
              exact ih _ _ k
            · have k := k.2 z
              refine q_iconst (pc := 341) (v := 0) rfl (by decide) ?_
              exact q_zret (pc := 342) rfl rfl (by decide) ⟨_, rfl, k⟩
        · have k := k.2 z
          refine q_iconst (pc := 303) (v := 1) rfl (by decide) ?_
          refine q_goto (pc := 304) (tgt := 308) rfl (by decide) ?_
          refine q_callV (pc := 308) (As := [q_i (xs (Int32.toNatClampNeg (x3 + 1))), q_i (xs (Int32.toNatClampNeg (x3 + 2))), q_i 1]) (rest := []) rfl rfl rfl (by decide) rfl rfl (Nat.le_of_ble_eq_true rfl) ?_
          refine q_den_mono _ _ _ _ _ _ ?_ (dn_X4_need (d := 3)  k)
          rintro _ g44 ⟨r45, rfl, k⟩
          refine q_aload_n (pc := 311) rfl rfl ?_
          refine q_aload_n (pc := 312) rfl rfl ?_
          refine q_iload_n (pc := 313) rfl rfl ?_
          refine q_iconst (pc := 314) (v := 1) rfl (by decide) ?_
          refine q_iadd (pc := 315) rfl ?_
          obtain ⟨b46, k⟩ := k
          refine q_sld (pc := 316) rfl rfl b46 ?_
          refine q_aload_n (pc := 317) rfl rfl ?_
          refine q_iload_n (pc := 318) rfl rfl ?_
          refine q_iconst (pc := 319) (v := 2) rfl (by decide) ?_
          refine q_iadd (pc := 320) rfl ?_
          obtain ⟨b47, k⟩ := k
          refine q_sld (pc := 321) rfl rfl b47 ?_
          refine q_aload_n (pc := 322) rfl rfl ?_
          refine q_iload_n (pc := 323) rfl rfl ?_
          refine q_iconst (pc := 324) (v := 3) rfl (by decide) ?_
          refine q_iadd (pc := 325) rfl ?_
          obtain ⟨b48, k⟩ := k
          refine q_sld (pc := 326) rfl rfl b48 ?_
          refine q_if_eq (pc := 327) (tgt := 334) rfl (by decide) (fun z => ?_) (fun z => ?_)
          · have k := k.1 z
            refine q_iconst (pc := 334) (v := 0) rfl (by decide) ?_
            refine q_callV (pc := 335) (As := [q_i (xs (Int32.toNatClampNeg (x3 + 1))), q_i (xs (Int32.toNatClampNeg (x3 + 2))), q_i 0]) (rest := [q_i r45]) rfl rfl rfl (by decide) rfl rfl (Nat.le_of_ble_eq_true rfl) ?_
            refine q_den_mono _ _ _ _ _ _ ?_ (dn_X5_need (d := 5)  k)
            rintro _ g49 ⟨r50, rfl, k⟩
            refine q_icmp_eq (pc := 338) (tgt := 987) rfl (by decide) (fun z => ?_) (fun z => ?_)
            · have k := k.1 z
              refine q_iinc (pc := 987) (v := (x3 + 8)) (ls1 := [(3, q_i (x3 + 8)), (0, q_r 28 0), (1, q_r 0 0), (2, q_r 18 0)]) rfl (by decide) rfl (congrArg (fun z => x3 + z) (by decide : Int32.ofInt 8 = 8)) rfl ?_
              refine q_goto (pc := 990) (tgt := 18) rfl (by decide) ?_
              refine q_sub (pc := 18) (ks := [1, 2, 3, 0]) rfl ?_
              exact ih _ _ k
            · have k := k.2 z
              refine q_iconst (pc := 341) (v := 0) rfl (by decide) ?_
              exact q_zret (pc := 342) rfl rfl (by decide) ⟨_, rfl, k⟩
          · have k := k.2 z
            refine q_iconst (pc := 330) (v := 1) rfl (by decide) ?_
            refine q_goto (pc := 331) (tgt := 335) rfl (by decide) ?_
            refine q_callV (pc := 335) (As := [q_i (xs (Int32.toNatClampNeg (x3 + 1))), q_i (xs (Int32.toNatClampNeg (x3 + 2))), q_i 1]) (rest := [q_i r45]) rfl rfl rfl (by decide) rfl rfl (Nat.le_of_ble_eq_true rfl) ?_
            refine q_den_mono _ _ _ _ _ _ ?_ (dn_X5_need (d := 5)  k)
            rintro _ g51 ⟨r52, rfl, k⟩
            refine q_icmp_eq (pc := 338) (tgt := 987) rfl (by decide) (fun z => ?_) (fun z => ?_)
            · have k := k.1 z
              refine q_iinc (pc := 987) (v := (x3 + 8)) (ls1 := [(3, q_i (x3 + 8)), (0, q_r 28 0), (1, q_r 0 0), (2, q_r 18 0)]) rfl (by decide) rfl (congrArg (fun z => x3 + z) (by decide : Int32.ofInt 8 = 8)) rfl ?_
              refine q_goto (pc := 990) (tgt := 18) rfl (by decide) ?_
              refine q_sub (pc := 18) (ks := [1, 2, 3, 0]) rfl ?_
              exact ih _ _ k
            · have k := k.2 z
              refine q_iconst (pc := 341) (v := 0) rfl (by decide) ?_
              exact q_zret (pc := 342) rfl rfl (by decide) ⟨_, rfl, k⟩
      by_cases z3 : Int32.toInt ((xs (Int32.toNatClampNeg x3)) &&& 31) = 3
      · refine q_tsIn (pc := 33) (tgt := 343) rfl (by rw [z3]; decide) (by rw [z3]; decide) (by rw [z3]; rfl) (by decide) ?_
        have k := k.2.2.2.1 z3
        refine q_aload_n (pc := 343) rfl rfl ?_
        refine q_aload_n (pc := 344) rfl rfl ?_
        refine q_iload_n (pc := 345) rfl rfl ?_
        refine q_iconst (pc := 346) (v := 1) rfl (by decide) ?_
        refine q_iadd (pc := 347) rfl ?_
        obtain ⟨b53, k⟩ := k
        refine q_sld (pc := 348) rfl rfl b53 ?_
        refine q_aload_n (pc := 349) rfl rfl ?_
        refine q_iload_n (pc := 350) rfl rfl ?_
        refine q_iconst (pc := 351) (v := 2) rfl (by decide) ?_
        refine q_iadd (pc := 352) rfl ?_
        obtain ⟨b54, k⟩ := k
        refine q_sld (pc := 353) rfl rfl b54 ?_
        refine q_aload_n (pc := 354) rfl rfl ?_
        refine q_iload_n (pc := 355) rfl rfl ?_
        refine q_iconst (pc := 356) (v := 3) rfl (by decide) ?_
        refine q_iadd (pc := 357) rfl ?_
        obtain ⟨b55, k⟩ := k
        refine q_sld (pc := 358) rfl rfl b55 ?_
        refine q_aload_n (pc := 359) rfl rfl ?_
        refine q_iload_n (pc := 360) rfl rfl ?_
        refine q_iconst (pc := 361) (v := 4) rfl (by decide) ?_
        refine q_iadd (pc := 362) rfl ?_
        obtain ⟨b56, k⟩ := k
        refine q_sld (pc := 363) rfl rfl b56 ?_
        refine q_callV (pc := 364) (As := [q_i (xs (Int32.toNatClampNeg (x3 + 1))), q_i (xs (Int32.toNatClampNeg (x3 + 2))), q_i (xs (Int32.toNatClampNeg (x3 + 3))), q_i (xs (Int32.toNatClampNeg (x3 + 4)))]) (rest := []) rfl rfl rfl (by decide) rfl rfl (Nat.le_of_ble_eq_true rfl) ?_
        refine q_den_mono _ _ _ _ _ _ ?_ (dn_X4_hold (d := 3)  k)
        rintro _ g57 ⟨r58, rfl, k⟩
        refine q_aload_n (pc := 367) rfl rfl ?_
        refine q_aload_n (pc := 368) rfl rfl ?_
        refine q_iload_n (pc := 369) rfl rfl ?_
        refine q_iconst (pc := 370) (v := 1) rfl (by decide) ?_
        refine q_iadd (pc := 371) rfl ?_
        obtain ⟨b59, k⟩ := k
        refine q_sld (pc := 372) rfl rfl b59 ?_
        refine q_aload_n (pc := 373) rfl rfl ?_
        refine q_iload_n (pc := 374) rfl rfl ?_
        refine q_iconst (pc := 375) (v := 2) rfl (by decide) ?_
        refine q_iadd (pc := 376) rfl ?_
        obtain ⟨b60, k⟩ := k
        refine q_sld (pc := 377) rfl rfl b60 ?_
        refine q_aload_n (pc := 378) rfl rfl ?_
        refine q_iload_n (pc := 379) rfl rfl ?_
        refine q_iconst (pc := 380) (v := 3) rfl (by decide) ?_
        refine q_iadd (pc := 381) rfl ?_
        obtain ⟨b61, k⟩ := k
        refine q_sld (pc := 382) rfl rfl b61 ?_
        refine q_aload_n (pc := 383) rfl rfl ?_
        refine q_iload_n (pc := 384) rfl rfl ?_
        refine q_iconst (pc := 385) (v := 4) rfl (by decide) ?_
        refine q_iadd (pc := 386) rfl ?_
        obtain ⟨b62, k⟩ := k
        refine q_sld (pc := 387) rfl rfl b62 ?_
        refine q_callV (pc := 388) (As := [q_i (xs (Int32.toNatClampNeg (x3 + 1))), q_i (xs (Int32.toNatClampNeg (x3 + 2))), q_i (xs (Int32.toNatClampNeg (x3 + 3))), q_i (xs (Int32.toNatClampNeg (x3 + 4)))]) (rest := [q_i r58]) rfl rfl rfl (by decide) rfl rfl (Nat.le_of_ble_eq_true rfl) ?_
        refine q_den_mono _ _ _ _ _ _ ?_ (dn_X5_hold (d := 5)  k)
        rintro _ g63 ⟨r64, rfl, k⟩
        refine q_icmp_eq (pc := 391) (tgt := 987) rfl (by decide) (fun z => ?_) (fun z => ?_)
        · have k := k.1 z
          refine q_iinc (pc := 987) (v := (x3 + 8)) (ls1 := [(3, q_i (x3 + 8)), (0, q_r 28 0), (1, q_r 0 0), (2, q_r 18 0)]) rfl (by decide) rfl (congrArg (fun z => x3 + z) (by decide : Int32.ofInt 8 = 8)) rfl ?_
          refine q_goto (pc := 990) (tgt := 18) rfl (by decide) ?_
          refine q_sub (pc := 18) (ks := [1, 2, 3, 0]) rfl ?_
          exact ih _ _ k
        · have k := k.2 z
          refine q_iconst (pc := 394) (v := 0) rfl (by decide) ?_
          exact q_zret (pc := 395) rfl rfl (by decide) ⟨_, rfl, k⟩
      by_cases z4 : Int32.toInt ((xs (Int32.toNatClampNeg x3)) &&& 31) = 4
      · refine q_tsIn (pc := 33) (tgt := 396) rfl (by rw [z4]; decide) (by rw [z4]; decide) (by rw [z4]; rfl) (by decide) ?_
        have k := k.2.2.2.2.1 z4
        refine q_aload_n (pc := 396) rfl rfl ?_
        refine q_aload_n (pc := 397) rfl rfl ?_
        refine q_iload_n (pc := 398) rfl rfl ?_
        refine q_iconst (pc := 399) (v := 1) rfl (by decide) ?_
        refine q_iadd (pc := 400) rfl ?_
        obtain ⟨b65, k⟩ := k
        refine q_sld (pc := 401) rfl rfl b65 ?_
        refine q_aload_n (pc := 402) rfl rfl ?_
        refine q_iload_n (pc := 403) rfl rfl ?_
        refine q_iconst (pc := 404) (v := 2) rfl (by decide) ?_
        refine q_iadd (pc := 405) rfl ?_
        obtain ⟨b66, k⟩ := k
        refine q_sld (pc := 406) rfl rfl b66 ?_
        refine q_callV (pc := 407) (As := [q_i (xs (Int32.toNatClampNeg (x3 + 1))), q_i (xs (Int32.toNatClampNeg (x3 + 2)))]) (rest := []) rfl rfl rfl (by decide) rfl rfl (Nat.le_of_ble_eq_true rfl) ?_
        refine q_den_mono _ _ _ _ _ _ ?_ (dn_X4_back (d := 3)  k)
        rintro _ g67 ⟨r68, rfl, k⟩
        refine q_aload_n (pc := 410) rfl rfl ?_
        refine q_aload_n (pc := 411) rfl rfl ?_
        refine q_iload_n (pc := 412) rfl rfl ?_
        refine q_iconst (pc := 413) (v := 1) rfl (by decide) ?_
        refine q_iadd (pc := 414) rfl ?_
        obtain ⟨b69, k⟩ := k
        refine q_sld (pc := 415) rfl rfl b69 ?_
        refine q_aload_n (pc := 416) rfl rfl ?_
        refine q_iload_n (pc := 417) rfl rfl ?_
        refine q_iconst (pc := 418) (v := 2) rfl (by decide) ?_
        refine q_iadd (pc := 419) rfl ?_
        obtain ⟨b70, k⟩ := k
        refine q_sld (pc := 420) rfl rfl b70 ?_
        refine q_callV (pc := 421) (As := [q_i (xs (Int32.toNatClampNeg (x3 + 1))), q_i (xs (Int32.toNatClampNeg (x3 + 2)))]) (rest := [q_i r68]) rfl rfl rfl (by decide) rfl rfl (Nat.le_of_ble_eq_true rfl) ?_
        refine q_den_mono _ _ _ _ _ _ ?_ (dn_X5_back (d := 6)  k)
        rintro _ g71 ⟨r72, rfl, k⟩
        refine q_icmp_eq (pc := 424) (tgt := 987) rfl (by decide) (fun z => ?_) (fun z => ?_)
        · have k := k.1 z
          refine q_iinc (pc := 987) (v := (x3 + 8)) (ls1 := [(3, q_i (x3 + 8)), (0, q_r 28 0), (1, q_r 0 0), (2, q_r 18 0)]) rfl (by decide) rfl (congrArg (fun z => x3 + z) (by decide : Int32.ofInt 8 = 8)) rfl ?_
          refine q_goto (pc := 990) (tgt := 18) rfl (by decide) ?_
          refine q_sub (pc := 18) (ks := [1, 2, 3, 0]) rfl ?_
          exact ih _ _ k
        · have k := k.2 z
          refine q_iconst (pc := 427) (v := 0) rfl (by decide) ?_
          exact q_zret (pc := 428) rfl rfl (by decide) ⟨_, rfl, k⟩
      by_cases z5 : Int32.toInt ((xs (Int32.toNatClampNeg x3)) &&& 31) = 5
      · refine q_tsIn (pc := 33) (tgt := 429) rfl (by rw [z5]; decide) (by rw [z5]; decide) (by rw [z5]; rfl) (by decide) ?_
        have k := k.2.2.2.2.2.1 z5
        refine q_aload_n (pc := 429) rfl rfl ?_
        refine q_aload_n (pc := 430) rfl rfl ?_
        refine q_iload_n (pc := 431) rfl rfl ?_
        refine q_iconst (pc := 432) (v := 1) rfl (by decide) ?_
        refine q_iadd (pc := 433) rfl ?_
        obtain ⟨b73, k⟩ := k
        refine q_sld (pc := 434) rfl rfl b73 ?_
        refine q_aload_n (pc := 435) rfl rfl ?_
        refine q_iload_n (pc := 436) rfl rfl ?_
        refine q_iconst (pc := 437) (v := 2) rfl (by decide) ?_
        refine q_iadd (pc := 438) rfl ?_
        obtain ⟨b74, k⟩ := k
        refine q_sld (pc := 439) rfl rfl b74 ?_
        refine q_aload_n (pc := 440) rfl rfl ?_
        refine q_iload_n (pc := 441) rfl rfl ?_
        refine q_iconst (pc := 442) (v := 3) rfl (by decide) ?_
        refine q_iadd (pc := 443) rfl ?_
        obtain ⟨b75, k⟩ := k
        refine q_sld (pc := 444) rfl rfl b75 ?_
        refine q_aload_n (pc := 445) rfl rfl ?_
        refine q_iload_n (pc := 446) rfl rfl ?_
        refine q_iconst (pc := 447) (v := 4) rfl (by decide) ?_
        refine q_iadd (pc := 448) rfl ?_
        obtain ⟨b76, k⟩ := k
        refine q_sld (pc := 449) rfl rfl b76 ?_
        refine q_callV (pc := 450) (As := [q_i (xs (Int32.toNatClampNeg (x3 + 1))), q_i (xs (Int32.toNatClampNeg (x3 + 2))), q_i (xs (Int32.toNatClampNeg (x3 + 3))), q_i (xs (Int32.toNatClampNeg (x3 + 4)))]) (rest := []) rfl rfl rfl (by decide) rfl rfl (Nat.le_of_ble_eq_true rfl) ?_
        refine q_den_mono _ _ _ _ _ _ ?_ (dn_X4_timer (d := 3)  k)
        rintro _ g77 ⟨r78, rfl, k⟩
        refine q_aload_n (pc := 453) rfl rfl ?_
        refine q_aload_n (pc := 454) rfl rfl ?_
        refine q_iload_n (pc := 455) rfl rfl ?_
        refine q_iconst (pc := 456) (v := 1) rfl (by decide) ?_
        refine q_iadd (pc := 457) rfl ?_
        obtain ⟨b79, k⟩ := k
        refine q_sld (pc := 458) rfl rfl b79 ?_
        refine q_aload_n (pc := 459) rfl rfl ?_
        refine q_iload_n (pc := 460) rfl rfl ?_
        refine q_iconst (pc := 461) (v := 2) rfl (by decide) ?_
        refine q_iadd (pc := 462) rfl ?_
        obtain ⟨b80, k⟩ := k
        refine q_sld (pc := 463) rfl rfl b80 ?_
        refine q_aload_n (pc := 464) rfl rfl ?_
        refine q_iload_n (pc := 465) rfl rfl ?_
        refine q_iconst (pc := 466) (v := 3) rfl (by decide) ?_
        refine q_iadd (pc := 467) rfl ?_
        obtain ⟨b81, k⟩ := k
        refine q_sld (pc := 468) rfl rfl b81 ?_
        refine q_aload_n (pc := 469) rfl rfl ?_
        refine q_iload_n (pc := 470) rfl rfl ?_
        refine q_iconst (pc := 471) (v := 4) rfl (by decide) ?_
        refine q_iadd (pc := 472) rfl ?_
        obtain ⟨b82, k⟩ := k
        refine q_sld (pc := 473) rfl rfl b82 ?_
        refine q_callV (pc := 474) (As := [q_i (xs (Int32.toNatClampNeg (x3 + 1))), q_i (xs (Int32.toNatClampNeg (x3 + 2))), q_i (xs (Int32.toNatClampNeg (x3 + 3))), q_i (xs (Int32.toNatClampNeg (x3 + 4)))]) (rest := [q_i r78]) rfl rfl rfl (by decide) rfl rfl (Nat.le_of_ble_eq_true rfl) ?_
        refine q_den_mono _ _ _ _ _ _ ?_ (dn_X5_timer (d := 5)  k)
        rintro _ g83 ⟨r84, rfl, k⟩
        refine q_icmp_eq (pc := 477) (tgt := 987) rfl (by decide) (fun z => ?_) (fun z => ?_)
        · have k := k.1 z
          refine q_iinc (pc := 987) (v := (x3 + 8)) (ls1 := [(3, q_i (x3 + 8)), (0, q_r 28 0), (1, q_r 0 0), (2, q_r 18 0)]) rfl (by decide) rfl (congrArg (fun z => x3 + z) (by decide : Int32.ofInt 8 = 8)) rfl ?_
          refine q_goto (pc := 990) (tgt := 18) rfl (by decide) ?_
          refine q_sub (pc := 18) (ks := [1, 2, 3, 0]) rfl ?_
          exact ih _ _ k
        · have k := k.2 z
          refine q_iconst (pc := 480) (v := 0) rfl (by decide) ?_
          exact q_zret (pc := 481) rfl rfl (by decide) ⟨_, rfl, k⟩
      by_cases z6 : Int32.toInt ((xs (Int32.toNatClampNeg x3)) &&& 31) = 6
      · refine q_tsIn (pc := 33) (tgt := 482) rfl (by rw [z6]; decide) (by rw [z6]; decide) (by rw [z6]; rfl) (by decide) ?_
        have k := k.2.2.2.2.2.2.1 z6
        refine q_aload_n (pc := 482) rfl rfl ?_
        refine q_aload_n (pc := 483) rfl rfl ?_
        refine q_iload_n (pc := 484) rfl rfl ?_
        refine q_iconst (pc := 485) (v := 1) rfl (by decide) ?_
        refine q_iadd (pc := 486) rfl ?_
        obtain ⟨b85, k⟩ := k
        refine q_sld (pc := 487) rfl rfl b85 ?_
        refine q_aload_n (pc := 488) rfl rfl ?_
        refine q_iload_n (pc := 489) rfl rfl ?_
        refine q_iconst (pc := 490) (v := 2) rfl (by decide) ?_
        refine q_iadd (pc := 491) rfl ?_
        obtain ⟨b86, k⟩ := k
        refine q_sld (pc := 492) rfl rfl b86 ?_
        refine q_aload_n (pc := 493) rfl rfl ?_
        refine q_iload_n (pc := 494) rfl rfl ?_
        refine q_iconst (pc := 495) (v := 3) rfl (by decide) ?_
        refine q_iadd (pc := 496) rfl ?_
        obtain ⟨b87, k⟩ := k
        refine q_sld (pc := 497) rfl rfl b87 ?_
        refine q_aload_n (pc := 498) rfl rfl ?_
        refine q_iload_n (pc := 499) rfl rfl ?_
        refine q_iconst (pc := 500) (v := 4) rfl (by decide) ?_
        refine q_iadd (pc := 501) rfl ?_
        obtain ⟨b88, k⟩ := k
        refine q_sld (pc := 502) rfl rfl b88 ?_
        refine q_callV (pc := 503) (As := [q_i (xs (Int32.toNatClampNeg (x3 + 1))), q_i (xs (Int32.toNatClampNeg (x3 + 2))), q_i (xs (Int32.toNatClampNeg (x3 + 3))), q_i (xs (Int32.toNatClampNeg (x3 + 4)))]) (rest := []) rfl rfl rfl (by decide) rfl rfl (Nat.le_of_ble_eq_true rfl) ?_
        refine q_den_mono _ _ _ _ _ _ ?_ (dn_X4_rule (d := 6)  k)
        rintro _ g89 ⟨r90, rfl, k⟩
        refine q_aload_n (pc := 506) rfl rfl ?_
        refine q_aload_n (pc := 507) rfl rfl ?_
        refine q_iload_n (pc := 508) rfl rfl ?_
        refine q_iconst (pc := 509) (v := 1) rfl (by decide) ?_
        refine q_iadd (pc := 510) rfl ?_
        obtain ⟨b91, k⟩ := k
        refine q_sld (pc := 511) rfl rfl b91 ?_
        refine q_aload_n (pc := 512) rfl rfl ?_
        refine q_iload_n (pc := 513) rfl rfl ?_
        refine q_iconst (pc := 514) (v := 2) rfl (by decide) ?_
        refine q_iadd (pc := 515) rfl ?_
        obtain ⟨b92, k⟩ := k
        refine q_sld (pc := 516) rfl rfl b92 ?_
        refine q_aload_n (pc := 517) rfl rfl ?_
        refine q_iload_n (pc := 518) rfl rfl ?_
        refine q_iconst (pc := 519) (v := 3) rfl (by decide) ?_
        refine q_iadd (pc := 520) rfl ?_
        obtain ⟨b93, k⟩ := k
        refine q_sld (pc := 521) rfl rfl b93 ?_
        refine q_aload_n (pc := 522) rfl rfl ?_
        refine q_iload_n (pc := 523) rfl rfl ?_
        refine q_iconst (pc := 524) (v := 4) rfl (by decide) ?_
        refine q_iadd (pc := 525) rfl ?_
        obtain ⟨b94, k⟩ := k
        refine q_sld (pc := 526) rfl rfl b94 ?_
        refine q_callV (pc := 527) (As := [q_i (xs (Int32.toNatClampNeg (x3 + 1))), q_i (xs (Int32.toNatClampNeg (x3 + 2))), q_i (xs (Int32.toNatClampNeg (x3 + 3))), q_i (xs (Int32.toNatClampNeg (x3 + 4)))]) (rest := [q_i r90]) rfl rfl rfl (by decide) rfl rfl (Nat.le_of_ble_eq_true rfl) ?_
        refine q_den_mono _ _ _ _ _ _ ?_ (dn_X5_rule (d := 5)  k)
        rintro _ g95 ⟨r96, rfl, k⟩
        refine q_icmp_eq (pc := 530) (tgt := 987) rfl (by decide) (fun z => ?_) (fun z => ?_)
        · have k := k.1 z
          refine q_iinc (pc := 987) (v := (x3 + 8)) (ls1 := [(3, q_i (x3 + 8)), (0, q_r 28 0), (1, q_r 0 0), (2, q_r 18 0)]) rfl (by decide) rfl (congrArg (fun z => x3 + z) (by decide : Int32.ofInt 8 = 8)) rfl ?_
          refine q_goto (pc := 990) (tgt := 18) rfl (by decide) ?_
          refine q_sub (pc := 18) (ks := [1, 2, 3, 0]) rfl ?_
          exact ih _ _ k
        · have k := k.2 z
          refine q_iconst (pc := 533) (v := 0) rfl (by decide) ?_
          exact q_zret (pc := 534) rfl rfl (by decide) ⟨_, rfl, k⟩
      by_cases z7 : Int32.toInt ((xs (Int32.toNatClampNeg x3)) &&& 31) = 7
      · refine q_tsIn (pc := 33) (tgt := 535) rfl (by rw [z7]; decide) (by rw [z7]; decide) (by rw [z7]; rfl) (by decide) ?_
        have k := k.2.2.2.2.2.2.2.1 z7
        refine q_aload_n (pc := 535) rfl rfl ?_
        refine q_aload_n (pc := 536) rfl rfl ?_
        refine q_iload_n (pc := 537) rfl rfl ?_
        refine q_iconst (pc := 538) (v := 1) rfl (by decide) ?_
        refine q_iadd (pc := 539) rfl ?_
        obtain ⟨b97, k⟩ := k
        refine q_sld (pc := 540) rfl rfl b97 ?_
        refine q_callV (pc := 541) (As := [q_i (xs (Int32.toNatClampNeg (x3 + 1)))]) (rest := []) rfl rfl rfl (by decide) rfl rfl (Nat.le_of_ble_eq_true rfl) ?_
        refine q_den_mono _ _ _ _ _ _ ?_ (dn_X4_look (d := 6)  k)
        rintro _ g98 ⟨r99, rfl, k⟩
        refine q_aload_n (pc := 544) rfl rfl ?_
        refine q_aload_n (pc := 545) rfl rfl ?_
        refine q_iload_n (pc := 546) rfl rfl ?_
        refine q_iconst (pc := 547) (v := 1) rfl (by decide) ?_
        refine q_iadd (pc := 548) rfl ?_
        obtain ⟨b100, k⟩ := k
        refine q_sld (pc := 549) rfl rfl b100 ?_
        refine q_callV (pc := 550) (As := [q_i (xs (Int32.toNatClampNeg (x3 + 1)))]) (rest := [q_i r99]) rfl rfl rfl (by decide) rfl rfl (Nat.le_of_ble_eq_true rfl) ?_
        refine q_den_mono _ _ _ _ _ _ ?_ (dn_X5_look (d := 6)  k)
        rintro _ g101 ⟨r102, rfl, k⟩
        refine q_icmp_eq (pc := 553) (tgt := 987) rfl (by decide) (fun z => ?_) (fun z => ?_)
        · have k := k.1 z
          refine q_iinc (pc := 987) (v := (x3 + 8)) (ls1 := [(3, q_i (x3 + 8)), (0, q_r 28 0), (1, q_r 0 0), (2, q_r 18 0)]) rfl (by decide) rfl (congrArg (fun z => x3 + z) (by decide : Int32.ofInt 8 = 8)) rfl ?_
          refine q_goto (pc := 990) (tgt := 18) rfl (by decide) ?_
          refine q_sub (pc := 18) (ks := [1, 2, 3, 0]) rfl ?_
          exact ih _ _ k
        · have k := k.2 z
          refine q_iconst (pc := 556) (v := 0) rfl (by decide) ?_
          exact q_zret (pc := 557) rfl rfl (by decide) ⟨_, rfl, k⟩
      by_cases z8 : Int32.toInt ((xs (Int32.toNatClampNeg x3)) &&& 31) = 8
      · refine q_tsIn (pc := 33) (tgt := 558) rfl (by rw [z8]; decide) (by rw [z8]; decide) (by rw [z8]; rfl) (by decide) ?_
        have k := k.2.2.2.2.2.2.2.2.1 z8
        refine q_aload_n (pc := 558) rfl rfl ?_
        refine q_aload_n (pc := 559) rfl rfl ?_
        refine q_iload_n (pc := 560) rfl rfl ?_
        refine q_iconst (pc := 561) (v := 1) rfl (by decide) ?_
        refine q_iadd (pc := 562) rfl ?_
        obtain ⟨b103, k⟩ := k
        refine q_sld (pc := 563) rfl rfl b103 ?_
        refine q_aload_n (pc := 564) rfl rfl ?_
        refine q_iload_n (pc := 565) rfl rfl ?_
        refine q_iconst (pc := 566) (v := 2) rfl (by decide) ?_
        refine q_iadd (pc := 567) rfl ?_
        obtain ⟨b104, k⟩ := k
        refine q_sld (pc := 568) rfl rfl b104 ?_
        refine q_callV (pc := 569) (As := [q_i (xs (Int32.toNatClampNeg (x3 + 1))), q_i (xs (Int32.toNatClampNeg (x3 + 2)))]) (rest := []) rfl rfl rfl (by decide) rfl rfl (Nat.le_of_ble_eq_true rfl) ?_
        refine q_den_mono _ _ _ _ _ _ ?_ (dn_X4_held (d := 6)  k)
        rintro _ g105 ⟨r106, rfl, k⟩
        refine q_aload_n (pc := 572) rfl rfl ?_
        refine q_aload_n (pc := 573) rfl rfl ?_
        refine q_iload_n (pc := 574) rfl rfl ?_
        refine q_iconst (pc := 575) (v := 1) rfl (by decide) ?_
        refine q_iadd (pc := 576) rfl ?_
        obtain ⟨b107, k⟩ := k
        refine q_sld (pc := 577) rfl rfl b107 ?_
        refine q_aload_n (pc := 578) rfl rfl ?_
        refine q_iload_n (pc := 579) rfl rfl ?_
        refine q_iconst (pc := 580) (v := 2) rfl (by decide) ?_
        refine q_iadd (pc := 581) rfl ?_
        obtain ⟨b108, k⟩ := k
        refine q_sld (pc := 582) rfl rfl b108 ?_
        refine q_callV (pc := 583) (As := [q_i (xs (Int32.toNatClampNeg (x3 + 1))), q_i (xs (Int32.toNatClampNeg (x3 + 2)))]) (rest := [q_i r106]) rfl rfl rfl (by decide) rfl rfl (Nat.le_of_ble_eq_true rfl) ?_
        refine q_den_mono _ _ _ _ _ _ ?_ (dn_X5_held (d := 6)  k)
        rintro _ g109 ⟨r110, rfl, k⟩
        refine q_icmp_eq (pc := 586) (tgt := 987) rfl (by decide) (fun z => ?_) (fun z => ?_)
        · have k := k.1 z
          refine q_iinc (pc := 987) (v := (x3 + 8)) (ls1 := [(3, q_i (x3 + 8)), (0, q_r 28 0), (1, q_r 0 0), (2, q_r 18 0)]) rfl (by decide) rfl (congrArg (fun z => x3 + z) (by decide : Int32.ofInt 8 = 8)) rfl ?_
          refine q_goto (pc := 990) (tgt := 18) rfl (by decide) ?_
          refine q_sub (pc := 18) (ks := [1, 2, 3, 0]) rfl ?_
          exact ih _ _ k
        · have k := k.2 z
          refine q_iconst (pc := 589) (v := 0) rfl (by decide) ?_
          exact q_zret (pc := 590) rfl rfl (by decide) ⟨_, rfl, k⟩
      by_cases z9 : Int32.toInt ((xs (Int32.toNatClampNeg x3)) &&& 31) = 9
      · refine q_tsIn (pc := 33) (tgt := 591) rfl (by rw [z9]; decide) (by rw [z9]; decide) (by rw [z9]; rfl) (by decide) ?_
        have k := k.2.2.2.2.2.2.2.2.2.1 z9
        refine q_aload_n (pc := 591) rfl rfl ?_
        refine q_aload_n (pc := 592) rfl rfl ?_
        refine q_iload_n (pc := 593) rfl rfl ?_
        refine q_iconst (pc := 594) (v := 1) rfl (by decide) ?_
        refine q_iadd (pc := 595) rfl ?_
        obtain ⟨b111, k⟩ := k
        refine q_sld (pc := 596) rfl rfl b111 ?_
        refine q_callV (pc := 597) (As := [q_i (xs (Int32.toNatClampNeg (x3 + 1)))]) (rest := []) rfl rfl rfl (by decide) rfl rfl (Nat.le_of_ble_eq_true rfl) ?_
        refine q_den_mono _ _ _ _ _ _ ?_ (dn_X4_waking (d := 6)  k)
        rintro _ g112 ⟨r113, rfl, k⟩
        refine q_aload_n (pc := 600) rfl rfl ?_
        refine q_aload_n (pc := 601) rfl rfl ?_
        refine q_iload_n (pc := 602) rfl rfl ?_
        refine q_iconst (pc := 603) (v := 1) rfl (by decide) ?_
        refine q_iadd (pc := 604) rfl ?_
        obtain ⟨b114, k⟩ := k
        refine q_sld (pc := 605) rfl rfl b114 ?_
        refine q_callV (pc := 606) (As := [q_i (xs (Int32.toNatClampNeg (x3 + 1)))]) (rest := [q_i r113]) rfl rfl rfl (by decide) rfl rfl (Nat.le_of_ble_eq_true rfl) ?_
        refine q_den_mono _ _ _ _ _ _ ?_ (dn_X5_waking (d := 6)  k)
        rintro _ g115 ⟨r116, rfl, k⟩
        refine q_icmp_eq (pc := 609) (tgt := 987) rfl (by decide) (fun z => ?_) (fun z => ?_)
        · have k := k.1 z
          refine q_iinc (pc := 987) (v := (x3 + 8)) (ls1 := [(3, q_i (x3 + 8)), (0, q_r 28 0), (1, q_r 0 0), (2, q_r 18 0)]) rfl (by decide) rfl (congrArg (fun z => x3 + z) (by decide : Int32.ofInt 8 = 8)) rfl ?_
          refine q_goto (pc := 990) (tgt := 18) rfl (by decide) ?_
          refine q_sub (pc := 18) (ks := [1, 2, 3, 0]) rfl ?_
          exact ih _ _ k
        · have k := k.2 z
          refine q_iconst (pc := 612) (v := 0) rfl (by decide) ?_
          exact q_zret (pc := 613) rfl rfl (by decide) ⟨_, rfl, k⟩
      by_cases z10 : Int32.toInt ((xs (Int32.toNatClampNeg x3)) &&& 31) = 10
      · refine q_tsIn (pc := 33) (tgt := 614) rfl (by rw [z10]; decide) (by rw [z10]; decide) (by rw [z10]; rfl) (by decide) ?_
        have k := k.2.2.2.2.2.2.2.2.2.2.1 z10
        refine q_aload_n (pc := 614) rfl rfl ?_
        refine q_aload_n (pc := 615) rfl rfl ?_
        refine q_iload_n (pc := 616) rfl rfl ?_
        refine q_iconst (pc := 617) (v := 1) rfl (by decide) ?_
        refine q_iadd (pc := 618) rfl ?_
        obtain ⟨b117, k⟩ := k
        refine q_sld (pc := 619) rfl rfl b117 ?_
        refine q_callV (pc := 620) (As := [q_i (xs (Int32.toNatClampNeg (x3 + 1)))]) (rest := []) rfl rfl rfl (by decide) rfl rfl (Nat.le_of_ble_eq_true rfl) ?_
        refine q_den_mono _ _ _ _ _ _ ?_ (dn_X4_fires (d := 5)  k)
        rintro _ g118 ⟨r119, rfl, k⟩
        refine q_aload_n (pc := 623) rfl rfl ?_
        refine q_aload_n (pc := 624) rfl rfl ?_
        refine q_iload_n (pc := 625) rfl rfl ?_
        refine q_iconst (pc := 626) (v := 1) rfl (by decide) ?_
        refine q_iadd (pc := 627) rfl ?_
        obtain ⟨b120, k⟩ := k
        refine q_sld (pc := 628) rfl rfl b120 ?_
        refine q_callV (pc := 629) (As := [q_i (xs (Int32.toNatClampNeg (x3 + 1)))]) (rest := [q_i r119]) rfl rfl rfl (by decide) rfl rfl (Nat.le_of_ble_eq_true rfl) ?_
        refine q_den_mono _ _ _ _ _ _ ?_ (dn_X5_fires (d := 6)  k)
        rintro _ g121 ⟨r122, rfl, k⟩
        refine q_icmp_eq (pc := 632) (tgt := 987) rfl (by decide) (fun z => ?_) (fun z => ?_)
        · have k := k.1 z
          refine q_iinc (pc := 987) (v := (x3 + 8)) (ls1 := [(3, q_i (x3 + 8)), (0, q_r 28 0), (1, q_r 0 0), (2, q_r 18 0)]) rfl (by decide) rfl (congrArg (fun z => x3 + z) (by decide : Int32.ofInt 8 = 8)) rfl ?_
          refine q_goto (pc := 990) (tgt := 18) rfl (by decide) ?_
          refine q_sub (pc := 18) (ks := [1, 2, 3, 0]) rfl ?_
          exact ih _ _ k
        · have k := k.2 z
          refine q_iconst (pc := 635) (v := 0) rfl (by decide) ?_
          exact q_zret (pc := 636) rfl rfl (by decide) ⟨_, rfl, k⟩
      by_cases z11 : Int32.toInt ((xs (Int32.toNatClampNeg x3)) &&& 31) = 11
      · refine q_tsIn (pc := 33) (tgt := 637) rfl (by rw [z11]; decide) (by rw [z11]; decide) (by rw [z11]; rfl) (by decide) ?_
        have k := k.2.2.2.2.2.2.2.2.2.2.2.1 z11
        refine q_aload_n (pc := 637) rfl rfl ?_
        refine q_aload_n (pc := 638) rfl rfl ?_
        refine q_iload_n (pc := 639) rfl rfl ?_
        refine q_iconst (pc := 640) (v := 1) rfl (by decide) ?_
        refine q_iadd (pc := 641) rfl ?_
        obtain ⟨b123, k⟩ := k
        refine q_sld (pc := 642) rfl rfl b123 ?_
        refine q_aload_n (pc := 643) rfl rfl ?_
        refine q_iload_n (pc := 644) rfl rfl ?_
        refine q_iconst (pc := 645) (v := 2) rfl (by decide) ?_
        refine q_iadd (pc := 646) rfl ?_
        obtain ⟨b124, k⟩ := k
        refine q_sld (pc := 647) rfl rfl b124 ?_
        refine q_callV (pc := 648) (As := [q_i (xs (Int32.toNatClampNeg (x3 + 1))), q_i (xs (Int32.toNatClampNeg (x3 + 2)))]) (rest := []) rfl rfl rfl (by decide) rfl rfl (Nat.le_of_ble_eq_true rfl) ?_
        refine q_den_mono _ _ _ _ _ _ ?_ (dn_X4_wanted (d := 5)  k)
        rintro _ g125 ⟨r126, rfl, k⟩
        refine q_aload_n (pc := 651) rfl rfl ?_
        refine q_aload_n (pc := 652) rfl rfl ?_
        refine q_iload_n (pc := 653) rfl rfl ?_
        refine q_iconst (pc := 654) (v := 1) rfl (by decide) ?_
        refine q_iadd (pc := 655) rfl ?_
        obtain ⟨b127, k⟩ := k
        refine q_sld (pc := 656) rfl rfl b127 ?_
        refine q_aload_n (pc := 657) rfl rfl ?_
        refine q_iload_n (pc := 658) rfl rfl ?_
        refine q_iconst (pc := 659) (v := 2) rfl (by decide) ?_
        refine q_iadd (pc := 660) rfl ?_
        obtain ⟨b128, k⟩ := k
        refine q_sld (pc := 661) rfl rfl b128 ?_
        refine q_callV (pc := 662) (As := [q_i (xs (Int32.toNatClampNeg (x3 + 1))), q_i (xs (Int32.toNatClampNeg (x3 + 2)))]) (rest := [q_i r126]) rfl rfl rfl (by decide) rfl rfl (Nat.le_of_ble_eq_true rfl) ?_
        refine q_den_mono _ _ _ _ _ _ ?_ (dn_X5_wanted (d := 5)  k)
        rintro _ g129 ⟨r130, rfl, k⟩
        refine q_icmp_eq (pc := 665) (tgt := 987) rfl (by decide) (fun z => ?_) (fun z => ?_)
        · have k := k.1 z
          refine q_iinc (pc := 987) (v := (x3 + 8)) (ls1 := [(3, q_i (x3 + 8)), (0, q_r 28 0), (1, q_r 0 0), (2, q_r 18 0)]) rfl (by decide) rfl (congrArg (fun z => x3 + z) (by decide : Int32.ofInt 8 = 8)) rfl ?_
          refine q_goto (pc := 990) (tgt := 18) rfl (by decide) ?_
          refine q_sub (pc := 18) (ks := [1, 2, 3, 0]) rfl ?_
          exact ih _ _ k
        · have k := k.2 z
          refine q_iconst (pc := 668) (v := 0) rfl (by decide) ?_
          exact q_zret (pc := 669) rfl rfl (by decide) ⟨_, rfl, k⟩
      by_cases z12 : Int32.toInt ((xs (Int32.toNatClampNeg x3)) &&& 31) = 12
      · refine q_tsIn (pc := 33) (tgt := 670) rfl (by rw [z12]; decide) (by rw [z12]; decide) (by rw [z12]; rfl) (by decide) ?_
        have k := k.2.2.2.2.2.2.2.2.2.2.2.2.1 z12
        refine q_aload_n (pc := 670) rfl rfl ?_
        refine q_aload_n (pc := 671) rfl rfl ?_
        refine q_iload_n (pc := 672) rfl rfl ?_
        refine q_iconst (pc := 673) (v := 1) rfl (by decide) ?_
        refine q_iadd (pc := 674) rfl ?_
        obtain ⟨b131, k⟩ := k
        refine q_sld (pc := 675) rfl rfl b131 ?_
        refine q_callV (pc := 676) (As := [q_i (xs (Int32.toNatClampNeg (x3 + 1)))]) (rest := []) rfl rfl rfl (by decide) rfl rfl (Nat.le_of_ble_eq_true rfl) ?_
        refine q_den_mono _ _ _ _ _ _ ?_ (dn_X4_when (d := 5)  k)
        rintro _ g132 ⟨r133, rfl, k⟩
        refine q_aload_n (pc := 679) rfl rfl ?_
        refine q_aload_n (pc := 680) rfl rfl ?_
        refine q_iload_n (pc := 681) rfl rfl ?_
        refine q_iconst (pc := 682) (v := 1) rfl (by decide) ?_
        refine q_iadd (pc := 683) rfl ?_
        obtain ⟨b134, k⟩ := k
        refine q_sld (pc := 684) rfl rfl b134 ?_
        refine q_callV (pc := 685) (As := [q_i (xs (Int32.toNatClampNeg (x3 + 1)))]) (rest := [q_l r133]) rfl rfl rfl (by decide) rfl rfl (Nat.le_of_ble_eq_true rfl) ?_
        refine q_den_mono _ _ _ _ _ _ ?_ (dn_X5_when (d := 5)  k)
        rintro _ g135 ⟨r136, rfl, k⟩
        refine q_lcmp (pc := 688) rfl ?_
        refine q_if_eq (pc := 689) (tgt := 987) rfl (by decide) (fun z => ?_) (fun z => ?_)
        · have k := k.1 z
          refine q_iinc (pc := 987) (v := (x3 + 8)) (ls1 := [(3, q_i (x3 + 8)), (0, q_r 28 0), (1, q_r 0 0), (2, q_r 18 0)]) rfl (by decide) rfl (congrArg (fun z => x3 + z) (by decide : Int32.ofInt 8 = 8)) rfl ?_
          refine q_goto (pc := 990) (tgt := 18) rfl (by decide) ?_
          refine q_sub (pc := 18) (ks := [1, 2, 3, 0]) rfl ?_
          exact ih _ _ k
        · have k := k.2 z
          refine q_iconst (pc := 692) (v := 0) rfl (by decide) ?_
          exact q_zret (pc := 693) rfl rfl (by decide) ⟨_, rfl, k⟩
      by_cases z13 : Int32.toInt ((xs (Int32.toNatClampNeg x3)) &&& 31) = 13
      · refine q_tsIn (pc := 33) (tgt := 694) rfl (by rw [z13]; decide) (by rw [z13]; decide) (by rw [z13]; rfl) (by decide) ?_
        have k := k.2.2.2.2.2.2.2.2.2.2.2.2.2.1 z13
        refine q_aload_n (pc := 694) rfl rfl ?_
        refine q_aload_n (pc := 695) rfl rfl ?_
        refine q_iload_n (pc := 696) rfl rfl ?_
        refine q_iconst (pc := 697) (v := 1) rfl (by decide) ?_
        refine q_iadd (pc := 698) rfl ?_
        obtain ⟨b137, k⟩ := k
        refine q_sld (pc := 699) rfl rfl b137 ?_
        refine q_callV (pc := 700) (As := [q_i (xs (Int32.toNatClampNeg (x3 + 1)))]) (rest := []) rfl rfl rfl (by decide) rfl rfl (Nat.le_of_ble_eq_true rfl) ?_
        refine q_den_mono _ _ _ _ _ _ ?_ (dn_X4_spans (d := 4)  k)
        rintro _ g138 ⟨r139, rfl, k⟩
        refine q_aload_n (pc := 703) rfl rfl ?_
        refine q_aload_n (pc := 704) rfl rfl ?_
        refine q_iload_n (pc := 705) rfl rfl ?_
        refine q_iconst (pc := 706) (v := 1) rfl (by decide) ?_
        refine q_iadd (pc := 707) rfl ?_
        obtain ⟨b140, k⟩ := k
        refine q_sld (pc := 708) rfl rfl b140 ?_
        refine q_callV (pc := 709) (As := [q_i (xs (Int32.toNatClampNeg (x3 + 1)))]) (rest := [q_i r139]) rfl rfl rfl (by decide) rfl rfl (Nat.le_of_ble_eq_true rfl) ?_
        refine q_den_mono _ _ _ _ _ _ ?_ (dn_X5_spans (d := 5)  k)
        rintro _ g141 ⟨r142, rfl, k⟩
        refine q_icmp_eq (pc := 712) (tgt := 987) rfl (by decide) (fun z => ?_) (fun z => ?_)
        · have k := k.1 z
          refine q_iinc (pc := 987) (v := (x3 + 8)) (ls1 := [(3, q_i (x3 + 8)), (0, q_r 28 0), (1, q_r 0 0), (2, q_r 18 0)]) rfl (by decide) rfl (congrArg (fun z => x3 + z) (by decide : Int32.ofInt 8 = 8)) rfl ?_
          refine q_goto (pc := 990) (tgt := 18) rfl (by decide) ?_
          refine q_sub (pc := 18) (ks := [1, 2, 3, 0]) rfl ?_
          exact ih _ _ k
        · have k := k.2 z
          refine q_iconst (pc := 715) (v := 0) rfl (by decide) ?_
          exact q_zret (pc := 716) rfl rfl (by decide) ⟨_, rfl, k⟩
      by_cases z14 : Int32.toInt ((xs (Int32.toNatClampNeg x3)) &&& 31) = 14
      · refine q_tsIn (pc := 33) (tgt := 717) rfl (by rw [z14]; decide) (by rw [z14]; decide) (by rw [z14]; rfl) (by decide) ?_
        have k := k.2.2.2.2.2.2.2.2.2.2.2.2.2.2.1 z14
        refine q_aload_n (pc := 717) rfl rfl ?_
        refine q_aload_n (pc := 718) rfl rfl ?_
        refine q_iload_n (pc := 719) rfl rfl ?_
        refine q_iconst (pc := 720) (v := 1) rfl (by decide) ?_
        refine q_iadd (pc := 721) rfl ?_
        obtain ⟨b143, k⟩ := k
        refine q_sld (pc := 722) rfl rfl b143 ?_
        refine q_aload_n (pc := 723) rfl rfl ?_
        refine q_iload_n (pc := 724) rfl rfl ?_
        refine q_iconst (pc := 725) (v := 2) rfl (by decide) ?_
        refine q_iadd (pc := 726) rfl ?_
        obtain ⟨b144, k⟩ := k
        refine q_sld (pc := 727) rfl rfl b144 ?_
        refine q_aload_n (pc := 728) rfl rfl ?_
        refine q_iload_n (pc := 729) rfl rfl ?_
        refine q_iconst (pc := 730) (v := 3) rfl (by decide) ?_
        refine q_iadd (pc := 731) rfl ?_
        obtain ⟨b145, k⟩ := k
        refine q_sld (pc := 732) rfl rfl b145 ?_
        refine q_callV (pc := 733) (As := [q_i (xs (Int32.toNatClampNeg (x3 + 1))), q_i (xs (Int32.toNatClampNeg (x3 + 2))), q_i (xs (Int32.toNatClampNeg (x3 + 3)))]) (rest := []) rfl rfl rfl (by decide) rfl rfl (Nat.le_of_ble_eq_true rfl) ?_
        refine q_den_mono _ _ _ _ _ _ ?_ (dn_X4_span (d := 4)  k)
        rintro _ g146 ⟨r147, rfl, k⟩
        refine q_aload_n (pc := 736) rfl rfl ?_
        refine q_aload_n (pc := 737) rfl rfl ?_
        refine q_iload_n (pc := 738) rfl rfl ?_
        refine q_iconst (pc := 739) (v := 1) rfl (by decide) ?_
        refine q_iadd (pc := 740) rfl ?_
        obtain ⟨b148, k⟩ := k
        refine q_sld (pc := 741) rfl rfl b148 ?_
        refine q_aload_n (pc := 742) rfl rfl ?_
        refine q_iload_n (pc := 743) rfl rfl ?_
        refine q_iconst (pc := 744) (v := 2) rfl (by decide) ?_
        refine q_iadd (pc := 745) rfl ?_
        obtain ⟨b149, k⟩ := k
        refine q_sld (pc := 746) rfl rfl b149 ?_
        refine q_aload_n (pc := 747) rfl rfl ?_
        refine q_iload_n (pc := 748) rfl rfl ?_
        refine q_iconst (pc := 749) (v := 3) rfl (by decide) ?_
        refine q_iadd (pc := 750) rfl ?_
        obtain ⟨b150, k⟩ := k
        refine q_sld (pc := 751) rfl rfl b150 ?_
        refine q_callV (pc := 752) (As := [q_i (xs (Int32.toNatClampNeg (x3 + 1))), q_i (xs (Int32.toNatClampNeg (x3 + 2))), q_i (xs (Int32.toNatClampNeg (x3 + 3)))]) (rest := [q_i r147]) rfl rfl rfl (by decide) rfl rfl (Nat.le_of_ble_eq_true rfl) ?_
        refine q_den_mono _ _ _ _ _ _ ?_ (dn_X5_span (d := 3)  k)
        rintro _ g151 ⟨r152, rfl, k⟩
        refine q_icmp_eq (pc := 755) (tgt := 987) rfl (by decide) (fun z => ?_) (fun z => ?_)
        · have k := k.1 z
          refine q_iinc (pc := 987) (v := (x3 + 8)) (ls1 := [(3, q_i (x3 + 8)), (0, q_r 28 0), (1, q_r 0 0), (2, q_r 18 0)]) rfl (by decide) rfl (congrArg (fun z => x3 + z) (by decide : Int32.ofInt 8 = 8)) rfl ?_
          refine q_goto (pc := 990) (tgt := 18) rfl (by decide) ?_
          refine q_sub (pc := 18) (ks := [1, 2, 3, 0]) rfl ?_
          exact ih _ _ k
        · have k := k.2 z
          refine q_iconst (pc := 758) (v := 0) rfl (by decide) ?_
          exact q_zret (pc := 759) rfl rfl (by decide) ⟨_, rfl, k⟩
      by_cases z15 : Int32.toInt ((xs (Int32.toNatClampNeg x3)) &&& 31) = 15
      · refine q_tsIn (pc := 33) (tgt := 760) rfl (by rw [z15]; decide) (by rw [z15]; decide) (by rw [z15]; rfl) (by decide) ?_
        have k := k.2.2.2.2.2.2.2.2.2.2.2.2.2.2.2.1 z15
        refine q_aload_n (pc := 760) rfl rfl ?_
        refine q_aload_n (pc := 761) rfl rfl ?_
        refine q_iload_n (pc := 762) rfl rfl ?_
        refine q_iconst (pc := 763) (v := 1) rfl (by decide) ?_
        refine q_iadd (pc := 764) rfl ?_
        obtain ⟨b153, k⟩ := k
        refine q_sld (pc := 765) rfl rfl b153 ?_
        refine q_callV (pc := 766) (As := [q_i (xs (Int32.toNatClampNeg (x3 + 1)))]) (rest := []) rfl rfl rfl (by decide) rfl rfl (Nat.le_of_ble_eq_true rfl) ?_
        refine q_den_mono _ _ _ _ _ _ ?_ (dn_X4_drain (d := 2)  k)
        rintro _ g154 ⟨r155, rfl, k⟩
        refine q_aload_n (pc := 769) rfl rfl ?_
        refine q_aload_n (pc := 770) rfl rfl ?_
        refine q_iload_n (pc := 771) rfl rfl ?_
        refine q_iconst (pc := 772) (v := 1) rfl (by decide) ?_
        refine q_iadd (pc := 773) rfl ?_
        obtain ⟨b156, k⟩ := k
        refine q_sld (pc := 774) rfl rfl b156 ?_
        refine q_callV (pc := 775) (As := [q_i (xs (Int32.toNatClampNeg (x3 + 1)))]) (rest := [q_i r155]) rfl rfl rfl (by decide) rfl rfl (Nat.le_of_ble_eq_true rfl) ?_
        refine q_den_mono _ _ _ _ _ _ ?_ (dn_X5_drain (d := 3)  k)
        rintro _ g157 ⟨r158, rfl, k⟩
        refine q_icmp_eq (pc := 778) (tgt := 987) rfl (by decide) (fun z => ?_) (fun z => ?_)
        · have k := k.1 z
          refine q_iinc (pc := 987) (v := (x3 + 8)) (ls1 := [(3, q_i (x3 + 8)), (0, q_r 28 0), (1, q_r 0 0), (2, q_r 18 0)]) rfl (by decide) rfl (congrArg (fun z => x3 + z) (by decide : Int32.ofInt 8 = 8)) rfl ?_
          refine q_goto (pc := 990) (tgt := 18) rfl (by decide) ?_
          refine q_sub (pc := 18) (ks := [1, 2, 3, 0]) rfl ?_
          exact ih _ _ k
        · have k := k.2 z
          refine q_iconst (pc := 781) (v := 0) rfl (by decide) ?_
          exact q_zret (pc := 782) rfl rfl (by decide) ⟨_, rfl, k⟩
      by_cases z16 : Int32.toInt ((xs (Int32.toNatClampNeg x3)) &&& 31) = 16
      · refine q_tsIn (pc := 33) (tgt := 783) rfl (by rw [z16]; decide) (by rw [z16]; decide) (by rw [z16]; rfl) (by decide) ?_
        have k := k.2.2.2.2.2.2.2.2.2.2.2.2.2.2.2.2.1 z16
        refine q_aload_n (pc := 783) rfl rfl ?_
        refine q_aload_n (pc := 784) rfl rfl ?_
        refine q_iload_n (pc := 785) rfl rfl ?_
        refine q_iconst (pc := 786) (v := 1) rfl (by decide) ?_
        refine q_iadd (pc := 787) rfl ?_
        obtain ⟨b159, k⟩ := k
        refine q_sld (pc := 788) rfl rfl b159 ?_
        refine q_callV (pc := 789) (As := [q_i (xs (Int32.toNatClampNeg (x3 + 1)))]) (rest := []) rfl rfl rfl (by decide) rfl rfl (Nat.le_of_ble_eq_true rfl) ?_
        refine q_den_mono _ _ _ _ _ _ ?_ (dn_X4_ruled (d := 3)  k)
        rintro _ g160 ⟨r161, rfl, k⟩
        refine q_aload_n (pc := 792) rfl rfl ?_
        refine q_aload_n (pc := 793) rfl rfl ?_
        refine q_iload_n (pc := 794) rfl rfl ?_
        refine q_iconst (pc := 795) (v := 1) rfl (by decide) ?_
        refine q_iadd (pc := 796) rfl ?_
        obtain ⟨b162, k⟩ := k
        refine q_sld (pc := 797) rfl rfl b162 ?_
        refine q_callV (pc := 798) (As := [q_i (xs (Int32.toNatClampNeg (x3 + 1)))]) (rest := [q_i r161]) rfl rfl rfl (by decide) rfl rfl (Nat.le_of_ble_eq_true rfl) ?_
        refine q_den_mono _ _ _ _ _ _ ?_ (dn_X5_ruled (d := 2)  k)
        rintro _ g163 ⟨r164, rfl, k⟩
        refine q_icmp_eq (pc := 801) (tgt := 987) rfl (by decide) (fun z => ?_) (fun z => ?_)
        · have k := k.1 z
          refine q_iinc (pc := 987) (v := (x3 + 8)) (ls1 := [(3, q_i (x3 + 8)), (0, q_r 28 0), (1, q_r 0 0), (2, q_r 18 0)]) rfl (by decide) rfl (congrArg (fun z => x3 + z) (by decide : Int32.ofInt 8 = 8)) rfl ?_
          refine q_goto (pc := 990) (tgt := 18) rfl (by decide) ?_
          refine q_sub (pc := 18) (ks := [1, 2, 3, 0]) rfl ?_
          exact ih _ _ k
        · have k := k.2 z
          refine q_iconst (pc := 804) (v := 0) rfl (by decide) ?_
          exact q_zret (pc := 805) rfl rfl (by decide) ⟨_, rfl, k⟩
      by_cases z17 : Int32.toInt ((xs (Int32.toNatClampNeg x3)) &&& 31) = 17
      · refine q_tsIn (pc := 33) (tgt := 806) rfl (by rw [z17]; decide) (by rw [z17]; decide) (by rw [z17]; rfl) (by decide) ?_
        have k := k.2.2.2.2.2.2.2.2.2.2.2.2.2.2.2.2.2.1 z17
        refine q_aload_n (pc := 806) rfl rfl ?_
        refine q_aload_n (pc := 807) rfl rfl ?_
        refine q_iload_n (pc := 808) rfl rfl ?_
        refine q_iconst (pc := 809) (v := 1) rfl (by decide) ?_
        refine q_iadd (pc := 810) rfl ?_
        obtain ⟨b165, k⟩ := k
        refine q_sld (pc := 811) rfl rfl b165 ?_
        refine q_aload_n (pc := 812) rfl rfl ?_
        refine q_iload_n (pc := 813) rfl rfl ?_
        refine q_iconst (pc := 814) (v := 2) rfl (by decide) ?_
        refine q_iadd (pc := 815) rfl ?_
        obtain ⟨b166, k⟩ := k
        refine q_sld (pc := 816) rfl rfl b166 ?_
        refine q_callV (pc := 817) (As := [q_i (xs (Int32.toNatClampNeg (x3 + 1))), q_i (xs (Int32.toNatClampNeg (x3 + 2)))]) (rest := []) rfl rfl rfl (by decide) rfl rfl (Nat.le_of_ble_eq_true rfl) ?_
        refine q_den_mono _ _ _ _ _ _ ?_ (dn_X4_state (d := 4)  k)
        rintro _ g167 ⟨r168, rfl, k⟩
        refine q_aload_n (pc := 820) rfl rfl ?_
        refine q_aload_n (pc := 821) rfl rfl ?_
        refine q_iload_n (pc := 822) rfl rfl ?_
        refine q_iconst (pc := 823) (v := 1) rfl (by decide) ?_
        refine q_iadd (pc := 824) rfl ?_
        obtain ⟨b169, k⟩ := k
        refine q_sld (pc := 825) rfl rfl b169 ?_
        refine q_aload_n (pc := 826) rfl rfl ?_
        refine q_iload_n (pc := 827) rfl rfl ?_
        refine q_iconst (pc := 828) (v := 2) rfl (by decide) ?_
        refine q_iadd (pc := 829) rfl ?_
        obtain ⟨b170, k⟩ := k
        refine q_sld (pc := 830) rfl rfl b170 ?_
        refine q_callV (pc := 831) (As := [q_i (xs (Int32.toNatClampNeg (x3 + 1))), q_i (xs (Int32.toNatClampNeg (x3 + 2)))]) (rest := [q_i r168]) rfl rfl rfl (by decide) rfl rfl (Nat.le_of_ble_eq_true rfl) ?_
        refine q_den_mono _ _ _ _ _ _ ?_ (dn_X5_state (d := 4)  k)
        rintro _ g171 ⟨r172, rfl, k⟩
        refine q_icmp_eq (pc := 834) (tgt := 987) rfl (by decide) (fun z => ?_) (fun z => ?_)
        · have k := k.1 z
          refine q_iinc (pc := 987) (v := (x3 + 8)) (ls1 := [(3, q_i (x3 + 8)), (0, q_r 28 0), (1, q_r 0 0), (2, q_r 18 0)]) rfl (by decide) rfl (congrArg (fun z => x3 + z) (by decide : Int32.ofInt 8 = 8)) rfl ?_
          refine q_goto (pc := 990) (tgt := 18) rfl (by decide) ?_
          refine q_sub (pc := 18) (ks := [1, 2, 3, 0]) rfl ?_
          exact ih _ _ k
        · have k := k.2 z
          refine q_iconst (pc := 837) (v := 0) rfl (by decide) ?_
          exact q_zret (pc := 838) rfl rfl (by decide) ⟨_, rfl, k⟩
      by_cases z18 : Int32.toInt ((xs (Int32.toNatClampNeg x3)) &&& 31) = 18
      · refine q_tsIn (pc := 33) (tgt := 839) rfl (by rw [z18]; decide) (by rw [z18]; decide) (by rw [z18]; rfl) (by decide) ?_
        have k := k.2.2.2.2.2.2.2.2.2.2.2.2.2.2.2.2.2.2.1 z18
        refine q_aload_n (pc := 839) rfl rfl ?_
        refine q_aload_n (pc := 840) rfl rfl ?_
        refine q_iload_n (pc := 841) rfl rfl ?_
        refine q_iconst (pc := 842) (v := 1) rfl (by decide) ?_
        refine q_iadd (pc := 843) rfl ?_
        obtain ⟨b173, k⟩ := k
        refine q_sld (pc := 844) rfl rfl b173 ?_
        refine q_aload_n (pc := 845) rfl rfl ?_
        refine q_iload_n (pc := 846) rfl rfl ?_
        refine q_iconst (pc := 847) (v := 2) rfl (by decide) ?_
        refine q_iadd (pc := 848) rfl ?_
        obtain ⟨b174, k⟩ := k
        refine q_sld (pc := 849) rfl rfl b174 ?_
        refine q_callV (pc := 850) (As := [q_i (xs (Int32.toNatClampNeg (x3 + 1))), q_i (xs (Int32.toNatClampNeg (x3 + 2)))]) (rest := []) rfl rfl rfl (by decide) rfl rfl (Nat.le_of_ble_eq_true rfl) ?_
        refine q_den_mono _ _ _ _ _ _ ?_ (dn_X4_ruledState (d := 4)  k)
        rintro _ g175 ⟨r176, rfl, k⟩
        refine q_aload_n (pc := 853) rfl rfl ?_
        refine q_aload_n (pc := 854) rfl rfl ?_
        refine q_iload_n (pc := 855) rfl rfl ?_
        refine q_iconst (pc := 856) (v := 1) rfl (by decide) ?_
        refine q_iadd (pc := 857) rfl ?_
        obtain ⟨b177, k⟩ := k
        refine q_sld (pc := 858) rfl rfl b177 ?_
        refine q_aload_n (pc := 859) rfl rfl ?_
        refine q_iload_n (pc := 860) rfl rfl ?_
        refine q_iconst (pc := 861) (v := 2) rfl (by decide) ?_
        refine q_iadd (pc := 862) rfl ?_
        obtain ⟨b178, k⟩ := k
        refine q_sld (pc := 863) rfl rfl b178 ?_
        refine q_callV (pc := 864) (As := [q_i (xs (Int32.toNatClampNeg (x3 + 1))), q_i (xs (Int32.toNatClampNeg (x3 + 2)))]) (rest := [q_i r176]) rfl rfl rfl (by decide) rfl rfl (Nat.le_of_ble_eq_true rfl) ?_
        refine q_den_mono _ _ _ _ _ _ ?_ (dn_X5_ruledState (d := 4)  k)
        rintro _ g179 ⟨r180, rfl, k⟩
        refine q_icmp_eq (pc := 867) (tgt := 987) rfl (by decide) (fun z => ?_) (fun z => ?_)
        · have k := k.1 z
          refine q_iinc (pc := 987) (v := (x3 + 8)) (ls1 := [(3, q_i (x3 + 8)), (0, q_r 28 0), (1, q_r 0 0), (2, q_r 18 0)]) rfl (by decide) rfl (congrArg (fun z => x3 + z) (by decide : Int32.ofInt 8 = 8)) rfl ?_
          refine q_goto (pc := 990) (tgt := 18) rfl (by decide) ?_
          refine q_sub (pc := 18) (ks := [1, 2, 3, 0]) rfl ?_
          exact ih _ _ k
        · have k := k.2 z
          refine q_iconst (pc := 870) (v := 0) rfl (by decide) ?_
          exact q_zret (pc := 871) rfl rfl (by decide) ⟨_, rfl, k⟩
      by_cases z19 : Int32.toInt ((xs (Int32.toNatClampNeg x3)) &&& 31) = 19
      · refine q_tsIn (pc := 33) (tgt := 872) rfl (by rw [z19]; decide) (by rw [z19]; decide) (by rw [z19]; rfl) (by decide) ?_
        have k := k.2.2.2.2.2.2.2.2.2.2.2.2.2.2.2.2.2.2.2.1 z19
        refine q_aload_n (pc := 872) rfl rfl ?_
        refine q_callV (pc := 873) (As := []) (rest := []) rfl rfl rfl (by decide) rfl rfl (Nat.le_of_ble_eq_true rfl) ?_
        refine q_den_mono _ _ _ _ _ _ ?_ (dn_X4_all (d := 1)  k)
        rintro _ g181 ⟨r182, rfl, k⟩
        refine q_aload_n (pc := 876) rfl rfl ?_
        refine q_callV (pc := 877) (As := []) (rest := [q_i r182]) rfl rfl rfl (by decide) rfl rfl (Nat.le_of_ble_eq_true rfl) ?_
        refine q_den_mono _ _ _ _ _ _ ?_ (dn_X5_all (d := 3)  k)
        rintro _ g183 ⟨r184, rfl, k⟩
        refine q_icmp_eq (pc := 880) (tgt := 987) rfl (by decide) (fun z => ?_) (fun z => ?_)
        · have k := k.1 z
          refine q_iinc (pc := 987) (v := (x3 + 8)) (ls1 := [(3, q_i (x3 + 8)), (0, q_r 28 0), (1, q_r 0 0), (2, q_r 18 0)]) rfl (by decide) rfl (congrArg (fun z => x3 + z) (by decide : Int32.ofInt 8 = 8)) rfl ?_
          refine q_goto (pc := 990) (tgt := 18) rfl (by decide) ?_
          refine q_sub (pc := 18) (ks := [1, 2, 3, 0]) rfl ?_
          exact ih _ _ k
        · have k := k.2 z
          refine q_iconst (pc := 883) (v := 0) rfl (by decide) ?_
          exact q_zret (pc := 884) rfl rfl (by decide) ⟨_, rfl, k⟩
      by_cases z20 : Int32.toInt ((xs (Int32.toNatClampNeg x3)) &&& 31) = 20
      · refine q_tsIn (pc := 33) (tgt := 885) rfl (by rw [z20]; decide) (by rw [z20]; decide) (by rw [z20]; rfl) (by decide) ?_
        have k := k.2.2.2.2.2.2.2.2.2.2.2.2.2.2.2.2.2.2.2.2.1 z20
        refine q_aload_n (pc := 885) rfl rfl ?_
        refine q_aload_n (pc := 886) rfl rfl ?_
        refine q_iload_n (pc := 887) rfl rfl ?_
        refine q_iconst (pc := 888) (v := 1) rfl (by decide) ?_
        refine q_iadd (pc := 889) rfl ?_
        obtain ⟨b185, k⟩ := k
        refine q_sld (pc := 890) rfl rfl b185 ?_
        refine q_callV (pc := 891) (As := [q_i (xs (Int32.toNatClampNeg (x3 + 1)))]) (rest := []) rfl rfl rfl (by decide) rfl rfl (Nat.le_of_ble_eq_true rfl) ?_
        refine q_den_mono _ _ _ _ _ _ ?_ (dn_X4_without (d := 1)  k)
        rintro _ g186 ⟨r187, rfl, k⟩
        refine q_aload_n (pc := 894) rfl rfl ?_
        refine q_aload_n (pc := 895) rfl rfl ?_
        refine q_iload_n (pc := 896) rfl rfl ?_
        refine q_iconst (pc := 897) (v := 1) rfl (by decide) ?_
        refine q_iadd (pc := 898) rfl ?_
        obtain ⟨b188, k⟩ := k
        refine q_sld (pc := 899) rfl rfl b188 ?_
        refine q_callV (pc := 900) (As := [q_i (xs (Int32.toNatClampNeg (x3 + 1)))]) (rest := [q_i r187]) rfl rfl rfl (by decide) rfl rfl (Nat.le_of_ble_eq_true rfl) ?_
        refine q_den_mono _ _ _ _ _ _ ?_ (dn_X5_without (d := 2)  k)
        rintro _ g189 ⟨r190, rfl, k⟩
        refine q_icmp_eq (pc := 903) (tgt := 987) rfl (by decide) (fun z => ?_) (fun z => ?_)
        · have k := k.1 z
          refine q_iinc (pc := 987) (v := (x3 + 8)) (ls1 := [(3, q_i (x3 + 8)), (0, q_r 28 0), (1, q_r 0 0), (2, q_r 18 0)]) rfl (by decide) rfl (congrArg (fun z => x3 + z) (by decide : Int32.ofInt 8 = 8)) rfl ?_
          refine q_goto (pc := 990) (tgt := 18) rfl (by decide) ?_
          refine q_sub (pc := 18) (ks := [1, 2, 3, 0]) rfl ?_
          exact ih _ _ k
        · have k := k.2 z
          refine q_iconst (pc := 906) (v := 0) rfl (by decide) ?_
          exact q_zret (pc := 907) rfl rfl (by decide) ⟨_, rfl, k⟩
      by_cases z21 : Int32.toInt ((xs (Int32.toNatClampNeg x3)) &&& 31) = 21
      · refine q_tsIn (pc := 33) (tgt := 908) rfl (by rw [z21]; decide) (by rw [z21]; decide) (by rw [z21]; rfl) (by decide) ?_
        have k := k.2.2.2.2.2.2.2.2.2.2.2.2.2.2.2.2.2.2.2.2.2.1 z21
        refine q_aload_n (pc := 908) rfl rfl ?_
        refine q_aload_n (pc := 909) rfl rfl ?_
        refine q_iload_n (pc := 910) rfl rfl ?_
        refine q_iconst (pc := 911) (v := 1) rfl (by decide) ?_
        refine q_iadd (pc := 912) rfl ?_
        obtain ⟨b191, k⟩ := k
        refine q_sld (pc := 913) rfl rfl b191 ?_
        refine q_callV (pc := 914) (As := [q_i (xs (Int32.toNatClampNeg (x3 + 1)))]) (rest := []) rfl rfl rfl (by decide) rfl rfl (Nat.le_of_ble_eq_true rfl) ?_
        refine q_den_mono _ _ _ _ _ _ ?_ (dn_X4_blame (d := 2)  k)
        rintro _ g192 ⟨r193, rfl, k⟩
        refine q_aload_n (pc := 917) rfl rfl ?_
        refine q_aload_n (pc := 918) rfl rfl ?_
        refine q_iload_n (pc := 919) rfl rfl ?_
        refine q_iconst (pc := 920) (v := 1) rfl (by decide) ?_
        refine q_iadd (pc := 921) rfl ?_
        obtain ⟨b194, k⟩ := k
        refine q_sld (pc := 922) rfl rfl b194 ?_
        refine q_callV (pc := 923) (As := [q_i (xs (Int32.toNatClampNeg (x3 + 1)))]) (rest := [q_i r193]) rfl rfl rfl (by decide) rfl rfl (Nat.le_of_ble_eq_true rfl) ?_
        refine q_den_mono _ _ _ _ _ _ ?_ (dn_X5_blame (d := 4)  k)
        rintro _ g195 ⟨r196, rfl, k⟩
        refine q_icmp_eq (pc := 926) (tgt := 987) rfl (by decide) (fun z => ?_) (fun z => ?_)
        · have k := k.1 z
          refine q_iinc (pc := 987) (v := (x3 + 8)) (ls1 := [(3, q_i (x3 + 8)), (0, q_r 28 0), (1, q_r 0 0), (2, q_r 18 0)]) rfl (by decide) rfl (congrArg (fun z => x3 + z) (by decide : Int32.ofInt 8 = 8)) rfl ?_
          refine q_goto (pc := 990) (tgt := 18) rfl (by decide) ?_
          refine q_sub (pc := 18) (ks := [1, 2, 3, 0]) rfl ?_
          exact ih _ _ k
        · have k := k.2 z
          refine q_iconst (pc := 929) (v := 0) rfl (by decide) ?_
          exact q_zret (pc := 930) rfl rfl (by decide) ⟨_, rfl, k⟩
      by_cases z22 : Int32.toInt ((xs (Int32.toNatClampNeg x3)) &&& 31) = 22
      · refine q_tsIn (pc := 33) (tgt := 931) rfl (by rw [z22]; decide) (by rw [z22]; decide) (by rw [z22]; rfl) (by decide) ?_
        have k := k.2.2.2.2.2.2.2.2.2.2.2.2.2.2.2.2.2.2.2.2.2.2.1 z22
        refine q_aload_n (pc := 931) rfl rfl ?_
        refine q_aload_n (pc := 932) rfl rfl ?_
        refine q_iload_n (pc := 933) rfl rfl ?_
        refine q_iconst (pc := 934) (v := 1) rfl (by decide) ?_
        refine q_iadd (pc := 935) rfl ?_
        obtain ⟨b197, k⟩ := k
        refine q_sld (pc := 936) rfl rfl b197 ?_
        refine q_aload_n (pc := 937) rfl rfl ?_
        refine q_iload_n (pc := 938) rfl rfl ?_
        refine q_iconst (pc := 939) (v := 2) rfl (by decide) ?_
        refine q_iadd (pc := 940) rfl ?_
        obtain ⟨b198, k⟩ := k
        refine q_sld (pc := 941) rfl rfl b198 ?_
        refine q_callV (pc := 942) (As := [q_i (xs (Int32.toNatClampNeg (x3 + 1))), q_i (xs (Int32.toNatClampNeg (x3 + 2)))]) (rest := []) rfl rfl rfl (by decide) rfl rfl (Nat.le_of_ble_eq_true rfl) ?_
        refine q_den_mono _ _ _ _ _ _ ?_ (dn_X4_order (d := 4)  k)
        rintro _ g199 ⟨r200, rfl, k⟩
        refine q_aload_n (pc := 945) rfl rfl ?_
        refine q_aload_n (pc := 946) rfl rfl ?_
        refine q_iload_n (pc := 947) rfl rfl ?_
        refine q_iconst (pc := 948) (v := 1) rfl (by decide) ?_
        refine q_iadd (pc := 949) rfl ?_
        obtain ⟨b201, k⟩ := k
        refine q_sld (pc := 950) rfl rfl b201 ?_
        refine q_aload_n (pc := 951) rfl rfl ?_
        refine q_iload_n (pc := 952) rfl rfl ?_
        refine q_iconst (pc := 953) (v := 2) rfl (by decide) ?_
        refine q_iadd (pc := 954) rfl ?_
        obtain ⟨b202, k⟩ := k
        refine q_sld (pc := 955) rfl rfl b202 ?_
        refine q_callV (pc := 956) (As := [q_i (xs (Int32.toNatClampNeg (x3 + 1))), q_i (xs (Int32.toNatClampNeg (x3 + 2)))]) (rest := [q_i r200]) rfl rfl rfl (by decide) rfl rfl (Nat.le_of_ble_eq_true rfl) ?_
        refine q_den_mono _ _ _ _ _ _ ?_ (dn_X5_order (d := 5)  k)
        rintro _ g203 ⟨r204, rfl, k⟩
        refine q_icmp_eq (pc := 959) (tgt := 987) rfl (by decide) (fun z => ?_) (fun z => ?_)
        · have k := k.1 z
          refine q_iinc (pc := 987) (v := (x3 + 8)) (ls1 := [(3, q_i (x3 + 8)), (0, q_r 28 0), (1, q_r 0 0), (2, q_r 18 0)]) rfl (by decide) rfl (congrArg (fun z => x3 + z) (by decide : Int32.ofInt 8 = 8)) rfl ?_
          refine q_goto (pc := 990) (tgt := 18) rfl (by decide) ?_
          refine q_sub (pc := 18) (ks := [1, 2, 3, 0]) rfl ?_
          exact ih _ _ k
        · have k := k.2 z
          refine q_iconst (pc := 962) (v := 0) rfl (by decide) ?_
          exact q_zret (pc := 963) rfl rfl (by decide) ⟨_, rfl, k⟩
      by_cases z23 : Int32.toInt ((xs (Int32.toNatClampNeg x3)) &&& 31) = 23
      · refine q_tsIn (pc := 33) (tgt := 964) rfl (by rw [z23]; decide) (by rw [z23]; decide) (by rw [z23]; rfl) (by decide) ?_
        have k := k.2.2.2.2.2.2.2.2.2.2.2.2.2.2.2.2.2.2.2.2.2.2.2.1 z23
        refine q_aload_n (pc := 964) rfl rfl ?_
        refine q_aload_n (pc := 965) rfl rfl ?_
        refine q_iload_n (pc := 966) rfl rfl ?_
        refine q_iconst (pc := 967) (v := 1) rfl (by decide) ?_
        refine q_iadd (pc := 968) rfl ?_
        obtain ⟨b205, k⟩ := k
        refine q_sld (pc := 969) rfl rfl b205 ?_
        refine q_callV (pc := 970) (As := [q_i (xs (Int32.toNatClampNeg (x3 + 1)))]) (rest := []) rfl rfl rfl (by decide) rfl rfl (Nat.le_of_ble_eq_true rfl) ?_
        refine q_den_mono _ _ _ _ _ _ ?_ (dn_X4_learn (d := 1)  k)
        rintro _ g206 ⟨r207, rfl, k⟩
        refine q_aload_n (pc := 973) rfl rfl ?_
        refine q_aload_n (pc := 974) rfl rfl ?_
        refine q_iload_n (pc := 975) rfl rfl ?_
        refine q_iconst (pc := 976) (v := 1) rfl (by decide) ?_
        refine q_iadd (pc := 977) rfl ?_
        obtain ⟨b208, k⟩ := k
        refine q_sld (pc := 978) rfl rfl b208 ?_
        refine q_callV (pc := 979) (As := [q_i (xs (Int32.toNatClampNeg (x3 + 1)))]) (rest := [q_i r207]) rfl rfl rfl (by decide) rfl rfl (Nat.le_of_ble_eq_true rfl) ?_
        refine q_den_mono _ _ _ _ _ _ ?_ (dn_X5_learn (d := 2)  k)
        rintro _ g209 ⟨r210, rfl, k⟩
        refine q_icmp_eq (pc := 982) (tgt := 987) rfl (by decide) (fun z => ?_) (fun z => ?_)
        · have k := k.1 z
          refine q_iinc (pc := 987) (v := (x3 + 8)) (ls1 := [(3, q_i (x3 + 8)), (0, q_r 28 0), (1, q_r 0 0), (2, q_r 18 0)]) rfl (by decide) rfl (congrArg (fun z => x3 + z) (by decide : Int32.ofInt 8 = 8)) rfl ?_
          refine q_goto (pc := 990) (tgt := 18) rfl (by decide) ?_
          refine q_sub (pc := 18) (ks := [1, 2, 3, 0]) rfl ?_
          exact ih _ _ k
        · have k := k.2 z
          refine q_iconst (pc := 985) (v := 0) rfl (by decide) ?_
          exact q_zret (pc := 986) rfl rfl (by decide) ⟨_, rfl, k⟩
      have z : Int32.toInt ((xs (Int32.toNatClampNeg x3)) &&& 31) < 0 ∨ 23 < Int32.toInt ((xs (Int32.toNatClampNeg x3)) &&& 31) := by omega
      refine q_tsOut (pc := 33) (tgt := 987) rfl z (by decide) ?_
      have k := k.2.2.2.2.2.2.2.2.2.2.2.2.2.2.2.2.2.2.2.2.2.2.2.2 z
      refine q_iinc (pc := 987) (v := (x3 + 8)) (ls1 := [(3, q_i (x3 + 8)), (0, q_r 28 0), (1, q_r 0 0), (2, q_r 18 0)]) rfl (by decide) rfl (congrArg (fun z => x3 + z) (by decide : Int32.ofInt 8 = 8)) rfl ?_
      refine q_goto (pc := 990) (tgt := 18) rfl (by decide) ?_
      refine q_sub (pc := 18) (ks := [1, 2, 3, 0]) rfl ?_
      exact ih _ _ k
