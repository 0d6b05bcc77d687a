set_option maxHeartbeats 1000000 in
set_option maxRecDepth 4000 in
theorem sg_X11_isPerson_0 {E : HEn} {d : Nat} {Q : Option Value → HIh → Prop} {I : HIh} {x : Int32}
    (k1 : x < 0 → Q (some (.int 0)) I)
    (k2 : ¬ x < 0 → 4 ≤ x → Q (some (.int 0)) I)
    (k3 : ¬ x < 0 → ¬ 4 ≤ x → Q (some (.int 1)) I)
    : HGo E (mF E (d + 1) Q) me_X11_isPerson 0 [(0, .int x)] [] I := by
  refine h_iload_n dX11_isPerson_0 rfl 0 rfl ?_
  refine h_if_lt (tgt := 13) dX11_isPerson_1 (by decide) (fun c1 => ?_) (fun c1 => ?_)
  ·
    refine h_iconst (v := 0) dX11_isPerson_13 (by decide) ?_
    exact h_zret dX11_isPerson_14 rfl rfl (k1 c1)
  ·
    refine h_iload_n dX11_isPerson_4 rfl 0 rfl ?_
    refine h_iconst (v := 4) dX11_isPerson_5 (by decide) ?_
    refine h_icmp_ge (tgt := 13) dX11_isPerson_6 (by decide) (fun c2 => ?_) (fun c2 => ?_)
    ·
      refine h_iconst (v := 0) dX11_isPerson_13 (by decide) ?_
      exact h_zret dX11_isPerson_14 rfl rfl (k2 c1 c2)
    ·
      refine h_iconst (v := 1) dX11_isPerson_9 (by decide) ?_
      refine h_goto (tgt := 14) dX11_isPerson_10 (by decide) ?_
      exact h_zret dX11_isPerson_14 rfl rfl (k3 c1 c2)
set_option maxHeartbeats 1000000 in
set_option maxRecDepth 4000 in
theorem sg_X12_isPerson_0 {E : HEn} {d : Nat} {Q : Option Value → HIh → Prop} {I : HIh} {x : Int32}
    (k1 : HCall E me_X12_in (d + 1) [.long x.toInt64, .long 0, .long 3] I (fun v9 J => HGo E (mF E (d + 2) Q) me_X12_isPerson 9 [] (v9.toList ++ []) J))
    : HGo E (mF E (d + 2) Q) me_X12_isPerson 0 [(0, .int x)] [] I := by
  refine h_iload_n dX12_isPerson_0 rfl 0 rfl ?_
  refine h_i2l dX12_isPerson_1 ?_
  refine h_lconst (v := 0) dX12_isPerson_2 (by decide) ?_
  refine h_ldc2 dX12_isPerson_3 wt_1006 rfl ?_
  refine h_pick [] [] rfl ?_
  refine h_invS (As := [.long x.toInt64, .long 0, .long 3]) (st := []) dX12_isPerson_6 lk_X12_62 (h_room (by decide)) rfl rfl (Nat.le_of_ble_eq_true rfl) ?_
  exact k1
set_option maxHeartbeats 1000000 in
set_option maxRecDepth 4000 in
theorem sg_X12_isPerson_9 {E : HEn} {d : Nat} {Q : Option Value → HIh → Prop} {I : HIh} {s0 : Int32}
    (k1 : vp_nar .boolean s0 = s0)
    (k2 : Q (some (.int s0)) I)
    : HGo E (mF E (d + 2) Q) me_X12_isPerson 9 [] [.int s0] I := by
  exact h_zret dX12_isPerson_9 rfl (k1) (k2)
set_option maxHeartbeats 1000000 in
set_option maxRecDepth 4000 in
theorem sg_X12_in_0 {E : HEn} {d : Nat} {Q : Option Value → HIh → Prop} {I : HIh} {v : Int64} {a : Int64} {b : Int64}
    (k1 : (lg_cmp v a) < 0 → Q (some (.int 0)) I)
    (k2 : ¬ (lg_cmp v a) < 0 → 0 < (lg_cmp v b) → Q (some (.int 0)) I)
    (k3 : ¬ (lg_cmp v a) < 0 → ¬ 0 < (lg_cmp v b) → Q (some (.int 1)) I)
    : HGo E (mF E (d + 1) Q) me_X12_in 0 [(0, .long v), (2, .long a), (4, .long b)] [] I := by
  refine h_lload_n dX12_in_0 rfl 0 rfl ?_
  refine h_lload_n dX12_in_1 rfl 1 rfl ?_
  refine h_lcmp dX12_in_2 ?_
  refine h_if_lt (tgt := 17) dX12_in_3 (by decide) (fun c1 => ?_) (fun c1 => ?_)
  ·
    refine h_iconst (v := 0) dX12_in_17 (by decide) ?_
    exact h_zret dX12_in_18 rfl rfl (k1 c1)
  ·
    refine h_lload_n dX12_in_6 rfl 0 rfl ?_
    refine h_lload dX12_in_7 2 rfl ?_
    refine h_lcmp dX12_in_9 ?_
    refine h_if_gt (tgt := 17) dX12_in_10 (by decide) (fun c2 => ?_) (fun c2 => ?_)
    ·
      refine h_iconst (v := 0) dX12_in_17 (by decide) ?_
      exact h_zret dX12_in_18 rfl rfl (k2 c1 c2)
    ·
      refine h_iconst (v := 1) dX12_in_13 (by decide) ?_
      refine h_goto (tgt := 18) dX12_in_14 (by decide) ?_
      exact h_zret dX12_in_18 rfl rfl (k3 c1 c2)
set_option maxHeartbeats 1000000 in
set_option maxRecDepth 4000 in
theorem sg_X12_isKind_0 {E : HEn} {d : Nat} {Q : Option Value → HIh → Prop} {I : HIh} {k : Int32}
    (k1 : HCall E me_X12_in (d + 1) [.long k.toInt64, .long 0, .long (((I 87 6) - 1).toInt64)] I (fun v9 J => HGo E (mF E (d + 2) Q) me_X12_isKind 13 [] (v9.toList ++ []) J))
    : HGo E (mF E (d + 2) Q) me_X12_isKind 0 [(0, .ref 87), (1, .int k)] [] I := by
  refine h_iload_n dX12_isKind_0 rfl 1 rfl ?_
  refine h_i2l dX12_isKind_1 ?_
  refine h_lconst (v := 0) dX12_isKind_2 (by decide) ?_
  refine h_aload_n dX12_isKind_3 rfl 0 rfl ?_
  refine gf_10_6 dX12_isKind_4 hl_X12_23 nl_87 zk_87 ?_
  refine h_iconst (v := 1) dX12_isKind_7 (by decide) ?_
  refine h_isub dX12_isKind_8 ?_
  refine h_i2l dX12_isKind_9 ?_
  refine h_pick [] [] rfl ?_
  refine h_invS (As := [.long k.toInt64, .long 0, .long (((I 87 6) - 1).toInt64)]) (st := []) dX12_isKind_10 lk_X12_62 (h_room (by decide)) rfl rfl (Nat.le_of_ble_eq_true rfl) ?_
  exact k1
set_option maxHeartbeats 1000000 in
set_option maxRecDepth 4000 in
theorem sg_X12_isKind_13 {E : HEn} {d : Nat} {Q : Option Value → HIh → Prop} {I : HIh} {s0 : Int32}
    (k1 : vp_nar .boolean s0 = s0)
    (k2 : Q (some (.int s0)) I)
    : HGo E (mF E (d + 2) Q) me_X12_isKind 13 [] [.int s0] I := by
  exact h_zret dX12_isKind_13 rfl (k1) (k2)
set_option maxHeartbeats 1000000 in
set_option maxRecDepth 4000 in
theorem sg_X9_hasKind_0 {E : HEn} {d : Nat} {Q : Option Value → HIh → Prop} {I : HIh} {k : Int32}
    (k1 : k < 0 → Q (some (.int 0)) I)
    (k2 : ¬ k < 0 → (I 1 9) ≤ k → Q (some (.int 0)) I)
    (k3 : ¬ k < 0 → ¬ (I 1 9) ≤ k → Q (some (.int 1)) I)
    : HGo E (mF E (d + 1) Q) me_X9_hasKind 0 [(0, .ref 1), (1, .int k)] [] I := by
  refine h_iload_n dX9_hasKind_0 rfl 1 rfl ?_
  refine h_if_lt (tgt := 16) dX9_hasKind_1 (by decide) (fun c1 => ?_) (fun c1 => ?_)
  ·
    refine h_iconst (v := 0) dX9_hasKind_16 (by decide) ?_
    exact h_zret dX9_hasKind_17 rfl rfl (k1 c1)
  ·
    refine h_iload_n dX9_hasKind_4 rfl 1 rfl ?_
    refine h_aload_n dX9_hasKind_5 rfl 0 rfl ?_
    refine gf_7_9 dX9_hasKind_6 hl_X9_56 nl_1 zk_1 ?_
    refine h_icmp_ge (tgt := 16) dX9_hasKind_9 (by decide) (fun c2 => ?_) (fun c2 => ?_)
    ·
      refine h_iconst (v := 0) dX9_hasKind_16 (by decide) ?_
      exact h_zret dX9_hasKind_17 rfl rfl (k2 c1 c2)
    ·
      refine h_iconst (v := 1) dX9_hasKind_12 (by decide) ?_
      refine h_goto (tgt := 17) dX9_hasKind_13 (by decide) ?_
      exact h_zret dX9_hasKind_17 rfl rfl (k3 c1 c2)
set_option maxHeartbeats 1000000 in
set_option maxRecDepth 4000 in
theorem sg_X12_visitsLeft_0 {E : HEn} {d : Nat} {Q : Option Value → HIh → Prop} {I : HIh} 
    (k1 : Q (some (.int ((I 87 13) - (I 88 30)))) I)
    : HGo E (mF E (d + 1) Q) me_X12_visitsLeft 0 [(0, .ref 87)] [] I := by
  refine h_aload_n dX12_visitsLeft_0 rfl 0 rfl ?_
  refine gf_10_13 dX12_visitsLeft_1 hl_X12_147 nl_87 zk_87 ?_
  refine h_aload_n dX12_visitsLeft_4 rfl 0 rfl ?_
  refine gf_10_0 dX12_visitsLeft_5 hl_X12_7 nl_87 zk_87 zp_87_0 ?_
  refine h_bipush (v := 30) dX12_visitsLeft_8 (by decide) ?_
  refine h_iald dX12_visitsLeft_10 nl_88 zk_88 (vp_lit (by rw [zn_88]; decide)) ?_
  refine h_isub dX12_visitsLeft_11 ?_
  exact h_iret dX12_visitsLeft_12 rfl (k1)
set_option maxHeartbeats 1000000 in
set_option maxRecDepth 4000 in
theorem sg_X9_greatestTaken_0 {E : HEn} {d : Nat} {Q : Option Value → HIh → Prop} {I : HIh} {k : Int32}
    (k1 : ¬ (I 1 11) = 1 → Q (some (.int (k - 1))) I)
    (k2 : (I 1 11) = 1 → Q (some (.int k)) I)
    : HGo E (mF E (d + 1) Q) me_X9_greatestTaken 0 [(0, .ref 1), (1, .int k)] [] I := by
  refine h_aload_n dX9_greatestTaken_0 rfl 0 rfl ?_
  refine gf_7_11 dX9_greatestTaken_1 hl_X9_60 nl_1 zk_1 ?_
  refine h_iconst (v := 1) dX9_greatestTaken_4 (by decide) ?_
  refine h_icmp_ne (tgt := 12) dX9_greatestTaken_5 (by decide) (fun c1 => ?_) (fun c1 => ?_)
  ·
    refine h_iload_n dX9_greatestTaken_12 rfl 1 rfl ?_
    refine h_iconst (v := 1) dX9_greatestTaken_13 (by decide) ?_
    refine h_isub dX9_greatestTaken_14 ?_
    exact h_iret dX9_greatestTaken_15 rfl (k1 c1)
  ·
    refine h_iload_n dX9_greatestTaken_8 rfl 1 rfl ?_
    refine h_goto (tgt := 15) dX9_greatestTaken_9 (by decide) ?_
    exact h_iret dX9_greatestTaken_15 rfl (k2 c1)
set_option maxHeartbeats 1000000 in
set_option maxRecDepth 4000 in
theorem sg_X9_mostTakenOfKind_0 {E : HEn} {d : Nat} {Q : Option Value → HIh → Prop} {I : HIh} 
    (k1 : ¬ (I 1 11) = 2 → Q (some (.int 1000000)) I)
    (k2 : (I 1 11) = 2 → Q (some (.int 1)) I)
    : HGo E (mF E (d + 1) Q) me_X9_mostTakenOfKind 0 [(0, .ref 1)] [] I := by
  refine h_aload_n dX9_mostTakenOfKind_0 rfl 0 rfl ?_
  refine gf_7_11 dX9_mostTakenOfKind_1 hl_X9_60 nl_1 zk_1 ?_
  refine h_iconst (v := 2) dX9_mostTakenOfKind_4 (by decide) ?_
  refine h_icmp_ne (tgt := 12) dX9_mostTakenOfKind_5 (by decide) (fun c1 => ?_) (fun c1 => ?_)
  ·
    refine h_ldc dX9_mostTakenOfKind_12 wt_569 rfl ?_
    exact h_iret dX9_mostTakenOfKind_14 rfl (k1 c1)
  ·
    refine h_iconst (v := 1) dX9_mostTakenOfKind_8 (by decide) ?_
    refine h_goto (tgt := 14) dX9_mostTakenOfKind_9 (by decide) ?_
    exact h_iret dX9_mostTakenOfKind_14 rfl (k2 c1)
set_option maxHeartbeats 1000000 in
set_option maxRecDepth 4000 in
theorem sg_X9_takesOneKind_0 {E : HEn} {d : Nat} {Q : Option Value → HIh → Prop} {I : HIh} 
    (k1 : (I 1 11) = 2 → Q (some (.int 1)) I)
    (k2 : ¬ (I 1 11) = 2 → ¬ (I 1 11) = 3 → Q (some (.int 0)) I)
    (k3 : ¬ (I 1 11) = 2 → (I 1 11) = 3 → Q (some (.int 1)) I)
    : HGo E (mF E (d + 1) Q) me_X9_takesOneKind 0 [(0, .ref 1)] [] I := by
  refine h_aload_n dX9_takesOneKind_0 rfl 0 rfl ?_
  refine gf_7_11 dX9_takesOneKind_1 hl_X9_60 nl_1 zk_1 ?_
  refine h_iconst (v := 2) dX9_takesOneKind_4 (by decide) ?_
  refine h_icmp_eq (tgt := 16) dX9_takesOneKind_5 (by decide) (fun c1 => ?_) (fun c1 => ?_)
  ·
    refine h_iconst (v := 1) dX9_takesOneKind_16 (by decide) ?_
    refine h_goto (tgt := 21) dX9_takesOneKind_17 (by decide) ?_
    exact h_zret dX9_takesOneKind_21 rfl rfl (k1 c1)
  ·
    refine h_aload_n dX9_takesOneKind_8 rfl 0 rfl ?_
    refine gf_7_11 dX9_takesOneKind_9 hl_X9_60 nl_1 zk_1 ?_
    refine h_iconst (v := 3) dX9_takesOneKind_12 (by decide) ?_
    refine h_icmp_ne (tgt := 20) dX9_takesOneKind_13 (by decide) (fun c2 => ?_) (fun c2 => ?_)
    ·
      refine h_iconst (v := 0) dX9_takesOneKind_20 (by decide) ?_
      exact h_zret dX9_takesOneKind_21 rfl rfl (k2 c1 c2)
    ·
      refine h_iconst (v := 1) dX9_takesOneKind_16 (by decide) ?_
      refine h_goto (tgt := 21) dX9_takesOneKind_17 (by decide) ?_
      exact h_zret dX9_takesOneKind_21 rfl rfl (k3 c1 c2)
set_option maxHeartbeats 1000000 in
set_option maxRecDepth 4000 in
theorem sg_X11_goalFor_0 {E : HEn} {d : Nat} {Q : Option Value → HIh → Prop} {I : HIh} {p : Int32} {z : Int32}
    (k1 : Q (some (.int (z <<< ((4 * p) &&& 31)))) I)
    : HGo E (mF E (d + 1) Q) me_X11_goalFor 0 [(0, .int p), (1, .int z)] [] I := by
  refine h_iload_n dX11_goalFor_0 rfl 1 rfl ?_
  refine h_iconst (v := 4) dX11_goalFor_1 (by decide) ?_
  refine h_iload_n dX11_goalFor_2 rfl 0 rfl ?_
  refine h_imul dX11_goalFor_3 ?_
  refine h_ishl dX11_goalFor_4 ?_
  exact h_iret dX11_goalFor_5 rfl (k1)
set_option maxHeartbeats 1000000 in
set_option maxRecDepth 4000 in
theorem sg_X12_has_0 {E : HEn} {d : Nat} {Q : Option Value → HIh → Prop} {I : HIh} {z : Int32} {k : Int32}
    (k1 : ¬ ((z >>> (k &&& 31)) &&& 1) = 1 → Q (some (.int 0)) I)
    (k2 : ((z >>> (k &&& 31)) &&& 1) = 1 → Q (some (.int 1)) I)
    : HGo E (mF E (d + 1) Q) me_X12_has 0 [(0, .int z), (1, .int k)] [] I := by
  refine h_iload_n dX12_has_0 rfl 0 rfl ?_
  refine h_iload_n dX12_has_1 rfl 1 rfl ?_
  refine h_ishr dX12_has_2 ?_
  refine h_iconst (v := 1) dX12_has_3 (by decide) ?_
  refine h_iand dX12_has_4 ?_
  refine h_iconst (v := 1) dX12_has_5 (by decide) ?_
  refine h_icmp_ne (tgt := 13) dX12_has_6 (by decide) (fun c1 => ?_) (fun c1 => ?_)
  ·
    refine h_iconst (v := 0) dX12_has_13 (by decide) ?_
    exact h_zret dX12_has_14 rfl rfl (k1 c1)
  ·
    refine h_iconst (v := 1) dX12_has_9 (by decide) ?_
    refine h_goto (tgt := 14) dX12_has_10 (by decide) ?_
    exact h_zret dX12_has_14 rfl rfl (k2 c1)
set_option maxHeartbeats 1000000 in
set_option maxRecDepth 4000 in
theorem sg_X12_sort_0 {E : HEn} {d : Nat} {Q : Option Value → HIh → Prop} {I : HIh} {x : Int32}
    (k1 : x < 97 → x < 48 → Q (some (.int 0)) I)
    (k2 : x < 97 → ¬ x < 48 → 57 < x → Q (some (.int 0)) I)
    (k3 : x < 97 → ¬ x < 48 → ¬ 57 < x → Q (some (.int 2)) I)
    (k4 : ¬ x < 97 → 122 < x → x < 48 → Q (some (.int 0)) I)
    (k5 : ¬ x < 97 → 122 < x → ¬ x < 48 → 57 < x → Q (some (.int 0)) I)
    (k6 : ¬ x < 97 → 122 < x → ¬ x < 48 → ¬ 57 < x → Q (some (.int 2)) I)
    (k7 : ¬ x < 97 → ¬ 122 < x → Q (some (.int 1)) I)
    : HGo E (mF E (d + 1) Q) me_X12_sort 0 [(0, .int x)] [] I := by
  refine h_iload_n dX12_sort_0 rfl 0 rfl ?_
  refine h_bipush (v := 97) dX12_sort_1 (by decide) ?_
  refine h_icmp_lt (tgt := 16) dX12_sort_3 (by decide) (fun c1 => ?_) (fun c1 => ?_)
  ·
    refine h_iload_n dX12_sort_16 rfl 0 rfl ?_
    refine h_bipush (v := 48) dX12_sort_17 (by decide) ?_
    refine h_icmp_lt (tgt := 32) dX12_sort_19 (by decide) (fun c2 => ?_) (fun c2 => ?_)
    ·
      refine h_iconst (v := 0) dX12_sort_32 (by decide) ?_
      exact h_iret dX12_sort_33 rfl (k1 c1 c2)
    ·
      refine h_iload_n dX12_sort_22 rfl 0 rfl ?_
      refine h_bipush (v := 57) dX12_sort_23 (by decide) ?_
      refine h_icmp_gt (tgt := 32) dX12_sort_25 (by decide) (fun c3 => ?_) (fun c3 => ?_)
      ·
        refine h_iconst (v := 0) dX12_sort_32 (by decide) ?_
        exact h_iret dX12_sort_33 rfl (k2 c1 c2 c3)
      ·
        refine h_iconst (v := 2) dX12_sort_28 (by decide) ?_
        refine h_goto (tgt := 33) dX12_sort_29 (by decide) ?_
        exact h_iret dX12_sort_33 rfl (k3 c1 c2 c3)
  ·
    refine h_iload_n dX12_sort_6 rfl 0 rfl ?_
    refine h_bipush (v := 122) dX12_sort_7 (by decide) ?_
    refine h_icmp_gt (tgt := 16) dX12_sort_9 (by decide) (fun c4 => ?_) (fun c4 => ?_)
    ·
      refine h_iload_n dX12_sort_16 rfl 0 rfl ?_
      refine h_bipush (v := 48) dX12_sort_17 (by decide) ?_
      refine h_icmp_lt (tgt := 32) dX12_sort_19 (by decide) (fun c5 => ?_) (fun c5 => ?_)
      ·
        refine h_iconst (v := 0) dX12_sort_32 (by decide) ?_
        exact h_iret dX12_sort_33 rfl (k4 c1 c4 c5)
      ·
        refine h_iload_n dX12_sort_22 rfl 0 rfl ?_
        refine h_bipush (v := 57) dX12_sort_23 (by decide) ?_
        refine h_icmp_gt (tgt := 32) dX12_sort_25 (by decide) (fun c6 => ?_) (fun c6 => ?_)
        ·
          refine h_iconst (v := 0) dX12_sort_32 (by decide) ?_
          exact h_iret dX12_sort_33 rfl (k5 c1 c4 c5 c6)
        ·
          refine h_iconst (v := 2) dX12_sort_28 (by decide) ?_
          refine h_goto (tgt := 33) dX12_sort_29 (by decide) ?_
          exact h_iret dX12_sort_33 rfl (k6 c1 c4 c5 c6)
    ·
      refine h_iconst (v := 1) dX12_sort_12 (by decide) ?_
      refine h_goto (tgt := 33) dX12_sort_13 (by decide) ?_
      exact h_iret dX12_sort_33 rfl (k7 c1 c4)
