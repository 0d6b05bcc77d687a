set_option maxHeartbeats 1000000 in
set_option maxRecDepth 4000 in
theorem sg_X12_begin_0 {E : HEn} {d : Nat} {Q : Option Value → HIh → Prop} {I : HIh} 
    (k1 : HGo E (mF E (d + 1) Q) me_X12_begin 2 [(0, .ref 87), (1, .int 0)] [] I)
    : HGo E (mF E (d + 1) Q) me_X12_begin 0 [(0, .ref 87)] [] I := by
  refine h_iconst (v := 0) dX12_begin_0 (by decide) ?_
  refine h_istore_n (L' := [(1, .int 0), (0, .ref 87)]) dX12_begin_1 rfl (by decide) rfl ?_
  refine h_pick [1, 0] [(0, .ref 87), (1, .int 0)] rfl ?_
  exact k1
set_option maxHeartbeats 1000000 in
set_option maxRecDepth 4000 in
theorem sg_X12_begin_2 {E : HEn} {d : Nat} {Q : Option Value → HIh → Prop} {I : HIh} {x1 : Int32}
    (k1 : 30 ≤ x1 → Q none (setI I 88 (upd (I 88) 30 0)))
    (k2 : ¬ 30 ≤ x1 → vp_in x1 30)
    (k3 : ¬ 30 ≤ x1 → vp_in x1 341)
    (k4 : ¬ 30 ≤ x1 → HGo E (mF E (d + 1) Q) me_X12_begin 2 [(0, .ref 87), (1, .int (x1 + 1))] [] (setI I 88 (upd (I 88) x1.toNatClampNeg (I 93 x1.toNatClampNeg))))
    : HGo E (mF E (d + 1) Q) me_X12_begin 2 [(0, .ref 87), (1, .int x1)] [] I := by
  refine h_iload_n dX12_begin_2 rfl 1 rfl ?_
  refine h_bipush (v := 30) dX12_begin_3 (by decide) ?_
  refine h_icmp_ge (tgt := 26) dX12_begin_5 (by decide) (fun c1 => ?_) (fun c1 => ?_)
  ·
    refine h_aload_n dX12_begin_26 rfl 0 rfl ?_
    refine gf_10_0 dX12_begin_27 hl_X12_7 nl_87 zk_87 zp_87_0 ?_
    refine h_bipush (v := 30) dX12_begin_30 (by decide) ?_
    refine h_iconst (v := 0) dX12_begin_32 (by decide) ?_
    refine h_iast dX12_begin_33 nl_88 zk_88 (vp_lit (by rw [zn_88]; decide)) ?_
    exact h_vret dX12_begin_34 rfl (k1 c1)
  ·
    refine h_aload_n dX12_begin_8 rfl 0 rfl ?_
    refine gf_10_0 dX12_begin_9 hl_X12_7 nl_87 zk_87 zp_87_0 ?_
    refine h_iload_n dX12_begin_12 rfl 1 rfl ?_
    refine h_aload_n dX12_begin_13 rfl 0 rfl ?_
    refine gf_10_8 dX12_begin_14 hl_X12_30 nl_87 zk_87 zp_87_8 ?_
    refine h_iload_n dX12_begin_17 rfl 1 rfl ?_
    refine h_iald dX12_begin_18 nl_93 zk_93 (by rw [zn_93]; exact k2 c1) ?_
    refine h_iast dX12_begin_19 nl_88 zk_88 (by rw [zn_88]; exact k3 c1) ?_
    refine h_iinc (v := (x1 + 1)) (L' := [(1, .int (x1 + 1)), (0, .ref 87)]) dX12_begin_20 1 rfl rfl (by decide) rfl ?_
    refine h_goto (tgt := 2) dX12_begin_23 (by decide) ?_
    refine h_pick [1, 0] [(0, .ref 87), (1, .int (x1 + 1))] rfl ?_
    exact k4 c1
set_option maxHeartbeats 1000000 in
set_option maxRecDepth 4000 in
theorem sg_X12_write_0 {E : HEn} {d : Nat} {Q : Option Value → HIh → Prop} {I : HIh} {a : Int64} {b : Int32}
    (k1 : (1 : Int64) ≤ b.toInt64 → (b.toInt64 : Int64) ≤ 8 → ((I 87 3) + b) ≤ 200 → HGo E (mF E (d + 2) Q) me_X12_write 33 [(0, .ref 87), (1, .long a), (3, .int b), (4, .int 0)] [] I)
    (k2 : (1 : Int64) ≤ b.toInt64 → (b.toInt64 : Int64) ≤ 8 → ¬ ((I 87 3) + b) ≤ 200 → Q (some (.int (-5))) I)
    (k3 : ¬ ((1 : Int64) ≤ b.toInt64 ∧ (b.toInt64 : Int64) ≤ 8) → Q (some (.int (-3))) I)
    : HGo E (mF E (d + 2) Q) me_X12_write 0 [(0, .ref 87), (1, .long a), (3, .int b)] [] I := by
  refine h_iload_n dX12_write_0 rfl 2 rfl ?_
  refine h_i2l dX12_write_1 ?_
  refine h_lconst (v := 1) dX12_write_2 (by decide) ?_
  refine h_ldc2 dX12_write_3 wt_903 rfl ?_
  refine h_invS (As := [.long b.toInt64, .long 1, .long 8]) (st := []) dX12_write_6 lk_X12_62 (h_room (by decide)) rfl rfl (Nat.le_of_ble_eq_true rfl) ?_
  refine c_X12_in (fun c1 c2 => ?_) (fun c3 => ?_)
  ·
    refine h_if_ne (tgt := 15) dX12_write_9 (by decide) (fun _ => ?_) (fun c => absurd c (by decide))
    refine h_aload_n dX12_write_15 rfl 0 rfl ?_
    refine gf_10_3 dX12_write_16 hl_X12_66 nl_87 zk_87 ?_
    refine h_iload_n dX12_write_19 rfl 2 rfl ?_
    refine h_iadd dX12_write_20 ?_
    refine h_sipush (v := 200) dX12_write_21 (by decide) ?_
    refine h_icmp_le (tgt := 30) dX12_write_24 (by decide) (fun c4 => ?_) (fun c4 => ?_)
    ·
      refine h_iconst (v := 0) dX12_write_30 (by decide) ?_
      refine h_istore (L' := [(4, .int 0), (0, .ref 87), (1, .long a), (3, .int b)]) dX12_write_31 (by decide) rfl ?_
      refine h_pick [1, 2, 3, 0] [(0, .ref 87), (1, .long a), (3, .int b), (4, .int 0)] rfl ?_
      exact k1 c1 c2 c4
    ·
      refine h_bipush (v := (-5)) dX12_write_27 (by decide) ?_
      exact h_iret dX12_write_29 rfl (k2 c1 c2 c4)
  ·
    refine h_if_ne (tgt := 15) dX12_write_9 (by decide) (fun c => absurd c (by decide)) (fun _ => ?_)
    refine h_bipush (v := (-3)) dX12_write_12 (by decide) ?_
    exact h_iret dX12_write_14 rfl (k3 c3)
set_option maxHeartbeats 1000000 in
set_option maxRecDepth 4000 in
theorem sg_X12_write_33 {E : HEn} {d : Nat} {Q : Option Value → HIh → Prop} {I : HIh} {x1 : Int64} {x3 : Int32} {x4 : Int32}
    (k1 : x3 ≤ x4 → Q (some (.int (I 87 3))) I)
    (k2 : ¬ x3 ≤ x4 → vp_in (I 87 3) 200)
    (k3 : ¬ x3 ≤ x4 → HGo E (mF E (d + 2) Q) me_X12_write 33 [(0, .ref 87), (1, .long x1), (3, .int x3), (4, .int (x4 + 1))] [] (setI (setI I 90 (upd (I 90) (I 87 3).toNatClampNeg (((x1 >>> ((8 * x4).toInt64 &&& 63)) &&& 255).toInt32))) 87 (upd ((setI I 90 (upd (I 90) (I 87 3).toNatClampNeg (((x1 >>> ((8 * x4).toInt64 &&& 63)) &&& 255).toInt32))) 87) 3 (((setI I 90 (upd (I 90) (I 87 3).toNatClampNeg (((x1 >>> ((8 * x4).toInt64 &&& 63)) &&& 255).toInt32))) 87 3) + 1))))
    : HGo E (mF E (d + 2) Q) me_X12_write 33 [(0, .ref 87), (1, .long x1), (3, .int x3), (4, .int x4)] [] I := by
  refine h_iload dX12_write_33 3 rfl ?_
  refine h_iload_n dX12_write_35 rfl 2 rfl ?_
  refine h_icmp_ge (tgt := 76) dX12_write_36 (by decide) (fun c1 => ?_) (fun c1 => ?_)
  ·
    refine h_aload_n dX12_write_76 rfl 0 rfl ?_
    refine gf_10_3 dX12_write_77 hl_X12_66 nl_87 zk_87 ?_
    exact h_iret dX12_write_80 rfl (k1 c1)
  ·
    refine h_aload_n dX12_write_39 rfl 0 rfl ?_
    refine gf_10_2 dX12_write_40 hl_X12_17 nl_87 zk_87 zp_87_2 ?_
    refine h_aload_n dX12_write_43 rfl 0 rfl ?_
    refine gf_10_3 dX12_write_44 hl_X12_66 nl_87 zk_87 ?_
    refine h_lload_n dX12_write_47 rfl 1 rfl ?_
    refine h_bipush (v := 8) dX12_write_48 (by decide) ?_
    refine h_iload dX12_write_50 3 rfl ?_
    refine h_imul dX12_write_52 ?_
    refine h_lshr dX12_write_53 ?_
    refine h_ldc2 dX12_write_54 wt_907 rfl ?_
    refine h_land dX12_write_57 ?_
    refine h_l2i dX12_write_58 ?_
    refine h_iast dX12_write_59 nl_90 zk_90 (by rw [zn_90]; exact k2 c1) ?_
    refine h_aload_n dX12_write_60 rfl 0 rfl ?_
    refine h_dup dX12_write_61 rfl ?_
    refine gf_10_3 dX12_write_62 hl_X12_66 nl_87 zk_87 ?_
    refine h_iconst (v := 1) dX12_write_65 (by decide) ?_
    refine h_iadd dX12_write_66 ?_
    refine pf_10_3 dX12_write_67 hl_X12_66 nl_87 zk_87 ?_
    refine h_iinc (v := (x4 + 1)) (L' := [(4, .int (x4 + 1)), (0, .ref 87), (1, .long x1), (3, .int x3)]) dX12_write_70 3 rfl rfl (by decide) rfl ?_
    refine h_goto (tgt := 33) dX12_write_73 (by decide) ?_
    refine h_pick [1, 2, 3, 0] [(0, .ref 87), (1, .long x1), (3, .int x3), (4, .int (x4 + 1))] rfl ?_
    exact k3 c1
set_option maxHeartbeats 1000000 in
set_option maxRecDepth 4000 in
theorem sg_X12_erase_0 {E : HEn} {d : Nat} {Q : Option Value → HIh → Prop} {I : HIh} 
    (k1 : Q (some (.int (I 87 3))) (setI I 87 (upd (I 87) 3 0)))
    : HGo E (mF E (d + 1) Q) me_X12_erase 0 [(0, .ref 87)] [] I := by
  refine h_aload_n dX12_erase_0 rfl 0 rfl ?_
  refine gf_10_3 dX12_erase_1 hl_X12_66 nl_87 zk_87 ?_
  refine h_istore_n (L' := [(1, .int (I 87 3)), (0, .ref 87)]) dX12_erase_4 rfl (by decide) rfl ?_
  refine h_aload_n dX12_erase_5 rfl 1 rfl ?_
  refine h_iconst (v := 0) dX12_erase_6 (by decide) ?_
  refine pf_10_3 dX12_erase_7 hl_X12_66 nl_87 zk_87 ?_
  refine h_iload_n dX12_erase_10 rfl 0 rfl ?_
  exact h_iret dX12_erase_11 rfl (k1)
set_option maxHeartbeats 1000000 in
set_option maxRecDepth 4000 in
theorem sg_X12_token_0 {E : HEn} {d : Nat} {Q : Option Value → HIh → Prop} {I : HIh} 
    (k1 : (I 87 3) ≤ (I 87 14) → ((setI I 87 (upd (I 87) 15 (I 87 14))) 87 3) ≤ ((setI I 87 (upd (I 87) 15 (I 87 14))) 87 14) → HGo E (mF E (d + 2) Q) me_X12_token 71 [(0, .ref 87)] [] (setI (setI I 87 (upd (I 87) 15 (I 87 14))) 87 (upd ((setI I 87 (upd (I 87) 15 (I 87 14))) 87) 14 (((setI I 87 (upd (I 87) 15 (I 87 14))) 87 14) + 0))))
    (k2 : (I 87 3) ≤ (I 87 14) → ¬ ((setI I 87 (upd (I 87) 15 (I 87 14))) 87 3) ≤ ((setI I 87 (upd (I 87) 15 (I 87 14))) 87 14) → HGo E (mF E (d + 2) Q) me_X12_token 71 [(0, .ref 87)] [] (setI (setI I 87 (upd (I 87) 15 (I 87 14))) 87 (upd ((setI I 87 (upd (I 87) 15 (I 87 14))) 87) 14 (((setI I 87 (upd (I 87) 15 (I 87 14))) 87 14) + 1))))
    (k3 : ¬ (I 87 3) ≤ (I 87 14) → vp_in (I 87 14) 200)
    (k4 : ¬ (I 87 3) ≤ (I 87 14) → ¬ (I 90 (I 87 14).toNatClampNeg) = 32 → ((setI I 87 (upd (I 87) 15 (I 87 14))) 87 3) ≤ ((setI I 87 (upd (I 87) 15 (I 87 14))) 87 14) → HGo E (mF E (d + 2) Q) me_X12_token 71 [(0, .ref 87)] [] (setI (setI I 87 (upd (I 87) 15 (I 87 14))) 87 (upd ((setI I 87 (upd (I 87) 15 (I 87 14))) 87) 14 (((setI I 87 (upd (I 87) 15 (I 87 14))) 87 14) + 0))))
    (k5 : ¬ (I 87 3) ≤ (I 87 14) → ¬ (I 90 (I 87 14).toNatClampNeg) = 32 → ¬ ((setI I 87 (upd (I 87) 15 (I 87 14))) 87 3) ≤ ((setI I 87 (upd (I 87) 15 (I 87 14))) 87 14) → HGo E (mF E (d + 2) Q) me_X12_token 71 [(0, .ref 87)] [] (setI (setI I 87 (upd (I 87) 15 (I 87 14))) 87 (upd ((setI I 87 (upd (I 87) 15 (I 87 14))) 87) 14 (((setI I 87 (upd (I 87) 15 (I 87 14))) 87 14) + 1))))
    (k6 : ¬ (I 87 3) ≤ (I 87 14) → (I 90 (I 87 14).toNatClampNeg) = 32 → HGo E (mF E (d + 2) Q) me_X12_token 0 [(0, .ref 87)] [] (setI I 87 (upd (I 87) 14 ((I 87 14) + 1))))
    : HGo E (mF E (d + 2) Q) me_X12_token 0 [(0, .ref 87)] [] I := by
  refine h_aload_n dX12_token_0 rfl 0 rfl ?_
  refine gf_10_14 dX12_token_1 hl_X12_71 nl_87 zk_87 ?_
  refine h_aload_n dX12_token_4 rfl 0 rfl ?_
  refine gf_10_3 dX12_token_5 hl_X12_66 nl_87 zk_87 ?_
  refine h_icmp_ge (tgt := 38) dX12_token_8 (by decide) (fun c1 => ?_) (fun c1 => ?_)
  ·
    refine h_aload_n dX12_token_38 rfl 0 rfl ?_
    refine h_aload_n dX12_token_39 rfl 0 rfl ?_
    refine gf_10_14 dX12_token_40 hl_X12_71 nl_87 zk_87 ?_
    refine pf_10_15 dX12_token_43 hl_X12_74 nl_87 zk_87 ?_
    refine h_aload_n dX12_token_46 rfl 0 rfl ?_
    refine h_dup dX12_token_47 rfl ?_
    refine gf_10_14 dX12_token_48 hl_X12_71 nl_87 zk_87 ?_
    refine h_aload_n dX12_token_51 rfl 0 rfl ?_
    refine gf_10_14 dX12_token_52 hl_X12_71 nl_87 zk_87 ?_
    refine h_aload_n dX12_token_55 rfl 0 rfl ?_
    refine gf_10_3 dX12_token_56 hl_X12_66 nl_87 zk_87 ?_
    refine h_icmp_ge (tgt := 66) dX12_token_59 (by decide) (fun c2 => ?_) (fun c2 => ?_)
    ·
      refine h_iconst (v := 0) dX12_token_66 (by decide) ?_
      refine h_iadd dX12_token_67 ?_
      refine pf_10_14 dX12_token_68 hl_X12_71 nl_87 zk_87 ?_
      exact k1 c1 c2
    ·
      refine h_iconst (v := 1) dX12_token_62 (by decide) ?_
      refine h_goto (tgt := 67) dX12_token_63 (by decide) ?_
      refine h_iadd dX12_token_67 ?_
      refine pf_10_14 dX12_token_68 hl_X12_71 nl_87 zk_87 ?_
      exact k2 c1 c2
  ·
    refine h_aload_n dX12_token_11 rfl 0 rfl ?_
    refine gf_10_2 dX12_token_12 hl_X12_17 nl_87 zk_87 zp_87_2 ?_
    refine h_aload_n dX12_token_15 rfl 0 rfl ?_
    refine gf_10_14 dX12_token_16 hl_X12_71 nl_87 zk_87 ?_
    refine h_iald dX12_token_19 nl_90 zk_90 (by rw [zn_90]; exact k3 c1) ?_
    refine h_bipush (v := 32) dX12_token_20 (by decide) ?_
    refine h_icmp_ne (tgt := 38) dX12_token_22 (by decide) (fun c3 => ?_) (fun c3 => ?_)
    ·
      refine h_aload_n dX12_token_38 rfl 0 rfl ?_
      refine h_aload_n dX12_token_39 rfl 0 rfl ?_
      refine gf_10_14 dX12_token_40 hl_X12_71 nl_87 zk_87 ?_
      refine pf_10_15 dX12_token_43 hl_X12_74 nl_87 zk_87 ?_
      refine h_aload_n dX12_token_46 rfl 0 rfl ?_
      refine h_dup dX12_token_47 rfl ?_
      refine gf_10_14 dX12_token_48 hl_X12_71 nl_87 zk_87 ?_
      refine h_aload_n dX12_token_51 rfl 0 rfl ?_
      refine gf_10_14 dX12_token_52 hl_X12_71 nl_87 zk_87 ?_
      refine h_aload_n dX12_token_55 rfl 0 rfl ?_
      refine gf_10_3 dX12_token_56 hl_X12_66 nl_87 zk_87 ?_
      refine h_icmp_ge (tgt := 66) dX12_token_59 (by decide) (fun c4 => ?_) (fun c4 => ?_)
      ·
        refine h_iconst (v := 0) dX12_token_66 (by decide) ?_
        refine h_iadd dX12_token_67 ?_
        refine pf_10_14 dX12_token_68 hl_X12_71 nl_87 zk_87 ?_
        exact k4 c1 c3 c4
      ·
        refine h_iconst (v := 1) dX12_token_62 (by decide) ?_
        refine h_goto (tgt := 67) dX12_token_63 (by decide) ?_
        refine h_iadd dX12_token_67 ?_
        refine pf_10_14 dX12_token_68 hl_X12_71 nl_87 zk_87 ?_
        exact k5 c1 c3 c4
    ·
      refine h_aload_n dX12_token_25 rfl 0 rfl ?_
      refine h_dup dX12_token_26 rfl ?_
      refine gf_10_14 dX12_token_27 hl_X12_71 nl_87 zk_87 ?_
      refine h_iconst (v := 1) dX12_token_30 (by decide) ?_
      refine h_iadd dX12_token_31 ?_
      refine pf_10_14 dX12_token_32 hl_X12_71 nl_87 zk_87 ?_
      refine h_goto (tgt := 0) dX12_token_35 (by decide) ?_
      exact k6 c1 c3
set_option maxHeartbeats 1000000 in
set_option maxRecDepth 4000 in
theorem sg_X12_token_71 {E : HEn} {d : Nat} {Q : Option Value → HIh → Prop} {I : HIh} 
    (k1 : (I 87 3) ≤ (I 87 14) → Q none (setI I 87 (upd (I 87) 16 (I 87 14))))
    (k2 : ¬ (I 87 3) ≤ (I 87 14) → vp_in (I 87 15) 200)
    (k3 : ¬ (I 87 3) ≤ (I 87 14) → 97 ≤ (I 90 (I 87 15).toNatClampNeg) ∧ (I 90 (I 87 15).toNatClampNeg) ≤ 122 → vp_in (I 87 14) 200)
    (k4 : ¬ (I 87 3) ≤ (I 87 14) → 97 ≤ (I 90 (I 87 15).toNatClampNeg) ∧ (I 90 (I 87 15).toNatClampNeg) ≤ 122 → 97 ≤ (I 90 (I 87 14).toNatClampNeg) ∧ (I 90 (I 87 14).toNatClampNeg) ≤ 122 → vp_in (I 87 15) 200)
    (k5 : ¬ (I 87 3) ≤ (I 87 14) → 97 ≤ (I 90 (I 87 15).toNatClampNeg) ∧ (I 90 (I 87 15).toNatClampNeg) ≤ 122 → 97 ≤ (I 90 (I 87 14).toNatClampNeg) ∧ (I 90 (I 87 14).toNatClampNeg) ≤ 122 → 97 ≤ (I 90 (I 87 15).toNatClampNeg) ∧ (I 90 (I 87 15).toNatClampNeg) ≤ 122 → HGo E (mF E (d + 2) Q) me_X12_token 71 [(0, .ref 87)] [] (setI I 87 (upd (I 87) 14 ((I 87 14) + 1))))
    (k6 : ¬ (I 87 3) ≤ (I 87 14) → 97 ≤ (I 90 (I 87 15).toNatClampNeg) ∧ (I 90 (I 87 15).toNatClampNeg) ≤ 122 → 97 ≤ (I 90 (I 87 14).toNatClampNeg) ∧ (I 90 (I 87 14).toNatClampNeg) ≤ 122 → 48 ≤ (I 90 (I 87 15).toNatClampNeg) ∧ (I 90 (I 87 15).toNatClampNeg) ≤ 57 → Q none (setI I 87 (upd (I 87) 16 (I 87 14))))
    (k7 : ¬ (I 87 3) ≤ (I 87 14) → 97 ≤ (I 90 (I 87 15).toNatClampNeg) ∧ (I 90 (I 87 15).toNatClampNeg) ≤ 122 → 97 ≤ (I 90 (I 87 14).toNatClampNeg) ∧ (I 90 (I 87 14).toNatClampNeg) ≤ 122 → ¬ (97 ≤ (I 90 (I 87 15).toNatClampNeg) ∧ (I 90 (I 87 15).toNatClampNeg) ≤ 122) → ¬ (48 ≤ (I 90 (I 87 15).toNatClampNeg) ∧ (I 90 (I 87 15).toNatClampNeg) ≤ 57) → Q none (setI I 87 (upd (I 87) 16 (I 87 14))))
    (k8 : ¬ (I 87 3) ≤ (I 87 14) → 97 ≤ (I 90 (I 87 15).toNatClampNeg) ∧ (I 90 (I 87 15).toNatClampNeg) ≤ 122 → 48 ≤ (I 90 (I 87 14).toNatClampNeg) ∧ (I 90 (I 87 14).toNatClampNeg) ≤ 57 → vp_in (I 87 15) 200)
    (k9 : ¬ (I 87 3) ≤ (I 87 14) → 97 ≤ (I 90 (I 87 15).toNatClampNeg) ∧ (I 90 (I 87 15).toNatClampNeg) ≤ 122 → 48 ≤ (I 90 (I 87 14).toNatClampNeg) ∧ (I 90 (I 87 14).toNatClampNeg) ≤ 57 → 97 ≤ (I 90 (I 87 15).toNatClampNeg) ∧ (I 90 (I 87 15).toNatClampNeg) ≤ 122 → Q none (setI I 87 (upd (I 87) 16 (I 87 14))))
    (k10 : ¬ (I 87 3) ≤ (I 87 14) → 97 ≤ (I 90 (I 87 15).toNatClampNeg) ∧ (I 90 (I 87 15).toNatClampNeg) ≤ 122 → 48 ≤ (I 90 (I 87 14).toNatClampNeg) ∧ (I 90 (I 87 14).toNatClampNeg) ≤ 57 → 48 ≤ (I 90 (I 87 15).toNatClampNeg) ∧ (I 90 (I 87 15).toNatClampNeg) ≤ 57 → HGo E (mF E (d + 2) Q) me_X12_token 71 [(0, .ref 87)] [] (setI I 87 (upd (I 87) 14 ((I 87 14) + 1))))
    (k11 : ¬ (I 87 3) ≤ (I 87 14) → 97 ≤ (I 90 (I 87 15).toNatClampNeg) ∧ (I 90 (I 87 15).toNatClampNeg) ≤ 122 → 48 ≤ (I 90 (I 87 14).toNatClampNeg) ∧ (I 90 (I 87 14).toNatClampNeg) ≤ 57 → ¬ (97 ≤ (I 90 (I 87 15).toNatClampNeg) ∧ (I 90 (I 87 15).toNatClampNeg) ≤ 122) → ¬ (48 ≤ (I 90 (I 87 15).toNatClampNeg) ∧ (I 90 (I 87 15).toNatClampNeg) ≤ 57) → Q none (setI I 87 (upd (I 87) 16 (I 87 14))))
    (k12 : ¬ (I 87 3) ≤ (I 87 14) → 97 ≤ (I 90 (I 87 15).toNatClampNeg) ∧ (I 90 (I 87 15).toNatClampNeg) ≤ 122 → ¬ (97 ≤ (I 90 (I 87 14).toNatClampNeg) ∧ (I 90 (I 87 14).toNatClampNeg) ≤ 122) → ¬ (48 ≤ (I 90 (I 87 14).toNatClampNeg) ∧ (I 90 (I 87 14).toNatClampNeg) ≤ 57) → vp_in (I 87 15) 200)
    (k13 : ¬ (I 87 3) ≤ (I 87 14) → 97 ≤ (I 90 (I 87 15).toNatClampNeg) ∧ (I 90 (I 87 15).toNatClampNeg) ≤ 122 → ¬ (97 ≤ (I 90 (I 87 14).toNatClampNeg) ∧ (I 90 (I 87 14).toNatClampNeg) ≤ 122) → ¬ (48 ≤ (I 90 (I 87 14).toNatClampNeg) ∧ (I 90 (I 87 14).toNatClampNeg) ≤ 57) → 97 ≤ (I 90 (I 87 15).toNatClampNeg) ∧ (I 90 (I 87 15).toNatClampNeg) ≤ 122 → Q none (setI I 87 (upd (I 87) 16 (I 87 14))))
    (k14 : ¬ (I 87 3) ≤ (I 87 14) → 97 ≤ (I 90 (I 87 15).toNatClampNeg) ∧ (I 90 (I 87 15).toNatClampNeg) ≤ 122 → ¬ (97 ≤ (I 90 (I 87 14).toNatClampNeg) ∧ (I 90 (I 87 14).toNatClampNeg) ≤ 122) → ¬ (48 ≤ (I 90 (I 87 14).toNatClampNeg) ∧ (I 90 (I 87 14).toNatClampNeg) ≤ 57) → 48 ≤ (I 90 (I 87 15).toNatClampNeg) ∧ (I 90 (I 87 15).toNatClampNeg) ≤ 57 → Q none (setI I 87 (upd (I 87) 16 (I 87 14))))
    (k15 : ¬ (I 87 3) ≤ (I 87 14) → 97 ≤ (I 90 (I 87 15).toNatClampNeg) ∧ (I 90 (I 87 15).toNatClampNeg) ≤ 122 → ¬ (97 ≤ (I 90 (I 87 14).toNatClampNeg) ∧ (I 90 (I 87 14).toNatClampNeg) ≤ 122) → ¬ (48 ≤ (I 90 (I 87 14).toNatClampNeg) ∧ (I 90 (I 87 14).toNatClampNeg) ≤ 57) → ¬ (97 ≤ (I 90 (I 87 15).toNatClampNeg) ∧ (I 90 (I 87 15).toNatClampNeg) ≤ 122) → ¬ (48 ≤ (I 90 (I 87 15).toNatClampNeg) ∧ (I 90 (I 87 15).toNatClampNeg) ≤ 57) → HGo E (mF E (d + 2) Q) me_X12_token 71 [(0, .ref 87)] [] (setI I 87 (upd (I 87) 14 ((I 87 14) + 1))))
    (k16 : ¬ (I 87 3) ≤ (I 87 14) → 48 ≤ (I 90 (I 87 15).toNatClampNeg) ∧ (I 90 (I 87 15).toNatClampNeg) ≤ 57 → vp_in (I 87 14) 200)
    (k17 : ¬ (I 87 3) ≤ (I 87 14) → 48 ≤ (I 90 (I 87 15).toNatClampNeg) ∧ (I 90 (I 87 15).toNatClampNeg) ≤ 57 → 97 ≤ (I 90 (I 87 14).toNatClampNeg) ∧ (I 90 (I 87 14).toNatClampNeg) ≤ 122 → vp_in (I 87 15) 200)
    (k18 : ¬ (I 87 3) ≤ (I 87 14) → 48 ≤ (I 90 (I 87 15).toNatClampNeg) ∧ (I 90 (I 87 15).toNatClampNeg) ≤ 57 → 97 ≤ (I 90 (I 87 14).toNatClampNeg) ∧ (I 90 (I 87 14).toNatClampNeg) ≤ 122 → 97 ≤ (I 90 (I 87 15).toNatClampNeg) ∧ (I 90 (I 87 15).toNatClampNeg) ≤ 122 → HGo E (mF E (d + 2) Q) me_X12_token 71 [(0, .ref 87)] [] (setI I 87 (upd (I 87) 14 ((I 87 14) + 1))))
    (k19 : ¬ (I 87 3) ≤ (I 87 14) → 48 ≤ (I 90 (I 87 15).toNatClampNeg) ∧ (I 90 (I 87 15).toNatClampNeg) ≤ 57 → 97 ≤ (I 90 (I 87 14).toNatClampNeg) ∧ (I 90 (I 87 14).toNatClampNeg) ≤ 122 → 48 ≤ (I 90 (I 87 15).toNatClampNeg) ∧ (I 90 (I 87 15).toNatClampNeg) ≤ 57 → Q none (setI I 87 (upd (I 87) 16 (I 87 14))))
    (k20 : ¬ (I 87 3) ≤ (I 87 14) → 48 ≤ (I 90 (I 87 15).toNatClampNeg) ∧ (I 90 (I 87 15).toNatClampNeg) ≤ 57 → 97 ≤ (I 90 (I 87 14).toNatClampNeg) ∧ (I 90 (I 87 14).toNatClampNeg) ≤ 122 → ¬ (97 ≤ (I 90 (I 87 15).toNatClampNeg) ∧ (I 90 (I 87 15).toNatClampNeg) ≤ 122) → ¬ (48 ≤ (I 90 (I 87 15).toNatClampNeg) ∧ (I 90 (I 87 15).toNatClampNeg) ≤ 57) → Q none (setI I 87 (upd (I 87) 16 (I 87 14))))
    (k21 : ¬ (I 87 3) ≤ (I 87 14) → 48 ≤ (I 90 (I 87 15).toNatClampNeg) ∧ (I 90 (I 87 15).toNatClampNeg) ≤ 57 → 48 ≤ (I 90 (I 87 14).toNatClampNeg) ∧ (I 90 (I 87 14).toNatClampNeg) ≤ 57 → vp_in (I 87 15) 200)
    (k22 : ¬ (I 87 3) ≤ (I 87 14) → 48 ≤ (I 90 (I 87 15).toNatClampNeg) ∧ (I 90 (I 87 15).toNatClampNeg) ≤ 57 → 48 ≤ (I 90 (I 87 14).toNatClampNeg) ∧ (I 90 (I 87 14).toNatClampNeg) ≤ 57 → 97 ≤ (I 90 (I 87 15).toNatClampNeg) ∧ (I 90 (I 87 15).toNatClampNeg) ≤ 122 → Q none (setI I 87 (upd (I 87) 16 (I 87 14))))
    (k23 : ¬ (I 87 3) ≤ (I 87 14) → 48 ≤ (I 90 (I 87 15).toNatClampNeg) ∧ (I 90 (I 87 15).toNatClampNeg) ≤ 57 → 48 ≤ (I 90 (I 87 14).toNatClampNeg) ∧ (I 90 (I 87 14).toNatClampNeg) ≤ 57 → 48 ≤ (I 90 (I 87 15).toNatClampNeg) ∧ (I 90 (I 87 15).toNatClampNeg) ≤ 57 → HGo E (mF E (d + 2) Q) me_X12_token 71 [(0, .ref 87)] [] (setI I 87 (upd (I 87) 14 ((I 87 14) + 1))))
    (k24 : ¬ (I 87 3) ≤ (I 87 14) → 48 ≤ (I 90 (I 87 15).toNatClampNeg) ∧ (I 90 (I 87 15).toNatClampNeg) ≤ 57 → 48 ≤ (I 90 (I 87 14).toNatClampNeg) ∧ (I 90 (I 87 14).toNatClampNeg) ≤ 57 → ¬ (97 ≤ (I 90 (I 87 15).toNatClampNeg) ∧ (I 90 (I 87 15).toNatClampNeg) ≤ 122) → ¬ (48 ≤ (I 90 (I 87 15).toNatClampNeg) ∧ (I 90 (I 87 15).toNatClampNeg) ≤ 57) → Q none (setI I 87 (upd (I 87) 16 (I 87 14))))
    (k25 : ¬ (I 87 3) ≤ (I 87 14) → 48 ≤ (I 90 (I 87 15).toNatClampNeg) ∧ (I 90 (I 87 15).toNatClampNeg) ≤ 57 → ¬ (97 ≤ (I 90 (I 87 14).toNatClampNeg) ∧ (I 90 (I 87 14).toNatClampNeg) ≤ 122) → ¬ (48 ≤ (I 90 (I 87 14).toNatClampNeg) ∧ (I 90 (I 87 14).toNatClampNeg) ≤ 57) → vp_in (I 87 15) 200)
    (k26 : ¬ (I 87 3) ≤ (I 87 14) → 48 ≤ (I 90 (I 87 15).toNatClampNeg) ∧ (I 90 (I 87 15).toNatClampNeg) ≤ 57 → ¬ (97 ≤ (I 90 (I 87 14).toNatClampNeg) ∧ (I 90 (I 87 14).toNatClampNeg) ≤ 122) → ¬ (48 ≤ (I 90 (I 87 14).toNatClampNeg) ∧ (I 90 (I 87 14).toNatClampNeg) ≤ 57) → 97 ≤ (I 90 (I 87 15).toNatClampNeg) ∧ (I 90 (I 87 15).toNatClampNeg) ≤ 122 → Q none (setI I 87 (upd (I 87) 16 (I 87 14))))
    (k27 : ¬ (I 87 3) ≤ (I 87 14) → 48 ≤ (I 90 (I 87 15).toNatClampNeg) ∧ (I 90 (I 87 15).toNatClampNeg) ≤ 57 → ¬ (97 ≤ (I 90 (I 87 14).toNatClampNeg) ∧ (I 90 (I 87 14).toNatClampNeg) ≤ 122) → ¬ (48 ≤ (I 90 (I 87 14).toNatClampNeg) ∧ (I 90 (I 87 14).toNatClampNeg) ≤ 57) → 48 ≤ (I 90 (I 87 15).toNatClampNeg) ∧ (I 90 (I 87 15).toNatClampNeg) ≤ 57 → Q none (setI I 87 (upd (I 87) 16 (I 87 14))))
    (k28 : ¬ (I 87 3) ≤ (I 87 14) → 48 ≤ (I 90 (I 87 15).toNatClampNeg) ∧ (I 90 (I 87 15).toNatClampNeg) ≤ 57 → ¬ (97 ≤ (I 90 (I 87 14).toNatClampNeg) ∧ (I 90 (I 87 14).toNatClampNeg) ≤ 122) → ¬ (48 ≤ (I 90 (I 87 14).toNatClampNeg) ∧ (I 90 (I 87 14).toNatClampNeg) ≤ 57) → ¬ (97 ≤ (I 90 (I 87 15).toNatClampNeg) ∧ (I 90 (I 87 15).toNatClampNeg) ≤ 122) → ¬ (48 ≤ (I 90 (I 87 15).toNatClampNeg) ∧ (I 90 (I 87 15).toNatClampNeg) ≤ 57) → HGo E (mF E (d + 2) Q) me_X12_token 71 [(0, .ref 87)] [] (setI I 87 (upd (I 87) 14 ((I 87 14) + 1))))
    (k29 : ¬ (I 87 3) ≤ (I 87 14) → ¬ (97 ≤ (I 90 (I 87 15).toNatClampNeg) ∧ (I 90 (I 87 15).toNatClampNeg) ≤ 122) → ¬ (48 ≤ (I 90 (I 87 15).toNatClampNeg) ∧ (I 90 (I 87 15).toNatClampNeg) ≤ 57) → Q none (setI I 87 (upd (I 87) 16 (I 87 14))))
    : HGo E (mF E (d + 2) Q) me_X12_token 71 [(0, .ref 87)] [] I := by
  refine h_aload_n dX12_token_71 rfl 0 rfl ?_
  refine gf_10_14 dX12_token_72 hl_X12_71 nl_87 zk_87 ?_
  refine h_aload_n dX12_token_75 rfl 0 rfl ?_
  refine gf_10_3 dX12_token_76 hl_X12_66 nl_87 zk_87 ?_
  refine h_icmp_ge (tgt := 137) dX12_token_79 (by decide) (fun c1 => ?_) (fun c1 => ?_)
  ·
    refine h_aload_n dX12_token_137 rfl 0 rfl ?_
    refine h_aload_n dX12_token_138 rfl 0 rfl ?_
    refine gf_10_14 dX12_token_139 hl_X12_71 nl_87 zk_87 ?_
    refine pf_10_16 dX12_token_142 hl_X12_81 nl_87 zk_87 ?_
    exact h_vret dX12_token_145 rfl (k1 c1)
  ·
    refine h_aload_n dX12_token_82 rfl 0 rfl ?_
    refine gf_10_2 dX12_token_83 hl_X12_17 nl_87 zk_87 zp_87_2 ?_
    refine h_aload_n dX12_token_86 rfl 0 rfl ?_
    refine gf_10_15 dX12_token_87 hl_X12_74 nl_87 zk_87 ?_
    refine h_iald dX12_token_90 nl_90 zk_90 (by rw [zn_90]; exact k2 c1) ?_
    refine h_invS (As := [.int (I 90 (I 87 15).toNatClampNeg)]) (st := []) dX12_token_91 lk_X12_77 (h_room (by decide)) rfl rfl (Nat.le_of_ble_eq_true rfl) ?_
    refine c_X12_sort (fun c2 => ?_) (fun c3 => ?_) (fun c4 c5 => ?_)
    ·
      refine h_if_le (tgt := 137) dX12_token_94 (by decide) (fun c => absurd c (by decide)) (fun _ => ?_)
      refine h_aload_n dX12_token_97 rfl 0 rfl ?_
      refine gf_10_2 dX12_token_98 hl_X12_17 nl_87 zk_87 zp_87_2 ?_
      refine h_aload_n dX12_token_101 rfl 0 rfl ?_
      refine gf_10_14 dX12_token_102 hl_X12_71 nl_87 zk_87 ?_
      refine h_iald dX12_token_105 nl_90 zk_90 (by rw [zn_90]; exact k3 c1 c2) ?_
      refine h_invS (As := [.int (I 90 (I 87 14).toNatClampNeg)]) (st := []) dX12_token_106 lk_X12_77 (h_room (by decide)) rfl rfl (Nat.le_of_ble_eq_true rfl) ?_
      refine c_X12_sort (fun c6 => ?_) (fun c7 => ?_) (fun c8 c9 => ?_)
      ·
        refine h_aload_n dX12_token_109 rfl 0 rfl ?_
        refine gf_10_2 dX12_token_110 hl_X12_17 nl_87 zk_87 zp_87_2 ?_
        refine h_aload_n dX12_token_113 rfl 0 rfl ?_
        refine gf_10_15 dX12_token_114 hl_X12_74 nl_87 zk_87 ?_
        refine h_iald dX12_token_117 nl_90 zk_90 (by rw [zn_90]; exact k4 c1 c2 c6) ?_
        refine h_invS (As := [.int (I 90 (I 87 15).toNatClampNeg)]) (st := [.int 1]) dX12_token_118 lk_X12_77 (h_room (by decide)) rfl rfl (Nat.le_of_ble_eq_true rfl) ?_
        refine c_X12_sort (fun c10 => ?_) (fun c11 => ?_) (fun c12 c13 => ?_)
        ·
          refine h_icmp_ne (tgt := 137) dX12_token_121 (by decide) (fun c => absurd c (by decide)) (fun _ => ?_)
          refine h_aload_n dX12_token_124 rfl 0 rfl ?_
          refine h_dup dX12_token_125 rfl ?_
          refine gf_10_14 dX12_token_126 hl_X12_71 nl_87 zk_87 ?_
          refine h_iconst (v := 1) dX12_token_129 (by decide) ?_
          refine h_iadd dX12_token_130 ?_
          refine pf_10_14 dX12_token_131 hl_X12_71 nl_87 zk_87 ?_
          refine h_goto (tgt := 71) dX12_token_134 (by decide) ?_
          exact k5 c1 c2 c6 c10
        ·
          refine h_icmp_ne (tgt := 137) dX12_token_121 (by decide) (fun _ => ?_) (fun c => absurd c (by decide))
          refine h_aload_n dX12_token_137 rfl 0 rfl ?_
          refine h_aload_n dX12_token_138 rfl 0 rfl ?_
          refine gf_10_14 dX12_token_139 hl_X12_71 nl_87 zk_87 ?_
          refine pf_10_16 dX12_token_142 hl_X12_81 nl_87 zk_87 ?_
          exact h_vret dX12_token_145 rfl (k6 c1 c2 c6 c11)
        ·
          refine h_icmp_ne (tgt := 137) dX12_token_121 (by decide) (fun _ => ?_) (fun c => absurd c (by decide))
          refine h_aload_n dX12_token_137 rfl 0 rfl ?_
          refine h_aload_n dX12_token_138 rfl 0 rfl ?_
          refine gf_10_14 dX12_token_139 hl_X12_71 nl_87 zk_87 ?_
          refine pf_10_16 dX12_token_142 hl_X12_81 nl_87 zk_87 ?_
          exact h_vret dX12_token_145 rfl (k7 c1 c2 c6 c12 c13)
      ·
        refine h_aload_n dX12_token_109 rfl 0 rfl ?_
        refine gf_10_2 dX12_token_110 hl_X12_17 nl_87 zk_87 zp_87_2 ?_
        refine h_aload_n dX12_token_113 rfl 0 rfl ?_
        refine gf_10_15 dX12_token_114 hl_X12_74 nl_87 zk_87 ?_
        refine h_iald dX12_token_117 nl_90 zk_90 (by rw [zn_90]; exact k8 c1 c2 c7) ?_
        refine h_invS (As := [.int (I 90 (I 87 15).toNatClampNeg)]) (st := [.int 2]) dX12_token_118 lk_X12_77 (h_room (by decide)) rfl rfl (Nat.le_of_ble_eq_true rfl) ?_
        refine c_X12_sort (fun c14 => ?_) (fun c15 => ?_) (fun c16 c17 => ?_)
        ·
          refine h_icmp_ne (tgt := 137) dX12_token_121 (by decide) (fun _ => ?_) (fun c => absurd c (by decide))
          refine h_aload_n dX12_token_137 rfl 0 rfl ?_
          refine h_aload_n dX12_token_138 rfl 0 rfl ?_
          refine gf_10_14 dX12_token_139 hl_X12_71 nl_87 zk_87 ?_
          refine pf_10_16 dX12_token_142 hl_X12_81 nl_87 zk_87 ?_
          exact h_vret dX12_token_145 rfl (k9 c1 c2 c7 c14)
        ·
          refine h_icmp_ne (tgt := 137) dX12_token_121 (by decide) (fun c => absurd c (by decide)) (fun _ => ?_)
          refine h_aload_n dX12_token_124 rfl 0 rfl ?_
          refine h_dup dX12_token_125 rfl ?_
          refine gf_10_14 dX12_token_126 hl_X12_71 nl_87 zk_87 ?_
          refine h_iconst (v := 1) dX12_token_129 (by decide) ?_
          refine h_iadd dX12_token_130 ?_
          refine pf_10_14 dX12_token_131 hl_X12_71 nl_87 zk_87 ?_
          refine h_goto (tgt := 71) dX12_token_134 (by decide) ?_
          exact k10 c1 c2 c7 c15
        ·
          refine h_icmp_ne (tgt := 137) dX12_token_121 (by decide) (fun _ => ?_) (fun c => absurd c (by decide))
          refine h_aload_n dX12_token_137 rfl 0 rfl ?_
          refine h_aload_n dX12_token_138 rfl 0 rfl ?_
          refine gf_10_14 dX12_token_139 hl_X12_71 nl_87 zk_87 ?_
          refine pf_10_16 dX12_token_142 hl_X12_81 nl_87 zk_87 ?_
          exact h_vret dX12_token_145 rfl (k11 c1 c2 c7 c16 c17)
      ·
        refine h_aload_n dX12_token_109 rfl 0 rfl ?_
        refine gf_10_2 dX12_token_110 hl_X12_17 nl_87 zk_87 zp_87_2 ?_
        refine h_aload_n dX12_token_113 rfl 0 rfl ?_
        refine gf_10_15 dX12_token_114 hl_X12_74 nl_87 zk_87 ?_
        refine h_iald dX12_token_117 nl_90 zk_90 (by rw [zn_90]; exact k12 c1 c2 c8 c9) ?_
        refine h_invS (As := [.int (I 90 (I 87 15).toNatClampNeg)]) (st := [.int 0]) dX12_token_118 lk_X12_77 (h_room (by decide)) rfl rfl (Nat.le_of_ble_eq_true rfl) ?_
        refine c_X12_sort (fun c18 => ?_) (fun c19 => ?_) (fun c20 c21 => ?_)
        ·
          refine h_icmp_ne (tgt := 137) dX12_token_121 (by decide) (fun _ => ?_) (fun c => absurd c (by decide))
          refine h_aload_n dX12_token_137 rfl 0 rfl ?_
          refine h_aload_n dX12_token_138 rfl 0 rfl ?_
          refine gf_10_14 dX12_token_139 hl_X12_71 nl_87 zk_87 ?_
          refine pf_10_16 dX12_token_142 hl_X12_81 nl_87 zk_87 ?_
          exact h_vret dX12_token_145 rfl (k13 c1 c2 c8 c9 c18)
        ·
          refine h_icmp_ne (tgt := 137) dX12_token_121 (by decide) (fun _ => ?_) (fun c => absurd c (by decide))
          refine h_aload_n dX12_token_137 rfl 0 rfl ?_
          refine h_aload_n dX12_token_138 rfl 0 rfl ?_
          refine gf_10_14 dX12_token_139 hl_X12_71 nl_87 zk_87 ?_
          refine pf_10_16 dX12_token_142 hl_X12_81 nl_87 zk_87 ?_
          exact h_vret dX12_token_145 rfl (k14 c1 c2 c8 c9 c19)
        ·
          refine h_icmp_ne (tgt := 137) dX12_token_121 (by decide) (fun c => absurd c (by decide)) (fun _ => ?_)
          refine h_aload_n dX12_token_124 rfl 0 rfl ?_
          refine h_dup dX12_token_125 rfl ?_
          refine gf_10_14 dX12_token_126 hl_X12_71 nl_87 zk_87 ?_
          refine h_iconst (v := 1) dX12_token_129 (by decide) ?_
          refine h_iadd dX12_token_130 ?_
          refine pf_10_14 dX12_token_131 hl_X12_71 nl_87 zk_87 ?_
          refine h_goto (tgt := 71) dX12_token_134 (by decide) ?_
          exact k15 c1 c2 c8 c9 c20 c21
    ·
      refine h_if_le (tgt := 137) dX12_token_94 (by decide) (fun c => absurd c (by decide)) (fun _ => ?_)
      refine h_aload_n dX12_token_97 rfl 0 rfl ?_
      refine gf_10_2 dX12_token_98 hl_X12_17 nl_87 zk_87 zp_87_2 ?_
      refine h_aload_n dX12_token_101 rfl 0 rfl ?_
      refine gf_10_14 dX12_token_102 hl_X12_71 nl_87 zk_87 ?_
      refine h_iald dX12_token_105 nl_90 zk_90 (by rw [zn_90]; exact k16 c1 c3) ?_
      refine h_invS (As := [.int (I 90 (I 87 14).toNatClampNeg)]) (st := []) dX12_token_106 lk_X12_77 (h_room (by decide)) rfl rfl (Nat.le_of_ble_eq_true rfl) ?_
      refine c_X12_sort (fun c22 => ?_) (fun c23 => ?_) (fun c24 c25 => ?_)
      ·
        refine h_aload_n dX12_token_109 rfl 0 rfl ?_
        refine gf_10_2 dX12_token_110 hl_X12_17 nl_87 zk_87 zp_87_2 ?_
        refine h_aload_n dX12_token_113 rfl 0 rfl ?_
        refine gf_10_15 dX12_token_114 hl_X12_74 nl_87 zk_87 ?_
        refine h_iald dX12_token_117 nl_90 zk_90 (by rw [zn_90]; exact k17 c1 c3 c22) ?_
        refine h_invS (As := [.int (I 90 (I 87 15).toNatClampNeg)]) (st := [.int 1]) dX12_token_118 lk_X12_77 (h_room (by decide)) rfl rfl (Nat.le_of_ble_eq_true rfl) ?_
        refine c_X12_sort (fun c26 => ?_) (fun c27 => ?_) (fun c28 c29 => ?_)
        ·
          refine h_icmp_ne (tgt := 137) dX12_token_121 (by decide) (fun c => absurd c (by decide)) (fun _ => ?_)
          refine h_aload_n dX12_token_124 rfl 0 rfl ?_
          refine h_dup dX12_token_125 rfl ?_
          refine gf_10_14 dX12_token_126 hl_X12_71 nl_87 zk_87 ?_
          refine h_iconst (v := 1) dX12_token_129 (by decide) ?_
          refine h_iadd dX12_token_130 ?_
          refine pf_10_14 dX12_token_131 hl_X12_71 nl_87 zk_87 ?_
          refine h_goto (tgt := 71) dX12_token_134 (by decide) ?_
          exact k18 c1 c3 c22 c26
        ·
          refine h_icmp_ne (tgt := 137) dX12_token_121 (by decide) (fun _ => ?_) (fun c => absurd c (by decide))
          refine h_aload_n dX12_token_137 rfl 0 rfl ?_
          refine h_aload_n dX12_token_138 rfl 0 rfl ?_
          refine gf_10_14 dX12_token_139 hl_X12_71 nl_87 zk_87 ?_
          refine pf_10_16 dX12_token_142 hl_X12_81 nl_87 zk_87 ?_
          exact h_vret dX12_token_145 rfl (k19 c1 c3 c22 c27)
        ·
          refine h_icmp_ne (tgt := 137) dX12_token_121 (by decide) (fun _ => ?_) (fun c => absurd c (by decide))
          refine h_aload_n dX12_token_137 rfl 0 rfl ?_
          refine h_aload_n dX12_token_138 rfl 0 rfl ?_
          refine gf_10_14 dX12_token_139 hl_X12_71 nl_87 zk_87 ?_
          refine pf_10_16 dX12_token_142 hl_X12_81 nl_87 zk_87 ?_
          exact h_vret dX12_token_145 rfl (k20 c1 c3 c22 c28 c29)
      ·
        refine h_aload_n dX12_token_109 rfl 0 rfl ?_
        refine gf_10_2 dX12_token_110 hl_X12_17 nl_87 zk_87 zp_87_2 ?_
        refine h_aload_n dX12_token_113 rfl 0 rfl ?_
        refine gf_10_15 dX12_token_114 hl_X12_74 nl_87 zk_87 ?_
        refine h_iald dX12_token_117 nl_90 zk_90 (by rw [zn_90]; exact k21 c1 c3 c23) ?_
        refine h_invS (As := [.int (I 90 (I 87 15).toNatClampNeg)]) (st := [.int 2]) dX12_token_118 lk_X12_77 (h_room (by decide)) rfl rfl (Nat.le_of_ble_eq_true rfl) ?_
        refine c_X12_sort (fun c30 => ?_) (fun c31 => ?_) (fun c32 c33 => ?_)
        ·
          refine h_icmp_ne (tgt := 137) dX12_token_121 (by decide) (fun _ => ?_) (fun c => absurd c (by decide))
          refine h_aload_n dX12_token_137 rfl 0 rfl ?_
          refine h_aload_n dX12_token_138 rfl 0 rfl ?_
          refine gf_10_14 dX12_token_139 hl_X12_71 nl_87 zk_87 ?_
          refine pf_10_16 dX12_token_142 hl_X12_81 nl_87 zk_87 ?_
          exact h_vret dX12_token_145 rfl (k22 c1 c3 c23 c30)
        ·
          refine h_icmp_ne (tgt := 137) dX12_token_121 (by decide) (fun c => absurd c (by decide)) (fun _ => ?_)
          refine h_aload_n dX12_token_124 rfl 0 rfl ?_
          refine h_dup dX12_token_125 rfl ?_
          refine gf_10_14 dX12_token_126 hl_X12_71 nl_87 zk_87 ?_
          refine h_iconst (v := 1) dX12_token_129 (by decide) ?_
          refine h_iadd dX12_token_130 ?_
          refine pf_10_14 dX12_token_131 hl_X12_71 nl_87 zk_87 ?_
          refine h_goto (tgt := 71) dX12_token_134 (by decide) ?_
          exact k23 c1 c3 c23 c31
        ·
          refine h_icmp_ne (tgt := 137) dX12_token_121 (by decide) (fun _ => ?_) (fun c => absurd c (by decide))
          refine h_aload_n dX12_token_137 rfl 0 rfl ?_
          refine h_aload_n dX12_token_138 rfl 0 rfl ?_
          refine gf_10_14 dX12_token_139 hl_X12_71 nl_87 zk_87 ?_
          refine pf_10_16 dX12_token_142 hl_X12_81 nl_87 zk_87 ?_
          exact h_vret dX12_token_145 rfl (k24 c1 c3 c23 c32 c33)
      ·
        refine h_aload_n dX12_token_109 rfl 0 rfl ?_
        refine gf_10_2 dX12_token_110 hl_X12_17 nl_87 zk_87 zp_87_2 ?_
        refine h_aload_n dX12_token_113 rfl 0 rfl ?_
        refine gf_10_15 dX12_token_114 hl_X12_74 nl_87 zk_87 ?_
        refine h_iald dX12_token_117 nl_90 zk_90 (by rw [zn_90]; exact k25 c1 c3 c24 c25) ?_
        refine h_invS (As := [.int (I 90 (I 87 15).toNatClampNeg)]) (st := [.int 0]) dX12_token_118 lk_X12_77 (h_room (by decide)) rfl rfl (Nat.le_of_ble_eq_true rfl) ?_
        refine c_X12_sort (fun c34 => ?_) (fun c35 => ?_) (fun c36 c37 => ?_)
        ·
          refine h_icmp_ne (tgt := 137) dX12_token_121 (by decide) (fun _ => ?_) (fun c => absurd c (by decide))
          refine h_aload_n dX12_token_137 rfl 0 rfl ?_
          refine h_aload_n dX12_token_138 rfl 0 rfl ?_
          refine gf_10_14 dX12_token_139 hl_X12_71 nl_87 zk_87 ?_
          refine pf_10_16 dX12_token_142 hl_X12_81 nl_87 zk_87 ?_
          exact h_vret dX12_token_145 rfl (k26 c1 c3 c24 c25 c34)
        ·
          refine h_icmp_ne (tgt := 137) dX12_token_121 (by decide) (fun _ => ?_) (fun c => absurd c (by decide))
          refine h_aload_n dX12_token_137 rfl 0 rfl ?_
          refine h_aload_n dX12_token_138 rfl 0 rfl ?_
          refine gf_10_14 dX12_token_139 hl_X12_71 nl_87 zk_87 ?_
          refine pf_10_16 dX12_token_142 hl_X12_81 nl_87 zk_87 ?_
          exact h_vret dX12_token_145 rfl (k27 c1 c3 c24 c25 c35)
        ·
          refine h_icmp_ne (tgt := 137) dX12_token_121 (by decide) (fun c => absurd c (by decide)) (fun _ => ?_)
          refine h_aload_n dX12_token_124 rfl 0 rfl ?_
          refine h_dup dX12_token_125 rfl ?_
          refine gf_10_14 dX12_token_126 hl_X12_71 nl_87 zk_87 ?_
          refine h_iconst (v := 1) dX12_token_129 (by decide) ?_
          refine h_iadd dX12_token_130 ?_
          refine pf_10_14 dX12_token_131 hl_X12_71 nl_87 zk_87 ?_
          refine h_goto (tgt := 71) dX12_token_134 (by decide) ?_
          exact k28 c1 c3 c24 c25 c36 c37
    ·
      refine h_if_le (tgt := 137) dX12_token_94 (by decide) (fun _ => ?_) (fun c => absurd c (by decide))
      refine h_aload_n dX12_token_137 rfl 0 rfl ?_
      refine h_aload_n dX12_token_138 rfl 0 rfl ?_
      refine gf_10_14 dX12_token_139 hl_X12_71 nl_87 zk_87 ?_
      refine pf_10_16 dX12_token_142 hl_X12_81 nl_87 zk_87 ?_
      exact h_vret dX12_token_145 rfl (k29 c1 c4 c5)
set_option maxHeartbeats 1000000 in
set_option maxRecDepth 4000 in
theorem sg_X12_isWord_0 {E : HEn} {d : Nat} {Q : Option Value → HIh → Prop} {I : HIh} {a : Int64} {b : Int32}
    (k1 : ¬ ((I 87 16) - (I 87 15)) = b → HGo E (mF E (d + 1) Q) me_X12_isWord 23 [(0, .ref 87), (1, .long a), (3, .int b), (4, .int 0), (5, .int 0)] [] I)
    (k2 : ((I 87 16) - (I 87 15)) = b → HGo E (mF E (d + 1) Q) me_X12_isWord 23 [(0, .ref 87), (1, .long a), (3, .int b), (4, .int 1), (5, .int 0)] [] I)
    : HGo E (mF E (d + 1) Q) me_X12_isWord 0 [(0, .ref 87), (1, .long a), (3, .int b)] [] I := by
  refine h_aload_n dX12_isWord_0 rfl 0 rfl ?_
  refine gf_10_16 dX12_isWord_1 hl_X12_81 nl_87 zk_87 ?_
  refine h_aload_n dX12_isWord_4 rfl 0 rfl ?_
  refine gf_10_15 dX12_isWord_5 hl_X12_74 nl_87 zk_87 ?_
  refine h_isub dX12_isWord_8 ?_
  refine h_iload_n dX12_isWord_9 rfl 2 rfl ?_
  refine h_icmp_ne (tgt := 17) dX12_isWord_10 (by decide) (fun c1 => ?_) (fun c1 => ?_)
  ·
    refine h_iconst (v := 0) dX12_isWord_17 (by decide) ?_
    refine h_istore (L' := [(4, .int 0), (0, .ref 87), (1, .long a), (3, .int b)]) dX12_isWord_18 (by decide) rfl ?_
    refine h_iconst (v := 0) dX12_isWord_20 (by decide) ?_
    refine h_istore (L' := [(5, .int 0), (4, .int 0), (0, .ref 87), (1, .long a), (3, .int b)]) dX12_isWord_21 (by decide) rfl ?_
    refine h_pick [2, 3, 4, 1, 0] [(0, .ref 87), (1, .long a), (3, .int b), (4, .int 0), (5, .int 0)] rfl ?_
    exact k1 c1
  ·
    refine h_iconst (v := 1) dX12_isWord_13 (by decide) ?_
    refine h_goto (tgt := 18) dX12_isWord_14 (by decide) ?_
    refine h_istore (L' := [(4, .int 1), (0, .ref 87), (1, .long a), (3, .int b)]) dX12_isWord_18 (by decide) rfl ?_
    refine h_iconst (v := 0) dX12_isWord_20 (by decide) ?_
    refine h_istore (L' := [(5, .int 0), (4, .int 1), (0, .ref 87), (1, .long a), (3, .int b)]) dX12_isWord_21 (by decide) rfl ?_
    refine h_pick [2, 3, 4, 1, 0] [(0, .ref 87), (1, .long a), (3, .int b), (4, .int 1), (5, .int 0)] rfl ?_
    exact k2 c1
set_option maxHeartbeats 1000000 in
set_option maxRecDepth 4000 in
theorem sg_X12_isWord_23 {E : HEn} {d : Nat} {Q : Option Value → HIh → Prop} {I : HIh} {x1 : Int64} {x3 : Int32} {x4 : Int32} {x5 : Int32}
    (k1 : x4 = 0 → vp_nar .boolean x4 = x4)
    (k2 : x4 = 0 → Q (some (.int x4)) I)
    (k3 : ¬ x4 = 0 → x3 ≤ x5 → vp_nar .boolean x4 = x4)
    (k4 : ¬ x4 = 0 → x3 ≤ x5 → Q (some (.int x4)) I)
    (k5 : ¬ x4 = 0 → ¬ x3 ≤ x5 → vp_in ((I 87 15) + x5) 200)
    (k6 : ¬ x4 = 0 → ¬ x3 ≤ x5 → ¬ (I 90 ((I 87 15) + x5).toNatClampNeg) = (96 + ((x1 >>> ((5 * x5).toInt64 &&& 63)) &&& 31).toInt32) → HGo E (mF E (d + 1) Q) me_X12_isWord 23 [(0, .ref 87), (1, .long x1), (3, .int x3), (4, .int 0), (5, .int (x5 + 1))] [] I)
    (k7 : ¬ x4 = 0 → ¬ x3 ≤ x5 → (I 90 ((I 87 15) + x5).toNatClampNeg) = (96 + ((x1 >>> ((5 * x5).toInt64 &&& 63)) &&& 31).toInt32) → HGo E (mF E (d + 1) Q) me_X12_isWord 23 [(0, .ref 87), (1, .long x1), (3, .int x3), (4, .int 1), (5, .int (x5 + 1))] [] I)
    : HGo E (mF E (d + 1) Q) me_X12_isWord 23 [(0, .ref 87), (1, .long x1), (3, .int x3), (4, .int x4), (5, .int x5)] [] I := by
  refine h_iload dX12_isWord_23 3 rfl ?_
  refine h_if_eq (tgt := 76) dX12_isWord_25 (by decide) (fun c1 => ?_) (fun c1 => ?_)
  ·
    refine h_iload dX12_isWord_76 3 rfl ?_
    exact h_zret dX12_isWord_78 rfl (k1 c1) (k2 c1)
  ·
    refine h_iload dX12_isWord_28 4 rfl ?_
    refine h_iload_n dX12_isWord_30 rfl 2 rfl ?_
    refine h_icmp_ge (tgt := 76) dX12_isWord_31 (by decide) (fun c2 => ?_) (fun c2 => ?_)
    ·
      refine h_iload dX12_isWord_76 3 rfl ?_
      exact h_zret dX12_isWord_78 rfl (k3 c1 c2) (k4 c1 c2)
    ·
      refine h_aload_n dX12_isWord_34 rfl 0 rfl ?_
      refine gf_10_2 dX12_isWord_35 hl_X12_17 nl_87 zk_87 zp_87_2 ?_
      refine h_aload_n dX12_isWord_38 rfl 0 rfl ?_
      refine gf_10_15 dX12_isWord_39 hl_X12_74 nl_87 zk_87 ?_
      refine h_iload dX12_isWord_42 4 rfl ?_
      refine h_iadd dX12_isWord_44 ?_
      refine h_iald dX12_isWord_45 nl_90 zk_90 (by rw [zn_90]; exact k5 c1 c2) ?_
      refine h_bipush (v := 96) dX12_isWord_46 (by decide) ?_
      refine h_lload_n dX12_isWord_48 rfl 1 rfl ?_
      refine h_iconst (v := 5) dX12_isWord_49 (by decide) ?_
      refine h_iload dX12_isWord_50 4 rfl ?_
      refine h_imul dX12_isWord_52 ?_
      refine h_lshr dX12_isWord_53 ?_
      refine h_ldc2 dX12_isWord_54 wt_940 rfl ?_
      refine h_land dX12_isWord_57 ?_
      refine h_l2i dX12_isWord_58 ?_
      refine h_iadd dX12_isWord_59 ?_
      refine h_icmp_ne (tgt := 67) dX12_isWord_60 (by decide) (fun c3 => ?_) (fun c3 => ?_)
      ·
        refine h_iconst (v := 0) dX12_isWord_67 (by decide) ?_
        refine h_istore (L' := [(4, .int 0), (0, .ref 87), (1, .long x1), (3, .int x3), (5, .int x5)]) dX12_isWord_68 (by decide) rfl ?_
        refine h_iinc (v := (x5 + 1)) (L' := [(5, .int (x5 + 1)), (4, .int 0), (0, .ref 87), (1, .long x1), (3, .int x3)]) dX12_isWord_70 4 rfl rfl (by decide) rfl ?_
        refine h_goto (tgt := 23) dX12_isWord_73 (by decide) ?_
        refine h_pick [2, 3, 4, 1, 0] [(0, .ref 87), (1, .long x1), (3, .int x3), (4, .int 0), (5, .int (x5 + 1))] rfl ?_
        exact k6 c1 c2 c3
      ·
        refine h_iconst (v := 1) dX12_isWord_63 (by decide) ?_
        refine h_goto (tgt := 68) dX12_isWord_64 (by decide) ?_
        refine h_istore (L' := [(4, .int 1), (0, .ref 87), (1, .long x1), (3, .int x3), (5, .int x5)]) dX12_isWord_68 (by decide) rfl ?_
        refine h_iinc (v := (x5 + 1)) (L' := [(5, .int (x5 + 1)), (4, .int 1), (0, .ref 87), (1, .long x1), (3, .int x3)]) dX12_isWord_70 4 rfl rfl (by decide) rfl ?_
        refine h_goto (tgt := 23) dX12_isWord_73 (by decide) ?_
        refine h_pick [2, 3, 4, 1, 0] [(0, .ref 87), (1, .long x1), (3, .int x3), (4, .int 1), (5, .int (x5 + 1))] rfl ?_
        exact k7 c1 c2 c3
set_option maxHeartbeats 1000000 in
set_option maxRecDepth 4000 in
theorem sg_X12_habitWord_0 {E : HEn} {d : Nat} {Q : Option Value → HIh → Prop} {I : HIh} 
    (k1 : HCall E me_X12_isWord (d + 1) [.ref 87, .long 19060910, .int 5] I (fun v9 J => HGo E (mF E (d + 2) Q) me_X12_habitWord 8 [(0, .ref 87)] (v9.toList ++ []) J))
    : HGo E (mF E (d + 2) Q) me_X12_habitWord 0 [(0, .ref 87)] [] I := by
  refine h_aload_n dX12_habitWord_0 rfl 0 rfl ?_
  refine h_ldc2 dX12_habitWord_1 wt_935 rfl ?_
  refine h_iconst (v := 5) dX12_habitWord_4 (by decide) ?_
  refine h_invV (As := [.long 19060910, .int 5]) (st := []) dX12_habitWord_5 lk_X12_88 (h_room (by decide)) nl_87 zk_87 (by decide) rfl rfl rfl (Nat.le_of_ble_eq_true rfl) ?_
  exact k1
set_option maxHeartbeats 1000000 in
set_option maxRecDepth 4000 in
theorem sg_X12_habitWord_8 {E : HEn} {d : Nat} {Q : Option Value → HIh → Prop} {I : HIh} {s0 : Int32}
    (k1 : s0 = 0 → HCall E me_X12_isWord (d + 1) [.ref 87, .long 843224647, .int 6] I (fun v9 J => HGo E (mF E (d + 2) Q) me_X12_habitWord 24 [(0, .ref 87)] (v9.toList ++ []) J))
    (k2 : ¬ s0 = 0 → Q (some (.int 3)) I)
    : HGo E (mF E (d + 2) Q) me_X12_habitWord 8 [(0, .ref 87)] [.int s0] I := by
  refine h_if_eq (tgt := 15) dX12_habitWord_8 (by decide) (fun c1 => ?_) (fun c1 => ?_)
  ·
    refine h_aload_n dX12_habitWord_15 rfl 0 rfl ?_
    refine h_ldc2 dX12_habitWord_16 wt_941 rfl ?_
    refine h_bipush (v := 6) dX12_habitWord_19 (by decide) ?_
    refine h_invV (As := [.long 843224647, .int 6]) (st := []) dX12_habitWord_21 lk_X12_88 (h_room (by decide)) nl_87 zk_87 (by decide) rfl rfl rfl (Nat.le_of_ble_eq_true rfl) ?_
    exact k1 c1
  ·
    refine h_iconst (v := 3) dX12_habitWord_11 (by decide) ?_
    refine h_goto (tgt := 64) dX12_habitWord_12 (by decide) ?_
    exact h_iret dX12_habitWord_64 rfl (k2 c1)
set_option maxHeartbeats 1000000 in
set_option maxRecDepth 4000 in
theorem sg_X12_habitWord_24 {E : HEn} {d : Nat} {Q : Option Value → HIh → Prop} {I : HIh} {s0 : Int32}
    (k1 : s0 = 0 → HCall E me_X12_isWord (d + 1) [.ref 87, .long 7996056631, .int 7] I (fun v9 J => HGo E (mF E (d + 2) Q) me_X12_habitWord 40 [(0, .ref 87)] (v9.toList ++ []) J))
    (k2 : ¬ s0 = 0 → Q (some (.int 4)) I)
    : HGo E (mF E (d + 2) Q) me_X12_habitWord 24 [(0, .ref 87)] [.int s0] I := by
  refine h_if_eq (tgt := 31) dX12_habitWord_24 (by decide) (fun c1 => ?_) (fun c1 => ?_)
  ·
    refine h_aload_n dX12_habitWord_31 rfl 0 rfl ?_
    refine h_ldc2 dX12_habitWord_32 wt_942 rfl ?_
    refine h_bipush (v := 7) dX12_habitWord_35 (by decide) ?_
    refine h_invV (As := [.long 7996056631, .int 7]) (st := []) dX12_habitWord_37 lk_X12_88 (h_room (by decide)) nl_87 zk_87 (by decide) rfl rfl rfl (Nat.le_of_ble_eq_true rfl) ?_
    exact k1 c1
  ·
    refine h_iconst (v := 4) dX12_habitWord_27 (by decide) ?_
    refine h_goto (tgt := 64) dX12_habitWord_28 (by decide) ?_
    exact h_iret dX12_habitWord_64 rfl (k2 c1)
set_option maxHeartbeats 1000000 in
set_option maxRecDepth 4000 in
theorem sg_X12_habitWord_40 {E : HEn} {d : Nat} {Q : Option Value → HIh → Prop} {I : HIh} {s0 : Int32}
    (k1 : s0 = 0 → HCall E me_X12_isWord (d + 1) [.ref 87, .long 16815363, .int 5] I (fun v9 J => HGo E (mF E (d + 2) Q) me_X12_habitWord 55 [] (v9.toList ++ []) J))
    (k2 : ¬ s0 = 0 → Q (some (.int 5)) I)
    : HGo E (mF E (d + 2) Q) me_X12_habitWord 40 [(0, .ref 87)] [.int s0] I := by
  refine h_if_eq (tgt := 47) dX12_habitWord_40 (by decide) (fun c1 => ?_) (fun c1 => ?_)
  ·
    refine h_aload_n dX12_habitWord_47 rfl 0 rfl ?_
    refine h_ldc2 dX12_habitWord_48 wt_943 rfl ?_
    refine h_iconst (v := 5) dX12_habitWord_51 (by decide) ?_
    refine h_pick [] [] rfl ?_
    refine h_invV (As := [.long 16815363, .int 5]) (st := []) dX12_habitWord_52 lk_X12_88 (h_room (by decide)) nl_87 zk_87 (by decide) rfl rfl rfl (Nat.le_of_ble_eq_true rfl) ?_
    exact k1 c1
  ·
    refine h_iconst (v := 5) dX12_habitWord_43 (by decide) ?_
    refine h_goto (tgt := 64) dX12_habitWord_44 (by decide) ?_
    exact h_iret dX12_habitWord_64 rfl (k2 c1)
set_option maxHeartbeats 1000000 in
set_option maxRecDepth 4000 in
theorem sg_X12_habitWord_55 {E : HEn} {d : Nat} {Q : Option Value → HIh → Prop} {I : HIh} {s0 : Int32}
    (k1 : s0 = 0 → Q (some (.int (-1))) I)
    (k2 : ¬ s0 = 0 → Q (some (.int 6)) I)
    : HGo E (mF E (d + 2) Q) me_X12_habitWord 55 [] [.int s0] I := by
  refine h_if_eq (tgt := 63) dX12_habitWord_55 (by decide) (fun c1 => ?_) (fun c1 => ?_)
  ·
    refine h_iconst (v := (-1)) dX12_habitWord_63 (by decide) ?_
    exact h_iret dX12_habitWord_64 rfl (k1 c1)
  ·
    refine h_bipush (v := 6) dX12_habitWord_58 (by decide) ?_
    refine h_goto (tgt := 64) dX12_habitWord_60 (by decide) ?_
    exact h_iret dX12_habitWord_64 rfl (k2 c1)
set_option maxHeartbeats 1000000 in
set_option maxRecDepth 4000 in
theorem sg_X12_wordOf_0 {E : HEn} {d : Nat} {Q : Option Value → HIh → Prop} {I : HIh} 
    (k1 : HCall E me_X12_habitWord (d + 2) [.ref 87] I (fun v9 J => HGo E (mF E (d + 3) Q) me_X12_wordOf 4 [(0, .ref 87)] (v9.toList ++ []) J))
    : HGo E (mF E (d + 3) Q) me_X12_wordOf 0 [(0, .ref 87)] [] I := by
  refine h_aload_n dX12_wordOf_0 rfl 0 rfl ?_
  refine h_invV (As := []) (st := []) dX12_wordOf_1 lk_X12_98 (h_room (by decide)) nl_87 zk_87 (by decide) rfl rfl rfl (Nat.le_of_ble_eq_true rfl) ?_
  exact k1
set_option maxHeartbeats 1000000 in
set_option maxRecDepth 4000 in
theorem sg_X12_wordOf_4 {E : HEn} {d : Nat} {Q : Option Value → HIh → Prop} {I : HIh} {s0 : Int32}
    (k1 : s0 = (-1) → HCall E me_X12_isWord (d + 2) [.ref 87, .long 20391395, .int 5] I (fun v9 J => HGo E (mF E (d + 3) Q) me_X12_wordOf 22 [(0, .ref 87)] (v9.toList ++ []) J))
    (k2 : ¬ s0 = (-1) → Q (some (.int s0)) I)
    : HGo E (mF E (d + 3) Q) me_X12_wordOf 4 [(0, .ref 87)] [.int s0] I := by
  refine h_istore_n (L' := [(1, .int s0), (0, .ref 87)]) dX12_wordOf_4 rfl (by decide) rfl ?_
  refine h_iload_n dX12_wordOf_5 rfl 0 rfl ?_
  refine h_iconst (v := (-1)) dX12_wordOf_6 (by decide) ?_
  refine h_icmp_eq (tgt := 14) dX12_wordOf_7 (by decide) (fun c1 => ?_) (fun c1 => ?_)
  ·
    refine h_aload_n dX12_wordOf_14 rfl 1 rfl ?_
    refine h_ldc2 dX12_wordOf_15 wt_944 rfl ?_
    refine h_iconst (v := 5) dX12_wordOf_18 (by decide) ?_
    refine h_pick [1] [(0, .ref 87)] rfl ?_
    refine h_invV (As := [.long 20391395, .int 5]) (st := []) dX12_wordOf_19 lk_X12_88 (h_room (by decide)) nl_87 zk_87 (by decide) rfl rfl rfl (Nat.le_of_ble_eq_true rfl) ?_
    exact k1 c1
  ·
    refine h_iload_n dX12_wordOf_10 rfl 0 rfl ?_
    refine h_goto (tgt := 108) dX12_wordOf_11 (by decide) ?_
    exact h_iret dX12_wordOf_108 rfl (k2 c1)
set_option maxHeartbeats 1000000 in
set_option maxRecDepth 4000 in
theorem sg_X12_wordOf_22 {E : HEn} {d : Nat} {Q : Option Value → HIh → Prop} {I : HIh} {s0 : Int32}
    (k1 : s0 = 0 → HCall E me_X12_isWord (d + 2) [.ref 87, .long 628012, .int 4] I (fun v9 J => HGo E (mF E (d + 3) Q) me_X12_wordOf 37 [(0, .ref 87)] (v9.toList ++ []) J))
    (k2 : ¬ s0 = 0 → Q (some (.int 0)) I)
    : HGo E (mF E (d + 3) Q) me_X12_wordOf 22 [(0, .ref 87)] [.int s0] I := by
  refine h_if_eq (tgt := 29) dX12_wordOf_22 (by decide) (fun c1 => ?_) (fun c1 => ?_)
  ·
    refine h_aload_n dX12_wordOf_29 rfl 0 rfl ?_
    refine h_ldc2 dX12_wordOf_30 wt_945 rfl ?_
    refine h_iconst (v := 4) dX12_wordOf_33 (by decide) ?_
    refine h_invV (As := [.long 628012, .int 4]) (st := []) dX12_wordOf_34 lk_X12_88 (h_room (by decide)) nl_87 zk_87 (by decide) rfl rfl rfl (Nat.le_of_ble_eq_true rfl) ?_
    exact k1 c1
  ·
    refine h_iconst (v := 0) dX12_wordOf_25 (by decide) ?_
    refine h_goto (tgt := 108) dX12_wordOf_26 (by decide) ?_
    exact h_iret dX12_wordOf_108 rfl (k2 c1)
set_option maxHeartbeats 1000000 in
set_option maxRecDepth 4000 in
theorem sg_X12_wordOf_37 {E : HEn} {d : Nat} {Q : Option Value → HIh → Prop} {I : HIh} {s0 : Int32}
    (k1 : s0 = 0 → HCall E me_X12_isWord (d + 2) [.ref 87, .long 5884592, .int 5] I (fun v9 J => HGo E (mF E (d + 3) Q) me_X12_wordOf 52 [(0, .ref 87)] (v9.toList ++ []) J))
    (k2 : ¬ s0 = 0 → Q (some (.int 1)) I)
    : HGo E (mF E (d + 3) Q) me_X12_wordOf 37 [(0, .ref 87)] [.int s0] I := by
  refine h_if_eq (tgt := 44) dX12_wordOf_37 (by decide) (fun c1 => ?_) (fun c1 => ?_)
  ·
    refine h_aload_n dX12_wordOf_44 rfl 0 rfl ?_
    refine h_ldc2 dX12_wordOf_45 wt_946 rfl ?_
    refine h_iconst (v := 5) dX12_wordOf_48 (by decide) ?_
    refine h_invV (As := [.long 5884592, .int 5]) (st := []) dX12_wordOf_49 lk_X12_88 (h_room (by decide)) nl_87 zk_87 (by decide) rfl rfl rfl (Nat.le_of_ble_eq_true rfl) ?_
    exact k1 c1
  ·
    refine h_iconst (v := 1) dX12_wordOf_40 (by decide) ?_
    refine h_goto (tgt := 108) dX12_wordOf_41 (by decide) ?_
    exact h_iret dX12_wordOf_108 rfl (k2 c1)
set_option maxHeartbeats 1000000 in
set_option maxRecDepth 4000 in
theorem sg_X12_wordOf_52 {E : HEn} {d : Nat} {Q : Option Value → HIh → Prop} {I : HIh} {s0 : Int32}
    (k1 : s0 = 0 → HCall E me_X12_isWord (d + 2) [.ref 87, .long 177635, .int 4] I (fun v9 J => HGo E (mF E (d + 3) Q) me_X12_wordOf 67 [(0, .ref 87)] (v9.toList ++ []) J))
    (k2 : ¬ s0 = 0 → Q (some (.int 2)) I)
    : HGo E (mF E (d + 3) Q) me_X12_wordOf 52 [(0, .ref 87)] [.int s0] I := by
  refine h_if_eq (tgt := 59) dX12_wordOf_52 (by decide) (fun c1 => ?_) (fun c1 => ?_)
  ·
    refine h_aload_n dX12_wordOf_59 rfl 0 rfl ?_
    refine h_ldc2 dX12_wordOf_60 wt_947 rfl ?_
    refine h_iconst (v := 4) dX12_wordOf_63 (by decide) ?_
    refine h_invV (As := [.long 177635, .int 4]) (st := []) dX12_wordOf_64 lk_X12_88 (h_room (by decide)) nl_87 zk_87 (by decide) rfl rfl rfl (Nat.le_of_ble_eq_true rfl) ?_
    exact k1 c1
  ·
    refine h_iconst (v := 2) dX12_wordOf_55 (by decide) ?_
    refine h_goto (tgt := 108) dX12_wordOf_56 (by decide) ?_
    exact h_iret dX12_wordOf_108 rfl (k2 c1)
set_option maxHeartbeats 1000000 in
set_option maxRecDepth 4000 in
theorem sg_X12_wordOf_67 {E : HEn} {d : Nat} {Q : Option Value → HIh → Prop} {I : HIh} {s0 : Int32}
    (k1 : s0 = 0 → HCall E me_X12_isWord (d + 2) [.ref 87, .long 23596, .int 3] I (fun v9 J => HGo E (mF E (d + 3) Q) me_X12_wordOf 83 [(0, .ref 87)] (v9.toList ++ []) J))
    (k2 : ¬ s0 = 0 → Q (some (.int 7)) I)
    : HGo E (mF E (d + 3) Q) me_X12_wordOf 67 [(0, .ref 87)] [.int s0] I := by
  refine h_if_eq (tgt := 75) dX12_wordOf_67 (by decide) (fun c1 => ?_) (fun c1 => ?_)
  ·
    refine h_aload_n dX12_wordOf_75 rfl 0 rfl ?_
    refine h_ldc2 dX12_wordOf_76 wt_948 rfl ?_
    refine h_iconst (v := 3) dX12_wordOf_79 (by decide) ?_
    refine h_invV (As := [.long 23596, .int 3]) (st := []) dX12_wordOf_80 lk_X12_88 (h_room (by decide)) nl_87 zk_87 (by decide) rfl rfl rfl (Nat.le_of_ble_eq_true rfl) ?_
    exact k1 c1
  ·
    refine h_bipush (v := 7) dX12_wordOf_70 (by decide) ?_
    refine h_goto (tgt := 108) dX12_wordOf_72 (by decide) ?_
    exact h_iret dX12_wordOf_108 rfl (k2 c1)
set_option maxHeartbeats 1000000 in
set_option maxRecDepth 4000 in
theorem sg_X12_wordOf_83 {E : HEn} {d : Nat} {Q : Option Value → HIh → Prop} {I : HIh} {s0 : Int32}
    (k1 : s0 = 0 → HCall E me_X12_isWord (d + 2) [.ref 87, .long 5717377, .int 5] I (fun v9 J => HGo E (mF E (d + 3) Q) me_X12_wordOf 99 [] (v9.toList ++ []) J))
    (k2 : ¬ s0 = 0 → Q (some (.int 8)) I)
    : HGo E (mF E (d + 3) Q) me_X12_wordOf 83 [(0, .ref 87)] [.int s0] I := by
  refine h_if_eq (tgt := 91) dX12_wordOf_83 (by decide) (fun c1 => ?_) (fun c1 => ?_)
  ·
    refine h_aload_n dX12_wordOf_91 rfl 0 rfl ?_
    refine h_ldc2 dX12_wordOf_92 wt_949 rfl ?_
    refine h_iconst (v := 5) dX12_wordOf_95 (by decide) ?_
    refine h_pick [] [] rfl ?_
    refine h_invV (As := [.long 5717377, .int 5]) (st := []) dX12_wordOf_96 lk_X12_88 (h_room (by decide)) nl_87 zk_87 (by decide) rfl rfl rfl (Nat.le_of_ble_eq_true rfl) ?_
    exact k1 c1
  ·
    refine h_bipush (v := 8) dX12_wordOf_86 (by decide) ?_
    refine h_goto (tgt := 108) dX12_wordOf_88 (by decide) ?_
    exact h_iret dX12_wordOf_108 rfl (k2 c1)
set_option maxHeartbeats 1000000 in
set_option maxRecDepth 4000 in
theorem sg_X12_wordOf_99 {E : HEn} {d : Nat} {Q : Option Value → HIh → Prop} {I : HIh} {s0 : Int32}
    (k1 : s0 = 0 → Q (some (.int (-1))) I)
    (k2 : ¬ s0 = 0 → Q (some (.int 9)) I)
    : HGo E (mF E (d + 3) Q) me_X12_wordOf 99 [] [.int s0] I := by
  refine h_if_eq (tgt := 107) dX12_wordOf_99 (by decide) (fun c1 => ?_) (fun c1 => ?_)
  ·
    refine h_iconst (v := (-1)) dX12_wordOf_107 (by decide) ?_
    exact h_iret dX12_wordOf_108 rfl (k1 c1)
  ·
    refine h_bipush (v := 9) dX12_wordOf_102 (by decide) ?_
    refine h_goto (tgt := 108) dX12_wordOf_104 (by decide) ?_
    exact h_iret dX12_wordOf_108 rfl (k2 c1)
set_option maxHeartbeats 1000000 in
set_option maxRecDepth 4000 in
theorem sg_X12_isNumber_0 {E : HEn} {d : Nat} {Q : Option Value → HIh → Prop} {I : HIh} 
    (k1 : (I 87 3) ≤ (I 87 15) → Q (some (.int 0)) I)
    (k2 : ¬ (I 87 3) ≤ (I 87 15) → vp_in (I 87 15) 200)
    (k3 : ¬ (I 87 3) ≤ (I 87 15) → 97 ≤ (I 90 (I 87 15).toNatClampNeg) ∧ (I 90 (I 87 15).toNatClampNeg) ≤ 122 → Q (some (.int 0)) I)
    (k4 : ¬ (I 87 3) ≤ (I 87 15) → 48 ≤ (I 90 (I 87 15).toNatClampNeg) ∧ (I 90 (I 87 15).toNatClampNeg) ≤ 57 → Q (some (.int 1)) I)
    (k5 : ¬ (I 87 3) ≤ (I 87 15) → ¬ (97 ≤ (I 90 (I 87 15).toNatClampNeg) ∧ (I 90 (I 87 15).toNatClampNeg) ≤ 122) → ¬ (48 ≤ (I 90 (I 87 15).toNatClampNeg) ∧ (I 90 (I 87 15).toNatClampNeg) ≤ 57) → Q (some (.int 0)) I)
    : HGo E (mF E (d + 2) Q) me_X12_isNumber 0 [(0, .ref 87)] [] I := by
  refine h_aload_n dX12_isNumber_0 rfl 0 rfl ?_
  refine gf_10_15 dX12_isNumber_1 hl_X12_74 nl_87 zk_87 ?_
  refine h_aload_n dX12_isNumber_4 rfl 0 rfl ?_
  refine gf_10_3 dX12_isNumber_5 hl_X12_66 nl_87 zk_87 ?_
  refine h_icmp_ge (tgt := 31) dX12_isNumber_8 (by decide) (fun c1 => ?_) (fun c1 => ?_)
  ·
    refine h_iconst (v := 0) dX12_isNumber_31 (by decide) ?_
    exact h_zret dX12_isNumber_32 rfl rfl (k1 c1)
  ·
    refine h_aload_n dX12_isNumber_11 rfl 0 rfl ?_
    refine gf_10_2 dX12_isNumber_12 hl_X12_17 nl_87 zk_87 zp_87_2 ?_
    refine h_aload_n dX12_isNumber_15 rfl 0 rfl ?_
    refine gf_10_15 dX12_isNumber_16 hl_X12_74 nl_87 zk_87 ?_
    refine h_iald dX12_isNumber_19 nl_90 zk_90 (by rw [zn_90]; exact k2 c1) ?_
    refine h_invS (As := [.int (I 90 (I 87 15).toNatClampNeg)]) (st := []) dX12_isNumber_20 lk_X12_77 (h_room (by decide)) rfl rfl (Nat.le_of_ble_eq_true rfl) ?_
    refine c_X12_sort (fun c2 => ?_) (fun c3 => ?_) (fun c4 c5 => ?_)
    ·
      refine h_iconst (v := 2) dX12_isNumber_23 (by decide) ?_
      refine h_icmp_ne (tgt := 31) dX12_isNumber_24 (by decide) (fun _ => ?_) (fun c => absurd c (by decide))
      refine h_iconst (v := 0) dX12_isNumber_31 (by decide) ?_
      exact h_zret dX12_isNumber_32 rfl rfl (k3 c1 c2)
    ·
      refine h_iconst (v := 2) dX12_isNumber_23 (by decide) ?_
      refine h_icmp_ne (tgt := 31) dX12_isNumber_24 (by decide) (fun c => absurd c (by decide)) (fun _ => ?_)
      refine h_iconst (v := 1) dX12_isNumber_27 (by decide) ?_
      refine h_goto (tgt := 32) dX12_isNumber_28 (by decide) ?_
      exact h_zret dX12_isNumber_32 rfl rfl (k4 c1 c3)
    ·
      refine h_iconst (v := 2) dX12_isNumber_23 (by decide) ?_
      refine h_icmp_ne (tgt := 31) dX12_isNumber_24 (by decide) (fun _ => ?_) (fun c => absurd c (by decide))
      refine h_iconst (v := 0) dX12_isNumber_31 (by decide) ?_
      exact h_zret dX12_isNumber_32 rfl rfl (k5 c1 c4 c5)
set_option maxHeartbeats 1000000 in
set_option maxRecDepth 4000 in
theorem sg_X12_reads_0 {E : HEn} {d : Nat} {Q : Option Value → HIh → Prop} {I : HIh} {a : Int32} {b : Int32}
    (k1 : HCall E me_X12_isNumber (d + 2) [.ref 87] I (fun v9 J => HGo E (mF E (d + 3) Q) me_X12_reads 4 [(0, .ref 87), (1, .int a), (2, .int b)] (v9.toList ++ []) J))
    : HGo E (mF E (d + 3) Q) me_X12_reads 0 [(0, .ref 87), (1, .int a), (2, .int b)] [] I := by
  refine h_aload_n dX12_reads_0 rfl 0 rfl ?_
  refine h_invV (As := []) (st := []) dX12_reads_1 lk_X12_114 (h_room (by decide)) nl_87 zk_87 (by decide) rfl rfl rfl (Nat.le_of_ble_eq_true rfl) ?_
  exact k1
set_option maxHeartbeats 1000000 in
set_option maxRecDepth 4000 in
theorem sg_X12_reads_4 {E : HEn} {d : Nat} {Q : Option Value → HIh → Prop} {I : HIh} {x1 : Int32} {x2 : Int32} {s0 : Int32}
    (k1 : s0 = 0 → Q (some (.int 0)) I)
    (k2 : ¬ s0 = 0 → ((I 87 16) - (I 87 15)) ≤ 3 → HGo E (mF E (d + 3) Q) me_X12_reads 30 [(0, .ref 87), (1, .int x1), (2, .int x2), (3, .int 0), (4, .int (I 87 15))] [] I)
    (k3 : ¬ s0 = 0 → ¬ ((I 87 16) - (I 87 15)) ≤ 3 → Q (some (.int 0)) I)
    : HGo E (mF E (d + 3) Q) me_X12_reads 4 [(0, .ref 87), (1, .int x1), (2, .int x2)] [.int s0] I := by
  refine h_if_eq (tgt := 20) dX12_reads_4 (by decide) (fun c1 => ?_) (fun c1 => ?_)
  ·
    refine h_iconst (v := 0) dX12_reads_20 (by decide) ?_
    exact h_zret dX12_reads_21 rfl rfl (k1 c1)
  ·
    refine h_aload_n dX12_reads_7 rfl 0 rfl ?_
    refine gf_10_16 dX12_reads_8 hl_X12_81 nl_87 zk_87 ?_
    refine h_aload_n dX12_reads_11 rfl 0 rfl ?_
    refine gf_10_15 dX12_reads_12 hl_X12_74 nl_87 zk_87 ?_
    refine h_isub dX12_reads_15 ?_
    refine h_iconst (v := 3) dX12_reads_16 (by decide) ?_
    refine h_icmp_le (tgt := 22) dX12_reads_17 (by decide) (fun c2 => ?_) (fun c2 => ?_)
    ·
      refine h_iconst (v := 0) dX12_reads_22 (by decide) ?_
      refine h_istore_n (L' := [(3, .int 0), (0, .ref 87), (1, .int x1), (2, .int x2)]) dX12_reads_23 rfl (by decide) rfl ?_
      refine h_aload_n dX12_reads_24 rfl 1 rfl ?_
      refine gf_10_15 dX12_reads_25 hl_X12_74 nl_87 zk_87 ?_
      refine h_istore (L' := [(4, .int (I 87 15)), (3, .int 0), (0, .ref 87), (1, .int x1), (2, .int x2)]) dX12_reads_28 (by decide) rfl ?_
      refine h_pick [2, 3, 4, 1, 0] [(0, .ref 87), (1, .int x1), (2, .int x2), (3, .int 0), (4, .int (I 87 15))] rfl ?_
      exact k2 c1 c2
    ·
      refine h_iconst (v := 0) dX12_reads_20 (by decide) ?_
      exact h_zret dX12_reads_21 rfl rfl (k3 c1 c2)
set_option maxHeartbeats 1000000 in
set_option maxRecDepth 4000 in
theorem sg_X12_reads_30 {E : HEn} {d : Nat} {Q : Option Value → HIh → Prop} {I : HIh} {x1 : Int32} {x2 : Int32} {x3 : Int32} {x4 : Int32}
    (k1 : (I 87 16) ≤ x4 → (x1.toInt64 : Int64) ≤ x3.toInt64 → (x3.toInt64 : Int64) ≤ x2.toInt64 → vp_in ((12 * (I 87 5)) + 1) 120)
    (k2 : (I 87 16) ≤ x4 → (x1.toInt64 : Int64) ≤ x3.toInt64 → (x3.toInt64 : Int64) ≤ x2.toInt64 → vp_in (((12 * (I 87 5)) + 2) + (I 91 ((12 * (I 87 5)) + 1).toNatClampNeg)) 120)
    (k3 : (I 87 16) ≤ x4 → (x1.toInt64 : Int64) ≤ x3.toInt64 → (x3.toInt64 : Int64) ≤ x2.toInt64 → HCall E me_X12_token (d + 2) [.ref 87] (setI (setI I 91 (upd (I 91) (((12 * (I 87 5)) + 2) + (I 91 ((12 * (I 87 5)) + 1).toNatClampNeg)).toNatClampNeg x3)) 91 (upd ((setI I 91 (upd (I 91) (((12 * (I 87 5)) + 2) + (I 91 ((12 * (I 87 5)) + 1).toNatClampNeg)).toNatClampNeg x3)) 91) ((12 * (I 87 5)) + 1).toNatClampNeg (((setI I 91 (upd (I 91) (((12 * (I 87 5)) + 2) + (I 91 ((12 * (I 87 5)) + 1).toNatClampNeg)).toNatClampNeg x3)) 91 ((12 * (I 87 5)) + 1).toNatClampNeg) + 1))) (fun v9 J => HGo E (mF E (d + 3) Q) me_X12_reads 121 [] (v9.toList ++ []) J))
    (k4 : (I 87 16) ≤ x4 → ¬ ((x1.toInt64 : Int64) ≤ x3.toInt64 ∧ (x3.toInt64 : Int64) ≤ x2.toInt64) → Q (some (.int 0)) I)
    (k5 : ¬ (I 87 16) ≤ x4 → vp_in x4 200)
    (k6 : ¬ (I 87 16) ≤ x4 → HGo E (mF E (d + 3) Q) me_X12_reads 30 [(0, .ref 87), (1, .int x1), (2, .int x2), (3, .int (((10 * x3) + (I 90 x4.toNatClampNeg)) - 48)), (4, .int (x4 + 1))] [] I)
    : HGo E (mF E (d + 3) Q) me_X12_reads 30 [(0, .ref 87), (1, .int x1), (2, .int x2), (3, .int x3), (4, .int x4)] [] I := by
  refine h_iload dX12_reads_30 4 rfl ?_
  refine h_aload_n dX12_reads_32 rfl 0 rfl ?_
  refine gf_10_16 dX12_reads_33 hl_X12_81 nl_87 zk_87 ?_
  refine h_icmp_ge (tgt := 61) dX12_reads_36 (by decide) (fun c1 => ?_) (fun c1 => ?_)
  ·
    refine h_iload_n dX12_reads_61 rfl 3 rfl ?_
    refine h_i2l dX12_reads_62 ?_
    refine h_iload_n dX12_reads_63 rfl 1 rfl ?_
    refine h_i2l dX12_reads_64 ?_
    refine h_iload_n dX12_reads_65 rfl 2 rfl ?_
    refine h_i2l dX12_reads_66 ?_
    refine h_invS (As := [.long x3.toInt64, .long x1.toInt64, .long x2.toInt64]) (st := []) dX12_reads_67 lk_X12_62 (h_room (by decide)) rfl rfl (Nat.le_of_ble_eq_true rfl) ?_
    refine c_X12_in (fun c2 c3 => ?_) (fun c4 => ?_)
    ·
      refine h_if_ne (tgt := 75) dX12_reads_70 (by decide) (fun _ => ?_) (fun c => absurd c (by decide))
      refine h_bipush (v := 12) dX12_reads_75 (by decide) ?_
      refine h_aload_n dX12_reads_77 rfl 0 rfl ?_
      refine gf_10_5 dX12_reads_78 hl_X12_118 nl_87 zk_87 ?_
      refine h_imul dX12_reads_81 ?_
      refine h_istore (L' := [(4, .int (12 * (I 87 5))), (0, .ref 87), (1, .int x1), (2, .int x2), (3, .int x3)]) dX12_reads_82 (by decide) rfl ?_
      refine h_aload_n dX12_reads_84 rfl 1 rfl ?_
      refine gf_10_4 dX12_reads_85 hl_X12_20 nl_87 zk_87 zp_87_4 ?_
      refine h_iload dX12_reads_88 0 rfl ?_
      refine h_iconst (v := 2) dX12_reads_90 (by decide) ?_
      refine h_iadd dX12_reads_91 ?_
      refine h_aload_n dX12_reads_92 rfl 1 rfl ?_
      refine gf_10_4 dX12_reads_93 hl_X12_20 nl_87 zk_87 zp_87_4 ?_
      refine h_iload dX12_reads_96 0 rfl ?_
      refine h_iconst (v := 1) dX12_reads_98 (by decide) ?_
      refine h_iadd dX12_reads_99 ?_
      refine h_iald dX12_reads_100 nl_91 zk_91 (by rw [zn_91]; exact k1 c1 c2 c3) ?_
      refine h_iadd dX12_reads_101 ?_
      refine h_iload_n dX12_reads_102 rfl 4 rfl ?_
      refine h_iast dX12_reads_103 nl_91 zk_91 (by rw [zn_91]; exact k2 c1 c2 c3) ?_
      refine h_aload_n dX12_reads_104 rfl 1 rfl ?_
      refine gf_10_4 dX12_reads_105 hl_X12_20 nl_87 zk_87 zp_87_4 ?_
      refine h_iload dX12_reads_108 0 rfl ?_
      refine h_iconst (v := 1) dX12_reads_110 (by decide) ?_
      refine h_iadd dX12_reads_111 ?_
      refine h_dup2 dX12_reads_112 rfl rfl ?_
      refine h_iald dX12_reads_113 nl_91 zk_91 (by rw [zn_91]; exact k1 c1 c2 c3) ?_
      refine h_iconst (v := 1) dX12_reads_114 (by decide) ?_
      refine h_iadd dX12_reads_115 ?_
      refine h_iast dX12_reads_116 nl_91 zk_91 (by rw [zn_91]; exact k1 c1 c2 c3) ?_
      refine h_aload_n dX12_reads_117 rfl 1 rfl ?_
      refine h_pick [] [] rfl ?_
      refine h_invV (As := []) (st := []) dX12_reads_118 lk_X12_121 (h_room (by decide)) nl_87 zk_87 (by decide) rfl rfl rfl (Nat.le_of_ble_eq_true rfl) ?_
      exact k3 c1 c2 c3
    ·
      refine h_if_ne (tgt := 75) dX12_reads_70 (by decide) (fun c => absurd c (by decide)) (fun _ => ?_)
      refine h_iconst (v := 0) dX12_reads_73 (by decide) ?_
      exact h_zret dX12_reads_74 rfl rfl (k4 c1 c4)
  ·
    refine h_bipush (v := 10) dX12_reads_39 (by decide) ?_
    refine h_iload_n dX12_reads_41 rfl 3 rfl ?_
    refine h_imul dX12_reads_42 ?_
    refine h_aload_n dX12_reads_43 rfl 0 rfl ?_
    refine gf_10_2 dX12_reads_44 hl_X12_17 nl_87 zk_87 zp_87_2 ?_
    refine h_iload dX12_reads_47 4 rfl ?_
    refine h_iald dX12_reads_49 nl_90 zk_90 (by rw [zn_90]; exact k5 c1) ?_
    refine h_iadd dX12_reads_50 ?_
    refine h_bipush (v := 48) dX12_reads_51 (by decide) ?_
    refine h_isub dX12_reads_53 ?_
    refine h_istore_n (L' := [(3, .int (((10 * x3) + (I 90 x4.toNatClampNeg)) - 48)), (0, .ref 87), (1, .int x1), (2, .int x2), (4, .int x4)]) dX12_reads_54 rfl (by decide) rfl ?_
    refine h_iinc (v := (x4 + 1)) (L' := [(4, .int (x4 + 1)), (3, .int (((10 * x3) + (I 90 x4.toNatClampNeg)) - 48)), (0, .ref 87), (1, .int x1), (2, .int x2)]) dX12_reads_55 4 rfl rfl (by decide) rfl ?_
    refine h_goto (tgt := 30) dX12_reads_58 (by decide) ?_
    refine h_pick [2, 3, 4, 1, 0] [(0, .ref 87), (1, .int x1), (2, .int x2), (3, .int (((10 * x3) + (I 90 x4.toNatClampNeg)) - 48)), (4, .int (x4 + 1))] rfl ?_
    exact k6 c1
set_option maxHeartbeats 1000000 in
set_option maxRecDepth 4000 in
theorem sg_X12_reads_121 {E : HEn} {d : Nat} {Q : Option Value → HIh → Prop} {I : HIh} 
    (k1 : Q (some (.int 1)) I)
    : HGo E (mF E (d + 3) Q) me_X12_reads 121 [] [] I := by
  refine h_iconst (v := 1) dX12_reads_121 (by decide) ?_
  exact h_zret dX12_reads_122 rfl rfl (k1)
set_option maxHeartbeats 1000000 in
set_option maxRecDepth 4000 in
theorem sg_X12_readsCoins_0 {E : HEn} {d : Nat} {Q : Option Value → HIh → Prop} {I : HIh} 
    (k1 : HGo E (mF E (d + 4) Q) me_X12_readsCoins 10 [(0, .ref 87), (1, .int (12 * (I 87 5))), (2, .int 1)] [] I)
    : HGo E (mF E (d + 4) Q) me_X12_readsCoins 0 [(0, .ref 87)] [] I := by
  refine h_bipush (v := 12) dX12_readsCoins_0 (by decide) ?_
  refine h_aload_n dX12_readsCoins_2 rfl 0 rfl ?_
  refine gf_10_5 dX12_readsCoins_3 hl_X12_118 nl_87 zk_87 ?_
  refine h_imul dX12_readsCoins_6 ?_
  refine h_istore_n (L' := [(1, .int (12 * (I 87 5))), (0, .ref 87)]) dX12_readsCoins_7 rfl (by decide) rfl ?_
  refine h_iconst (v := 1) dX12_readsCoins_8 (by decide) ?_
  refine h_istore_n (L' := [(2, .int 1), (1, .int (12 * (I 87 5))), (0, .ref 87)]) dX12_readsCoins_9 rfl (by decide) rfl ?_
  refine h_pick [2, 1, 0] [(0, .ref 87), (1, .int (12 * (I 87 5))), (2, .int 1)] rfl ?_
  exact k1
set_option maxHeartbeats 1000000 in
set_option maxRecDepth 4000 in
theorem sg_X12_readsCoins_10 {E : HEn} {d : Nat} {Q : Option Value → HIh → Prop} {I : HIh} {x1 : Int32} {x2 : Int32}
    (k1 : vp_in (x1 + 1) 120)
    (k2 : (I 91 (x1 + 1).toNatClampNeg) = 0 → HCall E me_X12_reads (d + 3) [.ref 87, .int x2, .int 999] I (fun v9 J => HGo E (mF E (d + 4) Q) me_X12_readsCoins 49 [(0, .ref 87), (1, .int x1)] (v9.toList ++ []) J))
    (k3 : ¬ (I 91 (x1 + 1).toNatClampNeg) = 0 → HCall E me_X12_isNumber (d + 3) [.ref 87] I (fun v9 J => HGo E (mF E (d + 4) Q) me_X12_readsCoins 25 [(0, .ref 87), (1, .int x1), (2, .int x2)] (v9.toList ++ []) J))
    : HGo E (mF E (d + 4) Q) me_X12_readsCoins 10 [(0, .ref 87), (1, .int x1), (2, .int x2)] [] I := by
  refine h_aload_n dX12_readsCoins_10 rfl 0 rfl ?_
  refine gf_10_4 dX12_readsCoins_11 hl_X12_20 nl_87 zk_87 zp_87_4 ?_
  refine h_iload_n dX12_readsCoins_14 rfl 1 rfl ?_
  refine h_iconst (v := 1) dX12_readsCoins_15 (by decide) ?_
  refine h_iadd dX12_readsCoins_16 ?_
  refine h_iald dX12_readsCoins_17 nl_91 zk_91 (by rw [zn_91]; exact k1) ?_
  refine h_if_eq (tgt := 41) dX12_readsCoins_18 (by decide) (fun c1 => ?_) (fun c1 => ?_)
  ·
    refine h_aload_n dX12_readsCoins_41 rfl 0 rfl ?_
    refine h_iload_n dX12_readsCoins_42 rfl 2 rfl ?_
    refine h_sipush (v := 999) dX12_readsCoins_43 (by decide) ?_
    refine h_pick [0, 1] [(0, .ref 87), (1, .int x1)] rfl ?_
    refine h_invV (As := [.int x2, .int 999]) (st := []) dX12_readsCoins_46 lk_X12_124 (h_room (by decide)) nl_87 zk_87 (by decide) rfl rfl rfl (Nat.le_of_ble_eq_true rfl) ?_
    exact k2 c1
  ·
    refine h_aload_n dX12_readsCoins_21 rfl 0 rfl ?_
    refine h_invV (As := []) (st := []) dX12_readsCoins_22 lk_X12_114 (h_room (by decide)) nl_87 zk_87 (by decide) rfl rfl rfl (Nat.le_of_ble_eq_true rfl) ?_
    exact k3 c1
set_option maxHeartbeats 1000000 in
set_option maxRecDepth 4000 in
theorem sg_X12_readsCoins_49 {E : HEn} {d : Nat} {Q : Option Value → HIh → Prop} {I : HIh} {x1 : Int32} {s0 : Int32}
    (k1 : ¬ s0 = 0 → vp_in (x1 + 1) 120)
    (k2 : ¬ s0 = 0 → vp_in ((x1 + 1) + (I 91 (x1 + 1).toNatClampNeg)) 120)
    (k3 : ¬ s0 = 0 → HGo E (mF E (d + 4) Q) me_X12_readsCoins 10 [(0, .ref 87), (1, .int x1), (2, .int ((I 91 ((x1 + 1) + (I 91 (x1 + 1).toNatClampNeg)).toNatClampNeg) + 1))] [] I)
    (k4 : s0 = 0 → Q (some (.int 0)) I)
    : HGo E (mF E (d + 4) Q) me_X12_readsCoins 49 [(0, .ref 87), (1, .int x1)] [.int s0] I := by
  refine h_if_ne (tgt := 54) dX12_readsCoins_49 (by decide) (fun c1 => ?_) (fun c1 => ?_)
  ·
    refine h_aload_n dX12_readsCoins_54 rfl 0 rfl ?_
    refine gf_10_4 dX12_readsCoins_55 hl_X12_20 nl_87 zk_87 zp_87_4 ?_
    refine h_iload_n dX12_readsCoins_58 rfl 1 rfl ?_
    refine h_iconst (v := 1) dX12_readsCoins_59 (by decide) ?_
    refine h_iadd dX12_readsCoins_60 ?_
    refine h_aload_n dX12_readsCoins_61 rfl 0 rfl ?_
    refine gf_10_4 dX12_readsCoins_62 hl_X12_20 nl_87 zk_87 zp_87_4 ?_
    refine h_iload_n dX12_readsCoins_65 rfl 1 rfl ?_
    refine h_iconst (v := 1) dX12_readsCoins_66 (by decide) ?_
    refine h_iadd dX12_readsCoins_67 ?_
    refine h_iald dX12_readsCoins_68 nl_91 zk_91 (by rw [zn_91]; exact k1 c1) ?_
    refine h_iadd dX12_readsCoins_69 ?_
    refine h_iald dX12_readsCoins_70 nl_91 zk_91 (by rw [zn_91]; exact k2 c1) ?_
    refine h_iconst (v := 1) dX12_readsCoins_71 (by decide) ?_
    refine h_iadd dX12_readsCoins_72 ?_
    refine h_istore_n (L' := [(2, .int ((I 91 ((x1 + 1) + (I 91 (x1 + 1).toNatClampNeg)).toNatClampNeg) + 1)), (0, .ref 87), (1, .int x1)]) dX12_readsCoins_73 rfl (by decide) rfl ?_
    refine h_goto (tgt := 10) dX12_readsCoins_74 (by decide) ?_
    refine h_pick [1, 2, 0] [(0, .ref 87), (1, .int x1), (2, .int ((I 91 ((x1 + 1) + (I 91 (x1 + 1).toNatClampNeg)).toNatClampNeg) + 1))] rfl ?_
    exact k3 c1
  ·
    refine h_iconst (v := 0) dX12_readsCoins_52 (by decide) ?_
    exact h_zret dX12_readsCoins_53 rfl rfl (k4 c1)
set_option maxHeartbeats 1000000 in
set_option maxRecDepth 4000 in
theorem sg_X12_readsCoins_25 {E : HEn} {d : Nat} {Q : Option Value → HIh → Prop} {I : HIh} {x1 : Int32} {x2 : Int32} {s0 : Int32}
    (k1 : s0 = 0 → Q (some (.int 1)) I)
    (k2 : ¬ s0 = 0 → vp_in (x1 + 1) 120)
    (k3 : ¬ s0 = 0 → 6 ≤ (I 91 (x1 + 1).toNatClampNeg) → Q (some (.int 1)) I)
    (k4 : ¬ s0 = 0 → ¬ 6 ≤ (I 91 (x1 + 1).toNatClampNeg) → HCall E me_X12_reads (d + 3) [.ref 87, .int x2, .int 999] I (fun v9 J => HGo E (mF E (d + 4) Q) me_X12_readsCoins 49 [(0, .ref 87), (1, .int x1)] (v9.toList ++ []) J))
    : HGo E (mF E (d + 4) Q) me_X12_readsCoins 25 [(0, .ref 87), (1, .int x1), (2, .int x2)] [.int s0] I := by
  refine h_if_eq (tgt := 77) dX12_readsCoins_25 (by decide) (fun c1 => ?_) (fun c1 => ?_)
  ·
    refine h_iconst (v := 1) dX12_readsCoins_77 (by decide) ?_
    exact h_zret dX12_readsCoins_78 rfl rfl (k1 c1)
  ·
    refine h_aload_n dX12_readsCoins_28 rfl 0 rfl ?_
    refine gf_10_4 dX12_readsCoins_29 hl_X12_20 nl_87 zk_87 zp_87_4 ?_
    refine h_iload_n dX12_readsCoins_32 rfl 1 rfl ?_
    refine h_iconst (v := 1) dX12_readsCoins_33 (by decide) ?_
    refine h_iadd dX12_readsCoins_34 ?_
    refine h_iald dX12_readsCoins_35 nl_91 zk_91 (by rw [zn_91]; exact k2 c1) ?_
    refine h_bipush (v := 6) dX12_readsCoins_36 (by decide) ?_
    refine h_icmp_ge (tgt := 77) dX12_readsCoins_38 (by decide) (fun c2 => ?_) (fun c2 => ?_)
    ·
      refine h_iconst (v := 1) dX12_readsCoins_77 (by decide) ?_
      exact h_zret dX12_readsCoins_78 rfl rfl (k3 c1 c2)
    ·
      refine h_aload_n dX12_readsCoins_41 rfl 0 rfl ?_
      refine h_iload_n dX12_readsCoins_42 rfl 2 rfl ?_
      refine h_sipush (v := 999) dX12_readsCoins_43 (by decide) ?_
      refine h_pick [0, 1] [(0, .ref 87), (1, .int x1)] rfl ?_
      refine h_invV (As := [.int x2, .int 999]) (st := []) dX12_readsCoins_46 lk_X12_124 (h_room (by decide)) nl_87 zk_87 (by decide) rfl rfl rfl (Nat.le_of_ble_eq_true rfl) ?_
      exact k4 c1 c2
set_option maxHeartbeats 1000000 in
set_option maxRecDepth 4000 in
theorem sg_X12_readsCome_0 {E : HEn} {d : Nat} {Q : Option Value → HIh → Prop} {I : HIh} 
    (k1 : HGo E (mF E (d + 4) Q) me_X12_readsCome 8 [(0, .ref 87), (1, .int (12 * (I 87 5)))] [] I)
    : HGo E (mF E (d + 4) Q) me_X12_readsCome 0 [(0, .ref 87)] [] I := by
  refine h_bipush (v := 12) dX12_readsCome_0 (by decide) ?_
  refine h_aload_n dX12_readsCome_2 rfl 0 rfl ?_
  refine gf_10_5 dX12_readsCome_3 hl_X12_118 nl_87 zk_87 ?_
  refine h_imul dX12_readsCome_6 ?_
  refine h_istore_n (L' := [(1, .int (12 * (I 87 5))), (0, .ref 87)]) dX12_readsCome_7 rfl (by decide) rfl ?_
  refine h_pick [1, 0] [(0, .ref 87), (1, .int (12 * (I 87 5)))] rfl ?_
  exact k1
set_option maxHeartbeats 1000000 in
set_option maxRecDepth 4000 in
theorem sg_X12_readsCome_8 {E : HEn} {d : Nat} {Q : Option Value → HIh → Prop} {I : HIh} {x1 : Int32}
    (k1 : vp_in (x1 + 1) 120)
    (k2 : (I 91 (x1 + 1).toNatClampNeg) = 0 → vp_in (x1 + 1) 120)
    (k3 : (I 91 (x1 + 1).toNatClampNeg) = 0 → ((I 87 18) + (I 91 (x1 + 1).toNatClampNeg)) = 24 → Q (some (.int 0)) I)
    (k4 : (I 91 (x1 + 1).toNatClampNeg) = 0 → ¬ ((I 87 18) + (I 91 (x1 + 1).toNatClampNeg)) = 24 → HCall E me_X12_reads (d + 3) [.ref 87, .int 0, .int 3] I (fun v9 J => HGo E (mF E (d + 4) Q) me_X12_readsCome 63 [(0, .ref 87), (1, .int x1)] (v9.toList ++ []) J))
    (k5 : ¬ (I 91 (x1 + 1).toNatClampNeg) = 0 → HCall E me_X12_isNumber (d + 3) [.ref 87] I (fun v9 J => HGo E (mF E (d + 4) Q) me_X12_readsCome 23 [(0, .ref 87), (1, .int x1)] (v9.toList ++ []) J))
    : HGo E (mF E (d + 4) Q) me_X12_readsCome 8 [(0, .ref 87), (1, .int x1)] [] I := by
  refine h_aload_n dX12_readsCome_8 rfl 0 rfl ?_
  refine gf_10_4 dX12_readsCome_9 hl_X12_20 nl_87 zk_87 zp_87_4 ?_
  refine h_iload_n dX12_readsCome_12 rfl 1 rfl ?_
  refine h_iconst (v := 1) dX12_readsCome_13 (by decide) ?_
  refine h_iadd dX12_readsCome_14 ?_
  refine h_iald dX12_readsCome_15 nl_91 zk_91 (by rw [zn_91]; exact k1) ?_
  refine h_if_eq (tgt := 39) dX12_readsCome_16 (by decide) (fun c1 => ?_) (fun c1 => ?_)
  ·
    refine h_aload_n dX12_readsCome_39 rfl 0 rfl ?_
    refine gf_10_18 dX12_readsCome_40 hl_X12_128 nl_87 zk_87 ?_
    refine h_aload_n dX12_readsCome_43 rfl 0 rfl ?_
    refine gf_10_4 dX12_readsCome_44 hl_X12_20 nl_87 zk_87 zp_87_4 ?_
    refine h_iload_n dX12_readsCome_47 rfl 1 rfl ?_
    refine h_iconst (v := 1) dX12_readsCome_48 (by decide) ?_
    refine h_iadd dX12_readsCome_49 ?_
    refine h_iald dX12_readsCome_50 nl_91 zk_91 (by rw [zn_91]; exact k2 c1) ?_
    refine h_iadd dX12_readsCome_51 ?_
    refine h_bipush (v := 24) dX12_readsCome_52 (by decide) ?_
    refine h_icmp_eq (tgt := 66) dX12_readsCome_54 (by decide) (fun c2 => ?_) (fun c2 => ?_)
    ·
      refine h_iconst (v := 0) dX12_readsCome_66 (by decide) ?_
      exact h_zret dX12_readsCome_67 rfl rfl (k3 c1 c2)
    ·
      refine h_aload_n dX12_readsCome_57 rfl 0 rfl ?_
      refine h_iconst (v := 0) dX12_readsCome_58 (by decide) ?_
      refine h_iconst (v := 3) dX12_readsCome_59 (by decide) ?_
      refine h_invV (As := [.int 0, .int 3]) (st := []) dX12_readsCome_60 lk_X12_124 (h_room (by decide)) nl_87 zk_87 (by decide) rfl rfl rfl (Nat.le_of_ble_eq_true rfl) ?_
      exact k4 c1 c2
  ·
    refine h_aload_n dX12_readsCome_19 rfl 0 rfl ?_
    refine h_invV (As := []) (st := []) dX12_readsCome_20 lk_X12_114 (h_room (by decide)) nl_87 zk_87 (by decide) rfl rfl rfl (Nat.le_of_ble_eq_true rfl) ?_
    exact k5 c1
set_option maxHeartbeats 1000000 in
set_option maxRecDepth 4000 in
theorem sg_X12_readsCome_63 {E : HEn} {d : Nat} {Q : Option Value → HIh → Prop} {I : HIh} {x1 : Int32} {s0 : Int32}
    (k1 : ¬ s0 = 0 → HGo E (mF E (d + 4) Q) me_X12_readsCome 8 [(0, .ref 87), (1, .int x1)] [] I)
    (k2 : s0 = 0 → Q (some (.int 0)) I)
    : HGo E (mF E (d + 4) Q) me_X12_readsCome 63 [(0, .ref 87), (1, .int x1)] [.int s0] I := by
  refine h_if_ne (tgt := 8) dX12_readsCome_63 (by decide) (fun c1 => ?_) (fun c1 => ?_)
  ·
    exact k1 c1
  ·
    refine h_iconst (v := 0) dX12_readsCome_66 (by decide) ?_
    exact h_zret dX12_readsCome_67 rfl rfl (k2 c1)
set_option maxHeartbeats 1000000 in
set_option maxRecDepth 4000 in
theorem sg_X12_readsCome_23 {E : HEn} {d : Nat} {Q : Option Value → HIh → Prop} {I : HIh} {x1 : Int32} {s0 : Int32}
    (k1 : s0 = 0 → Q (some (.int 1)) I)
    (k2 : ¬ s0 = 0 → vp_in (x1 + 1) 120)
    (k3 : ¬ s0 = 0 → 9 ≤ (I 91 (x1 + 1).toNatClampNeg) → Q (some (.int 1)) I)
    (k4 : ¬ s0 = 0 → ¬ 9 ≤ (I 91 (x1 + 1).toNatClampNeg) → vp_in (x1 + 1) 120)
    (k5 : ¬ s0 = 0 → ¬ 9 ≤ (I 91 (x1 + 1).toNatClampNeg) → ((I 87 18) + (I 91 (x1 + 1).toNatClampNeg)) = 24 → Q (some (.int 0)) I)
    (k6 : ¬ s0 = 0 → ¬ 9 ≤ (I 91 (x1 + 1).toNatClampNeg) → ¬ ((I 87 18) + (I 91 (x1 + 1).toNatClampNeg)) = 24 → HCall E me_X12_reads (d + 3) [.ref 87, .int 0, .int 3] I (fun v9 J => HGo E (mF E (d + 4) Q) me_X12_readsCome 63 [(0, .ref 87), (1, .int x1)] (v9.toList ++ []) J))
    : HGo E (mF E (d + 4) Q) me_X12_readsCome 23 [(0, .ref 87), (1, .int x1)] [.int s0] I := by
  refine h_if_eq (tgt := 68) dX12_readsCome_23 (by decide) (fun c1 => ?_) (fun c1 => ?_)
  ·
    refine h_iconst (v := 1) dX12_readsCome_68 (by decide) ?_
    exact h_zret dX12_readsCome_69 rfl rfl (k1 c1)
  ·
    refine h_aload_n dX12_readsCome_26 rfl 0 rfl ?_
    refine gf_10_4 dX12_readsCome_27 hl_X12_20 nl_87 zk_87 zp_87_4 ?_
    refine h_iload_n dX12_readsCome_30 rfl 1 rfl ?_
    refine h_iconst (v := 1) dX12_readsCome_31 (by decide) ?_
    refine h_iadd dX12_readsCome_32 ?_
    refine h_iald dX12_readsCome_33 nl_91 zk_91 (by rw [zn_91]; exact k2 c1) ?_
    refine h_bipush (v := 9) dX12_readsCome_34 (by decide) ?_
    refine h_icmp_ge (tgt := 68) dX12_readsCome_36 (by decide) (fun c2 => ?_) (fun c2 => ?_)
    ·
      refine h_iconst (v := 1) dX12_readsCome_68 (by decide) ?_
      exact h_zret dX12_readsCome_69 rfl rfl (k3 c1 c2)
    ·
      refine h_aload_n dX12_readsCome_39 rfl 0 rfl ?_
      refine gf_10_18 dX12_readsCome_40 hl_X12_128 nl_87 zk_87 ?_
      refine h_aload_n dX12_readsCome_43 rfl 0 rfl ?_
      refine gf_10_4 dX12_readsCome_44 hl_X12_20 nl_87 zk_87 zp_87_4 ?_
      refine h_iload_n dX12_readsCome_47 rfl 1 rfl ?_
      refine h_iconst (v := 1) dX12_readsCome_48 (by decide) ?_
      refine h_iadd dX12_readsCome_49 ?_
      refine h_iald dX12_readsCome_50 nl_91 zk_91 (by rw [zn_91]; exact k4 c1 c2) ?_
      refine h_iadd dX12_readsCome_51 ?_
      refine h_bipush (v := 24) dX12_readsCome_52 (by decide) ?_
      refine h_icmp_eq (tgt := 66) dX12_readsCome_54 (by decide) (fun c3 => ?_) (fun c3 => ?_)
      ·
        refine h_iconst (v := 0) dX12_readsCome_66 (by decide) ?_
        exact h_zret dX12_readsCome_67 rfl rfl (k5 c1 c2 c3)
      ·
        refine h_aload_n dX12_readsCome_57 rfl 0 rfl ?_
        refine h_iconst (v := 0) dX12_readsCome_58 (by decide) ?_
        refine h_iconst (v := 3) dX12_readsCome_59 (by decide) ?_
        refine h_invV (As := [.int 0, .int 3]) (st := []) dX12_readsCome_60 lk_X12_124 (h_room (by decide)) nl_87 zk_87 (by decide) rfl rfl rfl (Nat.le_of_ble_eq_true rfl) ?_
        exact k6 c1 c2 c3
set_option maxHeartbeats 1000000 in
set_option maxRecDepth 4000 in
theorem sg_X12_readsRest_0 {E : HEn} {d : Nat} {Q : Option Value → HIh → Prop} {I : HIh} {a : Int32}
    (k1 : a = 0 → HCall E me_X12_readsCoins (d + 4) [.ref 87] I (fun v9 J => HGo E (mF E (d + 5) Q) me_X12_readsRest 60 [] (v9.toList ++ []) J))
    (k2 : ¬ a = 0 → a = 1 → HCall E me_X12_reads (d + 4) [.ref 87, .int 0, .int ((I 87 17) - 1)] I (fun v9 J => HGo E (mF E (d + 5) Q) me_X12_readsRest 72 [(0, .ref 87)] (v9.toList ++ []) J))
    (k3 : ¬ a = 0 → ¬ a = 1 → a = 2 → HCall E me_X12_reads (d + 4) [.ref 87, .int 0, .int 3] I (fun v9 J => HGo E (mF E (d + 5) Q) me_X12_readsRest 97 [(0, .ref 87)] (v9.toList ++ []) J))
    (k4 : ¬ a = 0 → ¬ a = 1 → ¬ a = 2 → a = 3 → HCall E me_X12_reads (d + 4) [.ref 87, .int 0, .int 3] I (fun v9 J => HGo E (mF E (d + 5) Q) me_X12_readsRest 168 [] (v9.toList ++ []) J))
    (k5 : ¬ a = 0 → ¬ a = 1 → ¬ a = 2 → ¬ a = 3 → a = 4 → HCall E me_X12_reads (d + 4) [.ref 87, .int 0, .int 3] I (fun v9 J => HGo E (mF E (d + 5) Q) me_X12_readsRest 168 [] (v9.toList ++ []) J))
    (k6 : ¬ a = 0 → ¬ a = 1 → ¬ a = 2 → ¬ a = 3 → ¬ a = 4 → a = 5 → HCall E me_X12_reads (d + 4) [.ref 87, .int 0, .int 3] I (fun v9 J => HGo E (mF E (d + 5) Q) me_X12_readsRest 136 [(0, .ref 87)] (v9.toList ++ []) J))
    (k7 : ¬ a = 0 → ¬ a = 1 → ¬ a = 2 → ¬ a = 3 → ¬ a = 4 → ¬ a = 5 → a = 6 → HCall E me_X12_reads (d + 4) [.ref 87, .int 0, .int 3] I (fun v9 J => HGo E (mF E (d + 5) Q) me_X12_readsRest 168 [] (v9.toList ++ []) J))
    (k8 : ¬ a = 0 → ¬ a = 1 → ¬ a = 2 → ¬ a = 3 → ¬ a = 4 → ¬ a = 5 → ¬ a = 6 → a = 7 → HCall E me_X12_readsCome (d + 4) [.ref 87] I (fun v9 J => HGo E (mF E (d + 5) Q) me_X12_readsRest 159 [] (v9.toList ++ []) J))
    (k9 : ¬ a = 0 → ¬ a = 1 → ¬ a = 2 → ¬ a = 3 → ¬ a = 4 → ¬ a = 5 → ¬ a = 6 → ¬ a = 7 → a = 8 → HCall E me_X12_reads (d + 4) [.ref 87, .int 0, .int 3] I (fun v9 J => HGo E (mF E (d + 5) Q) me_X12_readsRest 168 [] (v9.toList ++ []) J))
    (k10 : ¬ a = 0 → ¬ a = 1 → ¬ a = 2 → ¬ a = 3 → ¬ a = 4 → ¬ a = 5 → ¬ a = 6 → ¬ a = 7 → ¬ a = 8 → a = 9 → Q (some (.int 1)) I)
    (k11 : ¬ a = 0 → ¬ a = 1 → ¬ a = 2 → ¬ a = 3 → ¬ a = 4 → ¬ a = 5 → ¬ a = 6 → ¬ a = 7 → ¬ a = 8 → ¬ a = 9 → HCall E me_X12_reads (d + 4) [.ref 87, .int 0, .int 3] I (fun v9 J => HGo E (mF E (d + 5) Q) me_X12_readsRest 168 [] (v9.toList ++ []) J))
    : HGo E (mF E (d + 5) Q) me_X12_readsRest 0 [(0, .ref 87), (1, .int a)] [] I := by
  refine h_iload_n dX12_readsRest_0 rfl 1 rfl ?_
  by_cases c1 : a = 0
  · refine h_tswIn (off := 55) (tgt := 56) 0 dX12_readsRest_1 (by rw [c1]; rfl) (by decide) (by decide) (by decide) (by decide) ?_
    refine h_aload_n dX12_readsRest_56 rfl 0 rfl ?_
    refine h_pick [] [] rfl ?_
    refine h_invV (As := []) (st := []) dX12_readsRest_57 lk_X12_131 (h_room (by decide)) nl_87 zk_87 (by decide) rfl rfl rfl (Nat.le_of_ble_eq_true rfl) ?_
    exact k1 c1
  by_cases c2 : a = 1
  · refine h_tswIn (off := 60) (tgt := 61) 1 dX12_readsRest_1 (by rw [c2]; rfl) (by decide) (by decide) (by decide) (by decide) ?_
    refine h_aload_n dX12_readsRest_61 rfl 0 rfl ?_
    refine h_iconst (v := 0) dX12_readsRest_62 (by decide) ?_
    refine h_aload_n dX12_readsRest_63 rfl 0 rfl ?_
    refine gf_10_17 dX12_readsRest_64 hl_X12_134 nl_87 zk_87 ?_
    refine h_iconst (v := 1) dX12_readsRest_67 (by decide) ?_
    refine h_isub dX12_readsRest_68 ?_
    refine h_pick [0] [(0, .ref 87)] rfl ?_
    refine h_invV (As := [.int 0, .int ((I 87 17) - 1)]) (st := []) dX12_readsRest_69 lk_X12_124 (h_room (by decide)) nl_87 zk_87 (by decide) rfl rfl rfl (Nat.le_of_ble_eq_true rfl) ?_
    exact k2 c1 c2
  by_cases c3 : a = 2
  · refine h_tswIn (off := 90) (tgt := 91) 2 dX12_readsRest_1 (by rw [c3]; rfl) (by decide) (by decide) (by decide) (by decide) ?_
    refine h_aload_n dX12_readsRest_91 rfl 0 rfl ?_
    refine h_iconst (v := 0) dX12_readsRest_92 (by decide) ?_
    refine h_iconst (v := 3) dX12_readsRest_93 (by decide) ?_
    refine h_pick [0] [(0, .ref 87)] rfl ?_
    refine h_invV (As := [.int 0, .int 3]) (st := []) dX12_readsRest_94 lk_X12_124 (h_room (by decide)) nl_87 zk_87 (by decide) rfl rfl rfl (Nat.le_of_ble_eq_true rfl) ?_
    exact k3 c1 c2 c3
  by_cases c4 : a = 3
  · refine h_tswIn (off := 161) (tgt := 162) 3 dX12_readsRest_1 (by rw [c4]; rfl) (by decide) (by decide) (by decide) (by decide) ?_
    refine h_aload_n dX12_readsRest_162 rfl 0 rfl ?_
    refine h_iconst (v := 0) dX12_readsRest_163 (by decide) ?_
    refine h_iconst (v := 3) dX12_readsRest_164 (by decide) ?_
    refine h_pick [] [] rfl ?_
    refine h_invV (As := [.int 0, .int 3]) (st := []) dX12_readsRest_165 lk_X12_124 (h_room (by decide)) nl_87 zk_87 (by decide) rfl rfl rfl (Nat.le_of_ble_eq_true rfl) ?_
    exact k4 c1 c2 c3 c4
  by_cases c5 : a = 4
  · refine h_tswIn (off := 161) (tgt := 162) 4 dX12_readsRest_1 (by rw [c5]; rfl) (by decide) (by decide) (by decide) (by decide) ?_
    refine h_aload_n dX12_readsRest_162 rfl 0 rfl ?_
    refine h_iconst (v := 0) dX12_readsRest_163 (by decide) ?_
    refine h_iconst (v := 3) dX12_readsRest_164 (by decide) ?_
    refine h_pick [] [] rfl ?_
    refine h_invV (As := [.int 0, .int 3]) (st := []) dX12_readsRest_165 lk_X12_124 (h_room (by decide)) nl_87 zk_87 (by decide) rfl rfl rfl (Nat.le_of_ble_eq_true rfl) ?_
    exact k5 c1 c2 c3 c4 c5
  by_cases c6 : a = 5
  · refine h_tswIn (off := 129) (tgt := 130) 5 dX12_readsRest_1 (by rw [c6]; rfl) (by decide) (by decide) (by decide) (by decide) ?_
    refine h_aload_n dX12_readsRest_130 rfl 0 rfl ?_
    refine h_iconst (v := 0) dX12_readsRest_131 (by decide) ?_
    refine h_iconst (v := 3) dX12_readsRest_132 (by decide) ?_
    refine h_pick [0] [(0, .ref 87)] rfl ?_
    refine h_invV (As := [.int 0, .int 3]) (st := []) dX12_readsRest_133 lk_X12_124 (h_room (by decide)) nl_87 zk_87 (by decide) rfl rfl rfl (Nat.le_of_ble_eq_true rfl) ?_
    exact k6 c1 c2 c3 c4 c5 c6
  by_cases c7 : a = 6
  · refine h_tswIn (off := 161) (tgt := 162) 6 dX12_readsRest_1 (by rw [c7]; rfl) (by decide) (by decide) (by decide) (by decide) ?_
    refine h_aload_n dX12_readsRest_162 rfl 0 rfl ?_
    refine h_iconst (v := 0) dX12_readsRest_163 (by decide) ?_
    refine h_iconst (v := 3) dX12_readsRest_164 (by decide) ?_
    refine h_pick [] [] rfl ?_
    refine h_invV (As := [.int 0, .int 3]) (st := []) dX12_readsRest_165 lk_X12_124 (h_room (by decide)) nl_87 zk_87 (by decide) rfl rfl rfl (Nat.le_of_ble_eq_true rfl) ?_
    exact k7 c1 c2 c3 c4 c5 c6 c7
  by_cases c8 : a = 7
  · refine h_tswIn (off := 154) (tgt := 155) 7 dX12_readsRest_1 (by rw [c8]; rfl) (by decide) (by decide) (by decide) (by decide) ?_
    refine h_aload_n dX12_readsRest_155 rfl 0 rfl ?_
    refine h_pick [] [] rfl ?_
    refine h_invV (As := []) (st := []) dX12_readsRest_156 lk_X12_137 (h_room (by decide)) nl_87 zk_87 (by decide) rfl rfl rfl (Nat.le_of_ble_eq_true rfl) ?_
    exact k8 c1 c2 c3 c4 c5 c6 c7 c8
  by_cases c9 : a = 8
  · refine h_tswIn (off := 161) (tgt := 162) 8 dX12_readsRest_1 (by rw [c9]; rfl) (by decide) (by decide) (by decide) (by decide) ?_
    refine h_aload_n dX12_readsRest_162 rfl 0 rfl ?_
    refine h_iconst (v := 0) dX12_readsRest_163 (by decide) ?_
    refine h_iconst (v := 3) dX12_readsRest_164 (by decide) ?_
    refine h_pick [] [] rfl ?_
    refine h_invV (As := [.int 0, .int 3]) (st := []) dX12_readsRest_165 lk_X12_124 (h_room (by decide)) nl_87 zk_87 (by decide) rfl rfl rfl (Nat.le_of_ble_eq_true rfl) ?_
    exact k9 c1 c2 c3 c4 c5 c6 c7 c8 c9
  by_cases c10 : a = 9
  · refine h_tswIn (off := 159) (tgt := 160) 9 dX12_readsRest_1 (by rw [c10]; rfl) (by decide) (by decide) (by decide) (by decide) ?_
    refine h_iconst (v := 1) dX12_readsRest_160 (by decide) ?_
    exact h_zret dX12_readsRest_161 rfl rfl (k10 c1 c2 c3 c4 c5 c6 c7 c8 c9 c10)
  refine h_tswOut (tgt := 162) dX12_readsRest_1 (tsw_out10 c1 c2 c3 c4 c5 c6 c7 c8 c9 c10) (by decide) ?_
  refine h_aload_n dX12_readsRest_162 rfl 0 rfl ?_
  refine h_iconst (v := 0) dX12_readsRest_163 (by decide) ?_
  refine h_iconst (v := 3) dX12_readsRest_164 (by decide) ?_
  refine h_pick [] [] rfl ?_
  refine h_invV (As := [.int 0, .int 3]) (st := []) dX12_readsRest_165 lk_X12_124 (h_room (by decide)) nl_87 zk_87 (by decide) rfl rfl rfl (Nat.le_of_ble_eq_true rfl) ?_
  exact k11 c1 c2 c3 c4 c5 c6 c7 c8 c9 c10
set_option maxHeartbeats 1000000 in
set_option maxRecDepth 4000 in
theorem sg_X12_readsRest_60 {E : HEn} {d : Nat} {Q : Option Value → HIh → Prop} {I : HIh} {s0 : Int32}
    (k1 : vp_nar .boolean s0 = s0)
    (k2 : Q (some (.int s0)) I)
    : HGo E (mF E (d + 5) Q) me_X12_readsRest 60 [] [.int s0] I := by
  exact h_zret dX12_readsRest_60 rfl (k1) (k2)
set_option maxHeartbeats 1000000 in
set_option maxRecDepth 4000 in
theorem sg_X12_readsRest_72 {E : HEn} {d : Nat} {Q : Option Value → HIh → Prop} {I : HIh} {s0 : Int32}
    (k1 : s0 = 0 → Q (some (.int 0)) I)
    (k2 : ¬ s0 = 0 → HCall E me_X12_reads (d + 4) [.ref 87, .int 0, .int 20] I (fun v9 J => HGo E (mF E (d + 5) Q) me_X12_readsRest 82 [] (v9.toList ++ []) J))
    : HGo E (mF E (d + 5) Q) me_X12_readsRest 72 [(0, .ref 87)] [.int s0] I := by
  refine h_if_eq (tgt := 89) dX12_readsRest_72 (by decide) (fun c1 => ?_) (fun c1 => ?_)
  ·
    refine h_iconst (v := 0) dX12_readsRest_89 (by decide) ?_
    exact h_zret dX12_readsRest_90 rfl rfl (k1 c1)
  ·
    refine h_aload_n dX12_readsRest_75 rfl 0 rfl ?_
    refine h_iconst (v := 0) dX12_readsRest_76 (by decide) ?_
    refine h_bipush (v := 20) dX12_readsRest_77 (by decide) ?_
    refine h_pick [] [] rfl ?_
    refine h_invV (As := [.int 0, .int 20]) (st := []) dX12_readsRest_79 lk_X12_124 (h_room (by decide)) nl_87 zk_87 (by decide) rfl rfl rfl (Nat.le_of_ble_eq_true rfl) ?_
    exact k2 c1
set_option maxHeartbeats 1000000 in
set_option maxRecDepth 4000 in
theorem sg_X12_readsRest_97 {E : HEn} {d : Nat} {Q : Option Value → HIh → Prop} {I : HIh} {s0 : Int32}
    (k1 : s0 = 0 → Q (some (.int 0)) I)
    (k2 : ¬ s0 = 0 → HCall E me_X12_reads (d + 4) [.ref 87, .int 0, .int ((I 87 17) - 1)] I (fun v9 J => HGo E (mF E (d + 5) Q) me_X12_readsRest 111 [(0, .ref 87)] (v9.toList ++ []) J))
    : HGo E (mF E (d + 5) Q) me_X12_readsRest 97 [(0, .ref 87)] [.int s0] I := by
  refine h_if_eq (tgt := 128) dX12_readsRest_97 (by decide) (fun c1 => ?_) (fun c1 => ?_)
  ·
    refine h_iconst (v := 0) dX12_readsRest_128 (by decide) ?_
    exact h_zret dX12_readsRest_129 rfl rfl (k1 c1)
  ·
    refine h_aload_n dX12_readsRest_100 rfl 0 rfl ?_
    refine h_iconst (v := 0) dX12_readsRest_101 (by decide) ?_
    refine h_aload_n dX12_readsRest_102 rfl 0 rfl ?_
    refine gf_10_17 dX12_readsRest_103 hl_X12_134 nl_87 zk_87 ?_
    refine h_iconst (v := 1) dX12_readsRest_106 (by decide) ?_
    refine h_isub dX12_readsRest_107 ?_
    refine h_invV (As := [.int 0, .int ((I 87 17) - 1)]) (st := []) dX12_readsRest_108 lk_X12_124 (h_room (by decide)) nl_87 zk_87 (by decide) rfl rfl rfl (Nat.le_of_ble_eq_true rfl) ?_
    exact k2 c1
set_option maxHeartbeats 1000000 in
set_option maxRecDepth 4000 in
theorem sg_X12_readsRest_168 {E : HEn} {d : Nat} {Q : Option Value → HIh → Prop} {I : HIh} {s0 : Int32}
    (k1 : vp_nar .boolean s0 = s0)
    (k2 : Q (some (.int s0)) I)
    : HGo E (mF E (d + 5) Q) me_X12_readsRest 168 [] [.int s0] I := by
  exact h_zret dX12_readsRest_168 rfl (k1) (k2)
set_option maxHeartbeats 1000000 in
set_option maxRecDepth 4000 in
theorem sg_X12_readsRest_136 {E : HEn} {d : Nat} {Q : Option Value → HIh → Prop} {I : HIh} {s0 : Int32}
    (k1 : s0 = 0 → Q (some (.int 0)) I)
    (k2 : ¬ s0 = 0 → HCall E me_X12_reads (d + 4) [.ref 87, .int 0, .int 99] I (fun v9 J => HGo E (mF E (d + 5) Q) me_X12_readsRest 146 [] (v9.toList ++ []) J))
    : HGo E (mF E (d + 5) Q) me_X12_readsRest 136 [(0, .ref 87)] [.int s0] I := by
  refine h_if_eq (tgt := 153) dX12_readsRest_136 (by decide) (fun c1 => ?_) (fun c1 => ?_)
  ·
    refine h_iconst (v := 0) dX12_readsRest_153 (by decide) ?_
    exact h_zret dX12_readsRest_154 rfl rfl (k1 c1)
  ·
    refine h_aload_n dX12_readsRest_139 rfl 0 rfl ?_
    refine h_iconst (v := 0) dX12_readsRest_140 (by decide) ?_
    refine h_bipush (v := 99) dX12_readsRest_141 (by decide) ?_
    refine h_pick [] [] rfl ?_
    refine h_invV (As := [.int 0, .int 99]) (st := []) dX12_readsRest_143 lk_X12_124 (h_room (by decide)) nl_87 zk_87 (by decide) rfl rfl rfl (Nat.le_of_ble_eq_true rfl) ?_
    exact k2 c1
set_option maxHeartbeats 1000000 in
set_option maxRecDepth 4000 in
theorem sg_X12_readsRest_159 {E : HEn} {d : Nat} {Q : Option Value → HIh → Prop} {I : HIh} {s0 : Int32}
    (k1 : vp_nar .boolean s0 = s0)
    (k2 : Q (some (.int s0)) I)
    : HGo E (mF E (d + 5) Q) me_X12_readsRest 159 [] [.int s0] I := by
  exact h_zret dX12_readsRest_159 rfl (k1) (k2)
set_option maxHeartbeats 1000000 in
set_option maxRecDepth 4000 in
theorem sg_X12_readsRest_82 {E : HEn} {d : Nat} {Q : Option Value → HIh → Prop} {I : HIh} {s0 : Int32}
    (k1 : s0 = 0 → Q (some (.int 0)) I)
    (k2 : ¬ s0 = 0 → Q (some (.int 1)) I)
    : HGo E (mF E (d + 5) Q) me_X12_readsRest 82 [] [.int s0] I := by
  refine h_if_eq (tgt := 89) dX12_readsRest_82 (by decide) (fun c1 => ?_) (fun c1 => ?_)
  ·
    refine h_iconst (v := 0) dX12_readsRest_89 (by decide) ?_
    exact h_zret dX12_readsRest_90 rfl rfl (k1 c1)
  ·
    refine h_iconst (v := 1) dX12_readsRest_85 (by decide) ?_
    refine h_goto (tgt := 90) dX12_readsRest_86 (by decide) ?_
    exact h_zret dX12_readsRest_90 rfl rfl (k2 c1)
set_option maxHeartbeats 1000000 in
set_option maxRecDepth 4000 in
theorem sg_X12_readsRest_111 {E : HEn} {d : Nat} {Q : Option Value → HIh → Prop} {I : HIh} {s0 : Int32}
    (k1 : s0 = 0 → Q (some (.int 0)) I)
    (k2 : ¬ s0 = 0 → HCall E me_X12_reads (d + 4) [.ref 87, .int 0, .int 20] I (fun v9 J => HGo E (mF E (d + 5) Q) me_X12_readsRest 121 [] (v9.toList ++ []) J))
    : HGo E (mF E (d + 5) Q) me_X12_readsRest 111 [(0, .ref 87)] [.int s0] I := by
  refine h_if_eq (tgt := 128) dX12_readsRest_111 (by decide) (fun c1 => ?_) (fun c1 => ?_)
  ·
    refine h_iconst (v := 0) dX12_readsRest_128 (by decide) ?_
    exact h_zret dX12_readsRest_129 rfl rfl (k1 c1)
  ·
    refine h_aload_n dX12_readsRest_114 rfl 0 rfl ?_
    refine h_iconst (v := 0) dX12_readsRest_115 (by decide) ?_
    refine h_bipush (v := 20) dX12_readsRest_116 (by decide) ?_
    refine h_pick [] [] rfl ?_
    refine h_invV (As := [.int 0, .int 20]) (st := []) dX12_readsRest_118 lk_X12_124 (h_room (by decide)) nl_87 zk_87 (by decide) rfl rfl rfl (Nat.le_of_ble_eq_true rfl) ?_
    exact k2 c1
set_option maxHeartbeats 1000000 in
set_option maxRecDepth 4000 in
theorem sg_X12_readsRest_146 {E : HEn} {d : Nat} {Q : Option Value → HIh → Prop} {I : HIh} {s0 : Int32}
    (k1 : s0 = 0 → Q (some (.int 0)) I)
    (k2 : ¬ s0 = 0 → Q (some (.int 1)) I)
    : HGo E (mF E (d + 5) Q) me_X12_readsRest 146 [] [.int s0] I := by
  refine h_if_eq (tgt := 153) dX12_readsRest_146 (by decide) (fun c1 => ?_) (fun c1 => ?_)
  ·
    refine h_iconst (v := 0) dX12_readsRest_153 (by decide) ?_
    exact h_zret dX12_readsRest_154 rfl rfl (k1 c1)
  ·
    refine h_iconst (v := 1) dX12_readsRest_149 (by decide) ?_
    refine h_goto (tgt := 154) dX12_readsRest_150 (by decide) ?_
    exact h_zret dX12_readsRest_154 rfl rfl (k2 c1)
set_option maxHeartbeats 1000000 in
set_option maxRecDepth 4000 in
theorem sg_X12_readsRest_121 {E : HEn} {d : Nat} {Q : Option Value → HIh → Prop} {I : HIh} {s0 : Int32}
    (k1 : s0 = 0 → Q (some (.int 0)) I)
    (k2 : ¬ s0 = 0 → Q (some (.int 1)) I)
    : HGo E (mF E (d + 5) Q) me_X12_readsRest 121 [] [.int s0] I := by
  refine h_if_eq (tgt := 128) dX12_readsRest_121 (by decide) (fun c1 => ?_) (fun c1 => ?_)
  ·
    refine h_iconst (v := 0) dX12_readsRest_128 (by decide) ?_
    exact h_zret dX12_readsRest_129 rfl rfl (k1 c1)
  ·
    refine h_iconst (v := 1) dX12_readsRest_124 (by decide) ?_
    refine h_goto (tgt := 129) dX12_readsRest_125 (by decide) ?_
    exact h_zret dX12_readsRest_129 rfl rfl (k2 c1)
set_option maxHeartbeats 1000000 in
set_option maxRecDepth 4000 in
theorem sg_X12_readsLine_0 {E : HEn} {d : Nat} {Q : Option Value → HIh → Prop} {I : HIh} 
    (k1 : HCall E me_X12_wordOf (d + 5) [.ref 87] I (fun v9 J => HGo E (mF E (d + 6) Q) me_X12_readsLine 4 [(0, .ref 87)] (v9.toList ++ []) J))
    : HGo E (mF E (d + 6) Q) me_X12_readsLine 0 [(0, .ref 87)] [] I := by
  refine h_aload_n dX12_readsLine_0 rfl 0 rfl ?_
  refine h_invV (As := []) (st := []) dX12_readsLine_1 lk_X12_140 (h_room (by decide)) nl_87 zk_87 (by decide) rfl rfl rfl (Nat.le_of_ble_eq_true rfl) ?_
  exact k1
set_option maxHeartbeats 1000000 in
set_option maxRecDepth 4000 in
theorem sg_X12_readsLine_4 {E : HEn} {d : Nat} {Q : Option Value → HIh → Prop} {I : HIh} {s0 : Int32}
    (k1 : ¬ s0 = (-1) → vp_in (12 * (I 87 5)) 120)
    (k2 : ¬ s0 = (-1) → vp_in ((12 * (I 87 5)) + 1) 120)
    (k3 : ¬ s0 = (-1) → HCall E me_X12_token (d + 5) [.ref 87] (setI (setI I 91 (upd (I 91) (12 * (I 87 5)).toNatClampNeg s0)) 91 (upd ((setI I 91 (upd (I 91) (12 * (I 87 5)).toNatClampNeg s0)) 91) ((12 * (I 87 5)) + 1).toNatClampNeg 0)) (fun v9 J => HGo E (mF E (d + 6) Q) me_X12_readsLine 40 [(0, .ref 87), (1, .int s0), (2, .int (12 * (I 87 5)))] (v9.toList ++ []) J))
    (k4 : s0 = (-1) → Q (some (.int 0)) I)
    : HGo E (mF E (d + 6) Q) me_X12_readsLine 4 [(0, .ref 87)] [.int s0] I := by
  refine h_istore_n (L' := [(1, .int s0), (0, .ref 87)]) dX12_readsLine_4 rfl (by decide) rfl ?_
  refine h_iload_n dX12_readsLine_5 rfl 0 rfl ?_
  refine h_iconst (v := (-1)) dX12_readsLine_6 (by decide) ?_
  refine h_icmp_ne (tgt := 12) dX12_readsLine_7 (by decide) (fun c1 => ?_) (fun c1 => ?_)
  ·
    refine h_bipush (v := 12) dX12_readsLine_12 (by decide) ?_
    refine h_aload_n dX12_readsLine_14 rfl 1 rfl ?_
    refine gf_10_5 dX12_readsLine_15 hl_X12_118 nl_87 zk_87 ?_
    refine h_imul dX12_readsLine_18 ?_
    refine h_istore_n (L' := [(2, .int (12 * (I 87 5))), (1, .int s0), (0, .ref 87)]) dX12_readsLine_19 rfl (by decide) rfl ?_
    refine h_aload_n dX12_readsLine_20 rfl 2 rfl ?_
    refine gf_10_4 dX12_readsLine_21 hl_X12_20 nl_87 zk_87 zp_87_4 ?_
    refine h_iload_n dX12_readsLine_24 rfl 0 rfl ?_
    refine h_iload_n dX12_readsLine_25 rfl 1 rfl ?_
    refine h_iast dX12_readsLine_26 nl_91 zk_91 (by rw [zn_91]; exact k1 c1) ?_
    refine h_aload_n dX12_readsLine_27 rfl 2 rfl ?_
    refine gf_10_4 dX12_readsLine_28 hl_X12_20 nl_87 zk_87 zp_87_4 ?_
    refine h_iload_n dX12_readsLine_31 rfl 0 rfl ?_
    refine h_iconst (v := 1) dX12_readsLine_32 (by decide) ?_
    refine h_iadd dX12_readsLine_33 ?_
    refine h_iconst (v := 0) dX12_readsLine_34 (by decide) ?_
    refine h_iast dX12_readsLine_35 nl_91 zk_91 (by rw [zn_91]; exact k2 c1) ?_
    refine h_aload_n dX12_readsLine_36 rfl 2 rfl ?_
    refine h_pick [2, 1, 0] [(0, .ref 87), (1, .int s0), (2, .int (12 * (I 87 5)))] rfl ?_
    refine h_invV (As := []) (st := []) dX12_readsLine_37 lk_X12_121 (h_room (by decide)) nl_87 zk_87 (by decide) rfl rfl rfl (Nat.le_of_ble_eq_true rfl) ?_
    exact k3 c1
  ·
    refine h_iconst (v := 0) dX12_readsLine_10 (by decide) ?_
    exact h_zret dX12_readsLine_11 rfl rfl (k4 c1)
set_option maxHeartbeats 1000000 in
set_option maxRecDepth 4000 in
theorem sg_X12_readsLine_40 {E : HEn} {d : Nat} {Q : Option Value → HIh → Prop} {I : HIh} {x1 : Int32} {x2 : Int32}
    (k1 : HCall E me_X12_readsRest (d + 5) [.ref 87, .int x1] I (fun v9 J => HGo E (mF E (d + 6) Q) me_X12_readsLine 45 [(0, .ref 87), (1, .int x1), (2, .int x2)] (v9.toList ++ []) J))
    : HGo E (mF E (d + 6) Q) me_X12_readsLine 40 [(0, .ref 87), (1, .int x1), (2, .int x2)] [] I := by
  refine h_aload_n dX12_readsLine_40 rfl 0 rfl ?_
  refine h_iload_n dX12_readsLine_41 rfl 1 rfl ?_
  refine h_invV (As := [.int x1]) (st := []) dX12_readsLine_42 lk_X12_143 (h_room (by decide)) nl_87 zk_87 (by decide) rfl rfl rfl (Nat.le_of_ble_eq_true rfl) ?_
  exact k1
set_option maxHeartbeats 1000000 in
set_option maxRecDepth 4000 in
theorem sg_X12_readsLine_45 {E : HEn} {d : Nat} {Q : Option Value → HIh → Prop} {I : HIh} {x1 : Int32} {x2 : Int32} {s0 : Int32}
    (k1 : ¬ s0 = 0 → ¬ x1 = 0 → ¬ x1 = 7 → ¬ x1 = 9 → Q (some (.int 1)) (setI (setI (setI I 87 (upd (I 87) 17 (I 87 17))) 87 (upd ((setI I 87 (upd (I 87) 17 (I 87 17))) 87) 18 ((setI I 87 (upd (I 87) 17 (I 87 17))) 87 18))) 87 (upd ((setI (setI I 87 (upd (I 87) 17 (I 87 17))) 87 (upd ((setI I 87 (upd (I 87) 17 (I 87 17))) 87) 18 ((setI I 87 (upd (I 87) 17 (I 87 17))) 87 18))) 87) 5 (((setI (setI I 87 (upd (I 87) 17 (I 87 17))) 87 (upd ((setI I 87 (upd (I 87) 17 (I 87 17))) 87) 18 ((setI I 87 (upd (I 87) 17 (I 87 17))) 87 18))) 87 5) + 1))))
    (k2 : ¬ s0 = 0 → ¬ x1 = 0 → ¬ x1 = 7 → x1 = 9 → Q (some (.int 1)) (setI (setI (setI I 87 (upd (I 87) 17 (I 87 17))) 87 (upd ((setI I 87 (upd (I 87) 17 (I 87 17))) 87) 18 0)) 87 (upd ((setI (setI I 87 (upd (I 87) 17 (I 87 17))) 87 (upd ((setI I 87 (upd (I 87) 17 (I 87 17))) 87) 18 0)) 87) 5 (((setI (setI I 87 (upd (I 87) 17 (I 87 17))) 87 (upd ((setI I 87 (upd (I 87) 17 (I 87 17))) 87) 18 0)) 87 5) + 1))))
    (k3 : ¬ s0 = 0 → ¬ x1 = 0 → x1 = 7 → vp_in (x2 + 1) 120)
    (k4 : ¬ s0 = 0 → ¬ x1 = 0 → x1 = 7 → Q (some (.int 1)) (setI (setI (setI I 87 (upd (I 87) 17 (I 87 17))) 87 (upd ((setI I 87 (upd (I 87) 17 (I 87 17))) 87) 18 (((setI I 87 (upd (I 87) 17 (I 87 17))) 87 18) + ((setI I 87 (upd (I 87) 17 (I 87 17))) 91 (x2 + 1).toNatClampNeg)))) 87 (upd ((setI (setI I 87 (upd (I 87) 17 (I 87 17))) 87 (upd ((setI I 87 (upd (I 87) 17 (I 87 17))) 87) 18 (((setI I 87 (upd (I 87) 17 (I 87 17))) 87 18) + ((setI I 87 (upd (I 87) 17 (I 87 17))) 91 (x2 + 1).toNatClampNeg)))) 87) 5 (((setI (setI I 87 (upd (I 87) 17 (I 87 17))) 87 (upd ((setI I 87 (upd (I 87) 17 (I 87 17))) 87) 18 (((setI I 87 (upd (I 87) 17 (I 87 17))) 87 18) + ((setI I 87 (upd (I 87) 17 (I 87 17))) 91 (x2 + 1).toNatClampNeg)))) 87 5) + 1))))
    (k5 : ¬ s0 = 0 → x1 = 0 → vp_in (x2 + 1) 120)
    (k6 : ¬ s0 = 0 → x1 = 0 → ¬ x1 = 7 → ¬ x1 = 9 → Q (some (.int 1)) (setI (setI (setI I 87 (upd (I 87) 17 (I 91 (x2 + 1).toNatClampNeg))) 87 (upd ((setI I 87 (upd (I 87) 17 (I 91 (x2 + 1).toNatClampNeg))) 87) 18 ((setI I 87 (upd (I 87) 17 (I 91 (x2 + 1).toNatClampNeg))) 87 18))) 87 (upd ((setI (setI I 87 (upd (I 87) 17 (I 91 (x2 + 1).toNatClampNeg))) 87 (upd ((setI I 87 (upd (I 87) 17 (I 91 (x2 + 1).toNatClampNeg))) 87) 18 ((setI I 87 (upd (I 87) 17 (I 91 (x2 + 1).toNatClampNeg))) 87 18))) 87) 5 (((setI (setI I 87 (upd (I 87) 17 (I 91 (x2 + 1).toNatClampNeg))) 87 (upd ((setI I 87 (upd (I 87) 17 (I 91 (x2 + 1).toNatClampNeg))) 87) 18 ((setI I 87 (upd (I 87) 17 (I 91 (x2 + 1).toNatClampNeg))) 87 18))) 87 5) + 1))))
    (k7 : ¬ s0 = 0 → x1 = 0 → ¬ x1 = 7 → x1 = 9 → Q (some (.int 1)) (setI (setI (setI I 87 (upd (I 87) 17 (I 91 (x2 + 1).toNatClampNeg))) 87 (upd ((setI I 87 (upd (I 87) 17 (I 91 (x2 + 1).toNatClampNeg))) 87) 18 0)) 87 (upd ((setI (setI I 87 (upd (I 87) 17 (I 91 (x2 + 1).toNatClampNeg))) 87 (upd ((setI I 87 (upd (I 87) 17 (I 91 (x2 + 1).toNatClampNeg))) 87) 18 0)) 87) 5 (((setI (setI I 87 (upd (I 87) 17 (I 91 (x2 + 1).toNatClampNeg))) 87 (upd ((setI I 87 (upd (I 87) 17 (I 91 (x2 + 1).toNatClampNeg))) 87) 18 0)) 87 5) + 1))))
    (k8 : ¬ s0 = 0 → x1 = 0 → x1 = 7 → vp_in (x2 + 1) 120)
    (k9 : ¬ s0 = 0 → x1 = 0 → x1 = 7 → Q (some (.int 1)) (setI (setI (setI I 87 (upd (I 87) 17 (I 91 (x2 + 1).toNatClampNeg))) 87 (upd ((setI I 87 (upd (I 87) 17 (I 91 (x2 + 1).toNatClampNeg))) 87) 18 (((setI I 87 (upd (I 87) 17 (I 91 (x2 + 1).toNatClampNeg))) 87 18) + ((setI I 87 (upd (I 87) 17 (I 91 (x2 + 1).toNatClampNeg))) 91 (x2 + 1).toNatClampNeg)))) 87 (upd ((setI (setI I 87 (upd (I 87) 17 (I 91 (x2 + 1).toNatClampNeg))) 87 (upd ((setI I 87 (upd (I 87) 17 (I 91 (x2 + 1).toNatClampNeg))) 87) 18 (((setI I 87 (upd (I 87) 17 (I 91 (x2 + 1).toNatClampNeg))) 87 18) + ((setI I 87 (upd (I 87) 17 (I 91 (x2 + 1).toNatClampNeg))) 91 (x2 + 1).toNatClampNeg)))) 87) 5 (((setI (setI I 87 (upd (I 87) 17 (I 91 (x2 + 1).toNatClampNeg))) 87 (upd ((setI I 87 (upd (I 87) 17 (I 91 (x2 + 1).toNatClampNeg))) 87) 18 (((setI I 87 (upd (I 87) 17 (I 91 (x2 + 1).toNatClampNeg))) 87 18) + ((setI I 87 (upd (I 87) 17 (I 91 (x2 + 1).toNatClampNeg))) 91 (x2 + 1).toNatClampNeg)))) 87 5) + 1))))
    (k10 : s0 = 0 → Q (some (.int 0)) I)
    : HGo E (mF E (d + 6) Q) me_X12_readsLine 45 [(0, .ref 87), (1, .int x1), (2, .int x2)] [.int s0] I := by
  refine h_if_ne (tgt := 50) dX12_readsLine_45 (by decide) (fun c1 => ?_) (fun c1 => ?_)
  ·
    refine h_aload_n dX12_readsLine_50 rfl 0 rfl ?_
    refine h_iload_n dX12_readsLine_51 rfl 1 rfl ?_
    refine h_if_ne (tgt := 66) dX12_readsLine_52 (by decide) (fun c2 => ?_) (fun c2 => ?_)
    ·
      refine h_aload_n dX12_readsLine_66 rfl 0 rfl ?_
      refine gf_10_17 dX12_readsLine_67 hl_X12_134 nl_87 zk_87 ?_
      refine pf_10_17 dX12_readsLine_70 hl_X12_134 nl_87 zk_87 ?_
      refine h_aload_n dX12_readsLine_73 rfl 0 rfl ?_
      refine h_iload_n dX12_readsLine_74 rfl 1 rfl ?_
      refine h_bipush (v := 7) dX12_readsLine_75 (by decide) ?_
      refine h_icmp_ne (tgt := 96) dX12_readsLine_77 (by decide) (fun c3 => ?_) (fun c3 => ?_)
      ·
        refine h_iload_n dX12_readsLine_96 rfl 1 rfl ?_
        refine h_bipush (v := 9) dX12_readsLine_97 (by decide) ?_
        refine h_icmp_ne (tgt := 106) dX12_readsLine_99 (by decide) (fun c4 => ?_) (fun c4 => ?_)
        ·
          refine h_aload_n dX12_readsLine_106 rfl 0 rfl ?_
          refine gf_10_18 dX12_readsLine_107 hl_X12_128 nl_87 zk_87 ?_
          refine pf_10_18 dX12_readsLine_110 hl_X12_128 nl_87 zk_87 ?_
          refine h_aload_n dX12_readsLine_113 rfl 0 rfl ?_
          refine h_dup dX12_readsLine_114 rfl ?_
          refine gf_10_5 dX12_readsLine_115 hl_X12_118 nl_87 zk_87 ?_
          refine h_iconst (v := 1) dX12_readsLine_118 (by decide) ?_
          refine h_iadd dX12_readsLine_119 ?_
          refine pf_10_5 dX12_readsLine_120 hl_X12_118 nl_87 zk_87 ?_
          refine h_iconst (v := 1) dX12_readsLine_123 (by decide) ?_
          exact h_zret dX12_readsLine_124 rfl rfl (k1 c1 c2 c3 c4)
        ·
          refine h_iconst (v := 0) dX12_readsLine_102 (by decide) ?_
          refine h_goto (tgt := 110) dX12_readsLine_103 (by decide) ?_
          refine pf_10_18 dX12_readsLine_110 hl_X12_128 nl_87 zk_87 ?_
          refine h_aload_n dX12_readsLine_113 rfl 0 rfl ?_
          refine h_dup dX12_readsLine_114 rfl ?_
          refine gf_10_5 dX12_readsLine_115 hl_X12_118 nl_87 zk_87 ?_
          refine h_iconst (v := 1) dX12_readsLine_118 (by decide) ?_
          refine h_iadd dX12_readsLine_119 ?_
          refine pf_10_5 dX12_readsLine_120 hl_X12_118 nl_87 zk_87 ?_
          refine h_iconst (v := 1) dX12_readsLine_123 (by decide) ?_
          exact h_zret dX12_readsLine_124 rfl rfl (k2 c1 c2 c3 c4)
      ·
        refine h_aload_n dX12_readsLine_80 rfl 0 rfl ?_
        refine gf_10_18 dX12_readsLine_81 hl_X12_128 nl_87 zk_87 ?_
        refine h_aload_n dX12_readsLine_84 rfl 0 rfl ?_
        refine gf_10_4 dX12_readsLine_85 hl_X12_20 nl_87 zk_87 zp_87_4 ?_
        refine h_iload_n dX12_readsLine_88 rfl 2 rfl ?_
        refine h_iconst (v := 1) dX12_readsLine_89 (by decide) ?_
        refine h_iadd dX12_readsLine_90 ?_
        refine h_iald dX12_readsLine_91 nl_91 zk_91 (by rw [zn_91]; exact k3 c1 c2 c3) ?_
        refine h_iadd dX12_readsLine_92 ?_
        refine h_goto (tgt := 110) dX12_readsLine_93 (by decide) ?_
        refine pf_10_18 dX12_readsLine_110 hl_X12_128 nl_87 zk_87 ?_
        refine h_aload_n dX12_readsLine_113 rfl 0 rfl ?_
        refine h_dup dX12_readsLine_114 rfl ?_
        refine gf_10_5 dX12_readsLine_115 hl_X12_118 nl_87 zk_87 ?_
        refine h_iconst (v := 1) dX12_readsLine_118 (by decide) ?_
        refine h_iadd dX12_readsLine_119 ?_
        refine pf_10_5 dX12_readsLine_120 hl_X12_118 nl_87 zk_87 ?_
        refine h_iconst (v := 1) dX12_readsLine_123 (by decide) ?_
        exact h_zret dX12_readsLine_124 rfl rfl (k4 c1 c2 c3)
    ·
      refine h_aload_n dX12_readsLine_55 rfl 0 rfl ?_
      refine gf_10_4 dX12_readsLine_56 hl_X12_20 nl_87 zk_87 zp_87_4 ?_
      refine h_iload_n dX12_readsLine_59 rfl 2 rfl ?_
      refine h_iconst (v := 1) dX12_readsLine_60 (by decide) ?_
      refine h_iadd dX12_readsLine_61 ?_
      refine h_iald dX12_readsLine_62 nl_91 zk_91 (by rw [zn_91]; exact k5 c1 c2) ?_
      refine h_goto (tgt := 70) dX12_readsLine_63 (by decide) ?_
      refine pf_10_17 dX12_readsLine_70 hl_X12_134 nl_87 zk_87 ?_
      refine h_aload_n dX12_readsLine_73 rfl 0 rfl ?_
      refine h_iload_n dX12_readsLine_74 rfl 1 rfl ?_
      refine h_bipush (v := 7) dX12_readsLine_75 (by decide) ?_
      refine h_icmp_ne (tgt := 96) dX12_readsLine_77 (by decide) (fun c5 => ?_) (fun c5 => ?_)
      ·
        refine h_iload_n dX12_readsLine_96 rfl 1 rfl ?_
        refine h_bipush (v := 9) dX12_readsLine_97 (by decide) ?_
        refine h_icmp_ne (tgt := 106) dX12_readsLine_99 (by decide) (fun c6 => ?_) (fun c6 => ?_)
        ·
          refine h_aload_n dX12_readsLine_106 rfl 0 rfl ?_
          refine gf_10_18 dX12_readsLine_107 hl_X12_128 nl_87 zk_87 ?_
          refine pf_10_18 dX12_readsLine_110 hl_X12_128 nl_87 zk_87 ?_
          refine h_aload_n dX12_readsLine_113 rfl 0 rfl ?_
          refine h_dup dX12_readsLine_114 rfl ?_
          refine gf_10_5 dX12_readsLine_115 hl_X12_118 nl_87 zk_87 ?_
          refine h_iconst (v := 1) dX12_readsLine_118 (by decide) ?_
          refine h_iadd dX12_readsLine_119 ?_
          refine pf_10_5 dX12_readsLine_120 hl_X12_118 nl_87 zk_87 ?_
          refine h_iconst (v := 1) dX12_readsLine_123 (by decide) ?_
          exact h_zret dX12_readsLine_124 rfl rfl (k6 c1 c2 c5 c6)
        ·
          refine h_iconst (v := 0) dX12_readsLine_102 (by decide) ?_
          refine h_goto (tgt := 110) dX12_readsLine_103 (by decide) ?_
          refine pf_10_18 dX12_readsLine_110 hl_X12_128 nl_87 zk_87 ?_
          refine h_aload_n dX12_readsLine_113 rfl 0 rfl ?_
          refine h_dup dX12_readsLine_114 rfl ?_
          refine gf_10_5 dX12_readsLine_115 hl_X12_118 nl_87 zk_87 ?_
          refine h_iconst (v := 1) dX12_readsLine_118 (by decide) ?_
          refine h_iadd dX12_readsLine_119 ?_
          refine pf_10_5 dX12_readsLine_120 hl_X12_118 nl_87 zk_87 ?_
          refine h_iconst (v := 1) dX12_readsLine_123 (by decide) ?_
          exact h_zret dX12_readsLine_124 rfl rfl (k7 c1 c2 c5 c6)
      ·
        refine h_aload_n dX12_readsLine_80 rfl 0 rfl ?_
        refine gf_10_18 dX12_readsLine_81 hl_X12_128 nl_87 zk_87 ?_
        refine h_aload_n dX12_readsLine_84 rfl 0 rfl ?_
        refine gf_10_4 dX12_readsLine_85 hl_X12_20 nl_87 zk_87 zp_87_4 ?_
        refine h_iload_n dX12_readsLine_88 rfl 2 rfl ?_
        refine h_iconst (v := 1) dX12_readsLine_89 (by decide) ?_
        refine h_iadd dX12_readsLine_90 ?_
        refine h_iald dX12_readsLine_91 nl_91 zk_91 (by rw [zn_91]; exact k8 c1 c2 c5) ?_
        refine h_iadd dX12_readsLine_92 ?_
        refine h_goto (tgt := 110) dX12_readsLine_93 (by decide) ?_
        refine pf_10_18 dX12_readsLine_110 hl_X12_128 nl_87 zk_87 ?_
        refine h_aload_n dX12_readsLine_113 rfl 0 rfl ?_
        refine h_dup dX12_readsLine_114 rfl ?_
        refine gf_10_5 dX12_readsLine_115 hl_X12_118 nl_87 zk_87 ?_
        refine h_iconst (v := 1) dX12_readsLine_118 (by decide) ?_
        refine h_iadd dX12_readsLine_119 ?_
        refine pf_10_5 dX12_readsLine_120 hl_X12_118 nl_87 zk_87 ?_
        refine h_iconst (v := 1) dX12_readsLine_123 (by decide) ?_
        exact h_zret dX12_readsLine_124 rfl rfl (k9 c1 c2 c5)
  ·
    refine h_iconst (v := 0) dX12_readsLine_48 (by decide) ?_
    exact h_zret dX12_readsLine_49 rfl rfl (k10 c1)
set_option maxHeartbeats 1000000 in
set_option maxRecDepth 4000 in
theorem sg_X12_fault_0 {E : HEn} {d : Nat} {Q : Option Value → HIh → Prop} {I : HIh} 
    (k1 : HCall E me_X12_token (d + 6) [.ref 87] (setI (setI (setI (setI I 87 (upd (I 87) 14 0)) 87 (upd ((setI I 87 (upd (I 87) 14 0)) 87) 5 0)) 87 (upd ((setI (setI I 87 (upd (I 87) 14 0)) 87 (upd ((setI I 87 (upd (I 87) 14 0)) 87) 5 0)) 87) 17 ((setI (setI I 87 (upd (I 87) 14 0)) 87 (upd ((setI I 87 (upd (I 87) 14 0)) 87) 5 0)) 87 6))) 87 (upd ((setI (setI (setI I 87 (upd (I 87) 14 0)) 87 (upd ((setI I 87 (upd (I 87) 14 0)) 87) 5 0)) 87 (upd ((setI (setI I 87 (upd (I 87) 14 0)) 87 (upd ((setI I 87 (upd (I 87) 14 0)) 87) 5 0)) 87) 17 ((setI (setI I 87 (upd (I 87) 14 0)) 87 (upd ((setI I 87 (upd (I 87) 14 0)) 87) 5 0)) 87 6))) 87) 18 ((setI (setI (setI I 87 (upd (I 87) 14 0)) 87 (upd ((setI I 87 (upd (I 87) 14 0)) 87) 5 0)) 87 (upd ((setI (setI I 87 (upd (I 87) 14 0)) 87 (upd ((setI I 87 (upd (I 87) 14 0)) 87) 5 0)) 87) 17 ((setI (setI I 87 (upd (I 87) 14 0)) 87 (upd ((setI I 87 (upd (I 87) 14 0)) 87) 5 0)) 87 6))) 87 13))) (fun v9 J => HGo E (mF E (d + 7) Q) me_X12_fault 30 [(0, .ref 87)] (v9.toList ++ []) J))
    : HGo E (mF E (d + 7) Q) me_X12_fault 0 [(0, .ref 87)] [] I := by
  refine h_aload_n dX12_fault_0 rfl 0 rfl ?_
  refine h_iconst (v := 0) dX12_fault_1 (by decide) ?_
  refine pf_10_14 dX12_fault_2 hl_X12_71 nl_87 zk_87 ?_
  refine h_aload_n dX12_fault_5 rfl 0 rfl ?_
  refine h_iconst (v := 0) dX12_fault_6 (by decide) ?_
  refine pf_10_5 dX12_fault_7 hl_X12_118 nl_87 zk_87 ?_
  refine h_aload_n dX12_fault_10 rfl 0 rfl ?_
  refine h_aload_n dX12_fault_11 rfl 0 rfl ?_
  refine gf_10_6 dX12_fault_12 hl_X12_23 nl_87 zk_87 ?_
  refine pf_10_17 dX12_fault_15 hl_X12_134 nl_87 zk_87 ?_
  refine h_aload_n dX12_fault_18 rfl 0 rfl ?_
  refine h_aload_n dX12_fault_19 rfl 0 rfl ?_
  refine gf_10_13 dX12_fault_20 hl_X12_147 nl_87 zk_87 ?_
  refine pf_10_18 dX12_fault_23 hl_X12_128 nl_87 zk_87 ?_
  refine h_aload_n dX12_fault_26 rfl 0 rfl ?_
  refine h_invV (As := []) (st := []) dX12_fault_27 lk_X12_121 (h_room (by decide)) nl_87 zk_87 (by decide) rfl rfl rfl (Nat.le_of_ble_eq_true rfl) ?_
  exact k1
set_option maxHeartbeats 1000000 in
set_option maxRecDepth 4000 in
theorem sg_X12_fault_30 {E : HEn} {d : Nat} {Q : Option Value → HIh → Prop} {I : HIh} 
    (k1 : HCall E me_X12_readsLine (d + 6) [.ref 87] I (fun v9 J => HGo E (mF E (d + 7) Q) me_X12_fault 34 [(0, .ref 87)] (v9.toList ++ []) J))
    : HGo E (mF E (d + 7) Q) me_X12_fault 30 [(0, .ref 87)] [] I := by
  refine h_aload_n dX12_fault_30 rfl 0 rfl ?_
  refine h_invV (As := []) (st := []) dX12_fault_31 lk_X12_150 (h_room (by decide)) nl_87 zk_87 (by decide) rfl rfl rfl (Nat.le_of_ble_eq_true rfl) ?_
  exact k1
set_option maxHeartbeats 1000000 in
set_option maxRecDepth 4000 in
theorem sg_X12_fault_34 {E : HEn} {d : Nat} {Q : Option Value → HIh → Prop} {I : HIh} {s0 : Int32}
    (k1 : ¬ s0 = 0 → HGo E (mF E (d + 7) Q) me_X12_fault 42 [(0, .ref 87)] [] I)
    (k2 : s0 = 0 → Q (some (.int (I 87 15))) I)
    : HGo E (mF E (d + 7) Q) me_X12_fault 34 [(0, .ref 87)] [.int s0] I := by
  refine h_if_ne (tgt := 42) dX12_fault_34 (by decide) (fun c1 => ?_) (fun c1 => ?_)
  ·
    exact k1 c1
  ·
    refine h_aload_n dX12_fault_37 rfl 0 rfl ?_
    refine gf_10_15 dX12_fault_38 hl_X12_74 nl_87 zk_87 ?_
    exact h_iret dX12_fault_41 rfl (k2 c1)
set_option maxHeartbeats 1000000 in
set_option maxRecDepth 4000 in
theorem sg_X12_fault_42 {E : HEn} {d : Nat} {Q : Option Value → HIh → Prop} {I : HIh} 
    (k1 : (I 87 3) ≤ (I 87 15) → Q (some (.int (-1))) I)
    (k2 : ¬ (I 87 3) ≤ (I 87 15) → ¬ ((I 87 16) - (I 87 15)) = 1 → Q (some (.int (I 87 15))) I)
    (k3 : ¬ (I 87 3) ≤ (I 87 15) → ((I 87 16) - (I 87 15)) = 1 → vp_in (I 87 15) 200)
    (k4 : ¬ (I 87 3) ≤ (I 87 15) → ((I 87 16) - (I 87 15)) = 1 → ¬ (I 90 (I 87 15).toNatClampNeg) = 59 → Q (some (.int (I 87 15))) I)
    (k5 : ¬ (I 87 3) ≤ (I 87 15) → ((I 87 16) - (I 87 15)) = 1 → (I 90 (I 87 15).toNatClampNeg) = 59 → 10 ≤ (I 87 5) → Q (some (.int (I 87 15))) I)
    (k6 : ¬ (I 87 3) ≤ (I 87 15) → ((I 87 16) - (I 87 15)) = 1 → (I 90 (I 87 15).toNatClampNeg) = 59 → ¬ 10 ≤ (I 87 5) → HCall E me_X12_token (d + 6) [.ref 87] I (fun v9 J => HGo E (mF E (d + 7) Q) me_X12_fault 103 [(0, .ref 87)] (v9.toList ++ []) J))
    : HGo E (mF E (d + 7) Q) me_X12_fault 42 [(0, .ref 87)] [] I := by
  refine h_aload_n dX12_fault_42 rfl 0 rfl ?_
  refine gf_10_15 dX12_fault_43 hl_X12_74 nl_87 zk_87 ?_
  refine h_aload_n dX12_fault_46 rfl 0 rfl ?_
  refine gf_10_3 dX12_fault_47 hl_X12_66 nl_87 zk_87 ?_
  refine h_icmp_ge (tgt := 120) dX12_fault_50 (by decide) (fun c1 => ?_) (fun c1 => ?_)
  ·
    refine h_iconst (v := (-1)) dX12_fault_120 (by decide) ?_
    exact h_iret dX12_fault_121 rfl (k1 c1)
  ·
    refine h_aload_n dX12_fault_53 rfl 0 rfl ?_
    refine gf_10_16 dX12_fault_54 hl_X12_81 nl_87 zk_87 ?_
    refine h_aload_n dX12_fault_57 rfl 0 rfl ?_
    refine gf_10_15 dX12_fault_58 hl_X12_74 nl_87 zk_87 ?_
    refine h_isub dX12_fault_61 ?_
    refine h_iconst (v := 1) dX12_fault_62 (by decide) ?_
    refine h_icmp_ne (tgt := 93) dX12_fault_63 (by decide) (fun c2 => ?_) (fun c2 => ?_)
    ·
      refine h_iconst (v := 0) dX12_fault_93 (by decide) ?_
      refine h_istore_n (L' := [(1, .int 0), (0, .ref 87)]) dX12_fault_94 rfl (by decide) rfl ?_
      refine h_iload_n dX12_fault_95 rfl 0 rfl ?_
      refine h_if_eq (tgt := 108) dX12_fault_96 (by decide) (fun _ => ?_) (fun c => absurd c (by decide))
      refine h_iload_n dX12_fault_108 rfl 0 rfl ?_
      refine h_if_ne (tgt := 117) dX12_fault_109 (by decide) (fun c => absurd c (by decide)) (fun _ => ?_)
      refine h_aload_n dX12_fault_112 rfl 1 rfl ?_
      refine gf_10_15 dX12_fault_113 hl_X12_74 nl_87 zk_87 ?_
      exact h_iret dX12_fault_116 rfl (k2 c1 c2)
    ·
      refine h_aload_n dX12_fault_66 rfl 0 rfl ?_
      refine gf_10_2 dX12_fault_67 hl_X12_17 nl_87 zk_87 zp_87_2 ?_
      refine h_aload_n dX12_fault_70 rfl 0 rfl ?_
      refine gf_10_15 dX12_fault_71 hl_X12_74 nl_87 zk_87 ?_
      refine h_iald dX12_fault_74 nl_90 zk_90 (by rw [zn_90]; exact k3 c1 c2) ?_
      refine h_bipush (v := 59) dX12_fault_75 (by decide) ?_
      refine h_icmp_ne (tgt := 93) dX12_fault_77 (by decide) (fun c3 => ?_) (fun c3 => ?_)
      ·
        refine h_iconst (v := 0) dX12_fault_93 (by decide) ?_
        refine h_istore_n (L' := [(1, .int 0), (0, .ref 87)]) dX12_fault_94 rfl (by decide) rfl ?_
        refine h_iload_n dX12_fault_95 rfl 0 rfl ?_
        refine h_if_eq (tgt := 108) dX12_fault_96 (by decide) (fun _ => ?_) (fun c => absurd c (by decide))
        refine h_iload_n dX12_fault_108 rfl 0 rfl ?_
        refine h_if_ne (tgt := 117) dX12_fault_109 (by decide) (fun c => absurd c (by decide)) (fun _ => ?_)
        refine h_aload_n dX12_fault_112 rfl 1 rfl ?_
        refine gf_10_15 dX12_fault_113 hl_X12_74 nl_87 zk_87 ?_
        exact h_iret dX12_fault_116 rfl (k4 c1 c2 c3)
      ·
        refine h_aload_n dX12_fault_80 rfl 0 rfl ?_
        refine gf_10_5 dX12_fault_81 hl_X12_118 nl_87 zk_87 ?_
        refine h_bipush (v := 10) dX12_fault_84 (by decide) ?_
        refine h_icmp_ge (tgt := 93) dX12_fault_86 (by decide) (fun c4 => ?_) (fun c4 => ?_)
        ·
          refine h_iconst (v := 0) dX12_fault_93 (by decide) ?_
          refine h_istore_n (L' := [(1, .int 0), (0, .ref 87)]) dX12_fault_94 rfl (by decide) rfl ?_
          refine h_iload_n dX12_fault_95 rfl 0 rfl ?_
          refine h_if_eq (tgt := 108) dX12_fault_96 (by decide) (fun _ => ?_) (fun c => absurd c (by decide))
          refine h_iload_n dX12_fault_108 rfl 0 rfl ?_
          refine h_if_ne (tgt := 117) dX12_fault_109 (by decide) (fun c => absurd c (by decide)) (fun _ => ?_)
          refine h_aload_n dX12_fault_112 rfl 1 rfl ?_
          refine gf_10_15 dX12_fault_113 hl_X12_74 nl_87 zk_87 ?_
          exact h_iret dX12_fault_116 rfl (k5 c1 c2 c3 c4)
        ·
          refine h_iconst (v := 1) dX12_fault_89 (by decide) ?_
          refine h_goto (tgt := 94) dX12_fault_90 (by decide) ?_
          refine h_istore_n (L' := [(1, .int 1), (0, .ref 87)]) dX12_fault_94 rfl (by decide) rfl ?_
          refine h_iload_n dX12_fault_95 rfl 0 rfl ?_
          refine h_if_eq (tgt := 108) dX12_fault_96 (by decide) (fun c => absurd c (by decide)) (fun _ => ?_)
          refine h_aload_n dX12_fault_99 rfl 1 rfl ?_
          refine h_pick [1] [(0, .ref 87)] rfl ?_
          refine h_invV (As := []) (st := []) dX12_fault_100 lk_X12_121 (h_room (by decide)) nl_87 zk_87 (by decide) rfl rfl rfl (Nat.le_of_ble_eq_true rfl) ?_
          exact k6 c1 c2 c3 c4
set_option maxHeartbeats 1000000 in
set_option maxRecDepth 4000 in
theorem sg_X12_fault_103 {E : HEn} {d : Nat} {Q : Option Value → HIh → Prop} {I : HIh} 
    (k1 : HCall E me_X12_readsLine (d + 6) [.ref 87] I (fun v9 J => HGo E (mF E (d + 7) Q) me_X12_fault 107 [(0, .ref 87)] (v9.toList ++ []) J))
    : HGo E (mF E (d + 7) Q) me_X12_fault 103 [(0, .ref 87)] [] I := by
  refine h_aload_n dX12_fault_103 rfl 0 rfl ?_
  refine h_invV (As := []) (st := []) dX12_fault_104 lk_X12_150 (h_room (by decide)) nl_87 zk_87 (by decide) rfl rfl rfl (Nat.le_of_ble_eq_true rfl) ?_
  exact k1
set_option maxHeartbeats 1000000 in
set_option maxRecDepth 4000 in
theorem sg_X12_fault_107 {E : HEn} {d : Nat} {Q : Option Value → HIh → Prop} {I : HIh} {s0 : Int32}
    (k1 : ¬ s0 = 0 → HGo E (mF E (d + 7) Q) me_X12_fault 42 [(0, .ref 87)] [] I)
    (k2 : s0 = 0 → Q (some (.int (I 87 15))) I)
    : HGo E (mF E (d + 7) Q) me_X12_fault 107 [(0, .ref 87)] [.int s0] I := by
  refine h_istore_n (L' := [(1, .int s0), (0, .ref 87)]) dX12_fault_107 rfl (by decide) rfl ?_
  refine h_iload_n dX12_fault_108 rfl 0 rfl ?_
  refine h_if_ne (tgt := 117) dX12_fault_109 (by decide) (fun c1 => ?_) (fun c1 => ?_)
  ·
    refine h_goto (tgt := 42) dX12_fault_117 (by decide) ?_
    refine h_pick [1] [(0, .ref 87)] rfl ?_
    exact k1 c1
  ·
    refine h_aload_n dX12_fault_112 rfl 1 rfl ?_
    refine gf_10_15 dX12_fault_113 hl_X12_74 nl_87 zk_87 ?_
    exact h_iret dX12_fault_116 rfl (k2 c1)
set_option maxHeartbeats 1000000 in
set_option maxRecDepth 4000 in
theorem sg_X12_tellCoins_0 {E : HEn} {d : Nat} {Q : Option Value → HIh → Prop} {I : HIh} {a : Int32}
    (k1 : vp_in (a + 1) 120)
    (k2 : HGo E (mF E (d + 1) Q) me_X12_tellCoins 14 [(0, .ref 87), (1, .int a), (2, .int 0)] [] (setI I 87 (upd (I 87) 6 (I 91 (a + 1).toNatClampNeg))))
    : HGo E (mF E (d + 1) Q) me_X12_tellCoins 0 [(0, .ref 87), (1, .int a)] [] I := by
  refine h_aload_n dX12_tellCoins_0 rfl 0 rfl ?_
  refine h_aload_n dX12_tellCoins_1 rfl 0 rfl ?_
  refine gf_10_4 dX12_tellCoins_2 hl_X12_20 nl_87 zk_87 zp_87_4 ?_
  refine h_iload_n dX12_tellCoins_5 rfl 1 rfl ?_
  refine h_iconst (v := 1) dX12_tellCoins_6 (by decide) ?_
  refine h_iadd dX12_tellCoins_7 ?_
  refine h_iald dX12_tellCoins_8 nl_91 zk_91 (by rw [zn_91]; exact k1) ?_
  refine pf_10_6 dX12_tellCoins_9 hl_X12_23 nl_87 zk_87 ?_
  refine h_iconst (v := 0) dX12_tellCoins_12 (by decide) ?_
  refine h_istore_n (L' := [(2, .int 0), (0, .ref 87), (1, .int a)]) dX12_tellCoins_13 rfl (by decide) rfl ?_
  refine h_pick [1, 2, 0] [(0, .ref 87), (1, .int a), (2, .int 0)] rfl ?_
  exact k2
set_option maxHeartbeats 1000000 in
set_option maxRecDepth 4000 in
theorem sg_X12_tellCoins_14 {E : HEn} {d : Nat} {Q : Option Value → HIh → Prop} {I : HIh} {x1 : Int32} {x2 : Int32}
    (k1 : (I 87 6) ≤ x2 → HGo E (mF E (d + 1) Q) me_X12_tellCoins 46 [(0, .ref 87), (2, .int 0)] [] I)
    (k2 : ¬ (I 87 6) ≤ x2 → vp_in ((x1 + 2) + x2) 120)
    (k3 : ¬ (I 87 6) ≤ x2 → vp_in x2 6)
    (k4 : ¬ (I 87 6) ≤ x2 → HGo E (mF E (d + 1) Q) me_X12_tellCoins 14 [(0, .ref 87), (1, .int x1), (2, .int (x2 + 1))] [] (setI I 92 (upd (I 92) x2.toNatClampNeg (I 91 ((x1 + 2) + x2).toNatClampNeg))))
    : HGo E (mF E (d + 1) Q) me_X12_tellCoins 14 [(0, .ref 87), (1, .int x1), (2, .int x2)] [] I := by
  refine h_iload_n dX12_tellCoins_14 rfl 2 rfl ?_
  refine h_aload_n dX12_tellCoins_15 rfl 0 rfl ?_
  refine gf_10_6 dX12_tellCoins_16 hl_X12_23 nl_87 zk_87 ?_
  refine h_icmp_ge (tgt := 44) dX12_tellCoins_19 (by decide) (fun c1 => ?_) (fun c1 => ?_)
  ·
    refine h_iconst (v := 0) dX12_tellCoins_44 (by decide) ?_
    refine h_istore_n (L' := [(2, .int 0), (0, .ref 87), (1, .int x1)]) dX12_tellCoins_45 rfl (by decide) rfl ?_
    refine h_pick [1, 0] [(0, .ref 87), (2, .int 0)] rfl ?_
    exact k1 c1
  ·
    refine h_aload_n dX12_tellCoins_22 rfl 0 rfl ?_
    refine gf_10_7 dX12_tellCoins_23 hl_X12_27 nl_87 zk_87 zp_87_7 ?_
    refine h_iload_n dX12_tellCoins_26 rfl 2 rfl ?_
    refine h_aload_n dX12_tellCoins_27 rfl 0 rfl ?_
    refine gf_10_4 dX12_tellCoins_28 hl_X12_20 nl_87 zk_87 zp_87_4 ?_
    refine h_iload_n dX12_tellCoins_31 rfl 1 rfl ?_
    refine h_iconst (v := 2) dX12_tellCoins_32 (by decide) ?_
    refine h_iadd dX12_tellCoins_33 ?_
    refine h_iload_n dX12_tellCoins_34 rfl 2 rfl ?_
    refine h_iadd dX12_tellCoins_35 ?_
    refine h_iald dX12_tellCoins_36 nl_91 zk_91 (by rw [zn_91]; exact k2 c1) ?_
    refine h_iast dX12_tellCoins_37 nl_92 zk_92 (by rw [zn_92]; exact k3 c1) ?_
    refine h_iinc (v := (x2 + 1)) (L' := [(2, .int (x2 + 1)), (0, .ref 87), (1, .int x1)]) dX12_tellCoins_38 2 rfl rfl (by decide) rfl ?_
    refine h_goto (tgt := 14) dX12_tellCoins_41 (by decide) ?_
    refine h_pick [1, 2, 0] [(0, .ref 87), (1, .int x1), (2, .int (x2 + 1))] rfl ?_
    exact k4 c1
set_option maxHeartbeats 1000000 in
set_option maxRecDepth 4000 in
theorem sg_X12_tellCoins_46 {E : HEn} {d : Nat} {Q : Option Value → HIh → Prop} {I : HIh} {x2 : Int32}
    (k1 : 30 ≤ x2 → Q none I)
    (k2 : ¬ 30 ≤ x2 → vp_in x2 30)
    (k3 : ¬ 30 ≤ x2 → HGo E (mF E (d + 1) Q) me_X12_tellCoins 46 [(0, .ref 87), (2, .int (x2 + 1))] [] (setI I 93 (upd (I 93) x2.toNatClampNeg 0)))
    : HGo E (mF E (d + 1) Q) me_X12_tellCoins 46 [(0, .ref 87), (2, .int x2)] [] I := by
  refine h_iload_n dX12_tellCoins_46 rfl 1 rfl ?_
  refine h_bipush (v := 30) dX12_tellCoins_47 (by decide) ?_
  refine h_icmp_ge (tgt := 65) dX12_tellCoins_49 (by decide) (fun c1 => ?_) (fun c1 => ?_)
  ·
    exact h_vret dX12_tellCoins_65 rfl (k1 c1)
  ·
    refine h_aload_n dX12_tellCoins_52 rfl 0 rfl ?_
    refine gf_10_8 dX12_tellCoins_53 hl_X12_30 nl_87 zk_87 zp_87_8 ?_
    refine h_iload_n dX12_tellCoins_56 rfl 1 rfl ?_
    refine h_iconst (v := 0) dX12_tellCoins_57 (by decide) ?_
    refine h_iast dX12_tellCoins_58 nl_93 zk_93 (by rw [zn_93]; exact k2 c1) ?_
    refine h_iinc (v := (x2 + 1)) (L' := [(2, .int (x2 + 1)), (0, .ref 87)]) dX12_tellCoins_59 1 rfl rfl (by decide) rfl ?_
    refine h_goto (tgt := 46) dX12_tellCoins_62 (by decide) ?_
    refine h_pick [1, 0] [(0, .ref 87), (2, .int (x2 + 1))] rfl ?_
    exact k3 c1
set_option maxHeartbeats 1000000 in
set_option maxRecDepth 4000 in
theorem sg_X12_tellCome_0 {E : HEn} {d : Nat} {Q : Option Value → HIh → Prop} {I : HIh} {a : Int32}
    (k1 : HGo E (mF E (d + 1) Q) me_X12_tellCome 2 [(0, .ref 87), (1, .int a), (2, .int 0)] [] I)
    : HGo E (mF E (d + 1) Q) me_X12_tellCome 0 [(0, .ref 87), (1, .int a)] [] I := by
  refine h_iconst (v := 0) dX12_tellCome_0 (by decide) ?_
  refine h_istore_n (L' := [(2, .int 0), (0, .ref 87), (1, .int a)]) dX12_tellCome_1 rfl (by decide) rfl ?_
  refine h_pick [1, 2, 0] [(0, .ref 87), (1, .int a), (2, .int 0)] rfl ?_
  exact k1
set_option maxHeartbeats 1000000 in
set_option maxRecDepth 4000 in
theorem sg_X12_tellCome_2 {E : HEn} {d : Nat} {Q : Option Value → HIh → Prop} {I : HIh} {x1 : Int32} {x2 : Int32}
    (k1 : vp_in (x1 + 1) 120)
    (k2 : (I 91 (x1 + 1).toNatClampNeg) ≤ x2 → Q none I)
    (k3 : ¬ (I 91 (x1 + 1).toNatClampNeg) ≤ x2 → vp_in ((x1 + 2) + x2) 120)
    (k4 : ¬ (I 91 (x1 + 1).toNatClampNeg) ≤ x2 → vp_in (I 87 13) 24)
    (k5 : ¬ (I 91 (x1 + 1).toNatClampNeg) ≤ x2 → HGo E (mF E (d + 1) Q) me_X12_tellCome 2 [(0, .ref 87), (1, .int x1), (2, .int (x2 + 1))] [] (setI (setI I 96 (upd (I 96) (I 87 13).toNatClampNeg (I 91 ((x1 + 2) + x2).toNatClampNeg))) 87 (upd ((setI I 96 (upd (I 96) (I 87 13).toNatClampNeg (I 91 ((x1 + 2) + x2).toNatClampNeg))) 87) 13 (((setI I 96 (upd (I 96) (I 87 13).toNatClampNeg (I 91 ((x1 + 2) + x2).toNatClampNeg))) 87 13) + 1))))
    : HGo E (mF E (d + 1) Q) me_X12_tellCome 2 [(0, .ref 87), (1, .int x1), (2, .int x2)] [] I := by
  refine h_iload_n dX12_tellCome_2 rfl 2 rfl ?_
  refine h_aload_n dX12_tellCome_3 rfl 0 rfl ?_
  refine gf_10_4 dX12_tellCome_4 hl_X12_20 nl_87 zk_87 zp_87_4 ?_
  refine h_iload_n dX12_tellCome_7 rfl 1 rfl ?_
  refine h_iconst (v := 1) dX12_tellCome_8 (by decide) ?_
  refine h_iadd dX12_tellCome_9 ?_
  refine h_iald dX12_tellCome_10 nl_91 zk_91 (by rw [zn_91]; exact k1) ?_
  refine h_icmp_ge (tgt := 49) dX12_tellCome_11 (by decide) (fun c1 => ?_) (fun c1 => ?_)
  ·
    exact h_vret dX12_tellCome_49 rfl (k2 c1)
  ·
    refine h_aload_n dX12_tellCome_14 rfl 0 rfl ?_
    refine gf_10_12 dX12_tellCome_15 hl_X12_39 nl_87 zk_87 zp_87_12 ?_
    refine h_aload_n dX12_tellCome_18 rfl 0 rfl ?_
    refine gf_10_13 dX12_tellCome_19 hl_X12_147 nl_87 zk_87 ?_
    refine h_aload_n dX12_tellCome_22 rfl 0 rfl ?_
    refine gf_10_4 dX12_tellCome_23 hl_X12_20 nl_87 zk_87 zp_87_4 ?_
    refine h_iload_n dX12_tellCome_26 rfl 1 rfl ?_
    refine h_iconst (v := 2) dX12_tellCome_27 (by decide) ?_
    refine h_iadd dX12_tellCome_28 ?_
    refine h_iload_n dX12_tellCome_29 rfl 2 rfl ?_
    refine h_iadd dX12_tellCome_30 ?_
    refine h_iald dX12_tellCome_31 nl_91 zk_91 (by rw [zn_91]; exact k3 c1) ?_
    refine h_iast dX12_tellCome_32 nl_96 zk_96 (by rw [zn_96]; exact k4 c1) ?_
    refine h_aload_n dX12_tellCome_33 rfl 0 rfl ?_
    refine h_dup dX12_tellCome_34 rfl ?_
    refine gf_10_13 dX12_tellCome_35 hl_X12_147 nl_87 zk_87 ?_
    refine h_iconst (v := 1) dX12_tellCome_38 (by decide) ?_
    refine h_iadd dX12_tellCome_39 ?_
    refine pf_10_13 dX12_tellCome_40 hl_X12_147 nl_87 zk_87 ?_
    refine h_iinc (v := (x2 + 1)) (L' := [(2, .int (x2 + 1)), (0, .ref 87), (1, .int x1)]) dX12_tellCome_43 2 rfl rfl (by decide) rfl ?_
    refine h_goto (tgt := 2) dX12_tellCome_46 (by decide) ?_
    refine h_pick [1, 2, 0] [(0, .ref 87), (1, .int x1), (2, .int (x2 + 1))] rfl ?_
    exact k5 c1
set_option maxHeartbeats 1000000 in
set_option maxRecDepth 4000 in
theorem sg_X12_tell_0 {E : HEn} {d : Nat} {Q : Option Value → HIh → Prop} {I : HIh} {a : Int32}
    (k1 : vp_in (a + 2) 120)
    (k2 : vp_in a 120)
    (k3 : (I 91 a.toNatClampNeg) = 0 → HCall E me_X12_tellCoins (d + 1) [.ref 87, .int a] I (fun v9 J => HGo E (mF E (d + 2) Q) me_X12_tell 73 [] (v9.toList ++ []) J))
    (k4 : ¬ (I 91 a.toNatClampNeg) = 0 → (I 91 a.toNatClampNeg) = 1 → vp_in (a + 3) 120)
    (k5 : ¬ (I 91 a.toNatClampNeg) = 0 → (I 91 a.toNatClampNeg) = 1 → vp_in (0 + (I 91 (a + 2).toNatClampNeg)) 30)
    (k6 : ¬ (I 91 a.toNatClampNeg) = 0 → (I 91 a.toNatClampNeg) = 1 → Q none (setI I 93 (upd (I 93) (0 + (I 91 (a + 2).toNatClampNeg)).toNatClampNeg (I 91 (a + 3).toNatClampNeg))))
    (k7 : ¬ (I 91 a.toNatClampNeg) = 0 → ¬ (I 91 a.toNatClampNeg) = 1 → (I 91 a.toNatClampNeg) = 2 → vp_in (a + 3) 120)
    (k8 : ¬ (I 91 a.toNatClampNeg) = 0 → ¬ (I 91 a.toNatClampNeg) = 1 → (I 91 a.toNatClampNeg) = 2 → vp_in (a + 4) 120)
    (k9 : ¬ (I 91 a.toNatClampNeg) = 0 → ¬ (I 91 a.toNatClampNeg) = 1 → (I 91 a.toNatClampNeg) = 2 → vp_in ((6 + (6 * (I 91 (a + 2).toNatClampNeg))) + (I 91 (a + 3).toNatClampNeg)) 30)
    (k10 : ¬ (I 91 a.toNatClampNeg) = 0 → ¬ (I 91 a.toNatClampNeg) = 1 → (I 91 a.toNatClampNeg) = 2 → Q none (setI I 93 (upd (I 93) ((6 + (6 * (I 91 (a + 2).toNatClampNeg))) + (I 91 (a + 3).toNatClampNeg)).toNatClampNeg (I 91 (a + 4).toNatClampNeg))))
    (k11 : ¬ (I 91 a.toNatClampNeg) = 0 → ¬ (I 91 a.toNatClampNeg) = 1 → ¬ (I 91 a.toNatClampNeg) = 2 → (I 91 a.toNatClampNeg) = 3 → vp_in a 120)
    (k12 : ¬ (I 91 a.toNatClampNeg) = 0 → ¬ (I 91 a.toNatClampNeg) = 1 → ¬ (I 91 a.toNatClampNeg) = 2 → (I 91 a.toNatClampNeg) = 3 → vp_in (I 91 (a + 2).toNatClampNeg) 4)
    (k13 : ¬ (I 91 a.toNatClampNeg) = 0 → ¬ (I 91 a.toNatClampNeg) = 1 → ¬ (I 91 a.toNatClampNeg) = 2 → (I 91 a.toNatClampNeg) = 3 → vp_in (a + 3) 120)
    (k14 : ¬ (I 91 a.toNatClampNeg) = 0 → ¬ (I 91 a.toNatClampNeg) = 1 → ¬ (I 91 a.toNatClampNeg) = 2 → (I 91 a.toNatClampNeg) = 3 → Q none (setI (setI I 94 (upd (I 94) (I 91 (a + 2).toNatClampNeg).toNatClampNeg ((I 91 a.toNatClampNeg) - 3))) 95 (upd ((setI I 94 (upd (I 94) (I 91 (a + 2).toNatClampNeg).toNatClampNeg ((I 91 a.toNatClampNeg) - 3))) 95) (I 91 (a + 2).toNatClampNeg).toNatClampNeg ((setI I 94 (upd (I 94) (I 91 (a + 2).toNatClampNeg).toNatClampNeg ((I 91 a.toNatClampNeg) - 3))) 91 (a + 3).toNatClampNeg))))
    (k15 : ¬ (I 91 a.toNatClampNeg) = 0 → ¬ (I 91 a.toNatClampNeg) = 1 → ¬ (I 91 a.toNatClampNeg) = 2 → ¬ (I 91 a.toNatClampNeg) = 3 → (I 91 a.toNatClampNeg) = 4 → vp_in a 120)
    (k16 : ¬ (I 91 a.toNatClampNeg) = 0 → ¬ (I 91 a.toNatClampNeg) = 1 → ¬ (I 91 a.toNatClampNeg) = 2 → ¬ (I 91 a.toNatClampNeg) = 3 → (I 91 a.toNatClampNeg) = 4 → vp_in (I 91 (a + 2).toNatClampNeg) 4)
    (k17 : ¬ (I 91 a.toNatClampNeg) = 0 → ¬ (I 91 a.toNatClampNeg) = 1 → ¬ (I 91 a.toNatClampNeg) = 2 → ¬ (I 91 a.toNatClampNeg) = 3 → (I 91 a.toNatClampNeg) = 4 → vp_in (a + 3) 120)
    (k18 : ¬ (I 91 a.toNatClampNeg) = 0 → ¬ (I 91 a.toNatClampNeg) = 1 → ¬ (I 91 a.toNatClampNeg) = 2 → ¬ (I 91 a.toNatClampNeg) = 3 → (I 91 a.toNatClampNeg) = 4 → Q none (setI (setI I 94 (upd (I 94) (I 91 (a + 2).toNatClampNeg).toNatClampNeg ((I 91 a.toNatClampNeg) - 3))) 95 (upd ((setI I 94 (upd (I 94) (I 91 (a + 2).toNatClampNeg).toNatClampNeg ((I 91 a.toNatClampNeg) - 3))) 95) (I 91 (a + 2).toNatClampNeg).toNatClampNeg ((setI I 94 (upd (I 94) (I 91 (a + 2).toNatClampNeg).toNatClampNeg ((I 91 a.toNatClampNeg) - 3))) 91 (a + 3).toNatClampNeg))))
    (k19 : ¬ (I 91 a.toNatClampNeg) = 0 → ¬ (I 91 a.toNatClampNeg) = 1 → ¬ (I 91 a.toNatClampNeg) = 2 → ¬ (I 91 a.toNatClampNeg) = 3 → ¬ (I 91 a.toNatClampNeg) = 4 → (I 91 a.toNatClampNeg) = 5 → vp_in a 120)
    (k20 : ¬ (I 91 a.toNatClampNeg) = 0 → ¬ (I 91 a.toNatClampNeg) = 1 → ¬ (I 91 a.toNatClampNeg) = 2 → ¬ (I 91 a.toNatClampNeg) = 3 → ¬ (I 91 a.toNatClampNeg) = 4 → (I 91 a.toNatClampNeg) = 5 → vp_in (I 91 (a + 2).toNatClampNeg) 4)
    (k21 : ¬ (I 91 a.toNatClampNeg) = 0 → ¬ (I 91 a.toNatClampNeg) = 1 → ¬ (I 91 a.toNatClampNeg) = 2 → ¬ (I 91 a.toNatClampNeg) = 3 → ¬ (I 91 a.toNatClampNeg) = 4 → (I 91 a.toNatClampNeg) = 5 → vp_in (a + 3) 120)
    (k22 : ¬ (I 91 a.toNatClampNeg) = 0 → ¬ (I 91 a.toNatClampNeg) = 1 → ¬ (I 91 a.toNatClampNeg) = 2 → ¬ (I 91 a.toNatClampNeg) = 3 → ¬ (I 91 a.toNatClampNeg) = 4 → (I 91 a.toNatClampNeg) = 5 → Q none (setI (setI I 94 (upd (I 94) (I 91 (a + 2).toNatClampNeg).toNatClampNeg ((I 91 a.toNatClampNeg) - 3))) 95 (upd ((setI I 94 (upd (I 94) (I 91 (a + 2).toNatClampNeg).toNatClampNeg ((I 91 a.toNatClampNeg) - 3))) 95) (I 91 (a + 2).toNatClampNeg).toNatClampNeg ((setI I 94 (upd (I 94) (I 91 (a + 2).toNatClampNeg).toNatClampNeg ((I 91 a.toNatClampNeg) - 3))) 91 (a + 3).toNatClampNeg))))
    (k23 : ¬ (I 91 a.toNatClampNeg) = 0 → ¬ (I 91 a.toNatClampNeg) = 1 → ¬ (I 91 a.toNatClampNeg) = 2 → ¬ (I 91 a.toNatClampNeg) = 3 → ¬ (I 91 a.toNatClampNeg) = 4 → ¬ (I 91 a.toNatClampNeg) = 5 → (I 91 a.toNatClampNeg) = 6 → vp_in a 120)
    (k24 : ¬ (I 91 a.toNatClampNeg) = 0 → ¬ (I 91 a.toNatClampNeg) = 1 → ¬ (I 91 a.toNatClampNeg) = 2 → ¬ (I 91 a.toNatClampNeg) = 3 → ¬ (I 91 a.toNatClampNeg) = 4 → ¬ (I 91 a.toNatClampNeg) = 5 → (I 91 a.toNatClampNeg) = 6 → vp_in (I 91 (a + 2).toNatClampNeg) 4)
    (k25 : ¬ (I 91 a.toNatClampNeg) = 0 → ¬ (I 91 a.toNatClampNeg) = 1 → ¬ (I 91 a.toNatClampNeg) = 2 → ¬ (I 91 a.toNatClampNeg) = 3 → ¬ (I 91 a.toNatClampNeg) = 4 → ¬ (I 91 a.toNatClampNeg) = 5 → (I 91 a.toNatClampNeg) = 6 → vp_in (a + 3) 120)
    (k26 : ¬ (I 91 a.toNatClampNeg) = 0 → ¬ (I 91 a.toNatClampNeg) = 1 → ¬ (I 91 a.toNatClampNeg) = 2 → ¬ (I 91 a.toNatClampNeg) = 3 → ¬ (I 91 a.toNatClampNeg) = 4 → ¬ (I 91 a.toNatClampNeg) = 5 → (I 91 a.toNatClampNeg) = 6 → Q none (setI (setI I 94 (upd (I 94) (I 91 (a + 2).toNatClampNeg).toNatClampNeg ((I 91 a.toNatClampNeg) - 3))) 95 (upd ((setI I 94 (upd (I 94) (I 91 (a + 2).toNatClampNeg).toNatClampNeg ((I 91 a.toNatClampNeg) - 3))) 95) (I 91 (a + 2).toNatClampNeg).toNatClampNeg ((setI I 94 (upd (I 94) (I 91 (a + 2).toNatClampNeg).toNatClampNeg ((I 91 a.toNatClampNeg) - 3))) 91 (a + 3).toNatClampNeg))))
    (k27 : ¬ (I 91 a.toNatClampNeg) = 0 → ¬ (I 91 a.toNatClampNeg) = 1 → ¬ (I 91 a.toNatClampNeg) = 2 → ¬ (I 91 a.toNatClampNeg) = 3 → ¬ (I 91 a.toNatClampNeg) = 4 → ¬ (I 91 a.toNatClampNeg) = 5 → ¬ (I 91 a.toNatClampNeg) = 6 → (I 91 a.toNatClampNeg) = 7 → HCall E me_X12_tellCome (d + 1) [.ref 87, .int a] I (fun v9 J => HGo E (mF E (d + 2) Q) me_X12_tell 126 [] (v9.toList ++ []) J))
    (k28 : ¬ (I 91 a.toNatClampNeg) = 0 → ¬ (I 91 a.toNatClampNeg) = 1 → ¬ (I 91 a.toNatClampNeg) = 2 → ¬ (I 91 a.toNatClampNeg) = 3 → ¬ (I 91 a.toNatClampNeg) = 4 → ¬ (I 91 a.toNatClampNeg) = 5 → ¬ (I 91 a.toNatClampNeg) = 6 → ¬ (I 91 a.toNatClampNeg) = 7 → (I 91 a.toNatClampNeg) = 8 → Q none (setI I 87 (upd (I 87) 11 (I 91 (a + 2).toNatClampNeg))))
    (k29 : ¬ (I 91 a.toNatClampNeg) = 0 → ¬ (I 91 a.toNatClampNeg) = 1 → ¬ (I 91 a.toNatClampNeg) = 2 → ¬ (I 91 a.toNatClampNeg) = 3 → ¬ (I 91 a.toNatClampNeg) = 4 → ¬ (I 91 a.toNatClampNeg) = 5 → ¬ (I 91 a.toNatClampNeg) = 6 → ¬ (I 91 a.toNatClampNeg) = 7 → ¬ (I 91 a.toNatClampNeg) = 8 → (I 91 a.toNatClampNeg) = 9 → Q none (setI I 87 (upd (I 87) 13 0)))
    (k30 : ¬ (I 91 a.toNatClampNeg) = 0 → ¬ (I 91 a.toNatClampNeg) = 1 → ¬ (I 91 a.toNatClampNeg) = 2 → ¬ (I 91 a.toNatClampNeg) = 3 → ¬ (I 91 a.toNatClampNeg) = 4 → ¬ (I 91 a.toNatClampNeg) = 5 → ¬ (I 91 a.toNatClampNeg) = 6 → ¬ (I 91 a.toNatClampNeg) = 7 → ¬ (I 91 a.toNatClampNeg) = 8 → ¬ (I 91 a.toNatClampNeg) = 9 → vp_in a 120)
    (k31 : ¬ (I 91 a.toNatClampNeg) = 0 → ¬ (I 91 a.toNatClampNeg) = 1 → ¬ (I 91 a.toNatClampNeg) = 2 → ¬ (I 91 a.toNatClampNeg) = 3 → ¬ (I 91 a.toNatClampNeg) = 4 → ¬ (I 91 a.toNatClampNeg) = 5 → ¬ (I 91 a.toNatClampNeg) = 6 → ¬ (I 91 a.toNatClampNeg) = 7 → ¬ (I 91 a.toNatClampNeg) = 8 → ¬ (I 91 a.toNatClampNeg) = 9 → vp_in (I 91 (a + 2).toNatClampNeg) 4)
    (k32 : ¬ (I 91 a.toNatClampNeg) = 0 → ¬ (I 91 a.toNatClampNeg) = 1 → ¬ (I 91 a.toNatClampNeg) = 2 → ¬ (I 91 a.toNatClampNeg) = 3 → ¬ (I 91 a.toNatClampNeg) = 4 → ¬ (I 91 a.toNatClampNeg) = 5 → ¬ (I 91 a.toNatClampNeg) = 6 → ¬ (I 91 a.toNatClampNeg) = 7 → ¬ (I 91 a.toNatClampNeg) = 8 → ¬ (I 91 a.toNatClampNeg) = 9 → vp_in (a + 3) 120)
    (k33 : ¬ (I 91 a.toNatClampNeg) = 0 → ¬ (I 91 a.toNatClampNeg) = 1 → ¬ (I 91 a.toNatClampNeg) = 2 → ¬ (I 91 a.toNatClampNeg) = 3 → ¬ (I 91 a.toNatClampNeg) = 4 → ¬ (I 91 a.toNatClampNeg) = 5 → ¬ (I 91 a.toNatClampNeg) = 6 → ¬ (I 91 a.toNatClampNeg) = 7 → ¬ (I 91 a.toNatClampNeg) = 8 → ¬ (I 91 a.toNatClampNeg) = 9 → Q none (setI (setI I 94 (upd (I 94) (I 91 (a + 2).toNatClampNeg).toNatClampNeg ((I 91 a.toNatClampNeg) - 3))) 95 (upd ((setI I 94 (upd (I 94) (I 91 (a + 2).toNatClampNeg).toNatClampNeg ((I 91 a.toNatClampNeg) - 3))) 95) (I 91 (a + 2).toNatClampNeg).toNatClampNeg ((setI I 94 (upd (I 94) (I 91 (a + 2).toNatClampNeg).toNatClampNeg ((I 91 a.toNatClampNeg) - 3))) 91 (a + 3).toNatClampNeg))))
    : HGo E (mF E (d + 2) Q) me_X12_tell 0 [(0, .ref 87), (1, .int a)] [] I := by
  refine h_aload_n dX12_tell_0 rfl 0 rfl ?_
  refine gf_10_4 dX12_tell_1 hl_X12_20 nl_87 zk_87 zp_87_4 ?_
  refine h_iload_n dX12_tell_4 rfl 1 rfl ?_
  refine h_iconst (v := 2) dX12_tell_5 (by decide) ?_
  refine h_iadd dX12_tell_6 ?_
  refine h_iald dX12_tell_7 nl_91 zk_91 (by rw [zn_91]; exact k1) ?_
  refine h_istore_n (L' := [(2, .int (I 91 (a + 2).toNatClampNeg)), (0, .ref 87), (1, .int a)]) dX12_tell_8 rfl (by decide) rfl ?_
  refine h_aload_n dX12_tell_9 rfl 1 rfl ?_
  refine gf_10_4 dX12_tell_10 hl_X12_20 nl_87 zk_87 zp_87_4 ?_
  refine h_iload_n dX12_tell_13 rfl 2 rfl ?_
  refine h_iald dX12_tell_14 nl_91 zk_91 (by rw [zn_91]; exact k2) ?_
  by_cases c1 : (I 91 a.toNatClampNeg) = 0
  · refine h_tswIn (off := 53) (tgt := 68) 0 dX12_tell_15 (by rw [c1]; rfl) (by decide) (by decide) (by decide) (by decide) ?_
    refine h_aload_n dX12_tell_68 rfl 1 rfl ?_
    refine h_iload_n dX12_tell_69 rfl 2 rfl ?_
    refine h_pick [] [] rfl ?_
    refine h_invV (As := [.int a]) (st := []) dX12_tell_70 lk_X12_153 (h_room (by decide)) nl_87 zk_87 (by decide) rfl rfl rfl (Nat.le_of_ble_eq_true rfl) ?_
    exact k3 c1
  by_cases c2 : (I 91 a.toNatClampNeg) = 1
  · refine h_tswIn (off := 59) (tgt := 74) 1 dX12_tell_15 (by rw [c2]; rfl) (by decide) (by decide) (by decide) (by decide) ?_
    refine h_aload_n dX12_tell_74 rfl 1 rfl ?_
    refine gf_10_8 dX12_tell_75 hl_X12_30 nl_87 zk_87 zp_87_8 ?_
    refine h_iconst (v := 0) dX12_tell_78 (by decide) ?_
    refine h_iload_n dX12_tell_79 rfl 0 rfl ?_
    refine h_iadd dX12_tell_80 ?_
    refine h_aload_n dX12_tell_81 rfl 1 rfl ?_
    refine gf_10_4 dX12_tell_82 hl_X12_20 nl_87 zk_87 zp_87_4 ?_
    refine h_iload_n dX12_tell_85 rfl 2 rfl ?_
    refine h_iconst (v := 3) dX12_tell_86 (by decide) ?_
    refine h_iadd dX12_tell_87 ?_
    refine h_iald dX12_tell_88 nl_91 zk_91 (by rw [zn_91]; exact k4 c1 c2) ?_
    refine h_iast dX12_tell_89 nl_93 zk_93 (by rw [zn_93]; exact k5 c1 c2) ?_
    exact h_vret dX12_tell_90 rfl (k6 c1 c2)
  by_cases c3 : (I 91 a.toNatClampNeg) = 2
  · refine h_tswIn (off := 76) (tgt := 91) 2 dX12_tell_15 (by rw [c3]; rfl) (by decide) (by decide) (by decide) (by decide) ?_
    refine h_aload_n dX12_tell_91 rfl 1 rfl ?_
    refine gf_10_8 dX12_tell_92 hl_X12_30 nl_87 zk_87 zp_87_8 ?_
    refine h_bipush (v := 6) dX12_tell_95 (by decide) ?_
    refine h_bipush (v := 6) dX12_tell_97 (by decide) ?_
    refine h_iload_n dX12_tell_99 rfl 0 rfl ?_
    refine h_imul dX12_tell_100 ?_
    refine h_iadd dX12_tell_101 ?_
    refine h_aload_n dX12_tell_102 rfl 1 rfl ?_
    refine gf_10_4 dX12_tell_103 hl_X12_20 nl_87 zk_87 zp_87_4 ?_
    refine h_iload_n dX12_tell_106 rfl 2 rfl ?_
    refine h_iconst (v := 3) dX12_tell_107 (by decide) ?_
    refine h_iadd dX12_tell_108 ?_
    refine h_iald dX12_tell_109 nl_91 zk_91 (by rw [zn_91]; exact k7 c1 c2 c3) ?_
    refine h_iadd dX12_tell_110 ?_
    refine h_aload_n dX12_tell_111 rfl 1 rfl ?_
    refine gf_10_4 dX12_tell_112 hl_X12_20 nl_87 zk_87 zp_87_4 ?_
    refine h_iload_n dX12_tell_115 rfl 2 rfl ?_
    refine h_iconst (v := 4) dX12_tell_116 (by decide) ?_
    refine h_iadd dX12_tell_117 ?_
    refine h_iald dX12_tell_118 nl_91 zk_91 (by rw [zn_91]; exact k8 c1 c2 c3) ?_
    refine h_iast dX12_tell_119 nl_93 zk_93 (by rw [zn_93]; exact k9 c1 c2 c3) ?_
    exact h_vret dX12_tell_120 rfl (k10 c1 c2 c3)
  by_cases c4 : (I 91 a.toNatClampNeg) = 3
  · refine h_tswIn (off := 124) (tgt := 139) 3 dX12_tell_15 (by rw [c4]; rfl) (by decide) (by decide) (by decide) (by decide) ?_
    refine h_aload_n dX12_tell_139 rfl 1 rfl ?_
    refine gf_10_9 dX12_tell_140 hl_X12_33 nl_87 zk_87 zp_87_9 ?_
    refine h_iload_n dX12_tell_143 rfl 0 rfl ?_
    refine h_aload_n dX12_tell_144 rfl 1 rfl ?_
    refine gf_10_4 dX12_tell_145 hl_X12_20 nl_87 zk_87 zp_87_4 ?_
    refine h_iload_n dX12_tell_148 rfl 2 rfl ?_
    refine h_iald dX12_tell_149 nl_91 zk_91 (by rw [zn_91]; exact k11 c1 c2 c3 c4) ?_
    refine h_iconst (v := 3) dX12_tell_150 (by decide) ?_
    refine h_isub dX12_tell_151 ?_
    refine h_iast dX12_tell_152 nl_94 zk_94 (by rw [zn_94]; exact k12 c1 c2 c3 c4) ?_
    refine h_aload_n dX12_tell_153 rfl 1 rfl ?_
    refine gf_10_10 dX12_tell_154 hl_X12_36 nl_87 zk_87 zp_87_10 ?_
    refine h_iload_n dX12_tell_157 rfl 0 rfl ?_
    refine h_aload_n dX12_tell_158 rfl 1 rfl ?_
    refine gf_10_4 dX12_tell_159 hl_X12_20 nl_87 zk_87 zp_87_4 ?_
    refine h_iload_n dX12_tell_162 rfl 2 rfl ?_
    refine h_iconst (v := 3) dX12_tell_163 (by decide) ?_
    refine h_iadd dX12_tell_164 ?_
    refine h_iald dX12_tell_165 nl_91 zk_91 (by rw [zn_91]; exact k13 c1 c2 c3 c4) ?_
    refine h_iast dX12_tell_166 nl_95 zk_95 (by rw [zn_95]; exact k12 c1 c2 c3 c4) ?_
    exact h_vret dX12_tell_167 rfl (k14 c1 c2 c3 c4)
  by_cases c5 : (I 91 a.toNatClampNeg) = 4
  · refine h_tswIn (off := 124) (tgt := 139) 4 dX12_tell_15 (by rw [c5]; rfl) (by decide) (by decide) (by decide) (by decide) ?_
    refine h_aload_n dX12_tell_139 rfl 1 rfl ?_
    refine gf_10_9 dX12_tell_140 hl_X12_33 nl_87 zk_87 zp_87_9 ?_
    refine h_iload_n dX12_tell_143 rfl 0 rfl ?_
    refine h_aload_n dX12_tell_144 rfl 1 rfl ?_
    refine gf_10_4 dX12_tell_145 hl_X12_20 nl_87 zk_87 zp_87_4 ?_
    refine h_iload_n dX12_tell_148 rfl 2 rfl ?_
    refine h_iald dX12_tell_149 nl_91 zk_91 (by rw [zn_91]; exact k15 c1 c2 c3 c4 c5) ?_
    refine h_iconst (v := 3) dX12_tell_150 (by decide) ?_
    refine h_isub dX12_tell_151 ?_
    refine h_iast dX12_tell_152 nl_94 zk_94 (by rw [zn_94]; exact k16 c1 c2 c3 c4 c5) ?_
    refine h_aload_n dX12_tell_153 rfl 1 rfl ?_
    refine gf_10_10 dX12_tell_154 hl_X12_36 nl_87 zk_87 zp_87_10 ?_
    refine h_iload_n dX12_tell_157 rfl 0 rfl ?_
    refine h_aload_n dX12_tell_158 rfl 1 rfl ?_
    refine gf_10_4 dX12_tell_159 hl_X12_20 nl_87 zk_87 zp_87_4 ?_
    refine h_iload_n dX12_tell_162 rfl 2 rfl ?_
    refine h_iconst (v := 3) dX12_tell_163 (by decide) ?_
    refine h_iadd dX12_tell_164 ?_
    refine h_iald dX12_tell_165 nl_91 zk_91 (by rw [zn_91]; exact k17 c1 c2 c3 c4 c5) ?_
    refine h_iast dX12_tell_166 nl_95 zk_95 (by rw [zn_95]; exact k16 c1 c2 c3 c4 c5) ?_
    exact h_vret dX12_tell_167 rfl (k18 c1 c2 c3 c4 c5)
  by_cases c6 : (I 91 a.toNatClampNeg) = 5
  · refine h_tswIn (off := 124) (tgt := 139) 5 dX12_tell_15 (by rw [c6]; rfl) (by decide) (by decide) (by decide) (by decide) ?_
    refine h_aload_n dX12_tell_139 rfl 1 rfl ?_
    refine gf_10_9 dX12_tell_140 hl_X12_33 nl_87 zk_87 zp_87_9 ?_
    refine h_iload_n dX12_tell_143 rfl 0 rfl ?_
    refine h_aload_n dX12_tell_144 rfl 1 rfl ?_
    refine gf_10_4 dX12_tell_145 hl_X12_20 nl_87 zk_87 zp_87_4 ?_
    refine h_iload_n dX12_tell_148 rfl 2 rfl ?_
    refine h_iald dX12_tell_149 nl_91 zk_91 (by rw [zn_91]; exact k19 c1 c2 c3 c4 c5 c6) ?_
    refine h_iconst (v := 3) dX12_tell_150 (by decide) ?_
    refine h_isub dX12_tell_151 ?_
    refine h_iast dX12_tell_152 nl_94 zk_94 (by rw [zn_94]; exact k20 c1 c2 c3 c4 c5 c6) ?_
    refine h_aload_n dX12_tell_153 rfl 1 rfl ?_
    refine gf_10_10 dX12_tell_154 hl_X12_36 nl_87 zk_87 zp_87_10 ?_
    refine h_iload_n dX12_tell_157 rfl 0 rfl ?_
    refine h_aload_n dX12_tell_158 rfl 1 rfl ?_
    refine gf_10_4 dX12_tell_159 hl_X12_20 nl_87 zk_87 zp_87_4 ?_
    refine h_iload_n dX12_tell_162 rfl 2 rfl ?_
    refine h_iconst (v := 3) dX12_tell_163 (by decide) ?_
    refine h_iadd dX12_tell_164 ?_
    refine h_iald dX12_tell_165 nl_91 zk_91 (by rw [zn_91]; exact k21 c1 c2 c3 c4 c5 c6) ?_
    refine h_iast dX12_tell_166 nl_95 zk_95 (by rw [zn_95]; exact k20 c1 c2 c3 c4 c5 c6) ?_
    exact h_vret dX12_tell_167 rfl (k22 c1 c2 c3 c4 c5 c6)
  by_cases c7 : (I 91 a.toNatClampNeg) = 6
  · refine h_tswIn (off := 124) (tgt := 139) 6 dX12_tell_15 (by rw [c7]; rfl) (by decide) (by decide) (by decide) (by decide) ?_
    refine h_aload_n dX12_tell_139 rfl 1 rfl ?_
    refine gf_10_9 dX12_tell_140 hl_X12_33 nl_87 zk_87 zp_87_9 ?_
    refine h_iload_n dX12_tell_143 rfl 0 rfl ?_
    refine h_aload_n dX12_tell_144 rfl 1 rfl ?_
    refine gf_10_4 dX12_tell_145 hl_X12_20 nl_87 zk_87 zp_87_4 ?_
    refine h_iload_n dX12_tell_148 rfl 2 rfl ?_
    refine h_iald dX12_tell_149 nl_91 zk_91 (by rw [zn_91]; exact k23 c1 c2 c3 c4 c5 c6 c7) ?_
    refine h_iconst (v := 3) dX12_tell_150 (by decide) ?_
    refine h_isub dX12_tell_151 ?_
    refine h_iast dX12_tell_152 nl_94 zk_94 (by rw [zn_94]; exact k24 c1 c2 c3 c4 c5 c6 c7) ?_
    refine h_aload_n dX12_tell_153 rfl 1 rfl ?_
    refine gf_10_10 dX12_tell_154 hl_X12_36 nl_87 zk_87 zp_87_10 ?_
    refine h_iload_n dX12_tell_157 rfl 0 rfl ?_
    refine h_aload_n dX12_tell_158 rfl 1 rfl ?_
    refine gf_10_4 dX12_tell_159 hl_X12_20 nl_87 zk_87 zp_87_4 ?_
    refine h_iload_n dX12_tell_162 rfl 2 rfl ?_
    refine h_iconst (v := 3) dX12_tell_163 (by decide) ?_
    refine h_iadd dX12_tell_164 ?_
    refine h_iald dX12_tell_165 nl_91 zk_91 (by rw [zn_91]; exact k25 c1 c2 c3 c4 c5 c6 c7) ?_
    refine h_iast dX12_tell_166 nl_95 zk_95 (by rw [zn_95]; exact k24 c1 c2 c3 c4 c5 c6 c7) ?_
    exact h_vret dX12_tell_167 rfl (k26 c1 c2 c3 c4 c5 c6 c7)
  by_cases c8 : (I 91 a.toNatClampNeg) = 7
  · refine h_tswIn (off := 106) (tgt := 121) 7 dX12_tell_15 (by rw [c8]; rfl) (by decide) (by decide) (by decide) (by decide) ?_
    refine h_aload_n dX12_tell_121 rfl 1 rfl ?_
    refine h_iload_n dX12_tell_122 rfl 2 rfl ?_
    refine h_pick [] [] rfl ?_
    refine h_invV (As := [.int a]) (st := []) dX12_tell_123 lk_X12_157 (h_room (by decide)) nl_87 zk_87 (by decide) rfl rfl rfl (Nat.le_of_ble_eq_true rfl) ?_
    exact k27 c1 c2 c3 c4 c5 c6 c7 c8
  by_cases c9 : (I 91 a.toNatClampNeg) = 8
  · refine h_tswIn (off := 112) (tgt := 127) 8 dX12_tell_15 (by rw [c9]; rfl) (by decide) (by decide) (by decide) (by decide) ?_
    refine h_aload_n dX12_tell_127 rfl 1 rfl ?_
    refine h_iload_n dX12_tell_128 rfl 0 rfl ?_
    refine pf_10_11 dX12_tell_129 hl_X12_160 nl_87 zk_87 ?_
    exact h_vret dX12_tell_132 rfl (k28 c1 c2 c3 c4 c5 c6 c7 c8 c9)
  by_cases c10 : (I 91 a.toNatClampNeg) = 9
  · refine h_tswIn (off := 118) (tgt := 133) 9 dX12_tell_15 (by rw [c10]; rfl) (by decide) (by decide) (by decide) (by decide) ?_
    refine h_aload_n dX12_tell_133 rfl 1 rfl ?_
    refine h_iconst (v := 0) dX12_tell_134 (by decide) ?_
    refine pf_10_13 dX12_tell_135 hl_X12_147 nl_87 zk_87 ?_
    exact h_vret dX12_tell_138 rfl (k29 c1 c2 c3 c4 c5 c6 c7 c8 c9 c10)
  refine h_tswOut (tgt := 139) dX12_tell_15 (tsw_out10 c1 c2 c3 c4 c5 c6 c7 c8 c9 c10) (by decide) ?_
  refine h_aload_n dX12_tell_139 rfl 1 rfl ?_
  refine gf_10_9 dX12_tell_140 hl_X12_33 nl_87 zk_87 zp_87_9 ?_
  refine h_iload_n dX12_tell_143 rfl 0 rfl ?_
  refine h_aload_n dX12_tell_144 rfl 1 rfl ?_
  refine gf_10_4 dX12_tell_145 hl_X12_20 nl_87 zk_87 zp_87_4 ?_
  refine h_iload_n dX12_tell_148 rfl 2 rfl ?_
  refine h_iald dX12_tell_149 nl_91 zk_91 (by rw [zn_91]; exact k30 c1 c2 c3 c4 c5 c6 c7 c8 c9 c10) ?_
  refine h_iconst (v := 3) dX12_tell_150 (by decide) ?_
  refine h_isub dX12_tell_151 ?_
  refine h_iast dX12_tell_152 nl_94 zk_94 (by rw [zn_94]; exact k31 c1 c2 c3 c4 c5 c6 c7 c8 c9 c10) ?_
  refine h_aload_n dX12_tell_153 rfl 1 rfl ?_
  refine gf_10_10 dX12_tell_154 hl_X12_36 nl_87 zk_87 zp_87_10 ?_
  refine h_iload_n dX12_tell_157 rfl 0 rfl ?_
  refine h_aload_n dX12_tell_158 rfl 1 rfl ?_
  refine gf_10_4 dX12_tell_159 hl_X12_20 nl_87 zk_87 zp_87_4 ?_
  refine h_iload_n dX12_tell_162 rfl 2 rfl ?_
  refine h_iconst (v := 3) dX12_tell_163 (by decide) ?_
  refine h_iadd dX12_tell_164 ?_
  refine h_iald dX12_tell_165 nl_91 zk_91 (by rw [zn_91]; exact k32 c1 c2 c3 c4 c5 c6 c7 c8 c9 c10) ?_
  refine h_iast dX12_tell_166 nl_95 zk_95 (by rw [zn_95]; exact k31 c1 c2 c3 c4 c5 c6 c7 c8 c9 c10) ?_
  exact h_vret dX12_tell_167 rfl (k33 c1 c2 c3 c4 c5 c6 c7 c8 c9 c10)
set_option maxHeartbeats 1000000 in
set_option maxRecDepth 4000 in
theorem sg_X12_tell_73 {E : HEn} {d : Nat} {Q : Option Value → HIh → Prop} {I : HIh} 
    (k1 : Q none I)
    : HGo E (mF E (d + 2) Q) me_X12_tell 73 [] [] I := by
  exact h_vret dX12_tell_73 rfl (k1)
set_option maxHeartbeats 1000000 in
set_option maxRecDepth 4000 in
theorem sg_X12_tell_126 {E : HEn} {d : Nat} {Q : Option Value → HIh → Prop} {I : HIh} 
    (k1 : Q none I)
    : HGo E (mF E (d + 2) Q) me_X12_tell 126 [] [] I := by
  exact h_vret dX12_tell_126 rfl (k1)
set_option maxHeartbeats 1000000 in
set_option maxRecDepth 4000 in
theorem sg_X12_sunday_0 {E : HEn} {d : Nat} {Q : Option Value → HIh → Prop} {I : HIh} 
    (k1 : HCall E me_X12_fault (d + 7) [.ref 87] I (fun v9 J => HGo E (mF E (d + 8) Q) me_X12_sunday 4 [(0, .ref 87)] (v9.toList ++ []) J))
    : HGo E (mF E (d + 8) Q) me_X12_sunday 0 [(0, .ref 87)] [] I := by
  refine h_aload_n dX12_sunday_0 rfl 0 rfl ?_
  refine h_invV (As := []) (st := []) dX12_sunday_1 lk_X12_163 (h_room (by decide)) nl_87 zk_87 (by decide) rfl rfl rfl (Nat.le_of_ble_eq_true rfl) ?_
  exact k1
set_option maxHeartbeats 1000000 in
set_option maxRecDepth 4000 in
theorem sg_X12_sunday_4 {E : HEn} {d : Nat} {Q : Option Value → HIh → Prop} {I : HIh} {s0 : Int32}
    (k1 : s0 = (-1) → HGo E (mF E (d + 8) Q) me_X12_sunday 13 [(0, .ref 87), (1, .int 0)] [] I)
    (k2 : ¬ s0 = (-1) → Q (some (.int (-4))) I)
    : HGo E (mF E (d + 8) Q) me_X12_sunday 4 [(0, .ref 87)] [.int s0] I := by
  refine h_iconst (v := (-1)) dX12_sunday_4 (by decide) ?_
  refine h_icmp_eq (tgt := 11) dX12_sunday_5 (by decide) (fun c1 => ?_) (fun c1 => ?_)
  ·
    refine h_iconst (v := 0) dX12_sunday_11 (by decide) ?_
    refine h_istore_n (L' := [(1, .int 0), (0, .ref 87)]) dX12_sunday_12 rfl (by decide) rfl ?_
    refine h_pick [1, 0] [(0, .ref 87), (1, .int 0)] rfl ?_
    exact k1 c1
  ·
    refine h_bipush (v := (-4)) dX12_sunday_8 (by decide) ?_
    exact h_iret dX12_sunday_10 rfl (k2 c1)
set_option maxHeartbeats 1000000 in
set_option maxRecDepth 4000 in
theorem sg_X12_sunday_13 {E : HEn} {d : Nat} {Q : Option Value → HIh → Prop} {I : HIh} {x1 : Int32}
    (k1 : (I 87 5) ≤ x1 → HCall E me_X12_begin (d + 7) [.ref 87] I (fun v9 J => HGo E (mF E (d + 8) Q) me_X12_sunday 39 [(0, .ref 87)] (v9.toList ++ []) J))
    (k2 : ¬ (I 87 5) ≤ x1 → HCall E me_X12_tell (d + 7) [.ref 87, .int (12 * x1)] I (fun v9 J => HGo E (mF E (d + 8) Q) me_X12_sunday 29 [(0, .ref 87), (1, .int x1)] (v9.toList ++ []) J))
    : HGo E (mF E (d + 8) Q) me_X12_sunday 13 [(0, .ref 87), (1, .int x1)] [] I := by
  refine h_iload_n dX12_sunday_13 rfl 1 rfl ?_
  refine h_aload_n dX12_sunday_14 rfl 0 rfl ?_
  refine gf_10_5 dX12_sunday_15 hl_X12_118 nl_87 zk_87 ?_
  refine h_icmp_ge (tgt := 35) dX12_sunday_18 (by decide) (fun c1 => ?_) (fun c1 => ?_)
  ·
    refine h_aload_n dX12_sunday_35 rfl 0 rfl ?_
    refine h_pick [0] [(0, .ref 87)] rfl ?_
    refine h_invV (As := []) (st := []) dX12_sunday_36 lk_X12_169 (h_room (by decide)) nl_87 zk_87 (by decide) rfl rfl rfl (Nat.le_of_ble_eq_true rfl) ?_
    exact k1 c1
  ·
    refine h_aload_n dX12_sunday_21 rfl 0 rfl ?_
    refine h_bipush (v := 12) dX12_sunday_22 (by decide) ?_
    refine h_iload_n dX12_sunday_24 rfl 1 rfl ?_
    refine h_imul dX12_sunday_25 ?_
    refine h_invV (As := [.int (12 * x1)]) (st := []) dX12_sunday_26 lk_X12_166 (h_room (by decide)) nl_87 zk_87 (by decide) rfl rfl rfl (Nat.le_of_ble_eq_true rfl) ?_
    exact k2 c1
set_option maxHeartbeats 1000000 in
set_option maxRecDepth 4000 in
theorem sg_X12_sunday_39 {E : HEn} {d : Nat} {Q : Option Value → HIh → Prop} {I : HIh} 
    (k1 : Q (some (.int ((setI (setI (setI (setI I 87 (upd (I 87) 27 0)) 89 (upd ((setI I 87 (upd (I 87) 27 0)) 89) 0 0)) 89 (upd ((setI (setI I 87 (upd (I 87) 27 0)) 89 (upd ((setI I 87 (upd (I 87) 27 0)) 89) 0 0)) 89) 1 0)) 87 (upd ((setI (setI (setI I 87 (upd (I 87) 27 0)) 89 (upd ((setI I 87 (upd (I 87) 27 0)) 89) 0 0)) 89 (upd ((setI (setI I 87 (upd (I 87) 27 0)) 89 (upd ((setI I 87 (upd (I 87) 27 0)) 89) 0 0)) 89) 1 0)) 87) 3 0)) 87 5))) (setI (setI (setI (setI I 87 (upd (I 87) 27 0)) 89 (upd ((setI I 87 (upd (I 87) 27 0)) 89) 0 0)) 89 (upd ((setI (setI I 87 (upd (I 87) 27 0)) 89 (upd ((setI I 87 (upd (I 87) 27 0)) 89) 0 0)) 89) 1 0)) 87 (upd ((setI (setI (setI I 87 (upd (I 87) 27 0)) 89 (upd ((setI I 87 (upd (I 87) 27 0)) 89) 0 0)) 89 (upd ((setI (setI I 87 (upd (I 87) 27 0)) 89 (upd ((setI I 87 (upd (I 87) 27 0)) 89) 0 0)) 89) 1 0)) 87) 3 0)))
    : HGo E (mF E (d + 8) Q) me_X12_sunday 39 [(0, .ref 87)] [] I := by
  refine h_aload_n dX12_sunday_39 rfl 0 rfl ?_
  refine h_iconst (v := 0) dX12_sunday_40 (by decide) ?_
  refine pf_10_27 dX12_sunday_41 hl_X12_172 nl_87 zk_87 ?_
  refine h_aload_n dX12_sunday_44 rfl 0 rfl ?_
  refine gf_10_1 dX12_sunday_45 hl_X12_13 nl_87 zk_87 zp_87_1 ?_
  refine h_iconst (v := 0) dX12_sunday_48 (by decide) ?_
  refine h_iconst (v := 0) dX12_sunday_49 (by decide) ?_
  refine h_zast dX12_sunday_50 nl_89 zk_89 (vp_lit (by rw [zn_89]; decide)) rfl ?_
  refine h_aload_n dX12_sunday_51 rfl 0 rfl ?_
  refine gf_10_1 dX12_sunday_52 hl_X12_13 nl_87 zk_87 zp_87_1 ?_
  refine h_iconst (v := 1) dX12_sunday_55 (by decide) ?_
  refine h_iconst (v := 0) dX12_sunday_56 (by decide) ?_
  refine h_zast dX12_sunday_57 nl_89 zk_89 (vp_lit (by rw [zn_89]; decide)) rfl ?_
  refine h_aload_n dX12_sunday_58 rfl 0 rfl ?_
  refine h_iconst (v := 0) dX12_sunday_59 (by decide) ?_
  refine pf_10_3 dX12_sunday_60 hl_X12_66 nl_87 zk_87 ?_
  refine h_aload_n dX12_sunday_63 rfl 0 rfl ?_
  refine gf_10_5 dX12_sunday_64 hl_X12_118 nl_87 zk_87 ?_
  exact h_iret dX12_sunday_67 rfl (k1)
set_option maxHeartbeats 1000000 in
set_option maxRecDepth 4000 in
theorem sg_X12_sunday_29 {E : HEn} {d : Nat} {Q : Option Value → HIh → Prop} {I : HIh} {x1 : Int32}
    (k1 : HGo E (mF E (d + 8) Q) me_X12_sunday 13 [(0, .ref 87), (1, .int (x1 + 1))] [] I)
    : HGo E (mF E (d + 8) Q) me_X12_sunday 29 [(0, .ref 87), (1, .int x1)] [] I := by
  refine h_iinc (v := (x1 + 1)) (L' := [(1, .int (x1 + 1)), (0, .ref 87)]) dX12_sunday_29 1 rfl rfl (by decide) rfl ?_
  refine h_goto (tgt := 13) dX12_sunday_32 (by decide) ?_
  refine h_pick [1, 0] [(0, .ref 87), (1, .int (x1 + 1))] rfl ?_
  exact k1
set_option maxHeartbeats 1000000 in
set_option maxRecDepth 4000 in
theorem sg_X12_coin_0 {E : HEn} {d : Nat} {Q : Option Value → HIh → Prop} {I : HIh} {a : Int32} {b : Int32}
    (k1 : (0 : Int32) ≤ a → a ≤ I 87 6 - 1 → ¬ b = 0 → ¬ b = 1 → Q (some (.int (-3))) I)
    (k2 : (0 : Int32) ≤ a → a ≤ I 87 6 - 1 → ¬ b = 0 → b = 1 → vp_in (0 + a) 341)
    (k3 : (0 : Int32) ≤ a → a ≤ I 87 6 - 1 → ¬ b = 0 → b = 1 → Q (some (.int (I 88 (0 + a).toNatClampNeg))) I)
    (k4 : (0 : Int32) ≤ a → a ≤ I 87 6 - 1 → b = 0 → vp_in a 6)
    (k5 : (0 : Int32) ≤ a → a ≤ I 87 6 - 1 → b = 0 → Q (some (.int (I 92 a.toNatClampNeg))) I)
    (k6 : ¬ ((0 : Int32) ≤ a ∧ a ≤ I 87 6 - 1) → Q (some (.int (-2))) I)
    : HGo E (mF E (d + 3) Q) me_X12_coin 0 [(0, .ref 87), (1, .int a), (2, .int b)] [] I := by
  refine h_aload_n dX12_coin_0 rfl 0 rfl ?_
  refine h_iload_n dX12_coin_1 rfl 1 rfl ?_
  refine h_invV (As := [.int a]) (st := []) dX12_coin_2 lk_X12_177 (h_room (by decide)) nl_87 zk_87 (by decide) rfl rfl rfl (Nat.le_of_ble_eq_true rfl) ?_
  refine c_X12_isKind (fun c1 c2 => ?_) (fun c3 => ?_)
  ·
    refine h_if_ne (tgt := 11) dX12_coin_5 (by decide) (fun _ => ?_) (fun c => absurd c (by decide))
    refine h_iload_n dX12_coin_11 rfl 2 rfl ?_
    refine h_if_ne (tgt := 24) dX12_coin_12 (by decide) (fun c4 => ?_) (fun c4 => ?_)
    ·
      refine h_iload_n dX12_coin_24 rfl 2 rfl ?_
      refine h_iconst (v := 1) dX12_coin_25 (by decide) ?_
      refine h_icmp_ne (tgt := 40) dX12_coin_26 (by decide) (fun c5 => ?_) (fun c5 => ?_)
      ·
        refine h_bipush (v := (-3)) dX12_coin_40 (by decide) ?_
        exact h_iret dX12_coin_42 rfl (k1 c1 c2 c4 c5)
      ·
        refine h_aload_n dX12_coin_29 rfl 0 rfl ?_
        refine gf_10_0 dX12_coin_30 hl_X12_7 nl_87 zk_87 zp_87_0 ?_
        refine h_iconst (v := 0) dX12_coin_33 (by decide) ?_
        refine h_iload_n dX12_coin_34 rfl 1 rfl ?_
        refine h_iadd dX12_coin_35 ?_
        refine h_iald dX12_coin_36 nl_88 zk_88 (by rw [zn_88]; exact k2 c1 c2 c4 c5) ?_
        refine h_goto (tgt := 42) dX12_coin_37 (by decide) ?_
        exact h_iret dX12_coin_42 rfl (k3 c1 c2 c4 c5)
    ·
      refine h_aload_n dX12_coin_15 rfl 0 rfl ?_
      refine gf_10_7 dX12_coin_16 hl_X12_27 nl_87 zk_87 zp_87_7 ?_
      refine h_iload_n dX12_coin_19 rfl 1 rfl ?_
      refine h_iald dX12_coin_20 nl_92 zk_92 (by rw [zn_92]; exact k4 c1 c2 c4) ?_
      refine h_goto (tgt := 42) dX12_coin_21 (by decide) ?_
      exact h_iret dX12_coin_42 rfl (k5 c1 c2 c4)
  ·
    refine h_if_ne (tgt := 11) dX12_coin_5 (by decide) (fun c => absurd c (by decide)) (fun _ => ?_)
    refine h_bipush (v := (-2)) dX12_coin_8 (by decide) ?_
    exact h_iret dX12_coin_10 rfl (k6 c3)
set_option maxHeartbeats 1000000 in
set_option maxRecDepth 4000 in
theorem sg_X12_purse_0 {E : HEn} {d : Nat} {Q : Option Value → HIh → Prop} {I : HIh} {a : Int32} {b : Int32}
    (k1 : (0 : Int32) ≤ a → a < 4 → (0 : Int32) ≤ b → b ≤ I 87 6 - 1 → vp_in ((6 + (6 * a)) + b) 341)
    (k2 : (0 : Int32) ≤ a → a < 4 → (0 : Int32) ≤ b → b ≤ I 87 6 - 1 → Q (some (.int (I 88 ((6 + (6 * a)) + b).toNatClampNeg))) I)
    (k3 : (0 : Int32) ≤ a → a < 4 → ¬ ((0 : Int32) ≤ b ∧ b ≤ I 87 6 - 1) → Q (some (.int (-2))) I)
    (k4 : ¬ ((0 : Int32) ≤ a ∧ a < 4) → Q (some (.int (-2))) I)
    : HGo E (mF E (d + 3) Q) me_X12_purse 0 [(0, .ref 87), (1, .int a), (2, .int b)] [] I := by
  refine h_iload_n dX12_purse_0 rfl 1 rfl ?_
  refine h_invS (As := [.int a]) (st := []) dX12_purse_1 lk_X12_180 (h_room (by decide)) rfl rfl (Nat.le_of_ble_eq_true rfl) ?_
  refine c_X12_isPerson (fun c1 c2 => ?_) (fun c3 => ?_)
  ·
    refine h_if_eq (tgt := 32) dX12_purse_4 (by decide) (fun c => absurd c (by decide)) (fun _ => ?_)
    refine h_aload_n dX12_purse_7 rfl 0 rfl ?_
    refine h_iload_n dX12_purse_8 rfl 2 rfl ?_
    refine h_invV (As := [.int b]) (st := []) dX12_purse_9 lk_X12_177 (h_room (by decide)) nl_87 zk_87 (by decide) rfl rfl rfl (Nat.le_of_ble_eq_true rfl) ?_
    refine c_X12_isKind (fun c4 c5 => ?_) (fun c6 => ?_)
    ·
      refine h_if_eq (tgt := 32) dX12_purse_12 (by decide) (fun c => absurd c (by decide)) (fun _ => ?_)
      refine h_aload_n dX12_purse_15 rfl 0 rfl ?_
      refine gf_10_0 dX12_purse_16 hl_X12_7 nl_87 zk_87 zp_87_0 ?_
      refine h_bipush (v := 6) dX12_purse_19 (by decide) ?_
      refine h_bipush (v := 6) dX12_purse_21 (by decide) ?_
      refine h_iload_n dX12_purse_23 rfl 1 rfl ?_
      refine h_imul dX12_purse_24 ?_
      refine h_iadd dX12_purse_25 ?_
      refine h_iload_n dX12_purse_26 rfl 2 rfl ?_
      refine h_iadd dX12_purse_27 ?_
      refine h_iald dX12_purse_28 nl_88 zk_88 (by rw [zn_88]; exact k1 c1 c2 c4 c5) ?_
      refine h_goto (tgt := 34) dX12_purse_29 (by decide) ?_
      exact h_iret dX12_purse_34 rfl (k2 c1 c2 c4 c5)
    ·
      refine h_if_eq (tgt := 32) dX12_purse_12 (by decide) (fun _ => ?_) (fun c => absurd c (by decide))
      refine h_bipush (v := (-2)) dX12_purse_32 (by decide) ?_
      exact h_iret dX12_purse_34 rfl (k3 c1 c2 c6)
  ·
    refine h_if_eq (tgt := 32) dX12_purse_4 (by decide) (fun _ => ?_) (fun c => absurd c (by decide))
    refine h_bipush (v := (-2)) dX12_purse_32 (by decide) ?_
    exact h_iret dX12_purse_34 rfl (k4 c3)
set_option maxHeartbeats 1000000 in
set_option maxRecDepth 4000 in
theorem sg_X12_worthOf_0 {E : HEn} {d : Nat} {Q : Option Value → HIh → Prop} {I : HIh} {a : Int32} {b : Int32}
    (k1 : HGo E (mF E (d + 1) Q) me_X12_worthOf 5 [(0, .ref 87), (1, .int a), (2, .int b), (3, .int 0), (4, .int 0)] [] I)
    : HGo E (mF E (d + 1) Q) me_X12_worthOf 0 [(0, .ref 87), (1, .int a), (2, .int b)] [] I := by
  refine h_iconst (v := 0) dX12_worthOf_0 (by decide) ?_
  refine h_istore_n (L' := [(3, .int 0), (0, .ref 87), (1, .int a), (2, .int b)]) dX12_worthOf_1 rfl (by decide) rfl ?_
  refine h_iconst (v := 0) dX12_worthOf_2 (by decide) ?_
  refine h_istore (L' := [(4, .int 0), (3, .int 0), (0, .ref 87), (1, .int a), (2, .int b)]) dX12_worthOf_3 (by decide) rfl ?_
  refine h_pick [2, 3, 4, 1, 0] [(0, .ref 87), (1, .int a), (2, .int b), (3, .int 0), (4, .int 0)] rfl ?_
  exact k1
set_option maxHeartbeats 1000000 in
set_option maxRecDepth 4000 in
theorem sg_X12_worthOf_5 {E : HEn} {d : Nat} {Q : Option Value → HIh → Prop} {I : HIh} {x1 : Int32} {x2 : Int32} {x3 : Int32} {x4 : Int32}
    (k1 : (I 87 6) ≤ x4 → Q (some (.int x3)) I)
    (k2 : ¬ (I 87 6) ≤ x4 → vp_in (((x1 + 6) + (6 * x2)) + x4) 341)
    (k3 : ¬ (I 87 6) ≤ x4 → vp_in x4 6)
    (k4 : ¬ (I 87 6) ≤ x4 → HGo E (mF E (d + 1) Q) me_X12_worthOf 5 [(0, .ref 87), (1, .int x1), (2, .int x2), (3, .int (x3 + ((I 88 (((x1 + 6) + (6 * x2)) + x4).toNatClampNeg) * (I 92 x4.toNatClampNeg)))), (4, .int (x4 + 1))] [] I)
    : HGo E (mF E (d + 1) Q) me_X12_worthOf 5 [(0, .ref 87), (1, .int x1), (2, .int x2), (3, .int x3), (4, .int x4)] [] I := by
  refine h_iload dX12_worthOf_5 4 rfl ?_
  refine h_aload_n dX12_worthOf_7 rfl 0 rfl ?_
  refine gf_10_6 dX12_worthOf_8 hl_X12_23 nl_87 zk_87 ?_
  refine h_icmp_ge (tgt := 48) dX12_worthOf_11 (by decide) (fun c1 => ?_) (fun c1 => ?_)
  ·
    refine h_iload_n dX12_worthOf_48 rfl 3 rfl ?_
    exact h_iret dX12_worthOf_49 rfl (k1 c1)
  ·
    refine h_iload_n dX12_worthOf_14 rfl 3 rfl ?_
    refine h_aload_n dX12_worthOf_15 rfl 0 rfl ?_
    refine gf_10_0 dX12_worthOf_16 hl_X12_7 nl_87 zk_87 zp_87_0 ?_
    refine h_iload_n dX12_worthOf_19 rfl 1 rfl ?_
    refine h_bipush (v := 6) dX12_worthOf_20 (by decide) ?_
    refine h_iadd dX12_worthOf_22 ?_
    refine h_bipush (v := 6) dX12_worthOf_23 (by decide) ?_
    refine h_iload_n dX12_worthOf_25 rfl 2 rfl ?_
    refine h_imul dX12_worthOf_26 ?_
    refine h_iadd dX12_worthOf_27 ?_
    refine h_iload dX12_worthOf_28 4 rfl ?_
    refine h_iadd dX12_worthOf_30 ?_
    refine h_iald dX12_worthOf_31 nl_88 zk_88 (by rw [zn_88]; exact k2 c1) ?_
    refine h_aload_n dX12_worthOf_32 rfl 0 rfl ?_
    refine gf_10_7 dX12_worthOf_33 hl_X12_27 nl_87 zk_87 zp_87_7 ?_
    refine h_iload dX12_worthOf_36 4 rfl ?_
    refine h_iald dX12_worthOf_38 nl_92 zk_92 (by rw [zn_92]; exact k3 c1) ?_
    refine h_imul dX12_worthOf_39 ?_
    refine h_iadd dX12_worthOf_40 ?_
    refine h_istore_n (L' := [(3, .int (x3 + ((I 88 (((x1 + 6) + (6 * x2)) + x4).toNatClampNeg) * (I 92 x4.toNatClampNeg)))), (0, .ref 87), (1, .int x1), (2, .int x2), (4, .int x4)]) dX12_worthOf_41 rfl (by decide) rfl ?_
    refine h_iinc (v := (x4 + 1)) (L' := [(4, .int (x4 + 1)), (3, .int (x3 + ((I 88 (((x1 + 6) + (6 * x2)) + x4).toNatClampNeg) * (I 92 x4.toNatClampNeg)))), (0, .ref 87), (1, .int x1), (2, .int x2)]) dX12_worthOf_42 4 rfl rfl (by decide) rfl ?_
    refine h_goto (tgt := 5) dX12_worthOf_45 (by decide) ?_
    refine h_pick [2, 3, 4, 1, 0] [(0, .ref 87), (1, .int x1), (2, .int x2), (3, .int (x3 + ((I 88 (((x1 + 6) + (6 * x2)) + x4).toNatClampNeg) * (I 92 x4.toNatClampNeg)))), (4, .int (x4 + 1))] rfl ?_
    exact k4 c1
set_option maxHeartbeats 1000000 in
set_option maxRecDepth 4000 in
theorem sg_X12_leftOf_0 {E : HEn} {d : Nat} {Q : Option Value → HIh → Prop} {I : HIh} {a : Int32}
    (k1 : HGo E (mF E (d + 2) Q) me_X12_leftOf 10 [(0, .ref 87), (1, .int a), (2, .int 0), (3, .int (I 88 30))] [] I)
    : HGo E (mF E (d + 2) Q) me_X12_leftOf 0 [(0, .ref 87), (1, .int a)] [] I := by
  refine h_iconst (v := 0) dX12_leftOf_0 (by decide) ?_
  refine h_istore_n (L' := [(2, .int 0), (0, .ref 87), (1, .int a)]) dX12_leftOf_1 rfl (by decide) rfl ?_
  refine h_aload_n dX12_leftOf_2 rfl 1 rfl ?_
  refine gf_10_0 dX12_leftOf_3 hl_X12_7 nl_87 zk_87 zp_87_0 ?_
  refine h_bipush (v := 30) dX12_leftOf_6 (by decide) ?_
  refine h_iald dX12_leftOf_8 nl_88 zk_88 (vp_lit (by rw [zn_88]; decide)) ?_
  refine h_istore_n (L' := [(3, .int (I 88 30)), (2, .int 0), (0, .ref 87), (1, .int a)]) dX12_leftOf_9 rfl (by decide) rfl ?_
  refine h_pick [2, 3, 1, 0] [(0, .ref 87), (1, .int a), (2, .int 0), (3, .int (I 88 30))] rfl ?_
  exact k1
set_option maxHeartbeats 1000000 in
set_option maxRecDepth 4000 in
theorem sg_X12_leftOf_10 {E : HEn} {d : Nat} {Q : Option Value → HIh → Prop} {I : HIh} {x1 : Int32} {x2 : Int32} {x3 : Int32}
    (k1 : (I 87 13) ≤ x3 → Q (some (.int x2)) I)
    (k2 : ¬ (I 87 13) ≤ x3 → vp_in x3 24)
    (k3 : ¬ (I 87 13) ≤ x3 → (x1 >>> ((I 96 x3.toNatClampNeg) &&& 31)) &&& 1 = 1 → HGo E (mF E (d + 2) Q) me_X12_leftOf 10 [(0, .ref 87), (1, .int x1), (2, .int (x2 + 1)), (3, .int (x3 + 1))] [] I)
    (k4 : ¬ (I 87 13) ≤ x3 → ¬ (x1 >>> ((I 96 x3.toNatClampNeg) &&& 31)) &&& 1 = 1 → HGo E (mF E (d + 2) Q) me_X12_leftOf 10 [(0, .ref 87), (1, .int x1), (2, .int (x2 + 0)), (3, .int (x3 + 1))] [] I)
    : HGo E (mF E (d + 2) Q) me_X12_leftOf 10 [(0, .ref 87), (1, .int x1), (2, .int x2), (3, .int x3)] [] I := by
  refine h_iload_n dX12_leftOf_10 rfl 3 rfl ?_
  refine h_aload_n dX12_leftOf_11 rfl 0 rfl ?_
  refine gf_10_13 dX12_leftOf_12 hl_X12_147 nl_87 zk_87 ?_
  refine h_icmp_ge (tgt := 45) dX12_leftOf_15 (by decide) (fun c1 => ?_) (fun c1 => ?_)
  ·
    refine h_iload_n dX12_leftOf_45 rfl 2 rfl ?_
    exact h_iret dX12_leftOf_46 rfl (k1 c1)
  ·
    refine h_iload_n dX12_leftOf_18 rfl 2 rfl ?_
    refine h_iload_n dX12_leftOf_19 rfl 1 rfl ?_
    refine h_aload_n dX12_leftOf_20 rfl 0 rfl ?_
    refine gf_10_12 dX12_leftOf_21 hl_X12_39 nl_87 zk_87 zp_87_12 ?_
    refine h_iload_n dX12_leftOf_24 rfl 3 rfl ?_
    refine h_iald dX12_leftOf_25 nl_96 zk_96 (by rw [zn_96]; exact k2 c1) ?_
    refine h_invS (As := [.int x1, .int (I 96 x3.toNatClampNeg)]) (st := [.int x2]) dX12_leftOf_26 lk_X12_183 (h_room (by decide)) rfl rfl (Nat.le_of_ble_eq_true rfl) ?_
    refine c_X12_has (fun c2 => ?_) (fun c3 => ?_)
    ·
      refine h_if_eq (tgt := 36) dX12_leftOf_29 (by decide) (fun c => absurd c (by decide)) (fun _ => ?_)
      refine h_iconst (v := 1) dX12_leftOf_32 (by decide) ?_
      refine h_goto (tgt := 37) dX12_leftOf_33 (by decide) ?_
      refine h_iadd dX12_leftOf_37 ?_
      refine h_istore_n (L' := [(2, .int (x2 + 1)), (0, .ref 87), (1, .int x1), (3, .int x3)]) dX12_leftOf_38 rfl (by decide) rfl ?_
      refine h_iinc (v := (x3 + 1)) (L' := [(3, .int (x3 + 1)), (2, .int (x2 + 1)), (0, .ref 87), (1, .int x1)]) dX12_leftOf_39 3 rfl rfl (by decide) rfl ?_
      refine h_goto (tgt := 10) dX12_leftOf_42 (by decide) ?_
      refine h_pick [2, 3, 1, 0] [(0, .ref 87), (1, .int x1), (2, .int (x2 + 1)), (3, .int (x3 + 1))] rfl ?_
      exact k3 c1 c2
    ·
      refine h_if_eq (tgt := 36) dX12_leftOf_29 (by decide) (fun _ => ?_) (fun c => absurd c (by decide))
      refine h_iconst (v := 0) dX12_leftOf_36 (by decide) ?_
      refine h_iadd dX12_leftOf_37 ?_
      refine h_istore_n (L' := [(2, .int (x2 + 0)), (0, .ref 87), (1, .int x1), (3, .int x3)]) dX12_leftOf_38 rfl (by decide) rfl ?_
      refine h_iinc (v := (x3 + 1)) (L' := [(3, .int (x3 + 1)), (2, .int (x2 + 0)), (0, .ref 87), (1, .int x1)]) dX12_leftOf_39 3 rfl rfl (by decide) rfl ?_
      refine h_goto (tgt := 10) dX12_leftOf_42 (by decide) ?_
      refine h_pick [2, 3, 1, 0] [(0, .ref 87), (1, .int x1), (2, .int (x2 + 0)), (3, .int (x3 + 1))] rfl ?_
      exact k4 c1 c3
set_option maxHeartbeats 1000000 in
set_option maxRecDepth 4000 in
theorem sg_X12_person_0 {E : HEn} {d : Nat} {Q : Option Value → HIh → Prop} {I : HIh} {a : Int32} {b : Int32}
    (k1 : (0 : Int32) ≤ a → a < 4 → b = 0 → HCall E me_X12_worthOf (d + 2) [.ref 87, .int 0, .int a] I (fun v9 J => HGo E (mF E (d + 3) Q) me_X12_person 46 [] (v9.toList ++ []) J))
    (k2 : (0 : Int32) ≤ a → a < 4 → ¬ b = 0 → b = 1 → vp_in a 4)
    (k3 : (0 : Int32) ≤ a → a < 4 → ¬ b = 0 → b = 1 → Q (some (.int (I 94 a.toNatClampNeg))) I)
    (k4 : (0 : Int32) ≤ a → a < 4 → ¬ b = 0 → ¬ b = 1 → b = 2 → vp_in a 4)
    (k5 : (0 : Int32) ≤ a → a < 4 → ¬ b = 0 → ¬ b = 1 → b = 2 → ¬ (I 94 a.toNatClampNeg) = 2 → Q (some (.int (-1))) I)
    (k6 : (0 : Int32) ≤ a → a < 4 → ¬ b = 0 → ¬ b = 1 → b = 2 → (I 94 a.toNatClampNeg) = 2 → vp_in a 4)
    (k7 : (0 : Int32) ≤ a → a < 4 → ¬ b = 0 → ¬ b = 1 → b = 2 → (I 94 a.toNatClampNeg) = 2 → Q (some (.int (I 95 a.toNatClampNeg))) I)
    (k8 : (0 : Int32) ≤ a → a < 4 → ¬ b = 0 → ¬ b = 1 → ¬ b = 2 → b = 3 → HCall E me_X12_leftOf (d + 2) [.ref 87, .int ((1 : Int32) <<< (a &&& 31))] I (fun v9 J => HGo E (mF E (d + 3) Q) me_X12_person 82 [] (v9.toList ++ []) J))
    (k9 : (0 : Int32) ≤ a → a < 4 → ¬ b = 0 → ¬ b = 1 → ¬ b = 2 → ¬ b = 3 → Q (some (.int (-3))) I)
    (k10 : ¬ ((0 : Int32) ≤ a ∧ a < 4) → Q (some (.int (-2))) I)
    : HGo E (mF E (d + 3) Q) me_X12_person 0 [(0, .ref 87), (1, .int a), (2, .int b)] [] I := by
  refine h_iload_n dX12_person_0 rfl 1 rfl ?_
  refine h_invS (As := [.int a]) (st := []) dX12_person_1 lk_X12_180 (h_room (by decide)) rfl rfl (Nat.le_of_ble_eq_true rfl) ?_
  refine c_X12_isPerson (fun c1 c2 => ?_) (fun c3 => ?_)
  ·
    refine h_if_ne (tgt := 10) dX12_person_4 (by decide) (fun _ => ?_) (fun c => absurd c (by decide))
    refine h_iload_n dX12_person_10 rfl 2 rfl ?_
    by_cases c4 : b = 0
    · refine h_tswIn (off := 29) (tgt := 40) 0 dX12_person_11 (by rw [c4]; rfl) (by decide) (by decide) (by decide) (by decide) ?_
      refine h_aload_n dX12_person_40 rfl 0 rfl ?_
      refine h_iconst (v := 0) dX12_person_41 (by decide) ?_
      refine h_iload_n dX12_person_42 rfl 1 rfl ?_
      refine h_pick [] [] rfl ?_
      refine h_invV (As := [.int 0, .int a]) (st := []) dX12_person_43 lk_X12_186 (h_room (by decide)) nl_87 zk_87 (by decide) rfl rfl rfl (Nat.le_of_ble_eq_true rfl) ?_
      exact k1 c1 c2 c4
    by_cases c5 : b = 1
    · refine h_tswIn (off := 36) (tgt := 47) 1 dX12_person_11 (by rw [c5]; rfl) (by decide) (by decide) (by decide) (by decide) ?_
      refine h_aload_n dX12_person_47 rfl 0 rfl ?_
      refine gf_10_9 dX12_person_48 hl_X12_33 nl_87 zk_87 zp_87_9 ?_
      refine h_iload_n dX12_person_51 rfl 1 rfl ?_
      refine h_iald dX12_person_52 nl_94 zk_94 (by rw [zn_94]; exact k2 c1 c2 c4 c5) ?_
      exact h_iret dX12_person_53 rfl (k3 c1 c2 c4 c5)
    by_cases c6 : b = 2
    · refine h_tswIn (off := 43) (tgt := 54) 2 dX12_person_11 (by rw [c6]; rfl) (by decide) (by decide) (by decide) (by decide) ?_
      refine h_aload_n dX12_person_54 rfl 0 rfl ?_
      refine gf_10_9 dX12_person_55 hl_X12_33 nl_87 zk_87 zp_87_9 ?_
      refine h_iload_n dX12_person_58 rfl 1 rfl ?_
      refine h_iald dX12_person_59 nl_94 zk_94 (by rw [zn_94]; exact k4 c1 c2 c4 c5 c6) ?_
      refine h_iconst (v := 2) dX12_person_60 (by decide) ?_
      refine h_icmp_ne (tgt := 73) dX12_person_61 (by decide) (fun c7 => ?_) (fun c7 => ?_)
      ·
        refine h_iconst (v := (-1)) dX12_person_73 (by decide) ?_
        exact h_iret dX12_person_74 rfl (k5 c1 c2 c4 c5 c6 c7)
      ·
        refine h_aload_n dX12_person_64 rfl 0 rfl ?_
        refine gf_10_10 dX12_person_65 hl_X12_36 nl_87 zk_87 zp_87_10 ?_
        refine h_iload_n dX12_person_68 rfl 1 rfl ?_
        refine h_iald dX12_person_69 nl_95 zk_95 (by rw [zn_95]; exact k6 c1 c2 c4 c5 c6 c7) ?_
        refine h_goto (tgt := 74) dX12_person_70 (by decide) ?_
        exact h_iret dX12_person_74 rfl (k7 c1 c2 c4 c5 c6 c7)
    by_cases c8 : b = 3
    · refine h_tswIn (off := 64) (tgt := 75) 3 dX12_person_11 (by rw [c8]; rfl) (by decide) (by decide) (by decide) (by decide) ?_
      refine h_aload_n dX12_person_75 rfl 0 rfl ?_
      refine h_iconst (v := 1) dX12_person_76 (by decide) ?_
      refine h_iload_n dX12_person_77 rfl 1 rfl ?_
      refine h_ishl dX12_person_78 ?_
      refine h_pick [] [] rfl ?_
      refine h_invV (As := [.int ((1 : Int32) <<< (a &&& 31))]) (st := []) dX12_person_79 lk_X12_190 (h_room (by decide)) nl_87 zk_87 (by decide) rfl rfl rfl (Nat.le_of_ble_eq_true rfl) ?_
      exact k8 c1 c2 c4 c5 c6 c8
    refine h_tswOut (tgt := 83) dX12_person_11 (tsw_out4 c4 c5 c6 c8) (by decide) ?_
    refine h_bipush (v := (-3)) dX12_person_83 (by decide) ?_
    exact h_iret dX12_person_85 rfl (k9 c1 c2 c4 c5 c6 c8)
  ·
    refine h_if_ne (tgt := 10) dX12_person_4 (by decide) (fun c => absurd c (by decide)) (fun _ => ?_)
    refine h_bipush (v := (-2)) dX12_person_7 (by decide) ?_
    exact h_iret dX12_person_9 rfl (k10 c3)
set_option maxHeartbeats 1000000 in
set_option maxRecDepth 4000 in
theorem sg_X12_person_46 {E : HEn} {d : Nat} {Q : Option Value → HIh → Prop} {I : HIh} {s0 : Int32}
    (k1 : Q (some (.int s0)) I)
    : HGo E (mF E (d + 3) Q) me_X12_person 46 [] [.int s0] I := by
  exact h_iret dX12_person_46 rfl (k1)
set_option maxHeartbeats 1000000 in
set_option maxRecDepth 4000 in
theorem sg_X12_person_82 {E : HEn} {d : Nat} {Q : Option Value → HIh → Prop} {I : HIh} {s0 : Int32}
    (k1 : Q (some (.int s0)) I)
    : HGo E (mF E (d + 3) Q) me_X12_person 82 [] [.int s0] I := by
  exact h_iret dX12_person_82 rfl (k1)
set_option maxHeartbeats 1000000 in
set_option maxRecDepth 4000 in
theorem sg_X12_layTakes_0 {E : HEn} {d : Nat} {Q : Option Value → HIh → Prop} {I : HIh} {a : Int32} {b : Int32}
    (k1 : HGo E (mF E (d + 1) Q) me_X12_layTakes 8 [(0, .ref 87), (1, .int a), (2, .int b), (3, .int 0), (4, .int (-1)), (5, .int 0)] [] I)
    : HGo E (mF E (d + 1) Q) me_X12_layTakes 0 [(0, .ref 87), (1, .int a), (2, .int b)] [] I := by
  refine h_iconst (v := 0) dX12_layTakes_0 (by decide) ?_
  refine h_istore_n (L' := [(3, .int 0), (0, .ref 87), (1, .int a), (2, .int b)]) dX12_layTakes_1 rfl (by decide) rfl ?_
  refine h_iconst (v := (-1)) dX12_layTakes_2 (by decide) ?_
  refine h_istore (L' := [(4, .int (-1)), (3, .int 0), (0, .ref 87), (1, .int a), (2, .int b)]) dX12_layTakes_3 (by decide) rfl ?_
  refine h_iconst (v := 0) dX12_layTakes_5 (by decide) ?_
  refine h_istore (L' := [(5, .int 0), (4, .int (-1)), (3, .int 0), (0, .ref 87), (1, .int a), (2, .int b)]) dX12_layTakes_6 (by decide) rfl ?_
  refine h_pick [3, 4, 5, 2, 1, 0] [(0, .ref 87), (1, .int a), (2, .int b), (3, .int 0), (4, .int (-1)), (5, .int 0)] rfl ?_
  exact k1
set_option maxHeartbeats 1000000 in
set_option maxRecDepth 4000 in
theorem sg_X12_layTakes_8 {E : HEn} {d : Nat} {Q : Option Value → HIh → Prop} {I : HIh} {x1 : Int32} {x2 : Int32} {x3 : Int32} {x4 : Int32} {x5 : Int32}
    (k1 : (I 87 6) ≤ x5 → HGo E (mF E (d + 1) Q) me_X12_layTakes 55 [(0, .ref 87), (1, .int x1), (2, .int x2), (3, .int x3), (4, .int x4), (5, .int 0)] [] I)
    (k2 : ¬ (I 87 6) ≤ x5 → x2 ≤ x5 → HGo E (mF E (d + 1) Q) me_X12_layTakes 8 [(0, .ref 87), (1, .int x1), (2, .int x2), (3, .int x3), (4, .int x4), (5, .int (x5 + 1))] [] I)
    (k3 : ¬ (I 87 6) ≤ x5 → ¬ x2 ≤ x5 → vp_in ((x1 + 0) + x5) 341)
    (k4 : ¬ (I 87 6) ≤ x5 → ¬ x2 ≤ x5 → (I 88 ((x1 + 0) + x5).toNatClampNeg) ≤ 0 → HGo E (mF E (d + 1) Q) me_X12_layTakes 8 [(0, .ref 87), (1, .int x1), (2, .int x2), (3, .int x3), (4, .int x4), (5, .int (x5 + 1))] [] I)
    (k5 : ¬ (I 87 6) ≤ x5 → ¬ x2 ≤ x5 → ¬ (I 88 ((x1 + 0) + x5).toNatClampNeg) ≤ 0 → HGo E (mF E (d + 1) Q) me_X12_layTakes 8 [(0, .ref 87), (1, .int x1), (2, .int x2), (3, .int x3), (4, .int x5), (5, .int (x5 + 1))] [] I)
    : HGo E (mF E (d + 1) Q) me_X12_layTakes 8 [(0, .ref 87), (1, .int x1), (2, .int x2), (3, .int x3), (4, .int x4), (5, .int x5)] [] I := by
  refine h_iload dX12_layTakes_8 5 rfl ?_
  refine h_aload_n dX12_layTakes_10 rfl 0 rfl ?_
  refine gf_10_6 dX12_layTakes_11 hl_X12_23 nl_87 zk_87 ?_
  refine h_icmp_ge (tgt := 52) dX12_layTakes_14 (by decide) (fun c1 => ?_) (fun c1 => ?_)
  ·
    refine h_iconst (v := 0) dX12_layTakes_52 (by decide) ?_
    refine h_istore (L' := [(5, .int 0), (0, .ref 87), (1, .int x1), (2, .int x2), (3, .int x3), (4, .int x4)]) dX12_layTakes_53 (by decide) rfl ?_
    refine h_pick [1, 2, 3, 4, 5, 0] [(0, .ref 87), (1, .int x1), (2, .int x2), (3, .int x3), (4, .int x4), (5, .int 0)] rfl ?_
    exact k1 c1
  ·
    refine h_iload dX12_layTakes_17 5 rfl ?_
    refine h_iload_n dX12_layTakes_19 rfl 2 rfl ?_
    refine h_icmp_ge (tgt := 42) dX12_layTakes_20 (by decide) (fun c2 => ?_) (fun c2 => ?_)
    ·
      refine h_iload dX12_layTakes_42 4 rfl ?_
      refine h_istore (L' := [(4, .int x4), (0, .ref 87), (1, .int x1), (2, .int x2), (3, .int x3), (5, .int x5)]) dX12_layTakes_44 (by decide) rfl ?_
      refine h_iinc (v := (x5 + 1)) (L' := [(5, .int (x5 + 1)), (4, .int x4), (0, .ref 87), (1, .int x1), (2, .int x2), (3, .int x3)]) dX12_layTakes_46 5 rfl rfl (by decide) rfl ?_
      refine h_goto (tgt := 8) dX12_layTakes_49 (by decide) ?_
      refine h_pick [2, 3, 4, 5, 1, 0] [(0, .ref 87), (1, .int x1), (2, .int x2), (3, .int x3), (4, .int x4), (5, .int (x5 + 1))] rfl ?_
      exact k2 c1 c2
    ·
      refine h_aload_n dX12_layTakes_23 rfl 0 rfl ?_
      refine gf_10_0 dX12_layTakes_24 hl_X12_7 nl_87 zk_87 zp_87_0 ?_
      refine h_iload_n dX12_layTakes_27 rfl 1 rfl ?_
      refine h_iconst (v := 0) dX12_layTakes_28 (by decide) ?_
      refine h_iadd dX12_layTakes_29 ?_
      refine h_iload dX12_layTakes_30 5 rfl ?_
      refine h_iadd dX12_layTakes_32 ?_
      refine h_iald dX12_layTakes_33 nl_88 zk_88 (by rw [zn_88]; exact k3 c1 c2) ?_
      refine h_if_le (tgt := 42) dX12_layTakes_34 (by decide) (fun c3 => ?_) (fun c3 => ?_)
      ·
        refine h_iload dX12_layTakes_42 4 rfl ?_
        refine h_istore (L' := [(4, .int x4), (0, .ref 87), (1, .int x1), (2, .int x2), (3, .int x3), (5, .int x5)]) dX12_layTakes_44 (by decide) rfl ?_
        refine h_iinc (v := (x5 + 1)) (L' := [(5, .int (x5 + 1)), (4, .int x4), (0, .ref 87), (1, .int x1), (2, .int x2), (3, .int x3)]) dX12_layTakes_46 5 rfl rfl (by decide) rfl ?_
        refine h_goto (tgt := 8) dX12_layTakes_49 (by decide) ?_
        refine h_pick [2, 3, 4, 5, 1, 0] [(0, .ref 87), (1, .int x1), (2, .int x2), (3, .int x3), (4, .int x4), (5, .int (x5 + 1))] rfl ?_
        exact k4 c1 c2 c3
      ·
        refine h_iload dX12_layTakes_37 5 rfl ?_
        refine h_goto (tgt := 44) dX12_layTakes_39 (by decide) ?_
        refine h_istore (L' := [(4, .int x5), (0, .ref 87), (1, .int x1), (2, .int x2), (3, .int x3), (5, .int x5)]) dX12_layTakes_44 (by decide) rfl ?_
        refine h_iinc (v := (x5 + 1)) (L' := [(5, .int (x5 + 1)), (4, .int x5), (0, .ref 87), (1, .int x1), (2, .int x2), (3, .int x3)]) dX12_layTakes_46 5 rfl rfl (by decide) rfl ?_
        refine h_goto (tgt := 8) dX12_layTakes_49 (by decide) ?_
        refine h_pick [2, 3, 4, 5, 1, 0] [(0, .ref 87), (1, .int x1), (2, .int x2), (3, .int x3), (4, .int x5), (5, .int (x5 + 1))] rfl ?_
        exact k5 c1 c2 c3
set_option maxHeartbeats 1000000 in
set_option maxRecDepth 4000 in
theorem sg_X12_layTakes_55 {E : HEn} {d : Nat} {Q : Option Value → HIh → Prop} {I : HIh} {x1 : Int32} {x2 : Int32} {x3 : Int32} {x4 : Int32} {x5 : Int32}
    (k1 : (I 87 6) ≤ x5 → Q (some (.int x3)) I)
    (k2 : ¬ (I 87 6) ≤ x5 → vp_in ((x1 + 0) + x5) 341)
    (k3 : ¬ (I 87 6) ≤ x5 → ¬ (I 87 11) = 0 → ¬ (I 87 11) = 1 → x5 = x4 → ¬ (I 87 11) = 2 → vp_in x5 6)
    (k4 : ¬ (I 87 6) ≤ x5 → ¬ (I 87 11) = 0 → ¬ (I 87 11) = 1 → x5 = x4 → ¬ (I 87 11) = 2 → HGo E (mF E (d + 1) Q) me_X12_layTakes 55 [(0, .ref 87), (1, .int x1), (2, .int x2), (3, .int (x3 + (((setI I 97 (upd (I 97) x5.toNatClampNeg (I 88 ((x1 + 0) + x5).toNatClampNeg))) 97 x5.toNatClampNeg) * ((setI I 97 (upd (I 97) x5.toNatClampNeg (I 88 ((x1 + 0) + x5).toNatClampNeg))) 92 x5.toNatClampNeg)))), (4, .int x4), (5, .int (x5 + 1))] [] (setI I 97 (upd (I 97) x5.toNatClampNeg (I 88 ((x1 + 0) + x5).toNatClampNeg))))
    (k5 : ¬ (I 87 6) ≤ x5 → ¬ (I 87 11) = 0 → ¬ (I 87 11) = 1 → x5 = x4 → (I 87 11) = 2 → vp_in x5 6)
    (k6 : ¬ (I 87 6) ≤ x5 → ¬ (I 87 11) = 0 → ¬ (I 87 11) = 1 → x5 = x4 → (I 87 11) = 2 → HGo E (mF E (d + 1) Q) me_X12_layTakes 55 [(0, .ref 87), (1, .int x1), (2, .int x2), (3, .int (x3 + (((setI I 97 (upd (I 97) x5.toNatClampNeg 1)) 97 x5.toNatClampNeg) * ((setI I 97 (upd (I 97) x5.toNatClampNeg 1)) 92 x5.toNatClampNeg)))), (4, .int x4), (5, .int (x5 + 1))] [] (setI I 97 (upd (I 97) x5.toNatClampNeg 1)))
    (k7 : ¬ (I 87 6) ≤ x5 → ¬ (I 87 11) = 0 → ¬ (I 87 11) = 1 → ¬ x5 = x4 → vp_in x5 6)
    (k8 : ¬ (I 87 6) ≤ x5 → ¬ (I 87 11) = 0 → ¬ (I 87 11) = 1 → ¬ x5 = x4 → HGo E (mF E (d + 1) Q) me_X12_layTakes 55 [(0, .ref 87), (1, .int x1), (2, .int x2), (3, .int (x3 + (((setI I 97 (upd (I 97) x5.toNatClampNeg 0)) 97 x5.toNatClampNeg) * ((setI I 97 (upd (I 97) x5.toNatClampNeg 0)) 92 x5.toNatClampNeg)))), (4, .int x4), (5, .int (x5 + 1))] [] (setI I 97 (upd (I 97) x5.toNatClampNeg 0)))
    (k9 : ¬ (I 87 6) ≤ x5 → ¬ (I 87 11) = 0 → (I 87 11) = 1 → x2 < x5 → vp_in x5 6)
    (k10 : ¬ (I 87 6) ≤ x5 → ¬ (I 87 11) = 0 → (I 87 11) = 1 → x2 < x5 → HGo E (mF E (d + 1) Q) me_X12_layTakes 55 [(0, .ref 87), (1, .int x1), (2, .int x2), (3, .int (x3 + (((setI I 97 (upd (I 97) x5.toNatClampNeg 0)) 97 x5.toNatClampNeg) * ((setI I 97 (upd (I 97) x5.toNatClampNeg 0)) 92 x5.toNatClampNeg)))), (4, .int x4), (5, .int (x5 + 1))] [] (setI I 97 (upd (I 97) x5.toNatClampNeg 0)))
    (k11 : ¬ (I 87 6) ≤ x5 → ¬ (I 87 11) = 0 → (I 87 11) = 1 → ¬ x2 < x5 → vp_in x5 6)
    (k12 : ¬ (I 87 6) ≤ x5 → ¬ (I 87 11) = 0 → (I 87 11) = 1 → ¬ x2 < x5 → HGo E (mF E (d + 1) Q) me_X12_layTakes 55 [(0, .ref 87), (1, .int x1), (2, .int x2), (3, .int (x3 + (((setI I 97 (upd (I 97) x5.toNatClampNeg (I 88 ((x1 + 0) + x5).toNatClampNeg))) 97 x5.toNatClampNeg) * ((setI I 97 (upd (I 97) x5.toNatClampNeg (I 88 ((x1 + 0) + x5).toNatClampNeg))) 92 x5.toNatClampNeg)))), (4, .int x4), (5, .int (x5 + 1))] [] (setI I 97 (upd (I 97) x5.toNatClampNeg (I 88 ((x1 + 0) + x5).toNatClampNeg))))
    (k13 : ¬ (I 87 6) ≤ x5 → (I 87 11) = 0 → x2 ≤ x5 → vp_in x5 6)
    (k14 : ¬ (I 87 6) ≤ x5 → (I 87 11) = 0 → x2 ≤ x5 → HGo E (mF E (d + 1) Q) me_X12_layTakes 55 [(0, .ref 87), (1, .int x1), (2, .int x2), (3, .int (x3 + (((setI I 97 (upd (I 97) x5.toNatClampNeg 0)) 97 x5.toNatClampNeg) * ((setI I 97 (upd (I 97) x5.toNatClampNeg 0)) 92 x5.toNatClampNeg)))), (4, .int x4), (5, .int (x5 + 1))] [] (setI I 97 (upd (I 97) x5.toNatClampNeg 0)))
    (k15 : ¬ (I 87 6) ≤ x5 → (I 87 11) = 0 → ¬ x2 ≤ x5 → vp_in x5 6)
    (k16 : ¬ (I 87 6) ≤ x5 → (I 87 11) = 0 → ¬ x2 ≤ x5 → HGo E (mF E (d + 1) Q) me_X12_layTakes 55 [(0, .ref 87), (1, .int x1), (2, .int x2), (3, .int (x3 + (((setI I 97 (upd (I 97) x5.toNatClampNeg (I 88 ((x1 + 0) + x5).toNatClampNeg))) 97 x5.toNatClampNeg) * ((setI I 97 (upd (I 97) x5.toNatClampNeg (I 88 ((x1 + 0) + x5).toNatClampNeg))) 92 x5.toNatClampNeg)))), (4, .int x4), (5, .int (x5 + 1))] [] (setI I 97 (upd (I 97) x5.toNatClampNeg (I 88 ((x1 + 0) + x5).toNatClampNeg))))
    : HGo E (mF E (d + 1) Q) me_X12_layTakes 55 [(0, .ref 87), (1, .int x1), (2, .int x2), (3, .int x3), (4, .int x4), (5, .int x5)] [] I := by
  refine h_iload dX12_layTakes_55 5 rfl ?_
  refine h_aload_n dX12_layTakes_57 rfl 0 rfl ?_
  refine gf_10_6 dX12_layTakes_58 hl_X12_23 nl_87 zk_87 ?_
  refine h_icmp_ge (tgt := 178) dX12_layTakes_61 (by decide) (fun c1 => ?_) (fun c1 => ?_)
  ·
    refine h_iload_n dX12_layTakes_178 rfl 3 rfl ?_
    exact h_iret dX12_layTakes_179 rfl (k1 c1)
  ·
    refine h_aload_n dX12_layTakes_64 rfl 0 rfl ?_
    refine gf_10_0 dX12_layTakes_65 hl_X12_7 nl_87 zk_87 zp_87_0 ?_
    refine h_iload_n dX12_layTakes_68 rfl 1 rfl ?_
    refine h_iconst (v := 0) dX12_layTakes_69 (by decide) ?_
    refine h_iadd dX12_layTakes_70 ?_
    refine h_iload dX12_layTakes_71 5 rfl ?_
    refine h_iadd dX12_layTakes_73 ?_
    refine h_iald dX12_layTakes_74 nl_88 zk_88 (by rw [zn_88]; exact k2 c1) ?_
    refine h_istore (L' := [(6, .int (I 88 ((x1 + 0) + x5).toNatClampNeg)), (0, .ref 87), (1, .int x1), (2, .int x2), (3, .int x3), (4, .int x4), (5, .int x5)]) dX12_layTakes_75 (by decide) rfl ?_
    refine h_aload_n dX12_layTakes_77 rfl 1 rfl ?_
    refine gf_10_19 dX12_layTakes_78 hl_X12_42 nl_87 zk_87 zp_87_19 ?_
    refine h_iload dX12_layTakes_81 6 rfl ?_
    refine h_aload_n dX12_layTakes_83 rfl 1 rfl ?_
    refine gf_10_11 dX12_layTakes_84 hl_X12_160 nl_87 zk_87 ?_
    refine h_if_ne (tgt := 105) dX12_layTakes_87 (by decide) (fun c2 => ?_) (fun c2 => ?_)
    ·
      refine h_aload_n dX12_layTakes_105 rfl 1 rfl ?_
      refine gf_10_11 dX12_layTakes_106 hl_X12_160 nl_87 zk_87 ?_
      refine h_iconst (v := 1) dX12_layTakes_109 (by decide) ?_
      refine h_icmp_ne (tgt := 128) dX12_layTakes_110 (by decide) (fun c3 => ?_) (fun c3 => ?_)
      ·
        refine h_iload dX12_layTakes_128 6 rfl ?_
        refine h_iload dX12_layTakes_130 5 rfl ?_
        refine h_icmp_eq (tgt := 139) dX12_layTakes_132 (by decide) (fun c4 => ?_) (fun c4 => ?_)
        ·
          refine h_aload_n dX12_layTakes_139 rfl 1 rfl ?_
          refine gf_10_11 dX12_layTakes_140 hl_X12_160 nl_87 zk_87 ?_
          refine h_iconst (v := 2) dX12_layTakes_143 (by decide) ?_
          refine h_icmp_ne (tgt := 151) dX12_layTakes_144 (by decide) (fun c5 => ?_) (fun c5 => ?_)
          ·
            refine h_iload dX12_layTakes_151 0 rfl ?_
            refine h_iast dX12_layTakes_153 nl_97 zk_97 (by rw [zn_97]; exact k3 c1 c2 c3 c4 c5) ?_
            refine h_iload_n dX12_layTakes_154 rfl 4 rfl ?_
            refine h_aload_n dX12_layTakes_155 rfl 1 rfl ?_
            refine gf_10_19 dX12_layTakes_156 hl_X12_42 nl_87 zk_87 zp_87_19 ?_
            refine h_iload dX12_layTakes_159 6 rfl ?_
            refine h_iald dX12_layTakes_161 nl_97 zk_97 (by rw [zn_97]; exact k3 c1 c2 c3 c4 c5) ?_
            refine h_aload_n dX12_layTakes_162 rfl 1 rfl ?_
            refine gf_10_7 dX12_layTakes_163 hl_X12_27 nl_87 zk_87 zp_87_7 ?_
            refine h_iload dX12_layTakes_166 6 rfl ?_
            refine h_iald dX12_layTakes_168 nl_92 zk_92 (by rw [zn_92]; exact k3 c1 c2 c3 c4 c5) ?_
            refine h_imul dX12_layTakes_169 ?_
            refine h_iadd dX12_layTakes_170 ?_
            refine h_istore_n (L' := [(3, .int (x3 + (((setI I 97 (upd (I 97) x5.toNatClampNeg (I 88 ((x1 + 0) + x5).toNatClampNeg))) 97 x5.toNatClampNeg) * ((setI I 97 (upd (I 97) x5.toNatClampNeg (I 88 ((x1 + 0) + x5).toNatClampNeg))) 92 x5.toNatClampNeg)))), (6, .int (I 88 ((x1 + 0) + x5).toNatClampNeg)), (0, .ref 87), (1, .int x1), (2, .int x2), (4, .int x4), (5, .int x5)]) dX12_layTakes_171 rfl (by decide) rfl ?_
            refine h_iinc (v := (x5 + 1)) (L' := [(5, .int (x5 + 1)), (3, .int (x3 + (((setI I 97 (upd (I 97) x5.toNatClampNeg (I 88 ((x1 + 0) + x5).toNatClampNeg))) 97 x5.toNatClampNeg) * ((setI I 97 (upd (I 97) x5.toNatClampNeg (I 88 ((x1 + 0) + x5).toNatClampNeg))) 92 x5.toNatClampNeg)))), (6, .int (I 88 ((x1 + 0) + x5).toNatClampNeg)), (0, .ref 87), (1, .int x1), (2, .int x2), (4, .int x4)]) dX12_layTakes_172 6 rfl rfl (by decide) rfl ?_
            refine h_goto (tgt := 55) dX12_layTakes_175 (by decide) ?_
            refine h_pick [3, 4, 5, 1, 6, 0] [(0, .ref 87), (1, .int x1), (2, .int x2), (3, .int (x3 + (((setI I 97 (upd (I 97) x5.toNatClampNeg (I 88 ((x1 + 0) + x5).toNatClampNeg))) 97 x5.toNatClampNeg) * ((setI I 97 (upd (I 97) x5.toNatClampNeg (I 88 ((x1 + 0) + x5).toNatClampNeg))) 92 x5.toNatClampNeg)))), (4, .int x4), (5, .int (x5 + 1))] rfl ?_
            exact k4 c1 c2 c3 c4 c5
          ·
            refine h_iconst (v := 1) dX12_layTakes_147 (by decide) ?_
            refine h_goto (tgt := 153) dX12_layTakes_148 (by decide) ?_
            refine h_iast dX12_layTakes_153 nl_97 zk_97 (by rw [zn_97]; exact k5 c1 c2 c3 c4 c5) ?_
            refine h_iload_n dX12_layTakes_154 rfl 4 rfl ?_
            refine h_aload_n dX12_layTakes_155 rfl 1 rfl ?_
            refine gf_10_19 dX12_layTakes_156 hl_X12_42 nl_87 zk_87 zp_87_19 ?_
            refine h_iload dX12_layTakes_159 6 rfl ?_
            refine h_iald dX12_layTakes_161 nl_97 zk_97 (by rw [zn_97]; exact k5 c1 c2 c3 c4 c5) ?_
            refine h_aload_n dX12_layTakes_162 rfl 1 rfl ?_
            refine gf_10_7 dX12_layTakes_163 hl_X12_27 nl_87 zk_87 zp_87_7 ?_
            refine h_iload dX12_layTakes_166 6 rfl ?_
            refine h_iald dX12_layTakes_168 nl_92 zk_92 (by rw [zn_92]; exact k5 c1 c2 c3 c4 c5) ?_
            refine h_imul dX12_layTakes_169 ?_
            refine h_iadd dX12_layTakes_170 ?_
            refine h_istore_n (L' := [(3, .int (x3 + (((setI I 97 (upd (I 97) x5.toNatClampNeg 1)) 97 x5.toNatClampNeg) * ((setI I 97 (upd (I 97) x5.toNatClampNeg 1)) 92 x5.toNatClampNeg)))), (6, .int (I 88 ((x1 + 0) + x5).toNatClampNeg)), (0, .ref 87), (1, .int x1), (2, .int x2), (4, .int x4), (5, .int x5)]) dX12_layTakes_171 rfl (by decide) rfl ?_
            refine h_iinc (v := (x5 + 1)) (L' := [(5, .int (x5 + 1)), (3, .int (x3 + (((setI I 97 (upd (I 97) x5.toNatClampNeg 1)) 97 x5.toNatClampNeg) * ((setI I 97 (upd (I 97) x5.toNatClampNeg 1)) 92 x5.toNatClampNeg)))), (6, .int (I 88 ((x1 + 0) + x5).toNatClampNeg)), (0, .ref 87), (1, .int x1), (2, .int x2), (4, .int x4)]) dX12_layTakes_172 6 rfl rfl (by decide) rfl ?_
            refine h_goto (tgt := 55) dX12_layTakes_175 (by decide) ?_
            refine h_pick [3, 4, 5, 1, 6, 0] [(0, .ref 87), (1, .int x1), (2, .int x2), (3, .int (x3 + (((setI I 97 (upd (I 97) x5.toNatClampNeg 1)) 97 x5.toNatClampNeg) * ((setI I 97 (upd (I 97) x5.toNatClampNeg 1)) 92 x5.toNatClampNeg)))), (4, .int x4), (5, .int (x5 + 1))] rfl ?_
            exact k6 c1 c2 c3 c4 c5
        ·
          refine h_iconst (v := 0) dX12_layTakes_135 (by decide) ?_
          refine h_goto (tgt := 153) dX12_layTakes_136 (by decide) ?_
          refine h_iast dX12_layTakes_153 nl_97 zk_97 (by rw [zn_97]; exact k7 c1 c2 c3 c4) ?_
          refine h_iload_n dX12_layTakes_154 rfl 4 rfl ?_
          refine h_aload_n dX12_layTakes_155 rfl 1 rfl ?_
          refine gf_10_19 dX12_layTakes_156 hl_X12_42 nl_87 zk_87 zp_87_19 ?_
          refine h_iload dX12_layTakes_159 6 rfl ?_
          refine h_iald dX12_layTakes_161 nl_97 zk_97 (by rw [zn_97]; exact k7 c1 c2 c3 c4) ?_
          refine h_aload_n dX12_layTakes_162 rfl 1 rfl ?_
          refine gf_10_7 dX12_layTakes_163 hl_X12_27 nl_87 zk_87 zp_87_7 ?_
          refine h_iload dX12_layTakes_166 6 rfl ?_
          refine h_iald dX12_layTakes_168 nl_92 zk_92 (by rw [zn_92]; exact k7 c1 c2 c3 c4) ?_
          refine h_imul dX12_layTakes_169 ?_
          refine h_iadd dX12_layTakes_170 ?_
          refine h_istore_n (L' := [(3, .int (x3 + (((setI I 97 (upd (I 97) x5.toNatClampNeg 0)) 97 x5.toNatClampNeg) * ((setI I 97 (upd (I 97) x5.toNatClampNeg 0)) 92 x5.toNatClampNeg)))), (6, .int (I 88 ((x1 + 0) + x5).toNatClampNeg)), (0, .ref 87), (1, .int x1), (2, .int x2), (4, .int x4), (5, .int x5)]) dX12_layTakes_171 rfl (by decide) rfl ?_
          refine h_iinc (v := (x5 + 1)) (L' := [(5, .int (x5 + 1)), (3, .int (x3 + (((setI I 97 (upd (I 97) x5.toNatClampNeg 0)) 97 x5.toNatClampNeg) * ((setI I 97 (upd (I 97) x5.toNatClampNeg 0)) 92 x5.toNatClampNeg)))), (6, .int (I 88 ((x1 + 0) + x5).toNatClampNeg)), (0, .ref 87), (1, .int x1), (2, .int x2), (4, .int x4)]) dX12_layTakes_172 6 rfl rfl (by decide) rfl ?_
          refine h_goto (tgt := 55) dX12_layTakes_175 (by decide) ?_
          refine h_pick [3, 4, 5, 1, 6, 0] [(0, .ref 87), (1, .int x1), (2, .int x2), (3, .int (x3 + (((setI I 97 (upd (I 97) x5.toNatClampNeg 0)) 97 x5.toNatClampNeg) * ((setI I 97 (upd (I 97) x5.toNatClampNeg 0)) 92 x5.toNatClampNeg)))), (4, .int x4), (5, .int (x5 + 1))] rfl ?_
          exact k8 c1 c2 c3 c4
      ·
        refine h_iload dX12_layTakes_113 6 rfl ?_
        refine h_iload_n dX12_layTakes_115 rfl 3 rfl ?_
        refine h_icmp_gt (tgt := 124) dX12_layTakes_116 (by decide) (fun c6 => ?_) (fun c6 => ?_)
        ·
          refine h_iconst (v := 0) dX12_layTakes_124 (by decide) ?_
          refine h_goto (tgt := 153) dX12_layTakes_125 (by decide) ?_
          refine h_iast dX12_layTakes_153 nl_97 zk_97 (by rw [zn_97]; exact k9 c1 c2 c3 c6) ?_
          refine h_iload_n dX12_layTakes_154 rfl 4 rfl ?_
          refine h_aload_n dX12_layTakes_155 rfl 1 rfl ?_
          refine gf_10_19 dX12_layTakes_156 hl_X12_42 nl_87 zk_87 zp_87_19 ?_
          refine h_iload dX12_layTakes_159 6 rfl ?_
          refine h_iald dX12_layTakes_161 nl_97 zk_97 (by rw [zn_97]; exact k9 c1 c2 c3 c6) ?_
          refine h_aload_n dX12_layTakes_162 rfl 1 rfl ?_
          refine gf_10_7 dX12_layTakes_163 hl_X12_27 nl_87 zk_87 zp_87_7 ?_
          refine h_iload dX12_layTakes_166 6 rfl ?_
          refine h_iald dX12_layTakes_168 nl_92 zk_92 (by rw [zn_92]; exact k9 c1 c2 c3 c6) ?_
          refine h_imul dX12_layTakes_169 ?_
          refine h_iadd dX12_layTakes_170 ?_
          refine h_istore_n (L' := [(3, .int (x3 + (((setI I 97 (upd (I 97) x5.toNatClampNeg 0)) 97 x5.toNatClampNeg) * ((setI I 97 (upd (I 97) x5.toNatClampNeg 0)) 92 x5.toNatClampNeg)))), (6, .int (I 88 ((x1 + 0) + x5).toNatClampNeg)), (0, .ref 87), (1, .int x1), (2, .int x2), (4, .int x4), (5, .int x5)]) dX12_layTakes_171 rfl (by decide) rfl ?_
          refine h_iinc (v := (x5 + 1)) (L' := [(5, .int (x5 + 1)), (3, .int (x3 + (((setI I 97 (upd (I 97) x5.toNatClampNeg 0)) 97 x5.toNatClampNeg) * ((setI I 97 (upd (I 97) x5.toNatClampNeg 0)) 92 x5.toNatClampNeg)))), (6, .int (I 88 ((x1 + 0) + x5).toNatClampNeg)), (0, .ref 87), (1, .int x1), (2, .int x2), (4, .int x4)]) dX12_layTakes_172 6 rfl rfl (by decide) rfl ?_
          refine h_goto (tgt := 55) dX12_layTakes_175 (by decide) ?_
          refine h_pick [3, 4, 5, 1, 6, 0] [(0, .ref 87), (1, .int x1), (2, .int x2), (3, .int (x3 + (((setI I 97 (upd (I 97) x5.toNatClampNeg 0)) 97 x5.toNatClampNeg) * ((setI I 97 (upd (I 97) x5.toNatClampNeg 0)) 92 x5.toNatClampNeg)))), (4, .int x4), (5, .int (x5 + 1))] rfl ?_
          exact k10 c1 c2 c3 c6
        ·
          refine h_iload dX12_layTakes_119 0 rfl ?_
          refine h_goto (tgt := 153) dX12_layTakes_121 (by decide) ?_
          refine h_iast dX12_layTakes_153 nl_97 zk_97 (by rw [zn_97]; exact k11 c1 c2 c3 c6) ?_
          refine h_iload_n dX12_layTakes_154 rfl 4 rfl ?_
          refine h_aload_n dX12_layTakes_155 rfl 1 rfl ?_
          refine gf_10_19 dX12_layTakes_156 hl_X12_42 nl_87 zk_87 zp_87_19 ?_
          refine h_iload dX12_layTakes_159 6 rfl ?_
          refine h_iald dX12_layTakes_161 nl_97 zk_97 (by rw [zn_97]; exact k11 c1 c2 c3 c6) ?_
          refine h_aload_n dX12_layTakes_162 rfl 1 rfl ?_
          refine gf_10_7 dX12_layTakes_163 hl_X12_27 nl_87 zk_87 zp_87_7 ?_
          refine h_iload dX12_layTakes_166 6 rfl ?_
          refine h_iald dX12_layTakes_168 nl_92 zk_92 (by rw [zn_92]; exact k11 c1 c2 c3 c6) ?_
          refine h_imul dX12_layTakes_169 ?_
          refine h_iadd dX12_layTakes_170 ?_
          refine h_istore_n (L' := [(3, .int (x3 + (((setI I 97 (upd (I 97) x5.toNatClampNeg (I 88 ((x1 + 0) + x5).toNatClampNeg))) 97 x5.toNatClampNeg) * ((setI I 97 (upd (I 97) x5.toNatClampNeg (I 88 ((x1 + 0) + x5).toNatClampNeg))) 92 x5.toNatClampNeg)))), (6, .int (I 88 ((x1 + 0) + x5).toNatClampNeg)), (0, .ref 87), (1, .int x1), (2, .int x2), (4, .int x4), (5, .int x5)]) dX12_layTakes_171 rfl (by decide) rfl ?_
          refine h_iinc (v := (x5 + 1)) (L' := [(5, .int (x5 + 1)), (3, .int (x3 + (((setI I 97 (upd (I 97) x5.toNatClampNeg (I 88 ((x1 + 0) + x5).toNatClampNeg))) 97 x5.toNatClampNeg) * ((setI I 97 (upd (I 97) x5.toNatClampNeg (I 88 ((x1 + 0) + x5).toNatClampNeg))) 92 x5.toNatClampNeg)))), (6, .int (I 88 ((x1 + 0) + x5).toNatClampNeg)), (0, .ref 87), (1, .int x1), (2, .int x2), (4, .int x4)]) dX12_layTakes_172 6 rfl rfl (by decide) rfl ?_
          refine h_goto (tgt := 55) dX12_layTakes_175 (by decide) ?_
          refine h_pick [3, 4, 5, 1, 6, 0] [(0, .ref 87), (1, .int x1), (2, .int x2), (3, .int (x3 + (((setI I 97 (upd (I 97) x5.toNatClampNeg (I 88 ((x1 + 0) + x5).toNatClampNeg))) 97 x5.toNatClampNeg) * ((setI I 97 (upd (I 97) x5.toNatClampNeg (I 88 ((x1 + 0) + x5).toNatClampNeg))) 92 x5.toNatClampNeg)))), (4, .int x4), (5, .int (x5 + 1))] rfl ?_
          exact k12 c1 c2 c3 c6
    ·
      refine h_iload dX12_layTakes_90 6 rfl ?_
      refine h_iload_n dX12_layTakes_92 rfl 3 rfl ?_
      refine h_icmp_ge (tgt := 101) dX12_layTakes_93 (by decide) (fun c7 => ?_) (fun c7 => ?_)
      ·
        refine h_iconst (v := 0) dX12_layTakes_101 (by decide) ?_
        refine h_goto (tgt := 153) dX12_layTakes_102 (by decide) ?_
        refine h_iast dX12_layTakes_153 nl_97 zk_97 (by rw [zn_97]; exact k13 c1 c2 c7) ?_
        refine h_iload_n dX12_layTakes_154 rfl 4 rfl ?_
        refine h_aload_n dX12_layTakes_155 rfl 1 rfl ?_
        refine gf_10_19 dX12_layTakes_156 hl_X12_42 nl_87 zk_87 zp_87_19 ?_
        refine h_iload dX12_layTakes_159 6 rfl ?_
        refine h_iald dX12_layTakes_161 nl_97 zk_97 (by rw [zn_97]; exact k13 c1 c2 c7) ?_
        refine h_aload_n dX12_layTakes_162 rfl 1 rfl ?_
        refine gf_10_7 dX12_layTakes_163 hl_X12_27 nl_87 zk_87 zp_87_7 ?_
        refine h_iload dX12_layTakes_166 6 rfl ?_
        refine h_iald dX12_layTakes_168 nl_92 zk_92 (by rw [zn_92]; exact k13 c1 c2 c7) ?_
        refine h_imul dX12_layTakes_169 ?_
        refine h_iadd dX12_layTakes_170 ?_
        refine h_istore_n (L' := [(3, .int (x3 + (((setI I 97 (upd (I 97) x5.toNatClampNeg 0)) 97 x5.toNatClampNeg) * ((setI I 97 (upd (I 97) x5.toNatClampNeg 0)) 92 x5.toNatClampNeg)))), (6, .int (I 88 ((x1 + 0) + x5).toNatClampNeg)), (0, .ref 87), (1, .int x1), (2, .int x2), (4, .int x4), (5, .int x5)]) dX12_layTakes_171 rfl (by decide) rfl ?_
        refine h_iinc (v := (x5 + 1)) (L' := [(5, .int (x5 + 1)), (3, .int (x3 + (((setI I 97 (upd (I 97) x5.toNatClampNeg 0)) 97 x5.toNatClampNeg) * ((setI I 97 (upd (I 97) x5.toNatClampNeg 0)) 92 x5.toNatClampNeg)))), (6, .int (I 88 ((x1 + 0) + x5).toNatClampNeg)), (0, .ref 87), (1, .int x1), (2, .int x2), (4, .int x4)]) dX12_layTakes_172 6 rfl rfl (by decide) rfl ?_
        refine h_goto (tgt := 55) dX12_layTakes_175 (by decide) ?_
        refine h_pick [3, 4, 5, 1, 6, 0] [(0, .ref 87), (1, .int x1), (2, .int x2), (3, .int (x3 + (((setI I 97 (upd (I 97) x5.toNatClampNeg 0)) 97 x5.toNatClampNeg) * ((setI I 97 (upd (I 97) x5.toNatClampNeg 0)) 92 x5.toNatClampNeg)))), (4, .int x4), (5, .int (x5 + 1))] rfl ?_
        exact k14 c1 c2 c7
      ·
        refine h_iload dX12_layTakes_96 0 rfl ?_
        refine h_goto (tgt := 153) dX12_layTakes_98 (by decide) ?_
        refine h_iast dX12_layTakes_153 nl_97 zk_97 (by rw [zn_97]; exact k15 c1 c2 c7) ?_
        refine h_iload_n dX12_layTakes_154 rfl 4 rfl ?_
        refine h_aload_n dX12_layTakes_155 rfl 1 rfl ?_
        refine gf_10_19 dX12_layTakes_156 hl_X12_42 nl_87 zk_87 zp_87_19 ?_
        refine h_iload dX12_layTakes_159 6 rfl ?_
        refine h_iald dX12_layTakes_161 nl_97 zk_97 (by rw [zn_97]; exact k15 c1 c2 c7) ?_
        refine h_aload_n dX12_layTakes_162 rfl 1 rfl ?_
        refine gf_10_7 dX12_layTakes_163 hl_X12_27 nl_87 zk_87 zp_87_7 ?_
        refine h_iload dX12_layTakes_166 6 rfl ?_
        refine h_iald dX12_layTakes_168 nl_92 zk_92 (by rw [zn_92]; exact k15 c1 c2 c7) ?_
        refine h_imul dX12_layTakes_169 ?_
        refine h_iadd dX12_layTakes_170 ?_
        refine h_istore_n (L' := [(3, .int (x3 + (((setI I 97 (upd (I 97) x5.toNatClampNeg (I 88 ((x1 + 0) + x5).toNatClampNeg))) 97 x5.toNatClampNeg) * ((setI I 97 (upd (I 97) x5.toNatClampNeg (I 88 ((x1 + 0) + x5).toNatClampNeg))) 92 x5.toNatClampNeg)))), (6, .int (I 88 ((x1 + 0) + x5).toNatClampNeg)), (0, .ref 87), (1, .int x1), (2, .int x2), (4, .int x4), (5, .int x5)]) dX12_layTakes_171 rfl (by decide) rfl ?_
        refine h_iinc (v := (x5 + 1)) (L' := [(5, .int (x5 + 1)), (3, .int (x3 + (((setI I 97 (upd (I 97) x5.toNatClampNeg (I 88 ((x1 + 0) + x5).toNatClampNeg))) 97 x5.toNatClampNeg) * ((setI I 97 (upd (I 97) x5.toNatClampNeg (I 88 ((x1 + 0) + x5).toNatClampNeg))) 92 x5.toNatClampNeg)))), (6, .int (I 88 ((x1 + 0) + x5).toNatClampNeg)), (0, .ref 87), (1, .int x1), (2, .int x2), (4, .int x4)]) dX12_layTakes_172 6 rfl rfl (by decide) rfl ?_
        refine h_goto (tgt := 55) dX12_layTakes_175 (by decide) ?_
        refine h_pick [3, 4, 5, 1, 6, 0] [(0, .ref 87), (1, .int x1), (2, .int x2), (3, .int (x3 + (((setI I 97 (upd (I 97) x5.toNatClampNeg (I 88 ((x1 + 0) + x5).toNatClampNeg))) 97 x5.toNatClampNeg) * ((setI I 97 (upd (I 97) x5.toNatClampNeg (I 88 ((x1 + 0) + x5).toNatClampNeg))) 92 x5.toNatClampNeg)))), (4, .int x4), (5, .int (x5 + 1))] rfl ?_
        exact k16 c1 c2 c7
set_option maxHeartbeats 1000000 in
set_option maxRecDepth 4000 in
theorem sg_X12_gainOf_0 {E : HEn} {d : Nat} {Q : Option Value → HIh → Prop} {I : HIh} {a : Int32} {b : Int32}
    (k1 : HCall E me_X12_layTakes (d + 1) [.ref 87, .int a, .int b] I (fun v9 J => HGo E (mF E (d + 2) Q) me_X12_gainOf 6 [(0, .ref 87), (2, .int b)] (v9.toList ++ []) J))
    : HGo E (mF E (d + 2) Q) me_X12_gainOf 0 [(0, .ref 87), (1, .int a), (2, .int b)] [] I := by
  refine h_aload_n dX12_gainOf_0 rfl 0 rfl ?_
  refine h_iload_n dX12_gainOf_1 rfl 1 rfl ?_
  refine h_iload_n dX12_gainOf_2 rfl 2 rfl ?_
  refine h_pick [0, 2] [(0, .ref 87), (2, .int b)] rfl ?_
  refine h_invV (As := [.int a, .int b]) (st := []) dX12_gainOf_3 lk_X12_193 (h_room (by decide)) nl_87 zk_87 (by decide) rfl rfl rfl (Nat.le_of_ble_eq_true rfl) ?_
  exact k1
set_option maxHeartbeats 1000000 in
set_option maxRecDepth 4000 in
theorem sg_X12_gainOf_6 {E : HEn} {d : Nat} {Q : Option Value → HIh → Prop} {I : HIh} {x2 : Int32} {s0 : Int32}
    (k1 : vp_in x2 6)
    (k2 : Q (some (.int (s0 - (I 92 x2.toNatClampNeg)))) I)
    : HGo E (mF E (d + 2) Q) me_X12_gainOf 6 [(0, .ref 87), (2, .int x2)] [.int s0] I := by
  refine h_aload_n dX12_gainOf_6 rfl 0 rfl ?_
  refine gf_10_7 dX12_gainOf_7 hl_X12_27 nl_87 zk_87 zp_87_7 ?_
  refine h_iload_n dX12_gainOf_10 rfl 1 rfl ?_
  refine h_iald dX12_gainOf_11 nl_92 zk_92 (by rw [zn_92]; exact k1) ?_
  refine h_isub dX12_gainOf_12 ?_
  exact h_iret dX12_gainOf_13 rfl (k2)
set_option maxHeartbeats 1000000 in
set_option maxRecDepth 4000 in
theorem sg_X12_isHad_0 {E : HEn} {d : Nat} {Q : Option Value → HIh → Prop} {I : HIh} {a : Int32} {b : Int32} {e : Int32}
    (k1 : vp_in (((a + 6) + (6 * b)) + e) 341)
    (k2 : (I 88 (((a + 6) + (6 * b)) + e).toNatClampNeg) ≤ 0 → Q (some (.int 0)) I)
    (k3 : ¬ (I 88 (((a + 6) + (6 * b)) + e).toNatClampNeg) ≤ 0 → Q (some (.int 1)) I)
    : HGo E (mF E (d + 1) Q) me_X12_isHad 0 [(0, .ref 87), (1, .int a), (2, .int b), (3, .int e)] [] I := by
  refine h_aload_n dX12_isHad_0 rfl 0 rfl ?_
  refine gf_10_0 dX12_isHad_1 hl_X12_7 nl_87 zk_87 zp_87_0 ?_
  refine h_iload_n dX12_isHad_4 rfl 1 rfl ?_
  refine h_bipush (v := 6) dX12_isHad_5 (by decide) ?_
  refine h_iadd dX12_isHad_7 ?_
  refine h_bipush (v := 6) dX12_isHad_8 (by decide) ?_
  refine h_iload_n dX12_isHad_10 rfl 2 rfl ?_
  refine h_imul dX12_isHad_11 ?_
  refine h_iadd dX12_isHad_12 ?_
  refine h_iload_n dX12_isHad_13 rfl 3 rfl ?_
  refine h_iadd dX12_isHad_14 ?_
  refine h_iald dX12_isHad_15 nl_88 zk_88 (by rw [zn_88]; exact k1) ?_
  refine h_if_le (tgt := 23) dX12_isHad_16 (by decide) (fun c1 => ?_) (fun c1 => ?_)
  ·
    refine h_iconst (v := 0) dX12_isHad_23 (by decide) ?_
    exact h_zret dX12_isHad_24 rfl rfl (k2 c1)
  ·
    refine h_iconst (v := 1) dX12_isHad_19 (by decide) ?_
    refine h_goto (tgt := 24) dX12_isHad_20 (by decide) ?_
    exact h_zret dX12_isHad_24 rfl rfl (k3 c1)
set_option maxHeartbeats 1000000 in
set_option maxRecDepth 4000 in
theorem sg_X12_throwsOne_0 {E : HEn} {d : Nat} {Q : Option Value → HIh → Prop} {I : HIh} {a : Int32} {b : Int32} {e : Int32}
    (k1 : HCall E me_X12_layTakes (d + 1) [.ref 87, .int a, .int e] I (fun v9 J => HGo E (mF E (d + 2) Q) me_X12_throwsOne 6 [(0, .ref 87), (1, .int a), (2, .int b), (3, .int e)] (v9.toList ++ []) J))
    : HGo E (mF E (d + 2) Q) me_X12_throwsOne 0 [(0, .ref 87), (1, .int a), (2, .int b), (3, .int e)] [] I := by
  refine h_aload_n dX12_throwsOne_0 rfl 0 rfl ?_
  refine h_iload_n dX12_throwsOne_1 rfl 1 rfl ?_
  refine h_iload_n dX12_throwsOne_2 rfl 3 rfl ?_
  refine h_invV (As := [.int a, .int e]) (st := []) dX12_throwsOne_3 lk_X12_193 (h_room (by decide)) nl_87 zk_87 (by decide) rfl rfl rfl (Nat.le_of_ble_eq_true rfl) ?_
  exact k1
set_option maxHeartbeats 1000000 in
set_option maxRecDepth 4000 in
theorem sg_X12_throwsOne_6 {E : HEn} {d : Nat} {Q : Option Value → HIh → Prop} {I : HIh} {x1 : Int32} {x2 : Int32} {x3 : Int32} {s0 : Int32}
    (k1 : HGo E (mF E (d + 2) Q) me_X12_throwsOne 10 [(0, .ref 87), (1, .int x1), (2, .int x2), (3, .int x3), (4, .int 0)] [] I)
    : HGo E (mF E (d + 2) Q) me_X12_throwsOne 6 [(0, .ref 87), (1, .int x1), (2, .int x2), (3, .int x3)] [.int s0] I := by
  refine h_pop dX12_throwsOne_6 rfl ?_
  refine h_iconst (v := 0) dX12_throwsOne_7 (by decide) ?_
  refine h_istore (L' := [(4, .int 0), (0, .ref 87), (1, .int x1), (2, .int x2), (3, .int x3)]) dX12_throwsOne_8 (by decide) rfl ?_
  refine h_pick [1, 2, 3, 4, 0] [(0, .ref 87), (1, .int x1), (2, .int x2), (3, .int x3), (4, .int 0)] rfl ?_
  exact k1
set_option maxHeartbeats 1000000 in
set_option maxRecDepth 4000 in
theorem sg_X12_throwsOne_10 {E : HEn} {d : Nat} {Q : Option Value → HIh → Prop} {I : HIh} {x1 : Int32} {x2 : Int32} {x3 : Int32} {x4 : Int32}
    (k1 : (I 87 6) ≤ x4 → vp_in ((x1 + 0) + x3) 341)
    (k2 : (I 87 6) ≤ x4 → vp_in (((x1 + 6) + (6 * x2)) + x3) 341)
    (k3 : (I 87 6) ≤ x4 → Q none (setI (setI I 88 (upd (I 88) ((x1 + 0) + x3).toNatClampNeg ((I 88 ((x1 + 0) + x3).toNatClampNeg) + 1))) 88 (upd ((setI I 88 (upd (I 88) ((x1 + 0) + x3).toNatClampNeg ((I 88 ((x1 + 0) + x3).toNatClampNeg) + 1))) 88) (((x1 + 6) + (6 * x2)) + x3).toNatClampNeg (((setI I 88 (upd (I 88) ((x1 + 0) + x3).toNatClampNeg ((I 88 ((x1 + 0) + x3).toNatClampNeg) + 1))) 88 (((x1 + 6) + (6 * x2)) + x3).toNatClampNeg) - 1))))
    (k4 : ¬ (I 87 6) ≤ x4 → vp_in ((x1 + 0) + x4) 341)
    (k5 : ¬ (I 87 6) ≤ x4 → vp_in x4 6)
    (k6 : ¬ (I 87 6) ≤ x4 → vp_in (((x1 + 6) + (6 * x2)) + x4) 341)
    (k7 : ¬ (I 87 6) ≤ x4 → HGo E (mF E (d + 2) Q) me_X12_throwsOne 10 [(0, .ref 87), (1, .int x1), (2, .int x2), (3, .int x3), (4, .int (x4 + 1))] [] (setI (setI I 88 (upd (I 88) ((x1 + 0) + x4).toNatClampNeg ((I 88 ((x1 + 0) + x4).toNatClampNeg) - (I 97 x4.toNatClampNeg)))) 88 (upd ((setI I 88 (upd (I 88) ((x1 + 0) + x4).toNatClampNeg ((I 88 ((x1 + 0) + x4).toNatClampNeg) - (I 97 x4.toNatClampNeg)))) 88) (((x1 + 6) + (6 * x2)) + x4).toNatClampNeg (((setI I 88 (upd (I 88) ((x1 + 0) + x4).toNatClampNeg ((I 88 ((x1 + 0) + x4).toNatClampNeg) - (I 97 x4.toNatClampNeg)))) 88 (((x1 + 6) + (6 * x2)) + x4).toNatClampNeg) + ((setI I 88 (upd (I 88) ((x1 + 0) + x4).toNatClampNeg ((I 88 ((x1 + 0) + x4).toNatClampNeg) - (I 97 x4.toNatClampNeg)))) 97 x4.toNatClampNeg)))))
    : HGo E (mF E (d + 2) Q) me_X12_throwsOne 10 [(0, .ref 87), (1, .int x1), (2, .int x2), (3, .int x3), (4, .int x4)] [] I := by
  refine h_iload dX12_throwsOne_10 4 rfl ?_
  refine h_aload_n dX12_throwsOne_12 rfl 0 rfl ?_
  refine gf_10_6 dX12_throwsOne_13 hl_X12_23 nl_87 zk_87 ?_
  refine h_icmp_ge (tgt := 73) dX12_throwsOne_16 (by decide) (fun c1 => ?_) (fun c1 => ?_)
  ·
    refine h_aload_n dX12_throwsOne_73 rfl 0 rfl ?_
    refine gf_10_0 dX12_throwsOne_74 hl_X12_7 nl_87 zk_87 zp_87_0 ?_
    refine h_iload_n dX12_throwsOne_77 rfl 1 rfl ?_
    refine h_iconst (v := 0) dX12_throwsOne_78 (by decide) ?_
    refine h_iadd dX12_throwsOne_79 ?_
    refine h_iload_n dX12_throwsOne_80 rfl 3 rfl ?_
    refine h_iadd dX12_throwsOne_81 ?_
    refine h_dup2 dX12_throwsOne_82 rfl rfl ?_
    refine h_iald dX12_throwsOne_83 nl_88 zk_88 (by rw [zn_88]; exact k1 c1) ?_
    refine h_iconst (v := 1) dX12_throwsOne_84 (by decide) ?_
    refine h_iadd dX12_throwsOne_85 ?_
    refine h_iast dX12_throwsOne_86 nl_88 zk_88 (by rw [zn_88]; exact k1 c1) ?_
    refine h_aload_n dX12_throwsOne_87 rfl 0 rfl ?_
    refine gf_10_0 dX12_throwsOne_88 hl_X12_7 nl_87 zk_87 zp_87_0 ?_
    refine h_iload_n dX12_throwsOne_91 rfl 1 rfl ?_
    refine h_bipush (v := 6) dX12_throwsOne_92 (by decide) ?_
    refine h_iadd dX12_throwsOne_94 ?_
    refine h_bipush (v := 6) dX12_throwsOne_95 (by decide) ?_
    refine h_iload_n dX12_throwsOne_97 rfl 2 rfl ?_
    refine h_imul dX12_throwsOne_98 ?_
    refine h_iadd dX12_throwsOne_99 ?_
    refine h_iload_n dX12_throwsOne_100 rfl 3 rfl ?_
    refine h_iadd dX12_throwsOne_101 ?_
    refine h_dup2 dX12_throwsOne_102 rfl rfl ?_
    refine h_iald dX12_throwsOne_103 nl_88 zk_88 (by rw [zn_88]; exact k2 c1) ?_
    refine h_iconst (v := 1) dX12_throwsOne_104 (by decide) ?_
    refine h_isub dX12_throwsOne_105 ?_
    refine h_iast dX12_throwsOne_106 nl_88 zk_88 (by rw [zn_88]; exact k2 c1) ?_
    exact h_vret dX12_throwsOne_107 rfl (k3 c1)
  ·
    refine h_aload_n dX12_throwsOne_19 rfl 0 rfl ?_
    refine gf_10_0 dX12_throwsOne_20 hl_X12_7 nl_87 zk_87 zp_87_0 ?_
    refine h_iload_n dX12_throwsOne_23 rfl 1 rfl ?_
    refine h_iconst (v := 0) dX12_throwsOne_24 (by decide) ?_
    refine h_iadd dX12_throwsOne_25 ?_
    refine h_iload dX12_throwsOne_26 4 rfl ?_
    refine h_iadd dX12_throwsOne_28 ?_
    refine h_dup2 dX12_throwsOne_29 rfl rfl ?_
    refine h_iald dX12_throwsOne_30 nl_88 zk_88 (by rw [zn_88]; exact k4 c1) ?_
    refine h_aload_n dX12_throwsOne_31 rfl 0 rfl ?_
    refine gf_10_19 dX12_throwsOne_32 hl_X12_42 nl_87 zk_87 zp_87_19 ?_
    refine h_iload dX12_throwsOne_35 4 rfl ?_
    refine h_iald dX12_throwsOne_37 nl_97 zk_97 (by rw [zn_97]; exact k5 c1) ?_
    refine h_isub dX12_throwsOne_38 ?_
    refine h_iast dX12_throwsOne_39 nl_88 zk_88 (by rw [zn_88]; exact k4 c1) ?_
    refine h_aload_n dX12_throwsOne_40 rfl 0 rfl ?_
    refine gf_10_0 dX12_throwsOne_41 hl_X12_7 nl_87 zk_87 zp_87_0 ?_
    refine h_iload_n dX12_throwsOne_44 rfl 1 rfl ?_
    refine h_bipush (v := 6) dX12_throwsOne_45 (by decide) ?_
    refine h_iadd dX12_throwsOne_47 ?_
    refine h_bipush (v := 6) dX12_throwsOne_48 (by decide) ?_
    refine h_iload_n dX12_throwsOne_50 rfl 2 rfl ?_
    refine h_imul dX12_throwsOne_51 ?_
    refine h_iadd dX12_throwsOne_52 ?_
    refine h_iload dX12_throwsOne_53 4 rfl ?_
    refine h_iadd dX12_throwsOne_55 ?_
    refine h_dup2 dX12_throwsOne_56 rfl rfl ?_
    refine h_iald dX12_throwsOne_57 nl_88 zk_88 (by rw [zn_88]; exact k6 c1) ?_
    refine h_aload_n dX12_throwsOne_58 rfl 0 rfl ?_
    refine gf_10_19 dX12_throwsOne_59 hl_X12_42 nl_87 zk_87 zp_87_19 ?_
    refine h_iload dX12_throwsOne_62 4 rfl ?_
    refine h_iald dX12_throwsOne_64 nl_97 zk_97 (by rw [zn_97]; exact k5 c1) ?_
    refine h_iadd dX12_throwsOne_65 ?_
    refine h_iast dX12_throwsOne_66 nl_88 zk_88 (by rw [zn_88]; exact k6 c1) ?_
    refine h_iinc (v := (x4 + 1)) (L' := [(4, .int (x4 + 1)), (0, .ref 87), (1, .int x1), (2, .int x2), (3, .int x3)]) dX12_throwsOne_67 4 rfl rfl (by decide) rfl ?_
    refine h_goto (tgt := 10) dX12_throwsOne_70 (by decide) ?_
    refine h_pick [1, 2, 3, 4, 0] [(0, .ref 87), (1, .int x1), (2, .int x2), (3, .int x3), (4, .int (x4 + 1))] rfl ?_
    exact k7 c1
set_option maxHeartbeats 1000000 in
set_option maxRecDepth 4000 in
theorem sg_X12_byHabit_0 {E : HEn} {d : Nat} {Q : Option Value → HIh → Prop} {I : HIh} {a : Int32} {b : Int32}
    (k1 : HGo E (mF E (d + 3) Q) me_X12_byHabit 8 [(0, .ref 87), (1, .int a), (2, .int b), (3, .int (-1)), (4, .int 0), (5, .int 0)] [] I)
    : HGo E (mF E (d + 3) Q) me_X12_byHabit 0 [(0, .ref 87), (1, .int a), (2, .int b)] [] I := by
  refine h_iconst (v := (-1)) dX12_byHabit_0 (by decide) ?_
  refine h_istore_n (L' := [(3, .int (-1)), (0, .ref 87), (1, .int a), (2, .int b)]) dX12_byHabit_1 rfl (by decide) rfl ?_
  refine h_iconst (v := 0) dX12_byHabit_2 (by decide) ?_
  refine h_istore (L' := [(4, .int 0), (3, .int (-1)), (0, .ref 87), (1, .int a), (2, .int b)]) dX12_byHabit_3 (by decide) rfl ?_
  refine h_iconst (v := 0) dX12_byHabit_5 (by decide) ?_
  refine h_istore (L' := [(5, .int 0), (4, .int 0), (3, .int (-1)), (0, .ref 87), (1, .int a), (2, .int b)]) dX12_byHabit_6 (by decide) rfl ?_
  refine h_pick [3, 4, 5, 2, 1, 0] [(0, .ref 87), (1, .int a), (2, .int b), (3, .int (-1)), (4, .int 0), (5, .int 0)] rfl ?_
  exact k1
set_option maxHeartbeats 1000000 in
set_option maxRecDepth 4000 in
theorem sg_X12_byHabit_8 {E : HEn} {d : Nat} {Q : Option Value → HIh → Prop} {I : HIh} {x1 : Int32} {x2 : Int32} {x3 : Int32} {x4 : Int32} {x5 : Int32}
    (k1 : (I 87 6) ≤ x5 → vp_in x2 4)
    (k2 : (I 87 6) ≤ x5 → (I 94 x2.toNatClampNeg) = 0 → Q (some (.int (-1))) I)
    (k3 : (I 87 6) ≤ x5 → ¬ (I 94 x2.toNatClampNeg) = 0 → vp_in x2 4)
    (k4 : (I 87 6) ≤ x5 → ¬ (I 94 x2.toNatClampNeg) = 0 → ¬ (I 94 x2.toNatClampNeg) = 2 → Q (some (.int x3)) I)
    (k5 : (I 87 6) ≤ x5 → ¬ (I 94 x2.toNatClampNeg) = 0 → (I 94 x2.toNatClampNeg) = 2 → vp_in x2 4)
    (k6 : (I 87 6) ≤ x5 → ¬ (I 94 x2.toNatClampNeg) = 0 → (I 94 x2.toNatClampNeg) = 2 → (I 95 x2.toNatClampNeg) ≤ x4 → Q (some (.int x3)) I)
    (k7 : (I 87 6) ≤ x5 → ¬ (I 94 x2.toNatClampNeg) = 0 → (I 94 x2.toNatClampNeg) = 2 → ¬ (I 95 x2.toNatClampNeg) ≤ x4 → Q (some (.int (-1))) I)
    (k8 : ¬ (I 87 6) ≤ x5 → HCall E me_X12_isHad (d + 2) [.ref 87, .int x1, .int x2, .int x5] I (fun v9 J => HGo E (mF E (d + 3) Q) me_X12_byHabit 25 [(0, .ref 87), (1, .int x1), (2, .int x2), (3, .int x3), (4, .int x4), (5, .int x5)] (v9.toList ++ []) J))
    : HGo E (mF E (d + 3) Q) me_X12_byHabit 8 [(0, .ref 87), (1, .int x1), (2, .int x2), (3, .int x3), (4, .int x4), (5, .int x5)] [] I := by
  refine h_iload dX12_byHabit_8 5 rfl ?_
  refine h_aload_n dX12_byHabit_10 rfl 0 rfl ?_
  refine gf_10_6 dX12_byHabit_11 hl_X12_23 nl_87 zk_87 ?_
  refine h_icmp_ge (tgt := 102) dX12_byHabit_14 (by decide) (fun c1 => ?_) (fun c1 => ?_)
  ·
    refine h_aload_n dX12_byHabit_102 rfl 0 rfl ?_
    refine gf_10_9 dX12_byHabit_103 hl_X12_33 nl_87 zk_87 zp_87_9 ?_
    refine h_iload_n dX12_byHabit_106 rfl 2 rfl ?_
    refine h_iald dX12_byHabit_107 nl_94 zk_94 (by rw [zn_94]; exact k1 c1) ?_
    refine h_if_eq (tgt := 132) dX12_byHabit_108 (by decide) (fun c2 => ?_) (fun c2 => ?_)
    ·
      refine h_iconst (v := (-1)) dX12_byHabit_132 (by decide) ?_
      refine h_goto (tgt := 137) dX12_byHabit_133 (by decide) ?_
      exact h_iret dX12_byHabit_137 rfl (k2 c1 c2)
    ·
      refine h_aload_n dX12_byHabit_111 rfl 0 rfl ?_
      refine gf_10_9 dX12_byHabit_112 hl_X12_33 nl_87 zk_87 zp_87_9 ?_
      refine h_iload_n dX12_byHabit_115 rfl 2 rfl ?_
      refine h_iald dX12_byHabit_116 nl_94 zk_94 (by rw [zn_94]; exact k3 c1 c2) ?_
      refine h_iconst (v := 2) dX12_byHabit_117 (by decide) ?_
      refine h_icmp_ne (tgt := 136) dX12_byHabit_118 (by decide) (fun c3 => ?_) (fun c3 => ?_)
      ·
        refine h_iload_n dX12_byHabit_136 rfl 3 rfl ?_
        exact h_iret dX12_byHabit_137 rfl (k4 c1 c2 c3)
      ·
        refine h_iload dX12_byHabit_121 4 rfl ?_
        refine h_aload_n dX12_byHabit_123 rfl 0 rfl ?_
        refine gf_10_10 dX12_byHabit_124 hl_X12_36 nl_87 zk_87 zp_87_10 ?_
        refine h_iload_n dX12_byHabit_127 rfl 2 rfl ?_
        refine h_iald dX12_byHabit_128 nl_95 zk_95 (by rw [zn_95]; exact k5 c1 c2 c3) ?_
        refine h_icmp_ge (tgt := 136) dX12_byHabit_129 (by decide) (fun c4 => ?_) (fun c4 => ?_)
        ·
          refine h_iload_n dX12_byHabit_136 rfl 3 rfl ?_
          exact h_iret dX12_byHabit_137 rfl (k6 c1 c2 c3 c4)
        ·
          refine h_iconst (v := (-1)) dX12_byHabit_132 (by decide) ?_
          refine h_goto (tgt := 137) dX12_byHabit_133 (by decide) ?_
          exact h_iret dX12_byHabit_137 rfl (k7 c1 c2 c3 c4)
  ·
    refine h_aload_n dX12_byHabit_17 rfl 0 rfl ?_
    refine h_iload_n dX12_byHabit_18 rfl 1 rfl ?_
    refine h_iload_n dX12_byHabit_19 rfl 2 rfl ?_
    refine h_iload dX12_byHabit_20 5 rfl ?_
    refine h_invV (As := [.int x1, .int x2, .int x5]) (st := []) dX12_byHabit_22 lk_X12_196 (h_room (by decide)) nl_87 zk_87 (by decide) rfl rfl rfl (Nat.le_of_ble_eq_true rfl) ?_
    exact k8 c1
set_option maxHeartbeats 1000000 in
set_option maxRecDepth 4000 in
theorem sg_X12_byHabit_25 {E : HEn} {d : Nat} {Q : Option Value → HIh → Prop} {I : HIh} {x1 : Int32} {x2 : Int32} {x3 : Int32} {x4 : Int32} {x5 : Int32} {s0 : Int32}
    (k1 : s0 = 0 → 0 ≤ x4 → HGo E (mF E (d + 3) Q) me_X12_byHabit 8 [(0, .ref 87), (1, .int x1), (2, .int x2), (3, .int x3), (4, .int x4), (5, .int (x5 + 1))] [] I)
    (k2 : s0 = 0 → ¬ 0 ≤ x4 → vp_in x2 4)
    (k3 : s0 = 0 → ¬ 0 ≤ x4 → ¬ (I 94 x2.toNatClampNeg) = 3 → HGo E (mF E (d + 3) Q) me_X12_byHabit 8 [(0, .ref 87), (1, .int x1), (2, .int x2), (3, .int x5), (4, .int 0), (5, .int (x5 + 1))] [] I)
    (k4 : s0 = 0 → ¬ 0 ≤ x4 → (I 94 x2.toNatClampNeg) = 3 → ¬ x3 = (-1) → HGo E (mF E (d + 3) Q) me_X12_byHabit 8 [(0, .ref 87), (1, .int x1), (2, .int x2), (3, .int x3), (4, .int x4), (5, .int (x5 + 1))] [] I)
    (k5 : s0 = 0 → ¬ 0 ≤ x4 → (I 94 x2.toNatClampNeg) = 3 → x3 = (-1) → HGo E (mF E (d + 3) Q) me_X12_byHabit 8 [(0, .ref 87), (1, .int x1), (2, .int x2), (3, .int x5), (4, .int 0), (5, .int (x5 + 1))] [] I)
    (k6 : ¬ s0 = 0 → HCall E me_X12_gainOf (d + 2) [.ref 87, .int x1, .int x5] I (fun v9 J => HGo E (mF E (d + 3) Q) me_X12_byHabit 35 [(0, .ref 87), (1, .int x1), (2, .int x2), (3, .int x3), (4, .int x4), (5, .int x5)] (v9.toList ++ []) J))
    : HGo E (mF E (d + 3) Q) me_X12_byHabit 25 [(0, .ref 87), (1, .int x1), (2, .int x2), (3, .int x3), (4, .int x4), (5, .int x5)] [.int s0] I := by
  refine h_if_eq (tgt := 38) dX12_byHabit_25 (by decide) (fun c1 => ?_) (fun c1 => ?_)
  ·
    refine h_iconst (v := 0) dX12_byHabit_38 (by decide) ?_
    refine h_istore (L' := [(6, .int 0), (0, .ref 87), (1, .int x1), (2, .int x2), (3, .int x3), (4, .int x4), (5, .int x5)]) dX12_byHabit_39 (by decide) rfl ?_
    refine h_iload dX12_byHabit_41 0 rfl ?_
    refine h_iload dX12_byHabit_43 5 rfl ?_
    refine h_icmp_le (tgt := 67) dX12_byHabit_45 (by decide) (fun c2 => ?_) (fun c2 => ?_)
    ·
      refine h_iconst (v := 0) dX12_byHabit_67 (by decide) ?_
      refine h_istore (L' := [(7, .int 0), (6, .int 0), (0, .ref 87), (1, .int x1), (2, .int x2), (3, .int x3), (4, .int x4), (5, .int x5)]) dX12_byHabit_68 (by decide) rfl ?_
      refine h_iload dX12_byHabit_70 0 rfl ?_
      refine h_if_eq (tgt := 80) dX12_byHabit_72 (by decide) (fun _ => ?_) (fun c => absurd c (by decide))
      refine h_iload_n dX12_byHabit_80 rfl 5 rfl ?_
      refine h_istore_n (L' := [(3, .int x3), (7, .int 0), (6, .int 0), (0, .ref 87), (1, .int x1), (2, .int x2), (4, .int x4), (5, .int x5)]) dX12_byHabit_81 rfl (by decide) rfl ?_
      refine h_iload dX12_byHabit_82 1 rfl ?_
      refine h_if_eq (tgt := 92) dX12_byHabit_84 (by decide) (fun _ => ?_) (fun c => absurd c (by decide))
      refine h_iload dX12_byHabit_92 6 rfl ?_
      refine h_istore (L' := [(4, .int x4), (3, .int x3), (7, .int 0), (6, .int 0), (0, .ref 87), (1, .int x1), (2, .int x2), (5, .int x5)]) dX12_byHabit_94 (by decide) rfl ?_
      refine h_iinc (v := (x5 + 1)) (L' := [(5, .int (x5 + 1)), (4, .int x4), (3, .int x3), (7, .int 0), (6, .int 0), (0, .ref 87), (1, .int x1), (2, .int x2)]) dX12_byHabit_96 7 rfl rfl (by decide) rfl ?_
      refine h_goto (tgt := 8) dX12_byHabit_99 (by decide) ?_
      refine h_pick [5, 6, 7, 2, 1, 0] [(0, .ref 87), (1, .int x1), (2, .int x2), (3, .int x3), (4, .int x4), (5, .int (x5 + 1))] rfl ?_
      exact k1 c1 c2
    ·
      refine h_aload_n dX12_byHabit_48 rfl 1 rfl ?_
      refine gf_10_9 dX12_byHabit_49 hl_X12_33 nl_87 zk_87 zp_87_9 ?_
      refine h_iload_n dX12_byHabit_52 rfl 3 rfl ?_
      refine h_iald dX12_byHabit_53 nl_94 zk_94 (by rw [zn_94]; exact k2 c1 c2) ?_
      refine h_iconst (v := 3) dX12_byHabit_54 (by decide) ?_
      refine h_icmp_ne (tgt := 63) dX12_byHabit_55 (by decide) (fun c3 => ?_) (fun c3 => ?_)
      ·
        refine h_iconst (v := 1) dX12_byHabit_63 (by decide) ?_
        refine h_goto (tgt := 68) dX12_byHabit_64 (by decide) ?_
        refine h_istore (L' := [(7, .int 1), (6, .int 0), (0, .ref 87), (1, .int x1), (2, .int x2), (3, .int x3), (4, .int x4), (5, .int x5)]) dX12_byHabit_68 (by decide) rfl ?_
        refine h_iload dX12_byHabit_70 0 rfl ?_
        refine h_if_eq (tgt := 80) dX12_byHabit_72 (by decide) (fun c => absurd c (by decide)) (fun _ => ?_)
        refine h_iload dX12_byHabit_75 7 rfl ?_
        refine h_goto (tgt := 81) dX12_byHabit_77 (by decide) ?_
        refine h_istore_n (L' := [(3, .int x5), (7, .int 1), (6, .int 0), (0, .ref 87), (1, .int x1), (2, .int x2), (4, .int x4), (5, .int x5)]) dX12_byHabit_81 rfl (by decide) rfl ?_
        refine h_iload dX12_byHabit_82 1 rfl ?_
        refine h_if_eq (tgt := 92) dX12_byHabit_84 (by decide) (fun c => absurd c (by decide)) (fun _ => ?_)
        refine h_iload dX12_byHabit_87 2 rfl ?_
        refine h_goto (tgt := 94) dX12_byHabit_89 (by decide) ?_
        refine h_istore (L' := [(4, .int 0), (3, .int x5), (7, .int 1), (6, .int 0), (0, .ref 87), (1, .int x1), (2, .int x2), (5, .int x5)]) dX12_byHabit_94 (by decide) rfl ?_
        refine h_iinc (v := (x5 + 1)) (L' := [(5, .int (x5 + 1)), (4, .int 0), (3, .int x5), (7, .int 1), (6, .int 0), (0, .ref 87), (1, .int x1), (2, .int x2)]) dX12_byHabit_96 7 rfl rfl (by decide) rfl ?_
        refine h_goto (tgt := 8) dX12_byHabit_99 (by decide) ?_
        refine h_pick [5, 6, 7, 2, 1, 0] [(0, .ref 87), (1, .int x1), (2, .int x2), (3, .int x5), (4, .int 0), (5, .int (x5 + 1))] rfl ?_
        exact k3 c1 c2 c3
      ·
        refine h_iload_n dX12_byHabit_58 rfl 4 rfl ?_
        refine h_iconst (v := (-1)) dX12_byHabit_59 (by decide) ?_
        refine h_icmp_ne (tgt := 67) dX12_byHabit_60 (by decide) (fun c4 => ?_) (fun c4 => ?_)
        ·
          refine h_iconst (v := 0) dX12_byHabit_67 (by decide) ?_
          refine h_istore (L' := [(7, .int 0), (6, .int 0), (0, .ref 87), (1, .int x1), (2, .int x2), (3, .int x3), (4, .int x4), (5, .int x5)]) dX12_byHabit_68 (by decide) rfl ?_
          refine h_iload dX12_byHabit_70 0 rfl ?_
          refine h_if_eq (tgt := 80) dX12_byHabit_72 (by decide) (fun _ => ?_) (fun c => absurd c (by decide))
          refine h_iload_n dX12_byHabit_80 rfl 5 rfl ?_
          refine h_istore_n (L' := [(3, .int x3), (7, .int 0), (6, .int 0), (0, .ref 87), (1, .int x1), (2, .int x2), (4, .int x4), (5, .int x5)]) dX12_byHabit_81 rfl (by decide) rfl ?_
          refine h_iload dX12_byHabit_82 1 rfl ?_
          refine h_if_eq (tgt := 92) dX12_byHabit_84 (by decide) (fun _ => ?_) (fun c => absurd c (by decide))
          refine h_iload dX12_byHabit_92 6 rfl ?_
          refine h_istore (L' := [(4, .int x4), (3, .int x3), (7, .int 0), (6, .int 0), (0, .ref 87), (1, .int x1), (2, .int x2), (5, .int x5)]) dX12_byHabit_94 (by decide) rfl ?_
          refine h_iinc (v := (x5 + 1)) (L' := [(5, .int (x5 + 1)), (4, .int x4), (3, .int x3), (7, .int 0), (6, .int 0), (0, .ref 87), (1, .int x1), (2, .int x2)]) dX12_byHabit_96 7 rfl rfl (by decide) rfl ?_
          refine h_goto (tgt := 8) dX12_byHabit_99 (by decide) ?_
          refine h_pick [5, 6, 7, 2, 1, 0] [(0, .ref 87), (1, .int x1), (2, .int x2), (3, .int x3), (4, .int x4), (5, .int (x5 + 1))] rfl ?_
          exact k4 c1 c2 c3 c4
        ·
          refine h_iconst (v := 1) dX12_byHabit_63 (by decide) ?_
          refine h_goto (tgt := 68) dX12_byHabit_64 (by decide) ?_
          refine h_istore (L' := [(7, .int 1), (6, .int 0), (0, .ref 87), (1, .int x1), (2, .int x2), (3, .int x3), (4, .int x4), (5, .int x5)]) dX12_byHabit_68 (by decide) rfl ?_
          refine h_iload dX12_byHabit_70 0 rfl ?_
          refine h_if_eq (tgt := 80) dX12_byHabit_72 (by decide) (fun c => absurd c (by decide)) (fun _ => ?_)
          refine h_iload dX12_byHabit_75 7 rfl ?_
          refine h_goto (tgt := 81) dX12_byHabit_77 (by decide) ?_
          refine h_istore_n (L' := [(3, .int x5), (7, .int 1), (6, .int 0), (0, .ref 87), (1, .int x1), (2, .int x2), (4, .int x4), (5, .int x5)]) dX12_byHabit_81 rfl (by decide) rfl ?_
          refine h_iload dX12_byHabit_82 1 rfl ?_
          refine h_if_eq (tgt := 92) dX12_byHabit_84 (by decide) (fun c => absurd c (by decide)) (fun _ => ?_)
          refine h_iload dX12_byHabit_87 2 rfl ?_
          refine h_goto (tgt := 94) dX12_byHabit_89 (by decide) ?_
          refine h_istore (L' := [(4, .int 0), (3, .int x5), (7, .int 1), (6, .int 0), (0, .ref 87), (1, .int x1), (2, .int x2), (5, .int x5)]) dX12_byHabit_94 (by decide) rfl ?_
          refine h_iinc (v := (x5 + 1)) (L' := [(5, .int (x5 + 1)), (4, .int 0), (3, .int x5), (7, .int 1), (6, .int 0), (0, .ref 87), (1, .int x1), (2, .int x2)]) dX12_byHabit_96 7 rfl rfl (by decide) rfl ?_
          refine h_goto (tgt := 8) dX12_byHabit_99 (by decide) ?_
          refine h_pick [5, 6, 7, 2, 1, 0] [(0, .ref 87), (1, .int x1), (2, .int x2), (3, .int x5), (4, .int 0), (5, .int (x5 + 1))] rfl ?_
          exact k5 c1 c2 c3 c4
  ·
    refine h_aload_n dX12_byHabit_28 rfl 0 rfl ?_
    refine h_iload_n dX12_byHabit_29 rfl 1 rfl ?_
    refine h_iload dX12_byHabit_30 5 rfl ?_
    refine h_invV (As := [.int x1, .int x5]) (st := []) dX12_byHabit_32 lk_X12_200 (h_room (by decide)) nl_87 zk_87 (by decide) rfl rfl rfl (Nat.le_of_ble_eq_true rfl) ?_
    exact k6 c1
set_option maxHeartbeats 1000000 in
set_option maxRecDepth 4000 in
theorem sg_X12_byHabit_35 {E : HEn} {d : Nat} {Q : Option Value → HIh → Prop} {I : HIh} {x1 : Int32} {x2 : Int32} {x3 : Int32} {x4 : Int32} {x5 : Int32} {s0 : Int32}
    (k1 : s0 ≤ x4 → HGo E (mF E (d + 3) Q) me_X12_byHabit 8 [(0, .ref 87), (1, .int x1), (2, .int x2), (3, .int x3), (4, .int x4), (5, .int (x5 + 1))] [] I)
    (k2 : ¬ s0 ≤ x4 → vp_in x2 4)
    (k3 : ¬ s0 ≤ x4 → ¬ (I 94 x2.toNatClampNeg) = 3 → HGo E (mF E (d + 3) Q) me_X12_byHabit 8 [(0, .ref 87), (1, .int x1), (2, .int x2), (3, .int x5), (4, .int s0), (5, .int (x5 + 1))] [] I)
    (k4 : ¬ s0 ≤ x4 → (I 94 x2.toNatClampNeg) = 3 → ¬ x3 = (-1) → HGo E (mF E (d + 3) Q) me_X12_byHabit 8 [(0, .ref 87), (1, .int x1), (2, .int x2), (3, .int x3), (4, .int x4), (5, .int (x5 + 1))] [] I)
    (k5 : ¬ s0 ≤ x4 → (I 94 x2.toNatClampNeg) = 3 → x3 = (-1) → HGo E (mF E (d + 3) Q) me_X12_byHabit 8 [(0, .ref 87), (1, .int x1), (2, .int x2), (3, .int x5), (4, .int s0), (5, .int (x5 + 1))] [] I)
    : HGo E (mF E (d + 3) Q) me_X12_byHabit 35 [(0, .ref 87), (1, .int x1), (2, .int x2), (3, .int x3), (4, .int x4), (5, .int x5)] [.int s0] I := by
  refine h_goto (tgt := 39) dX12_byHabit_35 (by decide) ?_
  refine h_istore (L' := [(6, .int s0), (0, .ref 87), (1, .int x1), (2, .int x2), (3, .int x3), (4, .int x4), (5, .int x5)]) dX12_byHabit_39 (by decide) rfl ?_
  refine h_iload dX12_byHabit_41 0 rfl ?_
  refine h_iload dX12_byHabit_43 5 rfl ?_
  refine h_icmp_le (tgt := 67) dX12_byHabit_45 (by decide) (fun c1 => ?_) (fun c1 => ?_)
  ·
    refine h_iconst (v := 0) dX12_byHabit_67 (by decide) ?_
    refine h_istore (L' := [(7, .int 0), (6, .int s0), (0, .ref 87), (1, .int x1), (2, .int x2), (3, .int x3), (4, .int x4), (5, .int x5)]) dX12_byHabit_68 (by decide) rfl ?_
    refine h_iload dX12_byHabit_70 0 rfl ?_
    refine h_if_eq (tgt := 80) dX12_byHabit_72 (by decide) (fun _ => ?_) (fun c => absurd c (by decide))
    refine h_iload_n dX12_byHabit_80 rfl 5 rfl ?_
    refine h_istore_n (L' := [(3, .int x3), (7, .int 0), (6, .int s0), (0, .ref 87), (1, .int x1), (2, .int x2), (4, .int x4), (5, .int x5)]) dX12_byHabit_81 rfl (by decide) rfl ?_
    refine h_iload dX12_byHabit_82 1 rfl ?_
    refine h_if_eq (tgt := 92) dX12_byHabit_84 (by decide) (fun _ => ?_) (fun c => absurd c (by decide))
    refine h_iload dX12_byHabit_92 6 rfl ?_
    refine h_istore (L' := [(4, .int x4), (3, .int x3), (7, .int 0), (6, .int s0), (0, .ref 87), (1, .int x1), (2, .int x2), (5, .int x5)]) dX12_byHabit_94 (by decide) rfl ?_
    refine h_iinc (v := (x5 + 1)) (L' := [(5, .int (x5 + 1)), (4, .int x4), (3, .int x3), (7, .int 0), (6, .int s0), (0, .ref 87), (1, .int x1), (2, .int x2)]) dX12_byHabit_96 7 rfl rfl (by decide) rfl ?_
    refine h_goto (tgt := 8) dX12_byHabit_99 (by decide) ?_
    refine h_pick [5, 6, 7, 2, 1, 0] [(0, .ref 87), (1, .int x1), (2, .int x2), (3, .int x3), (4, .int x4), (5, .int (x5 + 1))] rfl ?_
    exact k1 c1
  ·
    refine h_aload_n dX12_byHabit_48 rfl 1 rfl ?_
    refine gf_10_9 dX12_byHabit_49 hl_X12_33 nl_87 zk_87 zp_87_9 ?_
    refine h_iload_n dX12_byHabit_52 rfl 3 rfl ?_
    refine h_iald dX12_byHabit_53 nl_94 zk_94 (by rw [zn_94]; exact k2 c1) ?_
    refine h_iconst (v := 3) dX12_byHabit_54 (by decide) ?_
    refine h_icmp_ne (tgt := 63) dX12_byHabit_55 (by decide) (fun c2 => ?_) (fun c2 => ?_)
    ·
      refine h_iconst (v := 1) dX12_byHabit_63 (by decide) ?_
      refine h_goto (tgt := 68) dX12_byHabit_64 (by decide) ?_
      refine h_istore (L' := [(7, .int 1), (6, .int s0), (0, .ref 87), (1, .int x1), (2, .int x2), (3, .int x3), (4, .int x4), (5, .int x5)]) dX12_byHabit_68 (by decide) rfl ?_
      refine h_iload dX12_byHabit_70 0 rfl ?_
      refine h_if_eq (tgt := 80) dX12_byHabit_72 (by decide) (fun c => absurd c (by decide)) (fun _ => ?_)
      refine h_iload dX12_byHabit_75 7 rfl ?_
      refine h_goto (tgt := 81) dX12_byHabit_77 (by decide) ?_
      refine h_istore_n (L' := [(3, .int x5), (7, .int 1), (6, .int s0), (0, .ref 87), (1, .int x1), (2, .int x2), (4, .int x4), (5, .int x5)]) dX12_byHabit_81 rfl (by decide) rfl ?_
      refine h_iload dX12_byHabit_82 1 rfl ?_
      refine h_if_eq (tgt := 92) dX12_byHabit_84 (by decide) (fun c => absurd c (by decide)) (fun _ => ?_)
      refine h_iload dX12_byHabit_87 2 rfl ?_
      refine h_goto (tgt := 94) dX12_byHabit_89 (by decide) ?_
      refine h_istore (L' := [(4, .int s0), (3, .int x5), (7, .int 1), (6, .int s0), (0, .ref 87), (1, .int x1), (2, .int x2), (5, .int x5)]) dX12_byHabit_94 (by decide) rfl ?_
      refine h_iinc (v := (x5 + 1)) (L' := [(5, .int (x5 + 1)), (4, .int s0), (3, .int x5), (7, .int 1), (6, .int s0), (0, .ref 87), (1, .int x1), (2, .int x2)]) dX12_byHabit_96 7 rfl rfl (by decide) rfl ?_
      refine h_goto (tgt := 8) dX12_byHabit_99 (by decide) ?_
      refine h_pick [5, 6, 7, 2, 1, 0] [(0, .ref 87), (1, .int x1), (2, .int x2), (3, .int x5), (4, .int s0), (5, .int (x5 + 1))] rfl ?_
      exact k3 c1 c2
    ·
      refine h_iload_n dX12_byHabit_58 rfl 4 rfl ?_
      refine h_iconst (v := (-1)) dX12_byHabit_59 (by decide) ?_
      refine h_icmp_ne (tgt := 67) dX12_byHabit_60 (by decide) (fun c3 => ?_) (fun c3 => ?_)
      ·
        refine h_iconst (v := 0) dX12_byHabit_67 (by decide) ?_
        refine h_istore (L' := [(7, .int 0), (6, .int s0), (0, .ref 87), (1, .int x1), (2, .int x2), (3, .int x3), (4, .int x4), (5, .int x5)]) dX12_byHabit_68 (by decide) rfl ?_
        refine h_iload dX12_byHabit_70 0 rfl ?_
        refine h_if_eq (tgt := 80) dX12_byHabit_72 (by decide) (fun _ => ?_) (fun c => absurd c (by decide))
        refine h_iload_n dX12_byHabit_80 rfl 5 rfl ?_
        refine h_istore_n (L' := [(3, .int x3), (7, .int 0), (6, .int s0), (0, .ref 87), (1, .int x1), (2, .int x2), (4, .int x4), (5, .int x5)]) dX12_byHabit_81 rfl (by decide) rfl ?_
        refine h_iload dX12_byHabit_82 1 rfl ?_
        refine h_if_eq (tgt := 92) dX12_byHabit_84 (by decide) (fun _ => ?_) (fun c => absurd c (by decide))
        refine h_iload dX12_byHabit_92 6 rfl ?_
        refine h_istore (L' := [(4, .int x4), (3, .int x3), (7, .int 0), (6, .int s0), (0, .ref 87), (1, .int x1), (2, .int x2), (5, .int x5)]) dX12_byHabit_94 (by decide) rfl ?_
        refine h_iinc (v := (x5 + 1)) (L' := [(5, .int (x5 + 1)), (4, .int x4), (3, .int x3), (7, .int 0), (6, .int s0), (0, .ref 87), (1, .int x1), (2, .int x2)]) dX12_byHabit_96 7 rfl rfl (by decide) rfl ?_
        refine h_goto (tgt := 8) dX12_byHabit_99 (by decide) ?_
        refine h_pick [5, 6, 7, 2, 1, 0] [(0, .ref 87), (1, .int x1), (2, .int x2), (3, .int x3), (4, .int x4), (5, .int (x5 + 1))] rfl ?_
        exact k4 c1 c2 c3
      ·
        refine h_iconst (v := 1) dX12_byHabit_63 (by decide) ?_
        refine h_goto (tgt := 68) dX12_byHabit_64 (by decide) ?_
        refine h_istore (L' := [(7, .int 1), (6, .int s0), (0, .ref 87), (1, .int x1), (2, .int x2), (3, .int x3), (4, .int x4), (5, .int x5)]) dX12_byHabit_68 (by decide) rfl ?_
        refine h_iload dX12_byHabit_70 0 rfl ?_
        refine h_if_eq (tgt := 80) dX12_byHabit_72 (by decide) (fun c => absurd c (by decide)) (fun _ => ?_)
        refine h_iload dX12_byHabit_75 7 rfl ?_
        refine h_goto (tgt := 81) dX12_byHabit_77 (by decide) ?_
        refine h_istore_n (L' := [(3, .int x5), (7, .int 1), (6, .int s0), (0, .ref 87), (1, .int x1), (2, .int x2), (4, .int x4), (5, .int x5)]) dX12_byHabit_81 rfl (by decide) rfl ?_
        refine h_iload dX12_byHabit_82 1 rfl ?_
        refine h_if_eq (tgt := 92) dX12_byHabit_84 (by decide) (fun c => absurd c (by decide)) (fun _ => ?_)
        refine h_iload dX12_byHabit_87 2 rfl ?_
        refine h_goto (tgt := 94) dX12_byHabit_89 (by decide) ?_
        refine h_istore (L' := [(4, .int s0), (3, .int x5), (7, .int 1), (6, .int s0), (0, .ref 87), (1, .int x1), (2, .int x2), (5, .int x5)]) dX12_byHabit_94 (by decide) rfl ?_
        refine h_iinc (v := (x5 + 1)) (L' := [(5, .int (x5 + 1)), (4, .int s0), (3, .int x5), (7, .int 1), (6, .int s0), (0, .ref 87), (1, .int x1), (2, .int x2)]) dX12_byHabit_96 7 rfl rfl (by decide) rfl ?_
        refine h_goto (tgt := 8) dX12_byHabit_99 (by decide) ?_
        refine h_pick [5, 6, 7, 2, 1, 0] [(0, .ref 87), (1, .int x1), (2, .int x2), (3, .int x5), (4, .int s0), (5, .int (x5 + 1))] rfl ?_
        exact k5 c1 c2 c3
set_option maxHeartbeats 1000000 in
set_option maxRecDepth 4000 in
theorem sg_X12_visitsBy_0 {E : HEn} {d : Nat} {Q : Option Value → HIh → Prop} {I : HIh} {a : Int32} {b : Int32}
    (k1 : HCall E me_X12_byHabit (d + 3) [.ref 87, .int a, .int b] I (fun v9 J => HGo E (mF E (d + 4) Q) me_X12_visitsBy 6 [(0, .ref 87), (1, .int a), (2, .int b)] (v9.toList ++ []) J))
    : HGo E (mF E (d + 4) Q) me_X12_visitsBy 0 [(0, .ref 87), (1, .int a), (2, .int b)] [] I := by
  refine h_aload_n dX12_visitsBy_0 rfl 0 rfl ?_
  refine h_iload_n dX12_visitsBy_1 rfl 1 rfl ?_
  refine h_iload_n dX12_visitsBy_2 rfl 2 rfl ?_
  refine h_invV (As := [.int a, .int b]) (st := []) dX12_visitsBy_3 lk_X12_203 (h_room (by decide)) nl_87 zk_87 (by decide) rfl rfl rfl (Nat.le_of_ble_eq_true rfl) ?_
  exact k1
set_option maxHeartbeats 1000000 in
set_option maxRecDepth 4000 in
theorem sg_X12_visitsBy_6 {E : HEn} {d : Nat} {Q : Option Value → HIh → Prop} {I : HIh} {x1 : Int32} {x2 : Int32} {s0 : Int32}
    (k1 : s0 = (-1) → s0 = (-1) → Q (some (.int 0)) I)
    (k2 : s0 = (-1) → ¬ s0 = (-1) → Q (some (.int 1)) I)
    (k3 : ¬ s0 = (-1) → HCall E me_X12_throwsOne (d + 3) [.ref 87, .int x1, .int x2, .int s0] I (fun v9 J => HGo E (mF E (d + 4) Q) me_X12_visitsBy 19 [(3, .int s0)] (v9.toList ++ []) J))
    : HGo E (mF E (d + 4) Q) me_X12_visitsBy 6 [(0, .ref 87), (1, .int x1), (2, .int x2)] [.int s0] I := by
  refine h_istore_n (L' := [(3, .int s0), (0, .ref 87), (1, .int x1), (2, .int x2)]) dX12_visitsBy_6 rfl (by decide) rfl ?_
  refine h_iload_n dX12_visitsBy_7 rfl 0 rfl ?_
  refine h_iconst (v := (-1)) dX12_visitsBy_8 (by decide) ?_
  refine h_icmp_eq (tgt := 19) dX12_visitsBy_9 (by decide) (fun c1 => ?_) (fun c1 => ?_)
  ·
    refine h_iload_n dX12_visitsBy_19 rfl 0 rfl ?_
    refine h_iconst (v := (-1)) dX12_visitsBy_20 (by decide) ?_
    refine h_icmp_eq (tgt := 28) dX12_visitsBy_21 (by decide) (fun c2 => ?_) (fun c2 => ?_)
    ·
      refine h_iconst (v := 0) dX12_visitsBy_28 (by decide) ?_
      exact h_zret dX12_visitsBy_29 rfl rfl (k1 c1 c2)
    ·
      refine h_iconst (v := 1) dX12_visitsBy_24 (by decide) ?_
      refine h_goto (tgt := 29) dX12_visitsBy_25 (by decide) ?_
      exact h_zret dX12_visitsBy_29 rfl rfl (k2 c1 c2)
  ·
    refine h_aload_n dX12_visitsBy_12 rfl 1 rfl ?_
    refine h_iload_n dX12_visitsBy_13 rfl 2 rfl ?_
    refine h_iload_n dX12_visitsBy_14 rfl 3 rfl ?_
    refine h_iload_n dX12_visitsBy_15 rfl 0 rfl ?_
    refine h_pick [0] [(3, .int s0)] rfl ?_
    refine h_invV (As := [.int x1, .int x2, .int s0]) (st := []) dX12_visitsBy_16 lk_X12_206 (h_room (by decide)) nl_87 zk_87 (by decide) rfl rfl rfl (Nat.le_of_ble_eq_true rfl) ?_
    exact k3 c1
set_option maxHeartbeats 1000000 in
set_option maxRecDepth 4000 in
theorem sg_X12_visitsBy_19 {E : HEn} {d : Nat} {Q : Option Value → HIh → Prop} {I : HIh} {x3 : Int32}
    (k1 : x3 = (-1) → Q (some (.int 0)) I)
    (k2 : ¬ x3 = (-1) → Q (some (.int 1)) I)
    : HGo E (mF E (d + 4) Q) me_X12_visitsBy 19 [(3, .int x3)] [] I := by
  refine h_iload_n dX12_visitsBy_19 rfl 0 rfl ?_
  refine h_iconst (v := (-1)) dX12_visitsBy_20 (by decide) ?_
  refine h_icmp_eq (tgt := 28) dX12_visitsBy_21 (by decide) (fun c1 => ?_) (fun c1 => ?_)
  ·
    refine h_iconst (v := 0) dX12_visitsBy_28 (by decide) ?_
    exact h_zret dX12_visitsBy_29 rfl rfl (k1 c1)
  ·
    refine h_iconst (v := 1) dX12_visitsBy_24 (by decide) ?_
    refine h_goto (tgt := 29) dX12_visitsBy_25 (by decide) ?_
    exact h_zret dX12_visitsBy_29 rfl rfl (k2 c1)
set_option maxHeartbeats 1000000 in
set_option maxRecDepth 4000 in
theorem sg_X12_as_0 {E : HEn} {d : Nat} {Q : Option Value → HIh → Prop} {I : HIh} {a : Int32} {b : Int32}
    (k1 : (0 : Int32) ≤ a → a < 4 → (0 : Int64) ≤ b.toInt64 → (b.toInt64 : Int64) ≤ 5 → vp_in a 4)
    (k2 : (0 : Int32) ≤ a → a < 4 → (0 : Int64) ≤ b.toInt64 → (b.toInt64 : Int64) ≤ 5 → b = 0 → HCall E me_X12_byHabit (d + 3) [.ref 87, .int 0, .int a] I (fun v9 J => HGo E (mF E (d + 4) Q) me_X12_as 107 [] (v9.toList ++ []) J))
    (k3 : (0 : Int32) ≤ a → a < 4 → (0 : Int64) ≤ b.toInt64 → (b.toInt64 : Int64) ≤ 5 → ¬ b = 0 → ¬ b = 1 → ¬ b = 2 → ¬ b = 3 → ¬ b = 4 → ¬ b = 5 → Q (some (.int (-4))) I)
    (k4 : (0 : Int32) ≤ a → a < 4 → (0 : Int64) ≤ b.toInt64 → (b.toInt64 : Int64) ≤ 5 → ¬ b = 0 → ¬ b = 1 → ¬ b = 2 → ¬ b = 3 → ¬ b = 4 → b = 5 → ¬ (I 94 a.toNatClampNeg) = 3 → Q (some (.int (-4))) I)
    (k5 : (0 : Int32) ≤ a → a < 4 → (0 : Int64) ≤ b.toInt64 → (b.toInt64 : Int64) ≤ 5 → ¬ b = 0 → ¬ b = 1 → ¬ b = 2 → ¬ b = 3 → ¬ b = 4 → b = 5 → (I 94 a.toNatClampNeg) = 3 → HCall E me_X12_byHabit (d + 3) [.ref 87, .int 0, .int a] I (fun v9 J => HGo E (mF E (d + 4) Q) me_X12_as 107 [] (v9.toList ++ []) J))
    (k6 : (0 : Int32) ≤ a → a < 4 → (0 : Int64) ≤ b.toInt64 → (b.toInt64 : Int64) ≤ 5 → ¬ b = 0 → ¬ b = 1 → ¬ b = 2 → ¬ b = 3 → b = 4 → (I 94 a.toNatClampNeg) = 2 → HCall E me_X12_byHabit (d + 3) [.ref 87, .int 0, .int a] I (fun v9 J => HGo E (mF E (d + 4) Q) me_X12_as 107 [] (v9.toList ++ []) J))
    (k7 : (0 : Int32) ≤ a → a < 4 → (0 : Int64) ≤ b.toInt64 → (b.toInt64 : Int64) ≤ 5 → ¬ b = 0 → ¬ b = 1 → ¬ b = 2 → ¬ b = 3 → b = 4 → ¬ (I 94 a.toNatClampNeg) = 2 → ¬ b = 5 → Q (some (.int (-4))) I)
    (k8 : (0 : Int32) ≤ a → a < 4 → (0 : Int64) ≤ b.toInt64 → (b.toInt64 : Int64) ≤ 5 → ¬ b = 0 → ¬ b = 1 → ¬ b = 2 → ¬ b = 3 → b = 4 → ¬ (I 94 a.toNatClampNeg) = 2 → b = 5 → ¬ (I 94 a.toNatClampNeg) = 3 → Q (some (.int (-4))) I)
    (k9 : (0 : Int32) ≤ a → a < 4 → (0 : Int64) ≤ b.toInt64 → (b.toInt64 : Int64) ≤ 5 → ¬ b = 0 → ¬ b = 1 → ¬ b = 2 → ¬ b = 3 → b = 4 → ¬ (I 94 a.toNatClampNeg) = 2 → b = 5 → (I 94 a.toNatClampNeg) = 3 → HCall E me_X12_byHabit (d + 3) [.ref 87, .int 0, .int a] I (fun v9 J => HGo E (mF E (d + 4) Q) me_X12_as 107 [] (v9.toList ++ []) J))
    (k10 : (0 : Int32) ≤ a → a < 4 → (0 : Int64) ≤ b.toInt64 → (b.toInt64 : Int64) ≤ 5 → ¬ b = 0 → ¬ b = 1 → ¬ b = 2 → b = 3 → (I 94 a.toNatClampNeg) = 1 → HCall E me_X12_byHabit (d + 3) [.ref 87, .int 0, .int a] I (fun v9 J => HGo E (mF E (d + 4) Q) me_X12_as 107 [] (v9.toList ++ []) J))
    (k11 : (0 : Int32) ≤ a → a < 4 → (0 : Int64) ≤ b.toInt64 → (b.toInt64 : Int64) ≤ 5 → ¬ b = 0 → ¬ b = 1 → ¬ b = 2 → b = 3 → ¬ (I 94 a.toNatClampNeg) = 1 → (I 94 a.toNatClampNeg) = 2 → HCall E me_X12_byHabit (d + 3) [.ref 87, .int 0, .int a] I (fun v9 J => HGo E (mF E (d + 4) Q) me_X12_as 107 [] (v9.toList ++ []) J))
    (k12 : (0 : Int32) ≤ a → a < 4 → (0 : Int64) ≤ b.toInt64 → (b.toInt64 : Int64) ≤ 5 → ¬ b = 0 → ¬ b = 1 → ¬ b = 2 → b = 3 → ¬ (I 94 a.toNatClampNeg) = 1 → ¬ (I 94 a.toNatClampNeg) = 2 → ¬ b = 4 → ¬ b = 5 → Q (some (.int (-4))) I)
    (k13 : (0 : Int32) ≤ a → a < 4 → (0 : Int64) ≤ b.toInt64 → (b.toInt64 : Int64) ≤ 5 → ¬ b = 0 → ¬ b = 1 → ¬ b = 2 → b = 3 → ¬ (I 94 a.toNatClampNeg) = 1 → ¬ (I 94 a.toNatClampNeg) = 2 → ¬ b = 4 → b = 5 → ¬ (I 94 a.toNatClampNeg) = 3 → Q (some (.int (-4))) I)
    (k14 : (0 : Int32) ≤ a → a < 4 → (0 : Int64) ≤ b.toInt64 → (b.toInt64 : Int64) ≤ 5 → ¬ b = 0 → ¬ b = 1 → ¬ b = 2 → b = 3 → ¬ (I 94 a.toNatClampNeg) = 1 → ¬ (I 94 a.toNatClampNeg) = 2 → ¬ b = 4 → b = 5 → (I 94 a.toNatClampNeg) = 3 → HCall E me_X12_byHabit (d + 3) [.ref 87, .int 0, .int a] I (fun v9 J => HGo E (mF E (d + 4) Q) me_X12_as 107 [] (v9.toList ++ []) J))
    (k15 : (0 : Int32) ≤ a → a < 4 → (0 : Int64) ≤ b.toInt64 → (b.toInt64 : Int64) ≤ 5 → ¬ b = 0 → ¬ b = 1 → ¬ b = 2 → b = 3 → ¬ (I 94 a.toNatClampNeg) = 1 → ¬ (I 94 a.toNatClampNeg) = 2 → b = 4 → (I 94 a.toNatClampNeg) = 2 → HCall E me_X12_byHabit (d + 3) [.ref 87, .int 0, .int a] I (fun v9 J => HGo E (mF E (d + 4) Q) me_X12_as 107 [] (v9.toList ++ []) J))
    (k16 : (0 : Int32) ≤ a → a < 4 → (0 : Int64) ≤ b.toInt64 → (b.toInt64 : Int64) ≤ 5 → ¬ b = 0 → ¬ b = 1 → ¬ b = 2 → b = 3 → ¬ (I 94 a.toNatClampNeg) = 1 → ¬ (I 94 a.toNatClampNeg) = 2 → b = 4 → ¬ (I 94 a.toNatClampNeg) = 2 → ¬ b = 5 → Q (some (.int (-4))) I)
    (k17 : (0 : Int32) ≤ a → a < 4 → (0 : Int64) ≤ b.toInt64 → (b.toInt64 : Int64) ≤ 5 → ¬ b = 0 → ¬ b = 1 → ¬ b = 2 → b = 3 → ¬ (I 94 a.toNatClampNeg) = 1 → ¬ (I 94 a.toNatClampNeg) = 2 → b = 4 → ¬ (I 94 a.toNatClampNeg) = 2 → b = 5 → ¬ (I 94 a.toNatClampNeg) = 3 → Q (some (.int (-4))) I)
    (k18 : (0 : Int32) ≤ a → a < 4 → (0 : Int64) ≤ b.toInt64 → (b.toInt64 : Int64) ≤ 5 → ¬ b = 0 → ¬ b = 1 → ¬ b = 2 → b = 3 → ¬ (I 94 a.toNatClampNeg) = 1 → ¬ (I 94 a.toNatClampNeg) = 2 → b = 4 → ¬ (I 94 a.toNatClampNeg) = 2 → b = 5 → (I 94 a.toNatClampNeg) = 3 → HCall E me_X12_byHabit (d + 3) [.ref 87, .int 0, .int a] I (fun v9 J => HGo E (mF E (d + 4) Q) me_X12_as 107 [] (v9.toList ++ []) J))
    (k19 : (0 : Int32) ≤ a → a < 4 → (0 : Int64) ≤ b.toInt64 → (b.toInt64 : Int64) ≤ 5 → ¬ b = 0 → ¬ b = 1 → b = 2 → ¬ (I 94 a.toNatClampNeg) = 0 → HCall E me_X12_byHabit (d + 3) [.ref 87, .int 0, .int a] I (fun v9 J => HGo E (mF E (d + 4) Q) me_X12_as 107 [] (v9.toList ++ []) J))
    (k20 : (0 : Int32) ≤ a → a < 4 → (0 : Int64) ≤ b.toInt64 → (b.toInt64 : Int64) ≤ 5 → ¬ b = 0 → ¬ b = 1 → b = 2 → (I 94 a.toNatClampNeg) = 0 → ¬ b = 3 → ¬ b = 4 → ¬ b = 5 → Q (some (.int (-4))) I)
    (k21 : (0 : Int32) ≤ a → a < 4 → (0 : Int64) ≤ b.toInt64 → (b.toInt64 : Int64) ≤ 5 → ¬ b = 0 → ¬ b = 1 → b = 2 → (I 94 a.toNatClampNeg) = 0 → ¬ b = 3 → ¬ b = 4 → b = 5 → ¬ (I 94 a.toNatClampNeg) = 3 → Q (some (.int (-4))) I)
    (k22 : (0 : Int32) ≤ a → a < 4 → (0 : Int64) ≤ b.toInt64 → (b.toInt64 : Int64) ≤ 5 → ¬ b = 0 → ¬ b = 1 → b = 2 → (I 94 a.toNatClampNeg) = 0 → ¬ b = 3 → ¬ b = 4 → b = 5 → (I 94 a.toNatClampNeg) = 3 → HCall E me_X12_byHabit (d + 3) [.ref 87, .int 0, .int a] I (fun v9 J => HGo E (mF E (d + 4) Q) me_X12_as 107 [] (v9.toList ++ []) J))
    (k23 : (0 : Int32) ≤ a → a < 4 → (0 : Int64) ≤ b.toInt64 → (b.toInt64 : Int64) ≤ 5 → ¬ b = 0 → ¬ b = 1 → b = 2 → (I 94 a.toNatClampNeg) = 0 → ¬ b = 3 → b = 4 → (I 94 a.toNatClampNeg) = 2 → HCall E me_X12_byHabit (d + 3) [.ref 87, .int 0, .int a] I (fun v9 J => HGo E (mF E (d + 4) Q) me_X12_as 107 [] (v9.toList ++ []) J))
    (k24 : (0 : Int32) ≤ a → a < 4 → (0 : Int64) ≤ b.toInt64 → (b.toInt64 : Int64) ≤ 5 → ¬ b = 0 → ¬ b = 1 → b = 2 → (I 94 a.toNatClampNeg) = 0 → ¬ b = 3 → b = 4 → ¬ (I 94 a.toNatClampNeg) = 2 → ¬ b = 5 → Q (some (.int (-4))) I)
    (k25 : (0 : Int32) ≤ a → a < 4 → (0 : Int64) ≤ b.toInt64 → (b.toInt64 : Int64) ≤ 5 → ¬ b = 0 → ¬ b = 1 → b = 2 → (I 94 a.toNatClampNeg) = 0 → ¬ b = 3 → b = 4 → ¬ (I 94 a.toNatClampNeg) = 2 → b = 5 → ¬ (I 94 a.toNatClampNeg) = 3 → Q (some (.int (-4))) I)
    (k26 : (0 : Int32) ≤ a → a < 4 → (0 : Int64) ≤ b.toInt64 → (b.toInt64 : Int64) ≤ 5 → ¬ b = 0 → ¬ b = 1 → b = 2 → (I 94 a.toNatClampNeg) = 0 → ¬ b = 3 → b = 4 → ¬ (I 94 a.toNatClampNeg) = 2 → b = 5 → (I 94 a.toNatClampNeg) = 3 → HCall E me_X12_byHabit (d + 3) [.ref 87, .int 0, .int a] I (fun v9 J => HGo E (mF E (d + 4) Q) me_X12_as 107 [] (v9.toList ++ []) J))
    (k27 : (0 : Int32) ≤ a → a < 4 → (0 : Int64) ≤ b.toInt64 → (b.toInt64 : Int64) ≤ 5 → ¬ b = 0 → ¬ b = 1 → b = 2 → (I 94 a.toNatClampNeg) = 0 → b = 3 → (I 94 a.toNatClampNeg) = 1 → HCall E me_X12_byHabit (d + 3) [.ref 87, .int 0, .int a] I (fun v9 J => HGo E (mF E (d + 4) Q) me_X12_as 107 [] (v9.toList ++ []) J))
    (k28 : (0 : Int32) ≤ a → a < 4 → (0 : Int64) ≤ b.toInt64 → (b.toInt64 : Int64) ≤ 5 → ¬ b = 0 → ¬ b = 1 → b = 2 → (I 94 a.toNatClampNeg) = 0 → b = 3 → ¬ (I 94 a.toNatClampNeg) = 1 → (I 94 a.toNatClampNeg) = 2 → HCall E me_X12_byHabit (d + 3) [.ref 87, .int 0, .int a] I (fun v9 J => HGo E (mF E (d + 4) Q) me_X12_as 107 [] (v9.toList ++ []) J))
    (k29 : (0 : Int32) ≤ a → a < 4 → (0 : Int64) ≤ b.toInt64 → (b.toInt64 : Int64) ≤ 5 → ¬ b = 0 → ¬ b = 1 → b = 2 → (I 94 a.toNatClampNeg) = 0 → b = 3 → ¬ (I 94 a.toNatClampNeg) = 1 → ¬ (I 94 a.toNatClampNeg) = 2 → ¬ b = 4 → ¬ b = 5 → Q (some (.int (-4))) I)
    (k30 : (0 : Int32) ≤ a → a < 4 → (0 : Int64) ≤ b.toInt64 → (b.toInt64 : Int64) ≤ 5 → ¬ b = 0 → ¬ b = 1 → b = 2 → (I 94 a.toNatClampNeg) = 0 → b = 3 → ¬ (I 94 a.toNatClampNeg) = 1 → ¬ (I 94 a.toNatClampNeg) = 2 → ¬ b = 4 → b = 5 → ¬ (I 94 a.toNatClampNeg) = 3 → Q (some (.int (-4))) I)
    (k31 : (0 : Int32) ≤ a → a < 4 → (0 : Int64) ≤ b.toInt64 → (b.toInt64 : Int64) ≤ 5 → ¬ b = 0 → ¬ b = 1 → b = 2 → (I 94 a.toNatClampNeg) = 0 → b = 3 → ¬ (I 94 a.toNatClampNeg) = 1 → ¬ (I 94 a.toNatClampNeg) = 2 → ¬ b = 4 → b = 5 → (I 94 a.toNatClampNeg) = 3 → HCall E me_X12_byHabit (d + 3) [.ref 87, .int 0, .int a] I (fun v9 J => HGo E (mF E (d + 4) Q) me_X12_as 107 [] (v9.toList ++ []) J))
    (k32 : (0 : Int32) ≤ a → a < 4 → (0 : Int64) ≤ b.toInt64 → (b.toInt64 : Int64) ≤ 5 → ¬ b = 0 → ¬ b = 1 → b = 2 → (I 94 a.toNatClampNeg) = 0 → b = 3 → ¬ (I 94 a.toNatClampNeg) = 1 → ¬ (I 94 a.toNatClampNeg) = 2 → b = 4 → (I 94 a.toNatClampNeg) = 2 → HCall E me_X12_byHabit (d + 3) [.ref 87, .int 0, .int a] I (fun v9 J => HGo E (mF E (d + 4) Q) me_X12_as 107 [] (v9.toList ++ []) J))
    (k33 : (0 : Int32) ≤ a → a < 4 → (0 : Int64) ≤ b.toInt64 → (b.toInt64 : Int64) ≤ 5 → ¬ b = 0 → ¬ b = 1 → b = 2 → (I 94 a.toNatClampNeg) = 0 → b = 3 → ¬ (I 94 a.toNatClampNeg) = 1 → ¬ (I 94 a.toNatClampNeg) = 2 → b = 4 → ¬ (I 94 a.toNatClampNeg) = 2 → ¬ b = 5 → Q (some (.int (-4))) I)
    (k34 : (0 : Int32) ≤ a → a < 4 → (0 : Int64) ≤ b.toInt64 → (b.toInt64 : Int64) ≤ 5 → ¬ b = 0 → ¬ b = 1 → b = 2 → (I 94 a.toNatClampNeg) = 0 → b = 3 → ¬ (I 94 a.toNatClampNeg) = 1 → ¬ (I 94 a.toNatClampNeg) = 2 → b = 4 → ¬ (I 94 a.toNatClampNeg) = 2 → b = 5 → ¬ (I 94 a.toNatClampNeg) = 3 → Q (some (.int (-4))) I)
    (k35 : (0 : Int32) ≤ a → a < 4 → (0 : Int64) ≤ b.toInt64 → (b.toInt64 : Int64) ≤ 5 → ¬ b = 0 → ¬ b = 1 → b = 2 → (I 94 a.toNatClampNeg) = 0 → b = 3 → ¬ (I 94 a.toNatClampNeg) = 1 → ¬ (I 94 a.toNatClampNeg) = 2 → b = 4 → ¬ (I 94 a.toNatClampNeg) = 2 → b = 5 → (I 94 a.toNatClampNeg) = 3 → HCall E me_X12_byHabit (d + 3) [.ref 87, .int 0, .int a] I (fun v9 J => HGo E (mF E (d + 4) Q) me_X12_as 107 [] (v9.toList ++ []) J))
    (k36 : (0 : Int32) ≤ a → a < 4 → (0 : Int64) ≤ b.toInt64 → (b.toInt64 : Int64) ≤ 5 → ¬ b = 0 → b = 1 → (I 94 a.toNatClampNeg) = 0 → HCall E me_X12_byHabit (d + 3) [.ref 87, .int 0, .int a] I (fun v9 J => HGo E (mF E (d + 4) Q) me_X12_as 107 [] (v9.toList ++ []) J))
    (k37 : (0 : Int32) ≤ a → a < 4 → (0 : Int64) ≤ b.toInt64 → (b.toInt64 : Int64) ≤ 5 → ¬ b = 0 → b = 1 → ¬ (I 94 a.toNatClampNeg) = 0 → ¬ b = 2 → ¬ b = 3 → ¬ b = 4 → ¬ b = 5 → Q (some (.int (-4))) I)
    (k38 : (0 : Int32) ≤ a → a < 4 → (0 : Int64) ≤ b.toInt64 → (b.toInt64 : Int64) ≤ 5 → ¬ b = 0 → b = 1 → ¬ (I 94 a.toNatClampNeg) = 0 → ¬ b = 2 → ¬ b = 3 → ¬ b = 4 → b = 5 → ¬ (I 94 a.toNatClampNeg) = 3 → Q (some (.int (-4))) I)
    (k39 : (0 : Int32) ≤ a → a < 4 → (0 : Int64) ≤ b.toInt64 → (b.toInt64 : Int64) ≤ 5 → ¬ b = 0 → b = 1 → ¬ (I 94 a.toNatClampNeg) = 0 → ¬ b = 2 → ¬ b = 3 → ¬ b = 4 → b = 5 → (I 94 a.toNatClampNeg) = 3 → HCall E me_X12_byHabit (d + 3) [.ref 87, .int 0, .int a] I (fun v9 J => HGo E (mF E (d + 4) Q) me_X12_as 107 [] (v9.toList ++ []) J))
    (k40 : (0 : Int32) ≤ a → a < 4 → (0 : Int64) ≤ b.toInt64 → (b.toInt64 : Int64) ≤ 5 → ¬ b = 0 → b = 1 → ¬ (I 94 a.toNatClampNeg) = 0 → ¬ b = 2 → ¬ b = 3 → b = 4 → (I 94 a.toNatClampNeg) = 2 → HCall E me_X12_byHabit (d + 3) [.ref 87, .int 0, .int a] I (fun v9 J => HGo E (mF E (d + 4) Q) me_X12_as 107 [] (v9.toList ++ []) J))
    (k41 : (0 : Int32) ≤ a → a < 4 → (0 : Int64) ≤ b.toInt64 → (b.toInt64 : Int64) ≤ 5 → ¬ b = 0 → b = 1 → ¬ (I 94 a.toNatClampNeg) = 0 → ¬ b = 2 → ¬ b = 3 → b = 4 → ¬ (I 94 a.toNatClampNeg) = 2 → ¬ b = 5 → Q (some (.int (-4))) I)
    (k42 : (0 : Int32) ≤ a → a < 4 → (0 : Int64) ≤ b.toInt64 → (b.toInt64 : Int64) ≤ 5 → ¬ b = 0 → b = 1 → ¬ (I 94 a.toNatClampNeg) = 0 → ¬ b = 2 → ¬ b = 3 → b = 4 → ¬ (I 94 a.toNatClampNeg) = 2 → b = 5 → ¬ (I 94 a.toNatClampNeg) = 3 → Q (some (.int (-4))) I)
    (k43 : (0 : Int32) ≤ a → a < 4 → (0 : Int64) ≤ b.toInt64 → (b.toInt64 : Int64) ≤ 5 → ¬ b = 0 → b = 1 → ¬ (I 94 a.toNatClampNeg) = 0 → ¬ b = 2 → ¬ b = 3 → b = 4 → ¬ (I 94 a.toNatClampNeg) = 2 → b = 5 → (I 94 a.toNatClampNeg) = 3 → HCall E me_X12_byHabit (d + 3) [.ref 87, .int 0, .int a] I (fun v9 J => HGo E (mF E (d + 4) Q) me_X12_as 107 [] (v9.toList ++ []) J))
    (k44 : (0 : Int32) ≤ a → a < 4 → (0 : Int64) ≤ b.toInt64 → (b.toInt64 : Int64) ≤ 5 → ¬ b = 0 → b = 1 → ¬ (I 94 a.toNatClampNeg) = 0 → ¬ b = 2 → b = 3 → (I 94 a.toNatClampNeg) = 1 → HCall E me_X12_byHabit (d + 3) [.ref 87, .int 0, .int a] I (fun v9 J => HGo E (mF E (d + 4) Q) me_X12_as 107 [] (v9.toList ++ []) J))
    (k45 : (0 : Int32) ≤ a → a < 4 → (0 : Int64) ≤ b.toInt64 → (b.toInt64 : Int64) ≤ 5 → ¬ b = 0 → b = 1 → ¬ (I 94 a.toNatClampNeg) = 0 → ¬ b = 2 → b = 3 → ¬ (I 94 a.toNatClampNeg) = 1 → (I 94 a.toNatClampNeg) = 2 → HCall E me_X12_byHabit (d + 3) [.ref 87, .int 0, .int a] I (fun v9 J => HGo E (mF E (d + 4) Q) me_X12_as 107 [] (v9.toList ++ []) J))
    (k46 : (0 : Int32) ≤ a → a < 4 → (0 : Int64) ≤ b.toInt64 → (b.toInt64 : Int64) ≤ 5 → ¬ b = 0 → b = 1 → ¬ (I 94 a.toNatClampNeg) = 0 → ¬ b = 2 → b = 3 → ¬ (I 94 a.toNatClampNeg) = 1 → ¬ (I 94 a.toNatClampNeg) = 2 → ¬ b = 4 → ¬ b = 5 → Q (some (.int (-4))) I)
    (k47 : (0 : Int32) ≤ a → a < 4 → (0 : Int64) ≤ b.toInt64 → (b.toInt64 : Int64) ≤ 5 → ¬ b = 0 → b = 1 → ¬ (I 94 a.toNatClampNeg) = 0 → ¬ b = 2 → b = 3 → ¬ (I 94 a.toNatClampNeg) = 1 → ¬ (I 94 a.toNatClampNeg) = 2 → ¬ b = 4 → b = 5 → ¬ (I 94 a.toNatClampNeg) = 3 → Q (some (.int (-4))) I)
    (k48 : (0 : Int32) ≤ a → a < 4 → (0 : Int64) ≤ b.toInt64 → (b.toInt64 : Int64) ≤ 5 → ¬ b = 0 → b = 1 → ¬ (I 94 a.toNatClampNeg) = 0 → ¬ b = 2 → b = 3 → ¬ (I 94 a.toNatClampNeg) = 1 → ¬ (I 94 a.toNatClampNeg) = 2 → ¬ b = 4 → b = 5 → (I 94 a.toNatClampNeg) = 3 → HCall E me_X12_byHabit (d + 3) [.ref 87, .int 0, .int a] I (fun v9 J => HGo E (mF E (d + 4) Q) me_X12_as 107 [] (v9.toList ++ []) J))
    (k49 : (0 : Int32) ≤ a → a < 4 → (0 : Int64) ≤ b.toInt64 → (b.toInt64 : Int64) ≤ 5 → ¬ b = 0 → b = 1 → ¬ (I 94 a.toNatClampNeg) = 0 → ¬ b = 2 → b = 3 → ¬ (I 94 a.toNatClampNeg) = 1 → ¬ (I 94 a.toNatClampNeg) = 2 → b = 4 → (I 94 a.toNatClampNeg) = 2 → HCall E me_X12_byHabit (d + 3) [.ref 87, .int 0, .int a] I (fun v9 J => HGo E (mF E (d + 4) Q) me_X12_as 107 [] (v9.toList ++ []) J))
    (k50 : (0 : Int32) ≤ a → a < 4 → (0 : Int64) ≤ b.toInt64 → (b.toInt64 : Int64) ≤ 5 → ¬ b = 0 → b = 1 → ¬ (I 94 a.toNatClampNeg) = 0 → ¬ b = 2 → b = 3 → ¬ (I 94 a.toNatClampNeg) = 1 → ¬ (I 94 a.toNatClampNeg) = 2 → b = 4 → ¬ (I 94 a.toNatClampNeg) = 2 → ¬ b = 5 → Q (some (.int (-4))) I)
    (k51 : (0 : Int32) ≤ a → a < 4 → (0 : Int64) ≤ b.toInt64 → (b.toInt64 : Int64) ≤ 5 → ¬ b = 0 → b = 1 → ¬ (I 94 a.toNatClampNeg) = 0 → ¬ b = 2 → b = 3 → ¬ (I 94 a.toNatClampNeg) = 1 → ¬ (I 94 a.toNatClampNeg) = 2 → b = 4 → ¬ (I 94 a.toNatClampNeg) = 2 → b = 5 → ¬ (I 94 a.toNatClampNeg) = 3 → Q (some (.int (-4))) I)
    (k52 : (0 : Int32) ≤ a → a < 4 → (0 : Int64) ≤ b.toInt64 → (b.toInt64 : Int64) ≤ 5 → ¬ b = 0 → b = 1 → ¬ (I 94 a.toNatClampNeg) = 0 → ¬ b = 2 → b = 3 → ¬ (I 94 a.toNatClampNeg) = 1 → ¬ (I 94 a.toNatClampNeg) = 2 → b = 4 → ¬ (I 94 a.toNatClampNeg) = 2 → b = 5 → (I 94 a.toNatClampNeg) = 3 → HCall E me_X12_byHabit (d + 3) [.ref 87, .int 0, .int a] I (fun v9 J => HGo E (mF E (d + 4) Q) me_X12_as 107 [] (v9.toList ++ []) J))
    (k53 : (0 : Int32) ≤ a → a < 4 → (0 : Int64) ≤ b.toInt64 → (b.toInt64 : Int64) ≤ 5 → ¬ b = 0 → b = 1 → ¬ (I 94 a.toNatClampNeg) = 0 → b = 2 → ¬ (I 94 a.toNatClampNeg) = 0 → HCall E me_X12_byHabit (d + 3) [.ref 87, .int 0, .int a] I (fun v9 J => HGo E (mF E (d + 4) Q) me_X12_as 107 [] (v9.toList ++ []) J))
    (k54 : (0 : Int32) ≤ a → a < 4 → (0 : Int64) ≤ b.toInt64 → (b.toInt64 : Int64) ≤ 5 → ¬ b = 0 → b = 1 → ¬ (I 94 a.toNatClampNeg) = 0 → b = 2 → (I 94 a.toNatClampNeg) = 0 → ¬ b = 3 → ¬ b = 4 → ¬ b = 5 → Q (some (.int (-4))) I)
    (k55 : (0 : Int32) ≤ a → a < 4 → (0 : Int64) ≤ b.toInt64 → (b.toInt64 : Int64) ≤ 5 → ¬ b = 0 → b = 1 → ¬ (I 94 a.toNatClampNeg) = 0 → b = 2 → (I 94 a.toNatClampNeg) = 0 → ¬ b = 3 → ¬ b = 4 → b = 5 → ¬ (I 94 a.toNatClampNeg) = 3 → Q (some (.int (-4))) I)
    (k56 : (0 : Int32) ≤ a → a < 4 → (0 : Int64) ≤ b.toInt64 → (b.toInt64 : Int64) ≤ 5 → ¬ b = 0 → b = 1 → ¬ (I 94 a.toNatClampNeg) = 0 → b = 2 → (I 94 a.toNatClampNeg) = 0 → ¬ b = 3 → ¬ b = 4 → b = 5 → (I 94 a.toNatClampNeg) = 3 → HCall E me_X12_byHabit (d + 3) [.ref 87, .int 0, .int a] I (fun v9 J => HGo E (mF E (d + 4) Q) me_X12_as 107 [] (v9.toList ++ []) J))
    (k57 : (0 : Int32) ≤ a → a < 4 → (0 : Int64) ≤ b.toInt64 → (b.toInt64 : Int64) ≤ 5 → ¬ b = 0 → b = 1 → ¬ (I 94 a.toNatClampNeg) = 0 → b = 2 → (I 94 a.toNatClampNeg) = 0 → ¬ b = 3 → b = 4 → (I 94 a.toNatClampNeg) = 2 → HCall E me_X12_byHabit (d + 3) [.ref 87, .int 0, .int a] I (fun v9 J => HGo E (mF E (d + 4) Q) me_X12_as 107 [] (v9.toList ++ []) J))
    (k58 : (0 : Int32) ≤ a → a < 4 → (0 : Int64) ≤ b.toInt64 → (b.toInt64 : Int64) ≤ 5 → ¬ b = 0 → b = 1 → ¬ (I 94 a.toNatClampNeg) = 0 → b = 2 → (I 94 a.toNatClampNeg) = 0 → ¬ b = 3 → b = 4 → ¬ (I 94 a.toNatClampNeg) = 2 → ¬ b = 5 → Q (some (.int (-4))) I)
    (k59 : (0 : Int32) ≤ a → a < 4 → (0 : Int64) ≤ b.toInt64 → (b.toInt64 : Int64) ≤ 5 → ¬ b = 0 → b = 1 → ¬ (I 94 a.toNatClampNeg) = 0 → b = 2 → (I 94 a.toNatClampNeg) = 0 → ¬ b = 3 → b = 4 → ¬ (I 94 a.toNatClampNeg) = 2 → b = 5 → ¬ (I 94 a.toNatClampNeg) = 3 → Q (some (.int (-4))) I)
    (k60 : (0 : Int32) ≤ a → a < 4 → (0 : Int64) ≤ b.toInt64 → (b.toInt64 : Int64) ≤ 5 → ¬ b = 0 → b = 1 → ¬ (I 94 a.toNatClampNeg) = 0 → b = 2 → (I 94 a.toNatClampNeg) = 0 → ¬ b = 3 → b = 4 → ¬ (I 94 a.toNatClampNeg) = 2 → b = 5 → (I 94 a.toNatClampNeg) = 3 → HCall E me_X12_byHabit (d + 3) [.ref 87, .int 0, .int a] I (fun v9 J => HGo E (mF E (d + 4) Q) me_X12_as 107 [] (v9.toList ++ []) J))
    (k61 : (0 : Int32) ≤ a → a < 4 → (0 : Int64) ≤ b.toInt64 → (b.toInt64 : Int64) ≤ 5 → ¬ b = 0 → b = 1 → ¬ (I 94 a.toNatClampNeg) = 0 → b = 2 → (I 94 a.toNatClampNeg) = 0 → b = 3 → (I 94 a.toNatClampNeg) = 1 → HCall E me_X12_byHabit (d + 3) [.ref 87, .int 0, .int a] I (fun v9 J => HGo E (mF E (d + 4) Q) me_X12_as 107 [] (v9.toList ++ []) J))
    (k62 : (0 : Int32) ≤ a → a < 4 → (0 : Int64) ≤ b.toInt64 → (b.toInt64 : Int64) ≤ 5 → ¬ b = 0 → b = 1 → ¬ (I 94 a.toNatClampNeg) = 0 → b = 2 → (I 94 a.toNatClampNeg) = 0 → b = 3 → ¬ (I 94 a.toNatClampNeg) = 1 → (I 94 a.toNatClampNeg) = 2 → HCall E me_X12_byHabit (d + 3) [.ref 87, .int 0, .int a] I (fun v9 J => HGo E (mF E (d + 4) Q) me_X12_as 107 [] (v9.toList ++ []) J))
    (k63 : (0 : Int32) ≤ a → a < 4 → (0 : Int64) ≤ b.toInt64 → (b.toInt64 : Int64) ≤ 5 → ¬ b = 0 → b = 1 → ¬ (I 94 a.toNatClampNeg) = 0 → b = 2 → (I 94 a.toNatClampNeg) = 0 → b = 3 → ¬ (I 94 a.toNatClampNeg) = 1 → ¬ (I 94 a.toNatClampNeg) = 2 → ¬ b = 4 → ¬ b = 5 → Q (some (.int (-4))) I)
    (k64 : (0 : Int32) ≤ a → a < 4 → (0 : Int64) ≤ b.toInt64 → (b.toInt64 : Int64) ≤ 5 → ¬ b = 0 → b = 1 → ¬ (I 94 a.toNatClampNeg) = 0 → b = 2 → (I 94 a.toNatClampNeg) = 0 → b = 3 → ¬ (I 94 a.toNatClampNeg) = 1 → ¬ (I 94 a.toNatClampNeg) = 2 → ¬ b = 4 → b = 5 → ¬ (I 94 a.toNatClampNeg) = 3 → Q (some (.int (-4))) I)
    (k65 : (0 : Int32) ≤ a → a < 4 → (0 : Int64) ≤ b.toInt64 → (b.toInt64 : Int64) ≤ 5 → ¬ b = 0 → b = 1 → ¬ (I 94 a.toNatClampNeg) = 0 → b = 2 → (I 94 a.toNatClampNeg) = 0 → b = 3 → ¬ (I 94 a.toNatClampNeg) = 1 → ¬ (I 94 a.toNatClampNeg) = 2 → ¬ b = 4 → b = 5 → (I 94 a.toNatClampNeg) = 3 → HCall E me_X12_byHabit (d + 3) [.ref 87, .int 0, .int a] I (fun v9 J => HGo E (mF E (d + 4) Q) me_X12_as 107 [] (v9.toList ++ []) J))
    (k66 : (0 : Int32) ≤ a → a < 4 → (0 : Int64) ≤ b.toInt64 → (b.toInt64 : Int64) ≤ 5 → ¬ b = 0 → b = 1 → ¬ (I 94 a.toNatClampNeg) = 0 → b = 2 → (I 94 a.toNatClampNeg) = 0 → b = 3 → ¬ (I 94 a.toNatClampNeg) = 1 → ¬ (I 94 a.toNatClampNeg) = 2 → b = 4 → (I 94 a.toNatClampNeg) = 2 → HCall E me_X12_byHabit (d + 3) [.ref 87, .int 0, .int a] I (fun v9 J => HGo E (mF E (d + 4) Q) me_X12_as 107 [] (v9.toList ++ []) J))
    (k67 : (0 : Int32) ≤ a → a < 4 → (0 : Int64) ≤ b.toInt64 → (b.toInt64 : Int64) ≤ 5 → ¬ b = 0 → b = 1 → ¬ (I 94 a.toNatClampNeg) = 0 → b = 2 → (I 94 a.toNatClampNeg) = 0 → b = 3 → ¬ (I 94 a.toNatClampNeg) = 1 → ¬ (I 94 a.toNatClampNeg) = 2 → b = 4 → ¬ (I 94 a.toNatClampNeg) = 2 → ¬ b = 5 → Q (some (.int (-4))) I)
    (k68 : (0 : Int32) ≤ a → a < 4 → (0 : Int64) ≤ b.toInt64 → (b.toInt64 : Int64) ≤ 5 → ¬ b = 0 → b = 1 → ¬ (I 94 a.toNatClampNeg) = 0 → b = 2 → (I 94 a.toNatClampNeg) = 0 → b = 3 → ¬ (I 94 a.toNatClampNeg) = 1 → ¬ (I 94 a.toNatClampNeg) = 2 → b = 4 → ¬ (I 94 a.toNatClampNeg) = 2 → b = 5 → ¬ (I 94 a.toNatClampNeg) = 3 → Q (some (.int (-4))) I)
    (k69 : (0 : Int32) ≤ a → a < 4 → (0 : Int64) ≤ b.toInt64 → (b.toInt64 : Int64) ≤ 5 → ¬ b = 0 → b = 1 → ¬ (I 94 a.toNatClampNeg) = 0 → b = 2 → (I 94 a.toNatClampNeg) = 0 → b = 3 → ¬ (I 94 a.toNatClampNeg) = 1 → ¬ (I 94 a.toNatClampNeg) = 2 → b = 4 → ¬ (I 94 a.toNatClampNeg) = 2 → b = 5 → (I 94 a.toNatClampNeg) = 3 → HCall E me_X12_byHabit (d + 3) [.ref 87, .int 0, .int a] I (fun v9 J => HGo E (mF E (d + 4) Q) me_X12_as 107 [] (v9.toList ++ []) J))
    (k70 : (0 : Int32) ≤ a → a < 4 → ¬ ((0 : Int64) ≤ b.toInt64 ∧ (b.toInt64 : Int64) ≤ 5) → Q (some (.int (-3))) I)
    (k71 : ¬ ((0 : Int32) ≤ a ∧ a < 4) → Q (some (.int (-2))) I)
    : HGo E (mF E (d + 4) Q) me_X12_as 0 [(0, .ref 87), (1, .int a), (2, .int b)] [] I := by
  refine h_iload_n dX12_as_0 rfl 1 rfl ?_
  refine h_invS (As := [.int a]) (st := []) dX12_as_1 lk_X12_180 (h_room (by decide)) rfl rfl (Nat.le_of_ble_eq_true rfl) ?_
  refine c_X12_isPerson (fun c1 c2 => ?_) (fun c3 => ?_)
  ·
    refine h_if_ne (tgt := 10) dX12_as_4 (by decide) (fun _ => ?_) (fun c => absurd c (by decide))
    refine h_iload_n dX12_as_10 rfl 2 rfl ?_
    refine h_i2l dX12_as_11 ?_
    refine h_lconst (v := 0) dX12_as_12 (by decide) ?_
    refine h_ldc2 dX12_as_13 wt_1026 rfl ?_
    refine h_invS (As := [.long b.toInt64, .long 0, .long 5]) (st := []) dX12_as_16 lk_X12_62 (h_room (by decide)) rfl rfl (Nat.le_of_ble_eq_true rfl) ?_
    refine c_X12_in (fun c4 c5 => ?_) (fun c6 => ?_)
    ·
      refine h_if_ne (tgt := 25) dX12_as_19 (by decide) (fun _ => ?_) (fun c => absurd c (by decide))
      refine h_aload_n dX12_as_25 rfl 0 rfl ?_
      refine gf_10_9 dX12_as_26 hl_X12_33 nl_87 zk_87 zp_87_9 ?_
      refine h_iload_n dX12_as_29 rfl 1 rfl ?_
      refine h_iald dX12_as_30 nl_94 zk_94 (by rw [zn_94]; exact k1 c1 c2 c4 c5) ?_
      refine h_istore_n (L' := [(3, .int (I 94 a.toNatClampNeg)), (0, .ref 87), (1, .int a), (2, .int b)]) dX12_as_31 rfl (by decide) rfl ?_
      refine h_iload_n dX12_as_32 rfl 3 rfl ?_
      refine h_if_eq (tgt := 89) dX12_as_33 (by decide) (fun c7 => ?_) (fun c7 => ?_)
      ·
        refine h_iconst (v := 1) dX12_as_89 (by decide) ?_
        refine h_goto (tgt := 94) dX12_as_90 (by decide) ?_
        refine h_istore (L' := [(4, .int 1), (3, .int (I 94 a.toNatClampNeg)), (0, .ref 87), (1, .int a), (2, .int b)]) dX12_as_94 (by decide) rfl ?_
        refine h_iload dX12_as_96 0 rfl ?_
        refine h_if_eq (tgt := 110) dX12_as_98 (by decide) (fun c => absurd c (by decide)) (fun _ => ?_)
        refine h_aload_n dX12_as_101 rfl 2 rfl ?_
        refine h_iconst (v := 0) dX12_as_102 (by decide) ?_
        refine h_iload_n dX12_as_103 rfl 3 rfl ?_
        refine h_pick [] [] rfl ?_
        refine h_invV (As := [.int 0, .int a]) (st := []) dX12_as_104 lk_X12_203 (h_room (by decide)) nl_87 zk_87 (by decide) rfl rfl rfl (Nat.le_of_ble_eq_true rfl) ?_
        exact k2 c1 c2 c4 c5 c7
      ·
        refine h_iload_n dX12_as_36 rfl 3 rfl ?_
        refine h_iconst (v := 1) dX12_as_37 (by decide) ?_
        refine h_icmp_ne (tgt := 45) dX12_as_38 (by decide) (fun c8 => ?_) (fun c8 => ?_)
        ·
          refine h_iload_n dX12_as_45 rfl 3 rfl ?_
          refine h_iconst (v := 2) dX12_as_46 (by decide) ?_
          refine h_icmp_ne (tgt := 54) dX12_as_47 (by decide) (fun c9 => ?_) (fun c9 => ?_)
          ·
            refine h_iload_n dX12_as_54 rfl 3 rfl ?_
            refine h_iconst (v := 3) dX12_as_55 (by decide) ?_
            refine h_icmp_ne (tgt := 69) dX12_as_56 (by decide) (fun c10 => ?_) (fun c10 => ?_)
            ·
              refine h_iload_n dX12_as_69 rfl 3 rfl ?_
              refine h_iconst (v := 4) dX12_as_70 (by decide) ?_
              refine h_icmp_ne (tgt := 79) dX12_as_71 (by decide) (fun c11 => ?_) (fun c11 => ?_)
              ·
                refine h_iload_n dX12_as_79 rfl 3 rfl ?_
                refine h_iconst (v := 5) dX12_as_80 (by decide) ?_
                refine h_icmp_ne (tgt := 93) dX12_as_81 (by decide) (fun c12 => ?_) (fun c12 => ?_)
                ·
                  refine h_iconst (v := 0) dX12_as_93 (by decide) ?_
                  refine h_istore (L' := [(4, .int 0), (3, .int (I 94 a.toNatClampNeg)), (0, .ref 87), (1, .int a), (2, .int b)]) dX12_as_94 (by decide) rfl ?_
                  refine h_iload dX12_as_96 0 rfl ?_
                  refine h_if_eq (tgt := 110) dX12_as_98 (by decide) (fun _ => ?_) (fun c => absurd c (by decide))
                  refine h_bipush (v := (-4)) dX12_as_110 (by decide) ?_
                  exact h_iret dX12_as_112 rfl (k3 c1 c2 c4 c5 c7 c8 c9 c10 c11 c12)
                ·
                  refine h_iload_n dX12_as_84 rfl 0 rfl ?_
                  refine h_iconst (v := 3) dX12_as_85 (by decide) ?_
                  refine h_icmp_ne (tgt := 93) dX12_as_86 (by decide) (fun c13 => ?_) (fun c13 => ?_)
                  ·
                    refine h_iconst (v := 0) dX12_as_93 (by decide) ?_
                    refine h_istore (L' := [(4, .int 0), (3, .int (I 94 a.toNatClampNeg)), (0, .ref 87), (1, .int a), (2, .int b)]) dX12_as_94 (by decide) rfl ?_
                    refine h_iload dX12_as_96 0 rfl ?_
                    refine h_if_eq (tgt := 110) dX12_as_98 (by decide) (fun _ => ?_) (fun c => absurd c (by decide))
                    refine h_bipush (v := (-4)) dX12_as_110 (by decide) ?_
                    exact h_iret dX12_as_112 rfl (k4 c1 c2 c4 c5 c7 c8 c9 c10 c11 c12 c13)
                  ·
                    refine h_iconst (v := 1) dX12_as_89 (by decide) ?_
                    refine h_goto (tgt := 94) dX12_as_90 (by decide) ?_
                    refine h_istore (L' := [(4, .int 1), (3, .int (I 94 a.toNatClampNeg)), (0, .ref 87), (1, .int a), (2, .int b)]) dX12_as_94 (by decide) rfl ?_
                    refine h_iload dX12_as_96 0 rfl ?_
                    refine h_if_eq (tgt := 110) dX12_as_98 (by decide) (fun c => absurd c (by decide)) (fun _ => ?_)
                    refine h_aload_n dX12_as_101 rfl 2 rfl ?_
                    refine h_iconst (v := 0) dX12_as_102 (by decide) ?_
                    refine h_iload_n dX12_as_103 rfl 3 rfl ?_
                    refine h_pick [] [] rfl ?_
                    refine h_invV (As := [.int 0, .int a]) (st := []) dX12_as_104 lk_X12_203 (h_room (by decide)) nl_87 zk_87 (by decide) rfl rfl rfl (Nat.le_of_ble_eq_true rfl) ?_
                    exact k5 c1 c2 c4 c5 c7 c8 c9 c10 c11 c12 c13
              ·
                refine h_iload_n dX12_as_74 rfl 0 rfl ?_
                refine h_iconst (v := 2) dX12_as_75 (by decide) ?_
                refine h_icmp_eq (tgt := 89) dX12_as_76 (by decide) (fun c14 => ?_) (fun c14 => ?_)
                ·
                  refine h_iconst (v := 1) dX12_as_89 (by decide) ?_
                  refine h_goto (tgt := 94) dX12_as_90 (by decide) ?_
                  refine h_istore (L' := [(4, .int 1), (3, .int (I 94 a.toNatClampNeg)), (0, .ref 87), (1, .int a), (2, .int b)]) dX12_as_94 (by decide) rfl ?_
                  refine h_iload dX12_as_96 0 rfl ?_
                  refine h_if_eq (tgt := 110) dX12_as_98 (by decide) (fun c => absurd c (by decide)) (fun _ => ?_)
                  refine h_aload_n dX12_as_101 rfl 2 rfl ?_
                  refine h_iconst (v := 0) dX12_as_102 (by decide) ?_
                  refine h_iload_n dX12_as_103 rfl 3 rfl ?_
                  refine h_pick [] [] rfl ?_
                  refine h_invV (As := [.int 0, .int a]) (st := []) dX12_as_104 lk_X12_203 (h_room (by decide)) nl_87 zk_87 (by decide) rfl rfl rfl (Nat.le_of_ble_eq_true rfl) ?_
                  exact k6 c1 c2 c4 c5 c7 c8 c9 c10 c11 c14
                ·
                  refine h_iload_n dX12_as_79 rfl 3 rfl ?_
                  refine h_iconst (v := 5) dX12_as_80 (by decide) ?_
                  refine h_icmp_ne (tgt := 93) dX12_as_81 (by decide) (fun c15 => ?_) (fun c15 => ?_)
                  ·
                    refine h_iconst (v := 0) dX12_as_93 (by decide) ?_
                    refine h_istore (L' := [(4, .int 0), (3, .int (I 94 a.toNatClampNeg)), (0, .ref 87), (1, .int a), (2, .int b)]) dX12_as_94 (by decide) rfl ?_
                    refine h_iload dX12_as_96 0 rfl ?_
                    refine h_if_eq (tgt := 110) dX12_as_98 (by decide) (fun _ => ?_) (fun c => absurd c (by decide))
                    refine h_bipush (v := (-4)) dX12_as_110 (by decide) ?_
                    exact h_iret dX12_as_112 rfl (k7 c1 c2 c4 c5 c7 c8 c9 c10 c11 c14 c15)
                  ·
                    refine h_iload_n dX12_as_84 rfl 0 rfl ?_
                    refine h_iconst (v := 3) dX12_as_85 (by decide) ?_
                    refine h_icmp_ne (tgt := 93) dX12_as_86 (by decide) (fun c16 => ?_) (fun c16 => ?_)
                    ·
                      refine h_iconst (v := 0) dX12_as_93 (by decide) ?_
                      refine h_istore (L' := [(4, .int 0), (3, .int (I 94 a.toNatClampNeg)), (0, .ref 87), (1, .int a), (2, .int b)]) dX12_as_94 (by decide) rfl ?_
                      refine h_iload dX12_as_96 0 rfl ?_
                      refine h_if_eq (tgt := 110) dX12_as_98 (by decide) (fun _ => ?_) (fun c => absurd c (by decide))
                      refine h_bipush (v := (-4)) dX12_as_110 (by decide) ?_
                      exact h_iret dX12_as_112 rfl (k8 c1 c2 c4 c5 c7 c8 c9 c10 c11 c14 c15 c16)
                    ·
                      refine h_iconst (v := 1) dX12_as_89 (by decide) ?_
                      refine h_goto (tgt := 94) dX12_as_90 (by decide) ?_
                      refine h_istore (L' := [(4, .int 1), (3, .int (I 94 a.toNatClampNeg)), (0, .ref 87), (1, .int a), (2, .int b)]) dX12_as_94 (by decide) rfl ?_
                      refine h_iload dX12_as_96 0 rfl ?_
                      refine h_if_eq (tgt := 110) dX12_as_98 (by decide) (fun c => absurd c (by decide)) (fun _ => ?_)
                      refine h_aload_n dX12_as_101 rfl 2 rfl ?_
                      refine h_iconst (v := 0) dX12_as_102 (by decide) ?_
                      refine h_iload_n dX12_as_103 rfl 3 rfl ?_
                      refine h_pick [] [] rfl ?_
                      refine h_invV (As := [.int 0, .int a]) (st := []) dX12_as_104 lk_X12_203 (h_room (by decide)) nl_87 zk_87 (by decide) rfl rfl rfl (Nat.le_of_ble_eq_true rfl) ?_
                      exact k9 c1 c2 c4 c5 c7 c8 c9 c10 c11 c14 c15 c16
            ·
              refine h_iload_n dX12_as_59 rfl 0 rfl ?_
              refine h_iconst (v := 1) dX12_as_60 (by decide) ?_
              refine h_icmp_eq (tgt := 89) dX12_as_61 (by decide) (fun c17 => ?_) (fun c17 => ?_)
              ·
                refine h_iconst (v := 1) dX12_as_89 (by decide) ?_
                refine h_goto (tgt := 94) dX12_as_90 (by decide) ?_
                refine h_istore (L' := [(4, .int 1), (3, .int (I 94 a.toNatClampNeg)), (0, .ref 87), (1, .int a), (2, .int b)]) dX12_as_94 (by decide) rfl ?_
                refine h_iload dX12_as_96 0 rfl ?_
                refine h_if_eq (tgt := 110) dX12_as_98 (by decide) (fun c => absurd c (by decide)) (fun _ => ?_)
                refine h_aload_n dX12_as_101 rfl 2 rfl ?_
                refine h_iconst (v := 0) dX12_as_102 (by decide) ?_
                refine h_iload_n dX12_as_103 rfl 3 rfl ?_
                refine h_pick [] [] rfl ?_
                refine h_invV (As := [.int 0, .int a]) (st := []) dX12_as_104 lk_X12_203 (h_room (by decide)) nl_87 zk_87 (by decide) rfl rfl rfl (Nat.le_of_ble_eq_true rfl) ?_
                exact k10 c1 c2 c4 c5 c7 c8 c9 c10 c17
              ·
                refine h_iload_n dX12_as_64 rfl 0 rfl ?_
                refine h_iconst (v := 2) dX12_as_65 (by decide) ?_
                refine h_icmp_eq (tgt := 89) dX12_as_66 (by decide) (fun c18 => ?_) (fun c18 => ?_)
                ·
                  refine h_iconst (v := 1) dX12_as_89 (by decide) ?_
                  refine h_goto (tgt := 94) dX12_as_90 (by decide) ?_
                  refine h_istore (L' := [(4, .int 1), (3, .int (I 94 a.toNatClampNeg)), (0, .ref 87), (1, .int a), (2, .int b)]) dX12_as_94 (by decide) rfl ?_
                  refine h_iload dX12_as_96 0 rfl ?_
                  refine h_if_eq (tgt := 110) dX12_as_98 (by decide) (fun c => absurd c (by decide)) (fun _ => ?_)
                  refine h_aload_n dX12_as_101 rfl 2 rfl ?_
                  refine h_iconst (v := 0) dX12_as_102 (by decide) ?_
                  refine h_iload_n dX12_as_103 rfl 3 rfl ?_
                  refine h_pick [] [] rfl ?_
                  refine h_invV (As := [.int 0, .int a]) (st := []) dX12_as_104 lk_X12_203 (h_room (by decide)) nl_87 zk_87 (by decide) rfl rfl rfl (Nat.le_of_ble_eq_true rfl) ?_
                  exact k11 c1 c2 c4 c5 c7 c8 c9 c10 c17 c18
                ·
                  refine h_iload_n dX12_as_69 rfl 3 rfl ?_
                  refine h_iconst (v := 4) dX12_as_70 (by decide) ?_
                  refine h_icmp_ne (tgt := 79) dX12_as_71 (by decide) (fun c19 => ?_) (fun c19 => ?_)
                  ·
                    refine h_iload_n dX12_as_79 rfl 3 rfl ?_
                    refine h_iconst (v := 5) dX12_as_80 (by decide) ?_
                    refine h_icmp_ne (tgt := 93) dX12_as_81 (by decide) (fun c20 => ?_) (fun c20 => ?_)
                    ·
                      refine h_iconst (v := 0) dX12_as_93 (by decide) ?_
                      refine h_istore (L' := [(4, .int 0), (3, .int (I 94 a.toNatClampNeg)), (0, .ref 87), (1, .int a), (2, .int b)]) dX12_as_94 (by decide) rfl ?_
                      refine h_iload dX12_as_96 0 rfl ?_
                      refine h_if_eq (tgt := 110) dX12_as_98 (by decide) (fun _ => ?_) (fun c => absurd c (by decide))
                      refine h_bipush (v := (-4)) dX12_as_110 (by decide) ?_
                      exact h_iret dX12_as_112 rfl (k12 c1 c2 c4 c5 c7 c8 c9 c10 c17 c18 c19 c20)
                    ·
                      refine h_iload_n dX12_as_84 rfl 0 rfl ?_
                      refine h_iconst (v := 3) dX12_as_85 (by decide) ?_
                      refine h_icmp_ne (tgt := 93) dX12_as_86 (by decide) (fun c21 => ?_) (fun c21 => ?_)
                      ·
                        refine h_iconst (v := 0) dX12_as_93 (by decide) ?_
                        refine h_istore (L' := [(4, .int 0), (3, .int (I 94 a.toNatClampNeg)), (0, .ref 87), (1, .int a), (2, .int b)]) dX12_as_94 (by decide) rfl ?_
                        refine h_iload dX12_as_96 0 rfl ?_
                        refine h_if_eq (tgt := 110) dX12_as_98 (by decide) (fun _ => ?_) (fun c => absurd c (by decide))
                        refine h_bipush (v := (-4)) dX12_as_110 (by decide) ?_
                        exact h_iret dX12_as_112 rfl (k13 c1 c2 c4 c5 c7 c8 c9 c10 c17 c18 c19 c20 c21)
                      ·
                        refine h_iconst (v := 1) dX12_as_89 (by decide) ?_
                        refine h_goto (tgt := 94) dX12_as_90 (by decide) ?_
                        refine h_istore (L' := [(4, .int 1), (3, .int (I 94 a.toNatClampNeg)), (0, .ref 87), (1, .int a), (2, .int b)]) dX12_as_94 (by decide) rfl ?_
                        refine h_iload dX12_as_96 0 rfl ?_
                        refine h_if_eq (tgt := 110) dX12_as_98 (by decide) (fun c => absurd c (by decide)) (fun _ => ?_)
                        refine h_aload_n dX12_as_101 rfl 2 rfl ?_
                        refine h_iconst (v := 0) dX12_as_102 (by decide) ?_
                        refine h_iload_n dX12_as_103 rfl 3 rfl ?_
                        refine h_pick [] [] rfl ?_
                        refine h_invV (As := [.int 0, .int a]) (st := []) dX12_as_104 lk_X12_203 (h_room (by decide)) nl_87 zk_87 (by decide) rfl rfl rfl (Nat.le_of_ble_eq_true rfl) ?_
                        exact k14 c1 c2 c4 c5 c7 c8 c9 c10 c17 c18 c19 c20 c21
                  ·
                    refine h_iload_n dX12_as_74 rfl 0 rfl ?_
                    refine h_iconst (v := 2) dX12_as_75 (by decide) ?_
                    refine h_icmp_eq (tgt := 89) dX12_as_76 (by decide) (fun c22 => ?_) (fun c22 => ?_)
                    ·
                      refine h_iconst (v := 1) dX12_as_89 (by decide) ?_
                      refine h_goto (tgt := 94) dX12_as_90 (by decide) ?_
                      refine h_istore (L' := [(4, .int 1), (3, .int (I 94 a.toNatClampNeg)), (0, .ref 87), (1, .int a), (2, .int b)]) dX12_as_94 (by decide) rfl ?_
                      refine h_iload dX12_as_96 0 rfl ?_
                      refine h_if_eq (tgt := 110) dX12_as_98 (by decide) (fun c => absurd c (by decide)) (fun _ => ?_)
                      refine h_aload_n dX12_as_101 rfl 2 rfl ?_
                      refine h_iconst (v := 0) dX12_as_102 (by decide) ?_
                      refine h_iload_n dX12_as_103 rfl 3 rfl ?_
                      refine h_pick [] [] rfl ?_
                      refine h_invV (As := [.int 0, .int a]) (st := []) dX12_as_104 lk_X12_203 (h_room (by decide)) nl_87 zk_87 (by decide) rfl rfl rfl (Nat.le_of_ble_eq_true rfl) ?_
                      exact k15 c1 c2 c4 c5 c7 c8 c9 c10 c17 c18 c19 c22
                    ·
                      refine h_iload_n dX12_as_79 rfl 3 rfl ?_
                      refine h_iconst (v := 5) dX12_as_80 (by decide) ?_
                      refine h_icmp_ne (tgt := 93) dX12_as_81 (by decide) (fun c23 => ?_) (fun c23 => ?_)
                      ·
                        refine h_iconst (v := 0) dX12_as_93 (by decide) ?_
                        refine h_istore (L' := [(4, .int 0), (3, .int (I 94 a.toNatClampNeg)), (0, .ref 87), (1, .int a), (2, .int b)]) dX12_as_94 (by decide) rfl ?_
                        refine h_iload dX12_as_96 0 rfl ?_
                        refine h_if_eq (tgt := 110) dX12_as_98 (by decide) (fun _ => ?_) (fun c => absurd c (by decide))
                        refine h_bipush (v := (-4)) dX12_as_110 (by decide) ?_
                        exact h_iret dX12_as_112 rfl (k16 c1 c2 c4 c5 c7 c8 c9 c10 c17 c18 c19 c22 c23)
                      ·
                        refine h_iload_n dX12_as_84 rfl 0 rfl ?_
                        refine h_iconst (v := 3) dX12_as_85 (by decide) ?_
                        refine h_icmp_ne (tgt := 93) dX12_as_86 (by decide) (fun c24 => ?_) (fun c24 => ?_)
                        ·
                          refine h_iconst (v := 0) dX12_as_93 (by decide) ?_
                          refine h_istore (L' := [(4, .int 0), (3, .int (I 94 a.toNatClampNeg)), (0, .ref 87), (1, .int a), (2, .int b)]) dX12_as_94 (by decide) rfl ?_
                          refine h_iload dX12_as_96 0 rfl ?_
                          refine h_if_eq (tgt := 110) dX12_as_98 (by decide) (fun _ => ?_) (fun c => absurd c (by decide))
                          refine h_bipush (v := (-4)) dX12_as_110 (by decide) ?_
                          exact h_iret dX12_as_112 rfl (k17 c1 c2 c4 c5 c7 c8 c9 c10 c17 c18 c19 c22 c23 c24)
                        ·
                          refine h_iconst (v := 1) dX12_as_89 (by decide) ?_
                          refine h_goto (tgt := 94) dX12_as_90 (by decide) ?_
                          refine h_istore (L' := [(4, .int 1), (3, .int (I 94 a.toNatClampNeg)), (0, .ref 87), (1, .int a), (2, .int b)]) dX12_as_94 (by decide) rfl ?_
                          refine h_iload dX12_as_96 0 rfl ?_
                          refine h_if_eq (tgt := 110) dX12_as_98 (by decide) (fun c => absurd c (by decide)) (fun _ => ?_)
                          refine h_aload_n dX12_as_101 rfl 2 rfl ?_
                          refine h_iconst (v := 0) dX12_as_102 (by decide) ?_
                          refine h_iload_n dX12_as_103 rfl 3 rfl ?_
                          refine h_pick [] [] rfl ?_
                          refine h_invV (As := [.int 0, .int a]) (st := []) dX12_as_104 lk_X12_203 (h_room (by decide)) nl_87 zk_87 (by decide) rfl rfl rfl (Nat.le_of_ble_eq_true rfl) ?_
                          exact k18 c1 c2 c4 c5 c7 c8 c9 c10 c17 c18 c19 c22 c23 c24
          ·
            refine h_iload_n dX12_as_50 rfl 0 rfl ?_
            refine h_if_ne (tgt := 89) dX12_as_51 (by decide) (fun c25 => ?_) (fun c25 => ?_)
            ·
              refine h_iconst (v := 1) dX12_as_89 (by decide) ?_
              refine h_goto (tgt := 94) dX12_as_90 (by decide) ?_
              refine h_istore (L' := [(4, .int 1), (3, .int (I 94 a.toNatClampNeg)), (0, .ref 87), (1, .int a), (2, .int b)]) dX12_as_94 (by decide) rfl ?_
              refine h_iload dX12_as_96 0 rfl ?_
              refine h_if_eq (tgt := 110) dX12_as_98 (by decide) (fun c => absurd c (by decide)) (fun _ => ?_)
              refine h_aload_n dX12_as_101 rfl 2 rfl ?_
              refine h_iconst (v := 0) dX12_as_102 (by decide) ?_
              refine h_iload_n dX12_as_103 rfl 3 rfl ?_
              refine h_pick [] [] rfl ?_
              refine h_invV (As := [.int 0, .int a]) (st := []) dX12_as_104 lk_X12_203 (h_room (by decide)) nl_87 zk_87 (by decide) rfl rfl rfl (Nat.le_of_ble_eq_true rfl) ?_
              exact k19 c1 c2 c4 c5 c7 c8 c9 c25
            ·
              refine h_iload_n dX12_as_54 rfl 3 rfl ?_
              refine h_iconst (v := 3) dX12_as_55 (by decide) ?_
              refine h_icmp_ne (tgt := 69) dX12_as_56 (by decide) (fun c26 => ?_) (fun c26 => ?_)
              ·
                refine h_iload_n dX12_as_69 rfl 3 rfl ?_
                refine h_iconst (v := 4) dX12_as_70 (by decide) ?_
                refine h_icmp_ne (tgt := 79) dX12_as_71 (by decide) (fun c27 => ?_) (fun c27 => ?_)
                ·
                  refine h_iload_n dX12_as_79 rfl 3 rfl ?_
                  refine h_iconst (v := 5) dX12_as_80 (by decide) ?_
                  refine h_icmp_ne (tgt := 93) dX12_as_81 (by decide) (fun c28 => ?_) (fun c28 => ?_)
                  ·
                    refine h_iconst (v := 0) dX12_as_93 (by decide) ?_
                    refine h_istore (L' := [(4, .int 0), (3, .int (I 94 a.toNatClampNeg)), (0, .ref 87), (1, .int a), (2, .int b)]) dX12_as_94 (by decide) rfl ?_
                    refine h_iload dX12_as_96 0 rfl ?_
                    refine h_if_eq (tgt := 110) dX12_as_98 (by decide) (fun _ => ?_) (fun c => absurd c (by decide))
                    refine h_bipush (v := (-4)) dX12_as_110 (by decide) ?_
                    exact h_iret dX12_as_112 rfl (k20 c1 c2 c4 c5 c7 c8 c9 c25 c26 c27 c28)
                  ·
                    refine h_iload_n dX12_as_84 rfl 0 rfl ?_
                    refine h_iconst (v := 3) dX12_as_85 (by decide) ?_
                    refine h_icmp_ne (tgt := 93) dX12_as_86 (by decide) (fun c29 => ?_) (fun c29 => ?_)
                    ·
                      refine h_iconst (v := 0) dX12_as_93 (by decide) ?_
                      refine h_istore (L' := [(4, .int 0), (3, .int (I 94 a.toNatClampNeg)), (0, .ref 87), (1, .int a), (2, .int b)]) dX12_as_94 (by decide) rfl ?_
                      refine h_iload dX12_as_96 0 rfl ?_
                      refine h_if_eq (tgt := 110) dX12_as_98 (by decide) (fun _ => ?_) (fun c => absurd c (by decide))
                      refine h_bipush (v := (-4)) dX12_as_110 (by decide) ?_
                      exact h_iret dX12_as_112 rfl (k21 c1 c2 c4 c5 c7 c8 c9 c25 c26 c27 c28 c29)
                    ·
                      refine h_iconst (v := 1) dX12_as_89 (by decide) ?_
                      refine h_goto (tgt := 94) dX12_as_90 (by decide) ?_
                      refine h_istore (L' := [(4, .int 1), (3, .int (I 94 a.toNatClampNeg)), (0, .ref 87), (1, .int a), (2, .int b)]) dX12_as_94 (by decide) rfl ?_
                      refine h_iload dX12_as_96 0 rfl ?_
                      refine h_if_eq (tgt := 110) dX12_as_98 (by decide) (fun c => absurd c (by decide)) (fun _ => ?_)
                      refine h_aload_n dX12_as_101 rfl 2 rfl ?_
                      refine h_iconst (v := 0) dX12_as_102 (by decide) ?_
                      refine h_iload_n dX12_as_103 rfl 3 rfl ?_
                      refine h_pick [] [] rfl ?_
                      refine h_invV (As := [.int 0, .int a]) (st := []) dX12_as_104 lk_X12_203 (h_room (by decide)) nl_87 zk_87 (by decide) rfl rfl rfl (Nat.le_of_ble_eq_true rfl) ?_
                      exact k22 c1 c2 c4 c5 c7 c8 c9 c25 c26 c27 c28 c29
                ·
                  refine h_iload_n dX12_as_74 rfl 0 rfl ?_
                  refine h_iconst (v := 2) dX12_as_75 (by decide) ?_
                  refine h_icmp_eq (tgt := 89) dX12_as_76 (by decide) (fun c30 => ?_) (fun c30 => ?_)
                  ·
                    refine h_iconst (v := 1) dX12_as_89 (by decide) ?_
                    refine h_goto (tgt := 94) dX12_as_90 (by decide) ?_
                    refine h_istore (L' := [(4, .int 1), (3, .int (I 94 a.toNatClampNeg)), (0, .ref 87), (1, .int a), (2, .int b)]) dX12_as_94 (by decide) rfl ?_
                    refine h_iload dX12_as_96 0 rfl ?_
                    refine h_if_eq (tgt := 110) dX12_as_98 (by decide) (fun c => absurd c (by decide)) (fun _ => ?_)
                    refine h_aload_n dX12_as_101 rfl 2 rfl ?_
                    refine h_iconst (v := 0) dX12_as_102 (by decide) ?_
                    refine h_iload_n dX12_as_103 rfl 3 rfl ?_
                    refine h_pick [] [] rfl ?_
                    refine h_invV (As := [.int 0, .int a]) (st := []) dX12_as_104 lk_X12_203 (h_room (by decide)) nl_87 zk_87 (by decide) rfl rfl rfl (Nat.le_of_ble_eq_true rfl) ?_
                    exact k23 c1 c2 c4 c5 c7 c8 c9 c25 c26 c27 c30
                  ·
                    refine h_iload_n dX12_as_79 rfl 3 rfl ?_
                    refine h_iconst (v := 5) dX12_as_80 (by decide) ?_
                    refine h_icmp_ne (tgt := 93) dX12_as_81 (by decide) (fun c31 => ?_) (fun c31 => ?_)
                    ·
                      refine h_iconst (v := 0) dX12_as_93 (by decide) ?_
                      refine h_istore (L' := [(4, .int 0), (3, .int (I 94 a.toNatClampNeg)), (0, .ref 87), (1, .int a), (2, .int b)]) dX12_as_94 (by decide) rfl ?_
                      refine h_iload dX12_as_96 0 rfl ?_
                      refine h_if_eq (tgt := 110) dX12_as_98 (by decide) (fun _ => ?_) (fun c => absurd c (by decide))
                      refine h_bipush (v := (-4)) dX12_as_110 (by decide) ?_
                      exact h_iret dX12_as_112 rfl (k24 c1 c2 c4 c5 c7 c8 c9 c25 c26 c27 c30 c31)
                    ·
                      refine h_iload_n dX12_as_84 rfl 0 rfl ?_
                      refine h_iconst (v := 3) dX12_as_85 (by decide) ?_
                      refine h_icmp_ne (tgt := 93) dX12_as_86 (by decide) (fun c32 => ?_) (fun c32 => ?_)
                      ·
                        refine h_iconst (v := 0) dX12_as_93 (by decide) ?_
                        refine h_istore (L' := [(4, .int 0), (3, .int (I 94 a.toNatClampNeg)), (0, .ref 87), (1, .int a), (2, .int b)]) dX12_as_94 (by decide) rfl ?_
                        refine h_iload dX12_as_96 0 rfl ?_
                        refine h_if_eq (tgt := 110) dX12_as_98 (by decide) (fun _ => ?_) (fun c => absurd c (by decide))
                        refine h_bipush (v := (-4)) dX12_as_110 (by decide) ?_
                        exact h_iret dX12_as_112 rfl (k25 c1 c2 c4 c5 c7 c8 c9 c25 c26 c27 c30 c31 c32)
                      ·
                        refine h_iconst (v := 1) dX12_as_89 (by decide) ?_
                        refine h_goto (tgt := 94) dX12_as_90 (by decide) ?_
                        refine h_istore (L' := [(4, .int 1), (3, .int (I 94 a.toNatClampNeg)), (0, .ref 87), (1, .int a), (2, .int b)]) dX12_as_94 (by decide) rfl ?_
                        refine h_iload dX12_as_96 0 rfl ?_
                        refine h_if_eq (tgt := 110) dX12_as_98 (by decide) (fun c => absurd c (by decide)) (fun _ => ?_)
                        refine h_aload_n dX12_as_101 rfl 2 rfl ?_
                        refine h_iconst (v := 0) dX12_as_102 (by decide) ?_
                        refine h_iload_n dX12_as_103 rfl 3 rfl ?_
                        refine h_pick [] [] rfl ?_
                        refine h_invV (As := [.int 0, .int a]) (st := []) dX12_as_104 lk_X12_203 (h_room (by decide)) nl_87 zk_87 (by decide) rfl rfl rfl (Nat.le_of_ble_eq_true rfl) ?_
                        exact k26 c1 c2 c4 c5 c7 c8 c9 c25 c26 c27 c30 c31 c32
              ·
                refine h_iload_n dX12_as_59 rfl 0 rfl ?_
                refine h_iconst (v := 1) dX12_as_60 (by decide) ?_
                refine h_icmp_eq (tgt := 89) dX12_as_61 (by decide) (fun c33 => ?_) (fun c33 => ?_)
                ·
                  refine h_iconst (v := 1) dX12_as_89 (by decide) ?_
                  refine h_goto (tgt := 94) dX12_as_90 (by decide) ?_
                  refine h_istore (L' := [(4, .int 1), (3, .int (I 94 a.toNatClampNeg)), (0, .ref 87), (1, .int a), (2, .int b)]) dX12_as_94 (by decide) rfl ?_
                  refine h_iload dX12_as_96 0 rfl ?_
                  refine h_if_eq (tgt := 110) dX12_as_98 (by decide) (fun c => absurd c (by decide)) (fun _ => ?_)
                  refine h_aload_n dX12_as_101 rfl 2 rfl ?_
                  refine h_iconst (v := 0) dX12_as_102 (by decide) ?_
                  refine h_iload_n dX12_as_103 rfl 3 rfl ?_
                  refine h_pick [] [] rfl ?_
                  refine h_invV (As := [.int 0, .int a]) (st := []) dX12_as_104 lk_X12_203 (h_room (by decide)) nl_87 zk_87 (by decide) rfl rfl rfl (Nat.le_of_ble_eq_true rfl) ?_
                  exact k27 c1 c2 c4 c5 c7 c8 c9 c25 c26 c33
                ·
                  refine h_iload_n dX12_as_64 rfl 0 rfl ?_
                  refine h_iconst (v := 2) dX12_as_65 (by decide) ?_
                  refine h_icmp_eq (tgt := 89) dX12_as_66 (by decide) (fun c34 => ?_) (fun c34 => ?_)
                  ·
                    refine h_iconst (v := 1) dX12_as_89 (by decide) ?_
                    refine h_goto (tgt := 94) dX12_as_90 (by decide) ?_
                    refine h_istore (L' := [(4, .int 1), (3, .int (I 94 a.toNatClampNeg)), (0, .ref 87), (1, .int a), (2, .int b)]) dX12_as_94 (by decide) rfl ?_
                    refine h_iload dX12_as_96 0 rfl ?_
                    refine h_if_eq (tgt := 110) dX12_as_98 (by decide) (fun c => absurd c (by decide)) (fun _ => ?_)
                    refine h_aload_n dX12_as_101 rfl 2 rfl ?_
                    refine h_iconst (v := 0) dX12_as_102 (by decide) ?_
                    refine h_iload_n dX12_as_103 rfl 3 rfl ?_
                    refine h_pick [] [] rfl ?_
                    refine h_invV (As := [.int 0, .int a]) (st := []) dX12_as_104 lk_X12_203 (h_room (by decide)) nl_87 zk_87 (by decide) rfl rfl rfl (Nat.le_of_ble_eq_true rfl) ?_
                    exact k28 c1 c2 c4 c5 c7 c8 c9 c25 c26 c33 c34
                  ·
                    refine h_iload_n dX12_as_69 rfl 3 rfl ?_
                    refine h_iconst (v := 4) dX12_as_70 (by decide) ?_
                    refine h_icmp_ne (tgt := 79) dX12_as_71 (by decide) (fun c35 => ?_) (fun c35 => ?_)
                    ·
                      refine h_iload_n dX12_as_79 rfl 3 rfl ?_
                      refine h_iconst (v := 5) dX12_as_80 (by decide) ?_
                      refine h_icmp_ne (tgt := 93) dX12_as_81 (by decide) (fun c36 => ?_) (fun c36 => ?_)
                      ·
                        refine h_iconst (v := 0) dX12_as_93 (by decide) ?_
                        refine h_istore (L' := [(4, .int 0), (3, .int (I 94 a.toNatClampNeg)), (0, .ref 87), (1, .int a), (2, .int b)]) dX12_as_94 (by decide) rfl ?_
                        refine h_iload dX12_as_96 0 rfl ?_
                        refine h_if_eq (tgt := 110) dX12_as_98 (by decide) (fun _ => ?_) (fun c => absurd c (by decide))
                        refine h_bipush (v := (-4)) dX12_as_110 (by decide) ?_
                        exact h_iret dX12_as_112 rfl (k29 c1 c2 c4 c5 c7 c8 c9 c25 c26 c33 c34 c35 c36)
                      ·
                        refine h_iload_n dX12_as_84 rfl 0 rfl ?_
                        refine h_iconst (v := 3) dX12_as_85 (by decide) ?_
                        refine h_icmp_ne (tgt := 93) dX12_as_86 (by decide) (fun c37 => ?_) (fun c37 => ?_)
                        ·
                          refine h_iconst (v := 0) dX12_as_93 (by decide) ?_
                          refine h_istore (L' := [(4, .int 0), (3, .int (I 94 a.toNatClampNeg)), (0, .ref 87), (1, .int a), (2, .int b)]) dX12_as_94 (by decide) rfl ?_
                          refine h_iload dX12_as_96 0 rfl ?_
                          refine h_if_eq (tgt := 110) dX12_as_98 (by decide) (fun _ => ?_) (fun c => absurd c (by decide))
                          refine h_bipush (v := (-4)) dX12_as_110 (by decide) ?_
                          exact h_iret dX12_as_112 rfl (k30 c1 c2 c4 c5 c7 c8 c9 c25 c26 c33 c34 c35 c36 c37)
                        ·
                          refine h_iconst (v := 1) dX12_as_89 (by decide) ?_
                          refine h_goto (tgt := 94) dX12_as_90 (by decide) ?_
                          refine h_istore (L' := [(4, .int 1), (3, .int (I 94 a.toNatClampNeg)), (0, .ref 87), (1, .int a), (2, .int b)]) dX12_as_94 (by decide) rfl ?_
                          refine h_iload dX12_as_96 0 rfl ?_
                          refine h_if_eq (tgt := 110) dX12_as_98 (by decide) (fun c => absurd c (by decide)) (fun _ => ?_)
                          refine h_aload_n dX12_as_101 rfl 2 rfl ?_
                          refine h_iconst (v := 0) dX12_as_102 (by decide) ?_
                          refine h_iload_n dX12_as_103 rfl 3 rfl ?_
                          refine h_pick [] [] rfl ?_
                          refine h_invV (As := [.int 0, .int a]) (st := []) dX12_as_104 lk_X12_203 (h_room (by decide)) nl_87 zk_87 (by decide) rfl rfl rfl (Nat.le_of_ble_eq_true rfl) ?_
                          exact k31 c1 c2 c4 c5 c7 c8 c9 c25 c26 c33 c34 c35 c36 c37
                    ·
                      refine h_iload_n dX12_as_74 rfl 0 rfl ?_
                      refine h_iconst (v := 2) dX12_as_75 (by decide) ?_
                      refine h_icmp_eq (tgt := 89) dX12_as_76 (by decide) (fun c38 => ?_) (fun c38 => ?_)
                      ·
                        refine h_iconst (v := 1) dX12_as_89 (by decide) ?_
                        refine h_goto (tgt := 94) dX12_as_90 (by decide) ?_
                        refine h_istore (L' := [(4, .int 1), (3, .int (I 94 a.toNatClampNeg)), (0, .ref 87), (1, .int a), (2, .int b)]) dX12_as_94 (by decide) rfl ?_
                        refine h_iload dX12_as_96 0 rfl ?_
                        refine h_if_eq (tgt := 110) dX12_as_98 (by decide) (fun c => absurd c (by decide)) (fun _ => ?_)
                        refine h_aload_n dX12_as_101 rfl 2 rfl ?_
                        refine h_iconst (v := 0) dX12_as_102 (by decide) ?_
                        refine h_iload_n dX12_as_103 rfl 3 rfl ?_
                        refine h_pick [] [] rfl ?_
                        refine h_invV (As := [.int 0, .int a]) (st := []) dX12_as_104 lk_X12_203 (h_room (by decide)) nl_87 zk_87 (by decide) rfl rfl rfl (Nat.le_of_ble_eq_true rfl) ?_
                        exact k32 c1 c2 c4 c5 c7 c8 c9 c25 c26 c33 c34 c35 c38
                      ·
                        refine h_iload_n dX12_as_79 rfl 3 rfl ?_
                        refine h_iconst (v := 5) dX12_as_80 (by decide) ?_
                        refine h_icmp_ne (tgt := 93) dX12_as_81 (by decide) (fun c39 => ?_) (fun c39 => ?_)
                        ·
                          refine h_iconst (v := 0) dX12_as_93 (by decide) ?_
                          refine h_istore (L' := [(4, .int 0), (3, .int (I 94 a.toNatClampNeg)), (0, .ref 87), (1, .int a), (2, .int b)]) dX12_as_94 (by decide) rfl ?_
                          refine h_iload dX12_as_96 0 rfl ?_
                          refine h_if_eq (tgt := 110) dX12_as_98 (by decide) (fun _ => ?_) (fun c => absurd c (by decide))
                          refine h_bipush (v := (-4)) dX12_as_110 (by decide) ?_
                          exact h_iret dX12_as_112 rfl (k33 c1 c2 c4 c5 c7 c8 c9 c25 c26 c33 c34 c35 c38 c39)
                        ·
                          refine h_iload_n dX12_as_84 rfl 0 rfl ?_
                          refine h_iconst (v := 3) dX12_as_85 (by decide) ?_
                          refine h_icmp_ne (tgt := 93) dX12_as_86 (by decide) (fun c40 => ?_) (fun c40 => ?_)
                          ·
                            refine h_iconst (v := 0) dX12_as_93 (by decide) ?_
                            refine h_istore (L' := [(4, .int 0), (3, .int (I 94 a.toNatClampNeg)), (0, .ref 87), (1, .int a), (2, .int b)]) dX12_as_94 (by decide) rfl ?_
                            refine h_iload dX12_as_96 0 rfl ?_
                            refine h_if_eq (tgt := 110) dX12_as_98 (by decide) (fun _ => ?_) (fun c => absurd c (by decide))
                            refine h_bipush (v := (-4)) dX12_as_110 (by decide) ?_
                            exact h_iret dX12_as_112 rfl (k34 c1 c2 c4 c5 c7 c8 c9 c25 c26 c33 c34 c35 c38 c39 c40)
                          ·
                            refine h_iconst (v := 1) dX12_as_89 (by decide) ?_
                            refine h_goto (tgt := 94) dX12_as_90 (by decide) ?_
                            refine h_istore (L' := [(4, .int 1), (3, .int (I 94 a.toNatClampNeg)), (0, .ref 87), (1, .int a), (2, .int b)]) dX12_as_94 (by decide) rfl ?_
                            refine h_iload dX12_as_96 0 rfl ?_
                            refine h_if_eq (tgt := 110) dX12_as_98 (by decide) (fun c => absurd c (by decide)) (fun _ => ?_)
                            refine h_aload_n dX12_as_101 rfl 2 rfl ?_
                            refine h_iconst (v := 0) dX12_as_102 (by decide) ?_
                            refine h_iload_n dX12_as_103 rfl 3 rfl ?_
                            refine h_pick [] [] rfl ?_
                            refine h_invV (As := [.int 0, .int a]) (st := []) dX12_as_104 lk_X12_203 (h_room (by decide)) nl_87 zk_87 (by decide) rfl rfl rfl (Nat.le_of_ble_eq_true rfl) ?_
                            exact k35 c1 c2 c4 c5 c7 c8 c9 c25 c26 c33 c34 c35 c38 c39 c40
        ·
          refine h_iload_n dX12_as_41 rfl 0 rfl ?_
          refine h_if_eq (tgt := 89) dX12_as_42 (by decide) (fun c41 => ?_) (fun c41 => ?_)
          ·
            refine h_iconst (v := 1) dX12_as_89 (by decide) ?_
            refine h_goto (tgt := 94) dX12_as_90 (by decide) ?_
            refine h_istore (L' := [(4, .int 1), (3, .int (I 94 a.toNatClampNeg)), (0, .ref 87), (1, .int a), (2, .int b)]) dX12_as_94 (by decide) rfl ?_
            refine h_iload dX12_as_96 0 rfl ?_
            refine h_if_eq (tgt := 110) dX12_as_98 (by decide) (fun c => absurd c (by decide)) (fun _ => ?_)
            refine h_aload_n dX12_as_101 rfl 2 rfl ?_
            refine h_iconst (v := 0) dX12_as_102 (by decide) ?_
            refine h_iload_n dX12_as_103 rfl 3 rfl ?_
            refine h_pick [] [] rfl ?_
            refine h_invV (As := [.int 0, .int a]) (st := []) dX12_as_104 lk_X12_203 (h_room (by decide)) nl_87 zk_87 (by decide) rfl rfl rfl (Nat.le_of_ble_eq_true rfl) ?_
            exact k36 c1 c2 c4 c5 c7 c8 c41
          ·
            refine h_iload_n dX12_as_45 rfl 3 rfl ?_
            refine h_iconst (v := 2) dX12_as_46 (by decide) ?_
            refine h_icmp_ne (tgt := 54) dX12_as_47 (by decide) (fun c42 => ?_) (fun c42 => ?_)
            ·
              refine h_iload_n dX12_as_54 rfl 3 rfl ?_
              refine h_iconst (v := 3) dX12_as_55 (by decide) ?_
              refine h_icmp_ne (tgt := 69) dX12_as_56 (by decide) (fun c43 => ?_) (fun c43 => ?_)
              ·
                refine h_iload_n dX12_as_69 rfl 3 rfl ?_
                refine h_iconst (v := 4) dX12_as_70 (by decide) ?_
                refine h_icmp_ne (tgt := 79) dX12_as_71 (by decide) (fun c44 => ?_) (fun c44 => ?_)
                ·
                  refine h_iload_n dX12_as_79 rfl 3 rfl ?_
                  refine h_iconst (v := 5) dX12_as_80 (by decide) ?_
                  refine h_icmp_ne (tgt := 93) dX12_as_81 (by decide) (fun c45 => ?_) (fun c45 => ?_)
                  ·
                    refine h_iconst (v := 0) dX12_as_93 (by decide) ?_
                    refine h_istore (L' := [(4, .int 0), (3, .int (I 94 a.toNatClampNeg)), (0, .ref 87), (1, .int a), (2, .int b)]) dX12_as_94 (by decide) rfl ?_
                    refine h_iload dX12_as_96 0 rfl ?_
                    refine h_if_eq (tgt := 110) dX12_as_98 (by decide) (fun _ => ?_) (fun c => absurd c (by decide))
                    refine h_bipush (v := (-4)) dX12_as_110 (by decide) ?_
                    exact h_iret dX12_as_112 rfl (k37 c1 c2 c4 c5 c7 c8 c41 c42 c43 c44 c45)
                  ·
                    refine h_iload_n dX12_as_84 rfl 0 rfl ?_
                    refine h_iconst (v := 3) dX12_as_85 (by decide) ?_
                    refine h_icmp_ne (tgt := 93) dX12_as_86 (by decide) (fun c46 => ?_) (fun c46 => ?_)
                    ·
                      refine h_iconst (v := 0) dX12_as_93 (by decide) ?_
                      refine h_istore (L' := [(4, .int 0), (3, .int (I 94 a.toNatClampNeg)), (0, .ref 87), (1, .int a), (2, .int b)]) dX12_as_94 (by decide) rfl ?_
                      refine h_iload dX12_as_96 0 rfl ?_
                      refine h_if_eq (tgt := 110) dX12_as_98 (by decide) (fun _ => ?_) (fun c => absurd c (by decide))
                      refine h_bipush (v := (-4)) dX12_as_110 (by decide) ?_
                      exact h_iret dX12_as_112 rfl (k38 c1 c2 c4 c5 c7 c8 c41 c42 c43 c44 c45 c46)
                    ·
                      refine h_iconst (v := 1) dX12_as_89 (by decide) ?_
                      refine h_goto (tgt := 94) dX12_as_90 (by decide) ?_
                      refine h_istore (L' := [(4, .int 1), (3, .int (I 94 a.toNatClampNeg)), (0, .ref 87), (1, .int a), (2, .int b)]) dX12_as_94 (by decide) rfl ?_
                      refine h_iload dX12_as_96 0 rfl ?_
                      refine h_if_eq (tgt := 110) dX12_as_98 (by decide) (fun c => absurd c (by decide)) (fun _ => ?_)
                      refine h_aload_n dX12_as_101 rfl 2 rfl ?_
                      refine h_iconst (v := 0) dX12_as_102 (by decide) ?_
                      refine h_iload_n dX12_as_103 rfl 3 rfl ?_
                      refine h_pick [] [] rfl ?_
                      refine h_invV (As := [.int 0, .int a]) (st := []) dX12_as_104 lk_X12_203 (h_room (by decide)) nl_87 zk_87 (by decide) rfl rfl rfl (Nat.le_of_ble_eq_true rfl) ?_
                      exact k39 c1 c2 c4 c5 c7 c8 c41 c42 c43 c44 c45 c46
                ·
                  refine h_iload_n dX12_as_74 rfl 0 rfl ?_
                  refine h_iconst (v := 2) dX12_as_75 (by decide) ?_
                  refine h_icmp_eq (tgt := 89) dX12_as_76 (by decide) (fun c47 => ?_) (fun c47 => ?_)
                  ·
                    refine h_iconst (v := 1) dX12_as_89 (by decide) ?_
                    refine h_goto (tgt := 94) dX12_as_90 (by decide) ?_
                    refine h_istore (L' := [(4, .int 1), (3, .int (I 94 a.toNatClampNeg)), (0, .ref 87), (1, .int a), (2, .int b)]) dX12_as_94 (by decide) rfl ?_
                    refine h_iload dX12_as_96 0 rfl ?_
                    refine h_if_eq (tgt := 110) dX12_as_98 (by decide) (fun c => absurd c (by decide)) (fun _ => ?_)
                    refine h_aload_n dX12_as_101 rfl 2 rfl ?_
                    refine h_iconst (v := 0) dX12_as_102 (by decide) ?_
                    refine h_iload_n dX12_as_103 rfl 3 rfl ?_
                    refine h_pick [] [] rfl ?_
                    refine h_invV (As := [.int 0, .int a]) (st := []) dX12_as_104 lk_X12_203 (h_room (by decide)) nl_87 zk_87 (by decide) rfl rfl rfl (Nat.le_of_ble_eq_true rfl) ?_
                    exact k40 c1 c2 c4 c5 c7 c8 c41 c42 c43 c44 c47
                  ·
                    refine h_iload_n dX12_as_79 rfl 3 rfl ?_
                    refine h_iconst (v := 5) dX12_as_80 (by decide) ?_
                    refine h_icmp_ne (tgt := 93) dX12_as_81 (by decide) (fun c48 => ?_) (fun c48 => ?_)
                    ·
                      refine h_iconst (v := 0) dX12_as_93 (by decide) ?_
                      refine h_istore (L' := [(4, .int 0), (3, .int (I 94 a.toNatClampNeg)), (0, .ref 87), (1, .int a), (2, .int b)]) dX12_as_94 (by decide) rfl ?_
                      refine h_iload dX12_as_96 0 rfl ?_
                      refine h_if_eq (tgt := 110) dX12_as_98 (by decide) (fun _ => ?_) (fun c => absurd c (by decide))
                      refine h_bipush (v := (-4)) dX12_as_110 (by decide) ?_
                      exact h_iret dX12_as_112 rfl (k41 c1 c2 c4 c5 c7 c8 c41 c42 c43 c44 c47 c48)
                    ·
                      refine h_iload_n dX12_as_84 rfl 0 rfl ?_
                      refine h_iconst (v := 3) dX12_as_85 (by decide) ?_
                      refine h_icmp_ne (tgt := 93) dX12_as_86 (by decide) (fun c49 => ?_) (fun c49 => ?_)
                      ·
                        refine h_iconst (v := 0) dX12_as_93 (by decide) ?_
                        refine h_istore (L' := [(4, .int 0), (3, .int (I 94 a.toNatClampNeg)), (0, .ref 87), (1, .int a), (2, .int b)]) dX12_as_94 (by decide) rfl ?_
                        refine h_iload dX12_as_96 0 rfl ?_
                        refine h_if_eq (tgt := 110) dX12_as_98 (by decide) (fun _ => ?_) (fun c => absurd c (by decide))
                        refine h_bipush (v := (-4)) dX12_as_110 (by decide) ?_
                        exact h_iret dX12_as_112 rfl (k42 c1 c2 c4 c5 c7 c8 c41 c42 c43 c44 c47 c48 c49)
                      ·
                        refine h_iconst (v := 1) dX12_as_89 (by decide) ?_
                        refine h_goto (tgt := 94) dX12_as_90 (by decide) ?_
                        refine h_istore (L' := [(4, .int 1), (3, .int (I 94 a.toNatClampNeg)), (0, .ref 87), (1, .int a), (2, .int b)]) dX12_as_94 (by decide) rfl ?_
                        refine h_iload dX12_as_96 0 rfl ?_
                        refine h_if_eq (tgt := 110) dX12_as_98 (by decide) (fun c => absurd c (by decide)) (fun _ => ?_)
                        refine h_aload_n dX12_as_101 rfl 2 rfl ?_
                        refine h_iconst (v := 0) dX12_as_102 (by decide) ?_
                        refine h_iload_n dX12_as_103 rfl 3 rfl ?_
                        refine h_pick [] [] rfl ?_
                        refine h_invV (As := [.int 0, .int a]) (st := []) dX12_as_104 lk_X12_203 (h_room (by decide)) nl_87 zk_87 (by decide) rfl rfl rfl (Nat.le_of_ble_eq_true rfl) ?_
                        exact k43 c1 c2 c4 c5 c7 c8 c41 c42 c43 c44 c47 c48 c49
              ·
                refine h_iload_n dX12_as_59 rfl 0 rfl ?_
                refine h_iconst (v := 1) dX12_as_60 (by decide) ?_
                refine h_icmp_eq (tgt := 89) dX12_as_61 (by decide) (fun c50 => ?_) (fun c50 => ?_)
                ·
                  refine h_iconst (v := 1) dX12_as_89 (by decide) ?_
                  refine h_goto (tgt := 94) dX12_as_90 (by decide) ?_
                  refine h_istore (L' := [(4, .int 1), (3, .int (I 94 a.toNatClampNeg)), (0, .ref 87), (1, .int a), (2, .int b)]) dX12_as_94 (by decide) rfl ?_
                  refine h_iload dX12_as_96 0 rfl ?_
                  refine h_if_eq (tgt := 110) dX12_as_98 (by decide) (fun c => absurd c (by decide)) (fun _ => ?_)
                  refine h_aload_n dX12_as_101 rfl 2 rfl ?_
                  refine h_iconst (v := 0) dX12_as_102 (by decide) ?_
                  refine h_iload_n dX12_as_103 rfl 3 rfl ?_
                  refine h_pick [] [] rfl ?_
                  refine h_invV (As := [.int 0, .int a]) (st := []) dX12_as_104 lk_X12_203 (h_room (by decide)) nl_87 zk_87 (by decide) rfl rfl rfl (Nat.le_of_ble_eq_true rfl) ?_
                  exact k44 c1 c2 c4 c5 c7 c8 c41 c42 c43 c50
                ·
                  refine h_iload_n dX12_as_64 rfl 0 rfl ?_
                  refine h_iconst (v := 2) dX12_as_65 (by decide) ?_
                  refine h_icmp_eq (tgt := 89) dX12_as_66 (by decide) (fun c51 => ?_) (fun c51 => ?_)
                  ·
                    refine h_iconst (v := 1) dX12_as_89 (by decide) ?_
                    refine h_goto (tgt := 94) dX12_as_90 (by decide) ?_
                    refine h_istore (L' := [(4, .int 1), (3, .int (I 94 a.toNatClampNeg)), (0, .ref 87), (1, .int a), (2, .int b)]) dX12_as_94 (by decide) rfl ?_
                    refine h_iload dX12_as_96 0 rfl ?_
                    refine h_if_eq (tgt := 110) dX12_as_98 (by decide) (fun c => absurd c (by decide)) (fun _ => ?_)
                    refine h_aload_n dX12_as_101 rfl 2 rfl ?_
                    refine h_iconst (v := 0) dX12_as_102 (by decide) ?_
                    refine h_iload_n dX12_as_103 rfl 3 rfl ?_
                    refine h_pick [] [] rfl ?_
                    refine h_invV (As := [.int 0, .int a]) (st := []) dX12_as_104 lk_X12_203 (h_room (by decide)) nl_87 zk_87 (by decide) rfl rfl rfl (Nat.le_of_ble_eq_true rfl) ?_
                    exact k45 c1 c2 c4 c5 c7 c8 c41 c42 c43 c50 c51
                  ·
                    refine h_iload_n dX12_as_69 rfl 3 rfl ?_
                    refine h_iconst (v := 4) dX12_as_70 (by decide) ?_
                    refine h_icmp_ne (tgt := 79) dX12_as_71 (by decide) (fun c52 => ?_) (fun c52 => ?_)
                    ·
                      refine h_iload_n dX12_as_79 rfl 3 rfl ?_
                      refine h_iconst (v := 5) dX12_as_80 (by decide) ?_
                      refine h_icmp_ne (tgt := 93) dX12_as_81 (by decide) (fun c53 => ?_) (fun c53 => ?_)
                      ·
                        refine h_iconst (v := 0) dX12_as_93 (by decide) ?_
                        refine h_istore (L' := [(4, .int 0), (3, .int (I 94 a.toNatClampNeg)), (0, .ref 87), (1, .int a), (2, .int b)]) dX12_as_94 (by decide) rfl ?_
                        refine h_iload dX12_as_96 0 rfl ?_
                        refine h_if_eq (tgt := 110) dX12_as_98 (by decide) (fun _ => ?_) (fun c => absurd c (by decide))
                        refine h_bipush (v := (-4)) dX12_as_110 (by decide) ?_
                        exact h_iret dX12_as_112 rfl (k46 c1 c2 c4 c5 c7 c8 c41 c42 c43 c50 c51 c52 c53)
                      ·
                        refine h_iload_n dX12_as_84 rfl 0 rfl ?_
                        refine h_iconst (v := 3) dX12_as_85 (by decide) ?_
                        refine h_icmp_ne (tgt := 93) dX12_as_86 (by decide) (fun c54 => ?_) (fun c54 => ?_)
                        ·
                          refine h_iconst (v := 0) dX12_as_93 (by decide) ?_
                          refine h_istore (L' := [(4, .int 0), (3, .int (I 94 a.toNatClampNeg)), (0, .ref 87), (1, .int a), (2, .int b)]) dX12_as_94 (by decide) rfl ?_
                          refine h_iload dX12_as_96 0 rfl ?_
                          refine h_if_eq (tgt := 110) dX12_as_98 (by decide) (fun _ => ?_) (fun c => absurd c (by decide))
                          refine h_bipush (v := (-4)) dX12_as_110 (by decide) ?_
                          exact h_iret dX12_as_112 rfl (k47 c1 c2 c4 c5 c7 c8 c41 c42 c43 c50 c51 c52 c53 c54)
                        ·
                          refine h_iconst (v := 1) dX12_as_89 (by decide) ?_
                          refine h_goto (tgt := 94) dX12_as_90 (by decide) ?_
                          refine h_istore (L' := [(4, .int 1), (3, .int (I 94 a.toNatClampNeg)), (0, .ref 87), (1, .int a), (2, .int b)]) dX12_as_94 (by decide) rfl ?_
                          refine h_iload dX12_as_96 0 rfl ?_
                          refine h_if_eq (tgt := 110) dX12_as_98 (by decide) (fun c => absurd c (by decide)) (fun _ => ?_)
                          refine h_aload_n dX12_as_101 rfl 2 rfl ?_
                          refine h_iconst (v := 0) dX12_as_102 (by decide) ?_
                          refine h_iload_n dX12_as_103 rfl 3 rfl ?_
                          refine h_pick [] [] rfl ?_
                          refine h_invV (As := [.int 0, .int a]) (st := []) dX12_as_104 lk_X12_203 (h_room (by decide)) nl_87 zk_87 (by decide) rfl rfl rfl (Nat.le_of_ble_eq_true rfl) ?_
                          exact k48 c1 c2 c4 c5 c7 c8 c41 c42 c43 c50 c51 c52 c53 c54
                    ·
                      refine h_iload_n dX12_as_74 rfl 0 rfl ?_
                      refine h_iconst (v := 2) dX12_as_75 (by decide) ?_
                      refine h_icmp_eq (tgt := 89) dX12_as_76 (by decide) (fun c55 => ?_) (fun c55 => ?_)
                      ·
                        refine h_iconst (v := 1) dX12_as_89 (by decide) ?_
                        refine h_goto (tgt := 94) dX12_as_90 (by decide) ?_
                        refine h_istore (L' := [(4, .int 1), (3, .int (I 94 a.toNatClampNeg)), (0, .ref 87), (1, .int a), (2, .int b)]) dX12_as_94 (by decide) rfl ?_
                        refine h_iload dX12_as_96 0 rfl ?_
                        refine h_if_eq (tgt := 110) dX12_as_98 (by decide) (fun c => absurd c (by decide)) (fun _ => ?_)
                        refine h_aload_n dX12_as_101 rfl 2 rfl ?_
                        refine h_iconst (v := 0) dX12_as_102 (by decide) ?_
                        refine h_iload_n dX12_as_103 rfl 3 rfl ?_
                        refine h_pick [] [] rfl ?_
                        refine h_invV (As := [.int 0, .int a]) (st := []) dX12_as_104 lk_X12_203 (h_room (by decide)) nl_87 zk_87 (by decide) rfl rfl rfl (Nat.le_of_ble_eq_true rfl) ?_
                        exact k49 c1 c2 c4 c5 c7 c8 c41 c42 c43 c50 c51 c52 c55
                      ·
                        refine h_iload_n dX12_as_79 rfl 3 rfl ?_
                        refine h_iconst (v := 5) dX12_as_80 (by decide) ?_
                        refine h_icmp_ne (tgt := 93) dX12_as_81 (by decide) (fun c56 => ?_) (fun c56 => ?_)
                        ·
                          refine h_iconst (v := 0) dX12_as_93 (by decide) ?_
                          refine h_istore (L' := [(4, .int 0), (3, .int (I 94 a.toNatClampNeg)), (0, .ref 87), (1, .int a), (2, .int b)]) dX12_as_94 (by decide) rfl ?_
                          refine h_iload dX12_as_96 0 rfl ?_
                          refine h_if_eq (tgt := 110) dX12_as_98 (by decide) (fun _ => ?_) (fun c => absurd c (by decide))
                          refine h_bipush (v := (-4)) dX12_as_110 (by decide) ?_
                          exact h_iret dX12_as_112 rfl (k50 c1 c2 c4 c5 c7 c8 c41 c42 c43 c50 c51 c52 c55 c56)
                        ·
                          refine h_iload_n dX12_as_84 rfl 0 rfl ?_
                          refine h_iconst (v := 3) dX12_as_85 (by decide) ?_
                          refine h_icmp_ne (tgt := 93) dX12_as_86 (by decide) (fun c57 => ?_) (fun c57 => ?_)
                          ·
                            refine h_iconst (v := 0) dX12_as_93 (by decide) ?_
                            refine h_istore (L' := [(4, .int 0), (3, .int (I 94 a.toNatClampNeg)), (0, .ref 87), (1, .int a), (2, .int b)]) dX12_as_94 (by decide) rfl ?_
                            refine h_iload dX12_as_96 0 rfl ?_
                            refine h_if_eq (tgt := 110) dX12_as_98 (by decide) (fun _ => ?_) (fun c => absurd c (by decide))
                            refine h_bipush (v := (-4)) dX12_as_110 (by decide) ?_
                            exact h_iret dX12_as_112 rfl (k51 c1 c2 c4 c5 c7 c8 c41 c42 c43 c50 c51 c52 c55 c56 c57)
                          ·
                            refine h_iconst (v := 1) dX12_as_89 (by decide) ?_
                            refine h_goto (tgt := 94) dX12_as_90 (by decide) ?_
                            refine h_istore (L' := [(4, .int 1), (3, .int (I 94 a.toNatClampNeg)), (0, .ref 87), (1, .int a), (2, .int b)]) dX12_as_94 (by decide) rfl ?_
                            refine h_iload dX12_as_96 0 rfl ?_
                            refine h_if_eq (tgt := 110) dX12_as_98 (by decide) (fun c => absurd c (by decide)) (fun _ => ?_)
                            refine h_aload_n dX12_as_101 rfl 2 rfl ?_
                            refine h_iconst (v := 0) dX12_as_102 (by decide) ?_
                            refine h_iload_n dX12_as_103 rfl 3 rfl ?_
                            refine h_pick [] [] rfl ?_
                            refine h_invV (As := [.int 0, .int a]) (st := []) dX12_as_104 lk_X12_203 (h_room (by decide)) nl_87 zk_87 (by decide) rfl rfl rfl (Nat.le_of_ble_eq_true rfl) ?_
                            exact k52 c1 c2 c4 c5 c7 c8 c41 c42 c43 c50 c51 c52 c55 c56 c57
            ·
              refine h_iload_n dX12_as_50 rfl 0 rfl ?_
              refine h_if_ne (tgt := 89) dX12_as_51 (by decide) (fun c58 => ?_) (fun c58 => ?_)
              ·
                refine h_iconst (v := 1) dX12_as_89 (by decide) ?_
                refine h_goto (tgt := 94) dX12_as_90 (by decide) ?_
                refine h_istore (L' := [(4, .int 1), (3, .int (I 94 a.toNatClampNeg)), (0, .ref 87), (1, .int a), (2, .int b)]) dX12_as_94 (by decide) rfl ?_
                refine h_iload dX12_as_96 0 rfl ?_
                refine h_if_eq (tgt := 110) dX12_as_98 (by decide) (fun c => absurd c (by decide)) (fun _ => ?_)
                refine h_aload_n dX12_as_101 rfl 2 rfl ?_
                refine h_iconst (v := 0) dX12_as_102 (by decide) ?_
                refine h_iload_n dX12_as_103 rfl 3 rfl ?_
                refine h_pick [] [] rfl ?_
                refine h_invV (As := [.int 0, .int a]) (st := []) dX12_as_104 lk_X12_203 (h_room (by decide)) nl_87 zk_87 (by decide) rfl rfl rfl (Nat.le_of_ble_eq_true rfl) ?_
                exact k53 c1 c2 c4 c5 c7 c8 c41 c42 c58
              ·
                refine h_iload_n dX12_as_54 rfl 3 rfl ?_
                refine h_iconst (v := 3) dX12_as_55 (by decide) ?_
                refine h_icmp_ne (tgt := 69) dX12_as_56 (by decide) (fun c59 => ?_) (fun c59 => ?_)
                ·
                  refine h_iload_n dX12_as_69 rfl 3 rfl ?_
                  refine h_iconst (v := 4) dX12_as_70 (by decide) ?_
                  refine h_icmp_ne (tgt := 79) dX12_as_71 (by decide) (fun c60 => ?_) (fun c60 => ?_)
                  ·
                    refine h_iload_n dX12_as_79 rfl 3 rfl ?_
                    refine h_iconst (v := 5) dX12_as_80 (by decide) ?_
                    refine h_icmp_ne (tgt := 93) dX12_as_81 (by decide) (fun c61 => ?_) (fun c61 => ?_)
                    ·
                      refine h_iconst (v := 0) dX12_as_93 (by decide) ?_
                      refine h_istore (L' := [(4, .int 0), (3, .int (I 94 a.toNatClampNeg)), (0, .ref 87), (1, .int a), (2, .int b)]) dX12_as_94 (by decide) rfl ?_
                      refine h_iload dX12_as_96 0 rfl ?_
                      refine h_if_eq (tgt := 110) dX12_as_98 (by decide) (fun _ => ?_) (fun c => absurd c (by decide))
                      refine h_bipush (v := (-4)) dX12_as_110 (by decide) ?_
                      exact h_iret dX12_as_112 rfl (k54 c1 c2 c4 c5 c7 c8 c41 c42 c58 c59 c60 c61)
                    ·
                      refine h_iload_n dX12_as_84 rfl 0 rfl ?_
                      refine h_iconst (v := 3) dX12_as_85 (by decide) ?_
                      refine h_icmp_ne (tgt := 93) dX12_as_86 (by decide) (fun c62 => ?_) (fun c62 => ?_)
                      ·
                        refine h_iconst (v := 0) dX12_as_93 (by decide) ?_
                        refine h_istore (L' := [(4, .int 0), (3, .int (I 94 a.toNatClampNeg)), (0, .ref 87), (1, .int a), (2, .int b)]) dX12_as_94 (by decide) rfl ?_
                        refine h_iload dX12_as_96 0 rfl ?_
                        refine h_if_eq (tgt := 110) dX12_as_98 (by decide) (fun _ => ?_) (fun c => absurd c (by decide))
                        refine h_bipush (v := (-4)) dX12_as_110 (by decide) ?_
                        exact h_iret dX12_as_112 rfl (k55 c1 c2 c4 c5 c7 c8 c41 c42 c58 c59 c60 c61 c62)
                      ·
                        refine h_iconst (v := 1) dX12_as_89 (by decide) ?_
                        refine h_goto (tgt := 94) dX12_as_90 (by decide) ?_
                        refine h_istore (L' := [(4, .int 1), (3, .int (I 94 a.toNatClampNeg)), (0, .ref 87), (1, .int a), (2, .int b)]) dX12_as_94 (by decide) rfl ?_
                        refine h_iload dX12_as_96 0 rfl ?_
                        refine h_if_eq (tgt := 110) dX12_as_98 (by decide) (fun c => absurd c (by decide)) (fun _ => ?_)
                        refine h_aload_n dX12_as_101 rfl 2 rfl ?_
                        refine h_iconst (v := 0) dX12_as_102 (by decide) ?_
                        refine h_iload_n dX12_as_103 rfl 3 rfl ?_
                        refine h_pick [] [] rfl ?_
                        refine h_invV (As := [.int 0, .int a]) (st := []) dX12_as_104 lk_X12_203 (h_room (by decide)) nl_87 zk_87 (by decide) rfl rfl rfl (Nat.le_of_ble_eq_true rfl) ?_
                        exact k56 c1 c2 c4 c5 c7 c8 c41 c42 c58 c59 c60 c61 c62
                  ·
                    refine h_iload_n dX12_as_74 rfl 0 rfl ?_
                    refine h_iconst (v := 2) dX12_as_75 (by decide) ?_
                    refine h_icmp_eq (tgt := 89) dX12_as_76 (by decide) (fun c63 => ?_) (fun c63 => ?_)
                    ·
                      refine h_iconst (v := 1) dX12_as_89 (by decide) ?_
                      refine h_goto (tgt := 94) dX12_as_90 (by decide) ?_
                      refine h_istore (L' := [(4, .int 1), (3, .int (I 94 a.toNatClampNeg)), (0, .ref 87), (1, .int a), (2, .int b)]) dX12_as_94 (by decide) rfl ?_
                      refine h_iload dX12_as_96 0 rfl ?_
                      refine h_if_eq (tgt := 110) dX12_as_98 (by decide) (fun c => absurd c (by decide)) (fun _ => ?_)
                      refine h_aload_n dX12_as_101 rfl 2 rfl ?_
                      refine h_iconst (v := 0) dX12_as_102 (by decide) ?_
                      refine h_iload_n dX12_as_103 rfl 3 rfl ?_
                      refine h_pick [] [] rfl ?_
                      refine h_invV (As := [.int 0, .int a]) (st := []) dX12_as_104 lk_X12_203 (h_room (by decide)) nl_87 zk_87 (by decide) rfl rfl rfl (Nat.le_of_ble_eq_true rfl) ?_
                      exact k57 c1 c2 c4 c5 c7 c8 c41 c42 c58 c59 c60 c63
                    ·
                      refine h_iload_n dX12_as_79 rfl 3 rfl ?_
                      refine h_iconst (v := 5) dX12_as_80 (by decide) ?_
                      refine h_icmp_ne (tgt := 93) dX12_as_81 (by decide) (fun c64 => ?_) (fun c64 => ?_)
                      ·
                        refine h_iconst (v := 0) dX12_as_93 (by decide) ?_
                        refine h_istore (L' := [(4, .int 0), (3, .int (I 94 a.toNatClampNeg)), (0, .ref 87), (1, .int a), (2, .int b)]) dX12_as_94 (by decide) rfl ?_
                        refine h_iload dX12_as_96 0 rfl ?_
                        refine h_if_eq (tgt := 110) dX12_as_98 (by decide) (fun _ => ?_) (fun c => absurd c (by decide))
                        refine h_bipush (v := (-4)) dX12_as_110 (by decide) ?_
                        exact h_iret dX12_as_112 rfl (k58 c1 c2 c4 c5 c7 c8 c41 c42 c58 c59 c60 c63 c64)
                      ·
                        refine h_iload_n dX12_as_84 rfl 0 rfl ?_
                        refine h_iconst (v := 3) dX12_as_85 (by decide) ?_
                        refine h_icmp_ne (tgt := 93) dX12_as_86 (by decide) (fun c65 => ?_) (fun c65 => ?_)
                        ·
                          refine h_iconst (v := 0) dX12_as_93 (by decide) ?_
                          refine h_istore (L' := [(4, .int 0), (3, .int (I 94 a.toNatClampNeg)), (0, .ref 87), (1, .int a), (2, .int b)]) dX12_as_94 (by decide) rfl ?_
                          refine h_iload dX12_as_96 0 rfl ?_
                          refine h_if_eq (tgt := 110) dX12_as_98 (by decide) (fun _ => ?_) (fun c => absurd c (by decide))
                          refine h_bipush (v := (-4)) dX12_as_110 (by decide) ?_
                          exact h_iret dX12_as_112 rfl (k59 c1 c2 c4 c5 c7 c8 c41 c42 c58 c59 c60 c63 c64 c65)
                        ·
                          refine h_iconst (v := 1) dX12_as_89 (by decide) ?_
                          refine h_goto (tgt := 94) dX12_as_90 (by decide) ?_
                          refine h_istore (L' := [(4, .int 1), (3, .int (I 94 a.toNatClampNeg)), (0, .ref 87), (1, .int a), (2, .int b)]) dX12_as_94 (by decide) rfl ?_
                          refine h_iload dX12_as_96 0 rfl ?_
                          refine h_if_eq (tgt := 110) dX12_as_98 (by decide) (fun c => absurd c (by decide)) (fun _ => ?_)
                          refine h_aload_n dX12_as_101 rfl 2 rfl ?_
                          refine h_iconst (v := 0) dX12_as_102 (by decide) ?_
                          refine h_iload_n dX12_as_103 rfl 3 rfl ?_
                          refine h_pick [] [] rfl ?_
                          refine h_invV (As := [.int 0, .int a]) (st := []) dX12_as_104 lk_X12_203 (h_room (by decide)) nl_87 zk_87 (by decide) rfl rfl rfl (Nat.le_of_ble_eq_true rfl) ?_
                          exact k60 c1 c2 c4 c5 c7 c8 c41 c42 c58 c59 c60 c63 c64 c65
                ·
                  refine h_iload_n dX12_as_59 rfl 0 rfl ?_
                  refine h_iconst (v := 1) dX12_as_60 (by decide) ?_
                  refine h_icmp_eq (tgt := 89) dX12_as_61 (by decide) (fun c66 => ?_) (fun c66 => ?_)
                  ·
                    refine h_iconst (v := 1) dX12_as_89 (by decide) ?_
                    refine h_goto (tgt := 94) dX12_as_90 (by decide) ?_
                    refine h_istore (L' := [(4, .int 1), (3, .int (I 94 a.toNatClampNeg)), (0, .ref 87), (1, .int a), (2, .int b)]) dX12_as_94 (by decide) rfl ?_
                    refine h_iload dX12_as_96 0 rfl ?_
                    refine h_if_eq (tgt := 110) dX12_as_98 (by decide) (fun c => absurd c (by decide)) (fun _ => ?_)
                    refine h_aload_n dX12_as_101 rfl 2 rfl ?_
                    refine h_iconst (v := 0) dX12_as_102 (by decide) ?_
                    refine h_iload_n dX12_as_103 rfl 3 rfl ?_
                    refine h_pick [] [] rfl ?_
                    refine h_invV (As := [.int 0, .int a]) (st := []) dX12_as_104 lk_X12_203 (h_room (by decide)) nl_87 zk_87 (by decide) rfl rfl rfl (Nat.le_of_ble_eq_true rfl) ?_
                    exact k61 c1 c2 c4 c5 c7 c8 c41 c42 c58 c59 c66
                  ·
                    refine h_iload_n dX12_as_64 rfl 0 rfl ?_
                    refine h_iconst (v := 2) dX12_as_65 (by decide) ?_
                    refine h_icmp_eq (tgt := 89) dX12_as_66 (by decide) (fun c67 => ?_) (fun c67 => ?_)
                    ·
                      refine h_iconst (v := 1) dX12_as_89 (by decide) ?_
                      refine h_goto (tgt := 94) dX12_as_90 (by decide) ?_
                      refine h_istore (L' := [(4, .int 1), (3, .int (I 94 a.toNatClampNeg)), (0, .ref 87), (1, .int a), (2, .int b)]) dX12_as_94 (by decide) rfl ?_
                      refine h_iload dX12_as_96 0 rfl ?_
                      refine h_if_eq (tgt := 110) dX12_as_98 (by decide) (fun c => absurd c (by decide)) (fun _ => ?_)
                      refine h_aload_n dX12_as_101 rfl 2 rfl ?_
                      refine h_iconst (v := 0) dX12_as_102 (by decide) ?_
                      refine h_iload_n dX12_as_103 rfl 3 rfl ?_
                      refine h_pick [] [] rfl ?_
                      refine h_invV (As := [.int 0, .int a]) (st := []) dX12_as_104 lk_X12_203 (h_room (by decide)) nl_87 zk_87 (by decide) rfl rfl rfl (Nat.le_of_ble_eq_true rfl) ?_
                      exact k62 c1 c2 c4 c5 c7 c8 c41 c42 c58 c59 c66 c67
                    ·
                      refine h_iload_n dX12_as_69 rfl 3 rfl ?_
                      refine h_iconst (v := 4) dX12_as_70 (by decide) ?_
                      refine h_icmp_ne (tgt := 79) dX12_as_71 (by decide) (fun c68 => ?_) (fun c68 => ?_)
                      ·
                        refine h_iload_n dX12_as_79 rfl 3 rfl ?_
                        refine h_iconst (v := 5) dX12_as_80 (by decide) ?_
                        refine h_icmp_ne (tgt := 93) dX12_as_81 (by decide) (fun c69 => ?_) (fun c69 => ?_)
                        ·
                          refine h_iconst (v := 0) dX12_as_93 (by decide) ?_
                          refine h_istore (L' := [(4, .int 0), (3, .int (I 94 a.toNatClampNeg)), (0, .ref 87), (1, .int a), (2, .int b)]) dX12_as_94 (by decide) rfl ?_
                          refine h_iload dX12_as_96 0 rfl ?_
                          refine h_if_eq (tgt := 110) dX12_as_98 (by decide) (fun _ => ?_) (fun c => absurd c (by decide))
                          refine h_bipush (v := (-4)) dX12_as_110 (by decide) ?_
                          exact h_iret dX12_as_112 rfl (k63 c1 c2 c4 c5 c7 c8 c41 c42 c58 c59 c66 c67 c68 c69)
                        ·
                          refine h_iload_n dX12_as_84 rfl 0 rfl ?_
                          refine h_iconst (v := 3) dX12_as_85 (by decide) ?_
                          refine h_icmp_ne (tgt := 93) dX12_as_86 (by decide) (fun c70 => ?_) (fun c70 => ?_)
                          ·
                            refine h_iconst (v := 0) dX12_as_93 (by decide) ?_
                            refine h_istore (L' := [(4, .int 0), (3, .int (I 94 a.toNatClampNeg)), (0, .ref 87), (1, .int a), (2, .int b)]) dX12_as_94 (by decide) rfl ?_
                            refine h_iload dX12_as_96 0 rfl ?_
                            refine h_if_eq (tgt := 110) dX12_as_98 (by decide) (fun _ => ?_) (fun c => absurd c (by decide))
                            refine h_bipush (v := (-4)) dX12_as_110 (by decide) ?_
                            exact h_iret dX12_as_112 rfl (k64 c1 c2 c4 c5 c7 c8 c41 c42 c58 c59 c66 c67 c68 c69 c70)
                          ·
                            refine h_iconst (v := 1) dX12_as_89 (by decide) ?_
                            refine h_goto (tgt := 94) dX12_as_90 (by decide) ?_
                            refine h_istore (L' := [(4, .int 1), (3, .int (I 94 a.toNatClampNeg)), (0, .ref 87), (1, .int a), (2, .int b)]) dX12_as_94 (by decide) rfl ?_
                            refine h_iload dX12_as_96 0 rfl ?_
                            refine h_if_eq (tgt := 110) dX12_as_98 (by decide) (fun c => absurd c (by decide)) (fun _ => ?_)
                            refine h_aload_n dX12_as_101 rfl 2 rfl ?_
                            refine h_iconst (v := 0) dX12_as_102 (by decide) ?_
                            refine h_iload_n dX12_as_103 rfl 3 rfl ?_
                            refine h_pick [] [] rfl ?_
                            refine h_invV (As := [.int 0, .int a]) (st := []) dX12_as_104 lk_X12_203 (h_room (by decide)) nl_87 zk_87 (by decide) rfl rfl rfl (Nat.le_of_ble_eq_true rfl) ?_
                            exact k65 c1 c2 c4 c5 c7 c8 c41 c42 c58 c59 c66 c67 c68 c69 c70
                      ·
                        refine h_iload_n dX12_as_74 rfl 0 rfl ?_
                        refine h_iconst (v := 2) dX12_as_75 (by decide) ?_
                        refine h_icmp_eq (tgt := 89) dX12_as_76 (by decide) (fun c71 => ?_) (fun c71 => ?_)
                        ·
                          refine h_iconst (v := 1) dX12_as_89 (by decide) ?_
                          refine h_goto (tgt := 94) dX12_as_90 (by decide) ?_
                          refine h_istore (L' := [(4, .int 1), (3, .int (I 94 a.toNatClampNeg)), (0, .ref 87), (1, .int a), (2, .int b)]) dX12_as_94 (by decide) rfl ?_
                          refine h_iload dX12_as_96 0 rfl ?_
                          refine h_if_eq (tgt := 110) dX12_as_98 (by decide) (fun c => absurd c (by decide)) (fun _ => ?_)
                          refine h_aload_n dX12_as_101 rfl 2 rfl ?_
                          refine h_iconst (v := 0) dX12_as_102 (by decide) ?_
                          refine h_iload_n dX12_as_103 rfl 3 rfl ?_
                          refine h_pick [] [] rfl ?_
                          refine h_invV (As := [.int 0, .int a]) (st := []) dX12_as_104 lk_X12_203 (h_room (by decide)) nl_87 zk_87 (by decide) rfl rfl rfl (Nat.le_of_ble_eq_true rfl) ?_
                          exact k66 c1 c2 c4 c5 c7 c8 c41 c42 c58 c59 c66 c67 c68 c71
                        ·
                          refine h_iload_n dX12_as_79 rfl 3 rfl ?_
                          refine h_iconst (v := 5) dX12_as_80 (by decide) ?_
                          refine h_icmp_ne (tgt := 93) dX12_as_81 (by decide) (fun c72 => ?_) (fun c72 => ?_)
                          ·
                            refine h_iconst (v := 0) dX12_as_93 (by decide) ?_
                            refine h_istore (L' := [(4, .int 0), (3, .int (I 94 a.toNatClampNeg)), (0, .ref 87), (1, .int a), (2, .int b)]) dX12_as_94 (by decide) rfl ?_
                            refine h_iload dX12_as_96 0 rfl ?_
                            refine h_if_eq (tgt := 110) dX12_as_98 (by decide) (fun _ => ?_) (fun c => absurd c (by decide))
                            refine h_bipush (v := (-4)) dX12_as_110 (by decide) ?_
                            exact h_iret dX12_as_112 rfl (k67 c1 c2 c4 c5 c7 c8 c41 c42 c58 c59 c66 c67 c68 c71 c72)
                          ·
                            refine h_iload_n dX12_as_84 rfl 0 rfl ?_
                            refine h_iconst (v := 3) dX12_as_85 (by decide) ?_
                            refine h_icmp_ne (tgt := 93) dX12_as_86 (by decide) (fun c73 => ?_) (fun c73 => ?_)
                            ·
                              refine h_iconst (v := 0) dX12_as_93 (by decide) ?_
                              refine h_istore (L' := [(4, .int 0), (3, .int (I 94 a.toNatClampNeg)), (0, .ref 87), (1, .int a), (2, .int b)]) dX12_as_94 (by decide) rfl ?_
                              refine h_iload dX12_as_96 0 rfl ?_
                              refine h_if_eq (tgt := 110) dX12_as_98 (by decide) (fun _ => ?_) (fun c => absurd c (by decide))
                              refine h_bipush (v := (-4)) dX12_as_110 (by decide) ?_
                              exact h_iret dX12_as_112 rfl (k68 c1 c2 c4 c5 c7 c8 c41 c42 c58 c59 c66 c67 c68 c71 c72 c73)
                            ·
                              refine h_iconst (v := 1) dX12_as_89 (by decide) ?_
                              refine h_goto (tgt := 94) dX12_as_90 (by decide) ?_
                              refine h_istore (L' := [(4, .int 1), (3, .int (I 94 a.toNatClampNeg)), (0, .ref 87), (1, .int a), (2, .int b)]) dX12_as_94 (by decide) rfl ?_
                              refine h_iload dX12_as_96 0 rfl ?_
                              refine h_if_eq (tgt := 110) dX12_as_98 (by decide) (fun c => absurd c (by decide)) (fun _ => ?_)
                              refine h_aload_n dX12_as_101 rfl 2 rfl ?_
                              refine h_iconst (v := 0) dX12_as_102 (by decide) ?_
                              refine h_iload_n dX12_as_103 rfl 3 rfl ?_
                              refine h_pick [] [] rfl ?_
                              refine h_invV (As := [.int 0, .int a]) (st := []) dX12_as_104 lk_X12_203 (h_room (by decide)) nl_87 zk_87 (by decide) rfl rfl rfl (Nat.le_of_ble_eq_true rfl) ?_
                              exact k69 c1 c2 c4 c5 c7 c8 c41 c42 c58 c59 c66 c67 c68 c71 c72 c73
    ·
      refine h_if_ne (tgt := 25) dX12_as_19 (by decide) (fun c => absurd c (by decide)) (fun _ => ?_)
      refine h_bipush (v := (-3)) dX12_as_22 (by decide) ?_
      exact h_iret dX12_as_24 rfl (k70 c1 c2 c6)
  ·
    refine h_if_ne (tgt := 10) dX12_as_4 (by decide) (fun c => absurd c (by decide)) (fun _ => ?_)
    refine h_bipush (v := (-2)) dX12_as_7 (by decide) ?_
    exact h_iret dX12_as_9 rfl (k71 c3)
set_option maxHeartbeats 1000000 in
set_option maxRecDepth 4000 in
theorem sg_X12_as_107 {E : HEn} {d : Nat} {Q : Option Value → HIh → Prop} {I : HIh} {s0 : Int32}
    (k1 : Q (some (.int s0)) I)
    : HGo E (mF E (d + 4) Q) me_X12_as 107 [] [.int s0] I := by
  refine h_goto (tgt := 112) dX12_as_107 (by decide) ?_
  exact h_iret dX12_as_112 rfl (k1)
set_option maxHeartbeats 1000000 in
set_option maxRecDepth 4000 in
theorem sg_X12_come_0 {E : HEn} {d : Nat} {Q : Option Value → HIh → Prop} {I : HIh} {a : Int32}
    (k1 : 0 ≤ a → (I 87 13) ≤ a → Q (some (.int (-1))) I)
    (k2 : 0 ≤ a → ¬ (I 87 13) ≤ a → vp_in a 24)
    (k3 : 0 ≤ a → ¬ (I 87 13) ≤ a → Q (some (.int (I 96 a.toNatClampNeg))) I)
    (k4 : ¬ 0 ≤ a → Q (some (.int (-3))) I)
    : HGo E (mF E (d + 1) Q) me_X12_come 0 [(0, .ref 87), (1, .int a)] [] I := by
  refine h_iload_n dX12_come_0 rfl 1 rfl ?_
  refine h_if_ge (tgt := 9) dX12_come_1 (by decide) (fun c1 => ?_) (fun c1 => ?_)
  ·
    refine h_iload_n dX12_come_9 rfl 1 rfl ?_
    refine h_aload_n dX12_come_10 rfl 0 rfl ?_
    refine gf_10_13 dX12_come_11 hl_X12_147 nl_87 zk_87 ?_
    refine h_icmp_ge (tgt := 26) dX12_come_14 (by decide) (fun c2 => ?_) (fun c2 => ?_)
    ·
      refine h_iconst (v := (-1)) dX12_come_26 (by decide) ?_
      exact h_iret dX12_come_27 rfl (k1 c1 c2)
    ·
      refine h_aload_n dX12_come_17 rfl 0 rfl ?_
      refine gf_10_12 dX12_come_18 hl_X12_39 nl_87 zk_87 zp_87_12 ?_
      refine h_iload_n dX12_come_21 rfl 1 rfl ?_
      refine h_iald dX12_come_22 nl_96 zk_96 (by rw [zn_96]; exact k2 c1 c2) ?_
      refine h_goto (tgt := 27) dX12_come_23 (by decide) ?_
      exact h_iret dX12_come_27 rfl (k3 c1 c2)
  ·
    refine h_bipush (v := (-3)) dX12_come_4 (by decide) ?_
    refine h_goto (tgt := 27) dX12_come_6 (by decide) ?_
    exact h_iret dX12_come_27 rfl (k4 c1)
set_option maxHeartbeats 1000000 in
set_option maxRecDepth 4000 in
theorem sg_X12_gain_0 {E : HEn} {d : Nat} {Q : Option Value → HIh → Prop} {I : HIh} {a : Int32} {b : Int32}
    (k1 : (0 : Int32) ≤ a → a < 4 → (0 : Int32) ≤ b → b ≤ I 87 6 - 1 → HCall E me_X12_isHad (d + 2) [.ref 87, .int 0, .int a, .int b] I (fun v9 J => HGo E (mF E (d + 3) Q) me_X12_gain 25 [(0, .ref 87), (2, .int b)] (v9.toList ++ []) J))
    (k2 : (0 : Int32) ≤ a → a < 4 → ¬ ((0 : Int32) ≤ b ∧ b ≤ I 87 6 - 1) → Q (some (.int (-2))) I)
    (k3 : ¬ ((0 : Int32) ≤ a ∧ a < 4) → Q (some (.int (-2))) I)
    : HGo E (mF E (d + 3) Q) me_X12_gain 0 [(0, .ref 87), (1, .int a), (2, .int b)] [] I := by
  refine h_iload_n dX12_gain_0 rfl 1 rfl ?_
  refine h_invS (As := [.int a]) (st := []) dX12_gain_1 lk_X12_180 (h_room (by decide)) rfl rfl (Nat.le_of_ble_eq_true rfl) ?_
  refine c_X12_isPerson (fun c1 c2 => ?_) (fun c3 => ?_)
  ·
    refine h_if_eq (tgt := 15) dX12_gain_4 (by decide) (fun c => absurd c (by decide)) (fun _ => ?_)
    refine h_aload_n dX12_gain_7 rfl 0 rfl ?_
    refine h_iload_n dX12_gain_8 rfl 2 rfl ?_
    refine h_invV (As := [.int b]) (st := []) dX12_gain_9 lk_X12_177 (h_room (by decide)) nl_87 zk_87 (by decide) rfl rfl rfl (Nat.le_of_ble_eq_true rfl) ?_
    refine c_X12_isKind (fun c4 c5 => ?_) (fun c6 => ?_)
    ·
      refine h_if_ne (tgt := 18) dX12_gain_12 (by decide) (fun _ => ?_) (fun c => absurd c (by decide))
      refine h_aload_n dX12_gain_18 rfl 0 rfl ?_
      refine h_iconst (v := 0) dX12_gain_19 (by decide) ?_
      refine h_iload_n dX12_gain_20 rfl 1 rfl ?_
      refine h_iload_n dX12_gain_21 rfl 2 rfl ?_
      refine h_pick [0, 2] [(0, .ref 87), (2, .int b)] rfl ?_
      refine h_invV (As := [.int 0, .int a, .int b]) (st := []) dX12_gain_22 lk_X12_196 (h_room (by decide)) nl_87 zk_87 (by decide) rfl rfl rfl (Nat.le_of_ble_eq_true rfl) ?_
      exact k1 c1 c2 c4 c5
    ·
      refine h_if_ne (tgt := 18) dX12_gain_12 (by decide) (fun c => absurd c (by decide)) (fun _ => ?_)
      refine h_bipush (v := (-2)) dX12_gain_15 (by decide) ?_
      exact h_iret dX12_gain_17 rfl (k2 c1 c2 c6)
  ·
    refine h_if_eq (tgt := 15) dX12_gain_4 (by decide) (fun _ => ?_) (fun c => absurd c (by decide))
    refine h_bipush (v := (-2)) dX12_gain_15 (by decide) ?_
    exact h_iret dX12_gain_17 rfl (k3 c3)
set_option maxHeartbeats 1000000 in
set_option maxRecDepth 4000 in
theorem sg_X12_gain_25 {E : HEn} {d : Nat} {Q : Option Value → HIh → Prop} {I : HIh} {x2 : Int32} {s0 : Int32}
    (k1 : s0 = 0 → Q (some (.int (-4))) I)
    (k2 : ¬ s0 = 0 → HCall E me_X12_gainOf (d + 2) [.ref 87, .int 0, .int x2] I (fun v9 J => HGo E (mF E (d + 3) Q) me_X12_gain 36 [] (v9.toList ++ [.int 100000]) J))
    : HGo E (mF E (d + 3) Q) me_X12_gain 25 [(0, .ref 87), (2, .int x2)] [.int s0] I := by
  refine h_if_eq (tgt := 40) dX12_gain_25 (by decide) (fun c1 => ?_) (fun c1 => ?_)
  ·
    refine h_bipush (v := (-4)) dX12_gain_40 (by decide) ?_
    exact h_iret dX12_gain_42 rfl (k1 c1)
  ·
    refine h_ldc dX12_gain_28 wt_1051 rfl ?_
    refine h_aload_n dX12_gain_30 rfl 0 rfl ?_
    refine h_iconst (v := 0) dX12_gain_31 (by decide) ?_
    refine h_iload_n dX12_gain_32 rfl 1 rfl ?_
    refine h_pick [] [] rfl ?_
    refine h_invV (As := [.int 0, .int x2]) (st := [.int 100000]) dX12_gain_33 lk_X12_200 (h_room (by decide)) nl_87 zk_87 (by decide) rfl rfl rfl (Nat.le_of_ble_eq_true rfl) ?_
    exact k2 c1
set_option maxHeartbeats 1000000 in
set_option maxRecDepth 4000 in
theorem sg_X12_gain_36 {E : HEn} {d : Nat} {Q : Option Value → HIh → Prop} {I : HIh} {s0 : Int32} {s1 : Int32}
    (k1 : Q (some (.int (s1 + s0))) I)
    : HGo E (mF E (d + 3) Q) me_X12_gain 36 [] [.int s0, .int s1] I := by
  refine h_iadd dX12_gain_36 ?_
  refine h_goto (tgt := 42) dX12_gain_37 (by decide) ?_
  exact h_iret dX12_gain_42 rfl (k1)
set_option maxHeartbeats 1000000 in
set_option maxRecDepth 4000 in
theorem sg_X12_visit_0 {E : HEn} {d : Nat} {Q : Option Value → HIh → Prop} {I : HIh} {a : Int32}
    (k1 : a = (-1) → ¬ ((I 87 13) - (I 88 30)) = 0 → vp_in (I 88 30) 24)
    (k2 : a = (-1) → ¬ ((I 87 13) - (I 88 30)) = 0 → a = (-1) → ¬ a = (-1) → HCall E me_X12_gainOf (d + 2) [.ref 87, .int 0, .int a] I (fun v9 J => HGo E (mF E (d + 3) Q) me_X12_visit 72 [(0, .ref 87), (1, .int a), (2, .int (I 96 (I 88 30).toNatClampNeg))] (v9.toList ++ []) J))
    (k3 : a = (-1) → ¬ ((I 87 13) - (I 88 30)) = 0 → a = (-1) → a = (-1) → a = (-1) → Q (some (.int (100000 + 0))) (setI I 88 (upd (I 88) 30 ((I 88 30) + 1))))
    (k4 : a = (-1) → ¬ ((I 87 13) - (I 88 30)) = 0 → a = (-1) → a = (-1) → ¬ a = (-1) → HCall E me_X12_throwsOne (d + 2) [.ref 87, .int 0, .int (I 96 (I 88 30).toNatClampNeg), .int a] I (fun v9 J => HGo E (mF E (d + 3) Q) me_X12_visit 85 [(0, .ref 87), (3, .int 0)] (v9.toList ++ []) J))
    (k5 : a = (-1) → ¬ ((I 87 13) - (I 88 30)) = 0 → ¬ a = (-1) → HCall E me_X12_isHad (d + 2) [.ref 87, .int 0, .int (I 96 (I 88 30).toNatClampNeg), .int a] I (fun v9 J => HGo E (mF E (d + 3) Q) me_X12_visit 51 [(0, .ref 87), (1, .int a), (2, .int (I 96 (I 88 30).toNatClampNeg))] (v9.toList ++ []) J))
    (k6 : a = (-1) → ((I 87 13) - (I 88 30)) = 0 → Q (some (.int (-4))) I)
    (k7 : ¬ a = (-1) → (0 : Int32) ≤ a → a ≤ I 87 6 - 1 → ¬ ((I 87 13) - (I 88 30)) = 0 → vp_in (I 88 30) 24)
    (k8 : ¬ a = (-1) → (0 : Int32) ≤ a → a ≤ I 87 6 - 1 → ¬ ((I 87 13) - (I 88 30)) = 0 → a = (-1) → ¬ a = (-1) → HCall E me_X12_gainOf (d + 2) [.ref 87, .int 0, .int a] I (fun v9 J => HGo E (mF E (d + 3) Q) me_X12_visit 72 [(0, .ref 87), (1, .int a), (2, .int (I 96 (I 88 30).toNatClampNeg))] (v9.toList ++ []) J))
    (k9 : ¬ a = (-1) → (0 : Int32) ≤ a → a ≤ I 87 6 - 1 → ¬ ((I 87 13) - (I 88 30)) = 0 → a = (-1) → a = (-1) → a = (-1) → Q (some (.int (100000 + 0))) (setI I 88 (upd (I 88) 30 ((I 88 30) + 1))))
    (k10 : ¬ a = (-1) → (0 : Int32) ≤ a → a ≤ I 87 6 - 1 → ¬ ((I 87 13) - (I 88 30)) = 0 → a = (-1) → a = (-1) → ¬ a = (-1) → HCall E me_X12_throwsOne (d + 2) [.ref 87, .int 0, .int (I 96 (I 88 30).toNatClampNeg), .int a] I (fun v9 J => HGo E (mF E (d + 3) Q) me_X12_visit 85 [(0, .ref 87), (3, .int 0)] (v9.toList ++ []) J))
    (k11 : ¬ a = (-1) → (0 : Int32) ≤ a → a ≤ I 87 6 - 1 → ¬ ((I 87 13) - (I 88 30)) = 0 → ¬ a = (-1) → HCall E me_X12_isHad (d + 2) [.ref 87, .int 0, .int (I 96 (I 88 30).toNatClampNeg), .int a] I (fun v9 J => HGo E (mF E (d + 3) Q) me_X12_visit 51 [(0, .ref 87), (1, .int a), (2, .int (I 96 (I 88 30).toNatClampNeg))] (v9.toList ++ []) J))
    (k12 : ¬ a = (-1) → (0 : Int32) ≤ a → a ≤ I 87 6 - 1 → ((I 87 13) - (I 88 30)) = 0 → Q (some (.int (-4))) I)
    (k13 : ¬ a = (-1) → ¬ ((0 : Int32) ≤ a ∧ a ≤ I 87 6 - 1) → Q (some (.int (-2))) I)
    : HGo E (mF E (d + 3) Q) me_X12_visit 0 [(0, .ref 87), (1, .int a)] [] I := by
  refine h_iload_n dX12_visit_0 rfl 1 rfl ?_
  refine h_iconst (v := (-1)) dX12_visit_1 (by decide) ?_
  refine h_icmp_eq (tgt := 16) dX12_visit_2 (by decide) (fun c1 => ?_) (fun c1 => ?_)
  ·
    refine h_aload_n dX12_visit_16 rfl 0 rfl ?_
    refine h_invV (As := []) (st := []) dX12_visit_17 lk_X12_213 (h_room (by decide)) nl_87 zk_87 (by decide) rfl rfl rfl (Nat.le_of_ble_eq_true rfl) ?_
    refine c_X12_visitsLeft ?_
    refine h_if_ne (tgt := 26) dX12_visit_20 (by decide) (fun c2 => ?_) (fun c2 => ?_)
    ·
      refine h_aload_n dX12_visit_26 rfl 0 rfl ?_
      refine gf_10_12 dX12_visit_27 hl_X12_39 nl_87 zk_87 zp_87_12 ?_
      refine h_aload_n dX12_visit_30 rfl 0 rfl ?_
      refine gf_10_0 dX12_visit_31 hl_X12_7 nl_87 zk_87 zp_87_0 ?_
      refine h_bipush (v := 30) dX12_visit_34 (by decide) ?_
      refine h_iald dX12_visit_36 nl_88 zk_88 (vp_lit (by rw [zn_88]; decide)) ?_
      refine h_iald dX12_visit_37 nl_96 zk_96 (by rw [zn_96]; exact k1 c1 c2) ?_
      refine h_istore_n (L' := [(2, .int (I 96 (I 88 30).toNatClampNeg)), (0, .ref 87), (1, .int a)]) dX12_visit_38 rfl (by decide) rfl ?_
      refine h_iload_n dX12_visit_39 rfl 2 rfl ?_
      refine h_iconst (v := (-1)) dX12_visit_40 (by decide) ?_
      refine h_icmp_eq (tgt := 57) dX12_visit_41 (by decide) (fun c3 => ?_) (fun c3 => ?_)
      ·
        refine h_iload_n dX12_visit_57 rfl 2 rfl ?_
        refine h_iconst (v := (-1)) dX12_visit_58 (by decide) ?_
        refine h_icmp_ne (tgt := 66) dX12_visit_59 (by decide) (fun c4 => ?_) (fun c4 => ?_)
        ·
          refine h_aload_n dX12_visit_66 rfl 1 rfl ?_
          refine h_iconst (v := 0) dX12_visit_67 (by decide) ?_
          refine h_iload_n dX12_visit_68 rfl 2 rfl ?_
          refine h_pick [1, 2, 0] [(0, .ref 87), (1, .int a), (2, .int (I 96 (I 88 30).toNatClampNeg))] rfl ?_
          refine h_invV (As := [.int 0, .int a]) (st := []) dX12_visit_69 lk_X12_200 (h_room (by decide)) nl_87 zk_87 (by decide) rfl rfl rfl (Nat.le_of_ble_eq_true rfl) ?_
          exact k2 c1 c2 c3 c4
        ·
          refine h_iconst (v := 0) dX12_visit_62 (by decide) ?_
          refine h_goto (tgt := 72) dX12_visit_63 (by decide) ?_
          refine h_istore_n (L' := [(3, .int 0), (2, .int (I 96 (I 88 30).toNatClampNeg)), (0, .ref 87), (1, .int a)]) dX12_visit_72 rfl (by decide) rfl ?_
          refine h_iload_n dX12_visit_73 rfl 3 rfl ?_
          refine h_iconst (v := (-1)) dX12_visit_74 (by decide) ?_
          refine h_icmp_eq (tgt := 85) dX12_visit_75 (by decide) (fun c5 => ?_) (fun c5 => ?_)
          ·
            refine h_aload_n dX12_visit_85 rfl 2 rfl ?_
            refine gf_10_0 dX12_visit_86 hl_X12_7 nl_87 zk_87 zp_87_0 ?_
            refine h_bipush (v := 30) dX12_visit_89 (by decide) ?_
            refine h_dup2 dX12_visit_91 rfl rfl ?_
            refine h_iald dX12_visit_92 nl_88 zk_88 (vp_lit (by rw [zn_88]; decide)) ?_
            refine h_iconst (v := 1) dX12_visit_93 (by decide) ?_
            refine h_iadd dX12_visit_94 ?_
            refine h_iast dX12_visit_95 nl_88 zk_88 (vp_lit (by rw [zn_88]; decide)) ?_
            refine h_ldc dX12_visit_96 wt_1051 rfl ?_
            refine h_iload_n dX12_visit_98 rfl 0 rfl ?_
            refine h_iadd dX12_visit_99 ?_
            exact h_iret dX12_visit_100 rfl (k3 c1 c2 c3 c4 c5)
          ·
            refine h_aload_n dX12_visit_78 rfl 2 rfl ?_
            refine h_iconst (v := 0) dX12_visit_79 (by decide) ?_
            refine h_iload_n dX12_visit_80 rfl 1 rfl ?_
            refine h_iload_n dX12_visit_81 rfl 3 rfl ?_
            refine h_pick [2, 0] [(0, .ref 87), (3, .int 0)] rfl ?_
            refine h_invV (As := [.int 0, .int (I 96 (I 88 30).toNatClampNeg), .int a]) (st := []) dX12_visit_82 lk_X12_206 (h_room (by decide)) nl_87 zk_87 (by decide) rfl rfl rfl (Nat.le_of_ble_eq_true rfl) ?_
            exact k4 c1 c2 c3 c4 c5
      ·
        refine h_aload_n dX12_visit_44 rfl 1 rfl ?_
        refine h_iconst (v := 0) dX12_visit_45 (by decide) ?_
        refine h_iload_n dX12_visit_46 rfl 0 rfl ?_
        refine h_iload_n dX12_visit_47 rfl 2 rfl ?_
        refine h_pick [1, 2, 0] [(0, .ref 87), (1, .int a), (2, .int (I 96 (I 88 30).toNatClampNeg))] rfl ?_
        refine h_invV (As := [.int 0, .int (I 96 (I 88 30).toNatClampNeg), .int a]) (st := []) dX12_visit_48 lk_X12_196 (h_room (by decide)) nl_87 zk_87 (by decide) rfl rfl rfl (Nat.le_of_ble_eq_true rfl) ?_
        exact k5 c1 c2 c3
    ·
      refine h_bipush (v := (-4)) dX12_visit_23 (by decide) ?_
      exact h_iret dX12_visit_25 rfl (k6 c1 c2)
  ·
    refine h_aload_n dX12_visit_5 rfl 0 rfl ?_
    refine h_iload_n dX12_visit_6 rfl 1 rfl ?_
    refine h_invV (As := [.int a]) (st := []) dX12_visit_7 lk_X12_177 (h_room (by decide)) nl_87 zk_87 (by decide) rfl rfl rfl (Nat.le_of_ble_eq_true rfl) ?_
    refine c_X12_isKind (fun c6 c7 => ?_) (fun c8 => ?_)
    ·
      refine h_if_ne (tgt := 16) dX12_visit_10 (by decide) (fun _ => ?_) (fun c => absurd c (by decide))
      refine h_aload_n dX12_visit_16 rfl 0 rfl ?_
      refine h_invV (As := []) (st := []) dX12_visit_17 lk_X12_213 (h_room (by decide)) nl_87 zk_87 (by decide) rfl rfl rfl (Nat.le_of_ble_eq_true rfl) ?_
      refine c_X12_visitsLeft ?_
      refine h_if_ne (tgt := 26) dX12_visit_20 (by decide) (fun c9 => ?_) (fun c9 => ?_)
      ·
        refine h_aload_n dX12_visit_26 rfl 0 rfl ?_
        refine gf_10_12 dX12_visit_27 hl_X12_39 nl_87 zk_87 zp_87_12 ?_
        refine h_aload_n dX12_visit_30 rfl 0 rfl ?_
        refine gf_10_0 dX12_visit_31 hl_X12_7 nl_87 zk_87 zp_87_0 ?_
        refine h_bipush (v := 30) dX12_visit_34 (by decide) ?_
        refine h_iald dX12_visit_36 nl_88 zk_88 (vp_lit (by rw [zn_88]; decide)) ?_
        refine h_iald dX12_visit_37 nl_96 zk_96 (by rw [zn_96]; exact k7 c1 c6 c7 c9) ?_
        refine h_istore_n (L' := [(2, .int (I 96 (I 88 30).toNatClampNeg)), (0, .ref 87), (1, .int a)]) dX12_visit_38 rfl (by decide) rfl ?_
        refine h_iload_n dX12_visit_39 rfl 2 rfl ?_
        refine h_iconst (v := (-1)) dX12_visit_40 (by decide) ?_
        refine h_icmp_eq (tgt := 57) dX12_visit_41 (by decide) (fun c10 => ?_) (fun c10 => ?_)
        ·
          refine h_iload_n dX12_visit_57 rfl 2 rfl ?_
          refine h_iconst (v := (-1)) dX12_visit_58 (by decide) ?_
          refine h_icmp_ne (tgt := 66) dX12_visit_59 (by decide) (fun c11 => ?_) (fun c11 => ?_)
          ·
            refine h_aload_n dX12_visit_66 rfl 1 rfl ?_
            refine h_iconst (v := 0) dX12_visit_67 (by decide) ?_
            refine h_iload_n dX12_visit_68 rfl 2 rfl ?_
            refine h_pick [1, 2, 0] [(0, .ref 87), (1, .int a), (2, .int (I 96 (I 88 30).toNatClampNeg))] rfl ?_
            refine h_invV (As := [.int 0, .int a]) (st := []) dX12_visit_69 lk_X12_200 (h_room (by decide)) nl_87 zk_87 (by decide) rfl rfl rfl (Nat.le_of_ble_eq_true rfl) ?_
            exact k8 c1 c6 c7 c9 c10 c11
          ·
            refine h_iconst (v := 0) dX12_visit_62 (by decide) ?_
            refine h_goto (tgt := 72) dX12_visit_63 (by decide) ?_
            refine h_istore_n (L' := [(3, .int 0), (2, .int (I 96 (I 88 30).toNatClampNeg)), (0, .ref 87), (1, .int a)]) dX12_visit_72 rfl (by decide) rfl ?_
            refine h_iload_n dX12_visit_73 rfl 3 rfl ?_
            refine h_iconst (v := (-1)) dX12_visit_74 (by decide) ?_
            refine h_icmp_eq (tgt := 85) dX12_visit_75 (by decide) (fun c12 => ?_) (fun c12 => ?_)
            ·
              refine h_aload_n dX12_visit_85 rfl 2 rfl ?_
              refine gf_10_0 dX12_visit_86 hl_X12_7 nl_87 zk_87 zp_87_0 ?_
              refine h_bipush (v := 30) dX12_visit_89 (by decide) ?_
              refine h_dup2 dX12_visit_91 rfl rfl ?_
              refine h_iald dX12_visit_92 nl_88 zk_88 (vp_lit (by rw [zn_88]; decide)) ?_
              refine h_iconst (v := 1) dX12_visit_93 (by decide) ?_
              refine h_iadd dX12_visit_94 ?_
              refine h_iast dX12_visit_95 nl_88 zk_88 (vp_lit (by rw [zn_88]; decide)) ?_
              refine h_ldc dX12_visit_96 wt_1051 rfl ?_
              refine h_iload_n dX12_visit_98 rfl 0 rfl ?_
              refine h_iadd dX12_visit_99 ?_
              exact h_iret dX12_visit_100 rfl (k9 c1 c6 c7 c9 c10 c11 c12)
            ·
              refine h_aload_n dX12_visit_78 rfl 2 rfl ?_
              refine h_iconst (v := 0) dX12_visit_79 (by decide) ?_
              refine h_iload_n dX12_visit_80 rfl 1 rfl ?_
              refine h_iload_n dX12_visit_81 rfl 3 rfl ?_
              refine h_pick [2, 0] [(0, .ref 87), (3, .int 0)] rfl ?_
              refine h_invV (As := [.int 0, .int (I 96 (I 88 30).toNatClampNeg), .int a]) (st := []) dX12_visit_82 lk_X12_206 (h_room (by decide)) nl_87 zk_87 (by decide) rfl rfl rfl (Nat.le_of_ble_eq_true rfl) ?_
              exact k10 c1 c6 c7 c9 c10 c11 c12
        ·
          refine h_aload_n dX12_visit_44 rfl 1 rfl ?_
          refine h_iconst (v := 0) dX12_visit_45 (by decide) ?_
          refine h_iload_n dX12_visit_46 rfl 0 rfl ?_
          refine h_iload_n dX12_visit_47 rfl 2 rfl ?_
          refine h_pick [1, 2, 0] [(0, .ref 87), (1, .int a), (2, .int (I 96 (I 88 30).toNatClampNeg))] rfl ?_
          refine h_invV (As := [.int 0, .int (I 96 (I 88 30).toNatClampNeg), .int a]) (st := []) dX12_visit_48 lk_X12_196 (h_room (by decide)) nl_87 zk_87 (by decide) rfl rfl rfl (Nat.le_of_ble_eq_true rfl) ?_
          exact k11 c1 c6 c7 c9 c10
      ·
        refine h_bipush (v := (-4)) dX12_visit_23 (by decide) ?_
        exact h_iret dX12_visit_25 rfl (k12 c1 c6 c7 c9)
    ·
      refine h_if_ne (tgt := 16) dX12_visit_10 (by decide) (fun c => absurd c (by decide)) (fun _ => ?_)
      refine h_bipush (v := (-2)) dX12_visit_13 (by decide) ?_
      exact h_iret dX12_visit_15 rfl (k13 c1 c8)
set_option maxHeartbeats 1000000 in
set_option maxRecDepth 4000 in
theorem sg_X12_visit_72 {E : HEn} {d : Nat} {Q : Option Value → HIh → Prop} {I : HIh} {x1 : Int32} {x2 : Int32} {s0 : Int32}
    (k1 : x1 = (-1) → Q (some (.int (100000 + s0))) (setI I 88 (upd (I 88) 30 ((I 88 30) + 1))))
    (k2 : ¬ x1 = (-1) → HCall E me_X12_throwsOne (d + 2) [.ref 87, .int 0, .int x2, .int x1] I (fun v9 J => HGo E (mF E (d + 3) Q) me_X12_visit 85 [(0, .ref 87), (3, .int s0)] (v9.toList ++ []) J))
    : HGo E (mF E (d + 3) Q) me_X12_visit 72 [(0, .ref 87), (1, .int x1), (2, .int x2)] [.int s0] I := by
  refine h_istore_n (L' := [(3, .int s0), (0, .ref 87), (1, .int x1), (2, .int x2)]) dX12_visit_72 rfl (by decide) rfl ?_
  refine h_iload_n dX12_visit_73 rfl 2 rfl ?_
  refine h_iconst (v := (-1)) dX12_visit_74 (by decide) ?_
  refine h_icmp_eq (tgt := 85) dX12_visit_75 (by decide) (fun c1 => ?_) (fun c1 => ?_)
  ·
    refine h_aload_n dX12_visit_85 rfl 1 rfl ?_
    refine gf_10_0 dX12_visit_86 hl_X12_7 nl_87 zk_87 zp_87_0 ?_
    refine h_bipush (v := 30) dX12_visit_89 (by decide) ?_
    refine h_dup2 dX12_visit_91 rfl rfl ?_
    refine h_iald dX12_visit_92 nl_88 zk_88 (vp_lit (by rw [zn_88]; decide)) ?_
    refine h_iconst (v := 1) dX12_visit_93 (by decide) ?_
    refine h_iadd dX12_visit_94 ?_
    refine h_iast dX12_visit_95 nl_88 zk_88 (vp_lit (by rw [zn_88]; decide)) ?_
    refine h_ldc dX12_visit_96 wt_1051 rfl ?_
    refine h_iload_n dX12_visit_98 rfl 0 rfl ?_
    refine h_iadd dX12_visit_99 ?_
    exact h_iret dX12_visit_100 rfl (k1 c1)
  ·
    refine h_aload_n dX12_visit_78 rfl 1 rfl ?_
    refine h_iconst (v := 0) dX12_visit_79 (by decide) ?_
    refine h_iload_n dX12_visit_80 rfl 3 rfl ?_
    refine h_iload_n dX12_visit_81 rfl 2 rfl ?_
    refine h_pick [1, 0] [(0, .ref 87), (3, .int s0)] rfl ?_
    refine h_invV (As := [.int 0, .int x2, .int x1]) (st := []) dX12_visit_82 lk_X12_206 (h_room (by decide)) nl_87 zk_87 (by decide) rfl rfl rfl (Nat.le_of_ble_eq_true rfl) ?_
    exact k2 c1
set_option maxHeartbeats 1000000 in
set_option maxRecDepth 4000 in
theorem sg_X12_visit_85 {E : HEn} {d : Nat} {Q : Option Value → HIh → Prop} {I : HIh} {x3 : Int32}
    (k1 : Q (some (.int (100000 + x3))) (setI I 88 (upd (I 88) 30 ((I 88 30) + 1))))
    : HGo E (mF E (d + 3) Q) me_X12_visit 85 [(0, .ref 87), (3, .int x3)] [] I := by
  refine h_aload_n dX12_visit_85 rfl 0 rfl ?_
  refine gf_10_0 dX12_visit_86 hl_X12_7 nl_87 zk_87 zp_87_0 ?_
  refine h_bipush (v := 30) dX12_visit_89 (by decide) ?_
  refine h_dup2 dX12_visit_91 rfl rfl ?_
  refine h_iald dX12_visit_92 nl_88 zk_88 (vp_lit (by rw [zn_88]; decide)) ?_
  refine h_iconst (v := 1) dX12_visit_93 (by decide) ?_
  refine h_iadd dX12_visit_94 ?_
  refine h_iast dX12_visit_95 nl_88 zk_88 (vp_lit (by rw [zn_88]; decide)) ?_
  refine h_ldc dX12_visit_96 wt_1051 rfl ?_
  refine h_iload_n dX12_visit_98 rfl 1 rfl ?_
  refine h_iadd dX12_visit_99 ?_
  exact h_iret dX12_visit_100 rfl (k1)
set_option maxHeartbeats 1000000 in
set_option maxRecDepth 4000 in
theorem sg_X12_visit_51 {E : HEn} {d : Nat} {Q : Option Value → HIh → Prop} {I : HIh} {x1 : Int32} {x2 : Int32} {s0 : Int32}
    (k1 : ¬ s0 = 0 → ¬ x1 = (-1) → HCall E me_X12_gainOf (d + 2) [.ref 87, .int 0, .int x1] I (fun v9 J => HGo E (mF E (d + 3) Q) me_X12_visit 72 [(0, .ref 87), (1, .int x1), (2, .int x2)] (v9.toList ++ []) J))
    (k2 : ¬ s0 = 0 → x1 = (-1) → x1 = (-1) → Q (some (.int (100000 + 0))) (setI I 88 (upd (I 88) 30 ((I 88 30) + 1))))
    (k3 : ¬ s0 = 0 → x1 = (-1) → ¬ x1 = (-1) → HCall E me_X12_throwsOne (d + 2) [.ref 87, .int 0, .int x2, .int x1] I (fun v9 J => HGo E (mF E (d + 3) Q) me_X12_visit 85 [(0, .ref 87), (3, .int 0)] (v9.toList ++ []) J))
    (k4 : s0 = 0 → Q (some (.int (-4))) I)
    : HGo E (mF E (d + 3) Q) me_X12_visit 51 [(0, .ref 87), (1, .int x1), (2, .int x2)] [.int s0] I := by
  refine h_if_ne (tgt := 57) dX12_visit_51 (by decide) (fun c1 => ?_) (fun c1 => ?_)
  ·
    refine h_iload_n dX12_visit_57 rfl 1 rfl ?_
    refine h_iconst (v := (-1)) dX12_visit_58 (by decide) ?_
    refine h_icmp_ne (tgt := 66) dX12_visit_59 (by decide) (fun c2 => ?_) (fun c2 => ?_)
    ·
      refine h_aload_n dX12_visit_66 rfl 0 rfl ?_
      refine h_iconst (v := 0) dX12_visit_67 (by decide) ?_
      refine h_iload_n dX12_visit_68 rfl 1 rfl ?_
      refine h_invV (As := [.int 0, .int x1]) (st := []) dX12_visit_69 lk_X12_200 (h_room (by decide)) nl_87 zk_87 (by decide) rfl rfl rfl (Nat.le_of_ble_eq_true rfl) ?_
      exact k1 c1 c2
    ·
      refine h_iconst (v := 0) dX12_visit_62 (by decide) ?_
      refine h_goto (tgt := 72) dX12_visit_63 (by decide) ?_
      refine h_istore_n (L' := [(3, .int 0), (0, .ref 87), (1, .int x1), (2, .int x2)]) dX12_visit_72 rfl (by decide) rfl ?_
      refine h_iload_n dX12_visit_73 rfl 2 rfl ?_
      refine h_iconst (v := (-1)) dX12_visit_74 (by decide) ?_
      refine h_icmp_eq (tgt := 85) dX12_visit_75 (by decide) (fun c3 => ?_) (fun c3 => ?_)
      ·
        refine h_aload_n dX12_visit_85 rfl 1 rfl ?_
        refine gf_10_0 dX12_visit_86 hl_X12_7 nl_87 zk_87 zp_87_0 ?_
        refine h_bipush (v := 30) dX12_visit_89 (by decide) ?_
        refine h_dup2 dX12_visit_91 rfl rfl ?_
        refine h_iald dX12_visit_92 nl_88 zk_88 (vp_lit (by rw [zn_88]; decide)) ?_
        refine h_iconst (v := 1) dX12_visit_93 (by decide) ?_
        refine h_iadd dX12_visit_94 ?_
        refine h_iast dX12_visit_95 nl_88 zk_88 (vp_lit (by rw [zn_88]; decide)) ?_
        refine h_ldc dX12_visit_96 wt_1051 rfl ?_
        refine h_iload_n dX12_visit_98 rfl 0 rfl ?_
        refine h_iadd dX12_visit_99 ?_
        exact h_iret dX12_visit_100 rfl (k2 c1 c2 c3)
      ·
        refine h_aload_n dX12_visit_78 rfl 1 rfl ?_
        refine h_iconst (v := 0) dX12_visit_79 (by decide) ?_
        refine h_iload_n dX12_visit_80 rfl 3 rfl ?_
        refine h_iload_n dX12_visit_81 rfl 2 rfl ?_
        refine h_pick [1, 0] [(0, .ref 87), (3, .int 0)] rfl ?_
        refine h_invV (As := [.int 0, .int x2, .int x1]) (st := []) dX12_visit_82 lk_X12_206 (h_room (by decide)) nl_87 zk_87 (by decide) rfl rfl rfl (Nat.le_of_ble_eq_true rfl) ?_
        exact k3 c1 c2 c3
  ·
    refine h_bipush (v := (-4)) dX12_visit_54 (by decide) ?_
    exact h_iret dX12_visit_56 rfl (k4 c1)
set_option maxHeartbeats 1000000 in
set_option maxRecDepth 4000 in
theorem sg_X12_go_0 {E : HEn} {d : Nat} {Q : Option Value → HIh → Prop} {I : HIh} {a : Int32}
    (k1 : (1 : Int64) ≤ a.toInt64 → (a.toInt64 : Int64) ≤ 24 → HGo E (mF E (d + 5) Q) me_X12_go 17 [(0, .ref 87), (1, .int a), (2, .int 0)] [] I)
    (k2 : ¬ ((1 : Int64) ≤ a.toInt64 ∧ (a.toInt64 : Int64) ≤ 24) → Q (some (.int (-3))) I)
    : HGo E (mF E (d + 5) Q) me_X12_go 0 [(0, .ref 87), (1, .int a)] [] I := by
  refine h_iload_n dX12_go_0 rfl 1 rfl ?_
  refine h_i2l dX12_go_1 ?_
  refine h_lconst (v := 1) dX12_go_2 (by decide) ?_
  refine h_ldc2 dX12_go_3 wt_1068 rfl ?_
  refine h_invS (As := [.long a.toInt64, .long 1, .long 24]) (st := []) dX12_go_6 lk_X12_62 (h_room (by decide)) rfl rfl (Nat.le_of_ble_eq_true rfl) ?_
  refine c_X12_in (fun c1 c2 => ?_) (fun c3 => ?_)
  ·
    refine h_if_ne (tgt := 15) dX12_go_9 (by decide) (fun _ => ?_) (fun c => absurd c (by decide))
    refine h_iconst (v := 0) dX12_go_15 (by decide) ?_
    refine h_istore_n (L' := [(2, .int 0), (0, .ref 87), (1, .int a)]) dX12_go_16 rfl (by decide) rfl ?_
    refine h_pick [1, 2, 0] [(0, .ref 87), (1, .int a), (2, .int 0)] rfl ?_
    exact k1 c1 c2
  ·
    refine h_if_ne (tgt := 15) dX12_go_9 (by decide) (fun c => absurd c (by decide)) (fun _ => ?_)
    refine h_bipush (v := (-3)) dX12_go_12 (by decide) ?_
    exact h_iret dX12_go_14 rfl (k2 c3)
set_option maxHeartbeats 1000000 in
set_option maxRecDepth 4000 in
theorem sg_X12_go_17 {E : HEn} {d : Nat} {Q : Option Value → HIh → Prop} {I : HIh} {x1 : Int32} {x2 : Int32}
    (k1 : x1 ≤ x2 → Q (some (.int (I 88 30))) I)
    (k2 : ¬ x1 ≤ x2 → (I 87 13) ≤ (I 88 30) → Q (some (.int (I 88 30))) I)
    (k3 : ¬ x1 ≤ x2 → ¬ (I 87 13) ≤ (I 88 30) → vp_in (I 88 30) 24)
    (k4 : ¬ x1 ≤ x2 → ¬ (I 87 13) ≤ (I 88 30) → HCall E me_X12_visitsBy (d + 4) [.ref 87, .int 0, .int (I 96 (I 88 30).toNatClampNeg)] I (fun v9 J => HGo E (mF E (d + 5) Q) me_X12_go 53 [(0, .ref 87), (1, .int x1), (2, .int x2)] (v9.toList ++ []) J))
    : HGo E (mF E (d + 5) Q) me_X12_go 17 [(0, .ref 87), (1, .int x1), (2, .int x2)] [] I := by
  refine h_iload_n dX12_go_17 rfl 2 rfl ?_
  refine h_iload_n dX12_go_18 rfl 1 rfl ?_
  refine h_icmp_ge (tgt := 71) dX12_go_19 (by decide) (fun c1 => ?_) (fun c1 => ?_)
  ·
    refine h_aload_n dX12_go_71 rfl 0 rfl ?_
    refine gf_10_0 dX12_go_72 hl_X12_7 nl_87 zk_87 zp_87_0 ?_
    refine h_bipush (v := 30) dX12_go_75 (by decide) ?_
    refine h_iald dX12_go_77 nl_88 zk_88 (vp_lit (by rw [zn_88]; decide)) ?_
    exact h_iret dX12_go_78 rfl (k1 c1)
  ·
    refine h_aload_n dX12_go_22 rfl 0 rfl ?_
    refine gf_10_0 dX12_go_23 hl_X12_7 nl_87 zk_87 zp_87_0 ?_
    refine h_bipush (v := 30) dX12_go_26 (by decide) ?_
    refine h_iald dX12_go_28 nl_88 zk_88 (vp_lit (by rw [zn_88]; decide)) ?_
    refine h_aload_n dX12_go_29 rfl 0 rfl ?_
    refine gf_10_13 dX12_go_30 hl_X12_147 nl_87 zk_87 ?_
    refine h_icmp_ge (tgt := 71) dX12_go_33 (by decide) (fun c2 => ?_) (fun c2 => ?_)
    ·
      refine h_aload_n dX12_go_71 rfl 0 rfl ?_
      refine gf_10_0 dX12_go_72 hl_X12_7 nl_87 zk_87 zp_87_0 ?_
      refine h_bipush (v := 30) dX12_go_75 (by decide) ?_
      refine h_iald dX12_go_77 nl_88 zk_88 (vp_lit (by rw [zn_88]; decide)) ?_
      exact h_iret dX12_go_78 rfl (k2 c1 c2)
    ·
      refine h_aload_n dX12_go_36 rfl 0 rfl ?_
      refine h_iconst (v := 0) dX12_go_37 (by decide) ?_
      refine h_aload_n dX12_go_38 rfl 0 rfl ?_
      refine gf_10_12 dX12_go_39 hl_X12_39 nl_87 zk_87 zp_87_12 ?_
      refine h_aload_n dX12_go_42 rfl 0 rfl ?_
      refine gf_10_0 dX12_go_43 hl_X12_7 nl_87 zk_87 zp_87_0 ?_
      refine h_bipush (v := 30) dX12_go_46 (by decide) ?_
      refine h_iald dX12_go_48 nl_88 zk_88 (vp_lit (by rw [zn_88]; decide)) ?_
      refine h_iald dX12_go_49 nl_96 zk_96 (by rw [zn_96]; exact k3 c1 c2) ?_
      refine h_invV (As := [.int 0, .int (I 96 (I 88 30).toNatClampNeg)]) (st := []) dX12_go_50 lk_X12_218 (h_room (by decide)) nl_87 zk_87 (by decide) rfl rfl rfl (Nat.le_of_ble_eq_true rfl) ?_
      exact k4 c1 c2
set_option maxHeartbeats 1000000 in
set_option maxRecDepth 4000 in
theorem sg_X12_go_53 {E : HEn} {d : Nat} {Q : Option Value → HIh → Prop} {I : HIh} {x1 : Int32} {x2 : Int32} {s0 : Int32}
    (k1 : HGo E (mF E (d + 5) Q) me_X12_go 17 [(0, .ref 87), (1, .int x1), (2, .int (x2 + 1))] [] (setI I 88 (upd (I 88) 30 ((I 88 30) + 1))))
    : HGo E (mF E (d + 5) Q) me_X12_go 53 [(0, .ref 87), (1, .int x1), (2, .int x2)] [.int s0] I := by
  refine h_pop dX12_go_53 rfl ?_
  refine h_aload_n dX12_go_54 rfl 0 rfl ?_
  refine gf_10_0 dX12_go_55 hl_X12_7 nl_87 zk_87 zp_87_0 ?_
  refine h_bipush (v := 30) dX12_go_58 (by decide) ?_
  refine h_dup2 dX12_go_60 rfl rfl ?_
  refine h_iald dX12_go_61 nl_88 zk_88 (vp_lit (by rw [zn_88]; decide)) ?_
  refine h_iconst (v := 1) dX12_go_62 (by decide) ?_
  refine h_iadd dX12_go_63 ?_
  refine h_iast dX12_go_64 nl_88 zk_88 (vp_lit (by rw [zn_88]; decide)) ?_
  refine h_iinc (v := (x2 + 1)) (L' := [(2, .int (x2 + 1)), (0, .ref 87), (1, .int x1)]) dX12_go_65 2 rfl rfl (by decide) rfl ?_
  refine h_goto (tgt := 17) dX12_go_68 (by decide) ?_
  refine h_pick [1, 2, 0] [(0, .ref 87), (1, .int x1), (2, .int (x2 + 1))] rfl ?_
  exact k1
set_option maxHeartbeats 1000000 in
set_option maxRecDepth 4000 in
theorem sg_X12_copy_0 {E : HEn} {d : Nat} {Q : Option Value → HIh → Prop} {I : HIh} {a : Int32} {b : Int32}
    (k1 : HGo E (mF E (d + 1) Q) me_X12_copy 2 [(0, .ref 87), (1, .int a), (2, .int b), (3, .int 0)] [] I)
    : HGo E (mF E (d + 1) Q) me_X12_copy 0 [(0, .ref 87), (1, .int a), (2, .int b)] [] I := by
  refine h_iconst (v := 0) dX12_copy_0 (by decide) ?_
  refine h_istore_n (L' := [(3, .int 0), (0, .ref 87), (1, .int a), (2, .int b)]) dX12_copy_1 rfl (by decide) rfl ?_
  refine h_pick [1, 2, 3, 0] [(0, .ref 87), (1, .int a), (2, .int b), (3, .int 0)] rfl ?_
  exact k1
set_option maxHeartbeats 1000000 in
set_option maxRecDepth 4000 in
theorem sg_X12_copy_2 {E : HEn} {d : Nat} {Q : Option Value → HIh → Prop} {I : HIh} {x1 : Int32} {x2 : Int32} {x3 : Int32}
    (k1 : 31 ≤ x3 → Q none I)
    (k2 : ¬ 31 ≤ x3 → vp_in ((31 * x1) + x3) 341)
    (k3 : ¬ 31 ≤ x3 → vp_in ((31 * x2) + x3) 341)
    (k4 : ¬ 31 ≤ x3 → HGo E (mF E (d + 1) Q) me_X12_copy 2 [(0, .ref 87), (1, .int x1), (2, .int x2), (3, .int (x3 + 1))] [] (setI I 88 (upd (I 88) ((31 * x2) + x3).toNatClampNeg (I 88 ((31 * x1) + x3).toNatClampNeg))))
    : HGo E (mF E (d + 1) Q) me_X12_copy 2 [(0, .ref 87), (1, .int x1), (2, .int x2), (3, .int x3)] [] I := by
  refine h_iload_n dX12_copy_2 rfl 3 rfl ?_
  refine h_bipush (v := 31) dX12_copy_3 (by decide) ?_
  refine h_icmp_ge (tgt := 36) dX12_copy_5 (by decide) (fun c1 => ?_) (fun c1 => ?_)
  ·
    exact h_vret dX12_copy_36 rfl (k1 c1)
  ·
    refine h_aload_n dX12_copy_8 rfl 0 rfl ?_
    refine gf_10_0 dX12_copy_9 hl_X12_7 nl_87 zk_87 zp_87_0 ?_
    refine h_bipush (v := 31) dX12_copy_12 (by decide) ?_
    refine h_iload_n dX12_copy_14 rfl 2 rfl ?_
    refine h_imul dX12_copy_15 ?_
    refine h_iload_n dX12_copy_16 rfl 3 rfl ?_
    refine h_iadd dX12_copy_17 ?_
    refine h_aload_n dX12_copy_18 rfl 0 rfl ?_
    refine gf_10_0 dX12_copy_19 hl_X12_7 nl_87 zk_87 zp_87_0 ?_
    refine h_bipush (v := 31) dX12_copy_22 (by decide) ?_
    refine h_iload_n dX12_copy_24 rfl 1 rfl ?_
    refine h_imul dX12_copy_25 ?_
    refine h_iload_n dX12_copy_26 rfl 3 rfl ?_
    refine h_iadd dX12_copy_27 ?_
    refine h_iald dX12_copy_28 nl_88 zk_88 (by rw [zn_88]; exact k2 c1) ?_
    refine h_iast dX12_copy_29 nl_88 zk_88 (by rw [zn_88]; exact k3 c1) ?_
    refine h_iinc (v := (x3 + 1)) (L' := [(3, .int (x3 + 1)), (0, .ref 87), (1, .int x1), (2, .int x2)]) dX12_copy_30 3 rfl rfl (by decide) rfl ?_
    refine h_goto (tgt := 2) dX12_copy_33 (by decide) ?_
    refine h_pick [1, 2, 3, 0] [(0, .ref 87), (1, .int x1), (2, .int x2), (3, .int (x3 + 1))] rfl ?_
    exact k4 c1
set_option maxHeartbeats 1000000 in
set_option maxRecDepth 4000 in
theorem sg_X12_powerOf_0 {E : HEn} {d : Nat} {Q : Option Value → HIh → Prop} {I : HIh} {a : Int32}
    (k1 : HGo E (mF E (d + 1) Q) me_X12_powerOf 4 [(0, .int a), (1, .int 1), (2, .int 0)] [] I)
    : HGo E (mF E (d + 1) Q) me_X12_powerOf 0 [(0, .int a)] [] I := by
  refine h_iconst (v := 1) dX12_powerOf_0 (by decide) ?_
  refine h_istore_n (L' := [(1, .int 1), (0, .int a)]) dX12_powerOf_1 rfl (by decide) rfl ?_
  refine h_iconst (v := 0) dX12_powerOf_2 (by decide) ?_
  refine h_istore_n (L' := [(2, .int 0), (1, .int 1), (0, .int a)]) dX12_powerOf_3 rfl (by decide) rfl ?_
  refine h_pick [2, 1, 0] [(0, .int a), (1, .int 1), (2, .int 0)] rfl ?_
  exact k1
set_option maxHeartbeats 1000000 in
set_option maxRecDepth 4000 in
theorem sg_X12_powerOf_4 {E : HEn} {d : Nat} {Q : Option Value → HIh → Prop} {I : HIh} {x0 : Int32} {x1 : Int32} {x2 : Int32}
    (k1 : x0 ≤ x2 → Q (some (.int x1)) I)
    (k2 : ¬ x0 ≤ x2 → HGo E (mF E (d + 1) Q) me_X12_powerOf 4 [(0, .int x0), (1, .int (x1 * 7)), (2, .int (x2 + 1))] [] I)
    : HGo E (mF E (d + 1) Q) me_X12_powerOf 4 [(0, .int x0), (1, .int x1), (2, .int x2)] [] I := by
  refine h_iload_n dX12_powerOf_4 rfl 2 rfl ?_
  refine h_iload_n dX12_powerOf_5 rfl 0 rfl ?_
  refine h_icmp_ge (tgt := 20) dX12_powerOf_6 (by decide) (fun c1 => ?_) (fun c1 => ?_)
  ·
    refine h_iload_n dX12_powerOf_20 rfl 1 rfl ?_
    exact h_iret dX12_powerOf_21 rfl (k1 c1)
  ·
    refine h_iload_n dX12_powerOf_9 rfl 1 rfl ?_
    refine h_bipush (v := 7) dX12_powerOf_10 (by decide) ?_
    refine h_imul dX12_powerOf_12 ?_
    refine h_istore_n (L' := [(1, .int (x1 * 7)), (0, .int x0), (2, .int x2)]) dX12_powerOf_13 rfl (by decide) rfl ?_
    refine h_iinc (v := (x2 + 1)) (L' := [(2, .int (x2 + 1)), (1, .int (x1 * 7)), (0, .int x0)]) dX12_powerOf_14 2 rfl rfl (by decide) rfl ?_
    refine h_goto (tgt := 4) dX12_powerOf_17 (by decide) ?_
    refine h_pick [2, 1, 0] [(0, .int x0), (1, .int (x1 * 7)), (2, .int (x2 + 1))] rfl ?_
    exact k2 c1
