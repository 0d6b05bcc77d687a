set_option maxHeartbeats 1000000 in
set_option maxRecDepth 4000 in
theorem sg_X11_write_0 {E : HEn} {d : Nat} {Q : Option Value → HIh → Prop} {I : HIh} {a : Int64} {b : Int32}
    (k1 : b < 1 → Q (some (.int (-3))) I)
    (k2 : ¬ b < 1 → b ≤ 8 → ((I 19 2) + b) ≤ 200 → HGo E (mF E (d + 2) Q) me_X11_write 35 [(0, .ref 0), (1, .long a), (3, .int b), (4, .int 0)] [] I)
    (k3 : ¬ b < 1 → b ≤ 8 → ¬ ((I 19 2) + b) ≤ 200 → Q (some (.int (-5))) I)
    (k4 : ¬ b < 1 → ¬ b ≤ 8 → Q (some (.int (-3))) I)
    : HGo E (mF E (d + 2) Q) me_X11_write 0 [(0, .ref 0), (1, .long a), (3, .int b)] [] I := by
  refine h_iload_n dX11_write_0 rfl 2 rfl ?_
  refine h_iconst (v := 1) dX11_write_1 (by decide) ?_
  refine h_icmp_lt (tgt := 11) dX11_write_2 (by decide) (fun c1 => ?_) (fun c1 => ?_)
  ·
    refine h_bipush (v := (-3)) dX11_write_11 (by decide) ?_
    exact h_iret dX11_write_13 rfl (k1 c1)
  ·
    refine h_iload_n dX11_write_5 rfl 2 rfl ?_
    refine h_bipush (v := 8) dX11_write_6 (by decide) ?_
    refine h_icmp_le (tgt := 14) dX11_write_8 (by decide) (fun c2 => ?_) (fun c2 => ?_)
    ·
      refine h_aload_n dX11_write_14 rfl 0 rfl ?_
      refine gf_9_3 dX11_write_15 hl_X11_30 nl_0 zk_0 zp_0_3 ?_
      refine gf_6_2 dX11_write_18 hl_X11_50 nl_19 zk_19 ?_
      refine h_iload_n dX11_write_21 rfl 2 rfl ?_
      refine h_iadd dX11_write_22 ?_
      refine h_sipush (v := 200) dX11_write_23 (by decide) ?_
      refine h_icmp_le (tgt := 32) dX11_write_26 (by decide) (fun c3 => ?_) (fun c3 => ?_)
      ·
        refine h_iconst (v := 0) dX11_write_32 (by decide) ?_
        refine h_istore (L' := [(4, .int 0), (0, .ref 0), (1, .long a), (3, .int b)]) dX11_write_33 (by decide) rfl ?_
        refine h_pick [1, 2, 3, 0] [(0, .ref 0), (1, .long a), (3, .int b), (4, .int 0)] rfl ?_
        exact k2 c1 c2 c3
      ·
        refine h_bipush (v := (-5)) dX11_write_29 (by decide) ?_
        exact h_iret dX11_write_31 rfl (k3 c1 c2 c3)
    ·
      refine h_bipush (v := (-3)) dX11_write_11 (by decide) ?_
      exact h_iret dX11_write_13 rfl (k4 c1 c2)
set_option maxHeartbeats 1000000 in
set_option maxRecDepth 4000 in
theorem sg_X11_write_35 {E : HEn} {d : Nat} {Q : Option Value → HIh → Prop} {I : HIh} {x1 : Int64} {x3 : Int32} {x4 : Int32}
    (k1 : x3 ≤ x4 → Q (some (.int (I 19 2))) I)
    (k2 : ¬ x3 ≤ x4 → HCall E me_X7_append (d + 1) [.ref 19, .int (((x1 >>> ((8 * x4).toInt64 &&& 63)) &&& 255).toInt32)] I (fun v9 J => HGo E (mF E (d + 2) Q) me_X11_write 60 [(0, .ref 0), (1, .long x1), (3, .int x3), (4, .int x4)] (v9.toList ++ []) J))
    : HGo E (mF E (d + 2) Q) me_X11_write 35 [(0, .ref 0), (1, .long x1), (3, .int x3), (4, .int x4)] [] I := by
  refine h_iload dX11_write_35 3 rfl ?_
  refine h_iload_n dX11_write_37 rfl 2 rfl ?_
  refine h_icmp_ge (tgt := 66) dX11_write_38 (by decide) (fun c1 => ?_) (fun c1 => ?_)
  ·
    refine h_aload_n dX11_write_66 rfl 0 rfl ?_
    refine gf_9_3 dX11_write_67 hl_X11_30 nl_0 zk_0 zp_0_3 ?_
    refine gf_6_2 dX11_write_70 hl_X11_50 nl_19 zk_19 ?_
    exact h_iret dX11_write_73 rfl (k1 c1)
  ·
    refine h_aload_n dX11_write_41 rfl 0 rfl ?_
    refine gf_9_3 dX11_write_42 hl_X11_30 nl_0 zk_0 zp_0_3 ?_
    refine h_lload_n dX11_write_45 rfl 1 rfl ?_
    refine h_bipush (v := 8) dX11_write_46 (by decide) ?_
    refine h_iload dX11_write_48 3 rfl ?_
    refine h_imul dX11_write_50 ?_
    refine h_lshr dX11_write_51 ?_
    refine h_ldc2 dX11_write_52 wt_274 rfl ?_
    refine h_land dX11_write_55 ?_
    refine h_l2i dX11_write_56 ?_
    refine h_invV (As := [.int (((x1 >>> ((8 * x4).toInt64 &&& 63)) &&& 255).toInt32)]) (st := []) dX11_write_57 lk_X11_56 (h_room (by decide)) nl_19 zk_19 (by decide) rfl rfl rfl (Nat.le_of_ble_eq_true rfl) ?_
    exact k2 c1
set_option maxHeartbeats 1000000 in
set_option maxRecDepth 4000 in
theorem sg_X11_write_60 {E : HEn} {d : Nat} {Q : Option Value → HIh → Prop} {I : HIh} {x1 : Int64} {x3 : Int32} {x4 : Int32}
    (k1 : HGo E (mF E (d + 2) Q) me_X11_write 35 [(0, .ref 0), (1, .long x1), (3, .int x3), (4, .int (x4 + 1))] [] I)
    : HGo E (mF E (d + 2) Q) me_X11_write 60 [(0, .ref 0), (1, .long x1), (3, .int x3), (4, .int x4)] [] I := by
  refine h_iinc (v := (x4 + 1)) (L' := [(4, .int (x4 + 1)), (0, .ref 0), (1, .long x1), (3, .int x3)]) dX11_write_60 3 rfl rfl (by decide) rfl ?_
  refine h_goto (tgt := 35) dX11_write_63 (by decide) ?_
  refine h_pick [1, 2, 3, 0] [(0, .ref 0), (1, .long x1), (3, .int x3), (4, .int (x4 + 1))] rfl ?_
  exact k1
set_option maxHeartbeats 1000000 in
set_option maxRecDepth 4000 in
theorem sg_X11_erase_0 {E : HEn} {d : Nat} {Q : Option Value → HIh → Prop} {I : HIh} 
    (k1 : Q (some (.int (I 19 2))) (setI I 19 (upd (I 19) 2 0)))
    : HGo E (mF E (d + 1) Q) me_X11_erase 0 [(0, .ref 0)] [] I := by
  refine h_aload_n dX11_erase_0 rfl 0 rfl ?_
  refine gf_9_3 dX11_erase_1 hl_X11_30 nl_0 zk_0 zp_0_3 ?_
  refine gf_6_2 dX11_erase_4 hl_X11_50 nl_19 zk_19 ?_
  refine h_istore_n (L' := [(1, .int (I 19 2)), (0, .ref 0)]) dX11_erase_7 rfl (by decide) rfl ?_
  refine h_aload_n dX11_erase_8 rfl 1 rfl ?_
  refine gf_9_3 dX11_erase_9 hl_X11_30 nl_0 zk_0 zp_0_3 ?_
  refine h_iconst (v := 0) dX11_erase_12 (by decide) ?_
  refine pf_6_2 dX11_erase_13 hl_X11_50 nl_19 zk_19 ?_
  refine h_iload_n dX11_erase_16 rfl 0 rfl ?_
  exact h_iret dX11_erase_17 rfl (k1)
set_option maxHeartbeats 1000000 in
set_option maxRecDepth 4000 in
theorem sg_X11_fault_0 {E : HEn} {d : Nat} {Q : Option Value → HIh → Prop} {I : HIh} 
    (k1 : HCall E me_X7_readOver (d + 6) [.ref 19, .ref 1] I (fun v9 J => HGo E (mF E (d + 7) Q) me_X11_fault 11 [] (v9.toList ++ []) J))
    : HGo E (mF E (d + 7) Q) me_X11_fault 0 [(0, .ref 0)] [] I := by
  refine h_aload_n dX11_fault_0 rfl 0 rfl ?_
  refine gf_9_3 dX11_fault_1 hl_X11_30 nl_0 zk_0 zp_0_3 ?_
  refine h_aload_n dX11_fault_4 rfl 0 rfl ?_
  refine gf_9_0 dX11_fault_5 hl_X11_10 nl_0 zk_0 zp_0_0 ?_
  refine h_pick [] [] rfl ?_
  refine h_invV (As := [.ref 1]) (st := []) dX11_fault_8 lk_X11_60 (h_room (by decide)) nl_19 zk_19 (by decide) rfl rfl rfl (Nat.le_of_ble_eq_true rfl) ?_
  exact k1
set_option maxHeartbeats 1000000 in
set_option maxRecDepth 4000 in
theorem sg_X11_fault_11 {E : HEn} {d : Nat} {Q : Option Value → HIh → Prop} {I : HIh} {s0 : Int32}
    (k1 : Q (some (.int s0)) I)
    : HGo E (mF E (d + 7) Q) me_X11_fault 11 [] [.int s0] I := by
  exact h_iret dX11_fault_11 rfl (k1)
set_option maxHeartbeats 1000000 in
set_option maxRecDepth 4000 in
theorem sg_X11_sunday_0 {E : HEn} {d : Nat} {Q : Option Value → HIh → Prop} {I : HIh} 
    (k1 : HCall E me_X7_readOver (d + 6) [.ref 19, .ref 1] I (fun v9 J => HGo E (mF E (d + 7) Q) me_X11_sunday 11 [(0, .ref 0)] (v9.toList ++ []) J))
    : HGo E (mF E (d + 7) Q) me_X11_sunday 0 [(0, .ref 0)] [] I := by
  refine h_aload_n dX11_sunday_0 rfl 0 rfl ?_
  refine gf_9_3 dX11_sunday_1 hl_X11_30 nl_0 zk_0 zp_0_3 ?_
  refine h_aload_n dX11_sunday_4 rfl 0 rfl ?_
  refine gf_9_0 dX11_sunday_5 hl_X11_10 nl_0 zk_0 zp_0_0 ?_
  refine h_invV (As := [.ref 1]) (st := []) dX11_sunday_8 lk_X11_60 (h_room (by decide)) nl_19 zk_19 (by decide) rfl rfl rfl (Nat.le_of_ble_eq_true rfl) ?_
  exact k1
set_option maxHeartbeats 1000000 in
set_option maxRecDepth 4000 in
theorem sg_X11_sunday_11 {E : HEn} {d : Nat} {Q : Option Value → HIh → Prop} {I : HIh} {s0 : Int32}
    (k1 : s0 = (-1) → HCall E me_X9_copyFrom (d + 6) [.ref 1, .ref 21] I (fun v9 J => HGo E (mF E (d + 7) Q) me_X11_sunday 32 [(0, .ref 0)] (v9.toList ++ []) J))
    (k2 : ¬ s0 = (-1) → Q (some (.int (-4))) I)
    : HGo E (mF E (d + 7) Q) me_X11_sunday 11 [(0, .ref 0)] [.int s0] I := by
  refine h_iconst (v := (-1)) dX11_sunday_11 (by decide) ?_
  refine h_icmp_eq (tgt := 18) dX11_sunday_12 (by decide) (fun c1 => ?_) (fun c1 => ?_)
  ·
    refine h_aload_n dX11_sunday_18 rfl 0 rfl ?_
    refine gf_9_0 dX11_sunday_19 hl_X11_10 nl_0 zk_0 zp_0_0 ?_
    refine h_aload_n dX11_sunday_22 rfl 0 rfl ?_
    refine gf_9_3 dX11_sunday_23 hl_X11_30 nl_0 zk_0 zp_0_3 ?_
    refine gf_6_1 dX11_sunday_26 hl_X11_64 nl_19 zk_19 zp_19_1 ?_
    refine h_invV (As := [.ref 21]) (st := []) dX11_sunday_29 lk_X11_67 (h_room (by decide)) nl_1 zk_1 (by decide) rfl rfl rfl (Nat.le_of_ble_eq_true rfl) ?_
    exact k1 c1
  ·
    refine h_bipush (v := (-4)) dX11_sunday_15 (by decide) ?_
    exact h_iret dX11_sunday_17 rfl (k2 c1)
set_option maxHeartbeats 1000000 in
set_option maxRecDepth 4000 in
theorem sg_X11_sunday_32 {E : HEn} {d : Nat} {Q : Option Value → HIh → Prop} {I : HIh} 
    (k1 : HCall E me_X4_copyFrom (d + 6) [.ref 12, .ref 10] I (fun v9 J => HGo E (mF E (d + 7) Q) me_X11_sunday 46 [(0, .ref 0)] (v9.toList ++ []) J))
    : HGo E (mF E (d + 7) Q) me_X11_sunday 32 [(0, .ref 0)] [] I := by
  refine h_aload_n dX11_sunday_32 rfl 0 rfl ?_
  refine gf_9_1 dX11_sunday_33 hl_X11_19 nl_0 zk_0 zp_0_1 ?_
  refine h_aload_n dX11_sunday_36 rfl 0 rfl ?_
  refine gf_9_0 dX11_sunday_37 hl_X11_10 nl_0 zk_0 zp_0_0 ?_
  refine gf_7_8 dX11_sunday_40 hl_X11_70 nl_1 zk_1 zp_1_8 ?_
  refine h_invV (As := [.ref 10]) (st := []) dX11_sunday_43 lk_X11_73 (h_room (by decide)) nl_12 zk_12 (by decide) rfl rfl rfl (Nat.le_of_ble_eq_true rfl) ?_
  exact k1
set_option maxHeartbeats 1000000 in
set_option maxRecDepth 4000 in
theorem sg_X11_sunday_46 {E : HEn} {d : Nat} {Q : Option Value → HIh → Prop} {I : HIh} 
    (k1 : HCall E me_X2_becomeStale (d + 6) [.ref 32] (setI (setI (setI I 19 (upd (I 19) 2 0)) 80 (upd ((setI I 19 (upd (I 19) 2 0)) 80) 6 0)) 0 (upd ((setI (setI I 19 (upd (I 19) 2 0)) 80 (upd ((setI I 19 (upd (I 19) 2 0)) 80) 6 0)) 0) 6 0)) (fun v9 J => HGo E (mF E (d + 7) Q) me_X11_sunday 74 [(0, .ref 0)] (v9.toList ++ []) J))
    : HGo E (mF E (d + 7) Q) me_X11_sunday 46 [(0, .ref 0)] [] I := by
  refine h_aload_n dX11_sunday_46 rfl 0 rfl ?_
  refine gf_9_3 dX11_sunday_47 hl_X11_30 nl_0 zk_0 zp_0_3 ?_
  refine h_iconst (v := 0) dX11_sunday_50 (by decide) ?_
  refine pf_6_2 dX11_sunday_51 hl_X11_50 nl_19 zk_19 ?_
  refine h_aload_n dX11_sunday_54 rfl 0 rfl ?_
  refine gf_9_5 dX11_sunday_55 hl_X11_46 nl_0 zk_0 zp_0_5 ?_
  refine h_iconst (v := 0) dX11_sunday_58 (by decide) ?_
  refine pf_5_6 dX11_sunday_59 hl_X11_76 nl_80 zk_80 ?_
  refine h_aload_n dX11_sunday_62 rfl 0 rfl ?_
  refine h_iconst (v := 0) dX11_sunday_63 (by decide) ?_
  refine pf_9_6 dX11_sunday_64 hl_X11_79 nl_0 zk_0 ?_
  refine h_aload_n dX11_sunday_67 rfl 0 rfl ?_
  refine gf_9_4 dX11_sunday_68 hl_X11_39 nl_0 zk_0 zp_0_4 ?_
  refine h_invV (As := []) (st := []) dX11_sunday_71 lk_X11_82 (h_room (by decide)) nl_32 zk_32 (by decide) rfl rfl rfl (Nat.le_of_ble_eq_true rfl) ?_
  exact k1
set_option maxHeartbeats 1000000 in
set_option maxRecDepth 4000 in
theorem sg_X11_sunday_74 {E : HEn} {d : Nat} {Q : Option Value → HIh → Prop} {I : HIh} 
    (k1 : Q (some (.int (I 19 3))) I)
    : HGo E (mF E (d + 7) Q) me_X11_sunday 74 [(0, .ref 0)] [] I := by
  refine h_aload_n dX11_sunday_74 rfl 0 rfl ?_
  refine gf_9_3 dX11_sunday_75 hl_X11_30 nl_0 zk_0 zp_0_3 ?_
  refine gf_6_3 dX11_sunday_78 hl_X11_85 nl_19 zk_19 ?_
  exact h_iret dX11_sunday_81 rfl (k1)
set_option maxHeartbeats 1000000 in
set_option maxRecDepth 4000 in
theorem sg_X11_coin_0 {E : HEn} {d : Nat} {Q : Option Value → HIh → Prop} {I : HIh} {a : Int32} {b : Int32}
    (k1 : (0 : Int32) ≤ a → a < I 1 9 → b < 0 → Q (some (.int (-3))) I)
    (k2 : (0 : Int32) ≤ a → a < I 1 9 → ¬ b < 0 → b ≤ 1 → ¬ b = 0 → HCall E me_X4_of (d + 1) [.ref 12, .int 4, .int a] I (fun v9 J => HGo E (mF E (d + 2) Q) me_X11_coin 50 [] (v9.toList ++ []) J))
    (k3 : (0 : Int32) ≤ a → a < I 1 9 → ¬ b < 0 → b ≤ 1 → b = 0 → HCall E me_X9_worthOf (d + 1) [.ref 1, .int a] I (fun v9 J => HGo E (mF E (d + 2) Q) me_X11_coin 38 [] (v9.toList ++ []) J))
    (k4 : (0 : Int32) ≤ a → a < I 1 9 → ¬ b < 0 → ¬ b ≤ 1 → Q (some (.int (-3))) I)
    (k5 : ¬ ((0 : Int32) ≤ a ∧ a < I 1 9) → Q (some (.int (-2))) I)
    : HGo E (mF E (d + 2) Q) me_X11_coin 0 [(0, .ref 0), (1, .int a), (2, .int b)] [] I := by
  refine h_aload_n dX11_coin_0 rfl 0 rfl ?_
  refine gf_9_0 dX11_coin_1 hl_X11_10 nl_0 zk_0 zp_0_0 ?_
  refine h_iload_n dX11_coin_4 rfl 1 rfl ?_
  refine h_invV (As := [.int a]) (st := []) dX11_coin_5 lk_X11_88 (h_room (by decide)) nl_1 zk_1 (by decide) rfl rfl rfl (Nat.le_of_ble_eq_true rfl) ?_
  refine c_X9_hasKind (fun c1 c2 => ?_) (fun c3 => ?_)
  ·
    refine h_if_ne (tgt := 14) dX11_coin_8 (by decide) (fun _ => ?_) (fun c => absurd c (by decide))
    refine h_iload_n dX11_coin_14 rfl 2 rfl ?_
    refine h_if_lt (tgt := 23) dX11_coin_15 (by decide) (fun c4 => ?_) (fun c4 => ?_)
    ·
      refine h_bipush (v := (-3)) dX11_coin_23 (by decide) ?_
      exact h_iret dX11_coin_25 rfl (k1 c1 c2 c4)
    ·
      refine h_iload_n dX11_coin_18 rfl 2 rfl ?_
      refine h_iconst (v := 1) dX11_coin_19 (by decide) ?_
      refine h_icmp_le (tgt := 26) dX11_coin_20 (by decide) (fun c5 => ?_) (fun c5 => ?_)
      ·
        refine h_iload_n dX11_coin_26 rfl 2 rfl ?_
        refine h_if_ne (tgt := 41) dX11_coin_27 (by decide) (fun c6 => ?_) (fun c6 => ?_)
        ·
          refine h_aload_n dX11_coin_41 rfl 0 rfl ?_
          refine gf_9_1 dX11_coin_42 hl_X11_19 nl_0 zk_0 zp_0_1 ?_
          refine h_iconst (v := 4) dX11_coin_45 (by decide) ?_
          refine h_iload_n dX11_coin_46 rfl 1 rfl ?_
          refine h_pick [] [] rfl ?_
          refine h_invV (As := [.int 4, .int a]) (st := []) dX11_coin_47 lk_X11_96 (h_room (by decide)) nl_12 zk_12 (by decide) rfl rfl rfl (Nat.le_of_ble_eq_true rfl) ?_
          exact k2 c1 c2 c4 c5 c6
        ·
          refine h_aload_n dX11_coin_30 rfl 0 rfl ?_
          refine gf_9_0 dX11_coin_31 hl_X11_10 nl_0 zk_0 zp_0_0 ?_
          refine h_iload_n dX11_coin_34 rfl 1 rfl ?_
          refine h_pick [] [] rfl ?_
          refine h_invV (As := [.int a]) (st := []) dX11_coin_35 lk_X11_92 (h_room (by decide)) nl_1 zk_1 (by decide) rfl rfl rfl (Nat.le_of_ble_eq_true rfl) ?_
          exact k3 c1 c2 c4 c5 c6
      ·
        refine h_bipush (v := (-3)) dX11_coin_23 (by decide) ?_
        exact h_iret dX11_coin_25 rfl (k4 c1 c2 c4 c5)
  ·
    refine h_if_ne (tgt := 14) dX11_coin_8 (by decide) (fun c => absurd c (by decide)) (fun _ => ?_)
    refine h_bipush (v := (-2)) dX11_coin_11 (by decide) ?_
    exact h_iret dX11_coin_13 rfl (k5 c3)
set_option maxHeartbeats 1000000 in
set_option maxRecDepth 4000 in
theorem sg_X11_coin_50 {E : HEn} {d : Nat} {Q : Option Value → HIh → Prop} {I : HIh} {s0 : Int32}
    (k1 : Q (some (.int s0)) I)
    : HGo E (mF E (d + 2) Q) me_X11_coin 50 [] [.int s0] I := by
  exact h_iret dX11_coin_50 rfl (k1)
set_option maxHeartbeats 1000000 in
set_option maxRecDepth 4000 in
theorem sg_X11_coin_38 {E : HEn} {d : Nat} {Q : Option Value → HIh → Prop} {I : HIh} {s0 : Int32}
    (k1 : Q (some (.int s0)) I)
    : HGo E (mF E (d + 2) Q) me_X11_coin 38 [] [.int s0] I := by
  refine h_goto (tgt := 50) dX11_coin_38 (by decide) ?_
  exact h_iret dX11_coin_50 rfl (k1)
set_option maxHeartbeats 1000000 in
set_option maxRecDepth 4000 in
theorem sg_X11_purse_0 {E : HEn} {d : Nat} {Q : Option Value → HIh → Prop} {I : HIh} {a : Int32} {b : Int32}
    (k1 : (0 : Int32) ≤ a → a < 4 → (0 : Int32) ≤ b → b < I 1 9 → HCall E me_X4_of (d + 1) [.ref 12, .int a, .int b] I (fun v9 J => HGo E (mF E (d + 2) Q) me_X11_purse 30 [] (v9.toList ++ []) J))
    (k2 : (0 : Int32) ≤ a → a < 4 → ¬ ((0 : Int32) ≤ b ∧ b < I 1 9) → Q (some (.int (-2))) I)
    (k3 : ¬ ((0 : Int32) ≤ a ∧ a < 4) → Q (some (.int (-2))) I)
    : HGo E (mF E (d + 2) Q) me_X11_purse 0 [(0, .ref 0), (1, .int a), (2, .int b)] [] I := by
  refine h_iload_n dX11_purse_0 rfl 1 rfl ?_
  refine h_invS (As := [.int a]) (st := []) dX11_purse_1 lk_X11_100 (h_room (by decide)) rfl rfl (Nat.le_of_ble_eq_true rfl) ?_
  refine c_X11_isPerson (fun c1 c2 => ?_) (fun c3 => ?_)
  ·
    refine h_if_eq (tgt := 18) dX11_purse_4 (by decide) (fun c => absurd c (by decide)) (fun _ => ?_)
    refine h_aload_n dX11_purse_7 rfl 0 rfl ?_
    refine gf_9_0 dX11_purse_8 hl_X11_10 nl_0 zk_0 zp_0_0 ?_
    refine h_iload_n dX11_purse_11 rfl 2 rfl ?_
    refine h_invV (As := [.int b]) (st := []) dX11_purse_12 lk_X11_88 (h_room (by decide)) nl_1 zk_1 (by decide) rfl rfl rfl (Nat.le_of_ble_eq_true rfl) ?_
    refine c_X9_hasKind (fun c4 c5 => ?_) (fun c6 => ?_)
    ·
      refine h_if_ne (tgt := 21) dX11_purse_15 (by decide) (fun _ => ?_) (fun c => absurd c (by decide))
      refine h_aload_n dX11_purse_21 rfl 0 rfl ?_
      refine gf_9_1 dX11_purse_22 hl_X11_19 nl_0 zk_0 zp_0_1 ?_
      refine h_iload_n dX11_purse_25 rfl 1 rfl ?_
      refine h_iload_n dX11_purse_26 rfl 2 rfl ?_
      refine h_pick [] [] rfl ?_
      refine h_invV (As := [.int a, .int b]) (st := []) dX11_purse_27 lk_X11_96 (h_room (by decide)) nl_12 zk_12 (by decide) rfl rfl rfl (Nat.le_of_ble_eq_true rfl) ?_
      exact k1 c1 c2 c4 c5
    ·
      refine h_if_ne (tgt := 21) dX11_purse_15 (by decide) (fun c => absurd c (by decide)) (fun _ => ?_)
      refine h_bipush (v := (-2)) dX11_purse_18 (by decide) ?_
      exact h_iret dX11_purse_20 rfl (k2 c1 c2 c6)
  ·
    refine h_if_eq (tgt := 18) dX11_purse_4 (by decide) (fun _ => ?_) (fun c => absurd c (by decide))
    refine h_bipush (v := (-2)) dX11_purse_18 (by decide) ?_
    exact h_iret dX11_purse_20 rfl (k3 c3)
set_option maxHeartbeats 1000000 in
set_option maxRecDepth 4000 in
theorem sg_X11_purse_30 {E : HEn} {d : Nat} {Q : Option Value → HIh → Prop} {I : HIh} {s0 : Int32}
    (k1 : Q (some (.int s0)) I)
    : HGo E (mF E (d + 2) Q) me_X11_purse 30 [] [.int s0] I := by
  exact h_iret dX11_purse_30 rfl (k1)
set_option maxHeartbeats 1000000 in
set_option maxRecDepth 4000 in
theorem sg_X11_come_0 {E : HEn} {d : Nat} {Q : Option Value → HIh → Prop} {I : HIh} {a : Int32}
    (k1 : 0 ≤ a → HCall E me_X9_visitor (d + 1) [.ref 1, .int a] I (fun v9 J => HGo E (mF E (d + 2) Q) me_X11_come 17 [] (v9.toList ++ []) J))
    (k2 : ¬ 0 ≤ a → Q (some (.int (-3))) I)
    : HGo E (mF E (d + 2) Q) me_X11_come 0 [(0, .ref 0), (1, .int a)] [] I := by
  refine h_iload_n dX11_come_0 rfl 1 rfl ?_
  refine h_if_ge (tgt := 9) dX11_come_1 (by decide) (fun c1 => ?_) (fun c1 => ?_)
  ·
    refine h_aload_n dX11_come_9 rfl 0 rfl ?_
    refine gf_9_0 dX11_come_10 hl_X11_10 nl_0 zk_0 zp_0_0 ?_
    refine h_iload_n dX11_come_13 rfl 1 rfl ?_
    refine h_pick [] [] rfl ?_
    refine h_invV (As := [.int a]) (st := []) dX11_come_14 lk_X11_132 (h_room (by decide)) nl_1 zk_1 (by decide) rfl rfl rfl (Nat.le_of_ble_eq_true rfl) ?_
    exact k1 c1
  ·
    refine h_bipush (v := (-3)) dX11_come_4 (by decide) ?_
    refine h_goto (tgt := 17) dX11_come_6 (by decide) ?_
    exact h_iret dX11_come_17 rfl (k2 c1)
set_option maxHeartbeats 1000000 in
set_option maxRecDepth 4000 in
theorem sg_X11_come_17 {E : HEn} {d : Nat} {Q : Option Value → HIh → Prop} {I : HIh} {s0 : Int32}
    (k1 : Q (some (.int s0)) I)
    : HGo E (mF E (d + 2) Q) me_X11_come 17 [] [.int s0] I := by
  exact h_iret dX11_come_17 rfl (k1)
set_option maxHeartbeats 1000000 in
set_option maxRecDepth 4000 in
theorem sg_X11_gain_0 {E : HEn} {d : Nat} {Q : Option Value → HIh → Prop} {I : HIh} {a : Int32} {b : Int32}
    (k1 : (0 : Int32) ≤ a → a < 4 → (0 : Int32) ≤ b → b < I 1 9 → HCall E me_X4_of (d + 2) [.ref 12, .int a, .int b] I (fun v9 J => HGo E (mF E (d + 3) Q) me_X11_gain 30 [(0, .ref 0), (2, .int b)] (v9.toList ++ []) J))
    (k2 : (0 : Int32) ≤ a → a < 4 → ¬ ((0 : Int32) ≤ b ∧ b < I 1 9) → Q (some (.int (-2))) I)
    (k3 : ¬ ((0 : Int32) ≤ a ∧ a < 4) → Q (some (.int (-2))) I)
    : HGo E (mF E (d + 3) Q) me_X11_gain 0 [(0, .ref 0), (1, .int a), (2, .int b)] [] I := by
  refine h_iload_n dX11_gain_0 rfl 1 rfl ?_
  refine h_invS (As := [.int a]) (st := []) dX11_gain_1 lk_X11_100 (h_room (by decide)) rfl rfl (Nat.le_of_ble_eq_true rfl) ?_
  refine c_X11_isPerson (fun c1 c2 => ?_) (fun c3 => ?_)
  ·
    refine h_if_eq (tgt := 18) dX11_gain_4 (by decide) (fun c => absurd c (by decide)) (fun _ => ?_)
    refine h_aload_n dX11_gain_7 rfl 0 rfl ?_
    refine gf_9_0 dX11_gain_8 hl_X11_10 nl_0 zk_0 zp_0_0 ?_
    refine h_iload_n dX11_gain_11 rfl 2 rfl ?_
    refine h_invV (As := [.int b]) (st := []) dX11_gain_12 lk_X11_88 (h_room (by decide)) nl_1 zk_1 (by decide) rfl rfl rfl (Nat.le_of_ble_eq_true rfl) ?_
    refine c_X9_hasKind (fun c4 c5 => ?_) (fun c6 => ?_)
    ·
      refine h_if_ne (tgt := 21) dX11_gain_15 (by decide) (fun _ => ?_) (fun c => absurd c (by decide))
      refine h_aload_n dX11_gain_21 rfl 0 rfl ?_
      refine gf_9_1 dX11_gain_22 hl_X11_19 nl_0 zk_0 zp_0_1 ?_
      refine h_iload_n dX11_gain_25 rfl 1 rfl ?_
      refine h_iload_n dX11_gain_26 rfl 2 rfl ?_
      refine h_pick [0, 2] [(0, .ref 0), (2, .int b)] rfl ?_
      refine h_invV (As := [.int a, .int b]) (st := []) dX11_gain_27 lk_X11_96 (h_room (by decide)) nl_12 zk_12 (by decide) rfl rfl rfl (Nat.le_of_ble_eq_true rfl) ?_
      exact k1 c1 c2 c4 c5
    ·
      refine h_if_ne (tgt := 21) dX11_gain_15 (by decide) (fun c => absurd c (by decide)) (fun _ => ?_)
      refine h_bipush (v := (-2)) dX11_gain_18 (by decide) ?_
      exact h_iret dX11_gain_20 rfl (k2 c1 c2 c6)
  ·
    refine h_if_eq (tgt := 18) dX11_gain_4 (by decide) (fun _ => ?_) (fun c => absurd c (by decide))
    refine h_bipush (v := (-2)) dX11_gain_18 (by decide) ?_
    exact h_iret dX11_gain_20 rfl (k3 c3)
set_option maxHeartbeats 1000000 in
set_option maxRecDepth 4000 in
theorem sg_X11_gain_30 {E : HEn} {d : Nat} {Q : Option Value → HIh → Prop} {I : HIh} {x2 : Int32} {s0 : Int32}
    (k1 : ¬ s0 = 0 → HCall E me_X9_gainOf (d + 2) [.ref 1, .ref 12, .int x2] I (fun v9 J => HGo E (mF E (d + 3) Q) me_X11_gain 48 [] (v9.toList ++ []) J))
    (k2 : s0 = 0 → Q (some (.int (-4))) I)
    : HGo E (mF E (d + 3) Q) me_X11_gain 30 [(0, .ref 0), (2, .int x2)] [.int s0] I := by
  refine h_if_ne (tgt := 36) dX11_gain_30 (by decide) (fun c1 => ?_) (fun c1 => ?_)
  ·
    refine h_aload_n dX11_gain_36 rfl 0 rfl ?_
    refine gf_9_0 dX11_gain_37 hl_X11_10 nl_0 zk_0 zp_0_0 ?_
    refine h_aload_n dX11_gain_40 rfl 0 rfl ?_
    refine gf_9_1 dX11_gain_41 hl_X11_19 nl_0 zk_0 zp_0_1 ?_
    refine h_iload_n dX11_gain_44 rfl 1 rfl ?_
    refine h_pick [] [] rfl ?_
    refine h_invV (As := [.ref 12, .int x2]) (st := []) dX11_gain_45 lk_X11_135 (h_room (by decide)) nl_1 zk_1 (by decide) rfl rfl rfl (Nat.le_of_ble_eq_true rfl) ?_
    exact k1 c1
  ·
    refine h_bipush (v := (-4)) dX11_gain_33 (by decide) ?_
    exact h_iret dX11_gain_35 rfl (k2 c1)
set_option maxHeartbeats 1000000 in
set_option maxRecDepth 4000 in
theorem sg_X11_gain_48 {E : HEn} {d : Nat} {Q : Option Value → HIh → Prop} {I : HIh} {s0 : Int32}
    (k1 : Q (some (.int (s0 + 100000))) I)
    : HGo E (mF E (d + 3) Q) me_X11_gain 48 [] [.int s0] I := by
  refine h_ldc dX11_gain_48 wt_600 rfl ?_
  refine h_iadd dX11_gain_50 ?_
  exact h_iret dX11_gain_51 rfl (k1)
set_option maxHeartbeats 1000000 in
set_option maxRecDepth 4000 in
theorem sg_X11_visit_0 {E : HEn} {d : Nat} {Q : Option Value → HIh → Prop} {I : HIh} {a : Int32}
    (k1 : a = (-1) → HCall E me_X9_visitor (d + 3) [.ref 1, .int (I 12 1)] I (fun v9 J => HGo E (mF E (d + 4) Q) me_X11_visit 33 [(0, .ref 0), (1, .int a)] (v9.toList ++ []) J))
    (k2 : ¬ a = (-1) → (0 : Int32) ≤ a → a < I 1 9 → HCall E me_X9_visitor (d + 3) [.ref 1, .int (I 12 1)] I (fun v9 J => HGo E (mF E (d + 4) Q) me_X11_visit 33 [(0, .ref 0), (1, .int a)] (v9.toList ++ []) J))
    (k3 : ¬ a = (-1) → ¬ ((0 : Int32) ≤ a ∧ a < I 1 9) → Q (some (.int (-2))) I)
    : HGo E (mF E (d + 4) Q) me_X11_visit 0 [(0, .ref 0), (1, .int a)] [] I := by
  refine h_iload_n dX11_visit_0 rfl 1 rfl ?_
  refine h_iconst (v := (-1)) dX11_visit_1 (by decide) ?_
  refine h_icmp_eq (tgt := 19) dX11_visit_2 (by decide) (fun c1 => ?_) (fun c1 => ?_)
  ·
    refine h_aload_n dX11_visit_19 rfl 0 rfl ?_
    refine gf_9_0 dX11_visit_20 hl_X11_10 nl_0 zk_0 zp_0_0 ?_
    refine h_aload_n dX11_visit_23 rfl 0 rfl ?_
    refine gf_9_1 dX11_visit_24 hl_X11_19 nl_0 zk_0 zp_0_1 ?_
    refine gf_3_1 dX11_visit_27 hl_X11_139 nl_12 zk_12 ?_
    refine h_invV (As := [.int (I 12 1)]) (st := []) dX11_visit_30 lk_X11_132 (h_room (by decide)) nl_1 zk_1 (by decide) rfl rfl rfl (Nat.le_of_ble_eq_true rfl) ?_
    exact k1 c1
  ·
    refine h_aload_n dX11_visit_5 rfl 0 rfl ?_
    refine gf_9_0 dX11_visit_6 hl_X11_10 nl_0 zk_0 zp_0_0 ?_
    refine h_iload_n dX11_visit_9 rfl 1 rfl ?_
    refine h_invV (As := [.int a]) (st := []) dX11_visit_10 lk_X11_88 (h_room (by decide)) nl_1 zk_1 (by decide) rfl rfl rfl (Nat.le_of_ble_eq_true rfl) ?_
    refine c_X9_hasKind (fun c2 c3 => ?_) (fun c4 => ?_)
    ·
      refine h_if_ne (tgt := 19) dX11_visit_13 (by decide) (fun _ => ?_) (fun c => absurd c (by decide))
      refine h_aload_n dX11_visit_19 rfl 0 rfl ?_
      refine gf_9_0 dX11_visit_20 hl_X11_10 nl_0 zk_0 zp_0_0 ?_
      refine h_aload_n dX11_visit_23 rfl 0 rfl ?_
      refine gf_9_1 dX11_visit_24 hl_X11_19 nl_0 zk_0 zp_0_1 ?_
      refine gf_3_1 dX11_visit_27 hl_X11_139 nl_12 zk_12 ?_
      refine h_invV (As := [.int (I 12 1)]) (st := []) dX11_visit_30 lk_X11_132 (h_room (by decide)) nl_1 zk_1 (by decide) rfl rfl rfl (Nat.le_of_ble_eq_true rfl) ?_
      exact k2 c1 c2 c3
    ·
      refine h_if_ne (tgt := 19) dX11_visit_13 (by decide) (fun c => absurd c (by decide)) (fun _ => ?_)
      refine h_bipush (v := (-2)) dX11_visit_16 (by decide) ?_
      exact h_iret dX11_visit_18 rfl (k3 c1 c4)
set_option maxHeartbeats 1000000 in
set_option maxRecDepth 4000 in
theorem sg_X11_visit_33 {E : HEn} {d : Nat} {Q : Option Value → HIh → Prop} {I : HIh} {x1 : Int32} {s0 : Int32}
    (k1 : s0 = (-1) → Q (some (.int (-4))) I)
    (k2 : ¬ s0 = (-1) → x1 = (-1) → ¬ x1 = (-1) → HCall E me_X9_gainOf (d + 3) [.ref 1, .ref 12, .int x1] I (fun v9 J => HGo E (mF E (d + 4) Q) me_X11_visit 80 [(0, .ref 0), (1, .int x1)] (v9.toList ++ []) J))
    (k3 : ¬ s0 = (-1) → x1 = (-1) → x1 = (-1) → HCall E me_X9_letVisit (d + 3) [.ref 1, .ref 12, .int x1] I (fun v9 J => HGo E (mF E (d + 4) Q) me_X11_visit 93 [(0, .ref 0), (3, .int 0)] (v9.toList ++ []) J))
    (k4 : ¬ s0 = (-1) → ¬ x1 = (-1) → HCall E me_X4_of (d + 3) [.ref 12, .int s0, .int x1] I (fun v9 J => HGo E (mF E (d + 4) Q) me_X11_visit 53 [(0, .ref 0), (1, .int x1)] (v9.toList ++ []) J))
    : HGo E (mF E (d + 4) Q) me_X11_visit 33 [(0, .ref 0), (1, .int x1)] [.int s0] I := by
  refine h_istore_n (L' := [(2, .int s0), (0, .ref 0), (1, .int x1)]) dX11_visit_33 rfl (by decide) rfl ?_
  refine h_iload_n dX11_visit_34 rfl 0 rfl ?_
  refine h_iconst (v := (-1)) dX11_visit_35 (by decide) ?_
  refine h_icmp_eq (tgt := 56) dX11_visit_36 (by decide) (fun c1 => ?_) (fun c1 => ?_)
  ·
    refine h_bipush (v := (-4)) dX11_visit_56 (by decide) ?_
    exact h_iret dX11_visit_58 rfl (k1 c1)
  ·
    refine h_iload_n dX11_visit_39 rfl 2 rfl ?_
    refine h_iconst (v := (-1)) dX11_visit_40 (by decide) ?_
    refine h_icmp_eq (tgt := 59) dX11_visit_41 (by decide) (fun c2 => ?_) (fun c2 => ?_)
    ·
      refine h_iload_n dX11_visit_59 rfl 2 rfl ?_
      refine h_iconst (v := (-1)) dX11_visit_60 (by decide) ?_
      refine h_icmp_ne (tgt := 68) dX11_visit_61 (by decide) (fun c3 => ?_) (fun c3 => ?_)
      ·
        refine h_aload_n dX11_visit_68 rfl 1 rfl ?_
        refine gf_9_0 dX11_visit_69 hl_X11_10 nl_0 zk_0 zp_0_0 ?_
        refine h_aload_n dX11_visit_72 rfl 1 rfl ?_
        refine gf_9_1 dX11_visit_73 hl_X11_19 nl_0 zk_0 zp_0_1 ?_
        refine h_iload_n dX11_visit_76 rfl 2 rfl ?_
        refine h_pick [1, 2] [(0, .ref 0), (1, .int x1)] rfl ?_
        refine h_invV (As := [.ref 12, .int x1]) (st := []) dX11_visit_77 lk_X11_135 (h_room (by decide)) nl_1 zk_1 (by decide) rfl rfl rfl (Nat.le_of_ble_eq_true rfl) ?_
        exact k2 c1 c2 c3
      ·
        refine h_iconst (v := 0) dX11_visit_64 (by decide) ?_
        refine h_goto (tgt := 80) dX11_visit_65 (by decide) ?_
        refine h_istore_n (L' := [(3, .int 0), (2, .int s0), (0, .ref 0), (1, .int x1)]) dX11_visit_80 rfl (by decide) rfl ?_
        refine h_aload_n dX11_visit_81 rfl 2 rfl ?_
        refine gf_9_0 dX11_visit_82 hl_X11_10 nl_0 zk_0 zp_0_0 ?_
        refine h_aload_n dX11_visit_85 rfl 2 rfl ?_
        refine gf_9_1 dX11_visit_86 hl_X11_19 nl_0 zk_0 zp_0_1 ?_
        refine h_iload_n dX11_visit_89 rfl 3 rfl ?_
        refine h_pick [2, 0] [(0, .ref 0), (3, .int 0)] rfl ?_
        refine h_invV (As := [.ref 12, .int x1]) (st := []) dX11_visit_90 lk_X11_142 (h_room (by decide)) nl_1 zk_1 (by decide) rfl rfl rfl (Nat.le_of_ble_eq_true rfl) ?_
        exact k3 c1 c2 c3
    ·
      refine h_aload_n dX11_visit_44 rfl 1 rfl ?_
      refine gf_9_1 dX11_visit_45 hl_X11_19 nl_0 zk_0 zp_0_1 ?_
      refine h_iload_n dX11_visit_48 rfl 0 rfl ?_
      refine h_iload_n dX11_visit_49 rfl 2 rfl ?_
      refine h_pick [1, 2] [(0, .ref 0), (1, .int x1)] rfl ?_
      refine h_invV (As := [.int s0, .int x1]) (st := []) dX11_visit_50 lk_X11_96 (h_room (by decide)) nl_12 zk_12 (by decide) rfl rfl rfl (Nat.le_of_ble_eq_true rfl) ?_
      exact k4 c1 c2
set_option maxHeartbeats 1000000 in
set_option maxRecDepth 4000 in
theorem sg_X11_visit_80 {E : HEn} {d : Nat} {Q : Option Value → HIh → Prop} {I : HIh} {x1 : Int32} {s0 : Int32}
    (k1 : HCall E me_X9_letVisit (d + 3) [.ref 1, .ref 12, .int x1] I (fun v9 J => HGo E (mF E (d + 4) Q) me_X11_visit 93 [(0, .ref 0), (3, .int s0)] (v9.toList ++ []) J))
    : HGo E (mF E (d + 4) Q) me_X11_visit 80 [(0, .ref 0), (1, .int x1)] [.int s0] I := by
  refine h_istore_n (L' := [(3, .int s0), (0, .ref 0), (1, .int x1)]) dX11_visit_80 rfl (by decide) rfl ?_
  refine h_aload_n dX11_visit_81 rfl 1 rfl ?_
  refine gf_9_0 dX11_visit_82 hl_X11_10 nl_0 zk_0 zp_0_0 ?_
  refine h_aload_n dX11_visit_85 rfl 1 rfl ?_
  refine gf_9_1 dX11_visit_86 hl_X11_19 nl_0 zk_0 zp_0_1 ?_
  refine h_iload_n dX11_visit_89 rfl 2 rfl ?_
  refine h_pick [1, 0] [(0, .ref 0), (3, .int s0)] rfl ?_
  refine h_invV (As := [.ref 12, .int x1]) (st := []) dX11_visit_90 lk_X11_142 (h_room (by decide)) nl_1 zk_1 (by decide) rfl rfl rfl (Nat.le_of_ble_eq_true rfl) ?_
  exact k1
set_option maxHeartbeats 1000000 in
set_option maxRecDepth 4000 in
theorem sg_X11_visit_93 {E : HEn} {d : Nat} {Q : Option Value → HIh → Prop} {I : HIh} {x3 : Int32}
    (k1 : HCall E me_X2_becomeStale (d + 3) [.ref 32] I (fun v9 J => HGo E (mF E (d + 4) Q) me_X11_visit 100 [(3, .int x3)] (v9.toList ++ []) J))
    : HGo E (mF E (d + 4) Q) me_X11_visit 93 [(0, .ref 0), (3, .int x3)] [] I := by
  refine h_aload_n dX11_visit_93 rfl 0 rfl ?_
  refine gf_9_4 dX11_visit_94 hl_X11_39 nl_0 zk_0 zp_0_4 ?_
  refine h_pick [1] [(3, .int x3)] rfl ?_
  refine h_invV (As := []) (st := []) dX11_visit_97 lk_X11_82 (h_room (by decide)) nl_32 zk_32 (by decide) rfl rfl rfl (Nat.le_of_ble_eq_true rfl) ?_
  exact k1
set_option maxHeartbeats 1000000 in
set_option maxRecDepth 4000 in
theorem sg_X11_visit_53 {E : HEn} {d : Nat} {Q : Option Value → HIh → Prop} {I : HIh} {x1 : Int32} {s0 : Int32}
    (k1 : ¬ s0 = 0 → ¬ x1 = (-1) → HCall E me_X9_gainOf (d + 3) [.ref 1, .ref 12, .int x1] I (fun v9 J => HGo E (mF E (d + 4) Q) me_X11_visit 80 [(0, .ref 0), (1, .int x1)] (v9.toList ++ []) J))
    (k2 : ¬ s0 = 0 → x1 = (-1) → HCall E me_X9_letVisit (d + 3) [.ref 1, .ref 12, .int x1] I (fun v9 J => HGo E (mF E (d + 4) Q) me_X11_visit 93 [(0, .ref 0), (3, .int 0)] (v9.toList ++ []) J))
    (k3 : s0 = 0 → Q (some (.int (-4))) I)
    : HGo E (mF E (d + 4) Q) me_X11_visit 53 [(0, .ref 0), (1, .int x1)] [.int s0] I := by
  refine h_if_ne (tgt := 59) dX11_visit_53 (by decide) (fun c1 => ?_) (fun c1 => ?_)
  ·
    refine h_iload_n dX11_visit_59 rfl 1 rfl ?_
    refine h_iconst (v := (-1)) dX11_visit_60 (by decide) ?_
    refine h_icmp_ne (tgt := 68) dX11_visit_61 (by decide) (fun c2 => ?_) (fun c2 => ?_)
    ·
      refine h_aload_n dX11_visit_68 rfl 0 rfl ?_
      refine gf_9_0 dX11_visit_69 hl_X11_10 nl_0 zk_0 zp_0_0 ?_
      refine h_aload_n dX11_visit_72 rfl 0 rfl ?_
      refine gf_9_1 dX11_visit_73 hl_X11_19 nl_0 zk_0 zp_0_1 ?_
      refine h_iload_n dX11_visit_76 rfl 1 rfl ?_
      refine h_invV (As := [.ref 12, .int x1]) (st := []) dX11_visit_77 lk_X11_135 (h_room (by decide)) nl_1 zk_1 (by decide) rfl rfl rfl (Nat.le_of_ble_eq_true rfl) ?_
      exact k1 c1 c2
    ·
      refine h_iconst (v := 0) dX11_visit_64 (by decide) ?_
      refine h_goto (tgt := 80) dX11_visit_65 (by decide) ?_
      refine h_istore_n (L' := [(3, .int 0), (0, .ref 0), (1, .int x1)]) dX11_visit_80 rfl (by decide) rfl ?_
      refine h_aload_n dX11_visit_81 rfl 1 rfl ?_
      refine gf_9_0 dX11_visit_82 hl_X11_10 nl_0 zk_0 zp_0_0 ?_
      refine h_aload_n dX11_visit_85 rfl 1 rfl ?_
      refine gf_9_1 dX11_visit_86 hl_X11_19 nl_0 zk_0 zp_0_1 ?_
      refine h_iload_n dX11_visit_89 rfl 2 rfl ?_
      refine h_pick [1, 0] [(0, .ref 0), (3, .int 0)] rfl ?_
      refine h_invV (As := [.ref 12, .int x1]) (st := []) dX11_visit_90 lk_X11_142 (h_room (by decide)) nl_1 zk_1 (by decide) rfl rfl rfl (Nat.le_of_ble_eq_true rfl) ?_
      exact k2 c1 c2
  ·
    refine h_bipush (v := (-4)) dX11_visit_56 (by decide) ?_
    exact h_iret dX11_visit_58 rfl (k3 c1)
set_option maxHeartbeats 1000000 in
set_option maxRecDepth 4000 in
theorem sg_X11_visit_100 {E : HEn} {d : Nat} {Q : Option Value → HIh → Prop} {I : HIh} {x3 : Int32}
    (k1 : Q (some (.int (x3 + 100000))) I)
    : HGo E (mF E (d + 4) Q) me_X11_visit 100 [(3, .int x3)] [] I := by
  refine h_iload_n dX11_visit_100 rfl 0 rfl ?_
  refine h_ldc dX11_visit_101 wt_600 rfl ?_
  refine h_iadd dX11_visit_103 ?_
  exact h_iret dX11_visit_104 rfl (k1)
set_option maxHeartbeats 1000000 in
set_option maxRecDepth 4000 in
theorem sg_X11_go_0 {E : HEn} {d : Nat} {Q : Option Value → HIh → Prop} {I : HIh} {a : Int32}
    (k1 : a < 1 → Q (some (.int (-3))) I)
    (k2 : ¬ a < 1 → a ≤ 24 → HGo E (mF E (d + 5) Q) me_X11_go 16 [(0, .ref 0), (1, .int a), (2, .int 0)] [] I)
    (k3 : ¬ a < 1 → ¬ a ≤ 24 → Q (some (.int (-3))) I)
    : HGo E (mF E (d + 5) Q) me_X11_go 0 [(0, .ref 0), (1, .int a)] [] I := by
  refine h_iload_n dX11_go_0 rfl 1 rfl ?_
  refine h_iconst (v := 1) dX11_go_1 (by decide) ?_
  refine h_icmp_lt (tgt := 11) dX11_go_2 (by decide) (fun c1 => ?_) (fun c1 => ?_)
  ·
    refine h_bipush (v := (-3)) dX11_go_11 (by decide) ?_
    exact h_iret dX11_go_13 rfl (k1 c1)
  ·
    refine h_iload_n dX11_go_5 rfl 1 rfl ?_
    refine h_bipush (v := 24) dX11_go_6 (by decide) ?_
    refine h_icmp_le (tgt := 14) dX11_go_8 (by decide) (fun c2 => ?_) (fun c2 => ?_)
    ·
      refine h_iconst (v := 0) dX11_go_14 (by decide) ?_
      refine h_istore_n (L' := [(2, .int 0), (0, .ref 0), (1, .int a)]) dX11_go_15 rfl (by decide) rfl ?_
      refine h_pick [1, 2, 0] [(0, .ref 0), (1, .int a), (2, .int 0)] rfl ?_
      exact k2 c1 c2
    ·
      refine h_bipush (v := (-3)) dX11_go_11 (by decide) ?_
      exact h_iret dX11_go_13 rfl (k3 c1 c2)
set_option maxHeartbeats 1000000 in
set_option maxRecDepth 4000 in
theorem sg_X11_go_16 {E : HEn} {d : Nat} {Q : Option Value → HIh → Prop} {I : HIh} {x1 : Int32} {x2 : Int32}
    (k1 : x1 ≤ x2 → HCall E me_X2_becomeStale (d + 4) [.ref 32] I (fun v9 J => HGo E (mF E (d + 5) Q) me_X11_go 73 [(0, .ref 0)] (v9.toList ++ []) J))
    (k2 : ¬ x1 ≤ x2 → (I 1 10) ≤ (I 12 1) → HCall E me_X2_becomeStale (d + 4) [.ref 32] I (fun v9 J => HGo E (mF E (d + 5) Q) me_X11_go 73 [(0, .ref 0)] (v9.toList ++ []) J))
    (k3 : ¬ x1 ≤ x2 → ¬ (I 1 10) ≤ (I 12 1) → HCall E me_X9_habitual (d + 4) [.ref 1, .ref 12] I (fun v9 J => HGo E (mF E (d + 5) Q) me_X11_go 57 [(0, .ref 0), (1, .int x1), (2, .int x2)] (v9.toList ++ [.ref 12, .ref 1]) J))
    : HGo E (mF E (d + 5) Q) me_X11_go 16 [(0, .ref 0), (1, .int x1), (2, .int x2)] [] I := by
  refine h_iload_n dX11_go_16 rfl 2 rfl ?_
  refine h_iload_n dX11_go_17 rfl 1 rfl ?_
  refine h_icmp_ge (tgt := 66) dX11_go_18 (by decide) (fun c1 => ?_) (fun c1 => ?_)
  ·
    refine h_aload_n dX11_go_66 rfl 0 rfl ?_
    refine gf_9_4 dX11_go_67 hl_X11_39 nl_0 zk_0 zp_0_4 ?_
    refine h_pick [0] [(0, .ref 0)] rfl ?_
    refine h_invV (As := []) (st := []) dX11_go_70 lk_X11_82 (h_room (by decide)) nl_32 zk_32 (by decide) rfl rfl rfl (Nat.le_of_ble_eq_true rfl) ?_
    exact k1 c1
  ·
    refine h_aload_n dX11_go_21 rfl 0 rfl ?_
    refine gf_9_1 dX11_go_22 hl_X11_19 nl_0 zk_0 zp_0_1 ?_
    refine gf_3_1 dX11_go_25 hl_X11_139 nl_12 zk_12 ?_
    refine h_aload_n dX11_go_28 rfl 0 rfl ?_
    refine gf_9_0 dX11_go_29 hl_X11_10 nl_0 zk_0 zp_0_0 ?_
    refine gf_7_10 dX11_go_32 hl_X11_146 nl_1 zk_1 ?_
    refine h_icmp_ge (tgt := 66) dX11_go_35 (by decide) (fun c2 => ?_) (fun c2 => ?_)
    ·
      refine h_aload_n dX11_go_66 rfl 0 rfl ?_
      refine gf_9_4 dX11_go_67 hl_X11_39 nl_0 zk_0 zp_0_4 ?_
      refine h_pick [0] [(0, .ref 0)] rfl ?_
      refine h_invV (As := []) (st := []) dX11_go_70 lk_X11_82 (h_room (by decide)) nl_32 zk_32 (by decide) rfl rfl rfl (Nat.le_of_ble_eq_true rfl) ?_
      exact k2 c1 c2
    ·
      refine h_aload_n dX11_go_38 rfl 0 rfl ?_
      refine gf_9_0 dX11_go_39 hl_X11_10 nl_0 zk_0 zp_0_0 ?_
      refine h_aload_n dX11_go_42 rfl 0 rfl ?_
      refine gf_9_1 dX11_go_43 hl_X11_19 nl_0 zk_0 zp_0_1 ?_
      refine h_aload_n dX11_go_46 rfl 0 rfl ?_
      refine gf_9_0 dX11_go_47 hl_X11_10 nl_0 zk_0 zp_0_0 ?_
      refine h_aload_n dX11_go_50 rfl 0 rfl ?_
      refine gf_9_1 dX11_go_51 hl_X11_19 nl_0 zk_0 zp_0_1 ?_
      refine h_invV (As := [.ref 12]) (st := [.ref 12, .ref 1]) dX11_go_54 lk_X11_149 (h_room (by decide)) nl_1 zk_1 (by decide) rfl rfl rfl (Nat.le_of_ble_eq_true rfl) ?_
      exact k3 c1 c2
set_option maxHeartbeats 1000000 in
set_option maxRecDepth 4000 in
theorem sg_X11_go_73 {E : HEn} {d : Nat} {Q : Option Value → HIh → Prop} {I : HIh} 
    (k1 : Q (some (.int (I 12 1))) I)
    : HGo E (mF E (d + 5) Q) me_X11_go 73 [(0, .ref 0)] [] I := by
  refine h_aload_n dX11_go_73 rfl 0 rfl ?_
  refine gf_9_1 dX11_go_74 hl_X11_19 nl_0 zk_0 zp_0_1 ?_
  refine gf_3_1 dX11_go_77 hl_X11_139 nl_12 zk_12 ?_
  exact h_iret dX11_go_80 rfl (k1)
set_option maxHeartbeats 1000000 in
set_option maxRecDepth 4000 in
theorem sg_X11_go_57 {E : HEn} {d : Nat} {Q : Option Value → HIh → Prop} {I : HIh} {x1 : Int32} {x2 : Int32} {s0 : Int32}
    (k1 : HCall E me_X9_letVisit (d + 4) [.ref 1, .ref 12, .int s0] I (fun v9 J => HGo E (mF E (d + 5) Q) me_X11_go 60 [(0, .ref 0), (1, .int x1), (2, .int x2)] (v9.toList ++ []) J))
    : HGo E (mF E (d + 5) Q) me_X11_go 57 [(0, .ref 0), (1, .int x1), (2, .int x2)] [.int s0, .ref 12, .ref 1] I := by
  refine h_invV (As := [.ref 12, .int s0]) (st := []) dX11_go_57 lk_X11_142 (h_room (by decide)) nl_1 zk_1 (by decide) rfl rfl rfl (Nat.le_of_ble_eq_true rfl) ?_
  exact k1
set_option maxHeartbeats 1000000 in
set_option maxRecDepth 4000 in
theorem sg_X11_go_60 {E : HEn} {d : Nat} {Q : Option Value → HIh → Prop} {I : HIh} {x1 : Int32} {x2 : Int32}
    (k1 : HGo E (mF E (d + 5) Q) me_X11_go 16 [(0, .ref 0), (1, .int x1), (2, .int (x2 + 1))] [] I)
    : HGo E (mF E (d + 5) Q) me_X11_go 60 [(0, .ref 0), (1, .int x1), (2, .int x2)] [] I := by
  refine h_iinc (v := (x2 + 1)) (L' := [(2, .int (x2 + 1)), (0, .ref 0), (1, .int x1)]) dX11_go_60 2 rfl rfl (by decide) rfl ?_
  refine h_goto (tgt := 16) dX11_go_63 (by decide) ?_
  refine h_pick [1, 2, 0] [(0, .ref 0), (1, .int x1), (2, .int (x2 + 1))] rfl ?_
  exact k1
set_option maxHeartbeats 1000000 in
set_option maxRecDepth 4000 in
theorem sg_X11_plan_0 {E : HEn} {d : Nat} {Q : Option Value → HIh → Prop} {I : HIh} {a : Int32} {b : Int32}
    (k1 : (0 : Int32) ≤ a → a < 4 → (-1) ≤ b → HCall E me_X9_visitsLeft (d + 41) [.ref 1, .ref 12, .int ((1 : Int32) <<< (a &&& 31))] I (fun v9 J => HGo E (mF E (d + 42) Q) me_X11_plan 34 [(0, .ref 0), (1, .int a), (2, .int b), (3, .int ((1 : Int32) <<< (a &&& 31)))] (v9.toList ++ []) J))
    (k2 : (0 : Int32) ≤ a → a < 4 → ¬ (-1) ≤ b → Q (some (.int (-3))) I)
    (k3 : ¬ ((0 : Int32) ≤ a ∧ a < 4) → Q (some (.int (-2))) I)
    : HGo E (mF E (d + 42) Q) me_X11_plan 0 [(0, .ref 0), (1, .int a), (2, .int b)] [] I := by
  refine h_iload_n dX11_plan_0 rfl 1 rfl ?_
  refine h_invS (As := [.int a]) (st := []) dX11_plan_1 lk_X11_100 (h_room (by decide)) rfl rfl (Nat.le_of_ble_eq_true rfl) ?_
  refine c_X11_isPerson (fun c1 c2 => ?_) (fun c3 => ?_)
  ·
    refine h_if_ne (tgt := 10) dX11_plan_4 (by decide) (fun _ => ?_) (fun c => absurd c (by decide))
    refine h_iload_n dX11_plan_10 rfl 2 rfl ?_
    refine h_iconst (v := (-1)) dX11_plan_11 (by decide) ?_
    refine h_icmp_ge (tgt := 18) dX11_plan_12 (by decide) (fun c4 => ?_) (fun c4 => ?_)
    ·
      refine h_iconst (v := 1) dX11_plan_18 (by decide) ?_
      refine h_iload_n dX11_plan_19 rfl 1 rfl ?_
      refine h_ishl dX11_plan_20 ?_
      refine h_istore_n (L' := [(3, .int ((1 : Int32) <<< (a &&& 31))), (0, .ref 0), (1, .int a), (2, .int b)]) dX11_plan_21 rfl (by decide) rfl ?_
      refine h_aload_n dX11_plan_22 rfl 1 rfl ?_
      refine gf_9_0 dX11_plan_23 hl_X11_10 nl_0 zk_0 zp_0_0 ?_
      refine h_aload_n dX11_plan_26 rfl 1 rfl ?_
      refine gf_9_1 dX11_plan_27 hl_X11_19 nl_0 zk_0 zp_0_1 ?_
      refine h_iload_n dX11_plan_30 rfl 0 rfl ?_
      refine h_pick [1, 2, 3, 0] [(0, .ref 0), (1, .int a), (2, .int b), (3, .int ((1 : Int32) <<< (a &&& 31)))] rfl ?_
      refine h_invV (As := [.ref 12, .int ((1 : Int32) <<< (a &&& 31))]) (st := []) dX11_plan_31 lk_X11_121 (h_room (by decide)) nl_1 zk_1 (by decide) rfl rfl rfl (Nat.le_of_ble_eq_true rfl) ?_
      exact k1 c1 c2 c4
    ·
      refine h_bipush (v := (-3)) dX11_plan_15 (by decide) ?_
      exact h_iret dX11_plan_17 rfl (k2 c1 c2 c4)
  ·
    refine h_if_ne (tgt := 10) dX11_plan_4 (by decide) (fun c => absurd c (by decide)) (fun _ => ?_)
    refine h_bipush (v := (-2)) dX11_plan_7 (by decide) ?_
    exact h_iret dX11_plan_9 rfl (k3 c3)
set_option maxHeartbeats 1000000 in
set_option maxRecDepth 4000 in
theorem sg_X11_plan_34 {E : HEn} {d : Nat} {Q : Option Value → HIh → Prop} {I : HIh} {x1 : Int32} {x2 : Int32} {x3 : Int32} {s0 : Int32}
    (k1 : s0 ≤ 5 → HCall E me_X2_foresee (d + 41) [.ref 32, .ref 12, .int (x3 <<< ((4 * x1) &&& 31))] I (fun v9 J => HGo E (mF E (d + 42) Q) me_X11_plan 57 [(0, .ref 0), (1, .int x1), (2, .int x2)] (v9.toList ++ []) J))
    (k2 : ¬ s0 ≤ 5 → Q (some (.int (-4))) I)
    : HGo E (mF E (d + 42) Q) me_X11_plan 34 [(0, .ref 0), (1, .int x1), (2, .int x2), (3, .int x3)] [.int s0] I := by
  refine h_iconst (v := 5) dX11_plan_34 (by decide) ?_
  refine h_icmp_le (tgt := 41) dX11_plan_35 (by decide) (fun c1 => ?_) (fun c1 => ?_)
  ·
    refine h_aload_n dX11_plan_41 rfl 0 rfl ?_
    refine gf_9_4 dX11_plan_42 hl_X11_39 nl_0 zk_0 zp_0_4 ?_
    refine h_aload_n dX11_plan_45 rfl 0 rfl ?_
    refine gf_9_1 dX11_plan_46 hl_X11_19 nl_0 zk_0 zp_0_1 ?_
    refine h_iload_n dX11_plan_49 rfl 1 rfl ?_
    refine h_iload_n dX11_plan_50 rfl 3 rfl ?_
    refine h_invS (As := [.int x1, .int x3]) (st := [.ref 12, .ref 32]) dX11_plan_51 lk_X11_153 (h_room (by decide)) rfl rfl (Nat.le_of_ble_eq_true rfl) ?_
    refine c_X11_goalFor ?_
    refine h_pick [0, 1, 2] [(0, .ref 0), (1, .int x1), (2, .int x2)] rfl ?_
    refine h_invV (As := [.ref 12, .int (x3 <<< ((4 * x1) &&& 31))]) (st := []) dX11_plan_54 lk_X11_156 (h_room (by decide)) nl_32 zk_32 (by decide) rfl rfl rfl (Nat.le_of_ble_eq_true rfl) ?_
    exact k1 c1
  ·
    refine h_bipush (v := (-4)) dX11_plan_38 (by decide) ?_
    exact h_iret dX11_plan_40 rfl (k2 c1)
set_option maxHeartbeats 1000000 in
set_option maxRecDepth 4000 in
theorem sg_X11_plan_57 {E : HEn} {d : Nat} {Q : Option Value → HIh → Prop} {I : HIh} {x1 : Int32} {x2 : Int32}
    (k1 : ¬ x2 = (-1) → HCall E me_X2_step (d + 41) [.ref 32, .int x2] I (fun v9 J => HGo E (mF E (d + 42) Q) me_X11_plan 81 [] (v9.toList ++ []) J))
    (k2 : x2 = (-1) → HCall E me_X2_endOf (d + 41) [.ref 32, .int x1] I (fun v9 J => HGo E (mF E (d + 42) Q) me_X11_plan 70 [] (v9.toList ++ []) J))
    : HGo E (mF E (d + 42) Q) me_X11_plan 57 [(0, .ref 0), (1, .int x1), (2, .int x2)] [] I := by
  refine h_iload_n dX11_plan_57 rfl 2 rfl ?_
  refine h_iconst (v := (-1)) dX11_plan_58 (by decide) ?_
  refine h_icmp_ne (tgt := 73) dX11_plan_59 (by decide) (fun c1 => ?_) (fun c1 => ?_)
  ·
    refine h_aload_n dX11_plan_73 rfl 0 rfl ?_
    refine gf_9_4 dX11_plan_74 hl_X11_39 nl_0 zk_0 zp_0_4 ?_
    refine h_iload_n dX11_plan_77 rfl 2 rfl ?_
    refine h_pick [] [] rfl ?_
    refine h_invV (As := [.int x2]) (st := []) dX11_plan_78 lk_X11_162 (h_room (by decide)) nl_32 zk_32 (by decide) rfl rfl rfl (Nat.le_of_ble_eq_true rfl) ?_
    exact k1 c1
  ·
    refine h_aload_n dX11_plan_62 rfl 0 rfl ?_
    refine gf_9_4 dX11_plan_63 hl_X11_39 nl_0 zk_0 zp_0_4 ?_
    refine h_iload_n dX11_plan_66 rfl 1 rfl ?_
    refine h_pick [] [] rfl ?_
    refine h_invV (As := [.int x1]) (st := []) dX11_plan_67 lk_X11_159 (h_room (by decide)) nl_32 zk_32 (by decide) rfl rfl rfl (Nat.le_of_ble_eq_true rfl) ?_
    exact k2 c1
set_option maxHeartbeats 1000000 in
set_option maxRecDepth 4000 in
theorem sg_X11_plan_81 {E : HEn} {d : Nat} {Q : Option Value → HIh → Prop} {I : HIh} {s0 : Int32}
    (k1 : Q (some (.int s0)) I)
    : HGo E (mF E (d + 42) Q) me_X11_plan 81 [] [.int s0] I := by
  exact h_iret dX11_plan_81 rfl (k1)
set_option maxHeartbeats 1000000 in
set_option maxRecDepth 4000 in
theorem sg_X11_plan_70 {E : HEn} {d : Nat} {Q : Option Value → HIh → Prop} {I : HIh} {s0 : Int32}
    (k1 : Q (some (.int s0)) I)
    : HGo E (mF E (d + 42) Q) me_X11_plan 70 [] [.int s0] I := by
  refine h_goto (tgt := 81) dX11_plan_70 (by decide) ?_
  exact h_iret dX11_plan_81 rfl (k1)
set_option maxHeartbeats 1000000 in
set_option maxRecDepth 4000 in
theorem sg_X11_game_0 {E : HEn} {d : Nat} {Q : Option Value → HIh → Prop} {I : HIh} {a : Int32}
    (k1 : (0 : Int32) ≤ a → a < 4 → HCall E me_X11_tooLongForGame (d + 41) [.ref 0] I (fun v9 J => HGo E (mF E (d + 42) Q) me_X11_game 14 [(0, .ref 0), (1, .int a)] (v9.toList ++ []) J))
    (k2 : ¬ ((0 : Int32) ≤ a ∧ a < 4) → Q (some (.int (-2))) I)
    : HGo E (mF E (d + 42) Q) me_X11_game 0 [(0, .ref 0), (1, .int a)] [] I := by
  refine h_iload_n dX11_game_0 rfl 1 rfl ?_
  refine h_invS (As := [.int a]) (st := []) dX11_game_1 lk_X11_100 (h_room (by decide)) rfl rfl (Nat.le_of_ble_eq_true rfl) ?_
  refine c_X11_isPerson (fun c1 c2 => ?_) (fun c3 => ?_)
  ·
    refine h_if_ne (tgt := 10) dX11_game_4 (by decide) (fun _ => ?_) (fun c => absurd c (by decide))
    refine h_aload_n dX11_game_10 rfl 0 rfl ?_
    refine h_invV (As := []) (st := []) dX11_game_11 lk_X11_165 (h_room (by decide)) nl_0 zk_0 (by decide) rfl rfl rfl (Nat.le_of_ble_eq_true rfl) ?_
    exact k1 c1 c2
  ·
    refine h_if_ne (tgt := 10) dX11_game_4 (by decide) (fun c => absurd c (by decide)) (fun _ => ?_)
    refine h_bipush (v := (-2)) dX11_game_7 (by decide) ?_
    exact h_iret dX11_game_9 rfl (k2 c3)
set_option maxHeartbeats 1000000 in
set_option maxRecDepth 4000 in
theorem sg_X11_game_14 {E : HEn} {d : Nat} {Q : Option Value → HIh → Prop} {I : HIh} {x1 : Int32} {s0 : Int32}
    (k1 : s0 = 0 → HCall E me_X2_foresee (d + 41) [.ref 32, .ref 12, .int 33825] I (fun v9 J => HGo E (mF E (d + 42) Q) me_X11_game 33 [(0, .ref 0), (1, .int x1)] (v9.toList ++ []) J))
    (k2 : ¬ s0 = 0 → Q (some (.int (-4))) I)
    : HGo E (mF E (d + 42) Q) me_X11_game 14 [(0, .ref 0), (1, .int x1)] [.int s0] I := by
  refine h_if_eq (tgt := 20) dX11_game_14 (by decide) (fun c1 => ?_) (fun c1 => ?_)
  ·
    refine h_aload_n dX11_game_20 rfl 0 rfl ?_
    refine gf_9_4 dX11_game_21 hl_X11_39 nl_0 zk_0 zp_0_4 ?_
    refine h_aload_n dX11_game_24 rfl 0 rfl ?_
    refine gf_9_1 dX11_game_25 hl_X11_19 nl_0 zk_0 zp_0_1 ?_
    refine h_ldc dX11_game_28 wt_687 rfl ?_
    refine h_invV (As := [.ref 12, .int 33825]) (st := []) dX11_game_30 lk_X11_156 (h_room (by decide)) nl_32 zk_32 (by decide) rfl rfl rfl (Nat.le_of_ble_eq_true rfl) ?_
    exact k1 c1
  ·
    refine h_bipush (v := (-4)) dX11_game_17 (by decide) ?_
    exact h_iret dX11_game_19 rfl (k2 c1)
set_option maxHeartbeats 1000000 in
set_option maxRecDepth 4000 in
theorem sg_X11_game_33 {E : HEn} {d : Nat} {Q : Option Value → HIh → Prop} {I : HIh} {x1 : Int32}
    (k1 : HCall E me_X2_endOf (d + 41) [.ref 32, .int x1] I (fun v9 J => HGo E (mF E (d + 42) Q) me_X11_game 41 [] (v9.toList ++ []) J))
    : HGo E (mF E (d + 42) Q) me_X11_game 33 [(0, .ref 0), (1, .int x1)] [] I := by
  refine h_aload_n dX11_game_33 rfl 0 rfl ?_
  refine gf_9_4 dX11_game_34 hl_X11_39 nl_0 zk_0 zp_0_4 ?_
  refine h_iload_n dX11_game_37 rfl 1 rfl ?_
  refine h_pick [] [] rfl ?_
  refine h_invV (As := [.int x1]) (st := []) dX11_game_38 lk_X11_159 (h_room (by decide)) nl_32 zk_32 (by decide) rfl rfl rfl (Nat.le_of_ble_eq_true rfl) ?_
  exact k1
set_option maxHeartbeats 1000000 in
set_option maxRecDepth 4000 in
theorem sg_X11_game_41 {E : HEn} {d : Nat} {Q : Option Value → HIh → Prop} {I : HIh} {s0 : Int32}
    (k1 : Q (some (.int s0)) I)
    : HGo E (mF E (d + 42) Q) me_X11_game 41 [] [.int s0] I := by
  exact h_iret dX11_game_41 rfl (k1)
set_option maxHeartbeats 1000000 in
set_option maxRecDepth 4000 in
theorem sg_X11_choice_0 {E : HEn} {d : Nat} {Q : Option Value → HIh → Prop} {I : HIh} {a : Int32}
    (k1 : 0 ≤ a → HCall E me_X11_tooLongForGame (d + 41) [.ref 0] I (fun v9 J => HGo E (mF E (d + 42) Q) me_X11_choice 11 [(0, .ref 0), (1, .int a)] (v9.toList ++ []) J))
    (k2 : ¬ 0 ≤ a → Q (some (.int (-3))) I)
    : HGo E (mF E (d + 42) Q) me_X11_choice 0 [(0, .ref 0), (1, .int a)] [] I := by
  refine h_iload_n dX11_choice_0 rfl 1 rfl ?_
  refine h_if_ge (tgt := 7) dX11_choice_1 (by decide) (fun c1 => ?_) (fun c1 => ?_)
  ·
    refine h_aload_n dX11_choice_7 rfl 0 rfl ?_
    refine h_invV (As := []) (st := []) dX11_choice_8 lk_X11_165 (h_room (by decide)) nl_0 zk_0 (by decide) rfl rfl rfl (Nat.le_of_ble_eq_true rfl) ?_
    exact k1 c1
  ·
    refine h_bipush (v := (-3)) dX11_choice_4 (by decide) ?_
    exact h_iret dX11_choice_6 rfl (k2 c1)
set_option maxHeartbeats 1000000 in
set_option maxRecDepth 4000 in
theorem sg_X11_choice_11 {E : HEn} {d : Nat} {Q : Option Value → HIh → Prop} {I : HIh} {x1 : Int32} {s0 : Int32}
    (k1 : s0 = 0 → HCall E me_X2_foresee (d + 41) [.ref 32, .ref 12, .int 33825] I (fun v9 J => HGo E (mF E (d + 42) Q) me_X11_choice 30 [(0, .ref 0), (1, .int x1)] (v9.toList ++ []) J))
    (k2 : ¬ s0 = 0 → Q (some (.int (-4))) I)
    : HGo E (mF E (d + 42) Q) me_X11_choice 11 [(0, .ref 0), (1, .int x1)] [.int s0] I := by
  refine h_if_eq (tgt := 17) dX11_choice_11 (by decide) (fun c1 => ?_) (fun c1 => ?_)
  ·
    refine h_aload_n dX11_choice_17 rfl 0 rfl ?_
    refine gf_9_4 dX11_choice_18 hl_X11_39 nl_0 zk_0 zp_0_4 ?_
    refine h_aload_n dX11_choice_21 rfl 0 rfl ?_
    refine gf_9_1 dX11_choice_22 hl_X11_19 nl_0 zk_0 zp_0_1 ?_
    refine h_ldc dX11_choice_25 wt_687 rfl ?_
    refine h_invV (As := [.ref 12, .int 33825]) (st := []) dX11_choice_27 lk_X11_156 (h_room (by decide)) nl_32 zk_32 (by decide) rfl rfl rfl (Nat.le_of_ble_eq_true rfl) ?_
    exact k1 c1
  ·
    refine h_bipush (v := (-4)) dX11_choice_14 (by decide) ?_
    exact h_iret dX11_choice_16 rfl (k2 c1)
set_option maxHeartbeats 1000000 in
set_option maxRecDepth 4000 in
theorem sg_X11_choice_30 {E : HEn} {d : Nat} {Q : Option Value → HIh → Prop} {I : HIh} {x1 : Int32}
    (k1 : HCall E me_X2_step (d + 41) [.ref 32, .int x1] I (fun v9 J => HGo E (mF E (d + 42) Q) me_X11_choice 38 [] (v9.toList ++ []) J))
    : HGo E (mF E (d + 42) Q) me_X11_choice 30 [(0, .ref 0), (1, .int x1)] [] I := by
  refine h_aload_n dX11_choice_30 rfl 0 rfl ?_
  refine gf_9_4 dX11_choice_31 hl_X11_39 nl_0 zk_0 zp_0_4 ?_
  refine h_iload_n dX11_choice_34 rfl 1 rfl ?_
  refine h_pick [] [] rfl ?_
  refine h_invV (As := [.int x1]) (st := []) dX11_choice_35 lk_X11_162 (h_room (by decide)) nl_32 zk_32 (by decide) rfl rfl rfl (Nat.le_of_ble_eq_true rfl) ?_
  exact k1
set_option maxHeartbeats 1000000 in
set_option maxRecDepth 4000 in
theorem sg_X11_choice_38 {E : HEn} {d : Nat} {Q : Option Value → HIh → Prop} {I : HIh} {s0 : Int32}
    (k1 : Q (some (.int s0)) I)
    : HGo E (mF E (d + 42) Q) me_X11_choice 38 [] [.int s0] I := by
  exact h_iret dX11_choice_38 rfl (k1)
set_option maxHeartbeats 1000000 in
set_option maxRecDepth 4000 in
theorem sg_X11_league_0 {E : HEn} {d : Nat} {Q : Option Value → HIh → Prop} {I : HIh} {a : Int32} {b : Int32}
    (k1 : (0 : Int32) ≤ a → a < 4 → (0 : Int32) ≤ b → b < 4 → ¬ a = b → HCall E me_X9_visitsLeft (d + 41) [.ref 1, .ref 12, .int (((1 : Int32) <<< (a &&& 31)) ||| ((1 : Int32) <<< (b &&& 31)))] I (fun v9 J => HGo E (mF E (d + 42) Q) me_X11_league 45 [(0, .ref 0), (1, .int a), (2, .int b), (3, .int (((1 : Int32) <<< (a &&& 31)) ||| ((1 : Int32) <<< (b &&& 31))))] (v9.toList ++ []) J))
    (k2 : (0 : Int32) ≤ a → a < 4 → (0 : Int32) ≤ b → b < 4 → a = b → Q (some (.int (-3))) I)
    (k3 : (0 : Int32) ≤ a → a < 4 → ¬ ((0 : Int32) ≤ b ∧ b < 4) → Q (some (.int (-2))) I)
    (k4 : ¬ ((0 : Int32) ≤ a ∧ a < 4) → Q (some (.int (-2))) I)
    : HGo E (mF E (d + 42) Q) me_X11_league 0 [(0, .ref 0), (1, .int a), (2, .int b)] [] I := by
  refine h_iload_n dX11_league_0 rfl 1 rfl ?_
  refine h_invS (As := [.int a]) (st := []) dX11_league_1 lk_X11_100 (h_room (by decide)) rfl rfl (Nat.le_of_ble_eq_true rfl) ?_
  refine c_X11_isPerson (fun c1 c2 => ?_) (fun c3 => ?_)
  ·
    refine h_if_eq (tgt := 14) dX11_league_4 (by decide) (fun c => absurd c (by decide)) (fun _ => ?_)
    refine h_iload_n dX11_league_7 rfl 2 rfl ?_
    refine h_invS (As := [.int b]) (st := []) dX11_league_8 lk_X11_100 (h_room (by decide)) rfl rfl (Nat.le_of_ble_eq_true rfl) ?_
    refine c_X11_isPerson (fun c4 c5 => ?_) (fun c6 => ?_)
    ·
      refine h_if_ne (tgt := 17) dX11_league_11 (by decide) (fun _ => ?_) (fun c => absurd c (by decide))
      refine h_iload_n dX11_league_17 rfl 1 rfl ?_
      refine h_iload_n dX11_league_18 rfl 2 rfl ?_
      refine h_icmp_ne (tgt := 25) dX11_league_19 (by decide) (fun c7 => ?_) (fun c7 => ?_)
      ·
        refine h_iconst (v := 1) dX11_league_25 (by decide) ?_
        refine h_iload_n dX11_league_26 rfl 1 rfl ?_
        refine h_ishl dX11_league_27 ?_
        refine h_iconst (v := 1) dX11_league_28 (by decide) ?_
        refine h_iload_n dX11_league_29 rfl 2 rfl ?_
        refine h_ishl dX11_league_30 ?_
        refine h_ior dX11_league_31 ?_
        refine h_istore_n (L' := [(3, .int (((1 : Int32) <<< (a &&& 31)) ||| ((1 : Int32) <<< (b &&& 31)))), (0, .ref 0), (1, .int a), (2, .int b)]) dX11_league_32 rfl (by decide) rfl ?_
        refine h_aload_n dX11_league_33 rfl 1 rfl ?_
        refine gf_9_0 dX11_league_34 hl_X11_10 nl_0 zk_0 zp_0_0 ?_
        refine h_aload_n dX11_league_37 rfl 1 rfl ?_
        refine gf_9_1 dX11_league_38 hl_X11_19 nl_0 zk_0 zp_0_1 ?_
        refine h_iload_n dX11_league_41 rfl 0 rfl ?_
        refine h_pick [1, 2, 3, 0] [(0, .ref 0), (1, .int a), (2, .int b), (3, .int (((1 : Int32) <<< (a &&& 31)) ||| ((1 : Int32) <<< (b &&& 31))))] rfl ?_
        refine h_invV (As := [.ref 12, .int (((1 : Int32) <<< (a &&& 31)) ||| ((1 : Int32) <<< (b &&& 31)))]) (st := []) dX11_league_42 lk_X11_121 (h_room (by decide)) nl_1 zk_1 (by decide) rfl rfl rfl (Nat.le_of_ble_eq_true rfl) ?_
        exact k1 c1 c2 c4 c5 c7
      ·
        refine h_bipush (v := (-3)) dX11_league_22 (by decide) ?_
        exact h_iret dX11_league_24 rfl (k2 c1 c2 c4 c5 c7)
    ·
      refine h_if_ne (tgt := 17) dX11_league_11 (by decide) (fun c => absurd c (by decide)) (fun _ => ?_)
      refine h_bipush (v := (-2)) dX11_league_14 (by decide) ?_
      exact h_iret dX11_league_16 rfl (k3 c1 c2 c6)
  ·
    refine h_if_eq (tgt := 14) dX11_league_4 (by decide) (fun _ => ?_) (fun c => absurd c (by decide))
    refine h_bipush (v := (-2)) dX11_league_14 (by decide) ?_
    exact h_iret dX11_league_16 rfl (k4 c3)
set_option maxHeartbeats 1000000 in
set_option maxRecDepth 4000 in
theorem sg_X11_league_45 {E : HEn} {d : Nat} {Q : Option Value → HIh → Prop} {I : HIh} {x1 : Int32} {x2 : Int32} {x3 : Int32} {s0 : Int32}
    (k1 : s0 ≤ 5 → HCall E me_X2_foresee (d + 41) [.ref 32, .ref 12, .int ((x3 <<< ((4 * x1) &&& 31)) ||| (x3 <<< ((4 * x2) &&& 31)))] I (fun v9 J => HGo E (mF E (d + 42) Q) me_X11_league 74 [(0, .ref 0), (1, .int x1), (2, .int x2)] (v9.toList ++ []) J))
    (k2 : ¬ s0 ≤ 5 → Q (some (.int (-4))) I)
    : HGo E (mF E (d + 42) Q) me_X11_league 45 [(0, .ref 0), (1, .int x1), (2, .int x2), (3, .int x3)] [.int s0] I := by
  refine h_iconst (v := 5) dX11_league_45 (by decide) ?_
  refine h_icmp_le (tgt := 52) dX11_league_46 (by decide) (fun c1 => ?_) (fun c1 => ?_)
  ·
    refine h_aload_n dX11_league_52 rfl 0 rfl ?_
    refine gf_9_4 dX11_league_53 hl_X11_39 nl_0 zk_0 zp_0_4 ?_
    refine h_aload_n dX11_league_56 rfl 0 rfl ?_
    refine gf_9_1 dX11_league_57 hl_X11_19 nl_0 zk_0 zp_0_1 ?_
    refine h_iload_n dX11_league_60 rfl 1 rfl ?_
    refine h_iload_n dX11_league_61 rfl 3 rfl ?_
    refine h_invS (As := [.int x1, .int x3]) (st := [.ref 12, .ref 32]) dX11_league_62 lk_X11_153 (h_room (by decide)) rfl rfl (Nat.le_of_ble_eq_true rfl) ?_
    refine c_X11_goalFor ?_
    refine h_iload_n dX11_league_65 rfl 2 rfl ?_
    refine h_iload_n dX11_league_66 rfl 3 rfl ?_
    refine h_invS (As := [.int x2, .int x3]) (st := [.int (x3 <<< ((4 * x1) &&& 31)), .ref 12, .ref 32]) dX11_league_67 lk_X11_153 (h_room (by decide)) rfl rfl (Nat.le_of_ble_eq_true rfl) ?_
    refine c_X11_goalFor ?_
    refine h_ior dX11_league_70 ?_
    refine h_pick [0, 1, 2] [(0, .ref 0), (1, .int x1), (2, .int x2)] rfl ?_
    refine h_invV (As := [.ref 12, .int ((x3 <<< ((4 * x1) &&& 31)) ||| (x3 <<< ((4 * x2) &&& 31)))]) (st := []) dX11_league_71 lk_X11_156 (h_room (by decide)) nl_32 zk_32 (by decide) rfl rfl rfl (Nat.le_of_ble_eq_true rfl) ?_
    exact k1 c1
  ·
    refine h_bipush (v := (-4)) dX11_league_49 (by decide) ?_
    exact h_iret dX11_league_51 rfl (k2 c1)
set_option maxHeartbeats 1000000 in
set_option maxRecDepth 4000 in
theorem sg_X11_league_74 {E : HEn} {d : Nat} {Q : Option Value → HIh → Prop} {I : HIh} {x1 : Int32} {x2 : Int32}
    (k1 : HCall E me_X2_endOf (d + 41) [.ref 32, .int x1] I (fun v9 J => HGo E (mF E (d + 42) Q) me_X11_league 82 [(0, .ref 0), (2, .int x2)] (v9.toList ++ []) J))
    : HGo E (mF E (d + 42) Q) me_X11_league 74 [(0, .ref 0), (1, .int x1), (2, .int x2)] [] I := by
  refine h_aload_n dX11_league_74 rfl 0 rfl ?_
  refine gf_9_4 dX11_league_75 hl_X11_39 nl_0 zk_0 zp_0_4 ?_
  refine h_iload_n dX11_league_78 rfl 1 rfl ?_
  refine h_pick [0, 2] [(0, .ref 0), (2, .int x2)] rfl ?_
  refine h_invV (As := [.int x1]) (st := []) dX11_league_79 lk_X11_159 (h_room (by decide)) nl_32 zk_32 (by decide) rfl rfl rfl (Nat.le_of_ble_eq_true rfl) ?_
  exact k1
set_option maxHeartbeats 1000000 in
set_option maxRecDepth 4000 in
theorem sg_X11_league_82 {E : HEn} {d : Nat} {Q : Option Value → HIh → Prop} {I : HIh} {x2 : Int32} {s0 : Int32}
    (k1 : HCall E me_X2_endOf (d + 41) [.ref 32, .int x2] I (fun v9 J => HGo E (mF E (d + 42) Q) me_X11_league 90 [] (v9.toList ++ [.int s0]) J))
    : HGo E (mF E (d + 42) Q) me_X11_league 82 [(0, .ref 0), (2, .int x2)] [.int s0] I := by
  refine h_aload_n dX11_league_82 rfl 0 rfl ?_
  refine gf_9_4 dX11_league_83 hl_X11_39 nl_0 zk_0 zp_0_4 ?_
  refine h_iload_n dX11_league_86 rfl 1 rfl ?_
  refine h_pick [] [] rfl ?_
  refine h_invV (As := [.int x2]) (st := [.int s0]) dX11_league_87 lk_X11_159 (h_room (by decide)) nl_32 zk_32 (by decide) rfl rfl rfl (Nat.le_of_ble_eq_true rfl) ?_
  exact k1
set_option maxHeartbeats 1000000 in
set_option maxRecDepth 4000 in
theorem sg_X11_league_90 {E : HEn} {d : Nat} {Q : Option Value → HIh → Prop} {I : HIh} {s0 : Int32} {s1 : Int32}
    (k1 : Q (some (.int (s1 + s0))) I)
    : HGo E (mF E (d + 42) Q) me_X11_league 90 [] [.int s0, .int s1] I := by
  refine h_iadd dX11_league_90 ?_
  exact h_iret dX11_league_91 rfl (k1)
set_option maxHeartbeats 1000000 in
set_option maxRecDepth 4000 in
theorem sg_X11_mean_0 {E : HEn} {d : Nat} {Q : Option Value → HIh → Prop} {I : HIh} {a : Int32} {b : Int32} {c : Int32}
    (k1 : (0 : Int32) ≤ a → a < 4 → b < 0 → Q (some (.long (-3))) I)
    (k2 : (0 : Int32) ≤ a → a < 4 → ¬ b < 0 → 10 < b → Q (some (.long (-3))) I)
    (k3 : (0 : Int32) ≤ a → a < 4 → ¬ b < 0 → ¬ 10 < b → c < 0 → Q (some (.long (-3))) I)
    (k4 : (0 : Int32) ≤ a → a < 4 → ¬ b < 0 → ¬ 10 < b → ¬ c < 0 → c ≤ 1 → ((I 1 10) - (I 12 1)) ≤ 10 → HCall E me_X2_expected (d + 61) [.ref 32, .ref 12, .int a, .int b, .int c] I (fun v9 J => HGo E (mF E (d + 62) Q) me_X11_mean 72 [] (v9.toList ++ []) J))
    (k5 : (0 : Int32) ≤ a → a < 4 → ¬ b < 0 → ¬ 10 < b → ¬ c < 0 → c ≤ 1 → ¬ ((I 1 10) - (I 12 1)) ≤ 10 → Q (some (.long (-4))) I)
    (k6 : (0 : Int32) ≤ a → a < 4 → ¬ b < 0 → ¬ 10 < b → ¬ c < 0 → ¬ c ≤ 1 → Q (some (.long (-3))) I)
    (k7 : ¬ ((0 : Int32) ≤ a ∧ a < 4) → Q (some (.long (-2))) I)
    : HGo E (mF E (d + 62) Q) me_X11_mean 0 [(0, .ref 0), (1, .int a), (2, .int b), (3, .int c)] [] I := by
  refine h_iload_n dX11_mean_0 rfl 1 rfl ?_
  refine h_invS (As := [.int a]) (st := []) dX11_mean_1 lk_X11_100 (h_room (by decide)) rfl rfl (Nat.le_of_ble_eq_true rfl) ?_
  refine c_X11_isPerson (fun c1 c2 => ?_) (fun c3 => ?_)
  ·
    refine h_if_ne (tgt := 11) dX11_mean_4 (by decide) (fun _ => ?_) (fun c => absurd c (by decide))
    refine h_iload_n dX11_mean_11 rfl 2 rfl ?_
    refine h_if_lt (tgt := 30) dX11_mean_12 (by decide) (fun c4 => ?_) (fun c4 => ?_)
    ·
      refine h_ldc2 dX11_mean_30 wt_701 rfl ?_
      exact h_lret dX11_mean_33 rfl (k1 c1 c2 c4)
    ·
      refine h_iload_n dX11_mean_15 rfl 2 rfl ?_
      refine h_bipush (v := 10) dX11_mean_16 (by decide) ?_
      refine h_icmp_gt (tgt := 30) dX11_mean_18 (by decide) (fun c5 => ?_) (fun c5 => ?_)
      ·
        refine h_ldc2 dX11_mean_30 wt_701 rfl ?_
        exact h_lret dX11_mean_33 rfl (k2 c1 c2 c4 c5)
      ·
        refine h_iload_n dX11_mean_21 rfl 3 rfl ?_
        refine h_if_lt (tgt := 30) dX11_mean_22 (by decide) (fun c6 => ?_) (fun c6 => ?_)
        ·
          refine h_ldc2 dX11_mean_30 wt_701 rfl ?_
          exact h_lret dX11_mean_33 rfl (k3 c1 c2 c4 c5 c6)
        ·
          refine h_iload_n dX11_mean_25 rfl 3 rfl ?_
          refine h_iconst (v := 1) dX11_mean_26 (by decide) ?_
          refine h_icmp_le (tgt := 34) dX11_mean_27 (by decide) (fun c7 => ?_) (fun c7 => ?_)
          ·
            refine h_aload_n dX11_mean_34 rfl 0 rfl ?_
            refine gf_9_0 dX11_mean_35 hl_X11_10 nl_0 zk_0 zp_0_0 ?_
            refine gf_7_10 dX11_mean_38 hl_X11_146 nl_1 zk_1 ?_
            refine h_aload_n dX11_mean_41 rfl 0 rfl ?_
            refine gf_9_1 dX11_mean_42 hl_X11_19 nl_0 zk_0 zp_0_1 ?_
            refine gf_3_1 dX11_mean_45 hl_X11_139 nl_12 zk_12 ?_
            refine h_isub dX11_mean_48 ?_
            refine h_bipush (v := 10) dX11_mean_49 (by decide) ?_
            refine h_icmp_le (tgt := 58) dX11_mean_51 (by decide) (fun c8 => ?_) (fun c8 => ?_)
            ·
              refine h_aload_n dX11_mean_58 rfl 0 rfl ?_
              refine gf_9_4 dX11_mean_59 hl_X11_39 nl_0 zk_0 zp_0_4 ?_
              refine h_aload_n dX11_mean_62 rfl 0 rfl ?_
              refine gf_9_1 dX11_mean_63 hl_X11_19 nl_0 zk_0 zp_0_1 ?_
              refine h_iload_n dX11_mean_66 rfl 1 rfl ?_
              refine h_iload_n dX11_mean_67 rfl 2 rfl ?_
              refine h_iload_n dX11_mean_68 rfl 3 rfl ?_
              refine h_pick [] [] rfl ?_
              refine h_invV (As := [.ref 12, .int a, .int b, .int c]) (st := []) dX11_mean_69 lk_X11_176 (h_room (by decide)) nl_32 zk_32 (by decide) rfl rfl rfl (Nat.le_of_ble_eq_true rfl) ?_
              exact k4 c1 c2 c4 c5 c6 c7 c8
            ·
              refine h_ldc2 dX11_mean_54 wt_702 rfl ?_
              exact h_lret dX11_mean_57 rfl (k5 c1 c2 c4 c5 c6 c7 c8)
          ·
            refine h_ldc2 dX11_mean_30 wt_701 rfl ?_
            exact h_lret dX11_mean_33 rfl (k6 c1 c2 c4 c5 c6 c7)
  ·
    refine h_if_ne (tgt := 11) dX11_mean_4 (by decide) (fun c => absurd c (by decide)) (fun _ => ?_)
    refine h_ldc2 dX11_mean_7 wt_700 rfl ?_
    exact h_lret dX11_mean_10 rfl (k7 c3)
set_option maxHeartbeats 1000000 in
set_option maxRecDepth 4000 in
theorem sg_X11_mean_72 {E : HEn} {d : Nat} {Q : Option Value → HIh → Prop} {I : HIh} {s0 : Int64}
    (k1 : Q (some (.long s0)) I)
    : HGo E (mF E (d + 62) Q) me_X11_mean 72 [] [.long s0] I := by
  exact h_lret dX11_mean_72 rfl (k1)
set_option maxHeartbeats 1000000 in
set_option maxRecDepth 4000 in
theorem sg_X11_dry_0 {E : HEn} {d : Nat} {Q : Option Value → HIh → Prop} {I : HIh} 
    (k1 : HCall E me_X2_tillDry (d + 5) [.ref 32, .ref 12] I (fun v9 J => HGo E (mF E (d + 6) Q) me_X11_dry 11 [] (v9.toList ++ []) J))
    : HGo E (mF E (d + 6) Q) me_X11_dry 0 [(0, .ref 0)] [] I := by
  refine h_aload_n dX11_dry_0 rfl 0 rfl ?_
  refine gf_9_4 dX11_dry_1 hl_X11_39 nl_0 zk_0 zp_0_4 ?_
  refine h_aload_n dX11_dry_4 rfl 0 rfl ?_
  refine gf_9_1 dX11_dry_5 hl_X11_19 nl_0 zk_0 zp_0_1 ?_
  refine h_pick [] [] rfl ?_
  refine h_invV (As := [.ref 12]) (st := []) dX11_dry_8 lk_X11_180 (h_room (by decide)) nl_32 zk_32 (by decide) rfl rfl rfl (Nat.le_of_ble_eq_true rfl) ?_
  exact k1
set_option maxHeartbeats 1000000 in
set_option maxRecDepth 4000 in
theorem sg_X11_dry_11 {E : HEn} {d : Nat} {Q : Option Value → HIh → Prop} {I : HIh} {s0 : Int32}
    (k1 : Q (some (.int s0)) I)
    : HGo E (mF E (d + 6) Q) me_X11_dry 11 [] [.int s0] I := by
  exact h_iret dX11_dry_11 rfl (k1)
set_option maxHeartbeats 1000000 in
set_option maxRecDepth 4000 in
theorem sg_X11_bait_0 {E : HEn} {d : Nat} {Q : Option Value → HIh → Prop} {I : HIh} {a : Int32}
    (k1 : (0 : Int32) ≤ a → a < 4 → HCall E me_X2_leastBait (d + 5) [.ref 32, .ref 12, .int a] I (fun v9 J => HGo E (mF E (d + 6) Q) me_X11_bait 19 [] (v9.toList ++ []) J))
    (k2 : ¬ ((0 : Int32) ≤ a ∧ a < 4) → Q (some (.int (-2))) I)
    : HGo E (mF E (d + 6) Q) me_X11_bait 0 [(0, .ref 0), (1, .int a)] [] I := by
  refine h_iload_n dX11_bait_0 rfl 1 rfl ?_
  refine h_invS (As := [.int a]) (st := []) dX11_bait_1 lk_X11_100 (h_room (by decide)) rfl rfl (Nat.le_of_ble_eq_true rfl) ?_
  refine c_X11_isPerson (fun c1 c2 => ?_) (fun c3 => ?_)
  ·
    refine h_if_eq (tgt := 22) dX11_bait_4 (by decide) (fun c => absurd c (by decide)) (fun _ => ?_)
    refine h_aload_n dX11_bait_7 rfl 0 rfl ?_
    refine gf_9_4 dX11_bait_8 hl_X11_39 nl_0 zk_0 zp_0_4 ?_
    refine h_aload_n dX11_bait_11 rfl 0 rfl ?_
    refine gf_9_1 dX11_bait_12 hl_X11_19 nl_0 zk_0 zp_0_1 ?_
    refine h_iload_n dX11_bait_15 rfl 1 rfl ?_
    refine h_pick [] [] rfl ?_
    refine h_invV (As := [.ref 12, .int a]) (st := []) dX11_bait_16 lk_X11_183 (h_room (by decide)) nl_32 zk_32 (by decide) rfl rfl rfl (Nat.le_of_ble_eq_true rfl) ?_
    exact k1 c1 c2
  ·
    refine h_if_eq (tgt := 22) dX11_bait_4 (by decide) (fun _ => ?_) (fun c => absurd c (by decide))
    refine h_bipush (v := (-2)) dX11_bait_22 (by decide) ?_
    exact h_iret dX11_bait_24 rfl (k2 c3)
set_option maxHeartbeats 1000000 in
set_option maxRecDepth 4000 in
theorem sg_X11_bait_19 {E : HEn} {d : Nat} {Q : Option Value → HIh → Prop} {I : HIh} {s0 : Int32}
    (k1 : Q (some (.int s0)) I)
    : HGo E (mF E (d + 6) Q) me_X11_bait 19 [] [.int s0] I := by
  refine h_goto (tgt := 24) dX11_bait_19 (by decide) ?_
  exact h_iret dX11_bait_24 rfl (k1)
set_option maxHeartbeats 1000000 in
set_option maxRecDepth 4000 in
theorem sg_X11_note_0 {E : HEn} {d : Nat} {Q : Option Value → HIh → Prop} {I : HIh} {a : Int32} {b : Int32}
    (k1 : (0 : Int32) ≤ a → a < I 1 9 → b < 0 → Q (some (.int (-3))) I)
    (k2 : (0 : Int32) ≤ a → a < I 1 9 → ¬ b < 0 → b ≤ 9999 → HCall E me_X6_add (d + 1) [.ref 80, .int a, .int b] I (fun v9 J => HGo E (mF E (d + 2) Q) me_X11_note 37 [(0, .ref 0)] (v9.toList ++ []) J))
    (k3 : (0 : Int32) ≤ a → a < I 1 9 → ¬ b < 0 → ¬ b ≤ 9999 → Q (some (.int (-3))) I)
    (k4 : ¬ ((0 : Int32) ≤ a ∧ a < I 1 9) → Q (some (.int (-2))) I)
    : HGo E (mF E (d + 2) Q) me_X11_note 0 [(0, .ref 0), (1, .int a), (2, .int b)] [] I := by
  refine h_aload_n dX11_note_0 rfl 0 rfl ?_
  refine gf_9_0 dX11_note_1 hl_X11_10 nl_0 zk_0 zp_0_0 ?_
  refine h_iload_n dX11_note_4 rfl 1 rfl ?_
  refine h_invV (As := [.int a]) (st := []) dX11_note_5 lk_X11_88 (h_room (by decide)) nl_1 zk_1 (by decide) rfl rfl rfl (Nat.le_of_ble_eq_true rfl) ?_
  refine c_X9_hasKind (fun c1 c2 => ?_) (fun c3 => ?_)
  ·
    refine h_if_ne (tgt := 14) dX11_note_8 (by decide) (fun _ => ?_) (fun c => absurd c (by decide))
    refine h_iload_n dX11_note_14 rfl 2 rfl ?_
    refine h_if_lt (tgt := 25) dX11_note_15 (by decide) (fun c4 => ?_) (fun c4 => ?_)
    ·
      refine h_bipush (v := (-3)) dX11_note_25 (by decide) ?_
      exact h_iret dX11_note_27 rfl (k1 c1 c2 c4)
    ·
      refine h_iload_n dX11_note_18 rfl 2 rfl ?_
      refine h_sipush (v := 9999) dX11_note_19 (by decide) ?_
      refine h_icmp_le (tgt := 28) dX11_note_22 (by decide) (fun c5 => ?_) (fun c5 => ?_)
      ·
        refine h_aload_n dX11_note_28 rfl 0 rfl ?_
        refine gf_9_5 dX11_note_29 hl_X11_46 nl_0 zk_0 zp_0_5 ?_
        refine h_iload_n dX11_note_32 rfl 1 rfl ?_
        refine h_iload_n dX11_note_33 rfl 2 rfl ?_
        refine h_pick [0] [(0, .ref 0)] rfl ?_
        refine h_invV (As := [.int a, .int b]) (st := []) dX11_note_34 lk_X11_186 (h_room (by decide)) nl_80 zk_80 (by decide) rfl rfl rfl (Nat.le_of_ble_eq_true rfl) ?_
        exact k2 c1 c2 c4 c5
      ·
        refine h_bipush (v := (-3)) dX11_note_25 (by decide) ?_
        exact h_iret dX11_note_27 rfl (k3 c1 c2 c4 c5)
  ·
    refine h_if_ne (tgt := 14) dX11_note_8 (by decide) (fun c => absurd c (by decide)) (fun _ => ?_)
    refine h_bipush (v := (-2)) dX11_note_11 (by decide) ?_
    exact h_iret dX11_note_13 rfl (k4 c3)
set_option maxHeartbeats 1000000 in
set_option maxRecDepth 4000 in
theorem sg_X11_note_37 {E : HEn} {d : Nat} {Q : Option Value → HIh → Prop} {I : HIh} {s0 : Int32}
    (k1 : s0 = 0 → Q (some (.int (-5))) I)
    (k2 : ¬ s0 = 0 → Q (some (.int (I 80 6))) I)
    : HGo E (mF E (d + 2) Q) me_X11_note 37 [(0, .ref 0)] [.int s0] I := by
  refine h_if_eq (tgt := 50) dX11_note_37 (by decide) (fun c1 => ?_) (fun c1 => ?_)
  ·
    refine h_bipush (v := (-5)) dX11_note_50 (by decide) ?_
    exact h_iret dX11_note_52 rfl (k1 c1)
  ·
    refine h_aload_n dX11_note_40 rfl 0 rfl ?_
    refine gf_9_5 dX11_note_41 hl_X11_46 nl_0 zk_0 zp_0_5 ?_
    refine gf_5_6 dX11_note_44 hl_X11_76 nl_80 zk_80 ?_
    refine h_goto (tgt := 52) dX11_note_47 (by decide) ?_
    exact h_iret dX11_note_52 rfl (k2 c1)
set_option maxHeartbeats 1000000 in
set_option maxRecDepth 4000 in
theorem sg_X11_forget_0 {E : HEn} {d : Nat} {Q : Option Value → HIh → Prop} {I : HIh} 
    (k1 : Q (some (.int (I 80 6))) (setI I 80 (upd (I 80) 6 0)))
    : HGo E (mF E (d + 1) Q) me_X11_forget 0 [(0, .ref 0)] [] I := by
  refine h_aload_n dX11_forget_0 rfl 0 rfl ?_
  refine gf_9_5 dX11_forget_1 hl_X11_46 nl_0 zk_0 zp_0_5 ?_
  refine gf_5_6 dX11_forget_4 hl_X11_76 nl_80 zk_80 ?_
  refine h_istore_n (L' := [(1, .int (I 80 6)), (0, .ref 0)]) dX11_forget_7 rfl (by decide) rfl ?_
  refine h_aload_n dX11_forget_8 rfl 1 rfl ?_
  refine gf_9_5 dX11_forget_9 hl_X11_46 nl_0 zk_0 zp_0_5 ?_
  refine h_iconst (v := 0) dX11_forget_12 (by decide) ?_
  refine pf_5_6 dX11_forget_13 hl_X11_76 nl_80 zk_80 ?_
  refine h_iload_n dX11_forget_16 rfl 0 rfl ?_
  exact h_iret dX11_forget_17 rfl (k1)
set_option maxHeartbeats 1000000 in
set_option maxRecDepth 4000 in
theorem sg_X11_lay_0 {E : HEn} {d : Nat} {Q : Option Value → HIh → Prop} {I : HIh} {a : Int32}
    (k1 : a < 10 → a < 20 → a = 0 → (I 1 9) ≤ 4 → HCall E me_X6_searchLayings (d + 4) [.ref 80] I (fun v9 J => HGo E (mF E (d + 5) Q) me_X11_lay 97 [(0, .ref 0), (1, .int a), (2, .int (-1)), (3, .int (-1))] (v9.toList ++ []) J))
    (k2 : a < 10 → a < 20 → a = 0 → ¬ (I 1 9) ≤ 4 → Q (some (.int (-4))) I)
    (k3 : a < 10 → a < 20 → ¬ a = 0 → a = 1 → (I 1 9) ≤ 4 → HCall E me_X6_searchLayings (d + 4) [.ref 80] I (fun v9 J => HGo E (mF E (d + 5) Q) me_X11_lay 97 [(0, .ref 0), (1, .int a), (2, .int (-1)), (3, .int (-1))] (v9.toList ++ []) J))
    (k4 : a < 10 → a < 20 → ¬ a = 0 → a = 1 → ¬ (I 1 9) ≤ 4 → Q (some (.int (-4))) I)
    (k5 : a < 10 → a < 20 → ¬ a = 0 → ¬ a = 1 → ¬ ((0 : Int32) ≤ (-1) ∧ (-1) < I 1 9) → ¬ ((0 : Int32) ≤ (-1) ∧ (-1) < I 1 9) → Q (some (.int (-3))) I)
    (k6 : a < 10 → ¬ a < 20 → 30 ≤ a → a = 0 → (I 1 9) ≤ 4 → HCall E me_X6_searchLayings (d + 4) [.ref 80] I (fun v9 J => HGo E (mF E (d + 5) Q) me_X11_lay 97 [(0, .ref 0), (1, .int a), (2, .int (-1)), (3, .int (-1))] (v9.toList ++ []) J))
    (k7 : a < 10 → ¬ a < 20 → 30 ≤ a → a = 0 → ¬ (I 1 9) ≤ 4 → Q (some (.int (-4))) I)
    (k8 : a < 10 → ¬ a < 20 → 30 ≤ a → ¬ a = 0 → a = 1 → (I 1 9) ≤ 4 → HCall E me_X6_searchLayings (d + 4) [.ref 80] I (fun v9 J => HGo E (mF E (d + 5) Q) me_X11_lay 97 [(0, .ref 0), (1, .int a), (2, .int (-1)), (3, .int (-1))] (v9.toList ++ []) J))
    (k9 : a < 10 → ¬ a < 20 → 30 ≤ a → ¬ a = 0 → a = 1 → ¬ (I 1 9) ≤ 4 → Q (some (.int (-4))) I)
    (k10 : a < 10 → ¬ a < 20 → 30 ≤ a → ¬ a = 0 → ¬ a = 1 → ¬ ((0 : Int32) ≤ (-1) ∧ (-1) < I 1 9) → ¬ ((0 : Int32) ≤ (-1) ∧ (-1) < I 1 9) → Q (some (.int (-3))) I)
    (k11 : a < 10 → ¬ a < 20 → ¬ 30 ≤ a → a = 0 → (I 1 9) ≤ 4 → HCall E me_X6_searchLayings (d + 4) [.ref 80] I (fun v9 J => HGo E (mF E (d + 5) Q) me_X11_lay 97 [(0, .ref 0), (1, .int a), (2, .int (-1)), (3, .int (a - 20))] (v9.toList ++ []) J))
    (k12 : a < 10 → ¬ a < 20 → ¬ 30 ≤ a → a = 0 → ¬ (I 1 9) ≤ 4 → Q (some (.int (-4))) I)
    (k13 : a < 10 → ¬ a < 20 → ¬ 30 ≤ a → ¬ a = 0 → a = 1 → (I 1 9) ≤ 4 → HCall E me_X6_searchLayings (d + 4) [.ref 80] I (fun v9 J => HGo E (mF E (d + 5) Q) me_X11_lay 97 [(0, .ref 0), (1, .int a), (2, .int (-1)), (3, .int (a - 20))] (v9.toList ++ []) J))
    (k14 : a < 10 → ¬ a < 20 → ¬ 30 ≤ a → ¬ a = 0 → a = 1 → ¬ (I 1 9) ≤ 4 → Q (some (.int (-4))) I)
    (k15 : a < 10 → ¬ a < 20 → ¬ 30 ≤ a → ¬ a = 0 → ¬ a = 1 → ¬ ((0 : Int32) ≤ (-1) ∧ (-1) < I 1 9) → (0 : Int32) ≤ (a - 20) → (a - 20) < I 1 9 → (I 1 9) ≤ 4 → HCall E me_X6_searchLayings (d + 4) [.ref 80] I (fun v9 J => HGo E (mF E (d + 5) Q) me_X11_lay 97 [(0, .ref 0), (1, .int a), (2, .int (-1)), (3, .int (a - 20))] (v9.toList ++ []) J))
    (k16 : a < 10 → ¬ a < 20 → ¬ 30 ≤ a → ¬ a = 0 → ¬ a = 1 → ¬ ((0 : Int32) ≤ (-1) ∧ (-1) < I 1 9) → (0 : Int32) ≤ (a - 20) → (a - 20) < I 1 9 → ¬ (I 1 9) ≤ 4 → Q (some (.int (-4))) I)
    (k17 : a < 10 → ¬ a < 20 → ¬ 30 ≤ a → ¬ a = 0 → ¬ a = 1 → ¬ ((0 : Int32) ≤ (-1) ∧ (-1) < I 1 9) → ¬ ((0 : Int32) ≤ (a - 20) ∧ (a - 20) < I 1 9) → Q (some (.int (-3))) I)
    (k18 : ¬ a < 10 → 20 ≤ a → a < 20 → a = 0 → (I 1 9) ≤ 4 → HCall E me_X6_searchLayings (d + 4) [.ref 80] I (fun v9 J => HGo E (mF E (d + 5) Q) me_X11_lay 97 [(0, .ref 0), (1, .int a), (2, .int (-1)), (3, .int (-1))] (v9.toList ++ []) J))
    (k19 : ¬ a < 10 → 20 ≤ a → a < 20 → a = 0 → ¬ (I 1 9) ≤ 4 → Q (some (.int (-4))) I)
    (k20 : ¬ a < 10 → 20 ≤ a → a < 20 → ¬ a = 0 → a = 1 → (I 1 9) ≤ 4 → HCall E me_X6_searchLayings (d + 4) [.ref 80] I (fun v9 J => HGo E (mF E (d + 5) Q) me_X11_lay 97 [(0, .ref 0), (1, .int a), (2, .int (-1)), (3, .int (-1))] (v9.toList ++ []) J))
    (k21 : ¬ a < 10 → 20 ≤ a → a < 20 → ¬ a = 0 → a = 1 → ¬ (I 1 9) ≤ 4 → Q (some (.int (-4))) I)
    (k22 : ¬ a < 10 → 20 ≤ a → a < 20 → ¬ a = 0 → ¬ a = 1 → ¬ ((0 : Int32) ≤ (-1) ∧ (-1) < I 1 9) → ¬ ((0 : Int32) ≤ (-1) ∧ (-1) < I 1 9) → Q (some (.int (-3))) I)
    (k23 : ¬ a < 10 → 20 ≤ a → ¬ a < 20 → 30 ≤ a → a = 0 → (I 1 9) ≤ 4 → HCall E me_X6_searchLayings (d + 4) [.ref 80] I (fun v9 J => HGo E (mF E (d + 5) Q) me_X11_lay 97 [(0, .ref 0), (1, .int a), (2, .int (-1)), (3, .int (-1))] (v9.toList ++ []) J))
    (k24 : ¬ a < 10 → 20 ≤ a → ¬ a < 20 → 30 ≤ a → a = 0 → ¬ (I 1 9) ≤ 4 → Q (some (.int (-4))) I)
    (k25 : ¬ a < 10 → 20 ≤ a → ¬ a < 20 → 30 ≤ a → ¬ a = 0 → a = 1 → (I 1 9) ≤ 4 → HCall E me_X6_searchLayings (d + 4) [.ref 80] I (fun v9 J => HGo E (mF E (d + 5) Q) me_X11_lay 97 [(0, .ref 0), (1, .int a), (2, .int (-1)), (3, .int (-1))] (v9.toList ++ []) J))
    (k26 : ¬ a < 10 → 20 ≤ a → ¬ a < 20 → 30 ≤ a → ¬ a = 0 → a = 1 → ¬ (I 1 9) ≤ 4 → Q (some (.int (-4))) I)
    (k27 : ¬ a < 10 → 20 ≤ a → ¬ a < 20 → 30 ≤ a → ¬ a = 0 → ¬ a = 1 → ¬ ((0 : Int32) ≤ (-1) ∧ (-1) < I 1 9) → ¬ ((0 : Int32) ≤ (-1) ∧ (-1) < I 1 9) → Q (some (.int (-3))) I)
    (k28 : ¬ a < 10 → 20 ≤ a → ¬ a < 20 → ¬ 30 ≤ a → a = 0 → (I 1 9) ≤ 4 → HCall E me_X6_searchLayings (d + 4) [.ref 80] I (fun v9 J => HGo E (mF E (d + 5) Q) me_X11_lay 97 [(0, .ref 0), (1, .int a), (2, .int (-1)), (3, .int (a - 20))] (v9.toList ++ []) J))
    (k29 : ¬ a < 10 → 20 ≤ a → ¬ a < 20 → ¬ 30 ≤ a → a = 0 → ¬ (I 1 9) ≤ 4 → Q (some (.int (-4))) I)
    (k30 : ¬ a < 10 → 20 ≤ a → ¬ a < 20 → ¬ 30 ≤ a → ¬ a = 0 → a = 1 → (I 1 9) ≤ 4 → HCall E me_X6_searchLayings (d + 4) [.ref 80] I (fun v9 J => HGo E (mF E (d + 5) Q) me_X11_lay 97 [(0, .ref 0), (1, .int a), (2, .int (-1)), (3, .int (a - 20))] (v9.toList ++ []) J))
    (k31 : ¬ a < 10 → 20 ≤ a → ¬ a < 20 → ¬ 30 ≤ a → ¬ a = 0 → a = 1 → ¬ (I 1 9) ≤ 4 → Q (some (.int (-4))) I)
    (k32 : ¬ a < 10 → 20 ≤ a → ¬ a < 20 → ¬ 30 ≤ a → ¬ a = 0 → ¬ a = 1 → ¬ ((0 : Int32) ≤ (-1) ∧ (-1) < I 1 9) → (0 : Int32) ≤ (a - 20) → (a - 20) < I 1 9 → (I 1 9) ≤ 4 → HCall E me_X6_searchLayings (d + 4) [.ref 80] I (fun v9 J => HGo E (mF E (d + 5) Q) me_X11_lay 97 [(0, .ref 0), (1, .int a), (2, .int (-1)), (3, .int (a - 20))] (v9.toList ++ []) J))
    (k33 : ¬ a < 10 → 20 ≤ a → ¬ a < 20 → ¬ 30 ≤ a → ¬ a = 0 → ¬ a = 1 → ¬ ((0 : Int32) ≤ (-1) ∧ (-1) < I 1 9) → (0 : Int32) ≤ (a - 20) → (a - 20) < I 1 9 → ¬ (I 1 9) ≤ 4 → Q (some (.int (-4))) I)
    (k34 : ¬ a < 10 → 20 ≤ a → ¬ a < 20 → ¬ 30 ≤ a → ¬ a = 0 → ¬ a = 1 → ¬ ((0 : Int32) ≤ (-1) ∧ (-1) < I 1 9) → ¬ ((0 : Int32) ≤ (a - 20) ∧ (a - 20) < I 1 9) → Q (some (.int (-3))) I)
    (k35 : ¬ a < 10 → ¬ 20 ≤ a → a < 20 → a = 0 → (I 1 9) ≤ 4 → HCall E me_X6_searchLayings (d + 4) [.ref 80] I (fun v9 J => HGo E (mF E (d + 5) Q) me_X11_lay 97 [(0, .ref 0), (1, .int a), (2, .int (a - 10)), (3, .int (-1))] (v9.toList ++ []) J))
    (k36 : ¬ a < 10 → ¬ 20 ≤ a → a < 20 → a = 0 → ¬ (I 1 9) ≤ 4 → Q (some (.int (-4))) I)
    (k37 : ¬ a < 10 → ¬ 20 ≤ a → a < 20 → ¬ a = 0 → a = 1 → (I 1 9) ≤ 4 → HCall E me_X6_searchLayings (d + 4) [.ref 80] I (fun v9 J => HGo E (mF E (d + 5) Q) me_X11_lay 97 [(0, .ref 0), (1, .int a), (2, .int (a - 10)), (3, .int (-1))] (v9.toList ++ []) J))
    (k38 : ¬ a < 10 → ¬ 20 ≤ a → a < 20 → ¬ a = 0 → a = 1 → ¬ (I 1 9) ≤ 4 → Q (some (.int (-4))) I)
    (k39 : ¬ a < 10 → ¬ 20 ≤ a → a < 20 → ¬ a = 0 → ¬ a = 1 → (0 : Int32) ≤ (a - 10) → (a - 10) < I 1 9 → (I 1 9) ≤ 4 → HCall E me_X6_searchLayings (d + 4) [.ref 80] I (fun v9 J => HGo E (mF E (d + 5) Q) me_X11_lay 97 [(0, .ref 0), (1, .int a), (2, .int (a - 10)), (3, .int (-1))] (v9.toList ++ []) J))
    (k40 : ¬ a < 10 → ¬ 20 ≤ a → a < 20 → ¬ a = 0 → ¬ a = 1 → (0 : Int32) ≤ (a - 10) → (a - 10) < I 1 9 → ¬ (I 1 9) ≤ 4 → Q (some (.int (-4))) I)
    (k41 : ¬ a < 10 → ¬ 20 ≤ a → a < 20 → ¬ a = 0 → ¬ a = 1 → ¬ ((0 : Int32) ≤ (a - 10) ∧ (a - 10) < I 1 9) → ¬ ((0 : Int32) ≤ (-1) ∧ (-1) < I 1 9) → Q (some (.int (-3))) I)
    (k42 : ¬ a < 10 → ¬ 20 ≤ a → ¬ a < 20 → 30 ≤ a → a = 0 → (I 1 9) ≤ 4 → HCall E me_X6_searchLayings (d + 4) [.ref 80] I (fun v9 J => HGo E (mF E (d + 5) Q) me_X11_lay 97 [(0, .ref 0), (1, .int a), (2, .int (a - 10)), (3, .int (-1))] (v9.toList ++ []) J))
    (k43 : ¬ a < 10 → ¬ 20 ≤ a → ¬ a < 20 → 30 ≤ a → a = 0 → ¬ (I 1 9) ≤ 4 → Q (some (.int (-4))) I)
    (k44 : ¬ a < 10 → ¬ 20 ≤ a → ¬ a < 20 → 30 ≤ a → ¬ a = 0 → a = 1 → (I 1 9) ≤ 4 → HCall E me_X6_searchLayings (d + 4) [.ref 80] I (fun v9 J => HGo E (mF E (d + 5) Q) me_X11_lay 97 [(0, .ref 0), (1, .int a), (2, .int (a - 10)), (3, .int (-1))] (v9.toList ++ []) J))
    (k45 : ¬ a < 10 → ¬ 20 ≤ a → ¬ a < 20 → 30 ≤ a → ¬ a = 0 → a = 1 → ¬ (I 1 9) ≤ 4 → Q (some (.int (-4))) I)
    (k46 : ¬ a < 10 → ¬ 20 ≤ a → ¬ a < 20 → 30 ≤ a → ¬ a = 0 → ¬ a = 1 → (0 : Int32) ≤ (a - 10) → (a - 10) < I 1 9 → (I 1 9) ≤ 4 → HCall E me_X6_searchLayings (d + 4) [.ref 80] I (fun v9 J => HGo E (mF E (d + 5) Q) me_X11_lay 97 [(0, .ref 0), (1, .int a), (2, .int (a - 10)), (3, .int (-1))] (v9.toList ++ []) J))
    (k47 : ¬ a < 10 → ¬ 20 ≤ a → ¬ a < 20 → 30 ≤ a → ¬ a = 0 → ¬ a = 1 → (0 : Int32) ≤ (a - 10) → (a - 10) < I 1 9 → ¬ (I 1 9) ≤ 4 → Q (some (.int (-4))) I)
    (k48 : ¬ a < 10 → ¬ 20 ≤ a → ¬ a < 20 → 30 ≤ a → ¬ a = 0 → ¬ a = 1 → ¬ ((0 : Int32) ≤ (a - 10) ∧ (a - 10) < I 1 9) → ¬ ((0 : Int32) ≤ (-1) ∧ (-1) < I 1 9) → Q (some (.int (-3))) I)
    (k49 : ¬ a < 10 → ¬ 20 ≤ a → ¬ a < 20 → ¬ 30 ≤ a → a = 0 → (I 1 9) ≤ 4 → HCall E me_X6_searchLayings (d + 4) [.ref 80] I (fun v9 J => HGo E (mF E (d + 5) Q) me_X11_lay 97 [(0, .ref 0), (1, .int a), (2, .int (a - 10)), (3, .int (a - 20))] (v9.toList ++ []) J))
    (k50 : ¬ a < 10 → ¬ 20 ≤ a → ¬ a < 20 → ¬ 30 ≤ a → a = 0 → ¬ (I 1 9) ≤ 4 → Q (some (.int (-4))) I)
    (k51 : ¬ a < 10 → ¬ 20 ≤ a → ¬ a < 20 → ¬ 30 ≤ a → ¬ a = 0 → a = 1 → (I 1 9) ≤ 4 → HCall E me_X6_searchLayings (d + 4) [.ref 80] I (fun v9 J => HGo E (mF E (d + 5) Q) me_X11_lay 97 [(0, .ref 0), (1, .int a), (2, .int (a - 10)), (3, .int (a - 20))] (v9.toList ++ []) J))
    (k52 : ¬ a < 10 → ¬ 20 ≤ a → ¬ a < 20 → ¬ 30 ≤ a → ¬ a = 0 → a = 1 → ¬ (I 1 9) ≤ 4 → Q (some (.int (-4))) I)
    (k53 : ¬ a < 10 → ¬ 20 ≤ a → ¬ a < 20 → ¬ 30 ≤ a → ¬ a = 0 → ¬ a = 1 → (0 : Int32) ≤ (a - 10) → (a - 10) < I 1 9 → (I 1 9) ≤ 4 → HCall E me_X6_searchLayings (d + 4) [.ref 80] I (fun v9 J => HGo E (mF E (d + 5) Q) me_X11_lay 97 [(0, .ref 0), (1, .int a), (2, .int (a - 10)), (3, .int (a - 20))] (v9.toList ++ []) J))
    (k54 : ¬ a < 10 → ¬ 20 ≤ a → ¬ a < 20 → ¬ 30 ≤ a → ¬ a = 0 → ¬ a = 1 → (0 : Int32) ≤ (a - 10) → (a - 10) < I 1 9 → ¬ (I 1 9) ≤ 4 → Q (some (.int (-4))) I)
    (k55 : ¬ a < 10 → ¬ 20 ≤ a → ¬ a < 20 → ¬ 30 ≤ a → ¬ a = 0 → ¬ a = 1 → ¬ ((0 : Int32) ≤ (a - 10) ∧ (a - 10) < I 1 9) → (0 : Int32) ≤ (a - 20) → (a - 20) < I 1 9 → (I 1 9) ≤ 4 → HCall E me_X6_searchLayings (d + 4) [.ref 80] I (fun v9 J => HGo E (mF E (d + 5) Q) me_X11_lay 97 [(0, .ref 0), (1, .int a), (2, .int (a - 10)), (3, .int (a - 20))] (v9.toList ++ []) J))
    (k56 : ¬ a < 10 → ¬ 20 ≤ a → ¬ a < 20 → ¬ 30 ≤ a → ¬ a = 0 → ¬ a = 1 → ¬ ((0 : Int32) ≤ (a - 10) ∧ (a - 10) < I 1 9) → (0 : Int32) ≤ (a - 20) → (a - 20) < I 1 9 → ¬ (I 1 9) ≤ 4 → Q (some (.int (-4))) I)
    (k57 : ¬ a < 10 → ¬ 20 ≤ a → ¬ a < 20 → ¬ 30 ≤ a → ¬ a = 0 → ¬ a = 1 → ¬ ((0 : Int32) ≤ (a - 10) ∧ (a - 10) < I 1 9) → ¬ ((0 : Int32) ≤ (a - 20) ∧ (a - 20) < I 1 9) → Q (some (.int (-3))) I)
    : HGo E (mF E (d + 5) Q) me_X11_lay 0 [(0, .ref 0), (1, .int a)] [] I := by
  refine h_iload_n dX11_lay_0 rfl 1 rfl ?_
  refine h_bipush (v := 10) dX11_lay_1 (by decide) ?_
  refine h_icmp_lt (tgt := 19) dX11_lay_3 (by decide) (fun c1 => ?_) (fun c1 => ?_)
  ·
    refine h_iconst (v := (-1)) dX11_lay_19 (by decide) ?_
    refine h_istore_n (L' := [(2, .int (-1)), (0, .ref 0), (1, .int a)]) dX11_lay_20 rfl (by decide) rfl ?_
    refine h_iload_n dX11_lay_21 rfl 2 rfl ?_
    refine h_bipush (v := 20) dX11_lay_22 (by decide) ?_
    refine h_icmp_lt (tgt := 40) dX11_lay_24 (by decide) (fun c2 => ?_) (fun c2 => ?_)
    ·
      refine h_iconst (v := (-1)) dX11_lay_40 (by decide) ?_
      refine h_istore_n (L' := [(3, .int (-1)), (2, .int (-1)), (0, .ref 0), (1, .int a)]) dX11_lay_41 rfl (by decide) rfl ?_
      refine h_iload_n dX11_lay_42 rfl 3 rfl ?_
      refine h_if_eq (tgt := 76) dX11_lay_43 (by decide) (fun c3 => ?_) (fun c3 => ?_)
      ·
        refine h_aload_n dX11_lay_76 rfl 2 rfl ?_
        refine gf_9_0 dX11_lay_77 hl_X11_10 nl_0 zk_0 zp_0_0 ?_
        refine gf_7_9 dX11_lay_80 hl_X11_190 nl_1 zk_1 ?_
        refine h_iconst (v := 4) dX11_lay_83 (by decide) ?_
        refine h_icmp_le (tgt := 90) dX11_lay_84 (by decide) (fun c4 => ?_) (fun c4 => ?_)
        ·
          refine h_aload_n dX11_lay_90 rfl 2 rfl ?_
          refine gf_9_5 dX11_lay_91 hl_X11_46 nl_0 zk_0 zp_0_5 ?_
          refine h_pick [2, 3, 1, 0] [(0, .ref 0), (1, .int a), (2, .int (-1)), (3, .int (-1))] rfl ?_
          refine h_invV (As := []) (st := []) dX11_lay_94 lk_X11_193 (h_room (by decide)) nl_80 zk_80 (by decide) rfl rfl rfl (Nat.le_of_ble_eq_true rfl) ?_
          exact k1 c1 c2 c3 c4
        ·
          refine h_bipush (v := (-4)) dX11_lay_87 (by decide) ?_
          exact h_iret dX11_lay_89 rfl (k2 c1 c2 c3 c4)
      ·
        refine h_iload_n dX11_lay_46 rfl 3 rfl ?_
        refine h_iconst (v := 1) dX11_lay_47 (by decide) ?_
        refine h_icmp_eq (tgt := 76) dX11_lay_48 (by decide) (fun c5 => ?_) (fun c5 => ?_)
        ·
          refine h_aload_n dX11_lay_76 rfl 2 rfl ?_
          refine gf_9_0 dX11_lay_77 hl_X11_10 nl_0 zk_0 zp_0_0 ?_
          refine gf_7_9 dX11_lay_80 hl_X11_190 nl_1 zk_1 ?_
          refine h_iconst (v := 4) dX11_lay_83 (by decide) ?_
          refine h_icmp_le (tgt := 90) dX11_lay_84 (by decide) (fun c6 => ?_) (fun c6 => ?_)
          ·
            refine h_aload_n dX11_lay_90 rfl 2 rfl ?_
            refine gf_9_5 dX11_lay_91 hl_X11_46 nl_0 zk_0 zp_0_5 ?_
            refine h_pick [2, 3, 1, 0] [(0, .ref 0), (1, .int a), (2, .int (-1)), (3, .int (-1))] rfl ?_
            refine h_invV (As := []) (st := []) dX11_lay_94 lk_X11_193 (h_room (by decide)) nl_80 zk_80 (by decide) rfl rfl rfl (Nat.le_of_ble_eq_true rfl) ?_
            exact k3 c1 c2 c3 c5 c6
          ·
            refine h_bipush (v := (-4)) dX11_lay_87 (by decide) ?_
            exact h_iret dX11_lay_89 rfl (k4 c1 c2 c3 c5 c6)
        ·
          refine h_aload_n dX11_lay_51 rfl 2 rfl ?_
          refine gf_9_0 dX11_lay_52 hl_X11_10 nl_0 zk_0 zp_0_0 ?_
          refine h_iload_n dX11_lay_55 rfl 1 rfl ?_
          refine h_invV (As := [.int (-1)]) (st := []) dX11_lay_56 lk_X11_88 (h_room (by decide)) nl_1 zk_1 (by decide) rfl rfl rfl (Nat.le_of_ble_eq_true rfl) ?_
          refine c_X9_hasKind (fun c7 c8 => absurd c7 (by decide)) (fun c9 => ?_)
          ·
            refine h_if_ne (tgt := 76) dX11_lay_59 (by decide) (fun c => absurd c (by decide)) (fun _ => ?_)
            refine h_aload_n dX11_lay_62 rfl 2 rfl ?_
            refine gf_9_0 dX11_lay_63 hl_X11_10 nl_0 zk_0 zp_0_0 ?_
            refine h_iload_n dX11_lay_66 rfl 0 rfl ?_
            refine h_invV (As := [.int (-1)]) (st := []) dX11_lay_67 lk_X11_88 (h_room (by decide)) nl_1 zk_1 (by decide) rfl rfl rfl (Nat.le_of_ble_eq_true rfl) ?_
            refine c_X9_hasKind (fun c10 c11 => absurd c10 (by decide)) (fun c12 => ?_)
            ·
              refine h_if_ne (tgt := 76) dX11_lay_70 (by decide) (fun c => absurd c (by decide)) (fun _ => ?_)
              refine h_bipush (v := (-3)) dX11_lay_73 (by decide) ?_
              exact h_iret dX11_lay_75 rfl (k5 c1 c2 c3 c5 c9 c12)
    ·
      refine h_iload_n dX11_lay_27 rfl 2 rfl ?_
      refine h_bipush (v := 30) dX11_lay_28 (by decide) ?_
      refine h_icmp_ge (tgt := 40) dX11_lay_30 (by decide) (fun c13 => ?_) (fun c13 => ?_)
      ·
        refine h_iconst (v := (-1)) dX11_lay_40 (by decide) ?_
        refine h_istore_n (L' := [(3, .int (-1)), (2, .int (-1)), (0, .ref 0), (1, .int a)]) dX11_lay_41 rfl (by decide) rfl ?_
        refine h_iload_n dX11_lay_42 rfl 3 rfl ?_
        refine h_if_eq (tgt := 76) dX11_lay_43 (by decide) (fun c14 => ?_) (fun c14 => ?_)
        ·
          refine h_aload_n dX11_lay_76 rfl 2 rfl ?_
          refine gf_9_0 dX11_lay_77 hl_X11_10 nl_0 zk_0 zp_0_0 ?_
          refine gf_7_9 dX11_lay_80 hl_X11_190 nl_1 zk_1 ?_
          refine h_iconst (v := 4) dX11_lay_83 (by decide) ?_
          refine h_icmp_le (tgt := 90) dX11_lay_84 (by decide) (fun c15 => ?_) (fun c15 => ?_)
          ·
            refine h_aload_n dX11_lay_90 rfl 2 rfl ?_
            refine gf_9_5 dX11_lay_91 hl_X11_46 nl_0 zk_0 zp_0_5 ?_
            refine h_pick [2, 3, 1, 0] [(0, .ref 0), (1, .int a), (2, .int (-1)), (3, .int (-1))] rfl ?_
            refine h_invV (As := []) (st := []) dX11_lay_94 lk_X11_193 (h_room (by decide)) nl_80 zk_80 (by decide) rfl rfl rfl (Nat.le_of_ble_eq_true rfl) ?_
            exact k6 c1 c2 c13 c14 c15
          ·
            refine h_bipush (v := (-4)) dX11_lay_87 (by decide) ?_
            exact h_iret dX11_lay_89 rfl (k7 c1 c2 c13 c14 c15)
        ·
          refine h_iload_n dX11_lay_46 rfl 3 rfl ?_
          refine h_iconst (v := 1) dX11_lay_47 (by decide) ?_
          refine h_icmp_eq (tgt := 76) dX11_lay_48 (by decide) (fun c16 => ?_) (fun c16 => ?_)
          ·
            refine h_aload_n dX11_lay_76 rfl 2 rfl ?_
            refine gf_9_0 dX11_lay_77 hl_X11_10 nl_0 zk_0 zp_0_0 ?_
            refine gf_7_9 dX11_lay_80 hl_X11_190 nl_1 zk_1 ?_
            refine h_iconst (v := 4) dX11_lay_83 (by decide) ?_
            refine h_icmp_le (tgt := 90) dX11_lay_84 (by decide) (fun c17 => ?_) (fun c17 => ?_)
            ·
              refine h_aload_n dX11_lay_90 rfl 2 rfl ?_
              refine gf_9_5 dX11_lay_91 hl_X11_46 nl_0 zk_0 zp_0_5 ?_
              refine h_pick [2, 3, 1, 0] [(0, .ref 0), (1, .int a), (2, .int (-1)), (3, .int (-1))] rfl ?_
              refine h_invV (As := []) (st := []) dX11_lay_94 lk_X11_193 (h_room (by decide)) nl_80 zk_80 (by decide) rfl rfl rfl (Nat.le_of_ble_eq_true rfl) ?_
              exact k8 c1 c2 c13 c14 c16 c17
            ·
              refine h_bipush (v := (-4)) dX11_lay_87 (by decide) ?_
              exact h_iret dX11_lay_89 rfl (k9 c1 c2 c13 c14 c16 c17)
          ·
            refine h_aload_n dX11_lay_51 rfl 2 rfl ?_
            refine gf_9_0 dX11_lay_52 hl_X11_10 nl_0 zk_0 zp_0_0 ?_
            refine h_iload_n dX11_lay_55 rfl 1 rfl ?_
            refine h_invV (As := [.int (-1)]) (st := []) dX11_lay_56 lk_X11_88 (h_room (by decide)) nl_1 zk_1 (by decide) rfl rfl rfl (Nat.le_of_ble_eq_true rfl) ?_
            refine c_X9_hasKind (fun c18 c19 => absurd c18 (by decide)) (fun c20 => ?_)
            ·
              refine h_if_ne (tgt := 76) dX11_lay_59 (by decide) (fun c => absurd c (by decide)) (fun _ => ?_)
              refine h_aload_n dX11_lay_62 rfl 2 rfl ?_
              refine gf_9_0 dX11_lay_63 hl_X11_10 nl_0 zk_0 zp_0_0 ?_
              refine h_iload_n dX11_lay_66 rfl 0 rfl ?_
              refine h_invV (As := [.int (-1)]) (st := []) dX11_lay_67 lk_X11_88 (h_room (by decide)) nl_1 zk_1 (by decide) rfl rfl rfl (Nat.le_of_ble_eq_true rfl) ?_
              refine c_X9_hasKind (fun c21 c22 => absurd c21 (by decide)) (fun c23 => ?_)
              ·
                refine h_if_ne (tgt := 76) dX11_lay_70 (by decide) (fun c => absurd c (by decide)) (fun _ => ?_)
                refine h_bipush (v := (-3)) dX11_lay_73 (by decide) ?_
                exact h_iret dX11_lay_75 rfl (k10 c1 c2 c13 c14 c16 c20 c23)
      ·
        refine h_iload_n dX11_lay_33 rfl 2 rfl ?_
        refine h_bipush (v := 20) dX11_lay_34 (by decide) ?_
        refine h_isub dX11_lay_36 ?_
        refine h_goto (tgt := 41) dX11_lay_37 (by decide) ?_
        refine h_istore_n (L' := [(3, .int (a - 20)), (2, .int (-1)), (0, .ref 0), (1, .int a)]) dX11_lay_41 rfl (by decide) rfl ?_
        refine h_iload_n dX11_lay_42 rfl 3 rfl ?_
        refine h_if_eq (tgt := 76) dX11_lay_43 (by decide) (fun c24 => ?_) (fun c24 => ?_)
        ·
          refine h_aload_n dX11_lay_76 rfl 2 rfl ?_
          refine gf_9_0 dX11_lay_77 hl_X11_10 nl_0 zk_0 zp_0_0 ?_
          refine gf_7_9 dX11_lay_80 hl_X11_190 nl_1 zk_1 ?_
          refine h_iconst (v := 4) dX11_lay_83 (by decide) ?_
          refine h_icmp_le (tgt := 90) dX11_lay_84 (by decide) (fun c25 => ?_) (fun c25 => ?_)
          ·
            refine h_aload_n dX11_lay_90 rfl 2 rfl ?_
            refine gf_9_5 dX11_lay_91 hl_X11_46 nl_0 zk_0 zp_0_5 ?_
            refine h_pick [2, 3, 1, 0] [(0, .ref 0), (1, .int a), (2, .int (-1)), (3, .int (a - 20))] rfl ?_
            refine h_invV (As := []) (st := []) dX11_lay_94 lk_X11_193 (h_room (by decide)) nl_80 zk_80 (by decide) rfl rfl rfl (Nat.le_of_ble_eq_true rfl) ?_
            exact k11 c1 c2 c13 c24 c25
          ·
            refine h_bipush (v := (-4)) dX11_lay_87 (by decide) ?_
            exact h_iret dX11_lay_89 rfl (k12 c1 c2 c13 c24 c25)
        ·
          refine h_iload_n dX11_lay_46 rfl 3 rfl ?_
          refine h_iconst (v := 1) dX11_lay_47 (by decide) ?_
          refine h_icmp_eq (tgt := 76) dX11_lay_48 (by decide) (fun c26 => ?_) (fun c26 => ?_)
          ·
            refine h_aload_n dX11_lay_76 rfl 2 rfl ?_
            refine gf_9_0 dX11_lay_77 hl_X11_10 nl_0 zk_0 zp_0_0 ?_
            refine gf_7_9 dX11_lay_80 hl_X11_190 nl_1 zk_1 ?_
            refine h_iconst (v := 4) dX11_lay_83 (by decide) ?_
            refine h_icmp_le (tgt := 90) dX11_lay_84 (by decide) (fun c27 => ?_) (fun c27 => ?_)
            ·
              refine h_aload_n dX11_lay_90 rfl 2 rfl ?_
              refine gf_9_5 dX11_lay_91 hl_X11_46 nl_0 zk_0 zp_0_5 ?_
              refine h_pick [2, 3, 1, 0] [(0, .ref 0), (1, .int a), (2, .int (-1)), (3, .int (a - 20))] rfl ?_
              refine h_invV (As := []) (st := []) dX11_lay_94 lk_X11_193 (h_room (by decide)) nl_80 zk_80 (by decide) rfl rfl rfl (Nat.le_of_ble_eq_true rfl) ?_
              exact k13 c1 c2 c13 c24 c26 c27
            ·
              refine h_bipush (v := (-4)) dX11_lay_87 (by decide) ?_
              exact h_iret dX11_lay_89 rfl (k14 c1 c2 c13 c24 c26 c27)
          ·
            refine h_aload_n dX11_lay_51 rfl 2 rfl ?_
            refine gf_9_0 dX11_lay_52 hl_X11_10 nl_0 zk_0 zp_0_0 ?_
            refine h_iload_n dX11_lay_55 rfl 1 rfl ?_
            refine h_invV (As := [.int (-1)]) (st := []) dX11_lay_56 lk_X11_88 (h_room (by decide)) nl_1 zk_1 (by decide) rfl rfl rfl (Nat.le_of_ble_eq_true rfl) ?_
            refine c_X9_hasKind (fun c28 c29 => absurd c28 (by decide)) (fun c30 => ?_)
            ·
              refine h_if_ne (tgt := 76) dX11_lay_59 (by decide) (fun c => absurd c (by decide)) (fun _ => ?_)
              refine h_aload_n dX11_lay_62 rfl 2 rfl ?_
              refine gf_9_0 dX11_lay_63 hl_X11_10 nl_0 zk_0 zp_0_0 ?_
              refine h_iload_n dX11_lay_66 rfl 0 rfl ?_
              refine h_invV (As := [.int (a - 20)]) (st := []) dX11_lay_67 lk_X11_88 (h_room (by decide)) nl_1 zk_1 (by decide) rfl rfl rfl (Nat.le_of_ble_eq_true rfl) ?_
              refine c_X9_hasKind (fun c31 c32 => ?_) (fun c33 => ?_)
              ·
                refine h_if_ne (tgt := 76) dX11_lay_70 (by decide) (fun _ => ?_) (fun c => absurd c (by decide))
                refine h_aload_n dX11_lay_76 rfl 2 rfl ?_
                refine gf_9_0 dX11_lay_77 hl_X11_10 nl_0 zk_0 zp_0_0 ?_
                refine gf_7_9 dX11_lay_80 hl_X11_190 nl_1 zk_1 ?_
                refine h_iconst (v := 4) dX11_lay_83 (by decide) ?_
                refine h_icmp_le (tgt := 90) dX11_lay_84 (by decide) (fun c34 => ?_) (fun c34 => ?_)
                ·
                  refine h_aload_n dX11_lay_90 rfl 2 rfl ?_
                  refine gf_9_5 dX11_lay_91 hl_X11_46 nl_0 zk_0 zp_0_5 ?_
                  refine h_pick [2, 3, 1, 0] [(0, .ref 0), (1, .int a), (2, .int (-1)), (3, .int (a - 20))] rfl ?_
                  refine h_invV (As := []) (st := []) dX11_lay_94 lk_X11_193 (h_room (by decide)) nl_80 zk_80 (by decide) rfl rfl rfl (Nat.le_of_ble_eq_true rfl) ?_
                  exact k15 c1 c2 c13 c24 c26 c30 c31 c32 c34
                ·
                  refine h_bipush (v := (-4)) dX11_lay_87 (by decide) ?_
                  exact h_iret dX11_lay_89 rfl (k16 c1 c2 c13 c24 c26 c30 c31 c32 c34)
              ·
                refine h_if_ne (tgt := 76) dX11_lay_70 (by decide) (fun c => absurd c (by decide)) (fun _ => ?_)
                refine h_bipush (v := (-3)) dX11_lay_73 (by decide) ?_
                exact h_iret dX11_lay_75 rfl (k17 c1 c2 c13 c24 c26 c30 c33)
  ·
    refine h_iload_n dX11_lay_6 rfl 1 rfl ?_
    refine h_bipush (v := 20) dX11_lay_7 (by decide) ?_
    refine h_icmp_ge (tgt := 19) dX11_lay_9 (by decide) (fun c35 => ?_) (fun c35 => ?_)
    ·
      refine h_iconst (v := (-1)) dX11_lay_19 (by decide) ?_
      refine h_istore_n (L' := [(2, .int (-1)), (0, .ref 0), (1, .int a)]) dX11_lay_20 rfl (by decide) rfl ?_
      refine h_iload_n dX11_lay_21 rfl 2 rfl ?_
      refine h_bipush (v := 20) dX11_lay_22 (by decide) ?_
      refine h_icmp_lt (tgt := 40) dX11_lay_24 (by decide) (fun c36 => ?_) (fun c36 => ?_)
      ·
        refine h_iconst (v := (-1)) dX11_lay_40 (by decide) ?_
        refine h_istore_n (L' := [(3, .int (-1)), (2, .int (-1)), (0, .ref 0), (1, .int a)]) dX11_lay_41 rfl (by decide) rfl ?_
        refine h_iload_n dX11_lay_42 rfl 3 rfl ?_
        refine h_if_eq (tgt := 76) dX11_lay_43 (by decide) (fun c37 => ?_) (fun c37 => ?_)
        ·
          refine h_aload_n dX11_lay_76 rfl 2 rfl ?_
          refine gf_9_0 dX11_lay_77 hl_X11_10 nl_0 zk_0 zp_0_0 ?_
          refine gf_7_9 dX11_lay_80 hl_X11_190 nl_1 zk_1 ?_
          refine h_iconst (v := 4) dX11_lay_83 (by decide) ?_
          refine h_icmp_le (tgt := 90) dX11_lay_84 (by decide) (fun c38 => ?_) (fun c38 => ?_)
          ·
            refine h_aload_n dX11_lay_90 rfl 2 rfl ?_
            refine gf_9_5 dX11_lay_91 hl_X11_46 nl_0 zk_0 zp_0_5 ?_
            refine h_pick [2, 3, 1, 0] [(0, .ref 0), (1, .int a), (2, .int (-1)), (3, .int (-1))] rfl ?_
            refine h_invV (As := []) (st := []) dX11_lay_94 lk_X11_193 (h_room (by decide)) nl_80 zk_80 (by decide) rfl rfl rfl (Nat.le_of_ble_eq_true rfl) ?_
            exact k18 c1 c35 c36 c37 c38
          ·
            refine h_bipush (v := (-4)) dX11_lay_87 (by decide) ?_
            exact h_iret dX11_lay_89 rfl (k19 c1 c35 c36 c37 c38)
        ·
          refine h_iload_n dX11_lay_46 rfl 3 rfl ?_
          refine h_iconst (v := 1) dX11_lay_47 (by decide) ?_
          refine h_icmp_eq (tgt := 76) dX11_lay_48 (by decide) (fun c39 => ?_) (fun c39 => ?_)
          ·
            refine h_aload_n dX11_lay_76 rfl 2 rfl ?_
            refine gf_9_0 dX11_lay_77 hl_X11_10 nl_0 zk_0 zp_0_0 ?_
            refine gf_7_9 dX11_lay_80 hl_X11_190 nl_1 zk_1 ?_
            refine h_iconst (v := 4) dX11_lay_83 (by decide) ?_
            refine h_icmp_le (tgt := 90) dX11_lay_84 (by decide) (fun c40 => ?_) (fun c40 => ?_)
            ·
              refine h_aload_n dX11_lay_90 rfl 2 rfl ?_
              refine gf_9_5 dX11_lay_91 hl_X11_46 nl_0 zk_0 zp_0_5 ?_
              refine h_pick [2, 3, 1, 0] [(0, .ref 0), (1, .int a), (2, .int (-1)), (3, .int (-1))] rfl ?_
              refine h_invV (As := []) (st := []) dX11_lay_94 lk_X11_193 (h_room (by decide)) nl_80 zk_80 (by decide) rfl rfl rfl (Nat.le_of_ble_eq_true rfl) ?_
              exact k20 c1 c35 c36 c37 c39 c40
            ·
              refine h_bipush (v := (-4)) dX11_lay_87 (by decide) ?_
              exact h_iret dX11_lay_89 rfl (k21 c1 c35 c36 c37 c39 c40)
          ·
            refine h_aload_n dX11_lay_51 rfl 2 rfl ?_
            refine gf_9_0 dX11_lay_52 hl_X11_10 nl_0 zk_0 zp_0_0 ?_
            refine h_iload_n dX11_lay_55 rfl 1 rfl ?_
            refine h_invV (As := [.int (-1)]) (st := []) dX11_lay_56 lk_X11_88 (h_room (by decide)) nl_1 zk_1 (by decide) rfl rfl rfl (Nat.le_of_ble_eq_true rfl) ?_
            refine c_X9_hasKind (fun c41 c42 => absurd c41 (by decide)) (fun c43 => ?_)
            ·
              refine h_if_ne (tgt := 76) dX11_lay_59 (by decide) (fun c => absurd c (by decide)) (fun _ => ?_)
              refine h_aload_n dX11_lay_62 rfl 2 rfl ?_
              refine gf_9_0 dX11_lay_63 hl_X11_10 nl_0 zk_0 zp_0_0 ?_
              refine h_iload_n dX11_lay_66 rfl 0 rfl ?_
              refine h_invV (As := [.int (-1)]) (st := []) dX11_lay_67 lk_X11_88 (h_room (by decide)) nl_1 zk_1 (by decide) rfl rfl rfl (Nat.le_of_ble_eq_true rfl) ?_
              refine c_X9_hasKind (fun c44 c45 => absurd c44 (by decide)) (fun c46 => ?_)
              ·
                refine h_if_ne (tgt := 76) dX11_lay_70 (by decide) (fun c => absurd c (by decide)) (fun _ => ?_)
                refine h_bipush (v := (-3)) dX11_lay_73 (by decide) ?_
                exact h_iret dX11_lay_75 rfl (k22 c1 c35 c36 c37 c39 c43 c46)
      ·
        refine h_iload_n dX11_lay_27 rfl 2 rfl ?_
        refine h_bipush (v := 30) dX11_lay_28 (by decide) ?_
        refine h_icmp_ge (tgt := 40) dX11_lay_30 (by decide) (fun c47 => ?_) (fun c47 => ?_)
        ·
          refine h_iconst (v := (-1)) dX11_lay_40 (by decide) ?_
          refine h_istore_n (L' := [(3, .int (-1)), (2, .int (-1)), (0, .ref 0), (1, .int a)]) dX11_lay_41 rfl (by decide) rfl ?_
          refine h_iload_n dX11_lay_42 rfl 3 rfl ?_
          refine h_if_eq (tgt := 76) dX11_lay_43 (by decide) (fun c48 => ?_) (fun c48 => ?_)
          ·
            refine h_aload_n dX11_lay_76 rfl 2 rfl ?_
            refine gf_9_0 dX11_lay_77 hl_X11_10 nl_0 zk_0 zp_0_0 ?_
            refine gf_7_9 dX11_lay_80 hl_X11_190 nl_1 zk_1 ?_
            refine h_iconst (v := 4) dX11_lay_83 (by decide) ?_
            refine h_icmp_le (tgt := 90) dX11_lay_84 (by decide) (fun c49 => ?_) (fun c49 => ?_)
            ·
              refine h_aload_n dX11_lay_90 rfl 2 rfl ?_
              refine gf_9_5 dX11_lay_91 hl_X11_46 nl_0 zk_0 zp_0_5 ?_
              refine h_pick [2, 3, 1, 0] [(0, .ref 0), (1, .int a), (2, .int (-1)), (3, .int (-1))] rfl ?_
              refine h_invV (As := []) (st := []) dX11_lay_94 lk_X11_193 (h_room (by decide)) nl_80 zk_80 (by decide) rfl rfl rfl (Nat.le_of_ble_eq_true rfl) ?_
              exact k23 c1 c35 c36 c47 c48 c49
            ·
              refine h_bipush (v := (-4)) dX11_lay_87 (by decide) ?_
              exact h_iret dX11_lay_89 rfl (k24 c1 c35 c36 c47 c48 c49)
          ·
            refine h_iload_n dX11_lay_46 rfl 3 rfl ?_
            refine h_iconst (v := 1) dX11_lay_47 (by decide) ?_
            refine h_icmp_eq (tgt := 76) dX11_lay_48 (by decide) (fun c50 => ?_) (fun c50 => ?_)
            ·
              refine h_aload_n dX11_lay_76 rfl 2 rfl ?_
              refine gf_9_0 dX11_lay_77 hl_X11_10 nl_0 zk_0 zp_0_0 ?_
              refine gf_7_9 dX11_lay_80 hl_X11_190 nl_1 zk_1 ?_
              refine h_iconst (v := 4) dX11_lay_83 (by decide) ?_
              refine h_icmp_le (tgt := 90) dX11_lay_84 (by decide) (fun c51 => ?_) (fun c51 => ?_)
              ·
                refine h_aload_n dX11_lay_90 rfl 2 rfl ?_
                refine gf_9_5 dX11_lay_91 hl_X11_46 nl_0 zk_0 zp_0_5 ?_
                refine h_pick [2, 3, 1, 0] [(0, .ref 0), (1, .int a), (2, .int (-1)), (3, .int (-1))] rfl ?_
                refine h_invV (As := []) (st := []) dX11_lay_94 lk_X11_193 (h_room (by decide)) nl_80 zk_80 (by decide) rfl rfl rfl (Nat.le_of_ble_eq_true rfl) ?_
                exact k25 c1 c35 c36 c47 c48 c50 c51
              ·
                refine h_bipush (v := (-4)) dX11_lay_87 (by decide) ?_
                exact h_iret dX11_lay_89 rfl (k26 c1 c35 c36 c47 c48 c50 c51)
            ·
              refine h_aload_n dX11_lay_51 rfl 2 rfl ?_
              refine gf_9_0 dX11_lay_52 hl_X11_10 nl_0 zk_0 zp_0_0 ?_
              refine h_iload_n dX11_lay_55 rfl 1 rfl ?_
              refine h_invV (As := [.int (-1)]) (st := []) dX11_lay_56 lk_X11_88 (h_room (by decide)) nl_1 zk_1 (by decide) rfl rfl rfl (Nat.le_of_ble_eq_true rfl) ?_
              refine c_X9_hasKind (fun c52 c53 => absurd c52 (by decide)) (fun c54 => ?_)
              ·
                refine h_if_ne (tgt := 76) dX11_lay_59 (by decide) (fun c => absurd c (by decide)) (fun _ => ?_)
                refine h_aload_n dX11_lay_62 rfl 2 rfl ?_
                refine gf_9_0 dX11_lay_63 hl_X11_10 nl_0 zk_0 zp_0_0 ?_
                refine h_iload_n dX11_lay_66 rfl 0 rfl ?_
                refine h_invV (As := [.int (-1)]) (st := []) dX11_lay_67 lk_X11_88 (h_room (by decide)) nl_1 zk_1 (by decide) rfl rfl rfl (Nat.le_of_ble_eq_true rfl) ?_
                refine c_X9_hasKind (fun c55 c56 => absurd c55 (by decide)) (fun c57 => ?_)
                ·
                  refine h_if_ne (tgt := 76) dX11_lay_70 (by decide) (fun c => absurd c (by decide)) (fun _ => ?_)
                  refine h_bipush (v := (-3)) dX11_lay_73 (by decide) ?_
                  exact h_iret dX11_lay_75 rfl (k27 c1 c35 c36 c47 c48 c50 c54 c57)
        ·
          refine h_iload_n dX11_lay_33 rfl 2 rfl ?_
          refine h_bipush (v := 20) dX11_lay_34 (by decide) ?_
          refine h_isub dX11_lay_36 ?_
          refine h_goto (tgt := 41) dX11_lay_37 (by decide) ?_
          refine h_istore_n (L' := [(3, .int (a - 20)), (2, .int (-1)), (0, .ref 0), (1, .int a)]) dX11_lay_41 rfl (by decide) rfl ?_
          refine h_iload_n dX11_lay_42 rfl 3 rfl ?_
          refine h_if_eq (tgt := 76) dX11_lay_43 (by decide) (fun c58 => ?_) (fun c58 => ?_)
          ·
            refine h_aload_n dX11_lay_76 rfl 2 rfl ?_
            refine gf_9_0 dX11_lay_77 hl_X11_10 nl_0 zk_0 zp_0_0 ?_
            refine gf_7_9 dX11_lay_80 hl_X11_190 nl_1 zk_1 ?_
            refine h_iconst (v := 4) dX11_lay_83 (by decide) ?_
            refine h_icmp_le (tgt := 90) dX11_lay_84 (by decide) (fun c59 => ?_) (fun c59 => ?_)
            ·
              refine h_aload_n dX11_lay_90 rfl 2 rfl ?_
              refine gf_9_5 dX11_lay_91 hl_X11_46 nl_0 zk_0 zp_0_5 ?_
              refine h_pick [2, 3, 1, 0] [(0, .ref 0), (1, .int a), (2, .int (-1)), (3, .int (a - 20))] rfl ?_
              refine h_invV (As := []) (st := []) dX11_lay_94 lk_X11_193 (h_room (by decide)) nl_80 zk_80 (by decide) rfl rfl rfl (Nat.le_of_ble_eq_true rfl) ?_
              exact k28 c1 c35 c36 c47 c58 c59
            ·
              refine h_bipush (v := (-4)) dX11_lay_87 (by decide) ?_
              exact h_iret dX11_lay_89 rfl (k29 c1 c35 c36 c47 c58 c59)
          ·
            refine h_iload_n dX11_lay_46 rfl 3 rfl ?_
            refine h_iconst (v := 1) dX11_lay_47 (by decide) ?_
            refine h_icmp_eq (tgt := 76) dX11_lay_48 (by decide) (fun c60 => ?_) (fun c60 => ?_)
            ·
              refine h_aload_n dX11_lay_76 rfl 2 rfl ?_
              refine gf_9_0 dX11_lay_77 hl_X11_10 nl_0 zk_0 zp_0_0 ?_
              refine gf_7_9 dX11_lay_80 hl_X11_190 nl_1 zk_1 ?_
              refine h_iconst (v := 4) dX11_lay_83 (by decide) ?_
              refine h_icmp_le (tgt := 90) dX11_lay_84 (by decide) (fun c61 => ?_) (fun c61 => ?_)
              ·
                refine h_aload_n dX11_lay_90 rfl 2 rfl ?_
                refine gf_9_5 dX11_lay_91 hl_X11_46 nl_0 zk_0 zp_0_5 ?_
                refine h_pick [2, 3, 1, 0] [(0, .ref 0), (1, .int a), (2, .int (-1)), (3, .int (a - 20))] rfl ?_
                refine h_invV (As := []) (st := []) dX11_lay_94 lk_X11_193 (h_room (by decide)) nl_80 zk_80 (by decide) rfl rfl rfl (Nat.le_of_ble_eq_true rfl) ?_
                exact k30 c1 c35 c36 c47 c58 c60 c61
              ·
                refine h_bipush (v := (-4)) dX11_lay_87 (by decide) ?_
                exact h_iret dX11_lay_89 rfl (k31 c1 c35 c36 c47 c58 c60 c61)
            ·
              refine h_aload_n dX11_lay_51 rfl 2 rfl ?_
              refine gf_9_0 dX11_lay_52 hl_X11_10 nl_0 zk_0 zp_0_0 ?_
              refine h_iload_n dX11_lay_55 rfl 1 rfl ?_
              refine h_invV (As := [.int (-1)]) (st := []) dX11_lay_56 lk_X11_88 (h_room (by decide)) nl_1 zk_1 (by decide) rfl rfl rfl (Nat.le_of_ble_eq_true rfl) ?_
              refine c_X9_hasKind (fun c62 c63 => absurd c62 (by decide)) (fun c64 => ?_)
              ·
                refine h_if_ne (tgt := 76) dX11_lay_59 (by decide) (fun c => absurd c (by decide)) (fun _ => ?_)
                refine h_aload_n dX11_lay_62 rfl 2 rfl ?_
                refine gf_9_0 dX11_lay_63 hl_X11_10 nl_0 zk_0 zp_0_0 ?_
                refine h_iload_n dX11_lay_66 rfl 0 rfl ?_
                refine h_invV (As := [.int (a - 20)]) (st := []) dX11_lay_67 lk_X11_88 (h_room (by decide)) nl_1 zk_1 (by decide) rfl rfl rfl (Nat.le_of_ble_eq_true rfl) ?_
                refine c_X9_hasKind (fun c65 c66 => ?_) (fun c67 => ?_)
                ·
                  refine h_if_ne (tgt := 76) dX11_lay_70 (by decide) (fun _ => ?_) (fun c => absurd c (by decide))
                  refine h_aload_n dX11_lay_76 rfl 2 rfl ?_
                  refine gf_9_0 dX11_lay_77 hl_X11_10 nl_0 zk_0 zp_0_0 ?_
                  refine gf_7_9 dX11_lay_80 hl_X11_190 nl_1 zk_1 ?_
                  refine h_iconst (v := 4) dX11_lay_83 (by decide) ?_
                  refine h_icmp_le (tgt := 90) dX11_lay_84 (by decide) (fun c68 => ?_) (fun c68 => ?_)
                  ·
                    refine h_aload_n dX11_lay_90 rfl 2 rfl ?_
                    refine gf_9_5 dX11_lay_91 hl_X11_46 nl_0 zk_0 zp_0_5 ?_
                    refine h_pick [2, 3, 1, 0] [(0, .ref 0), (1, .int a), (2, .int (-1)), (3, .int (a - 20))] rfl ?_
                    refine h_invV (As := []) (st := []) dX11_lay_94 lk_X11_193 (h_room (by decide)) nl_80 zk_80 (by decide) rfl rfl rfl (Nat.le_of_ble_eq_true rfl) ?_
                    exact k32 c1 c35 c36 c47 c58 c60 c64 c65 c66 c68
                  ·
                    refine h_bipush (v := (-4)) dX11_lay_87 (by decide) ?_
                    exact h_iret dX11_lay_89 rfl (k33 c1 c35 c36 c47 c58 c60 c64 c65 c66 c68)
                ·
                  refine h_if_ne (tgt := 76) dX11_lay_70 (by decide) (fun c => absurd c (by decide)) (fun _ => ?_)
                  refine h_bipush (v := (-3)) dX11_lay_73 (by decide) ?_
                  exact h_iret dX11_lay_75 rfl (k34 c1 c35 c36 c47 c58 c60 c64 c67)
    ·
      refine h_iload_n dX11_lay_12 rfl 1 rfl ?_
      refine h_bipush (v := 10) dX11_lay_13 (by decide) ?_
      refine h_isub dX11_lay_15 ?_
      refine h_goto (tgt := 20) dX11_lay_16 (by decide) ?_
      refine h_istore_n (L' := [(2, .int (a - 10)), (0, .ref 0), (1, .int a)]) dX11_lay_20 rfl (by decide) rfl ?_
      refine h_iload_n dX11_lay_21 rfl 2 rfl ?_
      refine h_bipush (v := 20) dX11_lay_22 (by decide) ?_
      refine h_icmp_lt (tgt := 40) dX11_lay_24 (by decide) (fun c69 => ?_) (fun c69 => ?_)
      ·
        refine h_iconst (v := (-1)) dX11_lay_40 (by decide) ?_
        refine h_istore_n (L' := [(3, .int (-1)), (2, .int (a - 10)), (0, .ref 0), (1, .int a)]) dX11_lay_41 rfl (by decide) rfl ?_
        refine h_iload_n dX11_lay_42 rfl 3 rfl ?_
        refine h_if_eq (tgt := 76) dX11_lay_43 (by decide) (fun c70 => ?_) (fun c70 => ?_)
        ·
          refine h_aload_n dX11_lay_76 rfl 2 rfl ?_
          refine gf_9_0 dX11_lay_77 hl_X11_10 nl_0 zk_0 zp_0_0 ?_
          refine gf_7_9 dX11_lay_80 hl_X11_190 nl_1 zk_1 ?_
          refine h_iconst (v := 4) dX11_lay_83 (by decide) ?_
          refine h_icmp_le (tgt := 90) dX11_lay_84 (by decide) (fun c71 => ?_) (fun c71 => ?_)
          ·
            refine h_aload_n dX11_lay_90 rfl 2 rfl ?_
            refine gf_9_5 dX11_lay_91 hl_X11_46 nl_0 zk_0 zp_0_5 ?_
            refine h_pick [2, 3, 1, 0] [(0, .ref 0), (1, .int a), (2, .int (a - 10)), (3, .int (-1))] rfl ?_
            refine h_invV (As := []) (st := []) dX11_lay_94 lk_X11_193 (h_room (by decide)) nl_80 zk_80 (by decide) rfl rfl rfl (Nat.le_of_ble_eq_true rfl) ?_
            exact k35 c1 c35 c69 c70 c71
          ·
            refine h_bipush (v := (-4)) dX11_lay_87 (by decide) ?_
            exact h_iret dX11_lay_89 rfl (k36 c1 c35 c69 c70 c71)
        ·
          refine h_iload_n dX11_lay_46 rfl 3 rfl ?_
          refine h_iconst (v := 1) dX11_lay_47 (by decide) ?_
          refine h_icmp_eq (tgt := 76) dX11_lay_48 (by decide) (fun c72 => ?_) (fun c72 => ?_)
          ·
            refine h_aload_n dX11_lay_76 rfl 2 rfl ?_
            refine gf_9_0 dX11_lay_77 hl_X11_10 nl_0 zk_0 zp_0_0 ?_
            refine gf_7_9 dX11_lay_80 hl_X11_190 nl_1 zk_1 ?_
            refine h_iconst (v := 4) dX11_lay_83 (by decide) ?_
            refine h_icmp_le (tgt := 90) dX11_lay_84 (by decide) (fun c73 => ?_) (fun c73 => ?_)
            ·
              refine h_aload_n dX11_lay_90 rfl 2 rfl ?_
              refine gf_9_5 dX11_lay_91 hl_X11_46 nl_0 zk_0 zp_0_5 ?_
              refine h_pick [2, 3, 1, 0] [(0, .ref 0), (1, .int a), (2, .int (a - 10)), (3, .int (-1))] rfl ?_
              refine h_invV (As := []) (st := []) dX11_lay_94 lk_X11_193 (h_room (by decide)) nl_80 zk_80 (by decide) rfl rfl rfl (Nat.le_of_ble_eq_true rfl) ?_
              exact k37 c1 c35 c69 c70 c72 c73
            ·
              refine h_bipush (v := (-4)) dX11_lay_87 (by decide) ?_
              exact h_iret dX11_lay_89 rfl (k38 c1 c35 c69 c70 c72 c73)
          ·
            refine h_aload_n dX11_lay_51 rfl 2 rfl ?_
            refine gf_9_0 dX11_lay_52 hl_X11_10 nl_0 zk_0 zp_0_0 ?_
            refine h_iload_n dX11_lay_55 rfl 1 rfl ?_
            refine h_invV (As := [.int (a - 10)]) (st := []) dX11_lay_56 lk_X11_88 (h_room (by decide)) nl_1 zk_1 (by decide) rfl rfl rfl (Nat.le_of_ble_eq_true rfl) ?_
            refine c_X9_hasKind (fun c74 c75 => ?_) (fun c76 => ?_)
            ·
              refine h_if_ne (tgt := 76) dX11_lay_59 (by decide) (fun _ => ?_) (fun c => absurd c (by decide))
              refine h_aload_n dX11_lay_76 rfl 2 rfl ?_
              refine gf_9_0 dX11_lay_77 hl_X11_10 nl_0 zk_0 zp_0_0 ?_
              refine gf_7_9 dX11_lay_80 hl_X11_190 nl_1 zk_1 ?_
              refine h_iconst (v := 4) dX11_lay_83 (by decide) ?_
              refine h_icmp_le (tgt := 90) dX11_lay_84 (by decide) (fun c77 => ?_) (fun c77 => ?_)
              ·
                refine h_aload_n dX11_lay_90 rfl 2 rfl ?_
                refine gf_9_5 dX11_lay_91 hl_X11_46 nl_0 zk_0 zp_0_5 ?_
                refine h_pick [2, 3, 1, 0] [(0, .ref 0), (1, .int a), (2, .int (a - 10)), (3, .int (-1))] rfl ?_
                refine h_invV (As := []) (st := []) dX11_lay_94 lk_X11_193 (h_room (by decide)) nl_80 zk_80 (by decide) rfl rfl rfl (Nat.le_of_ble_eq_true rfl) ?_
                exact k39 c1 c35 c69 c70 c72 c74 c75 c77
              ·
                refine h_bipush (v := (-4)) dX11_lay_87 (by decide) ?_
                exact h_iret dX11_lay_89 rfl (k40 c1 c35 c69 c70 c72 c74 c75 c77)
            ·
              refine h_if_ne (tgt := 76) dX11_lay_59 (by decide) (fun c => absurd c (by decide)) (fun _ => ?_)
              refine h_aload_n dX11_lay_62 rfl 2 rfl ?_
              refine gf_9_0 dX11_lay_63 hl_X11_10 nl_0 zk_0 zp_0_0 ?_
              refine h_iload_n dX11_lay_66 rfl 0 rfl ?_
              refine h_invV (As := [.int (-1)]) (st := []) dX11_lay_67 lk_X11_88 (h_room (by decide)) nl_1 zk_1 (by decide) rfl rfl rfl (Nat.le_of_ble_eq_true rfl) ?_
              refine c_X9_hasKind (fun c78 c79 => absurd c78 (by decide)) (fun c80 => ?_)
              ·
                refine h_if_ne (tgt := 76) dX11_lay_70 (by decide) (fun c => absurd c (by decide)) (fun _ => ?_)
                refine h_bipush (v := (-3)) dX11_lay_73 (by decide) ?_
                exact h_iret dX11_lay_75 rfl (k41 c1 c35 c69 c70 c72 c76 c80)
      ·
        refine h_iload_n dX11_lay_27 rfl 2 rfl ?_
        refine h_bipush (v := 30) dX11_lay_28 (by decide) ?_
        refine h_icmp_ge (tgt := 40) dX11_lay_30 (by decide) (fun c81 => ?_) (fun c81 => ?_)
        ·
          refine h_iconst (v := (-1)) dX11_lay_40 (by decide) ?_
          refine h_istore_n (L' := [(3, .int (-1)), (2, .int (a - 10)), (0, .ref 0), (1, .int a)]) dX11_lay_41 rfl (by decide) rfl ?_
          refine h_iload_n dX11_lay_42 rfl 3 rfl ?_
          refine h_if_eq (tgt := 76) dX11_lay_43 (by decide) (fun c82 => ?_) (fun c82 => ?_)
          ·
            refine h_aload_n dX11_lay_76 rfl 2 rfl ?_
            refine gf_9_0 dX11_lay_77 hl_X11_10 nl_0 zk_0 zp_0_0 ?_
            refine gf_7_9 dX11_lay_80 hl_X11_190 nl_1 zk_1 ?_
            refine h_iconst (v := 4) dX11_lay_83 (by decide) ?_
            refine h_icmp_le (tgt := 90) dX11_lay_84 (by decide) (fun c83 => ?_) (fun c83 => ?_)
            ·
              refine h_aload_n dX11_lay_90 rfl 2 rfl ?_
              refine gf_9_5 dX11_lay_91 hl_X11_46 nl_0 zk_0 zp_0_5 ?_
              refine h_pick [2, 3, 1, 0] [(0, .ref 0), (1, .int a), (2, .int (a - 10)), (3, .int (-1))] rfl ?_
              refine h_invV (As := []) (st := []) dX11_lay_94 lk_X11_193 (h_room (by decide)) nl_80 zk_80 (by decide) rfl rfl rfl (Nat.le_of_ble_eq_true rfl) ?_
              exact k42 c1 c35 c69 c81 c82 c83
            ·
              refine h_bipush (v := (-4)) dX11_lay_87 (by decide) ?_
              exact h_iret dX11_lay_89 rfl (k43 c1 c35 c69 c81 c82 c83)
          ·
            refine h_iload_n dX11_lay_46 rfl 3 rfl ?_
            refine h_iconst (v := 1) dX11_lay_47 (by decide) ?_
            refine h_icmp_eq (tgt := 76) dX11_lay_48 (by decide) (fun c84 => ?_) (fun c84 => ?_)
            ·
              refine h_aload_n dX11_lay_76 rfl 2 rfl ?_
              refine gf_9_0 dX11_lay_77 hl_X11_10 nl_0 zk_0 zp_0_0 ?_
              refine gf_7_9 dX11_lay_80 hl_X11_190 nl_1 zk_1 ?_
              refine h_iconst (v := 4) dX11_lay_83 (by decide) ?_
              refine h_icmp_le (tgt := 90) dX11_lay_84 (by decide) (fun c85 => ?_) (fun c85 => ?_)
              ·
                refine h_aload_n dX11_lay_90 rfl 2 rfl ?_
                refine gf_9_5 dX11_lay_91 hl_X11_46 nl_0 zk_0 zp_0_5 ?_
                refine h_pick [2, 3, 1, 0] [(0, .ref 0), (1, .int a), (2, .int (a - 10)), (3, .int (-1))] rfl ?_
                refine h_invV (As := []) (st := []) dX11_lay_94 lk_X11_193 (h_room (by decide)) nl_80 zk_80 (by decide) rfl rfl rfl (Nat.le_of_ble_eq_true rfl) ?_
                exact k44 c1 c35 c69 c81 c82 c84 c85
              ·
                refine h_bipush (v := (-4)) dX11_lay_87 (by decide) ?_
                exact h_iret dX11_lay_89 rfl (k45 c1 c35 c69 c81 c82 c84 c85)
            ·
              refine h_aload_n dX11_lay_51 rfl 2 rfl ?_
              refine gf_9_0 dX11_lay_52 hl_X11_10 nl_0 zk_0 zp_0_0 ?_
              refine h_iload_n dX11_lay_55 rfl 1 rfl ?_
              refine h_invV (As := [.int (a - 10)]) (st := []) dX11_lay_56 lk_X11_88 (h_room (by decide)) nl_1 zk_1 (by decide) rfl rfl rfl (Nat.le_of_ble_eq_true rfl) ?_
              refine c_X9_hasKind (fun c86 c87 => ?_) (fun c88 => ?_)
              ·
                refine h_if_ne (tgt := 76) dX11_lay_59 (by decide) (fun _ => ?_) (fun c => absurd c (by decide))
                refine h_aload_n dX11_lay_76 rfl 2 rfl ?_
                refine gf_9_0 dX11_lay_77 hl_X11_10 nl_0 zk_0 zp_0_0 ?_
                refine gf_7_9 dX11_lay_80 hl_X11_190 nl_1 zk_1 ?_
                refine h_iconst (v := 4) dX11_lay_83 (by decide) ?_
                refine h_icmp_le (tgt := 90) dX11_lay_84 (by decide) (fun c89 => ?_) (fun c89 => ?_)
                ·
                  refine h_aload_n dX11_lay_90 rfl 2 rfl ?_
                  refine gf_9_5 dX11_lay_91 hl_X11_46 nl_0 zk_0 zp_0_5 ?_
                  refine h_pick [2, 3, 1, 0] [(0, .ref 0), (1, .int a), (2, .int (a - 10)), (3, .int (-1))] rfl ?_
                  refine h_invV (As := []) (st := []) dX11_lay_94 lk_X11_193 (h_room (by decide)) nl_80 zk_80 (by decide) rfl rfl rfl (Nat.le_of_ble_eq_true rfl) ?_
                  exact k46 c1 c35 c69 c81 c82 c84 c86 c87 c89
                ·
                  refine h_bipush (v := (-4)) dX11_lay_87 (by decide) ?_
                  exact h_iret dX11_lay_89 rfl (k47 c1 c35 c69 c81 c82 c84 c86 c87 c89)
              ·
                refine h_if_ne (tgt := 76) dX11_lay_59 (by decide) (fun c => absurd c (by decide)) (fun _ => ?_)
                refine h_aload_n dX11_lay_62 rfl 2 rfl ?_
                refine gf_9_0 dX11_lay_63 hl_X11_10 nl_0 zk_0 zp_0_0 ?_
                refine h_iload_n dX11_lay_66 rfl 0 rfl ?_
                refine h_invV (As := [.int (-1)]) (st := []) dX11_lay_67 lk_X11_88 (h_room (by decide)) nl_1 zk_1 (by decide) rfl rfl rfl (Nat.le_of_ble_eq_true rfl) ?_
                refine c_X9_hasKind (fun c90 c91 => absurd c90 (by decide)) (fun c92 => ?_)
                ·
                  refine h_if_ne (tgt := 76) dX11_lay_70 (by decide) (fun c => absurd c (by decide)) (fun _ => ?_)
                  refine h_bipush (v := (-3)) dX11_lay_73 (by decide) ?_
                  exact h_iret dX11_lay_75 rfl (k48 c1 c35 c69 c81 c82 c84 c88 c92)
        ·
          refine h_iload_n dX11_lay_33 rfl 2 rfl ?_
          refine h_bipush (v := 20) dX11_lay_34 (by decide) ?_
          refine h_isub dX11_lay_36 ?_
          refine h_goto (tgt := 41) dX11_lay_37 (by decide) ?_
          refine h_istore_n (L' := [(3, .int (a - 20)), (2, .int (a - 10)), (0, .ref 0), (1, .int a)]) dX11_lay_41 rfl (by decide) rfl ?_
          refine h_iload_n dX11_lay_42 rfl 3 rfl ?_
          refine h_if_eq (tgt := 76) dX11_lay_43 (by decide) (fun c93 => ?_) (fun c93 => ?_)
          ·
            refine h_aload_n dX11_lay_76 rfl 2 rfl ?_
            refine gf_9_0 dX11_lay_77 hl_X11_10 nl_0 zk_0 zp_0_0 ?_
            refine gf_7_9 dX11_lay_80 hl_X11_190 nl_1 zk_1 ?_
            refine h_iconst (v := 4) dX11_lay_83 (by decide) ?_
            refine h_icmp_le (tgt := 90) dX11_lay_84 (by decide) (fun c94 => ?_) (fun c94 => ?_)
            ·
              refine h_aload_n dX11_lay_90 rfl 2 rfl ?_
              refine gf_9_5 dX11_lay_91 hl_X11_46 nl_0 zk_0 zp_0_5 ?_
              refine h_pick [2, 3, 1, 0] [(0, .ref 0), (1, .int a), (2, .int (a - 10)), (3, .int (a - 20))] rfl ?_
              refine h_invV (As := []) (st := []) dX11_lay_94 lk_X11_193 (h_room (by decide)) nl_80 zk_80 (by decide) rfl rfl rfl (Nat.le_of_ble_eq_true rfl) ?_
              exact k49 c1 c35 c69 c81 c93 c94
            ·
              refine h_bipush (v := (-4)) dX11_lay_87 (by decide) ?_
              exact h_iret dX11_lay_89 rfl (k50 c1 c35 c69 c81 c93 c94)
          ·
            refine h_iload_n dX11_lay_46 rfl 3 rfl ?_
            refine h_iconst (v := 1) dX11_lay_47 (by decide) ?_
            refine h_icmp_eq (tgt := 76) dX11_lay_48 (by decide) (fun c95 => ?_) (fun c95 => ?_)
            ·
              refine h_aload_n dX11_lay_76 rfl 2 rfl ?_
              refine gf_9_0 dX11_lay_77 hl_X11_10 nl_0 zk_0 zp_0_0 ?_
              refine gf_7_9 dX11_lay_80 hl_X11_190 nl_1 zk_1 ?_
              refine h_iconst (v := 4) dX11_lay_83 (by decide) ?_
              refine h_icmp_le (tgt := 90) dX11_lay_84 (by decide) (fun c96 => ?_) (fun c96 => ?_)
              ·
                refine h_aload_n dX11_lay_90 rfl 2 rfl ?_
                refine gf_9_5 dX11_lay_91 hl_X11_46 nl_0 zk_0 zp_0_5 ?_
                refine h_pick [2, 3, 1, 0] [(0, .ref 0), (1, .int a), (2, .int (a - 10)), (3, .int (a - 20))] rfl ?_
                refine h_invV (As := []) (st := []) dX11_lay_94 lk_X11_193 (h_room (by decide)) nl_80 zk_80 (by decide) rfl rfl rfl (Nat.le_of_ble_eq_true rfl) ?_
                exact k51 c1 c35 c69 c81 c93 c95 c96
              ·
                refine h_bipush (v := (-4)) dX11_lay_87 (by decide) ?_
                exact h_iret dX11_lay_89 rfl (k52 c1 c35 c69 c81 c93 c95 c96)
            ·
              refine h_aload_n dX11_lay_51 rfl 2 rfl ?_
              refine gf_9_0 dX11_lay_52 hl_X11_10 nl_0 zk_0 zp_0_0 ?_
              refine h_iload_n dX11_lay_55 rfl 1 rfl ?_
              refine h_invV (As := [.int (a - 10)]) (st := []) dX11_lay_56 lk_X11_88 (h_room (by decide)) nl_1 zk_1 (by decide) rfl rfl rfl (Nat.le_of_ble_eq_true rfl) ?_
              refine c_X9_hasKind (fun c97 c98 => ?_) (fun c99 => ?_)
              ·
                refine h_if_ne (tgt := 76) dX11_lay_59 (by decide) (fun _ => ?_) (fun c => absurd c (by decide))
                refine h_aload_n dX11_lay_76 rfl 2 rfl ?_
                refine gf_9_0 dX11_lay_77 hl_X11_10 nl_0 zk_0 zp_0_0 ?_
                refine gf_7_9 dX11_lay_80 hl_X11_190 nl_1 zk_1 ?_
                refine h_iconst (v := 4) dX11_lay_83 (by decide) ?_
                refine h_icmp_le (tgt := 90) dX11_lay_84 (by decide) (fun c100 => ?_) (fun c100 => ?_)
                ·
                  refine h_aload_n dX11_lay_90 rfl 2 rfl ?_
                  refine gf_9_5 dX11_lay_91 hl_X11_46 nl_0 zk_0 zp_0_5 ?_
                  refine h_pick [2, 3, 1, 0] [(0, .ref 0), (1, .int a), (2, .int (a - 10)), (3, .int (a - 20))] rfl ?_
                  refine h_invV (As := []) (st := []) dX11_lay_94 lk_X11_193 (h_room (by decide)) nl_80 zk_80 (by decide) rfl rfl rfl (Nat.le_of_ble_eq_true rfl) ?_
                  exact k53 c1 c35 c69 c81 c93 c95 c97 c98 c100
                ·
                  refine h_bipush (v := (-4)) dX11_lay_87 (by decide) ?_
                  exact h_iret dX11_lay_89 rfl (k54 c1 c35 c69 c81 c93 c95 c97 c98 c100)
              ·
                refine h_if_ne (tgt := 76) dX11_lay_59 (by decide) (fun c => absurd c (by decide)) (fun _ => ?_)
                refine h_aload_n dX11_lay_62 rfl 2 rfl ?_
                refine gf_9_0 dX11_lay_63 hl_X11_10 nl_0 zk_0 zp_0_0 ?_
                refine h_iload_n dX11_lay_66 rfl 0 rfl ?_
                refine h_invV (As := [.int (a - 20)]) (st := []) dX11_lay_67 lk_X11_88 (h_room (by decide)) nl_1 zk_1 (by decide) rfl rfl rfl (Nat.le_of_ble_eq_true rfl) ?_
                refine c_X9_hasKind (fun c101 c102 => ?_) (fun c103 => ?_)
                ·
                  refine h_if_ne (tgt := 76) dX11_lay_70 (by decide) (fun _ => ?_) (fun c => absurd c (by decide))
                  refine h_aload_n dX11_lay_76 rfl 2 rfl ?_
                  refine gf_9_0 dX11_lay_77 hl_X11_10 nl_0 zk_0 zp_0_0 ?_
                  refine gf_7_9 dX11_lay_80 hl_X11_190 nl_1 zk_1 ?_
                  refine h_iconst (v := 4) dX11_lay_83 (by decide) ?_
                  refine h_icmp_le (tgt := 90) dX11_lay_84 (by decide) (fun c104 => ?_) (fun c104 => ?_)
                  ·
                    refine h_aload_n dX11_lay_90 rfl 2 rfl ?_
                    refine gf_9_5 dX11_lay_91 hl_X11_46 nl_0 zk_0 zp_0_5 ?_
                    refine h_pick [2, 3, 1, 0] [(0, .ref 0), (1, .int a), (2, .int (a - 10)), (3, .int (a - 20))] rfl ?_
                    refine h_invV (As := []) (st := []) dX11_lay_94 lk_X11_193 (h_room (by decide)) nl_80 zk_80 (by decide) rfl rfl rfl (Nat.le_of_ble_eq_true rfl) ?_
                    exact k55 c1 c35 c69 c81 c93 c95 c99 c101 c102 c104
                  ·
                    refine h_bipush (v := (-4)) dX11_lay_87 (by decide) ?_
                    exact h_iret dX11_lay_89 rfl (k56 c1 c35 c69 c81 c93 c95 c99 c101 c102 c104)
                ·
                  refine h_if_ne (tgt := 76) dX11_lay_70 (by decide) (fun c => absurd c (by decide)) (fun _ => ?_)
                  refine h_bipush (v := (-3)) dX11_lay_73 (by decide) ?_
                  exact h_iret dX11_lay_75 rfl (k57 c1 c35 c69 c81 c93 c95 c99 c103)
set_option maxHeartbeats 1000000 in
set_option maxRecDepth 4000 in
theorem sg_X11_lay_97 {E : HEn} {d : Nat} {Q : Option Value → HIh → Prop} {I : HIh} {x1 : Int32} {x2 : Int32} {x3 : Int32}
    (k1 : ¬ x1 = 0 → ¬ x1 = 1 → x2 = (-1) → HCall E me_X6_mostOf (d + 4) [.ref 80, .int x3] I (fun v9 J => HGo E (mF E (d + 5) Q) me_X11_lay 146 [] (v9.toList ++ []) J))
    (k2 : ¬ x1 = 0 → ¬ x1 = 1 → ¬ x2 = (-1) → HCall E me_X6_leastOf (d + 4) [.ref 80, .int x2] I (fun v9 J => HGo E (mF E (d + 5) Q) me_X11_lay 135 [] (v9.toList ++ []) J))
    (k3 : ¬ x1 = 0 → x1 = 1 → Q (some (.int (I 80 8))) I)
    (k4 : x1 = 0 → Q (some (.int (I 80 7))) I)
    : HGo E (mF E (d + 5) Q) me_X11_lay 97 [(0, .ref 0), (1, .int x1), (2, .int x2), (3, .int x3)] [] I := by
  refine h_iload_n dX11_lay_97 rfl 1 rfl ?_
  refine h_if_ne (tgt := 109) dX11_lay_98 (by decide) (fun c1 => ?_) (fun c1 => ?_)
  ·
    refine h_iload_n dX11_lay_109 rfl 1 rfl ?_
    refine h_iconst (v := 1) dX11_lay_110 (by decide) ?_
    refine h_icmp_ne (tgt := 122) dX11_lay_111 (by decide) (fun c2 => ?_) (fun c2 => ?_)
    ·
      refine h_iload_n dX11_lay_122 rfl 2 rfl ?_
      refine h_iconst (v := (-1)) dX11_lay_123 (by decide) ?_
      refine h_icmp_eq (tgt := 138) dX11_lay_124 (by decide) (fun c3 => ?_) (fun c3 => ?_)
      ·
        refine h_aload_n dX11_lay_138 rfl 0 rfl ?_
        refine gf_9_5 dX11_lay_139 hl_X11_46 nl_0 zk_0 zp_0_5 ?_
        refine h_iload_n dX11_lay_142 rfl 3 rfl ?_
        refine h_pick [] [] rfl ?_
        refine h_invV (As := [.int x3]) (st := []) dX11_lay_143 lk_X11_205 (h_room (by decide)) nl_80 zk_80 (by decide) rfl rfl rfl (Nat.le_of_ble_eq_true rfl) ?_
        exact k1 c1 c2 c3
      ·
        refine h_aload_n dX11_lay_127 rfl 0 rfl ?_
        refine gf_9_5 dX11_lay_128 hl_X11_46 nl_0 zk_0 zp_0_5 ?_
        refine h_iload_n dX11_lay_131 rfl 2 rfl ?_
        refine h_pick [] [] rfl ?_
        refine h_invV (As := [.int x2]) (st := []) dX11_lay_132 lk_X11_202 (h_room (by decide)) nl_80 zk_80 (by decide) rfl rfl rfl (Nat.le_of_ble_eq_true rfl) ?_
        exact k2 c1 c2 c3
    ·
      refine h_aload_n dX11_lay_114 rfl 0 rfl ?_
      refine gf_9_5 dX11_lay_115 hl_X11_46 nl_0 zk_0 zp_0_5 ?_
      refine gf_5_8 dX11_lay_118 hl_X11_199 nl_80 zk_80 ?_
      exact h_iret dX11_lay_121 rfl (k3 c1 c2)
  ·
    refine h_aload_n dX11_lay_101 rfl 0 rfl ?_
    refine gf_9_5 dX11_lay_102 hl_X11_46 nl_0 zk_0 zp_0_5 ?_
    refine gf_5_7 dX11_lay_105 hl_X11_196 nl_80 zk_80 ?_
    exact h_iret dX11_lay_108 rfl (k4 c1)
set_option maxHeartbeats 1000000 in
set_option maxRecDepth 4000 in
theorem sg_X11_lay_146 {E : HEn} {d : Nat} {Q : Option Value → HIh → Prop} {I : HIh} {s0 : Int32}
    (k1 : Q (some (.int s0)) I)
    : HGo E (mF E (d + 5) Q) me_X11_lay 146 [] [.int s0] I := by
  exact h_iret dX11_lay_146 rfl (k1)
set_option maxHeartbeats 1000000 in
set_option maxRecDepth 4000 in
theorem sg_X11_lay_135 {E : HEn} {d : Nat} {Q : Option Value → HIh → Prop} {I : HIh} {s0 : Int32}
    (k1 : Q (some (.int s0)) I)
    : HGo E (mF E (d + 5) Q) me_X11_lay 135 [] [.int s0] I := by
  refine h_goto (tgt := 146) dX11_lay_135 (by decide) ?_
  exact h_iret dX11_lay_146 rfl (k1)
set_option maxHeartbeats 1000000 in
set_option maxRecDepth 4000 in
theorem sg_X11_count_0 {E : HEn} {d : Nat} {Q : Option Value → HIh → Prop} {I : HIh} {a : Int32}
    (k1 : a = 0 → Q (some (.int (I 1 9))) I)
    (k2 : ¬ a = 0 → a = 1 → HCall E me_X9_wealth (d + 3) [.ref 1, .ref 12, .int 4] I (fun v9 J => HGo E (mF E (d + 4) Q) me_X11_count 68 [] (v9.toList ++ []) J))
    (k3 : ¬ a = 0 → ¬ a = 1 → a = 2 → Q (some (.int (I 1 11))) I)
    (k4 : ¬ a = 0 → ¬ a = 1 → ¬ a = 2 → a = 3 → Q (some (.int (I 1 10))) I)
    (k5 : ¬ a = 0 → ¬ a = 1 → ¬ a = 2 → ¬ a = 3 → a = 4 → Q (some (.int (I 12 1))) I)
    (k6 : ¬ a = 0 → ¬ a = 1 → ¬ a = 2 → ¬ a = 3 → ¬ a = 4 → a = 5 → Q (some (.int (I 80 6))) I)
    (k7 : ¬ a = 0 → ¬ a = 1 → ¬ a = 2 → ¬ a = 3 → ¬ a = 4 → ¬ a = 5 → a = 6 → Q (some (.int (I 19 2))) I)
    (k8 : ¬ a = 0 → ¬ a = 1 → ¬ a = 2 → ¬ a = 3 → ¬ a = 4 → ¬ a = 5 → ¬ a = 6 → a = 7 → HCall E me_X11_wealthOfAll (d + 3) [.ref 0] I (fun v9 J => HGo E (mF E (d + 4) Q) me_X11_count 113 [] (v9.toList ++ []) J))
    (k9 : ¬ a = 0 → ¬ a = 1 → ¬ a = 2 → ¬ a = 3 → ¬ a = 4 → ¬ a = 5 → ¬ a = 6 → ¬ a = 7 → Q (some (.int (-3))) I)
    : HGo E (mF E (d + 4) Q) me_X11_count 0 [(0, .ref 0), (1, .int a)] [] I := by
  refine h_iload_n dX11_count_0 rfl 1 rfl ?_
  by_cases c1 : a = 0
  · refine h_tswIn (off := 47) (tgt := 48) 0 dX11_count_1 (by rw [c1]; rfl) (by decide) (by decide) (by decide) (by decide) ?_
    refine h_aload_n dX11_count_48 rfl 0 rfl ?_
    refine gf_9_0 dX11_count_49 hl_X11_10 nl_0 zk_0 zp_0_0 ?_
    refine gf_7_9 dX11_count_52 hl_X11_190 nl_1 zk_1 ?_
    exact h_iret dX11_count_55 rfl (k1 c1)
  by_cases c2 : a = 1
  · refine h_tswIn (off := 55) (tgt := 56) 1 dX11_count_1 (by rw [c2]; rfl) (by decide) (by decide) (by decide) (by decide) ?_
    refine h_aload_n dX11_count_56 rfl 0 rfl ?_
    refine gf_9_0 dX11_count_57 hl_X11_10 nl_0 zk_0 zp_0_0 ?_
    refine h_aload_n dX11_count_60 rfl 0 rfl ?_
    refine gf_9_1 dX11_count_61 hl_X11_19 nl_0 zk_0 zp_0_1 ?_
    refine h_iconst (v := 4) dX11_count_64 (by decide) ?_
    refine h_pick [] [] rfl ?_
    refine h_invV (As := [.ref 12, .int 4]) (st := []) dX11_count_65 lk_X11_103 (h_room (by decide)) nl_1 zk_1 (by decide) rfl rfl rfl (Nat.le_of_ble_eq_true rfl) ?_
    exact k2 c1 c2
  by_cases c3 : a = 2
  · refine h_tswIn (off := 68) (tgt := 69) 2 dX11_count_1 (by rw [c3]; rfl) (by decide) (by decide) (by decide) (by decide) ?_
    refine h_aload_n dX11_count_69 rfl 0 rfl ?_
    refine gf_9_0 dX11_count_70 hl_X11_10 nl_0 zk_0 zp_0_0 ?_
    refine gf_7_11 dX11_count_73 hl_X11_208 nl_1 zk_1 ?_
    exact h_iret dX11_count_76 rfl (k3 c1 c2 c3)
  by_cases c4 : a = 3
  · refine h_tswIn (off := 76) (tgt := 77) 3 dX11_count_1 (by rw [c4]; rfl) (by decide) (by decide) (by decide) (by decide) ?_
    refine h_aload_n dX11_count_77 rfl 0 rfl ?_
    refine gf_9_0 dX11_count_78 hl_X11_10 nl_0 zk_0 zp_0_0 ?_
    refine gf_7_10 dX11_count_81 hl_X11_146 nl_1 zk_1 ?_
    exact h_iret dX11_count_84 rfl (k4 c1 c2 c3 c4)
  by_cases c5 : a = 4
  · refine h_tswIn (off := 84) (tgt := 85) 4 dX11_count_1 (by rw [c5]; rfl) (by decide) (by decide) (by decide) (by decide) ?_
    refine h_aload_n dX11_count_85 rfl 0 rfl ?_
    refine gf_9_1 dX11_count_86 hl_X11_19 nl_0 zk_0 zp_0_1 ?_
    refine gf_3_1 dX11_count_89 hl_X11_139 nl_12 zk_12 ?_
    exact h_iret dX11_count_92 rfl (k5 c1 c2 c3 c4 c5)
  by_cases c6 : a = 5
  · refine h_tswIn (off := 92) (tgt := 93) 5 dX11_count_1 (by rw [c6]; rfl) (by decide) (by decide) (by decide) (by decide) ?_
    refine h_aload_n dX11_count_93 rfl 0 rfl ?_
    refine gf_9_5 dX11_count_94 hl_X11_46 nl_0 zk_0 zp_0_5 ?_
    refine gf_5_6 dX11_count_97 hl_X11_76 nl_80 zk_80 ?_
    exact h_iret dX11_count_100 rfl (k6 c1 c2 c3 c4 c5 c6)
  by_cases c7 : a = 6
  · refine h_tswIn (off := 100) (tgt := 101) 6 dX11_count_1 (by rw [c7]; rfl) (by decide) (by decide) (by decide) (by decide) ?_
    refine h_aload_n dX11_count_101 rfl 0 rfl ?_
    refine gf_9_3 dX11_count_102 hl_X11_30 nl_0 zk_0 zp_0_3 ?_
    refine gf_6_2 dX11_count_105 hl_X11_50 nl_19 zk_19 ?_
    exact h_iret dX11_count_108 rfl (k7 c1 c2 c3 c4 c5 c6 c7)
  by_cases c8 : a = 7
  · refine h_tswIn (off := 108) (tgt := 109) 7 dX11_count_1 (by rw [c8]; rfl) (by decide) (by decide) (by decide) (by decide) ?_
    refine h_aload_n dX11_count_109 rfl 0 rfl ?_
    refine h_pick [] [] rfl ?_
    refine h_invV (As := []) (st := []) dX11_count_110 lk_X11_211 (h_room (by decide)) nl_0 zk_0 (by decide) rfl rfl rfl (Nat.le_of_ble_eq_true rfl) ?_
    exact k8 c1 c2 c3 c4 c5 c6 c7 c8
  refine h_tswOut (tgt := 114) dX11_count_1 (tsw_out8 c1 c2 c3 c4 c5 c6 c7 c8) (by decide) ?_
  refine h_bipush (v := (-3)) dX11_count_114 (by decide) ?_
  exact h_iret dX11_count_116 rfl (k9 c1 c2 c3 c4 c5 c6 c7 c8)
set_option maxHeartbeats 1000000 in
set_option maxRecDepth 4000 in
theorem sg_X11_count_68 {E : HEn} {d : Nat} {Q : Option Value → HIh → Prop} {I : HIh} {s0 : Int32}
    (k1 : Q (some (.int s0)) I)
    : HGo E (mF E (d + 4) Q) me_X11_count 68 [] [.int s0] I := by
  exact h_iret dX11_count_68 rfl (k1)
set_option maxHeartbeats 1000000 in
set_option maxRecDepth 4000 in
theorem sg_X11_count_113 {E : HEn} {d : Nat} {Q : Option Value → HIh → Prop} {I : HIh} {s0 : Int32}
    (k1 : Q (some (.int s0)) I)
    : HGo E (mF E (d + 4) Q) me_X11_count 113 [] [.int s0] I := by
  exact h_iret dX11_count_113 rfl (k1)
set_option maxHeartbeats 1000000 in
set_option maxRecDepth 4000 in
theorem sg_X11_wealthOfAll_0 {E : HEn} {d : Nat} {Q : Option Value → HIh → Prop} {I : HIh} 
    (k1 : HGo E (mF E (d + 3) Q) me_X11_wealthOfAll 4 [(0, .ref 0), (1, .int 0), (2, .int 0)] [] I)
    : HGo E (mF E (d + 3) Q) me_X11_wealthOfAll 0 [(0, .ref 0)] [] I := by
  refine h_iconst (v := 0) dX11_wealthOfAll_0 (by decide) ?_
  refine h_istore_n (L' := [(1, .int 0), (0, .ref 0)]) dX11_wealthOfAll_1 rfl (by decide) rfl ?_
  refine h_iconst (v := 0) dX11_wealthOfAll_2 (by decide) ?_
  refine h_istore_n (L' := [(2, .int 0), (1, .int 0), (0, .ref 0)]) dX11_wealthOfAll_3 rfl (by decide) rfl ?_
  refine h_pick [2, 1, 0] [(0, .ref 0), (1, .int 0), (2, .int 0)] rfl ?_
  exact k1
set_option maxHeartbeats 1000000 in
set_option maxRecDepth 4000 in
theorem sg_X11_wealthOfAll_4 {E : HEn} {d : Nat} {Q : Option Value → HIh → Prop} {I : HIh} {x1 : Int32} {x2 : Int32}
    (k1 : 5 ≤ x2 → Q (some (.int x1)) I)
    (k2 : ¬ 5 ≤ x2 → HCall E me_X9_wealth (d + 2) [.ref 1, .ref 12, .int x2] I (fun v9 J => HGo E (mF E (d + 3) Q) me_X11_wealthOfAll 22 [(0, .ref 0), (2, .int x2)] (v9.toList ++ [.int x1]) J))
    : HGo E (mF E (d + 3) Q) me_X11_wealthOfAll 4 [(0, .ref 0), (1, .int x1), (2, .int x2)] [] I := by
  refine h_iload_n dX11_wealthOfAll_4 rfl 2 rfl ?_
  refine h_iconst (v := 5) dX11_wealthOfAll_5 (by decide) ?_
  refine h_icmp_ge (tgt := 30) dX11_wealthOfAll_6 (by decide) (fun c1 => ?_) (fun c1 => ?_)
  ·
    refine h_iload_n dX11_wealthOfAll_30 rfl 1 rfl ?_
    exact h_iret dX11_wealthOfAll_31 rfl (k1 c1)
  ·
    refine h_iload_n dX11_wealthOfAll_9 rfl 1 rfl ?_
    refine h_aload_n dX11_wealthOfAll_10 rfl 0 rfl ?_
    refine gf_9_0 dX11_wealthOfAll_11 hl_X11_10 nl_0 zk_0 zp_0_0 ?_
    refine h_aload_n dX11_wealthOfAll_14 rfl 0 rfl ?_
    refine gf_9_1 dX11_wealthOfAll_15 hl_X11_19 nl_0 zk_0 zp_0_1 ?_
    refine h_iload_n dX11_wealthOfAll_18 rfl 2 rfl ?_
    refine h_pick [0, 2] [(0, .ref 0), (2, .int x2)] rfl ?_
    refine h_invV (As := [.ref 12, .int x2]) (st := [.int x1]) dX11_wealthOfAll_19 lk_X11_103 (h_room (by decide)) nl_1 zk_1 (by decide) rfl rfl rfl (Nat.le_of_ble_eq_true rfl) ?_
    exact k2 c1
set_option maxHeartbeats 1000000 in
set_option maxRecDepth 4000 in
theorem sg_X11_wealthOfAll_22 {E : HEn} {d : Nat} {Q : Option Value → HIh → Prop} {I : HIh} {x2 : Int32} {s0 : Int32} {s1 : Int32}
    (k1 : HGo E (mF E (d + 3) Q) me_X11_wealthOfAll 4 [(0, .ref 0), (1, .int (s1 + s0)), (2, .int (x2 + 1))] [] I)
    : HGo E (mF E (d + 3) Q) me_X11_wealthOfAll 22 [(0, .ref 0), (2, .int x2)] [.int s0, .int s1] I := by
  refine h_iadd dX11_wealthOfAll_22 ?_
  refine h_istore_n (L' := [(1, .int (s1 + s0)), (0, .ref 0), (2, .int x2)]) dX11_wealthOfAll_23 rfl (by decide) rfl ?_
  refine h_iinc (v := (x2 + 1)) (L' := [(2, .int (x2 + 1)), (1, .int (s1 + s0)), (0, .ref 0)]) dX11_wealthOfAll_24 2 rfl rfl (by decide) rfl ?_
  refine h_goto (tgt := 4) dX11_wealthOfAll_27 (by decide) ?_
  refine h_pick [2, 1, 0] [(0, .ref 0), (1, .int (s1 + s0)), (2, .int (x2 + 1))] rfl ?_
  exact k1
set_option maxHeartbeats 1000000 in
set_option maxRecDepth 4000 in
theorem sg_X11_tooLongForGame_0 {E : HEn} {d : Nat} {Q : Option Value → HIh → Prop} {I : HIh} 
    (k1 : ((I 1 10) - (I 12 1)) ≤ 6 → Q (some (.int 0)) I)
    (k2 : ¬ ((I 1 10) - (I 12 1)) ≤ 6 → Q (some (.int 1)) I)
    : HGo E (mF E (d + 1) Q) me_X11_tooLongForGame 0 [(0, .ref 0)] [] I := by
  refine h_aload_n dX11_tooLongForGame_0 rfl 0 rfl ?_
  refine gf_9_0 dX11_tooLongForGame_1 hl_X11_10 nl_0 zk_0 zp_0_0 ?_
  refine gf_7_10 dX11_tooLongForGame_4 hl_X11_146 nl_1 zk_1 ?_
  refine h_aload_n dX11_tooLongForGame_7 rfl 0 rfl ?_
  refine gf_9_1 dX11_tooLongForGame_8 hl_X11_19 nl_0 zk_0 zp_0_1 ?_
  refine gf_3_1 dX11_tooLongForGame_11 hl_X11_139 nl_12 zk_12 ?_
  refine h_isub dX11_tooLongForGame_14 ?_
  refine h_bipush (v := 6) dX11_tooLongForGame_15 (by decide) ?_
  refine h_icmp_le (tgt := 24) dX11_tooLongForGame_17 (by decide) (fun c1 => ?_) (fun c1 => ?_)
  ·
    refine h_iconst (v := 0) dX11_tooLongForGame_24 (by decide) ?_
    exact h_zret dX11_tooLongForGame_25 rfl rfl (k1 c1)
  ·
    refine h_iconst (v := 1) dX11_tooLongForGame_20 (by decide) ?_
    refine h_goto (tgt := 25) dX11_tooLongForGame_21 (by decide) ?_
    exact h_zret dX11_tooLongForGame_25 rfl rfl (k2 c1)
set_option maxHeartbeats 1000000 in
set_option maxRecDepth 4000 in
theorem sg_X11_keep_0 {E : HEn} {d : Nat} {Q : Option Value → HIh → Prop} {I : HIh} {h : Nat} {a : Int32} (a_h : h < NL) (b_h : Zk h = 3) (hs_h : Zp 14 a.toNatClampNeg = h)
    (k1 : a < 0 → Q (some (.int (-2))) I)
    (k2 : ¬ a < 0 → a < 2 → vp_in a 2)
    (k3 : ¬ a < 0 → a < 2 → HCall E me_X4_copyFrom (d + 1) [.ref h, .ref 12] I (fun v9 J => HGo E (mF E (d + 2) Q) me_X11_keep 25 [(0, .ref 0), (1, .int a)] (v9.toList ++ []) J))
    (k4 : ¬ a < 0 → ¬ a < 2 → Q (some (.int (-2))) I)
    : HGo E (mF E (d + 2) Q) me_X11_keep 0 [(0, .ref 0), (1, .int a)] [] I := by
  refine h_iload_n dX11_keep_0 rfl 1 rfl ?_
  refine h_if_lt (tgt := 9) dX11_keep_1 (by decide) (fun c1 => ?_) (fun c1 => ?_)
  ·
    refine h_bipush (v := (-2)) dX11_keep_9 (by decide) ?_
    exact h_iret dX11_keep_11 rfl (k1 c1)
  ·
    refine h_iload_n dX11_keep_4 rfl 1 rfl ?_
    refine h_iconst (v := 2) dX11_keep_5 (by decide) ?_
    refine h_icmp_lt (tgt := 12) dX11_keep_6 (by decide) (fun c2 => ?_) (fun c2 => ?_)
    ·
      refine h_aload_n dX11_keep_12 rfl 0 rfl ?_
      refine gf_9_2 dX11_keep_13 hl_X11_23 nl_0 zk_0 zp_0_2 ?_
      refine h_iload_n dX11_keep_16 rfl 1 rfl ?_
      refine h_aald13z dX11_keep_17 nl_14 zk_14 (by rw [zn_14]; exact k2 c1 c2) hs_h ?_
      refine h_aload_n dX11_keep_18 rfl 0 rfl ?_
      refine gf_9_1 dX11_keep_19 hl_X11_19 nl_0 zk_0 zp_0_1 ?_
      refine h_invV (As := [.ref 12]) (st := []) dX11_keep_22 lk_X11_73 (h_room (by decide)) a_h b_h (by decide) rfl rfl rfl (Nat.le_of_ble_eq_true rfl) ?_
      exact k3 c1 c2
    ·
      refine h_bipush (v := (-2)) dX11_keep_9 (by decide) ?_
      exact h_iret dX11_keep_11 rfl (k4 c1 c2)
set_option maxHeartbeats 1000000 in
set_option maxRecDepth 4000 in
theorem sg_X11_keep_25 {E : HEn} {d : Nat} {Q : Option Value → HIh → Prop} {I : HIh} {x1 : Int32}
    (k1 : Q (some (.int ((setI I 0 (upd (I 0) 6 ((I 0 6) ||| ((1 : Int32) <<< (x1 &&& 31))))) 12 1))) (setI I 0 (upd (I 0) 6 ((I 0 6) ||| ((1 : Int32) <<< (x1 &&& 31))))))
    : HGo E (mF E (d + 2) Q) me_X11_keep 25 [(0, .ref 0), (1, .int x1)] [] I := by
  refine h_aload_n dX11_keep_25 rfl 0 rfl ?_
  refine h_dup dX11_keep_26 rfl ?_
  refine gf_9_6 dX11_keep_27 hl_X11_79 nl_0 zk_0 ?_
  refine h_iconst (v := 1) dX11_keep_30 (by decide) ?_
  refine h_iload_n dX11_keep_31 rfl 1 rfl ?_
  refine h_ishl dX11_keep_32 ?_
  refine h_ior dX11_keep_33 ?_
  refine pf_9_6 dX11_keep_34 hl_X11_79 nl_0 zk_0 ?_
  refine h_aload_n dX11_keep_37 rfl 0 rfl ?_
  refine gf_9_1 dX11_keep_38 hl_X11_19 nl_0 zk_0 zp_0_1 ?_
  refine gf_3_1 dX11_keep_41 hl_X11_139 nl_12 zk_12 ?_
  exact h_iret dX11_keep_44 rfl (k1)
set_option maxHeartbeats 1000000 in
set_option maxRecDepth 4000 in
theorem sg_X11_back_0 {E : HEn} {d : Nat} {Q : Option Value → HIh → Prop} {I : HIh} {h : Nat} {a : Int32} (a_h : h < NL) (b_h : Zk h = 3) (hs_h : Zp 14 a.toNatClampNeg = h)
    (k1 : a < 0 → Q (some (.int (-2))) I)
    (k2 : ¬ a < 0 → a < 2 → ¬ (((I 0 6) >>> (a &&& 31)) &&& 1) = 0 → vp_in a 2)
    (k3 : ¬ a < 0 → a < 2 → ¬ (((I 0 6) >>> (a &&& 31)) &&& 1) = 0 → HCall E me_X4_copyFrom (d + 1) [.ref 12, .ref h] I (fun v9 J => HGo E (mF E (d + 2) Q) me_X11_back 39 [(0, .ref 0)] (v9.toList ++ []) J))
    (k4 : ¬ a < 0 → a < 2 → (((I 0 6) >>> (a &&& 31)) &&& 1) = 0 → Q (some (.int (-4))) I)
    (k5 : ¬ a < 0 → ¬ a < 2 → Q (some (.int (-2))) I)
    : HGo E (mF E (d + 2) Q) me_X11_back 0 [(0, .ref 0), (1, .int a)] [] I := by
  refine h_iload_n dX11_back_0 rfl 1 rfl ?_
  refine h_if_lt (tgt := 9) dX11_back_1 (by decide) (fun c1 => ?_) (fun c1 => ?_)
  ·
    refine h_bipush (v := (-2)) dX11_back_9 (by decide) ?_
    exact h_iret dX11_back_11 rfl (k1 c1)
  ·
    refine h_iload_n dX11_back_4 rfl 1 rfl ?_
    refine h_iconst (v := 2) dX11_back_5 (by decide) ?_
    refine h_icmp_lt (tgt := 12) dX11_back_6 (by decide) (fun c2 => ?_) (fun c2 => ?_)
    ·
      refine h_aload_n dX11_back_12 rfl 0 rfl ?_
      refine gf_9_6 dX11_back_13 hl_X11_79 nl_0 zk_0 ?_
      refine h_iload_n dX11_back_16 rfl 1 rfl ?_
      refine h_ishr dX11_back_17 ?_
      refine h_iconst (v := 1) dX11_back_18 (by decide) ?_
      refine h_iand dX11_back_19 ?_
      refine h_if_ne (tgt := 26) dX11_back_20 (by decide) (fun c3 => ?_) (fun c3 => ?_)
      ·
        refine h_aload_n dX11_back_26 rfl 0 rfl ?_
        refine gf_9_1 dX11_back_27 hl_X11_19 nl_0 zk_0 zp_0_1 ?_
        refine h_aload_n dX11_back_30 rfl 0 rfl ?_
        refine gf_9_2 dX11_back_31 hl_X11_23 nl_0 zk_0 zp_0_2 ?_
        refine h_iload_n dX11_back_34 rfl 1 rfl ?_
        refine h_aald13z dX11_back_35 nl_14 zk_14 (by rw [zn_14]; exact k2 c1 c2 c3) hs_h ?_
        refine h_pick [0] [(0, .ref 0)] rfl ?_
        refine h_invV (As := [.ref h]) (st := []) dX11_back_36 lk_X11_73 (h_room (by decide)) nl_12 zk_12 (by decide) rfl rfl rfl (Nat.le_of_ble_eq_true rfl) ?_
        exact k3 c1 c2 c3
      ·
        refine h_bipush (v := (-4)) dX11_back_23 (by decide) ?_
        exact h_iret dX11_back_25 rfl (k4 c1 c2 c3)
    ·
      refine h_bipush (v := (-2)) dX11_back_9 (by decide) ?_
      exact h_iret dX11_back_11 rfl (k5 c1 c2)
set_option maxHeartbeats 1000000 in
set_option maxRecDepth 4000 in
theorem sg_X11_back_39 {E : HEn} {d : Nat} {Q : Option Value → HIh → Prop} {I : HIh} 
    (k1 : HCall E me_X2_becomeStale (d + 1) [.ref 32] I (fun v9 J => HGo E (mF E (d + 2) Q) me_X11_back 46 [(0, .ref 0)] (v9.toList ++ []) J))
    : HGo E (mF E (d + 2) Q) me_X11_back 39 [(0, .ref 0)] [] I := by
  refine h_aload_n dX11_back_39 rfl 0 rfl ?_
  refine gf_9_4 dX11_back_40 hl_X11_39 nl_0 zk_0 zp_0_4 ?_
  refine h_invV (As := []) (st := []) dX11_back_43 lk_X11_82 (h_room (by decide)) nl_32 zk_32 (by decide) rfl rfl rfl (Nat.le_of_ble_eq_true rfl) ?_
  exact k1
set_option maxHeartbeats 1000000 in
set_option maxRecDepth 4000 in
theorem sg_X11_back_46 {E : HEn} {d : Nat} {Q : Option Value → HIh → Prop} {I : HIh} 
    (k1 : Q (some (.int (I 12 1))) I)
    : HGo E (mF E (d + 2) Q) me_X11_back 46 [(0, .ref 0)] [] I := by
  refine h_aload_n dX11_back_46 rfl 0 rfl ?_
  refine gf_9_1 dX11_back_47 hl_X11_19 nl_0 zk_0 zp_0_1 ?_
  refine gf_3_1 dX11_back_50 hl_X11_139 nl_12 zk_12 ?_
  exact h_iret dX11_back_53 rfl (k1)
set_option maxHeartbeats 1000000 in
set_option maxRecDepth 4000 in
theorem sg_X11_person_N_0 {E : HEn} {d : Nat} {Q : Option Value → HIh → Prop} {I : HIh} {a : Int32} {b : Int32}
    (k1 : (0 : Int32) ≤ a → a < 4 → b = 0 → HCall E me_X9_wealth (d + 2) [.ref 1, .ref 12, .int a] I (fun v9 J => HGo E (mF E (d + 3) Q) me_X11_person 52 [] (v9.toList ++ []) J))
    (k2 : (0 : Int32) ≤ a → a < 4 → ¬ b = 0 → b = 1 → HCall E me_X9_folkOf (d + 2) [.ref 1, .int a] I (fun v9 J => HGo E (mF E (d + 3) Q) me_X11_person 61 [] (v9.toList ++ []) J))
    (k3 : (0 : Int32) ≤ a → a < 4 → ¬ b = 0 → ¬ b = 1 → b = 2 → HCall E me_X9_folkOf (d + 2) [.ref 1, .int a] I (fun v9 J => HGo E (mF E (d + 3) Q) me_X11_person 73 [(0, .ref 0), (1, .int a)] (v9.toList ++ []) J))
    (k4 : (0 : Int32) ≤ a → a < 4 → ¬ b = 0 → ¬ b = 1 → ¬ b = 2 → b = 3 → HCall E me_X9_visitsLeft (d + 2) [.ref 1, .ref 12, .int ((1 : Int32) <<< (a &&& 31))] I (fun v9 J => HGo E (mF E (d + 3) Q) me_X11_person 96 [] (v9.toList ++ []) J))
    (k5 : (0 : Int32) ≤ a → a < 4 → ¬ b = 0 → ¬ b = 1 → ¬ b = 2 → ¬ b = 3 → Q (some (.int (-3))) I)
    (k6 : ¬ ((0 : Int32) ≤ a ∧ a < 4) → Q (some (.int (-2))) I)
    : HGo E (mF E (d + 3) Q) me_X11_person 0 [(0, .ref 0), (1, .int a), (2, .int b)] [] I := by
  refine h_iload_n dX11_person_0 rfl 1 rfl ?_
  refine h_invS (As := [.int a]) (st := []) dX11_person_1 lk_X11_100 (h_room (by decide)) rfl rfl (Nat.le_of_ble_eq_true rfl) ?_
  refine c_X11_isPerson (fun c1 c2 => ?_) (fun c3 => ?_)
  ·
    refine h_if_ne (tgt := 10) dX11_person_4 (by decide) (fun _ => ?_) (fun c => absurd c (by decide))
    refine h_iload_n dX11_person_10 rfl 2 rfl ?_
    by_cases c4 : b = 0
    · refine h_tswIn (off := 29) (tgt := 40) 0 dX11_person_11 (by rw [c4]; rfl) (by decide) (by decide) (by decide) (by decide) ?_
      refine h_aload_n dX11_person_40 rfl 0 rfl ?_
      refine gf_9_0 dX11_person_41 hl_X11_10 nl_0 zk_0 zp_0_0 ?_
      refine h_aload_n dX11_person_44 rfl 0 rfl ?_
      refine gf_9_1 dX11_person_45 hl_X11_19 nl_0 zk_0 zp_0_1 ?_
      refine h_iload_n dX11_person_48 rfl 1 rfl ?_
      refine h_pick [] [] rfl ?_
      refine h_invV (As := [.ref 12, .int a]) (st := []) dX11_person_49 lk_X11_103 (h_room (by decide)) nl_1 zk_1 (by decide) rfl rfl rfl (Nat.le_of_ble_eq_true rfl) ?_
      exact k1 c1 c2 c4
    by_cases c5 : b = 1
    · refine h_tswIn (off := 42) (tgt := 53) 1 dX11_person_11 (by rw [c5]; rfl) (by decide) (by decide) (by decide) (by decide) ?_
      refine h_aload_n dX11_person_53 rfl 0 rfl ?_
      refine gf_9_0 dX11_person_54 hl_X11_10 nl_0 zk_0 zp_0_0 ?_
      refine h_iload_n dX11_person_57 rfl 1 rfl ?_
      refine h_pick [] [] rfl ?_
      refine h_invV (As := [.int a]) (st := []) dX11_person_58 lk_X11_107 (h_room (by decide)) nl_1 zk_1 (by decide) rfl rfl rfl (Nat.le_of_ble_eq_true rfl) ?_
      exact k2 c1 c2 c4 c5
    by_cases c6 : b = 2
    · refine h_tswIn (off := 54) (tgt := 65) 2 dX11_person_11 (by rw [c6]; rfl) (by decide) (by decide) (by decide) (by decide) ?_
      refine h_aload_n dX11_person_65 rfl 0 rfl ?_
      refine gf_9_0 dX11_person_66 hl_X11_10 nl_0 zk_0 zp_0_0 ?_
      refine h_iload_n dX11_person_69 rfl 1 rfl ?_
      refine h_pick [0, 1] [(0, .ref 0), (1, .int a)] rfl ?_
      refine h_invV (As := [.int a]) (st := []) dX11_person_70 lk_X11_107 (h_room (by decide)) nl_1 zk_1 (by decide) rfl rfl rfl (Nat.le_of_ble_eq_true rfl) ?_
      exact k3 c1 c2 c4 c5 c6
    by_cases c7 : b = 3
    · refine h_tswIn (off := 71) (tgt := 82) 3 dX11_person_11 (by rw [c7]; rfl) (by decide) (by decide) (by decide) (by decide) ?_
      refine h_aload_n dX11_person_82 rfl 0 rfl ?_
      refine gf_9_0 dX11_person_83 hl_X11_10 nl_0 zk_0 zp_0_0 ?_
      refine h_aload_n dX11_person_86 rfl 0 rfl ?_
      refine gf_9_1 dX11_person_87 hl_X11_19 nl_0 zk_0 zp_0_1 ?_
      refine h_iconst (v := 1) dX11_person_90 (by decide) ?_
      refine h_iload_n dX11_person_91 rfl 1 rfl ?_
      refine h_ishl dX11_person_92 ?_
      refine h_pick [] [] rfl ?_
      refine h_invV (As := [.ref 12, .int ((1 : Int32) <<< (a &&& 31))]) (st := []) dX11_person_93 lk_X11_121 (h_room (by decide)) nl_1 zk_1 (by decide) rfl rfl rfl (Nat.le_of_ble_eq_true rfl) ?_
      exact k4 c1 c2 c4 c5 c6 c7
    refine h_tswOut (tgt := 97) dX11_person_11 (tsw_out4 c4 c5 c6 c7) (by decide) ?_
    refine h_bipush (v := (-3)) dX11_person_97 (by decide) ?_
    exact h_iret dX11_person_99 rfl (k5 c1 c2 c4 c5 c6 c7)
  ·
    refine h_if_ne (tgt := 10) dX11_person_4 (by decide) (fun c => absurd c (by decide)) (fun _ => ?_)
    refine h_bipush (v := (-2)) dX11_person_7 (by decide) ?_
    exact h_iret dX11_person_9 rfl (k6 c3)
set_option maxHeartbeats 1000000 in
set_option maxRecDepth 4000 in
theorem sg_X11_person_N_52 {E : HEn} {d : Nat} {Q : Option Value → HIh → Prop} {I : HIh} {s0 : Int32}
    (k1 : Q (some (.int s0)) I)
    : HGo E (mF E (d + 3) Q) me_X11_person 52 [] [.int s0] I := by
  exact h_iret dX11_person_52 rfl (k1)
set_option maxHeartbeats 1000000 in
set_option maxRecDepth 4000 in
theorem sg_X11_person_N_61 {E : HEn} {d : Nat} {Q : Option Value → HIh → Prop} {I : HIh} 
    (k1 : HCall E me_X5_habit (d + 2) [.ref 2] I (fun v9 J => HGo E (mF E (d + 3) Q) me_X11_person 64 [] (v9.toList ++ []) J))
    : HGo E (mF E (d + 3) Q) me_X11_person 61 [] [.ref 2] I := by
  refine h_invU (As := []) (st := []) dX11_person_61 lk_X11_111_X5 (h_room (by decide)) nl_2 zk_2 (by decide) rfl rfl rfl (Nat.le_of_ble_eq_true rfl) ?_
  exact k1
set_option maxHeartbeats 1000000 in
set_option maxRecDepth 4000 in
theorem sg_X11_person_N_73 {E : HEn} {d : Nat} {Q : Option Value → HIh → Prop} {I : HIh} {x1 : Int32}
    (k1 : HCall E me_X1_waitsFor (d + 2) [.ref 2, .ref 1, .int x1] I (fun v9 J => HGo E (mF E (d + 3) Q) me_X11_person 81 [] (v9.toList ++ []) J))
    : HGo E (mF E (d + 3) Q) me_X11_person 73 [(0, .ref 0), (1, .int x1)] [.ref 2] I := by
  refine h_aload_n dX11_person_73 rfl 0 rfl ?_
  refine gf_9_0 dX11_person_74 hl_X11_10 nl_0 zk_0 zp_0_0 ?_
  refine h_iload_n dX11_person_77 rfl 1 rfl ?_
  refine h_pick [] [] rfl ?_
  refine h_invU (As := [.ref 1, .int x1]) (st := []) dX11_person_78 lk_X11_117_X5 (h_room (by decide)) nl_2 zk_2 (by decide) rfl rfl rfl (Nat.le_of_ble_eq_true rfl) ?_
  exact k1
set_option maxHeartbeats 1000000 in
set_option maxRecDepth 4000 in
theorem sg_X11_person_N_96 {E : HEn} {d : Nat} {Q : Option Value → HIh → Prop} {I : HIh} {s0 : Int32}
    (k1 : Q (some (.int s0)) I)
    : HGo E (mF E (d + 3) Q) me_X11_person 96 [] [.int s0] I := by
  exact h_iret dX11_person_96 rfl (k1)
set_option maxHeartbeats 1000000 in
set_option maxRecDepth 4000 in
theorem sg_X11_person_N_64 {E : HEn} {d : Nat} {Q : Option Value → HIh → Prop} {I : HIh} {s0 : Int32}
    (k1 : Q (some (.int s0)) I)
    : HGo E (mF E (d + 3) Q) me_X11_person 64 [] [.int s0] I := by
  exact h_iret dX11_person_64 rfl (k1)
set_option maxHeartbeats 1000000 in
set_option maxRecDepth 4000 in
theorem sg_X11_person_N_81 {E : HEn} {d : Nat} {Q : Option Value → HIh → Prop} {I : HIh} {s0 : Int32}
    (k1 : Q (some (.int s0)) I)
    : HGo E (mF E (d + 3) Q) me_X11_person 81 [] [.int s0] I := by
  exact h_iret dX11_person_81 rfl (k1)
set_option maxHeartbeats 1000000 in
set_option maxRecDepth 4000 in
theorem sg_X11_as_N_0 {E : HEn} {d : Nat} {Q : Option Value → HIh → Prop} {I : HIh} {a : Int32} {b : Int32}
    (k1 : (0 : Int32) ≤ a → a < 4 → b < 0 → Q (some (.int (-3))) I)
    (k2 : (0 : Int32) ≤ a → a < 4 → ¬ b < 0 → b ≤ 5 → HCall E me_X9_folkOf (d + 3) [.ref 1, .int a] I (fun v9 J => HGo E (mF E (d + 4) Q) me_X11_as 30 [(0, .ref 0), (1, .int a), (2, .int b)] (v9.toList ++ []) J))
    (k3 : (0 : Int32) ≤ a → a < 4 → ¬ b < 0 → ¬ b ≤ 5 → Q (some (.int (-3))) I)
    (k4 : ¬ ((0 : Int32) ≤ a ∧ a < 4) → Q (some (.int (-2))) I)
    : HGo E (mF E (d + 4) Q) me_X11_as 0 [(0, .ref 0), (1, .int a), (2, .int b)] [] I := by
  refine h_iload_n dX11_as_0 rfl 1 rfl ?_
  refine h_invS (As := [.int a]) (st := []) dX11_as_1 lk_X11_100 (h_room (by decide)) rfl rfl (Nat.le_of_ble_eq_true rfl) ?_
  refine c_X11_isPerson (fun c1 c2 => ?_) (fun c3 => ?_)
  ·
    refine h_if_ne (tgt := 10) dX11_as_4 (by decide) (fun _ => ?_) (fun c => absurd c (by decide))
    refine h_iload_n dX11_as_10 rfl 2 rfl ?_
    refine h_if_lt (tgt := 19) dX11_as_11 (by decide) (fun c4 => ?_) (fun c4 => ?_)
    ·
      refine h_bipush (v := (-3)) dX11_as_19 (by decide) ?_
      exact h_iret dX11_as_21 rfl (k1 c1 c2 c4)
    ·
      refine h_iload_n dX11_as_14 rfl 2 rfl ?_
      refine h_iconst (v := 5) dX11_as_15 (by decide) ?_
      refine h_icmp_le (tgt := 22) dX11_as_16 (by decide) (fun c5 => ?_) (fun c5 => ?_)
      ·
        refine h_aload_n dX11_as_22 rfl 0 rfl ?_
        refine gf_9_0 dX11_as_23 hl_X11_10 nl_0 zk_0 zp_0_0 ?_
        refine h_iload_n dX11_as_26 rfl 1 rfl ?_
        refine h_invV (As := [.int a]) (st := []) dX11_as_27 lk_X11_107 (h_room (by decide)) nl_1 zk_1 (by decide) rfl rfl rfl (Nat.le_of_ble_eq_true rfl) ?_
        exact k2 c1 c2 c4 c5
      ·
        refine h_bipush (v := (-3)) dX11_as_19 (by decide) ?_
        exact h_iret dX11_as_21 rfl (k3 c1 c2 c4 c5)
  ·
    refine h_if_ne (tgt := 10) dX11_as_4 (by decide) (fun c => absurd c (by decide)) (fun _ => ?_)
    refine h_bipush (v := (-2)) dX11_as_7 (by decide) ?_
    exact h_iret dX11_as_9 rfl (k4 c3)
set_option maxHeartbeats 1000000 in
set_option maxRecDepth 4000 in
theorem sg_X11_as_N_30 {E : HEn} {d : Nat} {Q : Option Value → HIh → Prop} {I : HIh} {x1 : Int32} {x2 : Int32}
    (k1 : HCall E me_X11_isA (d + 3) [.ref 2, .int x2] I (fun v9 J => HGo E (mF E (d + 4) Q) me_X11_as 36 [(0, .ref 0), (1, .int x1), (3, .ref 2)] (v9.toList ++ []) J))
    : HGo E (mF E (d + 4) Q) me_X11_as 30 [(0, .ref 0), (1, .int x1), (2, .int x2)] [.ref 2] I := by
  refine h_astore_n (L' := [(3, .ref 2), (0, .ref 0), (1, .int x1), (2, .int x2)]) dX11_as_30 rfl (by decide) rfl ?_
  refine h_aload_n dX11_as_31 rfl 0 rfl ?_
  refine h_iload_n dX11_as_32 rfl 3 rfl ?_
  refine h_pick [1, 2, 0] [(0, .ref 0), (1, .int x1), (3, .ref 2)] rfl ?_
  refine h_invS (As := [.ref 2, .int x2]) (st := []) dX11_as_33 lk_X11_124 (h_room (by decide)) rfl rfl (Nat.le_of_ble_eq_true rfl) ?_
  exact k1
set_option maxHeartbeats 1000000 in
set_option maxRecDepth 4000 in
theorem sg_X11_as_N_36 {E : HEn} {d : Nat} {Q : Option Value → HIh → Prop} {I : HIh} {x1 : Int32} {s0 : Int32}
    (k1 : s0 = 0 → Q (some (.int (-4))) I)
    (k2 : ¬ s0 = 0 → HCall E me_X5_wouldThrow (d + 3) [.ref 2, .ref 1, .ref 12, .int x1] I (fun v9 J => HGo E (mF E (d + 4) Q) me_X11_as 52 [] (v9.toList ++ []) J))
    : HGo E (mF E (d + 4) Q) me_X11_as 36 [(0, .ref 0), (1, .int x1), (3, .ref 2)] [.int s0] I := by
  refine h_if_eq (tgt := 55) dX11_as_36 (by decide) (fun c1 => ?_) (fun c1 => ?_)
  ·
    refine h_bipush (v := (-4)) dX11_as_55 (by decide) ?_
    exact h_iret dX11_as_57 rfl (k1 c1)
  ·
    refine h_aload_n dX11_as_39 rfl 2 rfl ?_
    refine h_aload_n dX11_as_40 rfl 0 rfl ?_
    refine gf_9_0 dX11_as_41 hl_X11_10 nl_0 zk_0 zp_0_0 ?_
    refine h_aload_n dX11_as_44 rfl 0 rfl ?_
    refine gf_9_1 dX11_as_45 hl_X11_19 nl_0 zk_0 zp_0_1 ?_
    refine h_iload_n dX11_as_48 rfl 1 rfl ?_
    refine h_pick [] [] rfl ?_
    refine h_invU (As := [.ref 1, .ref 12, .int x1]) (st := []) dX11_as_49 lk_X11_128_X5 (h_room (by decide)) nl_2 zk_2 (by decide) rfl rfl rfl (Nat.le_of_ble_eq_true rfl) ?_
    exact k2 c1
set_option maxHeartbeats 1000000 in
set_option maxRecDepth 4000 in
theorem sg_X11_as_N_52 {E : HEn} {d : Nat} {Q : Option Value → HIh → Prop} {I : HIh} {s0 : Int32}
    (k1 : Q (some (.int s0)) I)
    : HGo E (mF E (d + 4) Q) me_X11_as 52 [] [.int s0] I := by
  refine h_goto (tgt := 57) dX11_as_52 (by decide) ?_
  exact h_iret dX11_as_57 rfl (k1)
set_option maxHeartbeats 1000000 in
set_option maxRecDepth 4000 in
theorem sg_X11_isA_N_0 {E : HEn} {d : Nat} {Q : Option Value → HIh → Prop} {I : HIh} {b : Int32}
    (k1 : b = 0 → Q (some (.int 1)) I)
    (k2 : ¬ b = 0 → b = 1 → Q (some (.int 1)) I)
    (k3 : ¬ b = 0 → ¬ b = 1 → b = 2 → Q (some (.int 0)) I)
    (k4 : ¬ b = 0 → ¬ b = 1 → ¬ b = 2 → b = 3 → Q (some (.int 0)) I)
    (k5 : ¬ b = 0 → ¬ b = 1 → ¬ b = 2 → ¬ b = 3 → b = 4 → Q (some (.int 0)) I)
    (k6 : ¬ b = 0 → ¬ b = 1 → ¬ b = 2 → ¬ b = 3 → ¬ b = 4 → Q (some (.int 0)) I)
    : HGo E (mF E (d + 1) Q) me_X11_isA 0 [(0, .ref 2), (1, .int b)] [] I := by
  refine h_iload_n dX11_isA_0 rfl 1 rfl ?_
  by_cases c1 : b = 0
  · refine h_tswIn (off := 35) (tgt := 36) 0 dX11_isA_1 (by rw [c1]; rfl) (by decide) (by decide) (by decide) (by decide) ?_
    refine h_iconst (v := 1) dX11_isA_36 (by decide) ?_
    exact h_zret dX11_isA_37 rfl rfl (k1 c1)
  by_cases c2 : b = 1
  · refine h_tswIn (off := 37) (tgt := 38) 1 dX11_isA_1 (by rw [c2]; rfl) (by decide) (by decide) (by decide) (by decide) ?_
    refine h_aload_n dX11_isA_38 rfl 0 rfl ?_
    refine h_instS dX11_isA_39 wt_533 nl_2 zk_2 (by decide) rfl ?_
    exact h_zret dX11_isA_42 rfl rfl (k2 c1 c2)
  by_cases c3 : b = 2
  · refine h_tswIn (off := 42) (tgt := 43) 2 dX11_isA_1 (by rw [c3]; rfl) (by decide) (by decide) (by decide) (by decide) ?_
    refine h_aload_n dX11_isA_43 rfl 0 rfl ?_
    refine h_instNo dX11_isA_44 wt_534 (by decide +kernel) nl_2 zk_2 (by decide) rfl ?_
    exact h_zret dX11_isA_47 rfl rfl (k3 c1 c2 c3)
  by_cases c4 : b = 3
  · refine h_tswIn (off := 47) (tgt := 48) 3 dX11_isA_1 (by rw [c4]; rfl) (by decide) (by decide) (by decide) (by decide) ?_
    refine h_aload_n dX11_isA_48 rfl 0 rfl ?_
    refine h_instNo dX11_isA_49 wt_535 (by decide +kernel) nl_2 zk_2 (by decide) rfl ?_
    exact h_zret dX11_isA_52 rfl rfl (k4 c1 c2 c3 c4)
  by_cases c5 : b = 4
  · refine h_tswIn (off := 52) (tgt := 53) 4 dX11_isA_1 (by rw [c5]; rfl) (by decide) (by decide) (by decide) (by decide) ?_
    refine h_aload_n dX11_isA_53 rfl 0 rfl ?_
    refine h_instNo dX11_isA_54 wt_536 (by decide +kernel) nl_2 zk_2 (by decide) rfl ?_
    exact h_zret dX11_isA_57 rfl rfl (k5 c1 c2 c3 c4 c5)
  refine h_tswOut (tgt := 58) dX11_isA_1 (tsw_out5 c1 c2 c3 c4 c5) (by decide) ?_
  refine h_aload_n dX11_isA_58 rfl 0 rfl ?_
  refine h_instNo dX11_isA_59 wt_537 (by decide +kernel) nl_2 zk_2 (by decide) rfl ?_
  exact h_zret dX11_isA_62 rfl rfl (k6 c1 c2 c3 c4 c5)
set_option maxHeartbeats 1000000 in
set_option maxRecDepth 4000 in
theorem sg_X11_person_G_0 {E : HEn} {d : Nat} {Q : Option Value → HIh → Prop} {I : HIh} {a : Int32} {b : Int32}
    (k1 : (0 : Int32) ≤ a → a < 4 → b = 0 → HCall E me_X9_wealth (d + 2) [.ref 1, .ref 12, .int a] I (fun v9 J => HGo E (mF E (d + 3) Q) me_X11_person 52 [] (v9.toList ++ []) J))
    (k2 : (0 : Int32) ≤ a → a < 4 → ¬ b = 0 → b = 1 → HCall E me_X9_folkOf (d + 2) [.ref 1, .int a] I (fun v9 J => HGo E (mF E (d + 3) Q) me_X11_person 61 [] (v9.toList ++ []) J))
    (k3 : (0 : Int32) ≤ a → a < 4 → ¬ b = 0 → ¬ b = 1 → b = 2 → HCall E me_X9_folkOf (d + 2) [.ref 1, .int a] I (fun v9 J => HGo E (mF E (d + 3) Q) me_X11_person 73 [(0, .ref 0), (1, .int a)] (v9.toList ++ []) J))
    (k4 : (0 : Int32) ≤ a → a < 4 → ¬ b = 0 → ¬ b = 1 → ¬ b = 2 → b = 3 → HCall E me_X9_visitsLeft (d + 2) [.ref 1, .ref 12, .int ((1 : Int32) <<< (a &&& 31))] I (fun v9 J => HGo E (mF E (d + 3) Q) me_X11_person 96 [] (v9.toList ++ []) J))
    (k5 : (0 : Int32) ≤ a → a < 4 → ¬ b = 0 → ¬ b = 1 → ¬ b = 2 → ¬ b = 3 → Q (some (.int (-3))) I)
    (k6 : ¬ ((0 : Int32) ≤ a ∧ a < 4) → Q (some (.int (-2))) I)
    : HGo E (mF E (d + 3) Q) me_X11_person 0 [(0, .ref 0), (1, .int a), (2, .int b)] [] I := by
  refine h_iload_n dX11_person_0 rfl 1 rfl ?_
  refine h_invS (As := [.int a]) (st := []) dX11_person_1 lk_X11_100 (h_room (by decide)) rfl rfl (Nat.le_of_ble_eq_true rfl) ?_
  refine c_X11_isPerson (fun c1 c2 => ?_) (fun c3 => ?_)
  ·
    refine h_if_ne (tgt := 10) dX11_person_4 (by decide) (fun _ => ?_) (fun c => absurd c (by decide))
    refine h_iload_n dX11_person_10 rfl 2 rfl ?_
    by_cases c4 : b = 0
    · refine h_tswIn (off := 29) (tgt := 40) 0 dX11_person_11 (by rw [c4]; rfl) (by decide) (by decide) (by decide) (by decide) ?_
      refine h_aload_n dX11_person_40 rfl 0 rfl ?_
      refine gf_9_0 dX11_person_41 hl_X11_10 nl_0 zk_0 zp_0_0 ?_
      refine h_aload_n dX11_person_44 rfl 0 rfl ?_
      refine gf_9_1 dX11_person_45 hl_X11_19 nl_0 zk_0 zp_0_1 ?_
      refine h_iload_n dX11_person_48 rfl 1 rfl ?_
      refine h_pick [] [] rfl ?_
      refine h_invV (As := [.ref 12, .int a]) (st := []) dX11_person_49 lk_X11_103 (h_room (by decide)) nl_1 zk_1 (by decide) rfl rfl rfl (Nat.le_of_ble_eq_true rfl) ?_
      exact k1 c1 c2 c4
    by_cases c5 : b = 1
    · refine h_tswIn (off := 42) (tgt := 53) 1 dX11_person_11 (by rw [c5]; rfl) (by decide) (by decide) (by decide) (by decide) ?_
      refine h_aload_n dX11_person_53 rfl 0 rfl ?_
      refine gf_9_0 dX11_person_54 hl_X11_10 nl_0 zk_0 zp_0_0 ?_
      refine h_iload_n dX11_person_57 rfl 1 rfl ?_
      refine h_pick [] [] rfl ?_
      refine h_invV (As := [.int a]) (st := []) dX11_person_58 lk_X11_107 (h_room (by decide)) nl_1 zk_1 (by decide) rfl rfl rfl (Nat.le_of_ble_eq_true rfl) ?_
      exact k2 c1 c2 c4 c5
    by_cases c6 : b = 2
    · refine h_tswIn (off := 54) (tgt := 65) 2 dX11_person_11 (by rw [c6]; rfl) (by decide) (by decide) (by decide) (by decide) ?_
      refine h_aload_n dX11_person_65 rfl 0 rfl ?_
      refine gf_9_0 dX11_person_66 hl_X11_10 nl_0 zk_0 zp_0_0 ?_
      refine h_iload_n dX11_person_69 rfl 1 rfl ?_
      refine h_pick [0, 1] [(0, .ref 0), (1, .int a)] rfl ?_
      refine h_invV (As := [.int a]) (st := []) dX11_person_70 lk_X11_107 (h_room (by decide)) nl_1 zk_1 (by decide) rfl rfl rfl (Nat.le_of_ble_eq_true rfl) ?_
      exact k3 c1 c2 c4 c5 c6
    by_cases c7 : b = 3
    · refine h_tswIn (off := 71) (tgt := 82) 3 dX11_person_11 (by rw [c7]; rfl) (by decide) (by decide) (by decide) (by decide) ?_
      refine h_aload_n dX11_person_82 rfl 0 rfl ?_
      refine gf_9_0 dX11_person_83 hl_X11_10 nl_0 zk_0 zp_0_0 ?_
      refine h_aload_n dX11_person_86 rfl 0 rfl ?_
      refine gf_9_1 dX11_person_87 hl_X11_19 nl_0 zk_0 zp_0_1 ?_
      refine h_iconst (v := 1) dX11_person_90 (by decide) ?_
      refine h_iload_n dX11_person_91 rfl 1 rfl ?_
      refine h_ishl dX11_person_92 ?_
      refine h_pick [] [] rfl ?_
      refine h_invV (As := [.ref 12, .int ((1 : Int32) <<< (a &&& 31))]) (st := []) dX11_person_93 lk_X11_121 (h_room (by decide)) nl_1 zk_1 (by decide) rfl rfl rfl (Nat.le_of_ble_eq_true rfl) ?_
      exact k4 c1 c2 c4 c5 c6 c7
    refine h_tswOut (tgt := 97) dX11_person_11 (tsw_out4 c4 c5 c6 c7) (by decide) ?_
    refine h_bipush (v := (-3)) dX11_person_97 (by decide) ?_
    exact h_iret dX11_person_99 rfl (k5 c1 c2 c4 c5 c6 c7)
  ·
    refine h_if_ne (tgt := 10) dX11_person_4 (by decide) (fun c => absurd c (by decide)) (fun _ => ?_)
    refine h_bipush (v := (-2)) dX11_person_7 (by decide) ?_
    exact h_iret dX11_person_9 rfl (k6 c3)
set_option maxHeartbeats 1000000 in
set_option maxRecDepth 4000 in
theorem sg_X11_person_G_52 {E : HEn} {d : Nat} {Q : Option Value → HIh → Prop} {I : HIh} {s0 : Int32}
    (k1 : Q (some (.int s0)) I)
    : HGo E (mF E (d + 3) Q) me_X11_person 52 [] [.int s0] I := by
  exact h_iret dX11_person_52 rfl (k1)
set_option maxHeartbeats 1000000 in
set_option maxRecDepth 4000 in
theorem sg_X11_person_G_61 {E : HEn} {d : Nat} {Q : Option Value → HIh → Prop} {I : HIh} 
    (k1 : HCall E me_X3_habit (d + 2) [.ref 3] I (fun v9 J => HGo E (mF E (d + 3) Q) me_X11_person 64 [] (v9.toList ++ []) J))
    : HGo E (mF E (d + 3) Q) me_X11_person 61 [] [.ref 3] I := by
  refine h_invU (As := []) (st := []) dX11_person_61 lk_X11_111_X3 (h_room (by decide)) nl_3 zk_3 (by decide) rfl rfl rfl (Nat.le_of_ble_eq_true rfl) ?_
  exact k1
set_option maxHeartbeats 1000000 in
set_option maxRecDepth 4000 in
theorem sg_X11_person_G_73 {E : HEn} {d : Nat} {Q : Option Value → HIh → Prop} {I : HIh} {x1 : Int32}
    (k1 : HCall E me_X1_waitsFor (d + 2) [.ref 3, .ref 1, .int x1] I (fun v9 J => HGo E (mF E (d + 3) Q) me_X11_person 81 [] (v9.toList ++ []) J))
    : HGo E (mF E (d + 3) Q) me_X11_person 73 [(0, .ref 0), (1, .int x1)] [.ref 3] I := by
  refine h_aload_n dX11_person_73 rfl 0 rfl ?_
  refine gf_9_0 dX11_person_74 hl_X11_10 nl_0 zk_0 zp_0_0 ?_
  refine h_iload_n dX11_person_77 rfl 1 rfl ?_
  refine h_pick [] [] rfl ?_
  refine h_invU (As := [.ref 1, .int x1]) (st := []) dX11_person_78 lk_X11_117_X3 (h_room (by decide)) nl_3 zk_3 (by decide) rfl rfl rfl (Nat.le_of_ble_eq_true rfl) ?_
  exact k1
set_option maxHeartbeats 1000000 in
set_option maxRecDepth 4000 in
theorem sg_X11_person_G_96 {E : HEn} {d : Nat} {Q : Option Value → HIh → Prop} {I : HIh} {s0 : Int32}
    (k1 : Q (some (.int s0)) I)
    : HGo E (mF E (d + 3) Q) me_X11_person 96 [] [.int s0] I := by
  exact h_iret dX11_person_96 rfl (k1)
set_option maxHeartbeats 1000000 in
set_option maxRecDepth 4000 in
theorem sg_X11_person_G_64 {E : HEn} {d : Nat} {Q : Option Value → HIh → Prop} {I : HIh} {s0 : Int32}
    (k1 : Q (some (.int s0)) I)
    : HGo E (mF E (d + 3) Q) me_X11_person 64 [] [.int s0] I := by
  exact h_iret dX11_person_64 rfl (k1)
set_option maxHeartbeats 1000000 in
set_option maxRecDepth 4000 in
theorem sg_X11_person_G_81 {E : HEn} {d : Nat} {Q : Option Value → HIh → Prop} {I : HIh} {s0 : Int32}
    (k1 : Q (some (.int s0)) I)
    : HGo E (mF E (d + 3) Q) me_X11_person 81 [] [.int s0] I := by
  exact h_iret dX11_person_81 rfl (k1)
set_option maxHeartbeats 1000000 in
set_option maxRecDepth 4000 in
theorem sg_X11_as_G_0 {E : HEn} {d : Nat} {Q : Option Value → HIh → Prop} {I : HIh} {a : Int32} {b : Int32}
    (k1 : (0 : Int32) ≤ a → a < 4 → b < 0 → Q (some (.int (-3))) I)
    (k2 : (0 : Int32) ≤ a → a < 4 → ¬ b < 0 → b ≤ 5 → HCall E me_X9_folkOf (d + 3) [.ref 1, .int a] I (fun v9 J => HGo E (mF E (d + 4) Q) me_X11_as 30 [(0, .ref 0), (1, .int a), (2, .int b)] (v9.toList ++ []) J))
    (k3 : (0 : Int32) ≤ a → a < 4 → ¬ b < 0 → ¬ b ≤ 5 → Q (some (.int (-3))) I)
    (k4 : ¬ ((0 : Int32) ≤ a ∧ a < 4) → Q (some (.int (-2))) I)
    : HGo E (mF E (d + 4) Q) me_X11_as 0 [(0, .ref 0), (1, .int a), (2, .int b)] [] I := by
  refine h_iload_n dX11_as_0 rfl 1 rfl ?_
  refine h_invS (As := [.int a]) (st := []) dX11_as_1 lk_X11_100 (h_room (by decide)) rfl rfl (Nat.le_of_ble_eq_true rfl) ?_
  refine c_X11_isPerson (fun c1 c2 => ?_) (fun c3 => ?_)
  ·
    refine h_if_ne (tgt := 10) dX11_as_4 (by decide) (fun _ => ?_) (fun c => absurd c (by decide))
    refine h_iload_n dX11_as_10 rfl 2 rfl ?_
    refine h_if_lt (tgt := 19) dX11_as_11 (by decide) (fun c4 => ?_) (fun c4 => ?_)
    ·
      refine h_bipush (v := (-3)) dX11_as_19 (by decide) ?_
      exact h_iret dX11_as_21 rfl (k1 c1 c2 c4)
    ·
      refine h_iload_n dX11_as_14 rfl 2 rfl ?_
      refine h_iconst (v := 5) dX11_as_15 (by decide) ?_
      refine h_icmp_le (tgt := 22) dX11_as_16 (by decide) (fun c5 => ?_) (fun c5 => ?_)
      ·
        refine h_aload_n dX11_as_22 rfl 0 rfl ?_
        refine gf_9_0 dX11_as_23 hl_X11_10 nl_0 zk_0 zp_0_0 ?_
        refine h_iload_n dX11_as_26 rfl 1 rfl ?_
        refine h_invV (As := [.int a]) (st := []) dX11_as_27 lk_X11_107 (h_room (by decide)) nl_1 zk_1 (by decide) rfl rfl rfl (Nat.le_of_ble_eq_true rfl) ?_
        exact k2 c1 c2 c4 c5
      ·
        refine h_bipush (v := (-3)) dX11_as_19 (by decide) ?_
        exact h_iret dX11_as_21 rfl (k3 c1 c2 c4 c5)
  ·
    refine h_if_ne (tgt := 10) dX11_as_4 (by decide) (fun c => absurd c (by decide)) (fun _ => ?_)
    refine h_bipush (v := (-2)) dX11_as_7 (by decide) ?_
    exact h_iret dX11_as_9 rfl (k4 c3)
set_option maxHeartbeats 1000000 in
set_option maxRecDepth 4000 in
theorem sg_X11_as_G_30 {E : HEn} {d : Nat} {Q : Option Value → HIh → Prop} {I : HIh} {x1 : Int32} {x2 : Int32}
    (k1 : HCall E me_X11_isA (d + 3) [.ref 3, .int x2] I (fun v9 J => HGo E (mF E (d + 4) Q) me_X11_as 36 [(0, .ref 0), (1, .int x1), (3, .ref 3)] (v9.toList ++ []) J))
    : HGo E (mF E (d + 4) Q) me_X11_as 30 [(0, .ref 0), (1, .int x1), (2, .int x2)] [.ref 3] I := by
  refine h_astore_n (L' := [(3, .ref 3), (0, .ref 0), (1, .int x1), (2, .int x2)]) dX11_as_30 rfl (by decide) rfl ?_
  refine h_aload_n dX11_as_31 rfl 0 rfl ?_
  refine h_iload_n dX11_as_32 rfl 3 rfl ?_
  refine h_pick [1, 2, 0] [(0, .ref 0), (1, .int x1), (3, .ref 3)] rfl ?_
  refine h_invS (As := [.ref 3, .int x2]) (st := []) dX11_as_33 lk_X11_124 (h_room (by decide)) rfl rfl (Nat.le_of_ble_eq_true rfl) ?_
  exact k1
set_option maxHeartbeats 1000000 in
set_option maxRecDepth 4000 in
theorem sg_X11_as_G_36 {E : HEn} {d : Nat} {Q : Option Value → HIh → Prop} {I : HIh} {x1 : Int32} {s0 : Int32}
    (k1 : s0 = 0 → Q (some (.int (-4))) I)
    (k2 : ¬ s0 = 0 → HCall E me_X8_wouldThrow (d + 3) [.ref 3, .ref 1, .ref 12, .int x1] I (fun v9 J => HGo E (mF E (d + 4) Q) me_X11_as 52 [] (v9.toList ++ []) J))
    : HGo E (mF E (d + 4) Q) me_X11_as 36 [(0, .ref 0), (1, .int x1), (3, .ref 3)] [.int s0] I := by
  refine h_if_eq (tgt := 55) dX11_as_36 (by decide) (fun c1 => ?_) (fun c1 => ?_)
  ·
    refine h_bipush (v := (-4)) dX11_as_55 (by decide) ?_
    exact h_iret dX11_as_57 rfl (k1 c1)
  ·
    refine h_aload_n dX11_as_39 rfl 2 rfl ?_
    refine h_aload_n dX11_as_40 rfl 0 rfl ?_
    refine gf_9_0 dX11_as_41 hl_X11_10 nl_0 zk_0 zp_0_0 ?_
    refine h_aload_n dX11_as_44 rfl 0 rfl ?_
    refine gf_9_1 dX11_as_45 hl_X11_19 nl_0 zk_0 zp_0_1 ?_
    refine h_iload_n dX11_as_48 rfl 1 rfl ?_
    refine h_pick [] [] rfl ?_
    refine h_invU (As := [.ref 1, .ref 12, .int x1]) (st := []) dX11_as_49 lk_X11_128_X3 (h_room (by decide)) nl_3 zk_3 (by decide) rfl rfl rfl (Nat.le_of_ble_eq_true rfl) ?_
    exact k2 c1
set_option maxHeartbeats 1000000 in
set_option maxRecDepth 4000 in
theorem sg_X11_as_G_52 {E : HEn} {d : Nat} {Q : Option Value → HIh → Prop} {I : HIh} {s0 : Int32}
    (k1 : Q (some (.int s0)) I)
    : HGo E (mF E (d + 4) Q) me_X11_as 52 [] [.int s0] I := by
  refine h_goto (tgt := 57) dX11_as_52 (by decide) ?_
  exact h_iret dX11_as_57 rfl (k1)
set_option maxHeartbeats 1000000 in
set_option maxRecDepth 4000 in
theorem sg_X11_isA_G_0 {E : HEn} {d : Nat} {Q : Option Value → HIh → Prop} {I : HIh} {b : Int32}
    (k1 : b = 0 → Q (some (.int 1)) I)
    (k2 : ¬ b = 0 → b = 1 → Q (some (.int 0)) I)
    (k3 : ¬ b = 0 → ¬ b = 1 → b = 2 → Q (some (.int 1)) I)
    (k4 : ¬ b = 0 → ¬ b = 1 → ¬ b = 2 → b = 3 → Q (some (.int 1)) I)
    (k5 : ¬ b = 0 → ¬ b = 1 → ¬ b = 2 → ¬ b = 3 → b = 4 → Q (some (.int 0)) I)
    (k6 : ¬ b = 0 → ¬ b = 1 → ¬ b = 2 → ¬ b = 3 → ¬ b = 4 → Q (some (.int 0)) I)
    : HGo E (mF E (d + 1) Q) me_X11_isA 0 [(0, .ref 3), (1, .int b)] [] I := by
  refine h_iload_n dX11_isA_0 rfl 1 rfl ?_
  by_cases c1 : b = 0
  · refine h_tswIn (off := 35) (tgt := 36) 0 dX11_isA_1 (by rw [c1]; rfl) (by decide) (by decide) (by decide) (by decide) ?_
    refine h_iconst (v := 1) dX11_isA_36 (by decide) ?_
    exact h_zret dX11_isA_37 rfl rfl (k1 c1)
  by_cases c2 : b = 1
  · refine h_tswIn (off := 37) (tgt := 38) 1 dX11_isA_1 (by rw [c2]; rfl) (by decide) (by decide) (by decide) (by decide) ?_
    refine h_aload_n dX11_isA_38 rfl 0 rfl ?_
    refine h_instNo dX11_isA_39 wt_533 (by decide +kernel) nl_3 zk_3 (by decide) rfl ?_
    exact h_zret dX11_isA_42 rfl rfl (k2 c1 c2)
  by_cases c3 : b = 2
  · refine h_tswIn (off := 42) (tgt := 43) 2 dX11_isA_1 (by rw [c3]; rfl) (by decide) (by decide) (by decide) (by decide) ?_
    refine h_aload_n dX11_isA_43 rfl 0 rfl ?_
    refine h_instY dX11_isA_44 wt_534 (by decide +kernel) nl_3 zk_3 (by decide) rfl ?_
    exact h_zret dX11_isA_47 rfl rfl (k3 c1 c2 c3)
  by_cases c4 : b = 3
  · refine h_tswIn (off := 47) (tgt := 48) 3 dX11_isA_1 (by rw [c4]; rfl) (by decide) (by decide) (by decide) (by decide) ?_
    refine h_aload_n dX11_isA_48 rfl 0 rfl ?_
    refine h_instS dX11_isA_49 wt_535 nl_3 zk_3 (by decide) rfl ?_
    exact h_zret dX11_isA_52 rfl rfl (k4 c1 c2 c3 c4)
  by_cases c5 : b = 4
  · refine h_tswIn (off := 52) (tgt := 53) 4 dX11_isA_1 (by rw [c5]; rfl) (by decide) (by decide) (by decide) (by decide) ?_
    refine h_aload_n dX11_isA_53 rfl 0 rfl ?_
    refine h_instNo dX11_isA_54 wt_536 (by decide +kernel) nl_3 zk_3 (by decide) rfl ?_
    exact h_zret dX11_isA_57 rfl rfl (k5 c1 c2 c3 c4 c5)
  refine h_tswOut (tgt := 58) dX11_isA_1 (tsw_out5 c1 c2 c3 c4 c5) (by decide) ?_
  refine h_aload_n dX11_isA_58 rfl 0 rfl ?_
  refine h_instNo dX11_isA_59 wt_537 (by decide +kernel) nl_3 zk_3 (by decide) rfl ?_
  exact h_zret dX11_isA_62 rfl rfl (k6 c1 c2 c3 c4 c5)
set_option maxHeartbeats 1000000 in
set_option maxRecDepth 4000 in
theorem sg_X11_person_W_0 {E : HEn} {d : Nat} {Q : Option Value → HIh → Prop} {I : HIh} {a : Int32} {b : Int32}
    (k1 : (0 : Int32) ≤ a → a < 4 → b = 0 → HCall E me_X9_wealth (d + 2) [.ref 1, .ref 12, .int a] I (fun v9 J => HGo E (mF E (d + 3) Q) me_X11_person 52 [] (v9.toList ++ []) J))
    (k2 : (0 : Int32) ≤ a → a < 4 → ¬ b = 0 → b = 1 → HCall E me_X9_folkOf (d + 2) [.ref 1, .int a] I (fun v9 J => HGo E (mF E (d + 3) Q) me_X11_person 61 [] (v9.toList ++ []) J))
    (k3 : (0 : Int32) ≤ a → a < 4 → ¬ b = 0 → ¬ b = 1 → b = 2 → HCall E me_X9_folkOf (d + 2) [.ref 1, .int a] I (fun v9 J => HGo E (mF E (d + 3) Q) me_X11_person 73 [(0, .ref 0), (1, .int a)] (v9.toList ++ []) J))
    (k4 : (0 : Int32) ≤ a → a < 4 → ¬ b = 0 → ¬ b = 1 → ¬ b = 2 → b = 3 → HCall E me_X9_visitsLeft (d + 2) [.ref 1, .ref 12, .int ((1 : Int32) <<< (a &&& 31))] I (fun v9 J => HGo E (mF E (d + 3) Q) me_X11_person 96 [] (v9.toList ++ []) J))
    (k5 : (0 : Int32) ≤ a → a < 4 → ¬ b = 0 → ¬ b = 1 → ¬ b = 2 → ¬ b = 3 → Q (some (.int (-3))) I)
    (k6 : ¬ ((0 : Int32) ≤ a ∧ a < 4) → Q (some (.int (-2))) I)
    : HGo E (mF E (d + 3) Q) me_X11_person 0 [(0, .ref 0), (1, .int a), (2, .int b)] [] I := by
  refine h_iload_n dX11_person_0 rfl 1 rfl ?_
  refine h_invS (As := [.int a]) (st := []) dX11_person_1 lk_X11_100 (h_room (by decide)) rfl rfl (Nat.le_of_ble_eq_true rfl) ?_
  refine c_X11_isPerson (fun c1 c2 => ?_) (fun c3 => ?_)
  ·
    refine h_if_ne (tgt := 10) dX11_person_4 (by decide) (fun _ => ?_) (fun c => absurd c (by decide))
    refine h_iload_n dX11_person_10 rfl 2 rfl ?_
    by_cases c4 : b = 0
    · refine h_tswIn (off := 29) (tgt := 40) 0 dX11_person_11 (by rw [c4]; rfl) (by decide) (by decide) (by decide) (by decide) ?_
      refine h_aload_n dX11_person_40 rfl 0 rfl ?_
      refine gf_9_0 dX11_person_41 hl_X11_10 nl_0 zk_0 zp_0_0 ?_
      refine h_aload_n dX11_person_44 rfl 0 rfl ?_
      refine gf_9_1 dX11_person_45 hl_X11_19 nl_0 zk_0 zp_0_1 ?_
      refine h_iload_n dX11_person_48 rfl 1 rfl ?_
      refine h_pick [] [] rfl ?_
      refine h_invV (As := [.ref 12, .int a]) (st := []) dX11_person_49 lk_X11_103 (h_room (by decide)) nl_1 zk_1 (by decide) rfl rfl rfl (Nat.le_of_ble_eq_true rfl) ?_
      exact k1 c1 c2 c4
    by_cases c5 : b = 1
    · refine h_tswIn (off := 42) (tgt := 53) 1 dX11_person_11 (by rw [c5]; rfl) (by decide) (by decide) (by decide) (by decide) ?_
      refine h_aload_n dX11_person_53 rfl 0 rfl ?_
      refine gf_9_0 dX11_person_54 hl_X11_10 nl_0 zk_0 zp_0_0 ?_
      refine h_iload_n dX11_person_57 rfl 1 rfl ?_
      refine h_pick [] [] rfl ?_
      refine h_invV (As := [.int a]) (st := []) dX11_person_58 lk_X11_107 (h_room (by decide)) nl_1 zk_1 (by decide) rfl rfl rfl (Nat.le_of_ble_eq_true rfl) ?_
      exact k2 c1 c2 c4 c5
    by_cases c6 : b = 2
    · refine h_tswIn (off := 54) (tgt := 65) 2 dX11_person_11 (by rw [c6]; rfl) (by decide) (by decide) (by decide) (by decide) ?_
      refine h_aload_n dX11_person_65 rfl 0 rfl ?_
      refine gf_9_0 dX11_person_66 hl_X11_10 nl_0 zk_0 zp_0_0 ?_
      refine h_iload_n dX11_person_69 rfl 1 rfl ?_
      refine h_pick [0, 1] [(0, .ref 0), (1, .int a)] rfl ?_
      refine h_invV (As := [.int a]) (st := []) dX11_person_70 lk_X11_107 (h_room (by decide)) nl_1 zk_1 (by decide) rfl rfl rfl (Nat.le_of_ble_eq_true rfl) ?_
      exact k3 c1 c2 c4 c5 c6
    by_cases c7 : b = 3
    · refine h_tswIn (off := 71) (tgt := 82) 3 dX11_person_11 (by rw [c7]; rfl) (by decide) (by decide) (by decide) (by decide) ?_
      refine h_aload_n dX11_person_82 rfl 0 rfl ?_
      refine gf_9_0 dX11_person_83 hl_X11_10 nl_0 zk_0 zp_0_0 ?_
      refine h_aload_n dX11_person_86 rfl 0 rfl ?_
      refine gf_9_1 dX11_person_87 hl_X11_19 nl_0 zk_0 zp_0_1 ?_
      refine h_iconst (v := 1) dX11_person_90 (by decide) ?_
      refine h_iload_n dX11_person_91 rfl 1 rfl ?_
      refine h_ishl dX11_person_92 ?_
      refine h_pick [] [] rfl ?_
      refine h_invV (As := [.ref 12, .int ((1 : Int32) <<< (a &&& 31))]) (st := []) dX11_person_93 lk_X11_121 (h_room (by decide)) nl_1 zk_1 (by decide) rfl rfl rfl (Nat.le_of_ble_eq_true rfl) ?_
      exact k4 c1 c2 c4 c5 c6 c7
    refine h_tswOut (tgt := 97) dX11_person_11 (tsw_out4 c4 c5 c6 c7) (by decide) ?_
    refine h_bipush (v := (-3)) dX11_person_97 (by decide) ?_
    exact h_iret dX11_person_99 rfl (k5 c1 c2 c4 c5 c6 c7)
  ·
    refine h_if_ne (tgt := 10) dX11_person_4 (by decide) (fun c => absurd c (by decide)) (fun _ => ?_)
    refine h_bipush (v := (-2)) dX11_person_7 (by decide) ?_
    exact h_iret dX11_person_9 rfl (k6 c3)
set_option maxHeartbeats 1000000 in
set_option maxRecDepth 4000 in
theorem sg_X11_person_W_52 {E : HEn} {d : Nat} {Q : Option Value → HIh → Prop} {I : HIh} {s0 : Int32}
    (k1 : Q (some (.int s0)) I)
    : HGo E (mF E (d + 3) Q) me_X11_person 52 [] [.int s0] I := by
  exact h_iret dX11_person_52 rfl (k1)
set_option maxHeartbeats 1000000 in
set_option maxRecDepth 4000 in
theorem sg_X11_person_W_61 {E : HEn} {d : Nat} {Q : Option Value → HIh → Prop} {I : HIh} 
    (k1 : HCall E me_X10_habit (d + 2) [.ref 4] I (fun v9 J => HGo E (mF E (d + 3) Q) me_X11_person 64 [] (v9.toList ++ []) J))
    : HGo E (mF E (d + 3) Q) me_X11_person 61 [] [.ref 4] I := by
  refine h_invU (As := []) (st := []) dX11_person_61 lk_X11_111_X10 (h_room (by decide)) nl_4 zk_4 (by decide) rfl rfl rfl (Nat.le_of_ble_eq_true rfl) ?_
  exact k1
set_option maxHeartbeats 1000000 in
set_option maxRecDepth 4000 in
theorem sg_X11_person_W_73 {E : HEn} {d : Nat} {Q : Option Value → HIh → Prop} {I : HIh} {x1 : Int32}
    (k1 : HCall E me_X10_waitsFor (d + 2) [.ref 4, .ref 1, .int x1] I (fun v9 J => HGo E (mF E (d + 3) Q) me_X11_person 81 [] (v9.toList ++ []) J))
    : HGo E (mF E (d + 3) Q) me_X11_person 73 [(0, .ref 0), (1, .int x1)] [.ref 4] I := by
  refine h_aload_n dX11_person_73 rfl 0 rfl ?_
  refine gf_9_0 dX11_person_74 hl_X11_10 nl_0 zk_0 zp_0_0 ?_
  refine h_iload_n dX11_person_77 rfl 1 rfl ?_
  refine h_pick [] [] rfl ?_
  refine h_invU (As := [.ref 1, .int x1]) (st := []) dX11_person_78 lk_X11_117_X10 (h_room (by decide)) nl_4 zk_4 (by decide) rfl rfl rfl (Nat.le_of_ble_eq_true rfl) ?_
  exact k1
set_option maxHeartbeats 1000000 in
set_option maxRecDepth 4000 in
theorem sg_X11_person_W_96 {E : HEn} {d : Nat} {Q : Option Value → HIh → Prop} {I : HIh} {s0 : Int32}
    (k1 : Q (some (.int s0)) I)
    : HGo E (mF E (d + 3) Q) me_X11_person 96 [] [.int s0] I := by
  exact h_iret dX11_person_96 rfl (k1)
set_option maxHeartbeats 1000000 in
set_option maxRecDepth 4000 in
theorem sg_X11_person_W_64 {E : HEn} {d : Nat} {Q : Option Value → HIh → Prop} {I : HIh} {s0 : Int32}
    (k1 : Q (some (.int s0)) I)
    : HGo E (mF E (d + 3) Q) me_X11_person 64 [] [.int s0] I := by
  exact h_iret dX11_person_64 rfl (k1)
set_option maxHeartbeats 1000000 in
set_option maxRecDepth 4000 in
theorem sg_X11_person_W_81 {E : HEn} {d : Nat} {Q : Option Value → HIh → Prop} {I : HIh} {s0 : Int32}
    (k1 : Q (some (.int s0)) I)
    : HGo E (mF E (d + 3) Q) me_X11_person 81 [] [.int s0] I := by
  exact h_iret dX11_person_81 rfl (k1)
set_option maxHeartbeats 1000000 in
set_option maxRecDepth 4000 in
theorem sg_X11_as_W_0 {E : HEn} {d : Nat} {Q : Option Value → HIh → Prop} {I : HIh} {a : Int32} {b : Int32}
    (k1 : (0 : Int32) ≤ a → a < 4 → b < 0 → Q (some (.int (-3))) I)
    (k2 : (0 : Int32) ≤ a → a < 4 → ¬ b < 0 → b ≤ 5 → HCall E me_X9_folkOf (d + 3) [.ref 1, .int a] I (fun v9 J => HGo E (mF E (d + 4) Q) me_X11_as 30 [(0, .ref 0), (1, .int a), (2, .int b)] (v9.toList ++ []) J))
    (k3 : (0 : Int32) ≤ a → a < 4 → ¬ b < 0 → ¬ b ≤ 5 → Q (some (.int (-3))) I)
    (k4 : ¬ ((0 : Int32) ≤ a ∧ a < 4) → Q (some (.int (-2))) I)
    : HGo E (mF E (d + 4) Q) me_X11_as 0 [(0, .ref 0), (1, .int a), (2, .int b)] [] I := by
  refine h_iload_n dX11_as_0 rfl 1 rfl ?_
  refine h_invS (As := [.int a]) (st := []) dX11_as_1 lk_X11_100 (h_room (by decide)) rfl rfl (Nat.le_of_ble_eq_true rfl) ?_
  refine c_X11_isPerson (fun c1 c2 => ?_) (fun c3 => ?_)
  ·
    refine h_if_ne (tgt := 10) dX11_as_4 (by decide) (fun _ => ?_) (fun c => absurd c (by decide))
    refine h_iload_n dX11_as_10 rfl 2 rfl ?_
    refine h_if_lt (tgt := 19) dX11_as_11 (by decide) (fun c4 => ?_) (fun c4 => ?_)
    ·
      refine h_bipush (v := (-3)) dX11_as_19 (by decide) ?_
      exact h_iret dX11_as_21 rfl (k1 c1 c2 c4)
    ·
      refine h_iload_n dX11_as_14 rfl 2 rfl ?_
      refine h_iconst (v := 5) dX11_as_15 (by decide) ?_
      refine h_icmp_le (tgt := 22) dX11_as_16 (by decide) (fun c5 => ?_) (fun c5 => ?_)
      ·
        refine h_aload_n dX11_as_22 rfl 0 rfl ?_
        refine gf_9_0 dX11_as_23 hl_X11_10 nl_0 zk_0 zp_0_0 ?_
        refine h_iload_n dX11_as_26 rfl 1 rfl ?_
        refine h_invV (As := [.int a]) (st := []) dX11_as_27 lk_X11_107 (h_room (by decide)) nl_1 zk_1 (by decide) rfl rfl rfl (Nat.le_of_ble_eq_true rfl) ?_
        exact k2 c1 c2 c4 c5
      ·
        refine h_bipush (v := (-3)) dX11_as_19 (by decide) ?_
        exact h_iret dX11_as_21 rfl (k3 c1 c2 c4 c5)
  ·
    refine h_if_ne (tgt := 10) dX11_as_4 (by decide) (fun c => absurd c (by decide)) (fun _ => ?_)
    refine h_bipush (v := (-2)) dX11_as_7 (by decide) ?_
    exact h_iret dX11_as_9 rfl (k4 c3)
set_option maxHeartbeats 1000000 in
set_option maxRecDepth 4000 in
theorem sg_X11_as_W_30 {E : HEn} {d : Nat} {Q : Option Value → HIh → Prop} {I : HIh} {x1 : Int32} {x2 : Int32}
    (k1 : HCall E me_X11_isA (d + 3) [.ref 4, .int x2] I (fun v9 J => HGo E (mF E (d + 4) Q) me_X11_as 36 [(0, .ref 0), (1, .int x1), (3, .ref 4)] (v9.toList ++ []) J))
    : HGo E (mF E (d + 4) Q) me_X11_as 30 [(0, .ref 0), (1, .int x1), (2, .int x2)] [.ref 4] I := by
  refine h_astore_n (L' := [(3, .ref 4), (0, .ref 0), (1, .int x1), (2, .int x2)]) dX11_as_30 rfl (by decide) rfl ?_
  refine h_aload_n dX11_as_31 rfl 0 rfl ?_
  refine h_iload_n dX11_as_32 rfl 3 rfl ?_
  refine h_pick [1, 2, 0] [(0, .ref 0), (1, .int x1), (3, .ref 4)] rfl ?_
  refine h_invS (As := [.ref 4, .int x2]) (st := []) dX11_as_33 lk_X11_124 (h_room (by decide)) rfl rfl (Nat.le_of_ble_eq_true rfl) ?_
  exact k1
set_option maxHeartbeats 1000000 in
set_option maxRecDepth 4000 in
theorem sg_X11_as_W_36 {E : HEn} {d : Nat} {Q : Option Value → HIh → Prop} {I : HIh} {x1 : Int32} {s0 : Int32}
    (k1 : s0 = 0 → Q (some (.int (-4))) I)
    (k2 : ¬ s0 = 0 → HCall E me_X8_wouldThrow (d + 3) [.ref 4, .ref 1, .ref 12, .int x1] I (fun v9 J => HGo E (mF E (d + 4) Q) me_X11_as 52 [] (v9.toList ++ []) J))
    : HGo E (mF E (d + 4) Q) me_X11_as 36 [(0, .ref 0), (1, .int x1), (3, .ref 4)] [.int s0] I := by
  refine h_if_eq (tgt := 55) dX11_as_36 (by decide) (fun c1 => ?_) (fun c1 => ?_)
  ·
    refine h_bipush (v := (-4)) dX11_as_55 (by decide) ?_
    exact h_iret dX11_as_57 rfl (k1 c1)
  ·
    refine h_aload_n dX11_as_39 rfl 2 rfl ?_
    refine h_aload_n dX11_as_40 rfl 0 rfl ?_
    refine gf_9_0 dX11_as_41 hl_X11_10 nl_0 zk_0 zp_0_0 ?_
    refine h_aload_n dX11_as_44 rfl 0 rfl ?_
    refine gf_9_1 dX11_as_45 hl_X11_19 nl_0 zk_0 zp_0_1 ?_
    refine h_iload_n dX11_as_48 rfl 1 rfl ?_
    refine h_pick [] [] rfl ?_
    refine h_invU (As := [.ref 1, .ref 12, .int x1]) (st := []) dX11_as_49 lk_X11_128_X10 (h_room (by decide)) nl_4 zk_4 (by decide) rfl rfl rfl (Nat.le_of_ble_eq_true rfl) ?_
    exact k2 c1
set_option maxHeartbeats 1000000 in
set_option maxRecDepth 4000 in
theorem sg_X11_as_W_52 {E : HEn} {d : Nat} {Q : Option Value → HIh → Prop} {I : HIh} {s0 : Int32}
    (k1 : Q (some (.int s0)) I)
    : HGo E (mF E (d + 4) Q) me_X11_as 52 [] [.int s0] I := by
  refine h_goto (tgt := 57) dX11_as_52 (by decide) ?_
  exact h_iret dX11_as_57 rfl (k1)
set_option maxHeartbeats 1000000 in
set_option maxRecDepth 4000 in
theorem sg_X11_isA_W_0 {E : HEn} {d : Nat} {Q : Option Value → HIh → Prop} {I : HIh} {b : Int32}
    (k1 : b = 0 → Q (some (.int 1)) I)
    (k2 : ¬ b = 0 → b = 1 → Q (some (.int 0)) I)
    (k3 : ¬ b = 0 → ¬ b = 1 → b = 2 → Q (some (.int 1)) I)
    (k4 : ¬ b = 0 → ¬ b = 1 → ¬ b = 2 → b = 3 → Q (some (.int 1)) I)
    (k5 : ¬ b = 0 → ¬ b = 1 → ¬ b = 2 → ¬ b = 3 → b = 4 → Q (some (.int 1)) I)
    (k6 : ¬ b = 0 → ¬ b = 1 → ¬ b = 2 → ¬ b = 3 → ¬ b = 4 → Q (some (.int 0)) I)
    : HGo E (mF E (d + 1) Q) me_X11_isA 0 [(0, .ref 4), (1, .int b)] [] I := by
  refine h_iload_n dX11_isA_0 rfl 1 rfl ?_
  by_cases c1 : b = 0
  · refine h_tswIn (off := 35) (tgt := 36) 0 dX11_isA_1 (by rw [c1]; rfl) (by decide) (by decide) (by decide) (by decide) ?_
    refine h_iconst (v := 1) dX11_isA_36 (by decide) ?_
    exact h_zret dX11_isA_37 rfl rfl (k1 c1)
  by_cases c2 : b = 1
  · refine h_tswIn (off := 37) (tgt := 38) 1 dX11_isA_1 (by rw [c2]; rfl) (by decide) (by decide) (by decide) (by decide) ?_
    refine h_aload_n dX11_isA_38 rfl 0 rfl ?_
    refine h_instNo dX11_isA_39 wt_533 (by decide +kernel) nl_4 zk_4 (by decide) rfl ?_
    exact h_zret dX11_isA_42 rfl rfl (k2 c1 c2)
  by_cases c3 : b = 2
  · refine h_tswIn (off := 42) (tgt := 43) 2 dX11_isA_1 (by rw [c3]; rfl) (by decide) (by decide) (by decide) (by decide) ?_
    refine h_aload_n dX11_isA_43 rfl 0 rfl ?_
    refine h_instY dX11_isA_44 wt_534 (by decide +kernel) nl_4 zk_4 (by decide) rfl ?_
    exact h_zret dX11_isA_47 rfl rfl (k3 c1 c2 c3)
  by_cases c4 : b = 3
  · refine h_tswIn (off := 47) (tgt := 48) 3 dX11_isA_1 (by rw [c4]; rfl) (by decide) (by decide) (by decide) (by decide) ?_
    refine h_aload_n dX11_isA_48 rfl 0 rfl ?_
    refine h_instY dX11_isA_49 wt_535 (by decide +kernel) nl_4 zk_4 (by decide) rfl ?_
    exact h_zret dX11_isA_52 rfl rfl (k4 c1 c2 c3 c4)
  by_cases c5 : b = 4
  · refine h_tswIn (off := 52) (tgt := 53) 4 dX11_isA_1 (by rw [c5]; rfl) (by decide) (by decide) (by decide) (by decide) ?_
    refine h_aload_n dX11_isA_53 rfl 0 rfl ?_
    refine h_instS dX11_isA_54 wt_536 nl_4 zk_4 (by decide) rfl ?_
    exact h_zret dX11_isA_57 rfl rfl (k5 c1 c2 c3 c4 c5)
  refine h_tswOut (tgt := 58) dX11_isA_1 (tsw_out5 c1 c2 c3 c4 c5) (by decide) ?_
  refine h_aload_n dX11_isA_58 rfl 0 rfl ?_
  refine h_instNo dX11_isA_59 wt_537 (by decide +kernel) nl_4 zk_4 (by decide) rfl ?_
  exact h_zret dX11_isA_62 rfl rfl (k6 c1 c2 c3 c4 c5)
set_option maxHeartbeats 1000000 in
set_option maxRecDepth 4000 in
theorem sg_X11_person_C_0 {E : HEn} {d : Nat} {Q : Option Value → HIh → Prop} {I : HIh} {a : Int32} {b : Int32}
    (k1 : (0 : Int32) ≤ a → a < 4 → b = 0 → HCall E me_X9_wealth (d + 2) [.ref 1, .ref 12, .int a] I (fun v9 J => HGo E (mF E (d + 3) Q) me_X11_person 52 [] (v9.toList ++ []) J))
    (k2 : (0 : Int32) ≤ a → a < 4 → ¬ b = 0 → b = 1 → HCall E me_X9_folkOf (d + 2) [.ref 1, .int a] I (fun v9 J => HGo E (mF E (d + 3) Q) me_X11_person 61 [] (v9.toList ++ []) J))
    (k3 : (0 : Int32) ≤ a → a < 4 → ¬ b = 0 → ¬ b = 1 → b = 2 → HCall E me_X9_folkOf (d + 2) [.ref 1, .int a] I (fun v9 J => HGo E (mF E (d + 3) Q) me_X11_person 73 [(0, .ref 0), (1, .int a)] (v9.toList ++ []) J))
    (k4 : (0 : Int32) ≤ a → a < 4 → ¬ b = 0 → ¬ b = 1 → ¬ b = 2 → b = 3 → HCall E me_X9_visitsLeft (d + 2) [.ref 1, .ref 12, .int ((1 : Int32) <<< (a &&& 31))] I (fun v9 J => HGo E (mF E (d + 3) Q) me_X11_person 96 [] (v9.toList ++ []) J))
    (k5 : (0 : Int32) ≤ a → a < 4 → ¬ b = 0 → ¬ b = 1 → ¬ b = 2 → ¬ b = 3 → Q (some (.int (-3))) I)
    (k6 : ¬ ((0 : Int32) ≤ a ∧ a < 4) → Q (some (.int (-2))) I)
    : HGo E (mF E (d + 3) Q) me_X11_person 0 [(0, .ref 0), (1, .int a), (2, .int b)] [] I := by
  refine h_iload_n dX11_person_0 rfl 1 rfl ?_
  refine h_invS (As := [.int a]) (st := []) dX11_person_1 lk_X11_100 (h_room (by decide)) rfl rfl (Nat.le_of_ble_eq_true rfl) ?_
  refine c_X11_isPerson (fun c1 c2 => ?_) (fun c3 => ?_)
  ·
    refine h_if_ne (tgt := 10) dX11_person_4 (by decide) (fun _ => ?_) (fun c => absurd c (by decide))
    refine h_iload_n dX11_person_10 rfl 2 rfl ?_
    by_cases c4 : b = 0
    · refine h_tswIn (off := 29) (tgt := 40) 0 dX11_person_11 (by rw [c4]; rfl) (by decide) (by decide) (by decide) (by decide) ?_
      refine h_aload_n dX11_person_40 rfl 0 rfl ?_
      refine gf_9_0 dX11_person_41 hl_X11_10 nl_0 zk_0 zp_0_0 ?_
      refine h_aload_n dX11_person_44 rfl 0 rfl ?_
      refine gf_9_1 dX11_person_45 hl_X11_19 nl_0 zk_0 zp_0_1 ?_
      refine h_iload_n dX11_person_48 rfl 1 rfl ?_
      refine h_pick [] [] rfl ?_
      refine h_invV (As := [.ref 12, .int a]) (st := []) dX11_person_49 lk_X11_103 (h_room (by decide)) nl_1 zk_1 (by decide) rfl rfl rfl (Nat.le_of_ble_eq_true rfl) ?_
      exact k1 c1 c2 c4
    by_cases c5 : b = 1
    · refine h_tswIn (off := 42) (tgt := 53) 1 dX11_person_11 (by rw [c5]; rfl) (by decide) (by decide) (by decide) (by decide) ?_
      refine h_aload_n dX11_person_53 rfl 0 rfl ?_
      refine gf_9_0 dX11_person_54 hl_X11_10 nl_0 zk_0 zp_0_0 ?_
      refine h_iload_n dX11_person_57 rfl 1 rfl ?_
      refine h_pick [] [] rfl ?_
      refine h_invV (As := [.int a]) (st := []) dX11_person_58 lk_X11_107 (h_room (by decide)) nl_1 zk_1 (by decide) rfl rfl rfl (Nat.le_of_ble_eq_true rfl) ?_
      exact k2 c1 c2 c4 c5
    by_cases c6 : b = 2
    · refine h_tswIn (off := 54) (tgt := 65) 2 dX11_person_11 (by rw [c6]; rfl) (by decide) (by decide) (by decide) (by decide) ?_
      refine h_aload_n dX11_person_65 rfl 0 rfl ?_
      refine gf_9_0 dX11_person_66 hl_X11_10 nl_0 zk_0 zp_0_0 ?_
      refine h_iload_n dX11_person_69 rfl 1 rfl ?_
      refine h_pick [0, 1] [(0, .ref 0), (1, .int a)] rfl ?_
      refine h_invV (As := [.int a]) (st := []) dX11_person_70 lk_X11_107 (h_room (by decide)) nl_1 zk_1 (by decide) rfl rfl rfl (Nat.le_of_ble_eq_true rfl) ?_
      exact k3 c1 c2 c4 c5 c6
    by_cases c7 : b = 3
    · refine h_tswIn (off := 71) (tgt := 82) 3 dX11_person_11 (by rw [c7]; rfl) (by decide) (by decide) (by decide) (by decide) ?_
      refine h_aload_n dX11_person_82 rfl 0 rfl ?_
      refine gf_9_0 dX11_person_83 hl_X11_10 nl_0 zk_0 zp_0_0 ?_
      refine h_aload_n dX11_person_86 rfl 0 rfl ?_
      refine gf_9_1 dX11_person_87 hl_X11_19 nl_0 zk_0 zp_0_1 ?_
      refine h_iconst (v := 1) dX11_person_90 (by decide) ?_
      refine h_iload_n dX11_person_91 rfl 1 rfl ?_
      refine h_ishl dX11_person_92 ?_
      refine h_pick [] [] rfl ?_
      refine h_invV (As := [.ref 12, .int ((1 : Int32) <<< (a &&& 31))]) (st := []) dX11_person_93 lk_X11_121 (h_room (by decide)) nl_1 zk_1 (by decide) rfl rfl rfl (Nat.le_of_ble_eq_true rfl) ?_
      exact k4 c1 c2 c4 c5 c6 c7
    refine h_tswOut (tgt := 97) dX11_person_11 (tsw_out4 c4 c5 c6 c7) (by decide) ?_
    refine h_bipush (v := (-3)) dX11_person_97 (by decide) ?_
    exact h_iret dX11_person_99 rfl (k5 c1 c2 c4 c5 c6 c7)
  ·
    refine h_if_ne (tgt := 10) dX11_person_4 (by decide) (fun c => absurd c (by decide)) (fun _ => ?_)
    refine h_bipush (v := (-2)) dX11_person_7 (by decide) ?_
    exact h_iret dX11_person_9 rfl (k6 c3)
set_option maxHeartbeats 1000000 in
set_option maxRecDepth 4000 in
theorem sg_X11_person_C_52 {E : HEn} {d : Nat} {Q : Option Value → HIh → Prop} {I : HIh} {s0 : Int32}
    (k1 : Q (some (.int s0)) I)
    : HGo E (mF E (d + 3) Q) me_X11_person 52 [] [.int s0] I := by
  exact h_iret dX11_person_52 rfl (k1)
set_option maxHeartbeats 1000000 in
set_option maxRecDepth 4000 in
theorem sg_X11_person_C_61 {E : HEn} {d : Nat} {Q : Option Value → HIh → Prop} {I : HIh} 
    (k1 : HCall E me_X0_habit (d + 2) [.ref 5] I (fun v9 J => HGo E (mF E (d + 3) Q) me_X11_person 64 [] (v9.toList ++ []) J))
    : HGo E (mF E (d + 3) Q) me_X11_person 61 [] [.ref 5] I := by
  refine h_invU (As := []) (st := []) dX11_person_61 lk_X11_111_X0 (h_room (by decide)) nl_5 zk_5 (by decide) rfl rfl rfl (Nat.le_of_ble_eq_true rfl) ?_
  exact k1
set_option maxHeartbeats 1000000 in
set_option maxRecDepth 4000 in
theorem sg_X11_person_C_73 {E : HEn} {d : Nat} {Q : Option Value → HIh → Prop} {I : HIh} {x1 : Int32}
    (k1 : HCall E me_X1_waitsFor (d + 2) [.ref 5, .ref 1, .int x1] I (fun v9 J => HGo E (mF E (d + 3) Q) me_X11_person 81 [] (v9.toList ++ []) J))
    : HGo E (mF E (d + 3) Q) me_X11_person 73 [(0, .ref 0), (1, .int x1)] [.ref 5] I := by
  refine h_aload_n dX11_person_73 rfl 0 rfl ?_
  refine gf_9_0 dX11_person_74 hl_X11_10 nl_0 zk_0 zp_0_0 ?_
  refine h_iload_n dX11_person_77 rfl 1 rfl ?_
  refine h_pick [] [] rfl ?_
  refine h_invU (As := [.ref 1, .int x1]) (st := []) dX11_person_78 lk_X11_117_X0 (h_room (by decide)) nl_5 zk_5 (by decide) rfl rfl rfl (Nat.le_of_ble_eq_true rfl) ?_
  exact k1
set_option maxHeartbeats 1000000 in
set_option maxRecDepth 4000 in
theorem sg_X11_person_C_96 {E : HEn} {d : Nat} {Q : Option Value → HIh → Prop} {I : HIh} {s0 : Int32}
    (k1 : Q (some (.int s0)) I)
    : HGo E (mF E (d + 3) Q) me_X11_person 96 [] [.int s0] I := by
  exact h_iret dX11_person_96 rfl (k1)
set_option maxHeartbeats 1000000 in
set_option maxRecDepth 4000 in
theorem sg_X11_person_C_64 {E : HEn} {d : Nat} {Q : Option Value → HIh → Prop} {I : HIh} {s0 : Int32}
    (k1 : Q (some (.int s0)) I)
    : HGo E (mF E (d + 3) Q) me_X11_person 64 [] [.int s0] I := by
  exact h_iret dX11_person_64 rfl (k1)
set_option maxHeartbeats 1000000 in
set_option maxRecDepth 4000 in
theorem sg_X11_person_C_81 {E : HEn} {d : Nat} {Q : Option Value → HIh → Prop} {I : HIh} {s0 : Int32}
    (k1 : Q (some (.int s0)) I)
    : HGo E (mF E (d + 3) Q) me_X11_person 81 [] [.int s0] I := by
  exact h_iret dX11_person_81 rfl (k1)
set_option maxHeartbeats 1000000 in
set_option maxRecDepth 4000 in
theorem sg_X11_as_C_0 {E : HEn} {d : Nat} {Q : Option Value → HIh → Prop} {I : HIh} {a : Int32} {b : Int32}
    (k1 : (0 : Int32) ≤ a → a < 4 → b < 0 → Q (some (.int (-3))) I)
    (k2 : (0 : Int32) ≤ a → a < 4 → ¬ b < 0 → b ≤ 5 → HCall E me_X9_folkOf (d + 3) [.ref 1, .int a] I (fun v9 J => HGo E (mF E (d + 4) Q) me_X11_as 30 [(0, .ref 0), (1, .int a), (2, .int b)] (v9.toList ++ []) J))
    (k3 : (0 : Int32) ≤ a → a < 4 → ¬ b < 0 → ¬ b ≤ 5 → Q (some (.int (-3))) I)
    (k4 : ¬ ((0 : Int32) ≤ a ∧ a < 4) → Q (some (.int (-2))) I)
    : HGo E (mF E (d + 4) Q) me_X11_as 0 [(0, .ref 0), (1, .int a), (2, .int b)] [] I := by
  refine h_iload_n dX11_as_0 rfl 1 rfl ?_
  refine h_invS (As := [.int a]) (st := []) dX11_as_1 lk_X11_100 (h_room (by decide)) rfl rfl (Nat.le_of_ble_eq_true rfl) ?_
  refine c_X11_isPerson (fun c1 c2 => ?_) (fun c3 => ?_)
  ·
    refine h_if_ne (tgt := 10) dX11_as_4 (by decide) (fun _ => ?_) (fun c => absurd c (by decide))
    refine h_iload_n dX11_as_10 rfl 2 rfl ?_
    refine h_if_lt (tgt := 19) dX11_as_11 (by decide) (fun c4 => ?_) (fun c4 => ?_)
    ·
      refine h_bipush (v := (-3)) dX11_as_19 (by decide) ?_
      exact h_iret dX11_as_21 rfl (k1 c1 c2 c4)
    ·
      refine h_iload_n dX11_as_14 rfl 2 rfl ?_
      refine h_iconst (v := 5) dX11_as_15 (by decide) ?_
      refine h_icmp_le (tgt := 22) dX11_as_16 (by decide) (fun c5 => ?_) (fun c5 => ?_)
      ·
        refine h_aload_n dX11_as_22 rfl 0 rfl ?_
        refine gf_9_0 dX11_as_23 hl_X11_10 nl_0 zk_0 zp_0_0 ?_
        refine h_iload_n dX11_as_26 rfl 1 rfl ?_
        refine h_invV (As := [.int a]) (st := []) dX11_as_27 lk_X11_107 (h_room (by decide)) nl_1 zk_1 (by decide) rfl rfl rfl (Nat.le_of_ble_eq_true rfl) ?_
        exact k2 c1 c2 c4 c5
      ·
        refine h_bipush (v := (-3)) dX11_as_19 (by decide) ?_
        exact h_iret dX11_as_21 rfl (k3 c1 c2 c4 c5)
  ·
    refine h_if_ne (tgt := 10) dX11_as_4 (by decide) (fun c => absurd c (by decide)) (fun _ => ?_)
    refine h_bipush (v := (-2)) dX11_as_7 (by decide) ?_
    exact h_iret dX11_as_9 rfl (k4 c3)
set_option maxHeartbeats 1000000 in
set_option maxRecDepth 4000 in
theorem sg_X11_as_C_30 {E : HEn} {d : Nat} {Q : Option Value → HIh → Prop} {I : HIh} {x1 : Int32} {x2 : Int32}
    (k1 : HCall E me_X11_isA (d + 3) [.ref 5, .int x2] I (fun v9 J => HGo E (mF E (d + 4) Q) me_X11_as 36 [(0, .ref 0), (1, .int x1), (3, .ref 5)] (v9.toList ++ []) J))
    : HGo E (mF E (d + 4) Q) me_X11_as 30 [(0, .ref 0), (1, .int x1), (2, .int x2)] [.ref 5] I := by
  refine h_astore_n (L' := [(3, .ref 5), (0, .ref 0), (1, .int x1), (2, .int x2)]) dX11_as_30 rfl (by decide) rfl ?_
  refine h_aload_n dX11_as_31 rfl 0 rfl ?_
  refine h_iload_n dX11_as_32 rfl 3 rfl ?_
  refine h_pick [1, 2, 0] [(0, .ref 0), (1, .int x1), (3, .ref 5)] rfl ?_
  refine h_invS (As := [.ref 5, .int x2]) (st := []) dX11_as_33 lk_X11_124 (h_room (by decide)) rfl rfl (Nat.le_of_ble_eq_true rfl) ?_
  exact k1
set_option maxHeartbeats 1000000 in
set_option maxRecDepth 4000 in
theorem sg_X11_as_C_36 {E : HEn} {d : Nat} {Q : Option Value → HIh → Prop} {I : HIh} {x1 : Int32} {s0 : Int32}
    (k1 : s0 = 0 → Q (some (.int (-4))) I)
    (k2 : ¬ s0 = 0 → HCall E me_X8_wouldThrow (d + 3) [.ref 5, .ref 1, .ref 12, .int x1] I (fun v9 J => HGo E (mF E (d + 4) Q) me_X11_as 52 [] (v9.toList ++ []) J))
    : HGo E (mF E (d + 4) Q) me_X11_as 36 [(0, .ref 0), (1, .int x1), (3, .ref 5)] [.int s0] I := by
  refine h_if_eq (tgt := 55) dX11_as_36 (by decide) (fun c1 => ?_) (fun c1 => ?_)
  ·
    refine h_bipush (v := (-4)) dX11_as_55 (by decide) ?_
    exact h_iret dX11_as_57 rfl (k1 c1)
  ·
    refine h_aload_n dX11_as_39 rfl 2 rfl ?_
    refine h_aload_n dX11_as_40 rfl 0 rfl ?_
    refine gf_9_0 dX11_as_41 hl_X11_10 nl_0 zk_0 zp_0_0 ?_
    refine h_aload_n dX11_as_44 rfl 0 rfl ?_
    refine gf_9_1 dX11_as_45 hl_X11_19 nl_0 zk_0 zp_0_1 ?_
    refine h_iload_n dX11_as_48 rfl 1 rfl ?_
    refine h_pick [] [] rfl ?_
    refine h_invU (As := [.ref 1, .ref 12, .int x1]) (st := []) dX11_as_49 lk_X11_128_X0 (h_room (by decide)) nl_5 zk_5 (by decide) rfl rfl rfl (Nat.le_of_ble_eq_true rfl) ?_
    exact k2 c1
set_option maxHeartbeats 1000000 in
set_option maxRecDepth 4000 in
theorem sg_X11_as_C_52 {E : HEn} {d : Nat} {Q : Option Value → HIh → Prop} {I : HIh} {s0 : Int32}
    (k1 : Q (some (.int s0)) I)
    : HGo E (mF E (d + 4) Q) me_X11_as 52 [] [.int s0] I := by
  refine h_goto (tgt := 57) dX11_as_52 (by decide) ?_
  exact h_iret dX11_as_57 rfl (k1)
set_option maxHeartbeats 1000000 in
set_option maxRecDepth 4000 in
theorem sg_X11_isA_C_0 {E : HEn} {d : Nat} {Q : Option Value → HIh → Prop} {I : HIh} {b : Int32}
    (k1 : b = 0 → Q (some (.int 1)) I)
    (k2 : ¬ b = 0 → b = 1 → Q (some (.int 0)) I)
    (k3 : ¬ b = 0 → ¬ b = 1 → b = 2 → Q (some (.int 1)) I)
    (k4 : ¬ b = 0 → ¬ b = 1 → ¬ b = 2 → b = 3 → Q (some (.int 0)) I)
    (k5 : ¬ b = 0 → ¬ b = 1 → ¬ b = 2 → ¬ b = 3 → b = 4 → Q (some (.int 0)) I)
    (k6 : ¬ b = 0 → ¬ b = 1 → ¬ b = 2 → ¬ b = 3 → ¬ b = 4 → Q (some (.int 1)) I)
    : HGo E (mF E (d + 1) Q) me_X11_isA 0 [(0, .ref 5), (1, .int b)] [] I := by
  refine h_iload_n dX11_isA_0 rfl 1 rfl ?_
  by_cases c1 : b = 0
  · refine h_tswIn (off := 35) (tgt := 36) 0 dX11_isA_1 (by rw [c1]; rfl) (by decide) (by decide) (by decide) (by decide) ?_
    refine h_iconst (v := 1) dX11_isA_36 (by decide) ?_
    exact h_zret dX11_isA_37 rfl rfl (k1 c1)
  by_cases c2 : b = 1
  · refine h_tswIn (off := 37) (tgt := 38) 1 dX11_isA_1 (by rw [c2]; rfl) (by decide) (by decide) (by decide) (by decide) ?_
    refine h_aload_n dX11_isA_38 rfl 0 rfl ?_
    refine h_instNo dX11_isA_39 wt_533 (by decide +kernel) nl_5 zk_5 (by decide) rfl ?_
    exact h_zret dX11_isA_42 rfl rfl (k2 c1 c2)
  by_cases c3 : b = 2
  · refine h_tswIn (off := 42) (tgt := 43) 2 dX11_isA_1 (by rw [c3]; rfl) (by decide) (by decide) (by decide) (by decide) ?_
    refine h_aload_n dX11_isA_43 rfl 0 rfl ?_
    refine h_instY dX11_isA_44 wt_534 (by decide +kernel) nl_5 zk_5 (by decide) rfl ?_
    exact h_zret dX11_isA_47 rfl rfl (k3 c1 c2 c3)
  by_cases c4 : b = 3
  · refine h_tswIn (off := 47) (tgt := 48) 3 dX11_isA_1 (by rw [c4]; rfl) (by decide) (by decide) (by decide) (by decide) ?_
    refine h_aload_n dX11_isA_48 rfl 0 rfl ?_
    refine h_instNo dX11_isA_49 wt_535 (by decide +kernel) nl_5 zk_5 (by decide) rfl ?_
    exact h_zret dX11_isA_52 rfl rfl (k4 c1 c2 c3 c4)
  by_cases c5 : b = 4
  · refine h_tswIn (off := 52) (tgt := 53) 4 dX11_isA_1 (by rw [c5]; rfl) (by decide) (by decide) (by decide) (by decide) ?_
    refine h_aload_n dX11_isA_53 rfl 0 rfl ?_
    refine h_instNo dX11_isA_54 wt_536 (by decide +kernel) nl_5 zk_5 (by decide) rfl ?_
    exact h_zret dX11_isA_57 rfl rfl (k5 c1 c2 c3 c4 c5)
  refine h_tswOut (tgt := 58) dX11_isA_1 (tsw_out5 c1 c2 c3 c4 c5) (by decide) ?_
  refine h_aload_n dX11_isA_58 rfl 0 rfl ?_
  refine h_instS dX11_isA_59 wt_537 nl_5 zk_5 (by decide) rfl ?_
  exact h_zret dX11_isA_62 rfl rfl (k6 c1 c2 c3 c4 c5)
