set_option maxHeartbeats 1000000 in
set_option maxRecDepth 20000 in
theorem sg_X11_fault_0 {E : HEn} {d : Nat} {Q : Option Value → HIh → Prop} {I : HIh} 
    (k1 : HCall E me_X7_readOver (d + 6) [.ref 19, .ref 1] I (fun v9 J => HGo E (mF E (d + 7) Q) me_X11_fault 11 [] (v9.toList ++ []) J))
    : HGo E (mF E (d + 7) Q) me_X11_fault 0 [(0, .ref 0)] [] I := by
  refine h_aload_n dX11_fault_0 rfl 0 rfl ?_
  refine gf_9_3 dX11_fault_1 hl_X11_30 nl_0 zk_0 zp_0_3 ?_
  refine h_aload_n dX11_fault_4 rfl 0 rfl ?_
  refine gf_9_0 dX11_fault_5 hl_X11_10 nl_0 zk_0 zp_0_0 ?_
  refine h_pick [] [] rfl ?_
  refine h_invV (As := [.ref 1]) (st := []) dX11_fault_8 lk_X11_60 (h_room (by decide)) nl_19 zk_19 (by decide) rfl rfl rfl (Nat.le_of_ble_eq_true rfl) ?_
  exact k1
set_option maxHeartbeats 1000000 in
set_option maxRecDepth 20000 in
theorem sg_X11_fault_11 {E : HEn} {d : Nat} {Q : Option Value → HIh → Prop} {I : HIh} {s0 : Int32}
    (k1 : Q (some (.int s0)) I)
    : HGo E (mF E (d + 7) Q) me_X11_fault 11 [] [.int s0] I := by
  exact h_iret dX11_fault_11 rfl (k1)
set_option maxHeartbeats 1000000 in
set_option maxRecDepth 20000 in
theorem sg_X11_sunday_0 {E : HEn} {d : Nat} {Q : Option Value → HIh → Prop} {I : HIh} 
    (k1 : HCall E me_X7_readOver (d + 6) [.ref 19, .ref 1] I (fun v9 J => HGo E (mF E (d + 7) Q) me_X11_sunday 11 [(0, .ref 0)] (v9.toList ++ []) J))
    : HGo E (mF E (d + 7) Q) me_X11_sunday 0 [(0, .ref 0)] [] I := by
  refine h_aload_n dX11_sunday_0 rfl 0 rfl ?_
  refine gf_9_3 dX11_sunday_1 hl_X11_30 nl_0 zk_0 zp_0_3 ?_
  refine h_aload_n dX11_sunday_4 rfl 0 rfl ?_
  refine gf_9_0 dX11_sunday_5 hl_X11_10 nl_0 zk_0 zp_0_0 ?_
  refine h_invV (As := [.ref 1]) (st := []) dX11_sunday_8 lk_X11_60 (h_room (by decide)) nl_19 zk_19 (by decide) rfl rfl rfl (Nat.le_of_ble_eq_true rfl) ?_
  exact k1
set_option maxHeartbeats 1000000 in
set_option maxRecDepth 20000 in
theorem sg_X11_sunday_11 {E : HEn} {d : Nat} {Q : Option Value → HIh → Prop} {I : HIh} {s0 : Int32}
    (k1 : s0 = (-1) → HCall E me_X9_copyFrom (d + 6) [.ref 1, .ref 21] I (fun v9 J => HGo E (mF E (d + 7) Q) me_X11_sunday 32 [(0, .ref 0)] (v9.toList ++ []) J))
    (k2 : ¬ s0 = (-1) → Q (some (.int (-4))) I)
    : HGo E (mF E (d + 7) Q) me_X11_sunday 11 [(0, .ref 0)] [.int s0] I := by
  refine h_iconst (v := (-1)) dX11_sunday_11 (by decide) ?_
  refine h_icmp_eq (tgt := 18) dX11_sunday_12 (by decide) (fun c1 => ?_) (fun c1 => ?_)
  ·
    refine h_aload_n dX11_sunday_18 rfl 0 rfl ?_
    refine gf_9_0 dX11_sunday_19 hl_X11_10 nl_0 zk_0 zp_0_0 ?_
    refine h_aload_n dX11_sunday_22 rfl 0 rfl ?_
    refine gf_9_3 dX11_sunday_23 hl_X11_30 nl_0 zk_0 zp_0_3 ?_
    refine gf_6_1 dX11_sunday_26 hl_X11_64 nl_19 zk_19 zp_19_1 ?_
    refine h_invV (As := [.ref 21]) (st := []) dX11_sunday_29 lk_X11_67 (h_room (by decide)) nl_1 zk_1 (by decide) rfl rfl rfl (Nat.le_of_ble_eq_true rfl) ?_
    exact k1 c1
  ·
    refine h_bipush (v := (-4)) dX11_sunday_15 (by decide) ?_
    exact h_iret dX11_sunday_17 rfl (k2 c1)
set_option maxHeartbeats 1000000 in
set_option maxRecDepth 20000 in
theorem sg_X11_sunday_32 {E : HEn} {d : Nat} {Q : Option Value → HIh → Prop} {I : HIh} 
    (k1 : Q (some (.int (I 19 3))) (setI (setI (setI (setI (setI (setI I 13 (va_cpy (I 11) (I 13) 0 0 30)) 12 (upd (I 12) 1 (I 10 1))) 19 (upd (I 19) 2 0)) 80 (upd (I 80) 6 0)) 0 (upd (I 0) 6 0)) 32 (upd (I 32) 4 (-1))))
    : HGo E (mF E (d + 7) Q) me_X11_sunday 32 [(0, .ref 0)] [] I := by
  refine h_aload_n dX11_sunday_32 rfl 0 rfl ?_
  refine gf_9_1 dX11_sunday_33 hl_X11_19 nl_0 zk_0 zp_0_1 ?_
  refine h_aload_n dX11_sunday_36 rfl 0 rfl ?_
  refine gf_9_0 dX11_sunday_37 hl_X11_10 nl_0 zk_0 zp_0_0 ?_
  refine gf_7_8 dX11_sunday_40 hl_X11_70 nl_1 zk_1 zp_1_8 ?_
  refine h_invV (As := [.ref 10]) (st := []) dX11_sunday_43 lk_X11_73 (h_room (by decide)) nl_12 zk_12 (by decide) rfl rfl rfl (Nat.le_of_ble_eq_true rfl) ?_
  refine c_X4_copyFrom nl_12 zk_12 zp_12_0 nl_13 zk_13 zn_13 nl_10 zk_10 zp_10_0 nl_11 zk_11 zn_11 ?_
  refine h_aload_n dX11_sunday_46 rfl 0 rfl ?_
  refine gf_9_3 dX11_sunday_47 hl_X11_30 nl_0 zk_0 zp_0_3 ?_
  refine h_iconst (v := 0) dX11_sunday_50 (by decide) ?_
  refine pf_6_2 dX11_sunday_51 hl_X11_50 nl_19 zk_19 ?_
  refine h_aload_n dX11_sunday_54 rfl 0 rfl ?_
  refine gf_9_5 dX11_sunday_55 hl_X11_46 nl_0 zk_0 zp_0_5 ?_
  refine h_iconst (v := 0) dX11_sunday_58 (by decide) ?_
  refine pf_5_6 dX11_sunday_59 hl_X11_76 nl_80 zk_80 ?_
  refine h_aload_n dX11_sunday_62 rfl 0 rfl ?_
  refine h_iconst (v := 0) dX11_sunday_63 (by decide) ?_
  refine pf_9_6 dX11_sunday_64 hl_X11_79 nl_0 zk_0 ?_
  refine h_aload_n dX11_sunday_67 rfl 0 rfl ?_
  refine gf_9_4 dX11_sunday_68 hl_X11_39 nl_0 zk_0 zp_0_4 ?_
  refine h_invV (As := []) (st := []) dX11_sunday_71 lk_X11_82 (h_room (by decide)) nl_32 zk_32 (by decide) rfl rfl rfl (Nat.le_of_ble_eq_true rfl) ?_
  refine c_X2_becomeStale ?_
  refine h_aload_n dX11_sunday_74 rfl 0 rfl ?_
  refine gf_9_3 dX11_sunday_75 hl_X11_30 nl_0 zk_0 zp_0_3 ?_
  refine gf_6_3 dX11_sunday_78 hl_X11_85 nl_19 zk_19 ?_
  exact h_iret dX11_sunday_81 rfl (k1)
set_option maxHeartbeats 1000000 in
set_option maxRecDepth 20000 in
theorem sg_X11_plan_0 {E : HEn} {d : Nat} {Q : Option Value → HIh → Prop} {I : HIh} {a : Int32} {b : Int32}
    (k1 : (0 : Int32) ≤ a → a < 4 → (-1) ≤ b → HCall E me_X9_visitsLeft (d + 41) [.ref 1, .ref 12, .int ((1 : Int32) <<< (a &&& 31))] I (fun v9 J => HGo E (mF E (d + 42) Q) me_X11_plan 34 [(0, .ref 0), (1, .int a), (2, .int b), (3, .int ((1 : Int32) <<< (a &&& 31)))] (v9.toList ++ []) J))
    (k2 : (0 : Int32) ≤ a → a < 4 → ¬ (-1) ≤ b → Q (some (.int (-3))) I)
    (k3 : ¬ ((0 : Int32) ≤ a ∧ a < 4) → Q (some (.int (-2))) I)
    : HGo E (mF E (d + 42) Q) me_X11_plan 0 [(0, .ref 0), (1, .int a), (2, .int b)] [] I := by
  refine h_iload_n dX11_plan_0 rfl 1 rfl ?_
  refine h_invS (As := [.int a]) (st := []) dX11_plan_1 lk_X11_100 (h_room (by decide)) rfl rfl (Nat.le_of_ble_eq_true rfl) ?_
  refine c_X11_isPerson (fun c1 c2 => ?_) (fun c3 => ?_)
  ·
    refine h_if_ne (tgt := 10) dX11_plan_4 (by decide) (fun _ => ?_) (fun c => absurd c (by decide))
    refine h_iload_n dX11_plan_10 rfl 2 rfl ?_
    refine h_iconst (v := (-1)) dX11_plan_11 (by decide) ?_
    refine h_icmp_ge (tgt := 18) dX11_plan_12 (by decide) (fun c4 => ?_) (fun c4 => ?_)
    ·
      refine h_iconst (v := 1) dX11_plan_18 (by decide) ?_
      refine h_iload_n dX11_plan_19 rfl 1 rfl ?_
      refine h_ishl dX11_plan_20 ?_
      refine h_istore_n (L' := [(3, .int ((1 : Int32) <<< (a &&& 31))), (0, .ref 0), (1, .int a), (2, .int b)]) dX11_plan_21 rfl (by decide) rfl ?_
      refine h_aload_n dX11_plan_22 rfl 1 rfl ?_
      refine gf_9_0 dX11_plan_23 hl_X11_10 nl_0 zk_0 zp_0_0 ?_
      refine h_aload_n dX11_plan_26 rfl 1 rfl ?_
      refine gf_9_1 dX11_plan_27 hl_X11_19 nl_0 zk_0 zp_0_1 ?_
      refine h_iload_n dX11_plan_30 rfl 0 rfl ?_
      refine h_pick [1, 2, 3, 0] [(0, .ref 0), (1, .int a), (2, .int b), (3, .int ((1 : Int32) <<< (a &&& 31)))] rfl ?_
      refine h_invV (As := [.ref 12, .int ((1 : Int32) <<< (a &&& 31))]) (st := []) dX11_plan_31 lk_X11_121 (h_room (by decide)) nl_1 zk_1 (by decide) rfl rfl rfl (Nat.le_of_ble_eq_true rfl) ?_
      exact k1 c1 c2 c4
    ·
      refine h_bipush (v := (-3)) dX11_plan_15 (by decide) ?_
      exact h_iret dX11_plan_17 rfl (k2 c1 c2 c4)
  ·
    refine h_if_ne (tgt := 10) dX11_plan_4 (by decide) (fun c => absurd c (by decide)) (fun _ => ?_)
    refine h_bipush (v := (-2)) dX11_plan_7 (by decide) ?_
    exact h_iret dX11_plan_9 rfl (k3 c3)
set_option maxHeartbeats 1000000 in
set_option maxRecDepth 20000 in
theorem sg_X11_plan_34 {E : HEn} {d : Nat} {Q : Option Value → HIh → Prop} {I : HIh} {x1 : Int32} {x2 : Int32} {x3 : Int32} {s0 : Int32}
    (k1 : s0 ≤ 5 → HCall E me_X2_foresee (d + 41) [.ref 32, .ref 12, .int (x3 <<< ((4 * x1) &&& 31))] I (fun v9 J => HGo E (mF E (d + 42) Q) me_X11_plan 57 [(0, .ref 0), (1, .int x1), (2, .int x2)] (v9.toList ++ []) J))
    (k2 : ¬ s0 ≤ 5 → Q (some (.int (-4))) I)
    : HGo E (mF E (d + 42) Q) me_X11_plan 34 [(0, .ref 0), (1, .int x1), (2, .int x2), (3, .int x3)] [.int s0] I := by
  refine h_iconst (v := 5) dX11_plan_34 (by decide) ?_
  refine h_icmp_le (tgt := 41) dX11_plan_35 (by decide) (fun c1 => ?_) (fun c1 => ?_)
  ·
    refine h_aload_n dX11_plan_41 rfl 0 rfl ?_
    refine gf_9_4 dX11_plan_42 hl_X11_39 nl_0 zk_0 zp_0_4 ?_
    refine h_aload_n dX11_plan_45 rfl 0 rfl ?_
    refine gf_9_1 dX11_plan_46 hl_X11_19 nl_0 zk_0 zp_0_1 ?_
    refine h_iload_n dX11_plan_49 rfl 1 rfl ?_
    refine h_iload_n dX11_plan_50 rfl 3 rfl ?_
    refine h_invS (As := [.int x1, .int x3]) (st := [.ref 12, .ref 32]) dX11_plan_51 lk_X11_153 (h_room (by decide)) rfl rfl (Nat.le_of_ble_eq_true rfl) ?_
    refine c_X11_goalFor ?_
    refine h_pick [0, 1, 2] [(0, .ref 0), (1, .int x1), (2, .int x2)] rfl ?_
    refine h_invV (As := [.ref 12, .int (x3 <<< ((4 * x1) &&& 31))]) (st := []) dX11_plan_54 lk_X11_156 (h_room (by decide)) nl_32 zk_32 (by decide) rfl rfl rfl (Nat.le_of_ble_eq_true rfl) ?_
    exact k1 c1
  ·
    refine h_bipush (v := (-4)) dX11_plan_38 (by decide) ?_
    exact h_iret dX11_plan_40 rfl (k2 c1)
set_option maxHeartbeats 1000000 in
set_option maxRecDepth 20000 in
theorem sg_X11_plan_57 {E : HEn} {d : Nat} {Q : Option Value → HIh → Prop} {I : HIh} {x1 : Int32} {x2 : Int32}
    (k1 : ¬ x2 = (-1) → HCall E me_X2_step (d + 41) [.ref 32, .int x2] I (fun v9 J => HGo E (mF E (d + 42) Q) me_X11_plan 81 [] (v9.toList ++ []) J))
    (k2 : x2 = (-1) → HCall E me_X2_endOf (d + 41) [.ref 32, .int x1] I (fun v9 J => HGo E (mF E (d + 42) Q) me_X11_plan 70 [] (v9.toList ++ []) J))
    : HGo E (mF E (d + 42) Q) me_X11_plan 57 [(0, .ref 0), (1, .int x1), (2, .int x2)] [] I := by
  refine h_iload_n dX11_plan_57 rfl 2 rfl ?_
  refine h_iconst (v := (-1)) dX11_plan_58 (by decide) ?_
  refine h_icmp_ne (tgt := 73) dX11_plan_59 (by decide) (fun c1 => ?_) (fun c1 => ?_)
  ·
    refine h_aload_n dX11_plan_73 rfl 0 rfl ?_
    refine gf_9_4 dX11_plan_74 hl_X11_39 nl_0 zk_0 zp_0_4 ?_
    refine h_iload_n dX11_plan_77 rfl 2 rfl ?_
    refine h_pick [] [] rfl ?_
    refine h_invV (As := [.int x2]) (st := []) dX11_plan_78 lk_X11_162 (h_room (by decide)) nl_32 zk_32 (by decide) rfl rfl rfl (Nat.le_of_ble_eq_true rfl) ?_
    exact k1 c1
  ·
    refine h_aload_n dX11_plan_62 rfl 0 rfl ?_
    refine gf_9_4 dX11_plan_63 hl_X11_39 nl_0 zk_0 zp_0_4 ?_
    refine h_iload_n dX11_plan_66 rfl 1 rfl ?_
    refine h_pick [] [] rfl ?_
    refine h_invV (As := [.int x1]) (st := []) dX11_plan_67 lk_X11_159 (h_room (by decide)) nl_32 zk_32 (by decide) rfl rfl rfl (Nat.le_of_ble_eq_true rfl) ?_
    exact k2 c1
set_option maxHeartbeats 1000000 in
set_option maxRecDepth 20000 in
theorem sg_X11_plan_81 {E : HEn} {d : Nat} {Q : Option Value → HIh → Prop} {I : HIh} {s0 : Int32}
    (k1 : Q (some (.int s0)) I)
    : HGo E (mF E (d + 42) Q) me_X11_plan 81 [] [.int s0] I := by
  exact h_iret dX11_plan_81 rfl (k1)
set_option maxHeartbeats 1000000 in
set_option maxRecDepth 20000 in
theorem sg_X11_plan_70 {E : HEn} {d : Nat} {Q : Option Value → HIh → Prop} {I : HIh} {s0 : Int32}
    (k1 : Q (some (.int s0)) I)
    : HGo E (mF E (d + 42) Q) me_X11_plan 70 [] [.int s0] I := by
  refine h_goto (tgt := 81) dX11_plan_70 (by decide) ?_
  exact h_iret dX11_plan_81 rfl (k1)
set_option maxHeartbeats 1000000 in
set_option maxRecDepth 20000 in
theorem sg_X11_game_0 {E : HEn} {d : Nat} {Q : Option Value → HIh → Prop} {I : HIh} {a : Int32}
    (k1 : (0 : Int32) ≤ a → a < 4 → HCall E me_X11_tooLongForGame (d + 41) [.ref 0] I (fun v9 J => HGo E (mF E (d + 42) Q) me_X11_game 14 [(0, .ref 0), (1, .int a)] (v9.toList ++ []) J))
    (k2 : ¬ ((0 : Int32) ≤ a ∧ a < 4) → Q (some (.int (-2))) I)
    : HGo E (mF E (d + 42) Q) me_X11_game 0 [(0, .ref 0), (1, .int a)] [] I := by
  refine h_iload_n dX11_game_0 rfl 1 rfl ?_
  refine h_invS (As := [.int a]) (st := []) dX11_game_1 lk_X11_100 (h_room (by decide)) rfl rfl (Nat.le_of_ble_eq_true rfl) ?_
  refine c_X11_isPerson (fun c1 c2 => ?_) (fun c3 => ?_)
  ·
    refine h_if_ne (tgt := 10) dX11_game_4 (by decide) (fun _ => ?_) (fun c => absurd c (by decide))
    refine h_aload_n dX11_game_10 rfl 0 rfl ?_
    refine h_invV (As := []) (st := []) dX11_game_11 lk_X11_165 (h_room (by decide)) nl_0 zk_0 (by decide) rfl rfl rfl (Nat.le_of_ble_eq_true rfl) ?_
    exact k1 c1 c2
  ·
    refine h_if_ne (tgt := 10) dX11_game_4 (by decide) (fun c => absurd c (by decide)) (fun _ => ?_)
    refine h_bipush (v := (-2)) dX11_game_7 (by decide) ?_
    exact h_iret dX11_game_9 rfl (k2 c3)
set_option maxHeartbeats 1000000 in
set_option maxRecDepth 20000 in
theorem sg_X11_game_14 {E : HEn} {d : Nat} {Q : Option Value → HIh → Prop} {I : HIh} {x1 : Int32} {s0 : Int32}
    (k1 : s0 = 0 → HCall E me_X2_foresee (d + 41) [.ref 32, .ref 12, .int 33825] I (fun v9 J => HGo E (mF E (d + 42) Q) me_X11_game 33 [(0, .ref 0), (1, .int x1)] (v9.toList ++ []) J))
    (k2 : ¬ s0 = 0 → Q (some (.int (-4))) I)
    : HGo E (mF E (d + 42) Q) me_X11_game 14 [(0, .ref 0), (1, .int x1)] [.int s0] I := by
  refine h_if_eq (tgt := 20) dX11_game_14 (by decide) (fun c1 => ?_) (fun c1 => ?_)
  ·
    refine h_aload_n dX11_game_20 rfl 0 rfl ?_
    refine gf_9_4 dX11_game_21 hl_X11_39 nl_0 zk_0 zp_0_4 ?_
    refine h_aload_n dX11_game_24 rfl 0 rfl ?_
    refine gf_9_1 dX11_game_25 hl_X11_19 nl_0 zk_0 zp_0_1 ?_
    refine h_ldc dX11_game_28 wt_687 rfl ?_
    refine h_invV (As := [.ref 12, .int 33825]) (st := []) dX11_game_30 lk_X11_156 (h_room (by decide)) nl_32 zk_32 (by decide) rfl rfl rfl (Nat.le_of_ble_eq_true rfl) ?_
    exact k1 c1
  ·
    refine h_bipush (v := (-4)) dX11_game_17 (by decide) ?_
    exact h_iret dX11_game_19 rfl (k2 c1)
set_option maxHeartbeats 1000000 in
set_option maxRecDepth 20000 in
theorem sg_X11_game_33 {E : HEn} {d : Nat} {Q : Option Value → HIh → Prop} {I : HIh} {x1 : Int32}
    (k1 : HCall E me_X2_endOf (d + 41) [.ref 32, .int x1] I (fun v9 J => HGo E (mF E (d + 42) Q) me_X11_game 41 [] (v9.toList ++ []) J))
    : HGo E (mF E (d + 42) Q) me_X11_game 33 [(0, .ref 0), (1, .int x1)] [] I := by
  refine h_aload_n dX11_game_33 rfl 0 rfl ?_
  refine gf_9_4 dX11_game_34 hl_X11_39 nl_0 zk_0 zp_0_4 ?_
  refine h_iload_n dX11_game_37 rfl 1 rfl ?_
  refine h_pick [] [] rfl ?_
  refine h_invV (As := [.int x1]) (st := []) dX11_game_38 lk_X11_159 (h_room (by decide)) nl_32 zk_32 (by decide) rfl rfl rfl (Nat.le_of_ble_eq_true rfl) ?_
  exact k1
set_option maxHeartbeats 1000000 in
set_option maxRecDepth 20000 in
theorem sg_X11_game_41 {E : HEn} {d : Nat} {Q : Option Value → HIh → Prop} {I : HIh} {s0 : Int32}
    (k1 : Q (some (.int s0)) I)
    : HGo E (mF E (d + 42) Q) me_X11_game 41 [] [.int s0] I := by
  exact h_iret dX11_game_41 rfl (k1)
set_option maxHeartbeats 1000000 in
set_option maxRecDepth 20000 in
theorem sg_X11_choice_0 {E : HEn} {d : Nat} {Q : Option Value → HIh → Prop} {I : HIh} {a : Int32}
    (k1 : 0 ≤ a → HCall E me_X11_tooLongForGame (d + 41) [.ref 0] I (fun v9 J => HGo E (mF E (d + 42) Q) me_X11_choice 11 [(0, .ref 0), (1, .int a)] (v9.toList ++ []) J))
    (k2 : ¬ 0 ≤ a → Q (some (.int (-3))) I)
    : HGo E (mF E (d + 42) Q) me_X11_choice 0 [(0, .ref 0), (1, .int a)] [] I := by
  refine h_iload_n dX11_choice_0 rfl 1 rfl ?_
  refine h_if_ge (tgt := 7) dX11_choice_1 (by decide) (fun c1 => ?_) (fun c1 => ?_)
  ·
    refine h_aload_n dX11_choice_7 rfl 0 rfl ?_
    refine h_invV (As := []) (st := []) dX11_choice_8 lk_X11_165 (h_room (by decide)) nl_0 zk_0 (by decide) rfl rfl rfl (Nat.le_of_ble_eq_true rfl) ?_
    exact k1 c1
  ·
    refine h_bipush (v := (-3)) dX11_choice_4 (by decide) ?_
    exact h_iret dX11_choice_6 rfl (k2 c1)
set_option maxHeartbeats 1000000 in
set_option maxRecDepth 20000 in
theorem sg_X11_choice_11 {E : HEn} {d : Nat} {Q : Option Value → HIh → Prop} {I : HIh} {x1 : Int32} {s0 : Int32}
    (k1 : s0 = 0 → HCall E me_X2_foresee (d + 41) [.ref 32, .ref 12, .int 33825] I (fun v9 J => HGo E (mF E (d + 42) Q) me_X11_choice 30 [(0, .ref 0), (1, .int x1)] (v9.toList ++ []) J))
    (k2 : ¬ s0 = 0 → Q (some (.int (-4))) I)
    : HGo E (mF E (d + 42) Q) me_X11_choice 11 [(0, .ref 0), (1, .int x1)] [.int s0] I := by
  refine h_if_eq (tgt := 17) dX11_choice_11 (by decide) (fun c1 => ?_) (fun c1 => ?_)
  ·
    refine h_aload_n dX11_choice_17 rfl 0 rfl ?_
    refine gf_9_4 dX11_choice_18 hl_X11_39 nl_0 zk_0 zp_0_4 ?_
    refine h_aload_n dX11_choice_21 rfl 0 rfl ?_
    refine gf_9_1 dX11_choice_22 hl_X11_19 nl_0 zk_0 zp_0_1 ?_
    refine h_ldc dX11_choice_25 wt_687 rfl ?_
    refine h_invV (As := [.ref 12, .int 33825]) (st := []) dX11_choice_27 lk_X11_156 (h_room (by decide)) nl_32 zk_32 (by decide) rfl rfl rfl (Nat.le_of_ble_eq_true rfl) ?_
    exact k1 c1
  ·
    refine h_bipush (v := (-4)) dX11_choice_14 (by decide) ?_
    exact h_iret dX11_choice_16 rfl (k2 c1)
set_option maxHeartbeats 1000000 in
set_option maxRecDepth 20000 in
theorem sg_X11_choice_30 {E : HEn} {d : Nat} {Q : Option Value → HIh → Prop} {I : HIh} {x1 : Int32}
    (k1 : HCall E me_X2_step (d + 41) [.ref 32, .int x1] I (fun v9 J => HGo E (mF E (d + 42) Q) me_X11_choice 38 [] (v9.toList ++ []) J))
    : HGo E (mF E (d + 42) Q) me_X11_choice 30 [(0, .ref 0), (1, .int x1)] [] I := by
  refine h_aload_n dX11_choice_30 rfl 0 rfl ?_
  refine gf_9_4 dX11_choice_31 hl_X11_39 nl_0 zk_0 zp_0_4 ?_
  refine h_iload_n dX11_choice_34 rfl 1 rfl ?_
  refine h_pick [] [] rfl ?_
  refine h_invV (As := [.int x1]) (st := []) dX11_choice_35 lk_X11_162 (h_room (by decide)) nl_32 zk_32 (by decide) rfl rfl rfl (Nat.le_of_ble_eq_true rfl) ?_
  exact k1
set_option maxHeartbeats 1000000 in
set_option maxRecDepth 20000 in
theorem sg_X11_choice_38 {E : HEn} {d : Nat} {Q : Option Value → HIh → Prop} {I : HIh} {s0 : Int32}
    (k1 : Q (some (.int s0)) I)
    : HGo E (mF E (d + 42) Q) me_X11_choice 38 [] [.int s0] I := by
  exact h_iret dX11_choice_38 rfl (k1)
set_option maxHeartbeats 1000000 in
set_option maxRecDepth 20000 in
theorem sg_X11_league_0 {E : HEn} {d : Nat} {Q : Option Value → HIh → Prop} {I : HIh} {a : Int32} {b : Int32}
    (k1 : (0 : Int32) ≤ a → a < 4 → (0 : Int32) ≤ b → b < 4 → ¬ a = b → HCall E me_X9_visitsLeft (d + 41) [.ref 1, .ref 12, .int (((1 : Int32) <<< (a &&& 31)) ||| ((1 : Int32) <<< (b &&& 31)))] I (fun v9 J => HGo E (mF E (d + 42) Q) me_X11_league 45 [(0, .ref 0), (1, .int a), (2, .int b), (3, .int (((1 : Int32) <<< (a &&& 31)) ||| ((1 : Int32) <<< (b &&& 31))))] (v9.toList ++ []) J))
    (k2 : (0 : Int32) ≤ a → a < 4 → (0 : Int32) ≤ b → b < 4 → a = b → Q (some (.int (-3))) I)
    (k3 : (0 : Int32) ≤ a → a < 4 → ¬ ((0 : Int32) ≤ b ∧ b < 4) → Q (some (.int (-2))) I)
    (k4 : ¬ ((0 : Int32) ≤ a ∧ a < 4) → Q (some (.int (-2))) I)
    : HGo E (mF E (d + 42) Q) me_X11_league 0 [(0, .ref 0), (1, .int a), (2, .int b)] [] I := by
  refine h_iload_n dX11_league_0 rfl 1 rfl ?_
  refine h_invS (As := [.int a]) (st := []) dX11_league_1 lk_X11_100 (h_room (by decide)) rfl rfl (Nat.le_of_ble_eq_true rfl) ?_
  refine c_X11_isPerson (fun c1 c2 => ?_) (fun c3 => ?_)
  ·
    refine h_if_eq (tgt := 14) dX11_league_4 (by decide) (fun c => absurd c (by decide)) (fun _ => ?_)
    refine h_iload_n dX11_league_7 rfl 2 rfl ?_
    refine h_invS (As := [.int b]) (st := []) dX11_league_8 lk_X11_100 (h_room (by decide)) rfl rfl (Nat.le_of_ble_eq_true rfl) ?_
    refine c_X11_isPerson (fun c4 c5 => ?_) (fun c6 => ?_)
    ·
      refine h_if_ne (tgt := 17) dX11_league_11 (by decide) (fun _ => ?_) (fun c => absurd c (by decide))
      refine h_iload_n dX11_league_17 rfl 1 rfl ?_
      refine h_iload_n dX11_league_18 rfl 2 rfl ?_
      refine h_icmp_ne (tgt := 25) dX11_league_19 (by decide) (fun c7 => ?_) (fun c7 => ?_)
      ·
        refine h_iconst (v := 1) dX11_league_25 (by decide) ?_
        refine h_iload_n dX11_league_26 rfl 1 rfl ?_
        refine h_ishl dX11_league_27 ?_
        refine h_iconst (v := 1) dX11_league_28 (by decide) ?_
        refine h_iload_n dX11_league_29 rfl 2 rfl ?_
        refine h_ishl dX11_league_30 ?_
        refine h_ior dX11_league_31 ?_
        refine h_istore_n (L' := [(3, .int (((1 : Int32) <<< (a &&& 31)) ||| ((1 : Int32) <<< (b &&& 31)))), (0, .ref 0), (1, .int a), (2, .int b)]) dX11_league_32 rfl (by decide) rfl ?_
        refine h_aload_n dX11_league_33 rfl 1 rfl ?_
        refine gf_9_0 dX11_league_34 hl_X11_10 nl_0 zk_0 zp_0_0 ?_
        refine h_aload_n dX11_league_37 rfl 1 rfl ?_
        refine gf_9_1 dX11_league_38 hl_X11_19 nl_0 zk_0 zp_0_1 ?_
        refine h_iload_n dX11_league_41 rfl 0 rfl ?_
        refine h_pick [1, 2, 3, 0] [(0, .ref 0), (1, .int a), (2, .int b), (3, .int (((1 : Int32) <<< (a &&& 31)) ||| ((1 : Int32) <<< (b &&& 31))))] rfl ?_
        refine h_invV (As := [.ref 12, .int (((1 : Int32) <<< (a &&& 31)) ||| ((1 : Int32) <<< (b &&& 31)))]) (st := []) dX11_league_42 lk_X11_121 (h_room (by decide)) nl_1 zk_1 (by decide) rfl rfl rfl (Nat.le_of_ble_eq_true rfl) ?_
        exact k1 c1 c2 c4 c5 c7
      ·
        refine h_bipush (v := (-3)) dX11_league_22 (by decide) ?_
        exact h_iret dX11_league_24 rfl (k2 c1 c2 c4 c5 c7)
    ·
      refine h_if_ne (tgt := 17) dX11_league_11 (by decide) (fun c => absurd c (by decide)) (fun _ => ?_)
      refine h_bipush (v := (-2)) dX11_league_14 (by decide) ?_
      exact h_iret dX11_league_16 rfl (k3 c1 c2 c6)
  ·
    refine h_if_eq (tgt := 14) dX11_league_4 (by decide) (fun _ => ?_) (fun c => absurd c (by decide))
    refine h_bipush (v := (-2)) dX11_league_14 (by decide) ?_
    exact h_iret dX11_league_16 rfl (k4 c3)
set_option maxHeartbeats 1000000 in
set_option maxRecDepth 20000 in
theorem sg_X11_league_45 {E : HEn} {d : Nat} {Q : Option Value → HIh → Prop} {I : HIh} {x1 : Int32} {x2 : Int32} {x3 : Int32} {s0 : Int32}
    (k1 : s0 ≤ 5 → HCall E me_X2_foresee (d + 41) [.ref 32, .ref 12, .int ((x3 <<< ((4 * x1) &&& 31)) ||| (x3 <<< ((4 * x2) &&& 31)))] I (fun v9 J => HGo E (mF E (d + 42) Q) me_X11_league 74 [(0, .ref 0), (1, .int x1), (2, .int x2)] (v9.toList ++ []) J))
    (k2 : ¬ s0 ≤ 5 → Q (some (.int (-4))) I)
    : HGo E (mF E (d + 42) Q) me_X11_league 45 [(0, .ref 0), (1, .int x1), (2, .int x2), (3, .int x3)] [.int s0] I := by
  refine h_iconst (v := 5) dX11_league_45 (by decide) ?_
  refine h_icmp_le (tgt := 52) dX11_league_46 (by decide) (fun c1 => ?_) (fun c1 => ?_)
  ·
    refine h_aload_n dX11_league_52 rfl 0 rfl ?_
    refine gf_9_4 dX11_league_53 hl_X11_39 nl_0 zk_0 zp_0_4 ?_
    refine h_aload_n dX11_league_56 rfl 0 rfl ?_
    refine gf_9_1 dX11_league_57 hl_X11_19 nl_0 zk_0 zp_0_1 ?_
    refine h_iload_n dX11_league_60 rfl 1 rfl ?_
    refine h_iload_n dX11_league_61 rfl 3 rfl ?_
    refine h_invS (As := [.int x1, .int x3]) (st := [.ref 12, .ref 32]) dX11_league_62 lk_X11_153 (h_room (by decide)) rfl rfl (Nat.le_of_ble_eq_true rfl) ?_
    refine c_X11_goalFor ?_
    refine h_iload_n dX11_league_65 rfl 2 rfl ?_
    refine h_iload_n dX11_league_66 rfl 3 rfl ?_
    refine h_invS (As := [.int x2, .int x3]) (st := [.int (x3 <<< ((4 * x1) &&& 31)), .ref 12, .ref 32]) dX11_league_67 lk_X11_153 (h_room (by decide)) rfl rfl (Nat.le_of_ble_eq_true rfl) ?_
    refine c_X11_goalFor ?_
    refine h_ior dX11_league_70 ?_
    refine h_pick [0, 1, 2] [(0, .ref 0), (1, .int x1), (2, .int x2)] rfl ?_
    refine h_invV (As := [.ref 12, .int ((x3 <<< ((4 * x1) &&& 31)) ||| (x3 <<< ((4 * x2) &&& 31)))]) (st := []) dX11_league_71 lk_X11_156 (h_room (by decide)) nl_32 zk_32 (by decide) rfl rfl rfl (Nat.le_of_ble_eq_true rfl) ?_
    exact k1 c1
  ·
    refine h_bipush (v := (-4)) dX11_league_49 (by decide) ?_
    exact h_iret dX11_league_51 rfl (k2 c1)
set_option maxHeartbeats 1000000 in
set_option maxRecDepth 20000 in
theorem sg_X11_league_74 {E : HEn} {d : Nat} {Q : Option Value → HIh → Prop} {I : HIh} {x1 : Int32} {x2 : Int32}
    (k1 : HCall E me_X2_endOf (d + 41) [.ref 32, .int x1] I (fun v9 J => HGo E (mF E (d + 42) Q) me_X11_league 82 [(0, .ref 0), (2, .int x2)] (v9.toList ++ []) J))
    : HGo E (mF E (d + 42) Q) me_X11_league 74 [(0, .ref 0), (1, .int x1), (2, .int x2)] [] I := by
  refine h_aload_n dX11_league_74 rfl 0 rfl ?_
  refine gf_9_4 dX11_league_75 hl_X11_39 nl_0 zk_0 zp_0_4 ?_
  refine h_iload_n dX11_league_78 rfl 1 rfl ?_
  refine h_pick [0, 2] [(0, .ref 0), (2, .int x2)] rfl ?_
  refine h_invV (As := [.int x1]) (st := []) dX11_league_79 lk_X11_159 (h_room (by decide)) nl_32 zk_32 (by decide) rfl rfl rfl (Nat.le_of_ble_eq_true rfl) ?_
  exact k1
set_option maxHeartbeats 1000000 in
set_option maxRecDepth 20000 in
theorem sg_X11_league_82 {E : HEn} {d : Nat} {Q : Option Value → HIh → Prop} {I : HIh} {x2 : Int32} {s0 : Int32}
    (k1 : HCall E me_X2_endOf (d + 41) [.ref 32, .int x2] I (fun v9 J => HGo E (mF E (d + 42) Q) me_X11_league 90 [] (v9.toList ++ [.int s0]) J))
    : HGo E (mF E (d + 42) Q) me_X11_league 82 [(0, .ref 0), (2, .int x2)] [.int s0] I := by
  refine h_aload_n dX11_league_82 rfl 0 rfl ?_
  refine gf_9_4 dX11_league_83 hl_X11_39 nl_0 zk_0 zp_0_4 ?_
  refine h_iload_n dX11_league_86 rfl 1 rfl ?_
  refine h_pick [] [] rfl ?_
  refine h_invV (As := [.int x2]) (st := [.int s0]) dX11_league_87 lk_X11_159 (h_room (by decide)) nl_32 zk_32 (by decide) rfl rfl rfl (Nat.le_of_ble_eq_true rfl) ?_
  exact k1
set_option maxHeartbeats 1000000 in
set_option maxRecDepth 20000 in
theorem sg_X11_league_90 {E : HEn} {d : Nat} {Q : Option Value → HIh → Prop} {I : HIh} {s0 : Int32} {s1 : Int32}
    (k1 : Q (some (.int (s1 + s0))) I)
    : HGo E (mF E (d + 42) Q) me_X11_league 90 [] [.int s0, .int s1] I := by
  refine h_iadd dX11_league_90 ?_
  exact h_iret dX11_league_91 rfl (k1)
set_option maxHeartbeats 1000000 in
set_option maxRecDepth 20000 in
theorem sg_X11_mean_0 {E : HEn} {d : Nat} {Q : Option Value → HIh → Prop} {I : HIh} {a : Int32} {b : Int32} {c : Int32}
    (k1 : (0 : Int32) ≤ a → a < 4 → b < 0 → Q (some (.long (-3))) I)
    (k2 : (0 : Int32) ≤ a → a < 4 → ¬ b < 0 → 10 < b → Q (some (.long (-3))) I)
    (k3 : (0 : Int32) ≤ a → a < 4 → ¬ b < 0 → ¬ 10 < b → c < 0 → Q (some (.long (-3))) I)
    (k4 : (0 : Int32) ≤ a → a < 4 → ¬ b < 0 → ¬ 10 < b → ¬ c < 0 → c ≤ 1 → ((I 1 10) - (I 12 1)) ≤ 10 → HCall E me_X2_expected (d + 61) [.ref 32, .ref 12, .int a, .int b, .int c] I (fun v9 J => HGo E (mF E (d + 62) Q) me_X11_mean 72 [] (v9.toList ++ []) J))
    (k5 : (0 : Int32) ≤ a → a < 4 → ¬ b < 0 → ¬ 10 < b → ¬ c < 0 → c ≤ 1 → ¬ ((I 1 10) - (I 12 1)) ≤ 10 → Q (some (.long (-4))) I)
    (k6 : (0 : Int32) ≤ a → a < 4 → ¬ b < 0 → ¬ 10 < b → ¬ c < 0 → ¬ c ≤ 1 → Q (some (.long (-3))) I)
    (k7 : ¬ ((0 : Int32) ≤ a ∧ a < 4) → Q (some (.long (-2))) I)
    : HGo E (mF E (d + 62) Q) me_X11_mean 0 [(0, .ref 0), (1, .int a), (2, .int b), (3, .int c)] [] I := by
  refine h_iload_n dX11_mean_0 rfl 1 rfl ?_
  refine h_invS (As := [.int a]) (st := []) dX11_mean_1 lk_X11_100 (h_room (by decide)) rfl rfl (Nat.le_of_ble_eq_true rfl) ?_
  refine c_X11_isPerson (fun c1 c2 => ?_) (fun c3 => ?_)
  ·
    refine h_if_ne (tgt := 11) dX11_mean_4 (by decide) (fun _ => ?_) (fun c => absurd c (by decide))
    refine h_iload_n dX11_mean_11 rfl 2 rfl ?_
    refine h_if_lt (tgt := 30) dX11_mean_12 (by decide) (fun c4 => ?_) (fun c4 => ?_)
    ·
      refine h_ldc2 dX11_mean_30 wt_701 rfl ?_
      exact h_lret dX11_mean_33 rfl (k1 c1 c2 c4)
    ·
      refine h_iload_n dX11_mean_15 rfl 2 rfl ?_
      refine h_bipush (v := 10) dX11_mean_16 (by decide) ?_
      refine h_icmp_gt (tgt := 30) dX11_mean_18 (by decide) (fun c5 => ?_) (fun c5 => ?_)
      ·
        refine h_ldc2 dX11_mean_30 wt_701 rfl ?_
        exact h_lret dX11_mean_33 rfl (k2 c1 c2 c4 c5)
      ·
        refine h_iload_n dX11_mean_21 rfl 3 rfl ?_
        refine h_if_lt (tgt := 30) dX11_mean_22 (by decide) (fun c6 => ?_) (fun c6 => ?_)
        ·
          refine h_ldc2 dX11_mean_30 wt_701 rfl ?_
          exact h_lret dX11_mean_33 rfl (k3 c1 c2 c4 c5 c6)
        ·
          refine h_iload_n dX11_mean_25 rfl 3 rfl ?_
          refine h_iconst (v := 1) dX11_mean_26 (by decide) ?_
          refine h_icmp_le (tgt := 34) dX11_mean_27 (by decide) (fun c7 => ?_) (fun c7 => ?_)
          ·
            refine h_aload_n dX11_mean_34 rfl 0 rfl ?_
            refine gf_9_0 dX11_mean_35 hl_X11_10 nl_0 zk_0 zp_0_0 ?_
            refine gf_7_10 dX11_mean_38 hl_X11_146 nl_1 zk_1 ?_
            refine h_aload_n dX11_mean_41 rfl 0 rfl ?_
            refine gf_9_1 dX11_mean_42 hl_X11_19 nl_0 zk_0 zp_0_1 ?_
            refine gf_3_1 dX11_mean_45 hl_X11_139 nl_12 zk_12 ?_
            refine h_isub dX11_mean_48 ?_
            refine h_bipush (v := 10) dX11_mean_49 (by decide) ?_
            refine h_icmp_le (tgt := 58) dX11_mean_51 (by decide) (fun c8 => ?_) (fun c8 => ?_)
            ·
              refine h_aload_n dX11_mean_58 rfl 0 rfl ?_
              refine gf_9_4 dX11_mean_59 hl_X11_39 nl_0 zk_0 zp_0_4 ?_
              refine h_aload_n dX11_mean_62 rfl 0 rfl ?_
              refine gf_9_1 dX11_mean_63 hl_X11_19 nl_0 zk_0 zp_0_1 ?_
              refine h_iload_n dX11_mean_66 rfl 1 rfl ?_
              refine h_iload_n dX11_mean_67 rfl 2 rfl ?_
              refine h_iload_n dX11_mean_68 rfl 3 rfl ?_
              refine h_pick [] [] rfl ?_
              refine h_invV (As := [.ref 12, .int a, .int b, .int c]) (st := []) dX11_mean_69 lk_X11_176 (h_room (by decide)) nl_32 zk_32 (by decide) rfl rfl rfl (Nat.le_of_ble_eq_true rfl) ?_
              exact k4 c1 c2 c4 c5 c6 c7 c8
            ·
              refine h_ldc2 dX11_mean_54 wt_702 rfl ?_
              exact h_lret dX11_mean_57 rfl (k5 c1 c2 c4 c5 c6 c7 c8)
          ·
            refine h_ldc2 dX11_mean_30 wt_701 rfl ?_
            exact h_lret dX11_mean_33 rfl (k6 c1 c2 c4 c5 c6 c7)
  ·
    refine h_if_ne (tgt := 11) dX11_mean_4 (by decide) (fun c => absurd c (by decide)) (fun _ => ?_)
    refine h_ldc2 dX11_mean_7 wt_700 rfl ?_
    exact h_lret dX11_mean_10 rfl (k7 c3)
set_option maxHeartbeats 1000000 in
set_option maxRecDepth 20000 in
theorem sg_X11_mean_72 {E : HEn} {d : Nat} {Q : Option Value → HIh → Prop} {I : HIh} {s0 : Int64}
    (k1 : Q (some (.long s0)) I)
    : HGo E (mF E (d + 62) Q) me_X11_mean 72 [] [.long s0] I := by
  exact h_lret dX11_mean_72 rfl (k1)
set_option maxHeartbeats 1000000 in
set_option maxRecDepth 20000 in
theorem sg_X12_sunday_0 {E : HEn} {d : Nat} {Q : Option Value → HIh → Prop} {I : HIh} 
    (k1 : HCall E me_X12_fault (d + 7) [.ref 87] I (fun v9 J => HGo E (mF E (d + 8) Q) me_X12_sunday 4 [(0, .ref 87)] (v9.toList ++ []) J))
    : HGo E (mF E (d + 8) Q) me_X12_sunday 0 [(0, .ref 87)] [] I := by
  refine h_aload_n dX12_sunday_0 rfl 0 rfl ?_
  refine h_invV (As := []) (st := []) dX12_sunday_1 lk_X12_163 (h_room (by decide)) nl_87 zk_87 (by decide) rfl rfl rfl (Nat.le_of_ble_eq_true rfl) ?_
  exact k1
set_option maxHeartbeats 1000000 in
set_option maxRecDepth 20000 in
theorem sg_X12_sunday_4 {E : HEn} {d : Nat} {Q : Option Value → HIh → Prop} {I : HIh} {s0 : Int32}
    (k1 : s0 = (-1) → HGo E (mF E (d + 8) Q) me_X12_sunday 13 [(0, .ref 87), (1, .int 0)] [] I)
    (k2 : ¬ s0 = (-1) → Q (some (.int (-4))) I)
    : HGo E (mF E (d + 8) Q) me_X12_sunday 4 [(0, .ref 87)] [.int s0] I := by
  refine h_iconst (v := (-1)) dX12_sunday_4 (by decide) ?_
  refine h_icmp_eq (tgt := 11) dX12_sunday_5 (by decide) (fun c1 => ?_) (fun c1 => ?_)
  ·
    refine h_iconst (v := 0) dX12_sunday_11 (by decide) ?_
    refine h_istore_n (L' := [(1, .int 0), (0, .ref 87)]) dX12_sunday_12 rfl (by decide) rfl ?_
    refine h_pick [1, 0] [(0, .ref 87), (1, .int 0)] rfl ?_
    exact k1 c1
  ·
    refine h_bipush (v := (-4)) dX12_sunday_8 (by decide) ?_
    exact h_iret dX12_sunday_10 rfl (k2 c1)
set_option maxHeartbeats 1000000 in
set_option maxRecDepth 20000 in
theorem sg_X12_sunday_13 {E : HEn} {d : Nat} {Q : Option Value → HIh → Prop} {I : HIh} {x1 : Int32}
    (k1 : (I 87 5) ≤ x1 → HCall E me_X12_begin (d + 7) [.ref 87] I (fun v9 J => HGo E (mF E (d + 8) Q) me_X12_sunday 39 [(0, .ref 87)] (v9.toList ++ []) J))
    (k2 : ¬ (I 87 5) ≤ x1 → HCall E me_X12_tell (d + 7) [.ref 87, .int (12 * x1)] I (fun v9 J => HGo E (mF E (d + 8) Q) me_X12_sunday 29 [(0, .ref 87), (1, .int x1)] (v9.toList ++ []) J))
    : HGo E (mF E (d + 8) Q) me_X12_sunday 13 [(0, .ref 87), (1, .int x1)] [] I := by
  refine h_iload_n dX12_sunday_13 rfl 1 rfl ?_
  refine h_aload_n dX12_sunday_14 rfl 0 rfl ?_
  refine gf_10_5 dX12_sunday_15 hl_X12_118 nl_87 zk_87 ?_
  refine h_icmp_ge (tgt := 35) dX12_sunday_18 (by decide) (fun c1 => ?_) (fun c1 => ?_)
  ·
    refine h_aload_n dX12_sunday_35 rfl 0 rfl ?_
    refine h_pick [0] [(0, .ref 87)] rfl ?_
    refine h_invV (As := []) (st := []) dX12_sunday_36 lk_X12_169 (h_room (by decide)) nl_87 zk_87 (by decide) rfl rfl rfl (Nat.le_of_ble_eq_true rfl) ?_
    exact k1 c1
  ·
    refine h_aload_n dX12_sunday_21 rfl 0 rfl ?_
    refine h_bipush (v := 12) dX12_sunday_22 (by decide) ?_
    refine h_iload_n dX12_sunday_24 rfl 1 rfl ?_
    refine h_imul dX12_sunday_25 ?_
    refine h_invV (As := [.int (12 * x1)]) (st := []) dX12_sunday_26 lk_X12_166 (h_room (by decide)) nl_87 zk_87 (by decide) rfl rfl rfl (Nat.le_of_ble_eq_true rfl) ?_
    exact k2 c1
set_option maxHeartbeats 1000000 in
set_option maxRecDepth 20000 in
theorem sg_X12_sunday_39 {E : HEn} {d : Nat} {Q : Option Value → HIh → Prop} {I : HIh} 
    (k1 : Q (some (.int (I 87 5))) (setI (setI (setI (setI I 87 (upd (I 87) 27 0)) 89 (upd (I 89) 0 0)) 89 (upd (upd (I 89) 0 0) 1 0)) 87 (upd (upd (I 87) 27 0) 3 0)))
    : HGo E (mF E (d + 8) Q) me_X12_sunday 39 [(0, .ref 87)] [] I := by
  refine h_aload_n dX12_sunday_39 rfl 0 rfl ?_
  refine h_iconst (v := 0) dX12_sunday_40 (by decide) ?_
  refine pf_10_27 dX12_sunday_41 hl_X12_172 nl_87 zk_87 ?_
  refine h_aload_n dX12_sunday_44 rfl 0 rfl ?_
  refine gf_10_1 dX12_sunday_45 hl_X12_13 nl_87 zk_87 zp_87_1 ?_
  refine h_iconst (v := 0) dX12_sunday_48 (by decide) ?_
  refine h_iconst (v := 0) dX12_sunday_49 (by decide) ?_
  refine h_zast dX12_sunday_50 nl_89 zk_89 (vp_lit (by rw [zn_89]; decide)) rfl ?_
  refine h_aload_n dX12_sunday_51 rfl 0 rfl ?_
  refine gf_10_1 dX12_sunday_52 hl_X12_13 nl_87 zk_87 zp_87_1 ?_
  refine h_iconst (v := 1) dX12_sunday_55 (by decide) ?_
  refine h_iconst (v := 0) dX12_sunday_56 (by decide) ?_
  refine h_zast dX12_sunday_57 nl_89 zk_89 (vp_lit (by rw [zn_89]; decide)) rfl ?_
  refine h_aload_n dX12_sunday_58 rfl 0 rfl ?_
  refine h_iconst (v := 0) dX12_sunday_59 (by decide) ?_
  refine pf_10_3 dX12_sunday_60 hl_X12_66 nl_87 zk_87 ?_
  refine h_aload_n dX12_sunday_63 rfl 0 rfl ?_
  refine gf_10_5 dX12_sunday_64 hl_X12_118 nl_87 zk_87 ?_
  exact h_iret dX12_sunday_67 rfl (k1)
set_option maxHeartbeats 1000000 in
set_option maxRecDepth 20000 in
theorem sg_X12_sunday_29 {E : HEn} {d : Nat} {Q : Option Value → HIh → Prop} {I : HIh} {x1 : Int32}
    (k1 : HGo E (mF E (d + 8) Q) me_X12_sunday 13 [(0, .ref 87), (1, .int (x1 + 1))] [] I)
    : HGo E (mF E (d + 8) Q) me_X12_sunday 29 [(0, .ref 87), (1, .int x1)] [] I := by
  refine h_iinc (v := (x1 + 1)) (L' := [(1, .int (x1 + 1)), (0, .ref 87)]) dX12_sunday_29 1 rfl rfl (by decide) rfl ?_
  refine h_goto (tgt := 13) dX12_sunday_32 (by decide) ?_
  refine h_pick [1, 0] [(0, .ref 87), (1, .int (x1 + 1))] rfl ?_
  exact k1
set_option maxHeartbeats 1000000 in
set_option maxRecDepth 20000 in
theorem sg_X12_plan_0 {E : HEn} {d : Nat} {Q : Option Value → HIh → Prop} {I : HIh} {a : Int32} {b : Int32}
    (k1 : (0 : Int32) ≤ a → a < 4 → (-1) ≤ b → HCall E me_X12_leftOf (d + 6) [.ref 87, .int ((1 : Int32) <<< (a &&& 31))] I (fun v9 J => HGo E (mF E (d + 7) Q) me_X12_plan 25 [(0, .ref 87), (1, .int a), (2, .int b)] (v9.toList ++ []) J))
    (k2 : (0 : Int32) ≤ a → a < 4 → ¬ (-1) ≤ b → Q (some (.int (-3))) I)
    (k3 : ¬ ((0 : Int32) ≤ a ∧ a < 4) → Q (some (.int (-2))) I)
    : HGo E (mF E (d + 7) Q) me_X12_plan 0 [(0, .ref 87), (1, .int a), (2, .int b)] [] I := by
  refine h_iload_n dX12_plan_0 rfl 1 rfl ?_
  refine h_invS (As := [.int a]) (st := []) dX12_plan_1 lk_X12_180 (h_room (by decide)) rfl rfl (Nat.le_of_ble_eq_true rfl) ?_
  refine c_X12_isPerson (fun c1 c2 => ?_) (fun c3 => ?_)
  ·
    refine h_if_ne (tgt := 10) dX12_plan_4 (by decide) (fun _ => ?_) (fun c => absurd c (by decide))
    refine h_iload_n dX12_plan_10 rfl 2 rfl ?_
    refine h_iconst (v := (-1)) dX12_plan_11 (by decide) ?_
    refine h_icmp_ge (tgt := 18) dX12_plan_12 (by decide) (fun c4 => ?_) (fun c4 => ?_)
    ·
      refine h_aload_n dX12_plan_18 rfl 0 rfl ?_
      refine h_iconst (v := 1) dX12_plan_19 (by decide) ?_
      refine h_iload_n dX12_plan_20 rfl 1 rfl ?_
      refine h_ishl dX12_plan_21 ?_
      refine h_invV (As := [.int ((1 : Int32) <<< (a &&& 31))]) (st := []) dX12_plan_22 lk_X12_190 (h_room (by decide)) nl_87 zk_87 (by decide) rfl rfl rfl (Nat.le_of_ble_eq_true rfl) ?_
      exact k1 c1 c2 c4
    ·
      refine h_bipush (v := (-3)) dX12_plan_15 (by decide) ?_
      exact h_iret dX12_plan_17 rfl (k2 c1 c2 c4)
  ·
    refine h_if_ne (tgt := 10) dX12_plan_4 (by decide) (fun c => absurd c (by decide)) (fun _ => ?_)
    refine h_bipush (v := (-2)) dX12_plan_7 (by decide) ?_
    exact h_iret dX12_plan_9 rfl (k3 c3)
set_option maxHeartbeats 1000000 in
set_option maxRecDepth 20000 in
theorem sg_X12_plan_25 {E : HEn} {d : Nat} {Q : Option Value → HIh → Prop} {I : HIh} {x1 : Int32} {x2 : Int32} {s0 : Int32}
    (k1 : s0 ≤ 5 → HCall E me_X12_layPlan (d + 6) [.ref 87, .int ((1 : Int32) <<< (x1 &&& 31)), .int s0] I (fun v9 J => HGo E (mF E (d + 7) Q) me_X12_plan 42 [(0, .ref 87), (2, .int x2), (3, .int s0)] (v9.toList ++ []) J))
    (k2 : ¬ s0 ≤ 5 → Q (some (.int (-4))) I)
    : HGo E (mF E (d + 7) Q) me_X12_plan 25 [(0, .ref 87), (1, .int x1), (2, .int x2)] [.int s0] I := by
  refine h_istore_n (L' := [(3, .int s0), (0, .ref 87), (1, .int x1), (2, .int x2)]) dX12_plan_25 rfl (by decide) rfl ?_
  refine h_iload_n dX12_plan_26 rfl 0 rfl ?_
  refine h_iconst (v := 5) dX12_plan_27 (by decide) ?_
  refine h_icmp_le (tgt := 34) dX12_plan_28 (by decide) (fun c1 => ?_) (fun c1 => ?_)
  ·
    refine h_aload_n dX12_plan_34 rfl 1 rfl ?_
    refine h_iconst (v := 1) dX12_plan_35 (by decide) ?_
    refine h_iload_n dX12_plan_36 rfl 2 rfl ?_
    refine h_ishl dX12_plan_37 ?_
    refine h_iload_n dX12_plan_38 rfl 0 rfl ?_
    refine h_pick [1, 3, 0] [(0, .ref 87), (2, .int x2), (3, .int s0)] rfl ?_
    refine h_invV (As := [.int ((1 : Int32) <<< (x1 &&& 31)), .int s0]) (st := []) dX12_plan_39 lk_X12_238 (h_room (by decide)) nl_87 zk_87 (by decide) rfl rfl rfl (Nat.le_of_ble_eq_true rfl) ?_
    exact k1 c1
  ·
    refine h_bipush (v := (-4)) dX12_plan_31 (by decide) ?_
    exact h_iret dX12_plan_33 rfl (k2 c1)
set_option maxHeartbeats 1000000 in
set_option maxRecDepth 20000 in
theorem sg_X12_plan_42 {E : HEn} {d : Nat} {Q : Option Value → HIh → Prop} {I : HIh} {x2 : Int32} {x3 : Int32}
    (k1 : ¬ x2 = (-1) → x3 ≤ x2 → Q (some (.int (-1))) I)
    (k2 : ¬ x2 = (-1) → ¬ x3 ≤ x2 → HCall E me_X12_powerOf (d + 6) [.int ((x3 - 1) - x2)] I (fun v9 J => HGo E (mF E (d + 7) Q) me_X12_plan 71 [] (v9.toList ++ [.int (I 87 21)]) J))
    (k3 : x2 = (-1) → Q (some (.int (I 87 20))) I)
    : HGo E (mF E (d + 7) Q) me_X12_plan 42 [(0, .ref 87), (2, .int x2), (3, .int x3)] [] I := by
  refine h_iload_n dX12_plan_42 rfl 1 rfl ?_
  refine h_iconst (v := (-1)) dX12_plan_43 (by decide) ?_
  refine h_icmp_ne (tgt := 54) dX12_plan_44 (by decide) (fun c1 => ?_) (fun c1 => ?_)
  ·
    refine h_iload_n dX12_plan_54 rfl 1 rfl ?_
    refine h_iload_n dX12_plan_55 rfl 2 rfl ?_
    refine h_icmp_ge (tgt := 78) dX12_plan_56 (by decide) (fun c2 => ?_) (fun c2 => ?_)
    ·
      refine h_iconst (v := (-1)) dX12_plan_78 (by decide) ?_
      exact h_iret dX12_plan_79 rfl (k1 c1 c2)
    ·
      refine h_aload_n dX12_plan_59 rfl 0 rfl ?_
      refine gf_10_21 dX12_plan_60 hl_X12_231 nl_87 zk_87 ?_
      refine h_iload_n dX12_plan_63 rfl 2 rfl ?_
      refine h_iconst (v := 1) dX12_plan_64 (by decide) ?_
      refine h_isub dX12_plan_65 ?_
      refine h_iload_n dX12_plan_66 rfl 1 rfl ?_
      refine h_isub dX12_plan_67 ?_
      refine h_pick [] [] rfl ?_
      refine h_invS (As := [.int ((x3 - 1) - x2)]) (st := [.int (I 87 21)]) dX12_plan_68 lk_X12_225 (h_room (by decide)) rfl rfl (Nat.le_of_ble_eq_true rfl) ?_
      exact k2 c1 c2
  ·
    refine h_aload_n dX12_plan_47 rfl 0 rfl ?_
    refine gf_10_20 dX12_plan_48 hl_X12_228 nl_87 zk_87 ?_
    refine h_goto (tgt := 79) dX12_plan_51 (by decide) ?_
    exact h_iret dX12_plan_79 rfl (k3 c1)
set_option maxHeartbeats 1000000 in
set_option maxRecDepth 20000 in
theorem sg_X12_plan_71 {E : HEn} {d : Nat} {Q : Option Value → HIh → Prop} {I : HIh} {s0 : Int32} {s1 : Int32}
    (k1 : ¬ s0 = 0)
    (k2 : Q (some (.int ((s1 / s0) - (s1 / s0) / 7 * 7))) I)
    : HGo E (mF E (d + 7) Q) me_X12_plan 71 [] [.int s0, .int s1] I := by
  refine h_idiv dX12_plan_71 (k1) ?_
  refine h_bipush (v := 7) dX12_plan_72 (by decide) ?_
  refine h_irem dX12_plan_74 (by decide) ?_
  refine h_goto (tgt := 79) dX12_plan_75 (by decide) ?_
  exact h_iret dX12_plan_79 rfl (k2)
set_option maxHeartbeats 1000000 in
set_option maxRecDepth 20000 in
theorem sg_X12_league_0 {E : HEn} {d : Nat} {Q : Option Value → HIh → Prop} {I : HIh} {a : Int32} {b : Int32}
    (k1 : (0 : Int32) ≤ a → a < 4 → (0 : Int32) ≤ b → b < 4 → ¬ a = b → HCall E me_X12_leftOf (d + 6) [.ref 87, .int (((1 : Int32) <<< (a &&& 31)) ||| ((1 : Int32) <<< (b &&& 31)))] I (fun v9 J => HGo E (mF E (d + 7) Q) me_X12_league 38 [(0, .ref 87), (3, .int (((1 : Int32) <<< (a &&& 31)) ||| ((1 : Int32) <<< (b &&& 31))))] (v9.toList ++ []) J))
    (k2 : (0 : Int32) ≤ a → a < 4 → (0 : Int32) ≤ b → b < 4 → a = b → Q (some (.int (-3))) I)
    (k3 : (0 : Int32) ≤ a → a < 4 → ¬ ((0 : Int32) ≤ b ∧ b < 4) → Q (some (.int (-2))) I)
    (k4 : ¬ ((0 : Int32) ≤ a ∧ a < 4) → Q (some (.int (-2))) I)
    : HGo E (mF E (d + 7) Q) me_X12_league 0 [(0, .ref 87), (1, .int a), (2, .int b)] [] I := by
  refine h_iload_n dX12_league_0 rfl 1 rfl ?_
  refine h_invS (As := [.int a]) (st := []) dX12_league_1 lk_X12_180 (h_room (by decide)) rfl rfl (Nat.le_of_ble_eq_true rfl) ?_
  refine c_X12_isPerson (fun c1 c2 => ?_) (fun c3 => ?_)
  ·
    refine h_if_eq (tgt := 14) dX12_league_4 (by decide) (fun c => absurd c (by decide)) (fun _ => ?_)
    refine h_iload_n dX12_league_7 rfl 2 rfl ?_
    refine h_invS (As := [.int b]) (st := []) dX12_league_8 lk_X12_180 (h_room (by decide)) rfl rfl (Nat.le_of_ble_eq_true rfl) ?_
    refine c_X12_isPerson (fun c4 c5 => ?_) (fun c6 => ?_)
    ·
      refine h_if_ne (tgt := 17) dX12_league_11 (by decide) (fun _ => ?_) (fun c => absurd c (by decide))
      refine h_iload_n dX12_league_17 rfl 1 rfl ?_
      refine h_iload_n dX12_league_18 rfl 2 rfl ?_
      refine h_icmp_ne (tgt := 25) dX12_league_19 (by decide) (fun c7 => ?_) (fun c7 => ?_)
      ·
        refine h_iconst (v := 1) dX12_league_25 (by decide) ?_
        refine h_iload_n dX12_league_26 rfl 1 rfl ?_
        refine h_ishl dX12_league_27 ?_
        refine h_iconst (v := 1) dX12_league_28 (by decide) ?_
        refine h_iload_n dX12_league_29 rfl 2 rfl ?_
        refine h_ishl dX12_league_30 ?_
        refine h_ior dX12_league_31 ?_
        refine h_istore_n (L' := [(3, .int (((1 : Int32) <<< (a &&& 31)) ||| ((1 : Int32) <<< (b &&& 31)))), (0, .ref 87), (1, .int a), (2, .int b)]) dX12_league_32 rfl (by decide) rfl ?_
        refine h_aload_n dX12_league_33 rfl 1 rfl ?_
        refine h_iload_n dX12_league_34 rfl 0 rfl ?_
        refine h_pick [1, 0] [(0, .ref 87), (3, .int (((1 : Int32) <<< (a &&& 31)) ||| ((1 : Int32) <<< (b &&& 31))))] rfl ?_
        refine h_invV (As := [.int (((1 : Int32) <<< (a &&& 31)) ||| ((1 : Int32) <<< (b &&& 31)))]) (st := []) dX12_league_35 lk_X12_190 (h_room (by decide)) nl_87 zk_87 (by decide) rfl rfl rfl (Nat.le_of_ble_eq_true rfl) ?_
        exact k1 c1 c2 c4 c5 c7
      ·
        refine h_bipush (v := (-3)) dX12_league_22 (by decide) ?_
        exact h_iret dX12_league_24 rfl (k2 c1 c2 c4 c5 c7)
    ·
      refine h_if_ne (tgt := 17) dX12_league_11 (by decide) (fun c => absurd c (by decide)) (fun _ => ?_)
      refine h_bipush (v := (-2)) dX12_league_14 (by decide) ?_
      exact h_iret dX12_league_16 rfl (k3 c1 c2 c6)
  ·
    refine h_if_eq (tgt := 14) dX12_league_4 (by decide) (fun _ => ?_) (fun c => absurd c (by decide))
    refine h_bipush (v := (-2)) dX12_league_14 (by decide) ?_
    exact h_iret dX12_league_16 rfl (k4 c3)
set_option maxHeartbeats 1000000 in
set_option maxRecDepth 20000 in
theorem sg_X12_league_38 {E : HEn} {d : Nat} {Q : Option Value → HIh → Prop} {I : HIh} {x3 : Int32} {s0 : Int32}
    (k1 : s0 ≤ 5 → HCall E me_X12_layPlan (d + 6) [.ref 87, .int x3, .int s0] I (fun v9 J => HGo E (mF E (d + 7) Q) me_X12_league 56 [(0, .ref 87)] (v9.toList ++ []) J))
    (k2 : ¬ s0 ≤ 5 → Q (some (.int (-4))) I)
    : HGo E (mF E (d + 7) Q) me_X12_league 38 [(0, .ref 87), (3, .int x3)] [.int s0] I := by
  refine h_istore (L' := [(4, .int s0), (0, .ref 87), (3, .int x3)]) dX12_league_38 (by decide) rfl ?_
  refine h_iload dX12_league_40 0 rfl ?_
  refine h_iconst (v := 5) dX12_league_42 (by decide) ?_
  refine h_icmp_le (tgt := 49) dX12_league_43 (by decide) (fun c1 => ?_) (fun c1 => ?_)
  ·
    refine h_aload_n dX12_league_49 rfl 1 rfl ?_
    refine h_iload_n dX12_league_50 rfl 2 rfl ?_
    refine h_iload dX12_league_51 0 rfl ?_
    refine h_pick [1] [(0, .ref 87)] rfl ?_
    refine h_invV (As := [.int x3, .int s0]) (st := []) dX12_league_53 lk_X12_238 (h_room (by decide)) nl_87 zk_87 (by decide) rfl rfl rfl (Nat.le_of_ble_eq_true rfl) ?_
    exact k1 c1
  ·
    refine h_bipush (v := (-4)) dX12_league_46 (by decide) ?_
    exact h_iret dX12_league_48 rfl (k2 c1)
set_option maxHeartbeats 1000000 in
set_option maxRecDepth 20000 in
theorem sg_X12_league_56 {E : HEn} {d : Nat} {Q : Option Value → HIh → Prop} {I : HIh} 
    (k1 : Q (some (.int (I 87 20))) I)
    : HGo E (mF E (d + 7) Q) me_X12_league 56 [(0, .ref 87)] [] I := by
  refine h_aload_n dX12_league_56 rfl 0 rfl ?_
  refine gf_10_20 dX12_league_57 hl_X12_228 nl_87 zk_87 ?_
  exact h_iret dX12_league_60 rfl (k1)
