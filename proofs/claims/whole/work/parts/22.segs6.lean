set_option maxHeartbeats 1000000 in
set_option maxRecDepth 20000 in
theorem sg_X7_readOver_0 {E : HEn} {d : Nat} {Q : Option Value → HIh → Prop} {I : HIh} 
    (k1 : HCall E me_X9_copyFrom (d + 5) [.ref 21, .ref 1] I (fun v9 J => HGo E (mF E (d + 6) Q) me_X7_readOver 8 [(0, .ref 19)] (v9.toList ++ []) J))
    : HGo E (mF E (d + 6) Q) me_X7_readOver 0 [(0, .ref 19), (1, .ref 1)] [] I := by
  refine h_aload_n dX7_readOver_0 rfl 0 rfl ?_
  refine gf_6_1 dX7_readOver_1 hl_X7_18 nl_19 zk_19 zp_19_1 ?_
  refine h_aload_n dX7_readOver_4 rfl 1 rfl ?_
  refine h_pick [0] [(0, .ref 19)] rfl ?_
  refine h_invV (As := [.ref 1]) (st := []) dX7_readOver_5 lk_X7_26 (h_room (by decide)) nl_21 zk_21 (by decide) rfl rfl rfl (Nat.le_of_ble_eq_true rfl) ?_
  exact k1
set_option maxHeartbeats 1000000 in
set_option maxRecDepth 20000 in
theorem sg_X7_readOver_8 {E : HEn} {d : Nat} {Q : Option Value → HIh → Prop} {I : HIh} 
    (k1 : HCall E me_X7_nextToken (d + 5) [.ref 19] (setI I 19 (upd (I 19) 5 0)) (fun v9 J => HGo E (mF E (d + 6) Q) me_X7_readOver 17 [(0, .ref 19)] (v9.toList ++ []) J))
    : HGo E (mF E (d + 6) Q) me_X7_readOver 8 [(0, .ref 19)] [] I := by
  refine h_aload_n dX7_readOver_8 rfl 0 rfl ?_
  refine h_iconst (v := 0) dX7_readOver_9 (by decide) ?_
  refine pf_6_5 dX7_readOver_10 hl_X7_30 nl_19 zk_19 ?_
  refine h_aload_n dX7_readOver_13 rfl 0 rfl ?_
  refine h_invV (As := []) (st := []) dX7_readOver_14 lk_X7_33 (h_room (by decide)) nl_19 zk_19 (by decide) rfl rfl rfl (Nat.le_of_ble_eq_true rfl) ?_
  exact k1
set_option maxHeartbeats 1000000 in
set_option maxRecDepth 20000 in
theorem sg_X7_readOver_17 {E : HEn} {d : Nat} {Q : Option Value → HIh → Prop} {I : HIh} 
    (k1 : HGo E (mF E (d + 6) Q) me_X7_readOver 22 [(0, .ref 19)] [] (setI I 19 (upd (I 19) 3 1)))
    : HGo E (mF E (d + 6) Q) me_X7_readOver 17 [(0, .ref 19)] [] I := by
  refine h_aload_n dX7_readOver_17 rfl 0 rfl ?_
  refine h_iconst (v := 1) dX7_readOver_18 (by decide) ?_
  refine pf_6_3 dX7_readOver_19 hl_X7_36 nl_19 zk_19 ?_
  exact k1
set_option maxHeartbeats 1000000 in
set_option maxRecDepth 20000 in
theorem sg_X7_readOver_22 {E : HEn} {d : Nat} {Q : Option Value → HIh → Prop} {I : HIh} 
    (k1 : 10 < (I 19 3) → Q (some (.int (I 19 4))) I)
    (k2 : ¬ 10 < (I 19 3) → HCall E me_X7_readLine (d + 5) [.ref 19] I (fun v9 J => HGo E (mF E (d + 6) Q) me_X7_readOver 35 [(0, .ref 19)] (v9.toList ++ []) J))
    : HGo E (mF E (d + 6) Q) me_X7_readOver 22 [(0, .ref 19)] [] I := by
  refine h_aload_n dX7_readOver_22 rfl 0 rfl ?_
  refine gf_6_3 dX7_readOver_23 hl_X7_36 nl_19 zk_19 ?_
  refine h_bipush (v := 10) dX7_readOver_26 (by decide) ?_
  refine h_icmp_gt (tgt := 90) dX7_readOver_28 (by decide) (fun c1 => ?_) (fun c1 => ?_)
  ·
    refine h_aload_n dX7_readOver_90 rfl 0 rfl ?_
    refine gf_6_4 dX7_readOver_91 hl_X7_43 nl_19 zk_19 ?_
    exact h_iret dX7_readOver_94 rfl (k1 c1)
  ·
    refine h_aload_n dX7_readOver_31 rfl 0 rfl ?_
    refine h_invV (As := []) (st := []) dX7_readOver_32 lk_X7_39 (h_room (by decide)) nl_19 zk_19 (by decide) rfl rfl rfl (Nat.le_of_ble_eq_true rfl) ?_
    exact k2 c1
set_option maxHeartbeats 1000000 in
set_option maxRecDepth 20000 in
theorem sg_X7_readOver_35 {E : HEn} {d : Nat} {Q : Option Value → HIh → Prop} {I : HIh} {s0 : Int32}
    (k1 : ¬ s0 = 0 → ¬ (I 19 6) = 0 → HCall E me_X7_isSemicolon (d + 5) [.ref 19] I (fun v9 J => HGo E (mF E (d + 6) Q) me_X7_readOver 56 [(0, .ref 19)] (v9.toList ++ []) J))
    (k2 : ¬ s0 = 0 → (I 19 6) = 0 → Q (some (.int (-1))) I)
    (k3 : s0 = 0 → Q (some (.int (I 19 4))) I)
    : HGo E (mF E (d + 6) Q) me_X7_readOver 35 [(0, .ref 19)] [.int s0] I := by
  refine h_if_ne (tgt := 43) dX7_readOver_35 (by decide) (fun c1 => ?_) (fun c1 => ?_)
  ·
    refine h_aload_n dX7_readOver_43 rfl 0 rfl ?_
    refine gf_6_6 dX7_readOver_44 hl_X7_46 nl_19 zk_19 ?_
    refine h_if_ne (tgt := 52) dX7_readOver_47 (by decide) (fun c2 => ?_) (fun c2 => ?_)
    ·
      refine h_aload_n dX7_readOver_52 rfl 0 rfl ?_
      refine h_invV (As := []) (st := []) dX7_readOver_53 lk_X7_49 (h_room (by decide)) nl_19 zk_19 (by decide) rfl rfl rfl (Nat.le_of_ble_eq_true rfl) ?_
      exact k1 c1 c2
    ·
      refine h_iconst (v := (-1)) dX7_readOver_50 (by decide) ?_
      exact h_iret dX7_readOver_51 rfl (k2 c1 c2)
  ·
    refine h_aload_n dX7_readOver_38 rfl 0 rfl ?_
    refine gf_6_4 dX7_readOver_39 hl_X7_43 nl_19 zk_19 ?_
    exact h_iret dX7_readOver_42 rfl (k3 c1)
set_option maxHeartbeats 1000000 in
set_option maxRecDepth 20000 in
theorem sg_X7_readOver_56 {E : HEn} {d : Nat} {Q : Option Value → HIh → Prop} {I : HIh} {s0 : Int32}
    (k1 : s0 = 0 → Q (some (.int (I 19 4))) I)
    (k2 : ¬ s0 = 0 → ¬ (I 19 3) = 10 → HCall E me_X7_nextToken (d + 5) [.ref 19] I (fun v9 J => HGo E (mF E (d + 6) Q) me_X7_readOver 77 [(0, .ref 19)] (v9.toList ++ []) J))
    (k3 : ¬ s0 = 0 → (I 19 3) = 10 → Q (some (.int (I 19 4))) I)
    : HGo E (mF E (d + 6) Q) me_X7_readOver 56 [(0, .ref 19)] [.int s0] I := by
  refine h_if_eq (tgt := 68) dX7_readOver_56 (by decide) (fun c1 => ?_) (fun c1 => ?_)
  ·
    refine h_aload_n dX7_readOver_68 rfl 0 rfl ?_
    refine gf_6_4 dX7_readOver_69 hl_X7_43 nl_19 zk_19 ?_
    exact h_iret dX7_readOver_72 rfl (k1 c1)
  ·
    refine h_aload_n dX7_readOver_59 rfl 0 rfl ?_
    refine gf_6_3 dX7_readOver_60 hl_X7_36 nl_19 zk_19 ?_
    refine h_bipush (v := 10) dX7_readOver_63 (by decide) ?_
    refine h_icmp_ne (tgt := 73) dX7_readOver_65 (by decide) (fun c2 => ?_) (fun c2 => ?_)
    ·
      refine h_aload_n dX7_readOver_73 rfl 0 rfl ?_
      refine h_invV (As := []) (st := []) dX7_readOver_74 lk_X7_33 (h_room (by decide)) nl_19 zk_19 (by decide) rfl rfl rfl (Nat.le_of_ble_eq_true rfl) ?_
      exact k2 c1 c2
    ·
      refine h_aload_n dX7_readOver_68 rfl 0 rfl ?_
      refine gf_6_4 dX7_readOver_69 hl_X7_43 nl_19 zk_19 ?_
      exact h_iret dX7_readOver_72 rfl (k3 c1 c2)
set_option maxHeartbeats 1000000 in
set_option maxRecDepth 20000 in
theorem sg_X7_readOver_77 {E : HEn} {d : Nat} {Q : Option Value → HIh → Prop} {I : HIh} 
    (k1 : HGo E (mF E (d + 6) Q) me_X7_readOver 22 [(0, .ref 19)] [] (setI I 19 (upd (I 19) 3 ((I 19 3) + 1))))
    : HGo E (mF E (d + 6) Q) me_X7_readOver 77 [(0, .ref 19)] [] I := by
  refine h_aload_n dX7_readOver_77 rfl 0 rfl ?_
  refine h_dup dX7_readOver_78 rfl ?_
  refine gf_6_3 dX7_readOver_79 hl_X7_36 nl_19 zk_19 ?_
  refine h_iconst (v := 1) dX7_readOver_82 (by decide) ?_
  refine h_iadd dX7_readOver_83 ?_
  refine pf_6_3 dX7_readOver_84 hl_X7_36 nl_19 zk_19 ?_
  refine h_goto (tgt := 22) dX7_readOver_87 (by decide) ?_
  exact k1
set_option maxHeartbeats 1000000 in
set_option maxRecDepth 20000 in
theorem sg_X2_foresee_0 {E : HEn} {d : Nat} {Q : Option Value → HIh → Prop} {I : HIh} {h : Nat} {z : Int32} (a_h : h < NL) (b_h : Zk h = 3)
    (k1 : ¬ (I 32 4) = z → HGo E (mF E (d + 41) Q) me_X2_foresee 24 [(0, .ref 32), (1, .ref h), (3, .int ((setI (setI I 32 (upd (I 32) 4 z)) 32 (upd (upd (I 32) 4 z) 5 0)) h 1))] [] (setI (setI I 32 (upd (I 32) 4 z)) 32 (upd (upd (I 32) 4 z) 5 0)))
    (k2 : (I 32 4) = z → Q none I)
    : HGo E (mF E (d + 41) Q) me_X2_foresee 0 [(0, .ref 32), (1, .ref h), (2, .int z)] [] I := by
  refine h_aload_n dX2_foresee_0 rfl 0 rfl ?_
  refine gf_1_4 dX2_foresee_1 hl_X2_25 nl_32 zk_32 ?_
  refine h_iload_n dX2_foresee_4 rfl 2 rfl ?_
  refine h_icmp_ne (tgt := 9) dX2_foresee_5 (by decide) (fun c1 => ?_) (fun c1 => ?_)
  ·
    refine h_aload_n dX2_foresee_9 rfl 0 rfl ?_
    refine h_iload_n dX2_foresee_10 rfl 2 rfl ?_
    refine pf_1_4 dX2_foresee_11 hl_X2_25 nl_32 zk_32 ?_
    refine h_aload_n dX2_foresee_14 rfl 0 rfl ?_
    refine h_iconst (v := 0) dX2_foresee_15 (by decide) ?_
    refine pf_1_5 dX2_foresee_16 hl_X2_34 nl_32 zk_32 ?_
    refine h_aload_n dX2_foresee_19 rfl 1 rfl ?_
    refine gf_3_1 dX2_foresee_20 hl_X2_37 a_h b_h ?_
    refine h_istore_n (L' := [(3, .int ((setI (setI I 32 (upd (I 32) 4 z)) 32 (upd (upd (I 32) 4 z) 5 0)) h 1)), (0, .ref 32), (1, .ref h), (2, .int z)]) dX2_foresee_23 rfl (by decide) rfl ?_
    refine h_pick [1, 2, 0] [(0, .ref 32), (1, .ref h), (3, .int ((setI (setI I 32 (upd (I 32) 4 z)) 32 (upd (upd (I 32) 4 z) 5 0)) h 1))] rfl ?_
    exact k1 c1
  ·
    exact h_vret dX2_foresee_8 rfl (k2 c1)
set_option maxHeartbeats 1000000 in
set_option maxRecDepth 20000 in
theorem sg_X2_foresee_24 {E : HEn} {d : Nat} {Q : Option Value → HIh → Prop} {I : HIh} {h c : Nat} {x3 : Int32} (a_h : h < NL) (b_h : Zk h = 3) (p_h : Zp h 0 = c) (a_c : c < NL) (b_c : Zk c = 11) (n_c : Zn c = 30)
    (k1 : (I 1 10) ≤ x3 → HCall E me_X2_playOn (d + 40) [.ref 32, .int 0] (setI (setI I 35 (va_cpy (I c) (I 35) 0 0 30)) 34 (upd (I 34) 1 ((setI I 35 (va_cpy (I c) (I 35) 0 0 30)) h 1))) (fun v9 J => HGo E (mF E (d + 41) Q) me_X2_foresee 85 [] (v9.toList ++ []) J))
    (k2 : ¬ (I 1 10) ≤ x3 → (fFree (I 32 4) (fVis (I 1 10) (I 9) x3)) = 0 → HGo E (mF E (d + 41) Q) me_X2_foresee 24 [(0, .ref 32), (1, .ref h), (3, .int (x3 + 1))] [] (setI I 32 (upd (I 32) 5 ((I 32 5) + 0))))
    (k3 : ¬ (I 1 10) ≤ x3 → ¬ (fFree (I 32 4) (fVis (I 1 10) (I 9) x3)) = 0 → HGo E (mF E (d + 41) Q) me_X2_foresee 24 [(0, .ref 32), (1, .ref h), (3, .int (x3 + 1))] [] (setI I 32 (upd (I 32) 5 ((I 32 5) + 1))))
    : HGo E (mF E (d + 41) Q) me_X2_foresee 24 [(0, .ref 32), (1, .ref h), (3, .int x3)] [] I := by
  refine h_iload_n dX2_foresee_24 rfl 2 rfl ?_
  refine h_aload_n dX2_foresee_25 rfl 0 rfl ?_
  refine gf_1_0 dX2_foresee_26 hl_X2_29 nl_32 zk_32 zp_32_0 ?_
  refine gf_7_10 dX2_foresee_29 hl_X2_40 nl_1 zk_1 ?_
  refine h_icmp_ge (tgt := 70) dX2_foresee_32 (by decide) (fun c1 => ?_) (fun c1 => ?_)
  ·
    refine h_aload_n dX2_foresee_70 rfl 0 rfl ?_
    refine gf_1_1 dX2_foresee_71 hl_X2_13 nl_32 zk_32 zp_32_1 ?_
    refine h_iconst (v := 0) dX2_foresee_74 (by decide) ?_
    refine h_aald13z dX2_foresee_75 nl_33 zk_33 (vp_lit (by rw [zn_33]; decide)) zp_33_0 ?_
    refine h_aload_n dX2_foresee_76 rfl 1 rfl ?_
    refine h_invV (As := [.ref h]) (st := []) dX2_foresee_77 lk_X2_53 (h_room (by decide)) nl_34 zk_34 (by decide) rfl rfl rfl (Nat.le_of_ble_eq_true rfl) ?_
    refine c_X4_copyFrom nl_34 zk_34 zp_34_0 nl_35 zk_35 zn_35 a_h b_h p_h a_c b_c n_c ?_
    refine h_aload_n dX2_foresee_80 rfl 0 rfl ?_
    refine h_iconst (v := 0) dX2_foresee_81 (by decide) ?_
    refine h_pick [] [] rfl ?_
    refine h_invS (As := [.ref 32, .int 0]) (st := []) dX2_foresee_82 lk_X2_57 (h_room (by decide)) rfl rfl (Nat.le_of_ble_eq_true rfl) ?_
    exact k1 c1
  ·
    refine h_aload_n dX2_foresee_35 rfl 0 rfl ?_
    refine h_dup dX2_foresee_36 rfl ?_
    refine gf_1_5 dX2_foresee_37 hl_X2_34 nl_32 zk_32 ?_
    refine h_aload_n dX2_foresee_40 rfl 0 rfl ?_
    refine h_aload_n dX2_foresee_41 rfl 0 rfl ?_
    refine gf_1_0 dX2_foresee_42 hl_X2_29 nl_32 zk_32 zp_32_0 ?_
    refine h_iload_n dX2_foresee_45 rfl 2 rfl ?_
    refine h_invV (As := [.int x3]) (st := [.ref 32, .int (I 32 5), .ref 32]) dX2_foresee_46 lk_X2_45 (h_room (by decide)) nl_1 zk_1 (by decide) rfl rfl rfl (Nat.le_of_ble_eq_true rfl) ?_
    refine c_X9_visitor ?_
    refine h_invV (As := [.int (fVis (I 1 10) (I 9) x3)]) (st := [.int (I 32 5), .ref 32]) dX2_foresee_49 lk_X2_49 (h_room (by decide)) nl_32 zk_32 (by decide) rfl rfl rfl (Nat.le_of_ble_eq_true rfl) ?_
    refine c_X2_isFree ?_
    refine h_if_eq (tgt := 59) dX2_foresee_52 (by decide) (fun c2 => ?_) (fun c2 => ?_)
    ·
      refine h_iconst (v := 0) dX2_foresee_59 (by decide) ?_
      refine h_iadd dX2_foresee_60 ?_
      refine pf_1_5 dX2_foresee_61 hl_X2_34 nl_32 zk_32 ?_
      refine h_iinc (v := (x3 + 1)) (L' := [(3, .int (x3 + 1)), (0, .ref 32), (1, .ref h)]) dX2_foresee_64 2 rfl rfl (by decide) rfl ?_
      refine h_goto (tgt := 24) dX2_foresee_67 (by decide) ?_
      refine h_pick [1, 2, 0] [(0, .ref 32), (1, .ref h), (3, .int (x3 + 1))] rfl ?_
      exact k2 c1 c2
    ·
      refine h_iconst (v := 1) dX2_foresee_55 (by decide) ?_
      refine h_goto (tgt := 60) dX2_foresee_56 (by decide) ?_
      refine h_iadd dX2_foresee_60 ?_
      refine pf_1_5 dX2_foresee_61 hl_X2_34 nl_32 zk_32 ?_
      refine h_iinc (v := (x3 + 1)) (L' := [(3, .int (x3 + 1)), (0, .ref 32), (1, .ref h)]) dX2_foresee_64 2 rfl rfl (by decide) rfl ?_
      refine h_goto (tgt := 24) dX2_foresee_67 (by decide) ?_
      refine h_pick [1, 2, 0] [(0, .ref 32), (1, .ref h), (3, .int (x3 + 1))] rfl ?_
      exact k3 c1 c2
set_option maxHeartbeats 1000000 in
set_option maxRecDepth 20000 in
theorem sg_X2_foresee_85 {E : HEn} {d : Nat} {Q : Option Value → HIh → Prop} {I : HIh} 
    (k1 : Q none I)
    : HGo E (mF E (d + 41) Q) me_X2_foresee 85 [] [] I := by
  exact h_vret dX2_foresee_85 rfl (k1)
set_option maxHeartbeats 1000000 in
set_option maxRecDepth 20000 in
theorem sg_X2_expected_0 {E : HEn} {d : Nat} {Q : Option Value → HIh → Prop} {I : HIh} {h c : Nat} {p : Int32} {z : Int32} {w : Int32} (a_h : h < NL) (b_h : Zk h = 3) (p_h : Zp h 0 = c) (a_c : c < NL) (b_c : Zk c = 11) (n_c : Zn c = 30)
    (k1 : HCall E me_X9_visitsLeft (d + 60) [.ref 1, .ref h, .int (15 &&& (((1 : Int32) <<< (p &&& 31)) ^^^ (-1)))] (setI (setI (setI (setI I 32 (upd (I 32) 6 p)) 32 (upd (upd (I 32) 6 p) 7 z)) 35 (va_cpy ((setI (setI I 32 (upd (I 32) 6 p)) 32 (upd (upd (I 32) 6 p) 7 z)) c) (I 35) 0 0 30)) 34 (upd (I 34) 1 ((setI (setI (setI I 32 (upd (I 32) 6 p)) 32 (upd (upd (I 32) 6 p) 7 z)) 35 (va_cpy ((setI (setI I 32 (upd (I 32) 6 p)) 32 (upd (upd (I 32) 6 p) 7 z)) c) (I 35) 0 0 30)) h 1))) (fun v9 J => HGo E (mF E (d + 61) Q) me_X2_expected 36 [(0, .ref 32), (4, .int w)] (v9.toList ++ []) J))
    : HGo E (mF E (d + 61) Q) me_X2_expected 0 [(0, .ref 32), (1, .ref h), (2, .int p), (3, .int z), (4, .int w)] [] I := by
  refine h_aload_n dX2_expected_0 rfl 0 rfl ?_
  refine h_iload_n dX2_expected_1 rfl 2 rfl ?_
  refine pf_1_6 dX2_expected_2 hl_X2_117 nl_32 zk_32 ?_
  refine h_aload_n dX2_expected_5 rfl 0 rfl ?_
  refine h_iload_n dX2_expected_6 rfl 3 rfl ?_
  refine pf_1_7 dX2_expected_7 hl_X2_120 nl_32 zk_32 ?_
  refine h_aload_n dX2_expected_10 rfl 0 rfl ?_
  refine gf_1_1 dX2_expected_11 hl_X2_13 nl_32 zk_32 zp_32_1 ?_
  refine h_iconst (v := 0) dX2_expected_14 (by decide) ?_
  refine h_aald13z dX2_expected_15 nl_33 zk_33 (vp_lit (by rw [zn_33]; decide)) zp_33_0 ?_
  refine h_aload_n dX2_expected_16 rfl 1 rfl ?_
  refine h_invV (As := [.ref h]) (st := []) dX2_expected_17 lk_X2_53 (h_room (by decide)) nl_34 zk_34 (by decide) rfl rfl rfl (Nat.le_of_ble_eq_true rfl) ?_
  refine c_X4_copyFrom nl_34 zk_34 zp_34_0 nl_35 zk_35 zn_35 a_h b_h p_h a_c b_c n_c ?_
  refine h_aload_n dX2_expected_20 rfl 0 rfl ?_
  refine gf_1_0 dX2_expected_21 hl_X2_29 nl_32 zk_32 zp_32_0 ?_
  refine h_aload_n dX2_expected_24 rfl 1 rfl ?_
  refine h_bipush (v := 15) dX2_expected_25 (by decide) ?_
  refine h_iconst (v := 1) dX2_expected_27 (by decide) ?_
  refine h_iload_n dX2_expected_28 rfl 2 rfl ?_
  refine h_ishl dX2_expected_29 ?_
  refine h_iconst (v := (-1)) dX2_expected_30 (by decide) ?_
  refine h_ixor dX2_expected_31 ?_
  refine h_iand dX2_expected_32 ?_
  refine h_pick [0, 4] [(0, .ref 32), (4, .int w)] rfl ?_
  refine h_invV (As := [.ref h, .int (15 &&& (((1 : Int32) <<< (p &&& 31)) ^^^ (-1)))]) (st := []) dX2_expected_33 lk_X2_123 (h_room (by decide)) nl_1 zk_1 (by decide) rfl rfl rfl (Nat.le_of_ble_eq_true rfl) ?_
  exact k1
set_option maxHeartbeats 1000000 in
set_option maxRecDepth 20000 in
theorem sg_X2_expected_36 {E : HEn} {d : Nat} {Q : Option Value → HIh → Prop} {I : HIh} {x4 : Int32} {s0 : Int32}
    (k1 : HCall E me_X2_weigh (d + 60) [.ref 32, .int 0] I (fun v9 J => HGo E (mF E (d + 61) Q) me_X2_expected 43 [(4, .int x4), (5, .int s0)] (v9.toList ++ []) J))
    : HGo E (mF E (d + 61) Q) me_X2_expected 36 [(0, .ref 32), (4, .int x4)] [.int s0] I := by
  refine h_istore (L' := [(5, .int s0), (0, .ref 32), (4, .int x4)]) dX2_expected_36 (by decide) rfl ?_
  refine h_aload_n dX2_expected_38 rfl 1 rfl ?_
  refine h_iconst (v := 0) dX2_expected_39 (by decide) ?_
  refine h_pick [2, 0] [(4, .int x4), (5, .int s0)] rfl ?_
  refine h_invS (As := [.ref 32, .int 0]) (st := []) dX2_expected_40 lk_X2_126 (h_room (by decide)) rfl rfl (Nat.le_of_ble_eq_true rfl) ?_
  exact k1
set_option maxHeartbeats 1000000 in
set_option maxRecDepth 20000 in
theorem sg_X2_expected_43 {E : HEn} {d : Nat} {Q : Option Value → HIh → Prop} {I : HIh} {x4 : Int32} {x5 : Int32} {s0 : Int64}
    (k1 : HGo E (mF E (d + 61) Q) me_X2_expected 51 [(4, .int x4), (5, .int x5), (6, .long s0), (8, .long 1), (10, .int 0)] [] I)
    : HGo E (mF E (d + 61) Q) me_X2_expected 43 [(4, .int x4), (5, .int x5)] [.long s0] I := by
  refine h_lstore (L' := [(6, .long s0), (4, .int x4), (5, .int x5)]) dX2_expected_43 (by decide) rfl ?_
  refine h_lconst (v := 1) dX2_expected_45 (by decide) ?_
  refine h_lstore (L' := [(8, .long 1), (6, .long s0), (4, .int x4), (5, .int x5)]) dX2_expected_46 (by decide) rfl ?_
  refine h_iconst (v := 0) dX2_expected_48 (by decide) ?_
  refine h_istore (L' := [(10, .int 0), (8, .long 1), (6, .long s0), (4, .int x4), (5, .int x5)]) dX2_expected_49 (by decide) rfl ?_
  refine h_pick [3, 4, 2, 1, 0] [(4, .int x4), (5, .int x5), (6, .long s0), (8, .long 1), (10, .int 0)] rfl ?_
  exact k1
set_option maxHeartbeats 1000000 in
set_option maxRecDepth 20000 in
theorem sg_X2_expected_51 {E : HEn} {d : Nat} {Q : Option Value → HIh → Prop} {I : HIh} {x4 : Int32} {x5 : Int32} {x6 : Int64} {x8 : Int64} {x10 : Int32}
    (k1 : x5 ≤ x10 → HGo E (mF E (d + 61) Q) me_X2_expected 82 [(4, .int x4), (5, .int x5), (6, .long x6), (8, .long x8), (10, .int 0)] [] I)
    (k2 : ¬ x5 ≤ x10 → 10 ≤ x10 → HGo E (mF E (d + 61) Q) me_X2_expected 82 [(4, .int x4), (5, .int x5), (6, .long x6), (8, .long x8), (10, .int 0)] [] I)
    (k3 : ¬ x5 ≤ x10 → ¬ 10 ≤ x10 → HGo E (mF E (d + 61) Q) me_X2_expected 51 [(4, .int x4), (5, .int x5), (6, .long x6), (8, .long (x8 * 10)), (10, .int (x10 + 1))] [] I)
    : HGo E (mF E (d + 61) Q) me_X2_expected 51 [(4, .int x4), (5, .int x5), (6, .long x6), (8, .long x8), (10, .int x10)] [] I := by
  refine h_iload dX2_expected_51 4 rfl ?_
  refine h_iload dX2_expected_53 1 rfl ?_
  refine h_icmp_ge (tgt := 79) dX2_expected_55 (by decide) (fun c1 => ?_) (fun c1 => ?_)
  ·
    refine h_iconst (v := 0) dX2_expected_79 (by decide) ?_
    refine h_istore (L' := [(10, .int 0), (4, .int x4), (5, .int x5), (6, .long x6), (8, .long x8)]) dX2_expected_80 (by decide) rfl ?_
    refine h_pick [1, 2, 3, 4, 0] [(4, .int x4), (5, .int x5), (6, .long x6), (8, .long x8), (10, .int 0)] rfl ?_
    exact k1 c1
  ·
    refine h_iload dX2_expected_58 4 rfl ?_
    refine h_bipush (v := 10) dX2_expected_60 (by decide) ?_
    refine h_icmp_ge (tgt := 79) dX2_expected_62 (by decide) (fun c2 => ?_) (fun c2 => ?_)
    ·
      refine h_iconst (v := 0) dX2_expected_79 (by decide) ?_
      refine h_istore (L' := [(10, .int 0), (4, .int x4), (5, .int x5), (6, .long x6), (8, .long x8)]) dX2_expected_80 (by decide) rfl ?_
      refine h_pick [1, 2, 3, 4, 0] [(4, .int x4), (5, .int x5), (6, .long x6), (8, .long x8), (10, .int 0)] rfl ?_
      exact k2 c1 c2
    ·
      refine h_lload dX2_expected_65 3 rfl ?_
      refine h_ldc2 dX2_expected_67 wt_714 rfl ?_
      refine h_lmul dX2_expected_70 ?_
      refine h_lstore (L' := [(8, .long (x8 * 10)), (4, .int x4), (5, .int x5), (6, .long x6), (10, .int x10)]) dX2_expected_71 (by decide) rfl ?_
      refine h_iinc (v := (x10 + 1)) (L' := [(10, .int (x10 + 1)), (8, .long (x8 * 10)), (4, .int x4), (5, .int x5), (6, .long x6)]) dX2_expected_73 4 rfl rfl (by decide) rfl ?_
      refine h_goto (tgt := 51) dX2_expected_76 (by decide) ?_
      refine h_pick [2, 3, 4, 1, 0] [(4, .int x4), (5, .int x5), (6, .long x6), (8, .long (x8 * 10)), (10, .int (x10 + 1))] rfl ?_
      exact k3 c1 c2
set_option maxHeartbeats 1000000 in
set_option maxRecDepth 20000 in
theorem sg_X2_expected_82 {E : HEn} {d : Nat} {Q : Option Value → HIh → Prop} {I : HIh} {x4 : Int32} {x5 : Int32} {x6 : Int64} {x8 : Int64} {x10 : Int32}
    (k1 : x5 ≤ x10 → ¬ x4 = 0 → Q (some (.long x8)) I)
    (k2 : x5 ≤ x10 → x4 = 0 → Q (some (.long x6)) I)
    (k3 : ¬ x5 ≤ x10 → 10 ≤ x10 → ¬ x4 = 0 → Q (some (.long x8)) I)
    (k4 : ¬ x5 ≤ x10 → 10 ≤ x10 → x4 = 0 → Q (some (.long x6)) I)
    (k5 : ¬ x5 ≤ x10 → ¬ 10 ≤ x10 → ¬ (lg_cmp (x6 - x6 / 2 * 2) 0) = 0 → ¬ (lg_cmp (x6 - x6 / 5 * 5) 0) = 0 → HGo E (mF E (d + 61) Q) me_X2_expected 82 [(4, .int x4), (5, .int x5), (6, .long x6), (8, .long x8), (10, .int (x10 + 1))] [] I)
    (k6 : ¬ x5 ≤ x10 → ¬ 10 ≤ x10 → ¬ (lg_cmp (x6 - x6 / 2 * 2) 0) = 0 → (lg_cmp (x6 - x6 / 5 * 5) 0) = 0 → HGo E (mF E (d + 61) Q) me_X2_expected 82 [(4, .int x4), (5, .int x5), (6, .long (x6 / 5)), (8, .long (x8 / 5)), (10, .int (x10 + 1))] [] I)
    (k7 : ¬ x5 ≤ x10 → ¬ 10 ≤ x10 → (lg_cmp (x6 - x6 / 2 * 2) 0) = 0 → ¬ (lg_cmp ((x6 / 2) - (x6 / 2) / 5 * 5) 0) = 0 → HGo E (mF E (d + 61) Q) me_X2_expected 82 [(4, .int x4), (5, .int x5), (6, .long (x6 / 2)), (8, .long (x8 / 2)), (10, .int (x10 + 1))] [] I)
    (k8 : ¬ x5 ≤ x10 → ¬ 10 ≤ x10 → (lg_cmp (x6 - x6 / 2 * 2) 0) = 0 → (lg_cmp ((x6 / 2) - (x6 / 2) / 5 * 5) 0) = 0 → HGo E (mF E (d + 61) Q) me_X2_expected 82 [(4, .int x4), (5, .int x5), (6, .long ((x6 / 2) / 5)), (8, .long ((x8 / 2) / 5)), (10, .int (x10 + 1))] [] I)
    : HGo E (mF E (d + 61) Q) me_X2_expected 82 [(4, .int x4), (5, .int x5), (6, .long x6), (8, .long x8), (10, .int x10)] [] I := by
  refine h_iload dX2_expected_82 4 rfl ?_
  refine h_iload dX2_expected_84 1 rfl ?_
  refine h_icmp_ge (tgt := 156) dX2_expected_86 (by decide) (fun c1 => ?_) (fun c1 => ?_)
  ·
    refine h_iload dX2_expected_156 0 rfl ?_
    refine h_if_ne (tgt := 166) dX2_expected_158 (by decide) (fun c2 => ?_) (fun c2 => ?_)
    ·
      refine h_lload dX2_expected_166 3 rfl ?_
      exact h_lret dX2_expected_168 rfl (k1 c1 c2)
    ·
      refine h_lload dX2_expected_161 2 rfl ?_
      refine h_goto (tgt := 168) dX2_expected_163 (by decide) ?_
      exact h_lret dX2_expected_168 rfl (k2 c1 c2)
  ·
    refine h_iload dX2_expected_89 4 rfl ?_
    refine h_bipush (v := 10) dX2_expected_91 (by decide) ?_
    refine h_icmp_ge (tgt := 156) dX2_expected_93 (by decide) (fun c3 => ?_) (fun c3 => ?_)
    ·
      refine h_iload dX2_expected_156 0 rfl ?_
      refine h_if_ne (tgt := 166) dX2_expected_158 (by decide) (fun c4 => ?_) (fun c4 => ?_)
      ·
        refine h_lload dX2_expected_166 3 rfl ?_
        exact h_lret dX2_expected_168 rfl (k3 c1 c3 c4)
      ·
        refine h_lload dX2_expected_161 2 rfl ?_
        refine h_goto (tgt := 168) dX2_expected_163 (by decide) ?_
        exact h_lret dX2_expected_168 rfl (k4 c1 c3 c4)
    ·
      refine h_lload dX2_expected_96 2 rfl ?_
      refine h_ldc2 dX2_expected_98 wt_715 rfl ?_
      refine h_lrem dX2_expected_101 (by decide) ?_
      refine h_lconst (v := 0) dX2_expected_102 (by decide) ?_
      refine h_lcmp dX2_expected_103 ?_
      refine h_if_ne (tgt := 123) dX2_expected_104 (by decide) (fun c5 => ?_) (fun c5 => ?_)
      ·
        refine h_lload dX2_expected_123 2 rfl ?_
        refine h_ldc2 dX2_expected_125 wt_716 rfl ?_
        refine h_lrem dX2_expected_128 (by decide) ?_
        refine h_lconst (v := 0) dX2_expected_129 (by decide) ?_
        refine h_lcmp dX2_expected_130 ?_
        refine h_if_ne (tgt := 150) dX2_expected_131 (by decide) (fun c6 => ?_) (fun c6 => ?_)
        ·
          refine h_iinc (v := (x10 + 1)) (L' := [(10, .int (x10 + 1)), (4, .int x4), (5, .int x5), (6, .long x6), (8, .long x8)]) dX2_expected_150 4 rfl rfl (by decide) rfl ?_
          refine h_goto (tgt := 82) dX2_expected_153 (by decide) ?_
          refine h_pick [1, 2, 3, 4, 0] [(4, .int x4), (5, .int x5), (6, .long x6), (8, .long x8), (10, .int (x10 + 1))] rfl ?_
          exact k5 c1 c3 c5 c6
        ·
          refine h_lload dX2_expected_134 2 rfl ?_
          refine h_ldc2 dX2_expected_136 wt_716 rfl ?_
          refine h_ldiv dX2_expected_139 (by decide) ?_
          refine h_lstore (L' := [(6, .long (x6 / 5)), (4, .int x4), (5, .int x5), (8, .long x8), (10, .int x10)]) dX2_expected_140 (by decide) rfl ?_
          refine h_lload dX2_expected_142 3 rfl ?_
          refine h_ldc2 dX2_expected_144 wt_716 rfl ?_
          refine h_ldiv dX2_expected_147 (by decide) ?_
          refine h_lstore (L' := [(8, .long (x8 / 5)), (6, .long (x6 / 5)), (4, .int x4), (5, .int x5), (10, .int x10)]) dX2_expected_148 (by decide) rfl ?_
          refine h_iinc (v := (x10 + 1)) (L' := [(10, .int (x10 + 1)), (8, .long (x8 / 5)), (6, .long (x6 / 5)), (4, .int x4), (5, .int x5)]) dX2_expected_150 4 rfl rfl (by decide) rfl ?_
          refine h_goto (tgt := 82) dX2_expected_153 (by decide) ?_
          refine h_pick [3, 4, 2, 1, 0] [(4, .int x4), (5, .int x5), (6, .long (x6 / 5)), (8, .long (x8 / 5)), (10, .int (x10 + 1))] rfl ?_
          exact k6 c1 c3 c5 c6
      ·
        refine h_lload dX2_expected_107 2 rfl ?_
        refine h_ldc2 dX2_expected_109 wt_715 rfl ?_
        refine h_ldiv dX2_expected_112 (by decide) ?_
        refine h_lstore (L' := [(6, .long (x6 / 2)), (4, .int x4), (5, .int x5), (8, .long x8), (10, .int x10)]) dX2_expected_113 (by decide) rfl ?_
        refine h_lload dX2_expected_115 3 rfl ?_
        refine h_ldc2 dX2_expected_117 wt_715 rfl ?_
        refine h_ldiv dX2_expected_120 (by decide) ?_
        refine h_lstore (L' := [(8, .long (x8 / 2)), (6, .long (x6 / 2)), (4, .int x4), (5, .int x5), (10, .int x10)]) dX2_expected_121 (by decide) rfl ?_
        refine h_lload dX2_expected_123 1 rfl ?_
        refine h_ldc2 dX2_expected_125 wt_716 rfl ?_
        refine h_lrem dX2_expected_128 (by decide) ?_
        refine h_lconst (v := 0) dX2_expected_129 (by decide) ?_
        refine h_lcmp dX2_expected_130 ?_
        refine h_if_ne (tgt := 150) dX2_expected_131 (by decide) (fun c7 => ?_) (fun c7 => ?_)
        ·
          refine h_iinc (v := (x10 + 1)) (L' := [(10, .int (x10 + 1)), (8, .long (x8 / 2)), (6, .long (x6 / 2)), (4, .int x4), (5, .int x5)]) dX2_expected_150 4 rfl rfl (by decide) rfl ?_
          refine h_goto (tgt := 82) dX2_expected_153 (by decide) ?_
          refine h_pick [3, 4, 2, 1, 0] [(4, .int x4), (5, .int x5), (6, .long (x6 / 2)), (8, .long (x8 / 2)), (10, .int (x10 + 1))] rfl ?_
          exact k7 c1 c3 c5 c7
        ·
          refine h_lload dX2_expected_134 1 rfl ?_
          refine h_ldc2 dX2_expected_136 wt_716 rfl ?_
          refine h_ldiv dX2_expected_139 (by decide) ?_
          refine h_lstore (L' := [(6, .long ((x6 / 2) / 5)), (8, .long (x8 / 2)), (4, .int x4), (5, .int x5), (10, .int x10)]) dX2_expected_140 (by decide) rfl ?_
          refine h_lload dX2_expected_142 1 rfl ?_
          refine h_ldc2 dX2_expected_144 wt_716 rfl ?_
          refine h_ldiv dX2_expected_147 (by decide) ?_
          refine h_lstore (L' := [(8, .long ((x8 / 2) / 5)), (6, .long ((x6 / 2) / 5)), (4, .int x4), (5, .int x5), (10, .int x10)]) dX2_expected_148 (by decide) rfl ?_
          refine h_iinc (v := (x10 + 1)) (L' := [(10, .int (x10 + 1)), (8, .long ((x8 / 2) / 5)), (6, .long ((x6 / 2) / 5)), (4, .int x4), (5, .int x5)]) dX2_expected_150 4 rfl rfl (by decide) rfl ?_
          refine h_goto (tgt := 82) dX2_expected_153 (by decide) ?_
          refine h_pick [3, 4, 2, 1, 0] [(4, .int x4), (5, .int x5), (6, .long ((x6 / 2) / 5)), (8, .long ((x8 / 2) / 5)), (10, .int (x10 + 1))] rfl ?_
          exact k8 c1 c3 c5 c7
set_option maxHeartbeats 1000000 in
set_option maxRecDepth 20000 in
theorem sg_X11_dry_0 {E : HEn} {d : Nat} {Q : Option Value → HIh → Prop} {I : HIh} 
    (k1 : HCall E me_X2_tillDry (d + 5) [.ref 32, .ref 12] I (fun v9 J => HGo E (mF E (d + 6) Q) me_X11_dry 11 [] (v9.toList ++ []) J))
    : HGo E (mF E (d + 6) Q) me_X11_dry 0 [(0, .ref 0)] [] I := by
  refine h_aload_n dX11_dry_0 rfl 0 rfl ?_
  refine gf_9_4 dX11_dry_1 hl_X11_39 nl_0 zk_0 zp_0_4 ?_
  refine h_aload_n dX11_dry_4 rfl 0 rfl ?_
  refine gf_9_1 dX11_dry_5 hl_X11_19 nl_0 zk_0 zp_0_1 ?_
  refine h_pick [] [] rfl ?_
  refine h_invV (As := [.ref 12]) (st := []) dX11_dry_8 lk_X11_180 (h_room (by decide)) nl_32 zk_32 (by decide) rfl rfl rfl (Nat.le_of_ble_eq_true rfl) ?_
  exact k1
set_option maxHeartbeats 1000000 in
set_option maxRecDepth 20000 in
theorem sg_X11_dry_11 {E : HEn} {d : Nat} {Q : Option Value → HIh → Prop} {I : HIh} {s0 : Int32}
    (k1 : Q (some (.int s0)) I)
    : HGo E (mF E (d + 6) Q) me_X11_dry 11 [] [.int s0] I := by
  exact h_iret dX11_dry_11 rfl (k1)
set_option maxHeartbeats 1000000 in
set_option maxRecDepth 20000 in
theorem sg_X11_bait_0 {E : HEn} {d : Nat} {Q : Option Value → HIh → Prop} {I : HIh} {a : Int32}
    (k1 : (0 : Int32) ≤ a → a < 4 → HCall E me_X2_leastBait (d + 5) [.ref 32, .ref 12, .int a] I (fun v9 J => HGo E (mF E (d + 6) Q) me_X11_bait 19 [] (v9.toList ++ []) J))
    (k2 : ¬ ((0 : Int32) ≤ a ∧ a < 4) → Q (some (.int (-2))) I)
    : HGo E (mF E (d + 6) Q) me_X11_bait 0 [(0, .ref 0), (1, .int a)] [] I := by
  refine h_iload_n dX11_bait_0 rfl 1 rfl ?_
  refine h_invS (As := [.int a]) (st := []) dX11_bait_1 lk_X11_100 (h_room (by decide)) rfl rfl (Nat.le_of_ble_eq_true rfl) ?_
  refine c_X11_isPerson (fun c1 c2 => ?_) (fun c3 => ?_)
  ·
    refine h_if_eq (tgt := 22) dX11_bait_4 (by decide) (fun c => absurd c (by decide)) (fun _ => ?_)
    refine h_aload_n dX11_bait_7 rfl 0 rfl ?_
    refine gf_9_4 dX11_bait_8 hl_X11_39 nl_0 zk_0 zp_0_4 ?_
    refine h_aload_n dX11_bait_11 rfl 0 rfl ?_
    refine gf_9_1 dX11_bait_12 hl_X11_19 nl_0 zk_0 zp_0_1 ?_
    refine h_iload_n dX11_bait_15 rfl 1 rfl ?_
    refine h_pick [] [] rfl ?_
    refine h_invV (As := [.ref 12, .int a]) (st := []) dX11_bait_16 lk_X11_183 (h_room (by decide)) nl_32 zk_32 (by decide) rfl rfl rfl (Nat.le_of_ble_eq_true rfl) ?_
    exact k1 c1 c2
  ·
    refine h_if_eq (tgt := 22) dX11_bait_4 (by decide) (fun _ => ?_) (fun c => absurd c (by decide))
    refine h_bipush (v := (-2)) dX11_bait_22 (by decide) ?_
    exact h_iret dX11_bait_24 rfl (k2 c3)
set_option maxHeartbeats 1000000 in
set_option maxRecDepth 20000 in
theorem sg_X11_bait_19 {E : HEn} {d : Nat} {Q : Option Value → HIh → Prop} {I : HIh} {s0 : Int32}
    (k1 : Q (some (.int s0)) I)
    : HGo E (mF E (d + 6) Q) me_X11_bait 19 [] [.int s0] I := by
  refine h_goto (tgt := 24) dX11_bait_19 (by decide) ?_
  exact h_iret dX11_bait_24 rfl (k1)
set_option maxHeartbeats 1000000 in
set_option maxRecDepth 20000 in
theorem sg_X12_fault_0 {E : HEn} {d : Nat} {Q : Option Value → HIh → Prop} {I : HIh} 
    (k1 : HCall E me_X12_token (d + 6) [.ref 87] (setI (setI (setI (setI I 87 (upd (I 87) 14 0)) 87 (upd (upd (I 87) 14 0) 5 0)) 87 (upd (upd (upd (I 87) 14 0) 5 0) 17 (I 87 6))) 87 (upd (upd (upd (upd (I 87) 14 0) 5 0) 17 (I 87 6)) 18 (I 87 13))) (fun v9 J => HGo E (mF E (d + 7) Q) me_X12_fault 30 [(0, .ref 87)] (v9.toList ++ []) J))
    : HGo E (mF E (d + 7) Q) me_X12_fault 0 [(0, .ref 87)] [] I := by
  refine h_aload_n dX12_fault_0 rfl 0 rfl ?_
  refine h_iconst (v := 0) dX12_fault_1 (by decide) ?_
  refine pf_10_14 dX12_fault_2 hl_X12_71 nl_87 zk_87 ?_
  refine h_aload_n dX12_fault_5 rfl 0 rfl ?_
  refine h_iconst (v := 0) dX12_fault_6 (by decide) ?_
  refine pf_10_5 dX12_fault_7 hl_X12_118 nl_87 zk_87 ?_
  refine h_aload_n dX12_fault_10 rfl 0 rfl ?_
  refine h_aload_n dX12_fault_11 rfl 0 rfl ?_
  refine gf_10_6 dX12_fault_12 hl_X12_23 nl_87 zk_87 ?_
  refine pf_10_17 dX12_fault_15 hl_X12_134 nl_87 zk_87 ?_
  refine h_aload_n dX12_fault_18 rfl 0 rfl ?_
  refine h_aload_n dX12_fault_19 rfl 0 rfl ?_
  refine gf_10_13 dX12_fault_20 hl_X12_147 nl_87 zk_87 ?_
  refine pf_10_18 dX12_fault_23 hl_X12_128 nl_87 zk_87 ?_
  refine h_aload_n dX12_fault_26 rfl 0 rfl ?_
  refine h_invV (As := []) (st := []) dX12_fault_27 lk_X12_121 (h_room (by decide)) nl_87 zk_87 (by decide) rfl rfl rfl (Nat.le_of_ble_eq_true rfl) ?_
  exact k1
set_option maxHeartbeats 1000000 in
set_option maxRecDepth 20000 in
theorem sg_X12_fault_30 {E : HEn} {d : Nat} {Q : Option Value → HIh → Prop} {I : HIh} 
    (k1 : HCall E me_X12_readsLine (d + 6) [.ref 87] I (fun v9 J => HGo E (mF E (d + 7) Q) me_X12_fault 34 [(0, .ref 87)] (v9.toList ++ []) J))
    : HGo E (mF E (d + 7) Q) me_X12_fault 30 [(0, .ref 87)] [] I := by
  refine h_aload_n dX12_fault_30 rfl 0 rfl ?_
  refine h_invV (As := []) (st := []) dX12_fault_31 lk_X12_150 (h_room (by decide)) nl_87 zk_87 (by decide) rfl rfl rfl (Nat.le_of_ble_eq_true rfl) ?_
  exact k1
set_option maxHeartbeats 1000000 in
set_option maxRecDepth 20000 in
theorem sg_X12_fault_34 {E : HEn} {d : Nat} {Q : Option Value → HIh → Prop} {I : HIh} {s0 : Int32}
    (k1 : ¬ s0 = 0 → HGo E (mF E (d + 7) Q) me_X12_fault 42 [(0, .ref 87)] [] I)
    (k2 : s0 = 0 → Q (some (.int (I 87 15))) I)
    : HGo E (mF E (d + 7) Q) me_X12_fault 34 [(0, .ref 87)] [.int s0] I := by
  refine h_if_ne (tgt := 42) dX12_fault_34 (by decide) (fun c1 => ?_) (fun c1 => ?_)
  ·
    exact k1 c1
  ·
    refine h_aload_n dX12_fault_37 rfl 0 rfl ?_
    refine gf_10_15 dX12_fault_38 hl_X12_74 nl_87 zk_87 ?_
    exact h_iret dX12_fault_41 rfl (k2 c1)
set_option maxHeartbeats 1000000 in
set_option maxRecDepth 20000 in
theorem sg_X12_fault_42 {E : HEn} {d : Nat} {Q : Option Value → HIh → Prop} {I : HIh} 
    (k1 : (I 87 3) ≤ (I 87 15) → Q (some (.int (-1))) I)
    (k2 : ¬ (I 87 3) ≤ (I 87 15) → ¬ ((I 87 16) - (I 87 15)) = 1 → Q (some (.int (I 87 15))) I)
    (k3 : ¬ (I 87 3) ≤ (I 87 15) → ((I 87 16) - (I 87 15)) = 1 → vp_in (I 87 15) 200)
    (k4 : ¬ (I 87 3) ≤ (I 87 15) → ((I 87 16) - (I 87 15)) = 1 → ¬ (I 90 ((I 87 15).toNatClampNeg)) = 59 → Q (some (.int (I 87 15))) I)
    (k5 : ¬ (I 87 3) ≤ (I 87 15) → ((I 87 16) - (I 87 15)) = 1 → (I 90 ((I 87 15).toNatClampNeg)) = 59 → 10 ≤ (I 87 5) → Q (some (.int (I 87 15))) I)
    (k6 : ¬ (I 87 3) ≤ (I 87 15) → ((I 87 16) - (I 87 15)) = 1 → (I 90 ((I 87 15).toNatClampNeg)) = 59 → ¬ 10 ≤ (I 87 5) → HCall E me_X12_token (d + 6) [.ref 87] I (fun v9 J => HGo E (mF E (d + 7) Q) me_X12_fault 103 [(0, .ref 87)] (v9.toList ++ []) J))
    : HGo E (mF E (d + 7) Q) me_X12_fault 42 [(0, .ref 87)] [] I := by
  refine h_aload_n dX12_fault_42 rfl 0 rfl ?_
  refine gf_10_15 dX12_fault_43 hl_X12_74 nl_87 zk_87 ?_
  refine h_aload_n dX12_fault_46 rfl 0 rfl ?_
  refine gf_10_3 dX12_fault_47 hl_X12_66 nl_87 zk_87 ?_
  refine h_icmp_ge (tgt := 120) dX12_fault_50 (by decide) (fun c1 => ?_) (fun c1 => ?_)
  ·
    refine h_iconst (v := (-1)) dX12_fault_120 (by decide) ?_
    exact h_iret dX12_fault_121 rfl (k1 c1)
  ·
    refine h_aload_n dX12_fault_53 rfl 0 rfl ?_
    refine gf_10_16 dX12_fault_54 hl_X12_81 nl_87 zk_87 ?_
    refine h_aload_n dX12_fault_57 rfl 0 rfl ?_
    refine gf_10_15 dX12_fault_58 hl_X12_74 nl_87 zk_87 ?_
    refine h_isub dX12_fault_61 ?_
    refine h_iconst (v := 1) dX12_fault_62 (by decide) ?_
    refine h_icmp_ne (tgt := 93) dX12_fault_63 (by decide) (fun c2 => ?_) (fun c2 => ?_)
    ·
      refine h_iconst (v := 0) dX12_fault_93 (by decide) ?_
      refine h_istore_n (L' := [(1, .int 0), (0, .ref 87)]) dX12_fault_94 rfl (by decide) rfl ?_
      refine h_iload_n dX12_fault_95 rfl 0 rfl ?_
      refine h_if_eq (tgt := 108) dX12_fault_96 (by decide) (fun _ => ?_) (fun c => absurd c (by decide))
      refine h_iload_n dX12_fault_108 rfl 0 rfl ?_
      refine h_if_ne (tgt := 117) dX12_fault_109 (by decide) (fun c => absurd c (by decide)) (fun _ => ?_)
      refine h_aload_n dX12_fault_112 rfl 1 rfl ?_
      refine gf_10_15 dX12_fault_113 hl_X12_74 nl_87 zk_87 ?_
      exact h_iret dX12_fault_116 rfl (k2 c1 c2)
    ·
      refine h_aload_n dX12_fault_66 rfl 0 rfl ?_
      refine gf_10_2 dX12_fault_67 hl_X12_17 nl_87 zk_87 zp_87_2 ?_
      refine h_aload_n dX12_fault_70 rfl 0 rfl ?_
      refine gf_10_15 dX12_fault_71 hl_X12_74 nl_87 zk_87 ?_
      refine h_iald dX12_fault_74 nl_90 zk_90 (by rw [zn_90]; exact k3 c1 c2) ?_
      refine h_bipush (v := 59) dX12_fault_75 (by decide) ?_
      refine h_icmp_ne (tgt := 93) dX12_fault_77 (by decide) (fun c3 => ?_) (fun c3 => ?_)
      ·
        refine h_iconst (v := 0) dX12_fault_93 (by decide) ?_
        refine h_istore_n (L' := [(1, .int 0), (0, .ref 87)]) dX12_fault_94 rfl (by decide) rfl ?_
        refine h_iload_n dX12_fault_95 rfl 0 rfl ?_
        refine h_if_eq (tgt := 108) dX12_fault_96 (by decide) (fun _ => ?_) (fun c => absurd c (by decide))
        refine h_iload_n dX12_fault_108 rfl 0 rfl ?_
        refine h_if_ne (tgt := 117) dX12_fault_109 (by decide) (fun c => absurd c (by decide)) (fun _ => ?_)
        refine h_aload_n dX12_fault_112 rfl 1 rfl ?_
        refine gf_10_15 dX12_fault_113 hl_X12_74 nl_87 zk_87 ?_
        exact h_iret dX12_fault_116 rfl (k4 c1 c2 c3)
      ·
        refine h_aload_n dX12_fault_80 rfl 0 rfl ?_
        refine gf_10_5 dX12_fault_81 hl_X12_118 nl_87 zk_87 ?_
        refine h_bipush (v := 10) dX12_fault_84 (by decide) ?_
        refine h_icmp_ge (tgt := 93) dX12_fault_86 (by decide) (fun c4 => ?_) (fun c4 => ?_)
        ·
          refine h_iconst (v := 0) dX12_fault_93 (by decide) ?_
          refine h_istore_n (L' := [(1, .int 0), (0, .ref 87)]) dX12_fault_94 rfl (by decide) rfl ?_
          refine h_iload_n dX12_fault_95 rfl 0 rfl ?_
          refine h_if_eq (tgt := 108) dX12_fault_96 (by decide) (fun _ => ?_) (fun c => absurd c (by decide))
          refine h_iload_n dX12_fault_108 rfl 0 rfl ?_
          refine h_if_ne (tgt := 117) dX12_fault_109 (by decide) (fun c => absurd c (by decide)) (fun _ => ?_)
          refine h_aload_n dX12_fault_112 rfl 1 rfl ?_
          refine gf_10_15 dX12_fault_113 hl_X12_74 nl_87 zk_87 ?_
          exact h_iret dX12_fault_116 rfl (k5 c1 c2 c3 c4)
        ·
          refine h_iconst (v := 1) dX12_fault_89 (by decide) ?_
          refine h_goto (tgt := 94) dX12_fault_90 (by decide) ?_
          refine h_istore_n (L' := [(1, .int 1), (0, .ref 87)]) dX12_fault_94 rfl (by decide) rfl ?_
          refine h_iload_n dX12_fault_95 rfl 0 rfl ?_
          refine h_if_eq (tgt := 108) dX12_fault_96 (by decide) (fun c => absurd c (by decide)) (fun _ => ?_)
          refine h_aload_n dX12_fault_99 rfl 1 rfl ?_
          refine h_pick [1] [(0, .ref 87)] rfl ?_
          refine h_invV (As := []) (st := []) dX12_fault_100 lk_X12_121 (h_room (by decide)) nl_87 zk_87 (by decide) rfl rfl rfl (Nat.le_of_ble_eq_true rfl) ?_
          exact k6 c1 c2 c3 c4
set_option maxHeartbeats 1000000 in
set_option maxRecDepth 20000 in
theorem sg_X12_fault_103 {E : HEn} {d : Nat} {Q : Option Value → HIh → Prop} {I : HIh} 
    (k1 : HCall E me_X12_readsLine (d + 6) [.ref 87] I (fun v9 J => HGo E (mF E (d + 7) Q) me_X12_fault 107 [(0, .ref 87)] (v9.toList ++ []) J))
    : HGo E (mF E (d + 7) Q) me_X12_fault 103 [(0, .ref 87)] [] I := by
  refine h_aload_n dX12_fault_103 rfl 0 rfl ?_
  refine h_invV (As := []) (st := []) dX12_fault_104 lk_X12_150 (h_room (by decide)) nl_87 zk_87 (by decide) rfl rfl rfl (Nat.le_of_ble_eq_true rfl) ?_
  exact k1
set_option maxHeartbeats 1000000 in
set_option maxRecDepth 20000 in
theorem sg_X12_fault_107 {E : HEn} {d : Nat} {Q : Option Value → HIh → Prop} {I : HIh} {s0 : Int32}
    (k1 : ¬ s0 = 0 → HGo E (mF E (d + 7) Q) me_X12_fault 42 [(0, .ref 87)] [] I)
    (k2 : s0 = 0 → Q (some (.int (I 87 15))) I)
    : HGo E (mF E (d + 7) Q) me_X12_fault 107 [(0, .ref 87)] [.int s0] I := by
  refine h_istore_n (L' := [(1, .int s0), (0, .ref 87)]) dX12_fault_107 rfl (by decide) rfl ?_
  refine h_iload_n dX12_fault_108 rfl 0 rfl ?_
  refine h_if_ne (tgt := 117) dX12_fault_109 (by decide) (fun c1 => ?_) (fun c1 => ?_)
  ·
    refine h_goto (tgt := 42) dX12_fault_117 (by decide) ?_
    refine h_pick [1] [(0, .ref 87)] rfl ?_
    exact k1 c1
  ·
    refine h_aload_n dX12_fault_112 rfl 1 rfl ?_
    refine gf_10_15 dX12_fault_113 hl_X12_74 nl_87 zk_87 ?_
    exact h_iret dX12_fault_116 rfl (k2 c1)
set_option maxHeartbeats 1000000 in
set_option maxRecDepth 20000 in
theorem sg_X12_layPlan_0 {E : HEn} {d : Nat} {Q : Option Value → HIh → Prop} {I : HIh} {a : Int32} {b : Int32}
    (k1 : HGo E (mF E (d + 6) Q) me_X12_layPlan 12 [(0, .ref 87), (1, .int a), (2, .int b), (3, .int 0)] [] (setI (setI I 87 (upd (I 87) 20 (-1))) 87 (upd (upd (I 87) 20 (-1)) 21 0)))
    : HGo E (mF E (d + 6) Q) me_X12_layPlan 0 [(0, .ref 87), (1, .int a), (2, .int b)] [] I := by
  refine h_aload_n dX12_layPlan_0 rfl 0 rfl ?_
  refine h_iconst (v := (-1)) dX12_layPlan_1 (by decide) ?_
  refine pf_10_20 dX12_layPlan_2 hl_X12_228 nl_87 zk_87 ?_
  refine h_aload_n dX12_layPlan_5 rfl 0 rfl ?_
  refine h_iconst (v := 0) dX12_layPlan_6 (by decide) ?_
  refine pf_10_21 dX12_layPlan_7 hl_X12_231 nl_87 zk_87 ?_
  refine h_iconst (v := 0) dX12_layPlan_10 (by decide) ?_
  refine h_istore_n (L' := [(3, .int 0), (0, .ref 87), (1, .int a), (2, .int b)]) dX12_layPlan_11 rfl (by decide) rfl ?_
  refine h_pick [1, 2, 3, 0] [(0, .ref 87), (1, .int a), (2, .int b), (3, .int 0)] rfl ?_
  exact k1
set_option maxHeartbeats 1000000 in
set_option maxRecDepth 20000 in
theorem sg_X12_layPlan_12 {E : HEn} {d : Nat} {Q : Option Value → HIh → Prop} {I : HIh} {x1 : Int32} {x2 : Int32} {x3 : Int32}
    (k1 : HCall E me_X12_powerOf (d + 5) [.int x2] I (fun v9 J => HGo E (mF E (d + 6) Q) me_X12_layPlan 17 [(0, .ref 87), (1, .int x1), (2, .int x2), (3, .int x3)] (v9.toList ++ [.int x3]) J))
    : HGo E (mF E (d + 6) Q) me_X12_layPlan 12 [(0, .ref 87), (1, .int x1), (2, .int x2), (3, .int x3)] [] I := by
  refine h_iload_n dX12_layPlan_12 rfl 3 rfl ?_
  refine h_iload_n dX12_layPlan_13 rfl 2 rfl ?_
  refine h_invS (As := [.int x2]) (st := [.int x3]) dX12_layPlan_14 lk_X12_225 (h_room (by decide)) rfl rfl (Nat.le_of_ble_eq_true rfl) ?_
  exact k1
set_option maxHeartbeats 1000000 in
set_option maxRecDepth 20000 in
theorem sg_X12_layPlan_17 {E : HEn} {d : Nat} {Q : Option Value → HIh → Prop} {I : HIh} {x1 : Int32} {x2 : Int32} {x3 : Int32} {s0 : Int32} {s1 : Int32}
    (k1 : s0 ≤ s1 → Q none I)
    (k2 : ¬ s0 ≤ s1 → HCall E me_X12_goRow (d + 5) [.ref 87, .int x1, .int x3, .int x2] I (fun v9 J => HGo E (mF E (d + 6) Q) me_X12_layPlan 27 [(0, .ref 87), (1, .int x1), (2, .int x2), (3, .int x3)] (v9.toList ++ []) J))
    : HGo E (mF E (d + 6) Q) me_X12_layPlan 17 [(0, .ref 87), (1, .int x1), (2, .int x2), (3, .int x3)] [.int s0, .int s1] I := by
  refine h_icmp_ge (tgt := 55) dX12_layPlan_17 (by decide) (fun c1 => ?_) (fun c1 => ?_)
  ·
    exact h_vret dX12_layPlan_55 rfl (k1 c1)
  ·
    refine h_aload_n dX12_layPlan_20 rfl 0 rfl ?_
    refine h_iload_n dX12_layPlan_21 rfl 1 rfl ?_
    refine h_iload_n dX12_layPlan_22 rfl 3 rfl ?_
    refine h_iload_n dX12_layPlan_23 rfl 2 rfl ?_
    refine h_invV (As := [.int x1, .int x3, .int x2]) (st := []) dX12_layPlan_24 lk_X12_234 (h_room (by decide)) nl_87 zk_87 (by decide) rfl rfl rfl (Nat.le_of_ble_eq_true rfl) ?_
    exact k2 c1
set_option maxHeartbeats 1000000 in
set_option maxRecDepth 20000 in
theorem sg_X12_layPlan_27 {E : HEn} {d : Nat} {Q : Option Value → HIh → Prop} {I : HIh} {x1 : Int32} {x2 : Int32} {x3 : Int32} {s0 : Int32}
    (k1 : s0 ≤ (I 87 20) → HGo E (mF E (d + 6) Q) me_X12_layPlan 12 [(0, .ref 87), (1, .int x1), (2, .int x2), (3, .int (x3 + 1))] [] I)
    (k2 : ¬ s0 ≤ (I 87 20) → HGo E (mF E (d + 6) Q) me_X12_layPlan 12 [(0, .ref 87), (1, .int x1), (2, .int x2), (3, .int (x3 + 1))] [] (setI (setI I 87 (upd (I 87) 20 s0)) 87 (upd (upd (I 87) 20 s0) 21 x3)))
    : HGo E (mF E (d + 6) Q) me_X12_layPlan 27 [(0, .ref 87), (1, .int x1), (2, .int x2), (3, .int x3)] [.int s0] I := by
  refine h_istore (L' := [(4, .int s0), (0, .ref 87), (1, .int x1), (2, .int x2), (3, .int x3)]) dX12_layPlan_27 (by decide) rfl ?_
  refine h_iload dX12_layPlan_29 0 rfl ?_
  refine h_aload_n dX12_layPlan_31 rfl 1 rfl ?_
  refine gf_10_20 dX12_layPlan_32 hl_X12_228 nl_87 zk_87 ?_
  refine h_icmp_le (tgt := 49) dX12_layPlan_35 (by decide) (fun c1 => ?_) (fun c1 => ?_)
  ·
    refine h_iinc (v := (x3 + 1)) (L' := [(3, .int (x3 + 1)), (4, .int s0), (0, .ref 87), (1, .int x1), (2, .int x2)]) dX12_layPlan_49 4 rfl rfl (by decide) rfl ?_
    refine h_goto (tgt := 12) dX12_layPlan_52 (by decide) ?_
    refine h_pick [2, 3, 4, 0] [(0, .ref 87), (1, .int x1), (2, .int x2), (3, .int (x3 + 1))] rfl ?_
    exact k1 c1
  ·
    refine h_aload_n dX12_layPlan_38 rfl 1 rfl ?_
    refine h_iload dX12_layPlan_39 0 rfl ?_
    refine pf_10_20 dX12_layPlan_41 hl_X12_228 nl_87 zk_87 ?_
    refine h_aload_n dX12_layPlan_44 rfl 1 rfl ?_
    refine h_iload_n dX12_layPlan_45 rfl 4 rfl ?_
    refine pf_10_21 dX12_layPlan_46 hl_X12_231 nl_87 zk_87 ?_
    refine h_iinc (v := (x3 + 1)) (L' := [(3, .int (x3 + 1)), (4, .int s0), (0, .ref 87), (1, .int x1), (2, .int x2)]) dX12_layPlan_49 4 rfl rfl (by decide) rfl ?_
    refine h_goto (tgt := 12) dX12_layPlan_52 (by decide) ?_
    refine h_pick [2, 3, 4, 0] [(0, .ref 87), (1, .int x1), (2, .int x2), (3, .int (x3 + 1))] rfl ?_
    exact k2 c1
set_option maxHeartbeats 1000000 in
set_option maxRecDepth 20000 in
theorem sg_X12_mean_0 {E : HEn} {d : Nat} {Q : Option Value → HIh → Prop} {I : HIh} {a : Int32} {b : Int32} {e : Int32}
    (k1 : (0 : Int32) ≤ a → a < 4 → (0 : Int64) ≤ b.toInt64 → (b.toInt64 : Int64) ≤ 10 → (0 : Int64) ≤ e.toInt64 → (e.toInt64 : Int64) ≤ 1 → ((I 87 13) - (I 88 30)) ≤ 10 → HCall E me_X12_leftOf (d + 5) [.ref 87, .int ((1 : Int32) <<< (a &&& 31))] I (fun v9 J => HGo E (mF E (d + 6) Q) me_X12_mean 61 [(0, .ref 87), (1, .int a), (2, .int b), (3, .int e)] (v9.toList ++ [.int ((I 87 13) - (I 88 30))]) J))
    (k2 : (0 : Int32) ≤ a → a < 4 → (0 : Int64) ≤ b.toInt64 → (b.toInt64 : Int64) ≤ 10 → (0 : Int64) ≤ e.toInt64 → (e.toInt64 : Int64) ≤ 1 → ¬ ((I 87 13) - (I 88 30)) ≤ 10 → Q (some (.long (-4))) I)
    (k3 : (0 : Int32) ≤ a → a < 4 → (0 : Int64) ≤ b.toInt64 → (b.toInt64 : Int64) ≤ 10 → ¬ ((0 : Int64) ≤ e.toInt64 ∧ (e.toInt64 : Int64) ≤ 1) → Q (some (.long (-3))) I)
    (k4 : (0 : Int32) ≤ a → a < 4 → ¬ ((0 : Int64) ≤ b.toInt64 ∧ (b.toInt64 : Int64) ≤ 10) → Q (some (.long (-3))) I)
    (k5 : ¬ ((0 : Int32) ≤ a ∧ a < 4) → Q (some (.long (-2))) I)
    : HGo E (mF E (d + 6) Q) me_X12_mean 0 [(0, .ref 87), (1, .int a), (2, .int b), (3, .int e)] [] I := by
  refine h_iload_n dX12_mean_0 rfl 1 rfl ?_
  refine h_invS (As := [.int a]) (st := []) dX12_mean_1 lk_X12_180 (h_room (by decide)) rfl rfl (Nat.le_of_ble_eq_true rfl) ?_
  refine c_X12_isPerson (fun c1 c2 => ?_) (fun c3 => ?_)
  ·
    refine h_if_ne (tgt := 11) dX12_mean_4 (by decide) (fun _ => ?_) (fun c => absurd c (by decide))
    refine h_iload_n dX12_mean_11 rfl 2 rfl ?_
    refine h_i2l dX12_mean_12 ?_
    refine h_lconst (v := 0) dX12_mean_13 (by decide) ?_
    refine h_ldc2 dX12_mean_14 wt_1121 rfl ?_
    refine h_invS (As := [.long b.toInt64, .long 0, .long 10]) (st := []) dX12_mean_17 lk_X12_62 (h_room (by decide)) rfl rfl (Nat.le_of_ble_eq_true rfl) ?_
    refine c_X12_in (fun c4 c5 => ?_) (fun c6 => ?_)
    ·
      refine h_if_eq (tgt := 33) dX12_mean_20 (by decide) (fun c => absurd c (by decide)) (fun _ => ?_)
      refine h_iload_n dX12_mean_23 rfl 3 rfl ?_
      refine h_i2l dX12_mean_24 ?_
      refine h_lconst (v := 0) dX12_mean_25 (by decide) ?_
      refine h_lconst (v := 1) dX12_mean_26 (by decide) ?_
      refine h_invS (As := [.long e.toInt64, .long 0, .long 1]) (st := []) dX12_mean_27 lk_X12_62 (h_room (by decide)) rfl rfl (Nat.le_of_ble_eq_true rfl) ?_
      refine c_X12_in (fun c7 c8 => ?_) (fun c9 => ?_)
      ·
        refine h_if_ne (tgt := 37) dX12_mean_30 (by decide) (fun _ => ?_) (fun c => absurd c (by decide))
        refine h_aload_n dX12_mean_37 rfl 0 rfl ?_
        refine h_invV (As := []) (st := []) dX12_mean_38 lk_X12_213 (h_room (by decide)) nl_87 zk_87 (by decide) rfl rfl rfl (Nat.le_of_ble_eq_true rfl) ?_
        refine c_X12_visitsLeft ?_
        refine h_bipush (v := 10) dX12_mean_41 (by decide) ?_
        refine h_icmp_le (tgt := 50) dX12_mean_43 (by decide) (fun c10 => ?_) (fun c10 => ?_)
        ·
          refine h_aload_n dX12_mean_50 rfl 0 rfl ?_
          refine h_invV (As := []) (st := []) dX12_mean_51 lk_X12_213 (h_room (by decide)) nl_87 zk_87 (by decide) rfl rfl rfl (Nat.le_of_ble_eq_true rfl) ?_
          refine c_X12_visitsLeft ?_
          refine h_aload_n dX12_mean_54 rfl 0 rfl ?_
          refine h_iconst (v := 1) dX12_mean_55 (by decide) ?_
          refine h_iload_n dX12_mean_56 rfl 1 rfl ?_
          refine h_ishl dX12_mean_57 ?_
          refine h_invV (As := [.int ((1 : Int32) <<< (a &&& 31))]) (st := [.int ((I 87 13) - (I 88 30))]) dX12_mean_58 lk_X12_190 (h_room (by decide)) nl_87 zk_87 (by decide) rfl rfl rfl (Nat.le_of_ble_eq_true rfl) ?_
          exact k1 c1 c2 c4 c5 c7 c8 c10
        ·
          refine h_ldc2 dX12_mean_46 wt_1123 rfl ?_
          exact h_lret dX12_mean_49 rfl (k2 c1 c2 c4 c5 c7 c8 c10)
      ·
        refine h_if_ne (tgt := 37) dX12_mean_30 (by decide) (fun c => absurd c (by decide)) (fun _ => ?_)
        refine h_ldc2 dX12_mean_33 wt_1122 rfl ?_
        exact h_lret dX12_mean_36 rfl (k3 c1 c2 c4 c5 c9)
    ·
      refine h_if_eq (tgt := 33) dX12_mean_20 (by decide) (fun _ => ?_) (fun c => absurd c (by decide))
      refine h_ldc2 dX12_mean_33 wt_1122 rfl ?_
      exact h_lret dX12_mean_36 rfl (k4 c1 c2 c6)
  ·
    refine h_if_ne (tgt := 11) dX12_mean_4 (by decide) (fun c => absurd c (by decide)) (fun _ => ?_)
    refine h_ldc2 dX12_mean_7 wt_1120 rfl ?_
    exact h_lret dX12_mean_10 rfl (k5 c3)
set_option maxHeartbeats 1000000 in
set_option maxRecDepth 20000 in
theorem sg_X12_mean_61 {E : HEn} {d : Nat} {Q : Option Value → HIh → Prop} {I : HIh} {x1 : Int32} {x2 : Int32} {x3 : Int32} {s0 : Int32} {s1 : Int32}
    (k1 : HGo E (mF E (d + 6) Q) me_X12_mean 73 [(0, .ref 87), (1, .int x1), (2, .int x2), (3, .int x3), (4, .int (s1 - s0)), (5, .long 0), (7, .long 1), (9, .int 0)] [] I)
    : HGo E (mF E (d + 6) Q) me_X12_mean 61 [(0, .ref 87), (1, .int x1), (2, .int x2), (3, .int x3)] [.int s0, .int s1] I := by
  refine h_isub dX12_mean_61 ?_
  refine h_istore (L' := [(4, .int (s1 - s0)), (0, .ref 87), (1, .int x1), (2, .int x2), (3, .int x3)]) dX12_mean_62 (by decide) rfl ?_
  refine h_lconst (v := 0) dX12_mean_64 (by decide) ?_
  refine h_lstore (L' := [(5, .long 0), (4, .int (s1 - s0)), (0, .ref 87), (1, .int x1), (2, .int x2), (3, .int x3)]) dX12_mean_65 (by decide) rfl ?_
  refine h_lconst (v := 1) dX12_mean_67 (by decide) ?_
  refine h_lstore (L' := [(7, .long 1), (5, .long 0), (4, .int (s1 - s0)), (0, .ref 87), (1, .int x1), (2, .int x2), (3, .int x3)]) dX12_mean_68 (by decide) rfl ?_
  refine h_iconst (v := 0) dX12_mean_70 (by decide) ?_
  refine h_istore (L' := [(9, .int 0), (7, .long 1), (5, .long 0), (4, .int (s1 - s0)), (0, .ref 87), (1, .int x1), (2, .int x2), (3, .int x3)]) dX12_mean_71 (by decide) rfl ?_
  refine h_pick [4, 5, 6, 7, 3, 2, 1, 0] [(0, .ref 87), (1, .int x1), (2, .int x2), (3, .int x3), (4, .int (s1 - s0)), (5, .long 0), (7, .long 1), (9, .int 0)] rfl ?_
  exact k1
set_option maxHeartbeats 1000000 in
set_option maxRecDepth 20000 in
theorem sg_X12_mean_73 {E : HEn} {d : Nat} {Q : Option Value → HIh → Prop} {I : HIh} {x1 : Int32} {x2 : Int32} {x3 : Int32} {x4 : Int32} {x5 : Int64} {x7 : Int64} {x9 : Int32}
    (k1 : x4 ≤ x9 → HGo E (mF E (d + 6) Q) me_X12_mean 97 [(0, .ref 87), (1, .int x1), (2, .int x2), (3, .int x3), (4, .int x4), (5, .long x5), (7, .long x7), (9, .int 0)] [] I)
    (k2 : ¬ x4 ≤ x9 → HGo E (mF E (d + 6) Q) me_X12_mean 73 [(0, .ref 87), (1, .int x1), (2, .int x2), (3, .int x3), (4, .int x4), (5, .long x5), (7, .long (x7 * 10)), (9, .int (x9 + 1))] [] I)
    : HGo E (mF E (d + 6) Q) me_X12_mean 73 [(0, .ref 87), (1, .int x1), (2, .int x2), (3, .int x3), (4, .int x4), (5, .long x5), (7, .long x7), (9, .int x9)] [] I := by
  refine h_iload dX12_mean_73 7 rfl ?_
  refine h_iload dX12_mean_75 4 rfl ?_
  refine h_icmp_ge (tgt := 94) dX12_mean_77 (by decide) (fun c1 => ?_) (fun c1 => ?_)
  ·
    refine h_iconst (v := 0) dX12_mean_94 (by decide) ?_
    refine h_istore (L' := [(9, .int 0), (0, .ref 87), (1, .int x1), (2, .int x2), (3, .int x3), (4, .int x4), (5, .long x5), (7, .long x7)]) dX12_mean_95 (by decide) rfl ?_
    refine h_pick [1, 2, 3, 4, 5, 6, 7, 0] [(0, .ref 87), (1, .int x1), (2, .int x2), (3, .int x3), (4, .int x4), (5, .long x5), (7, .long x7), (9, .int 0)] rfl ?_
    exact k1 c1
  ·
    refine h_lload dX12_mean_80 6 rfl ?_
    refine h_ldc2 dX12_mean_82 wt_1121 rfl ?_
    refine h_lmul dX12_mean_85 ?_
    refine h_lstore (L' := [(7, .long (x7 * 10)), (0, .ref 87), (1, .int x1), (2, .int x2), (3, .int x3), (4, .int x4), (5, .long x5), (9, .int x9)]) dX12_mean_86 (by decide) rfl ?_
    refine h_iinc (v := (x9 + 1)) (L' := [(9, .int (x9 + 1)), (7, .long (x7 * 10)), (0, .ref 87), (1, .int x1), (2, .int x2), (3, .int x3), (4, .int x4), (5, .long x5)]) dX12_mean_88 7 rfl rfl (by decide) rfl ?_
    refine h_goto (tgt := 73) dX12_mean_91 (by decide) ?_
    refine h_pick [2, 3, 4, 5, 6, 7, 1, 0] [(0, .ref 87), (1, .int x1), (2, .int x2), (3, .int x3), (4, .int x4), (5, .long x5), (7, .long (x7 * 10)), (9, .int (x9 + 1))] rfl ?_
    exact k2 c1
set_option maxHeartbeats 1000000 in
set_option maxRecDepth 20000 in
theorem sg_X12_mean_97 {E : HEn} {d : Nat} {Q : Option Value → HIh → Prop} {I : HIh} {x1 : Int32} {x2 : Int32} {x3 : Int32} {x4 : Int32} {x5 : Int64} {x7 : Int64} {x9 : Int32}
    (k1 : ((1 : Int32) <<< (x4 &&& 31)) ≤ x9 → HCall E me_X12_divisor (d + 5) [.long x5, .long x7] I (fun v9 J => HGo E (mF E (d + 6) Q) me_X12_mean 177 [(3, .int x3), (5, .long x5), (7, .long x7)] (v9.toList ++ []) J))
    (k2 : ¬ ((1 : Int32) <<< (x4 &&& 31)) ≤ x9 → HCall E me_X12_worthBy (d + 5) [.ref 87, .int x1, .int x9] I (fun v9 J => HGo E (mF E (d + 6) Q) me_X12_mean 113 [(0, .ref 87), (1, .int x1), (2, .int x2), (3, .int x3), (4, .int x4), (5, .long x5), (7, .long x7), (9, .int x9)] (v9.toList ++ []) J))
    : HGo E (mF E (d + 6) Q) me_X12_mean 97 [(0, .ref 87), (1, .int x1), (2, .int x2), (3, .int x3), (4, .int x4), (5, .long x5), (7, .long x7), (9, .int x9)] [] I := by
  refine h_iload dX12_mean_97 7 rfl ?_
  refine h_iconst (v := 1) dX12_mean_99 (by decide) ?_
  refine h_iload dX12_mean_100 4 rfl ?_
  refine h_ishl dX12_mean_102 ?_
  refine h_icmp_ge (tgt := 170) dX12_mean_103 (by decide) (fun c1 => ?_) (fun c1 => ?_)
  ·
    refine h_lload dX12_mean_170 5 rfl ?_
    refine h_lload dX12_mean_172 6 rfl ?_
    refine h_pick [3, 5, 6] [(3, .int x3), (5, .long x5), (7, .long x7)] rfl ?_
    refine h_invS (As := [.long x5, .long x7]) (st := []) dX12_mean_174 lk_X12_261 (h_room (by decide)) rfl rfl (Nat.le_of_ble_eq_true rfl) ?_
    exact k1 c1
  ·
    refine h_aload_n dX12_mean_106 rfl 0 rfl ?_
    refine h_iload_n dX12_mean_107 rfl 1 rfl ?_
    refine h_iload dX12_mean_108 7 rfl ?_
    refine h_invV (As := [.int x1, .int x9]) (st := []) dX12_mean_110 lk_X12_258 (h_room (by decide)) nl_87 zk_87 (by decide) rfl rfl rfl (Nat.le_of_ble_eq_true rfl) ?_
    exact k2 c1
set_option maxHeartbeats 1000000 in
set_option maxRecDepth 20000 in
theorem sg_X12_mean_177 {E : HEn} {d : Nat} {Q : Option Value → HIh → Prop} {I : HIh} {x3 : Int32} {x5 : Int64} {x7 : Int64} {s0 : Int64}
    (k1 : ¬ x3 = 0 → ¬ s0 = 0)
    (k2 : ¬ x3 = 0 → Q (some (.long (x7 / s0))) I)
    (k3 : x3 = 0 → ¬ s0 = 0)
    (k4 : x3 = 0 → Q (some (.long (x5 / s0))) I)
    : HGo E (mF E (d + 6) Q) me_X12_mean 177 [(3, .int x3), (5, .long x5), (7, .long x7)] [.long s0] I := by
  refine h_lstore (L' := [(9, .long s0), (3, .int x3), (5, .long x5), (7, .long x7)]) dX12_mean_177 (by decide) rfl ?_
  refine h_iload_n dX12_mean_179 rfl 1 rfl ?_
  refine h_if_ne (tgt := 191) dX12_mean_180 (by decide) (fun c1 => ?_) (fun c1 => ?_)
  ·
    refine h_lload dX12_mean_191 3 rfl ?_
    refine h_lload dX12_mean_193 0 rfl ?_
    refine h_ldiv dX12_mean_195 (k1 c1) ?_
    exact h_lret dX12_mean_196 rfl (k2 c1)
  ·
    refine h_lload dX12_mean_183 2 rfl ?_
    refine h_lload dX12_mean_185 0 rfl ?_
    refine h_ldiv dX12_mean_187 (k3 c1) ?_
    refine h_goto (tgt := 196) dX12_mean_188 (by decide) ?_
    exact h_lret dX12_mean_196 rfl (k4 c1)
set_option maxHeartbeats 1000000 in
set_option maxRecDepth 20000 in
theorem sg_X12_mean_113 {E : HEn} {d : Nat} {Q : Option Value → HIh → Prop} {I : HIh} {x1 : Int32} {x2 : Int32} {x3 : Int32} {x4 : Int32} {x5 : Int64} {x7 : Int64} {x9 : Int32} {s0 : Int32}
    (k1 : HGo E (mF E (d + 6) Q) me_X12_mean 119 [(0, .ref 87), (1, .int x1), (2, .int x2), (3, .int x3), (4, .int x4), (5, .long x5), (7, .long x7), (9, .int x9), (10, .long s0.toInt64), (12, .int 0)] [] I)
    : HGo E (mF E (d + 6) Q) me_X12_mean 113 [(0, .ref 87), (1, .int x1), (2, .int x2), (3, .int x3), (4, .int x4), (5, .long x5), (7, .long x7), (9, .int x9)] [.int s0] I := by
  refine h_i2l dX12_mean_113 ?_
  refine h_lstore (L' := [(10, .long s0.toInt64), (0, .ref 87), (1, .int x1), (2, .int x2), (3, .int x3), (4, .int x4), (5, .long x5), (7, .long x7), (9, .int x9)]) dX12_mean_114 (by decide) rfl ?_
  refine h_iconst (v := 0) dX12_mean_116 (by decide) ?_
  refine h_istore (L' := [(12, .int 0), (10, .long s0.toInt64), (0, .ref 87), (1, .int x1), (2, .int x2), (3, .int x3), (4, .int x4), (5, .long x5), (7, .long x7), (9, .int x9)]) dX12_mean_117 (by decide) rfl ?_
  refine h_pick [2, 3, 4, 5, 6, 7, 8, 9, 1, 0] [(0, .ref 87), (1, .int x1), (2, .int x2), (3, .int x3), (4, .int x4), (5, .long x5), (7, .long x7), (9, .int x9), (10, .long s0.toInt64), (12, .int 0)] rfl ?_
  exact k1
set_option maxHeartbeats 1000000 in
set_option maxRecDepth 20000 in
theorem sg_X12_mean_119 {E : HEn} {d : Nat} {Q : Option Value → HIh → Prop} {I : HIh} {x1 : Int32} {x2 : Int32} {x3 : Int32} {x4 : Int32} {x5 : Int64} {x7 : Int64} {x9 : Int32} {x10 : Int64} {x12 : Int32}
    (k1 : x4 ≤ x12 → HGo E (mF E (d + 6) Q) me_X12_mean 97 [(0, .ref 87), (1, .int x1), (2, .int x2), (3, .int x3), (4, .int x4), (5, .long (x5 + x10)), (7, .long x7), (9, .int (x9 + 1))] [] I)
    (k2 : ¬ x4 ≤ x12 → (x9 >>> (x12 &&& 31)) &&& 1 = 1 → HGo E (mF E (d + 6) Q) me_X12_mean 119 [(0, .ref 87), (1, .int x1), (2, .int x2), (3, .int x3), (4, .int x4), (5, .long x5), (7, .long x7), (9, .int x9), (10, .long (x10 * x2.toInt64)), (12, .int (x12 + 1))] [] I)
    (k3 : ¬ x4 ≤ x12 → ¬ (x9 >>> (x12 &&& 31)) &&& 1 = 1 → HGo E (mF E (d + 6) Q) me_X12_mean 119 [(0, .ref 87), (1, .int x1), (2, .int x2), (3, .int x3), (4, .int x4), (5, .long x5), (7, .long x7), (9, .int x9), (10, .long (x10 * (10 - x2).toInt64)), (12, .int (x12 + 1))] [] I)
    : HGo E (mF E (d + 6) Q) me_X12_mean 119 [(0, .ref 87), (1, .int x1), (2, .int x2), (3, .int x3), (4, .int x4), (5, .long x5), (7, .long x7), (9, .int x9), (10, .long x10), (12, .int x12)] [] I := by
  refine h_iload dX12_mean_119 9 rfl ?_
  refine h_iload dX12_mean_121 4 rfl ?_
  refine h_icmp_ge (tgt := 157) dX12_mean_123 (by decide) (fun c1 => ?_) (fun c1 => ?_)
  ·
    refine h_lload dX12_mean_157 5 rfl ?_
    refine h_lload dX12_mean_159 8 rfl ?_
    refine h_ladd dX12_mean_161 ?_
    refine h_lstore (L' := [(5, .long (x5 + x10)), (0, .ref 87), (1, .int x1), (2, .int x2), (3, .int x3), (4, .int x4), (7, .long x7), (9, .int x9), (10, .long x10), (12, .int x12)]) dX12_mean_162 (by decide) rfl ?_
    refine h_iinc (v := (x9 + 1)) (L' := [(9, .int (x9 + 1)), (5, .long (x5 + x10)), (0, .ref 87), (1, .int x1), (2, .int x2), (3, .int x3), (4, .int x4), (7, .long x7), (10, .long x10), (12, .int x12)]) dX12_mean_164 7 rfl rfl (by decide) rfl ?_
    refine h_goto (tgt := 97) dX12_mean_167 (by decide) ?_
    refine h_pick [2, 3, 4, 5, 6, 1, 7, 0] [(0, .ref 87), (1, .int x1), (2, .int x2), (3, .int x3), (4, .int x4), (5, .long (x5 + x10)), (7, .long x7), (9, .int (x9 + 1))] rfl ?_
    exact k1 c1
  ·
    refine h_lload dX12_mean_126 8 rfl ?_
    refine h_iload dX12_mean_128 7 rfl ?_
    refine h_iload dX12_mean_130 9 rfl ?_
    refine h_invS (As := [.int x9, .int x12]) (st := [.long x10]) dX12_mean_132 lk_X12_183 (h_room (by decide)) rfl rfl (Nat.le_of_ble_eq_true rfl) ?_
    refine c_X12_has (fun c2 => ?_) (fun c3 => ?_)
    ·
      refine h_if_eq (tgt := 143) dX12_mean_135 (by decide) (fun c => absurd c (by decide)) (fun _ => ?_)
      refine h_iload_n dX12_mean_138 rfl 2 rfl ?_
      refine h_i2l dX12_mean_139 ?_
      refine h_goto (tgt := 148) dX12_mean_140 (by decide) ?_
      refine h_lmul dX12_mean_148 ?_
      refine h_lstore (L' := [(10, .long (x10 * x2.toInt64)), (0, .ref 87), (1, .int x1), (2, .int x2), (3, .int x3), (4, .int x4), (5, .long x5), (7, .long x7), (9, .int x9), (12, .int x12)]) dX12_mean_149 (by decide) rfl ?_
      refine h_iinc (v := (x12 + 1)) (L' := [(12, .int (x12 + 1)), (10, .long (x10 * x2.toInt64)), (0, .ref 87), (1, .int x1), (2, .int x2), (3, .int x3), (4, .int x4), (5, .long x5), (7, .long x7), (9, .int x9)]) dX12_mean_151 9 rfl rfl (by decide) rfl ?_
      refine h_goto (tgt := 119) dX12_mean_154 (by decide) ?_
      refine h_pick [2, 3, 4, 5, 6, 7, 8, 9, 1, 0] [(0, .ref 87), (1, .int x1), (2, .int x2), (3, .int x3), (4, .int x4), (5, .long x5), (7, .long x7), (9, .int x9), (10, .long (x10 * x2.toInt64)), (12, .int (x12 + 1))] rfl ?_
      exact k2 c1 c2
    ·
      refine h_if_eq (tgt := 143) dX12_mean_135 (by decide) (fun _ => ?_) (fun c => absurd c (by decide))
      refine h_bipush (v := 10) dX12_mean_143 (by decide) ?_
      refine h_iload_n dX12_mean_145 rfl 2 rfl ?_
      refine h_isub dX12_mean_146 ?_
      refine h_i2l dX12_mean_147 ?_
      refine h_lmul dX12_mean_148 ?_
      refine h_lstore (L' := [(10, .long (x10 * (10 - x2).toInt64)), (0, .ref 87), (1, .int x1), (2, .int x2), (3, .int x3), (4, .int x4), (5, .long x5), (7, .long x7), (9, .int x9), (12, .int x12)]) dX12_mean_149 (by decide) rfl ?_
      refine h_iinc (v := (x12 + 1)) (L' := [(12, .int (x12 + 1)), (10, .long (x10 * (10 - x2).toInt64)), (0, .ref 87), (1, .int x1), (2, .int x2), (3, .int x3), (4, .int x4), (5, .long x5), (7, .long x7), (9, .int x9)]) dX12_mean_151 9 rfl rfl (by decide) rfl ?_
      refine h_goto (tgt := 119) dX12_mean_154 (by decide) ?_
      refine h_pick [2, 3, 4, 5, 6, 7, 8, 9, 1, 0] [(0, .ref 87), (1, .int x1), (2, .int x2), (3, .int x3), (4, .int x4), (5, .long x5), (7, .long x7), (9, .int x9), (10, .long (x10 * (10 - x2).toInt64)), (12, .int (x12 + 1))] rfl ?_
      exact k3 c1 c3
