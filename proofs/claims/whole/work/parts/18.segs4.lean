set_option maxHeartbeats 1000000 in
set_option maxRecDepth 20000 in
theorem sg_X9_habitual_N_0 {E : HEn} {d : Nat} {Q : Option Value → HIh → Prop} {I : HIh} {h : Nat} (a_h : h < NL) (b_h : Zk h = 3)
    (k1 : HCall E me_X9_folkOf (d + 3) [.ref 1, .int (fVis (I 1 10) (I 9) (I h 1))] I (fun v9 J => HGo E (mF E (d + 4) Q) me_X9_habitual 14 [(0, .ref 1), (1, .ref h), (2, .int (fVis (I 1 10) (I 9) (I h 1)))] (v9.toList ++ []) J))
    : HGo E (mF E (d + 4) Q) me_X9_habitual 0 [(0, .ref 1), (1, .ref h)] [] I := by
  refine h_aload_n dX9_habitual_0 rfl 0 rfl ?_
  refine h_aload_n dX9_habitual_1 rfl 1 rfl ?_
  refine gf_3_1 dX9_habitual_2 hl_X9_80 a_h b_h ?_
  refine h_invV (As := [.int (I h 1)]) (st := []) dX9_habitual_5 lk_X9_83 (h_room (by decide)) nl_1 zk_1 (by decide) rfl rfl rfl (Nat.le_of_ble_eq_true rfl) ?_
  refine c_X9_visitor ?_
  refine h_istore_n (L' := [(2, .int (fVis (I 1 10) (I 9) (I h 1))), (0, .ref 1), (1, .ref h)]) dX9_habitual_8 rfl (by decide) rfl ?_
  refine h_aload_n dX9_habitual_9 rfl 1 rfl ?_
  refine h_iload_n dX9_habitual_10 rfl 0 rfl ?_
  refine h_pick [1, 2, 0] [(0, .ref 1), (1, .ref h), (2, .int (fVis (I 1 10) (I 9) (I h 1)))] rfl ?_
  refine h_invV (As := [.int (fVis (I 1 10) (I 9) (I h 1))]) (st := []) dX9_habitual_11 lk_X9_115 (h_room (by decide)) nl_1 zk_1 (by decide) rfl rfl rfl (Nat.le_of_ble_eq_true rfl) ?_
  exact k1
set_option maxHeartbeats 1000000 in
set_option maxRecDepth 20000 in
theorem sg_X9_habitual_N_14 {E : HEn} {d : Nat} {Q : Option Value → HIh → Prop} {I : HIh} {h : Nat} {x2 : Int32} (a_h : h < NL) (b_h : Zk h = 3)
    (k1 : HCall E me_X5_wouldThrow (d + 3) [.ref 2, .ref 1, .ref h, .int x2] I (fun v9 J => HGo E (mF E (d + 4) Q) me_X9_habitual 20 [] (v9.toList ++ []) J))
    : HGo E (mF E (d + 4) Q) me_X9_habitual 14 [(0, .ref 1), (1, .ref h), (2, .int x2)] [.ref 2] I := by
  refine h_aload_n dX9_habitual_14 rfl 0 rfl ?_
  refine h_aload_n dX9_habitual_15 rfl 1 rfl ?_
  refine h_iload_n dX9_habitual_16 rfl 2 rfl ?_
  refine h_pick [] [] rfl ?_
  refine h_invU (As := [.ref 1, .ref h, .int x2]) (st := []) dX9_habitual_17 lk_X9_119_X5 (h_room (by decide)) nl_2 zk_2 (by decide) rfl rfl rfl (Nat.le_of_ble_eq_true rfl) ?_
  exact k1
set_option maxHeartbeats 1000000 in
set_option maxRecDepth 20000 in
theorem sg_X9_habitual_N_20 {E : HEn} {d : Nat} {Q : Option Value → HIh → Prop} {I : HIh} {s0 : Int32}
    (k1 : Q (some (.int s0)) I)
    : HGo E (mF E (d + 4) Q) me_X9_habitual 20 [] [.int s0] I := by
  exact h_iret dX9_habitual_20 rfl (k1)
set_option maxHeartbeats 1000000 in
set_option maxRecDepth 20000 in
theorem sg_X9_habitual_G_0 {E : HEn} {d : Nat} {Q : Option Value → HIh → Prop} {I : HIh} {h : Nat} (a_h : h < NL) (b_h : Zk h = 3)
    (k1 : HCall E me_X9_folkOf (d + 3) [.ref 1, .int (fVis (I 1 10) (I 9) (I h 1))] I (fun v9 J => HGo E (mF E (d + 4) Q) me_X9_habitual 14 [(0, .ref 1), (1, .ref h), (2, .int (fVis (I 1 10) (I 9) (I h 1)))] (v9.toList ++ []) J))
    : HGo E (mF E (d + 4) Q) me_X9_habitual 0 [(0, .ref 1), (1, .ref h)] [] I := by
  refine h_aload_n dX9_habitual_0 rfl 0 rfl ?_
  refine h_aload_n dX9_habitual_1 rfl 1 rfl ?_
  refine gf_3_1 dX9_habitual_2 hl_X9_80 a_h b_h ?_
  refine h_invV (As := [.int (I h 1)]) (st := []) dX9_habitual_5 lk_X9_83 (h_room (by decide)) nl_1 zk_1 (by decide) rfl rfl rfl (Nat.le_of_ble_eq_true rfl) ?_
  refine c_X9_visitor ?_
  refine h_istore_n (L' := [(2, .int (fVis (I 1 10) (I 9) (I h 1))), (0, .ref 1), (1, .ref h)]) dX9_habitual_8 rfl (by decide) rfl ?_
  refine h_aload_n dX9_habitual_9 rfl 1 rfl ?_
  refine h_iload_n dX9_habitual_10 rfl 0 rfl ?_
  refine h_pick [1, 2, 0] [(0, .ref 1), (1, .ref h), (2, .int (fVis (I 1 10) (I 9) (I h 1)))] rfl ?_
  refine h_invV (As := [.int (fVis (I 1 10) (I 9) (I h 1))]) (st := []) dX9_habitual_11 lk_X9_115 (h_room (by decide)) nl_1 zk_1 (by decide) rfl rfl rfl (Nat.le_of_ble_eq_true rfl) ?_
  exact k1
set_option maxHeartbeats 1000000 in
set_option maxRecDepth 20000 in
theorem sg_X9_habitual_G_14 {E : HEn} {d : Nat} {Q : Option Value → HIh → Prop} {I : HIh} {h : Nat} {x2 : Int32} (a_h : h < NL) (b_h : Zk h = 3)
    (k1 : HCall E me_X8_wouldThrow (d + 3) [.ref 3, .ref 1, .ref h, .int x2] I (fun v9 J => HGo E (mF E (d + 4) Q) me_X9_habitual 20 [] (v9.toList ++ []) J))
    : HGo E (mF E (d + 4) Q) me_X9_habitual 14 [(0, .ref 1), (1, .ref h), (2, .int x2)] [.ref 3] I := by
  refine h_aload_n dX9_habitual_14 rfl 0 rfl ?_
  refine h_aload_n dX9_habitual_15 rfl 1 rfl ?_
  refine h_iload_n dX9_habitual_16 rfl 2 rfl ?_
  refine h_pick [] [] rfl ?_
  refine h_invU (As := [.ref 1, .ref h, .int x2]) (st := []) dX9_habitual_17 lk_X9_119_X3 (h_room (by decide)) nl_3 zk_3 (by decide) rfl rfl rfl (Nat.le_of_ble_eq_true rfl) ?_
  exact k1
set_option maxHeartbeats 1000000 in
set_option maxRecDepth 20000 in
theorem sg_X9_habitual_G_20 {E : HEn} {d : Nat} {Q : Option Value → HIh → Prop} {I : HIh} {s0 : Int32}
    (k1 : Q (some (.int s0)) I)
    : HGo E (mF E (d + 4) Q) me_X9_habitual 20 [] [.int s0] I := by
  exact h_iret dX9_habitual_20 rfl (k1)
set_option maxHeartbeats 1000000 in
set_option maxRecDepth 20000 in
theorem sg_X9_habitual_W_0 {E : HEn} {d : Nat} {Q : Option Value → HIh → Prop} {I : HIh} {h : Nat} (a_h : h < NL) (b_h : Zk h = 3)
    (k1 : HCall E me_X9_folkOf (d + 3) [.ref 1, .int (fVis (I 1 10) (I 9) (I h 1))] I (fun v9 J => HGo E (mF E (d + 4) Q) me_X9_habitual 14 [(0, .ref 1), (1, .ref h), (2, .int (fVis (I 1 10) (I 9) (I h 1)))] (v9.toList ++ []) J))
    : HGo E (mF E (d + 4) Q) me_X9_habitual 0 [(0, .ref 1), (1, .ref h)] [] I := by
  refine h_aload_n dX9_habitual_0 rfl 0 rfl ?_
  refine h_aload_n dX9_habitual_1 rfl 1 rfl ?_
  refine gf_3_1 dX9_habitual_2 hl_X9_80 a_h b_h ?_
  refine h_invV (As := [.int (I h 1)]) (st := []) dX9_habitual_5 lk_X9_83 (h_room (by decide)) nl_1 zk_1 (by decide) rfl rfl rfl (Nat.le_of_ble_eq_true rfl) ?_
  refine c_X9_visitor ?_
  refine h_istore_n (L' := [(2, .int (fVis (I 1 10) (I 9) (I h 1))), (0, .ref 1), (1, .ref h)]) dX9_habitual_8 rfl (by decide) rfl ?_
  refine h_aload_n dX9_habitual_9 rfl 1 rfl ?_
  refine h_iload_n dX9_habitual_10 rfl 0 rfl ?_
  refine h_pick [1, 2, 0] [(0, .ref 1), (1, .ref h), (2, .int (fVis (I 1 10) (I 9) (I h 1)))] rfl ?_
  refine h_invV (As := [.int (fVis (I 1 10) (I 9) (I h 1))]) (st := []) dX9_habitual_11 lk_X9_115 (h_room (by decide)) nl_1 zk_1 (by decide) rfl rfl rfl (Nat.le_of_ble_eq_true rfl) ?_
  exact k1
set_option maxHeartbeats 1000000 in
set_option maxRecDepth 20000 in
theorem sg_X9_habitual_W_14 {E : HEn} {d : Nat} {Q : Option Value → HIh → Prop} {I : HIh} {h : Nat} {x2 : Int32} (a_h : h < NL) (b_h : Zk h = 3)
    (k1 : HCall E me_X8_wouldThrow (d + 3) [.ref 4, .ref 1, .ref h, .int x2] I (fun v9 J => HGo E (mF E (d + 4) Q) me_X9_habitual 20 [] (v9.toList ++ []) J))
    : HGo E (mF E (d + 4) Q) me_X9_habitual 14 [(0, .ref 1), (1, .ref h), (2, .int x2)] [.ref 4] I := by
  refine h_aload_n dX9_habitual_14 rfl 0 rfl ?_
  refine h_aload_n dX9_habitual_15 rfl 1 rfl ?_
  refine h_iload_n dX9_habitual_16 rfl 2 rfl ?_
  refine h_pick [] [] rfl ?_
  refine h_invU (As := [.ref 1, .ref h, .int x2]) (st := []) dX9_habitual_17 lk_X9_119_X10 (h_room (by decide)) nl_4 zk_4 (by decide) rfl rfl rfl (Nat.le_of_ble_eq_true rfl) ?_
  exact k1
set_option maxHeartbeats 1000000 in
set_option maxRecDepth 20000 in
theorem sg_X9_habitual_W_20 {E : HEn} {d : Nat} {Q : Option Value → HIh → Prop} {I : HIh} {s0 : Int32}
    (k1 : Q (some (.int s0)) I)
    : HGo E (mF E (d + 4) Q) me_X9_habitual 20 [] [.int s0] I := by
  exact h_iret dX9_habitual_20 rfl (k1)
set_option maxHeartbeats 1000000 in
set_option maxRecDepth 20000 in
theorem sg_X9_habitual_C_0 {E : HEn} {d : Nat} {Q : Option Value → HIh → Prop} {I : HIh} {h : Nat} (a_h : h < NL) (b_h : Zk h = 3)
    (k1 : HCall E me_X9_folkOf (d + 3) [.ref 1, .int (fVis (I 1 10) (I 9) (I h 1))] I (fun v9 J => HGo E (mF E (d + 4) Q) me_X9_habitual 14 [(0, .ref 1), (1, .ref h), (2, .int (fVis (I 1 10) (I 9) (I h 1)))] (v9.toList ++ []) J))
    : HGo E (mF E (d + 4) Q) me_X9_habitual 0 [(0, .ref 1), (1, .ref h)] [] I := by
  refine h_aload_n dX9_habitual_0 rfl 0 rfl ?_
  refine h_aload_n dX9_habitual_1 rfl 1 rfl ?_
  refine gf_3_1 dX9_habitual_2 hl_X9_80 a_h b_h ?_
  refine h_invV (As := [.int (I h 1)]) (st := []) dX9_habitual_5 lk_X9_83 (h_room (by decide)) nl_1 zk_1 (by decide) rfl rfl rfl (Nat.le_of_ble_eq_true rfl) ?_
  refine c_X9_visitor ?_
  refine h_istore_n (L' := [(2, .int (fVis (I 1 10) (I 9) (I h 1))), (0, .ref 1), (1, .ref h)]) dX9_habitual_8 rfl (by decide) rfl ?_
  refine h_aload_n dX9_habitual_9 rfl 1 rfl ?_
  refine h_iload_n dX9_habitual_10 rfl 0 rfl ?_
  refine h_pick [1, 2, 0] [(0, .ref 1), (1, .ref h), (2, .int (fVis (I 1 10) (I 9) (I h 1)))] rfl ?_
  refine h_invV (As := [.int (fVis (I 1 10) (I 9) (I h 1))]) (st := []) dX9_habitual_11 lk_X9_115 (h_room (by decide)) nl_1 zk_1 (by decide) rfl rfl rfl (Nat.le_of_ble_eq_true rfl) ?_
  exact k1
set_option maxHeartbeats 1000000 in
set_option maxRecDepth 20000 in
theorem sg_X9_habitual_C_14 {E : HEn} {d : Nat} {Q : Option Value → HIh → Prop} {I : HIh} {h : Nat} {x2 : Int32} (a_h : h < NL) (b_h : Zk h = 3)
    (k1 : HCall E me_X8_wouldThrow (d + 3) [.ref 5, .ref 1, .ref h, .int x2] I (fun v9 J => HGo E (mF E (d + 4) Q) me_X9_habitual 20 [] (v9.toList ++ []) J))
    : HGo E (mF E (d + 4) Q) me_X9_habitual 14 [(0, .ref 1), (1, .ref h), (2, .int x2)] [.ref 5] I := by
  refine h_aload_n dX9_habitual_14 rfl 0 rfl ?_
  refine h_aload_n dX9_habitual_15 rfl 1 rfl ?_
  refine h_iload_n dX9_habitual_16 rfl 2 rfl ?_
  refine h_pick [] [] rfl ?_
  refine h_invU (As := [.ref 1, .ref h, .int x2]) (st := []) dX9_habitual_17 lk_X9_119_X0 (h_room (by decide)) nl_5 zk_5 (by decide) rfl rfl rfl (Nat.le_of_ble_eq_true rfl) ?_
  exact k1
set_option maxHeartbeats 1000000 in
set_option maxRecDepth 20000 in
theorem sg_X9_habitual_C_20 {E : HEn} {d : Nat} {Q : Option Value → HIh → Prop} {I : HIh} {s0 : Int32}
    (k1 : Q (some (.int s0)) I)
    : HGo E (mF E (d + 4) Q) me_X9_habitual 20 [] [.int s0] I := by
  exact h_iret dX9_habitual_20 rfl (k1)
set_option maxHeartbeats 1000000 in
set_option maxRecDepth 20000 in
theorem sg_X6_searchLayings_0 {E : HEn} {d : Nat} {Q : Option Value → HIh → Prop} {I : HIh} 
    (k1 : HGo E (mF E (d + 4) Q) me_X6_searchLayings 12 [(0, .ref 80), (1, .int 0)] [] (setI (setI I 80 (upd (I 80) 7 0)) 80 (upd (upd (I 80) 7 0) 8 (-1))))
    : HGo E (mF E (d + 4) Q) me_X6_searchLayings 0 [(0, .ref 80)] [] I := by
  refine h_aload_n dX6_searchLayings_0 rfl 0 rfl ?_
  refine h_iconst (v := 0) dX6_searchLayings_1 (by decide) ?_
  refine pf_5_7 dX6_searchLayings_2 hl_X6_39 nl_80 zk_80 ?_
  refine h_aload_n dX6_searchLayings_5 rfl 0 rfl ?_
  refine h_iconst (v := (-1)) dX6_searchLayings_6 (by decide) ?_
  refine pf_5_8 dX6_searchLayings_7 hl_X6_42 nl_80 zk_80 ?_
  refine h_iconst (v := 0) dX6_searchLayings_10 (by decide) ?_
  refine h_istore_n (L' := [(1, .int 0), (0, .ref 80)]) dX6_searchLayings_11 rfl (by decide) rfl ?_
  refine h_pick [1, 0] [(0, .ref 80), (1, .int 0)] rfl ?_
  exact k1
set_option maxHeartbeats 1000000 in
set_option maxRecDepth 20000 in
theorem sg_X6_searchLayings_12 {E : HEn} {d : Nat} {Q : Option Value → HIh → Prop} {I : HIh} {x1 : Int32}
    (k1 : 6 ≤ x1 → HGo E (mF E (d + 4) Q) me_X6_searchLayings 56 [(0, .ref 80), (1, .int ((1 : Int32) <<< ((2 * (fMin (I 1 9) 4)) &&& 31))), (2, .int 0)] [] I)
    (k2 : ¬ 6 ≤ x1 → vp_in x1 6)
    (k3 : ¬ 6 ≤ x1 → HGo E (mF E (d + 4) Q) me_X6_searchLayings 12 [(0, .ref 80), (1, .int (x1 + 1))] [] (setI (setI I 85 (upd (I 85) x1.toNatClampNeg (-1))) 86 (upd (I 86) x1.toNatClampNeg (-1))))
    : HGo E (mF E (d + 4) Q) me_X6_searchLayings 12 [(0, .ref 80), (1, .int x1)] [] I := by
  refine h_iload_n dX6_searchLayings_12 rfl 1 rfl ?_
  refine h_bipush (v := 6) dX6_searchLayings_13 (by decide) ?_
  refine h_icmp_ge (tgt := 38) dX6_searchLayings_15 (by decide) (fun c1 => ?_) (fun c1 => ?_)
  ·
    refine h_iconst (v := 1) dX6_searchLayings_38 (by decide) ?_
    refine h_iconst (v := 2) dX6_searchLayings_39 (by decide) ?_
    refine h_aload_n dX6_searchLayings_40 rfl 0 rfl ?_
    refine gf_5_0 dX6_searchLayings_41 hl_X6_31 nl_80 zk_80 zp_80_0 ?_
    refine gf_7_9 dX6_searchLayings_44 hl_X6_45 nl_1 zk_1 ?_
    refine h_iconst (v := 4) dX6_searchLayings_47 (by decide) ?_
    refine h_min dX6_searchLayings_48 wt_764 wt_315 wt_15 wt_316 (h_frm (Nat.le_of_ble_eq_true rfl)) ?_
    refine h_imul dX6_searchLayings_51 ?_
    refine h_ishl dX6_searchLayings_52 ?_
    refine h_istore_n (L' := [(1, .int ((1 : Int32) <<< ((2 * (fMin (I 1 9) 4)) &&& 31))), (0, .ref 80)]) dX6_searchLayings_53 rfl (by decide) rfl ?_
    refine h_iconst (v := 0) dX6_searchLayings_54 (by decide) ?_
    refine h_istore_n (L' := [(2, .int 0), (1, .int ((1 : Int32) <<< ((2 * (fMin (I 1 9) 4)) &&& 31))), (0, .ref 80)]) dX6_searchLayings_55 rfl (by decide) rfl ?_
    refine h_pick [2, 1, 0] [(0, .ref 80), (1, .int ((1 : Int32) <<< ((2 * (fMin (I 1 9) 4)) &&& 31))), (2, .int 0)] rfl ?_
    exact k1 c1
  ·
    refine h_aload_n dX6_searchLayings_18 rfl 0 rfl ?_
    refine gf_5_4 dX6_searchLayings_19 hl_X6_25 nl_80 zk_80 zp_80_4 ?_
    refine h_iload_n dX6_searchLayings_22 rfl 1 rfl ?_
    refine h_iconst (v := (-1)) dX6_searchLayings_23 (by decide) ?_
    refine h_iast dX6_searchLayings_24 nl_85 zk_85 (by rw [zn_85]; exact k2 c1) ?_
    refine h_aload_n dX6_searchLayings_25 rfl 0 rfl ?_
    refine gf_5_5 dX6_searchLayings_26 hl_X6_28 nl_80 zk_80 zp_80_5 ?_
    refine h_iload_n dX6_searchLayings_29 rfl 1 rfl ?_
    refine h_iconst (v := (-1)) dX6_searchLayings_30 (by decide) ?_
    refine h_iast dX6_searchLayings_31 nl_86 zk_86 (by rw [zn_86]; exact k2 c1) ?_
    refine h_iinc (v := (x1 + 1)) (L' := [(1, .int (x1 + 1)), (0, .ref 80)]) dX6_searchLayings_32 1 rfl rfl (by decide) rfl ?_
    refine h_goto (tgt := 12) dX6_searchLayings_35 (by decide) ?_
    refine h_pick [1, 0] [(0, .ref 80), (1, .int (x1 + 1))] rfl ?_
    exact k3 c1
set_option maxHeartbeats 1000000 in
set_option maxRecDepth 20000 in
theorem sg_X6_searchLayings_56 {E : HEn} {d : Nat} {Q : Option Value → HIh → Prop} {I : HIh} {x1 : Int32} {x2 : Int32}
    (k1 : x1 ≤ x2 → Q none I)
    (k2 : ¬ x1 ≤ x2 → HCall E me_X6_fits (d + 3) [.ref 80, .int x2] I (fun v9 J => HGo E (mF E (d + 4) Q) me_X6_searchLayings 66 [(0, .ref 80), (1, .int x1), (2, .int x2)] (v9.toList ++ []) J))
    : HGo E (mF E (d + 4) Q) me_X6_searchLayings 56 [(0, .ref 80), (1, .int x1), (2, .int x2)] [] I := by
  refine h_iload_n dX6_searchLayings_56 rfl 2 rfl ?_
  refine h_iload_n dX6_searchLayings_57 rfl 1 rfl ?_
  refine h_icmp_ge (tgt := 80) dX6_searchLayings_58 (by decide) (fun c1 => ?_) (fun c1 => ?_)
  ·
    exact h_vret dX6_searchLayings_80 rfl (k1 c1)
  ·
    refine h_aload_n dX6_searchLayings_61 rfl 0 rfl ?_
    refine h_iload_n dX6_searchLayings_62 rfl 2 rfl ?_
    refine h_invV (As := [.int x2]) (st := []) dX6_searchLayings_63 lk_X6_56 (h_room (by decide)) nl_80 zk_80 (by decide) rfl rfl rfl (Nat.le_of_ble_eq_true rfl) ?_
    exact k2 c1
set_option maxHeartbeats 1000000 in
set_option maxRecDepth 20000 in
theorem sg_X6_searchLayings_66 {E : HEn} {d : Nat} {Q : Option Value → HIh → Prop} {I : HIh} {x1 : Int32} {x2 : Int32} {s0 : Int32}
    (k1 : s0 = 0 → HGo E (mF E (d + 4) Q) me_X6_searchLayings 56 [(0, .ref 80), (1, .int x1), (2, .int (x2 + 1))] [] I)
    (k2 : ¬ s0 = 0 → HCall E me_X6_tally (d + 3) [.ref 80, .int x2] I (fun v9 J => HGo E (mF E (d + 4) Q) me_X6_searchLayings 74 [(0, .ref 80), (1, .int x1), (2, .int x2)] (v9.toList ++ []) J))
    : HGo E (mF E (d + 4) Q) me_X6_searchLayings 66 [(0, .ref 80), (1, .int x1), (2, .int x2)] [.int s0] I := by
  refine h_if_eq (tgt := 74) dX6_searchLayings_66 (by decide) (fun c1 => ?_) (fun c1 => ?_)
  ·
    refine h_iinc (v := (x2 + 1)) (L' := [(2, .int (x2 + 1)), (0, .ref 80), (1, .int x1)]) dX6_searchLayings_74 2 rfl rfl (by decide) rfl ?_
    refine h_goto (tgt := 56) dX6_searchLayings_77 (by decide) ?_
    refine h_pick [1, 2, 0] [(0, .ref 80), (1, .int x1), (2, .int (x2 + 1))] rfl ?_
    exact k1 c1
  ·
    refine h_aload_n dX6_searchLayings_69 rfl 0 rfl ?_
    refine h_iload_n dX6_searchLayings_70 rfl 2 rfl ?_
    refine h_invV (As := [.int x2]) (st := []) dX6_searchLayings_71 lk_X6_60 (h_room (by decide)) nl_80 zk_80 (by decide) rfl rfl rfl (Nat.le_of_ble_eq_true rfl) ?_
    exact k2 c1
set_option maxHeartbeats 1000000 in
set_option maxRecDepth 20000 in
theorem sg_X6_searchLayings_74 {E : HEn} {d : Nat} {Q : Option Value → HIh → Prop} {I : HIh} {x1 : Int32} {x2 : Int32}
    (k1 : HGo E (mF E (d + 4) Q) me_X6_searchLayings 56 [(0, .ref 80), (1, .int x1), (2, .int (x2 + 1))] [] I)
    : HGo E (mF E (d + 4) Q) me_X6_searchLayings 74 [(0, .ref 80), (1, .int x1), (2, .int x2)] [] I := by
  refine h_iinc (v := (x2 + 1)) (L' := [(2, .int (x2 + 1)), (0, .ref 80), (1, .int x1)]) dX6_searchLayings_74 2 rfl rfl (by decide) rfl ?_
  refine h_goto (tgt := 56) dX6_searchLayings_77 (by decide) ?_
  refine h_pick [1, 2, 0] [(0, .ref 80), (1, .int x1), (2, .int (x2 + 1))] rfl ?_
  exact k1
set_option maxHeartbeats 1000000 in
set_option maxRecDepth 20000 in
theorem sg_X7_readCoins_0 {E : HEn} {d : Nat} {Q : Option Value → HIh → Prop} {I : HIh} 
    (k1 : HGo E (mF E (d + 4) Q) me_X7_readCoins 22 [(0, .ref 19), (1, .int 0), (2, .int 0)] [] (setI (setI I 31 (fEmp (I 31))) 21 (upd (I 21) 9 0)))
    : HGo E (mF E (d + 4) Q) me_X7_readCoins 0 [(0, .ref 19)] [] I := by
  refine h_aload_n dX7_readCoins_0 rfl 0 rfl ?_
  refine gf_6_1 dX7_readCoins_1 hl_X7_18 nl_19 zk_19 zp_19_1 ?_
  refine gf_7_8 dX7_readCoins_4 hl_X7_127 nl_21 zk_21 zp_21_8 ?_
  refine h_invV (As := []) (st := []) dX7_readCoins_7 lk_X7_131 (h_room (by decide)) nl_30 zk_30 (by decide) rfl rfl rfl (Nat.le_of_ble_eq_true rfl) ?_
  refine c_X4_empty nl_30 zk_30 zp_30_0 nl_31 zk_31 zn_31 ?_
  refine h_aload_n dX7_readCoins_10 rfl 0 rfl ?_
  refine gf_6_1 dX7_readCoins_11 hl_X7_18 nl_19 zk_19 zp_19_1 ?_
  refine h_iconst (v := 0) dX7_readCoins_14 (by decide) ?_
  refine pf_7_9 dX7_readCoins_15 hl_X7_136 nl_21 zk_21 ?_
  refine h_iconst (v := 0) dX7_readCoins_18 (by decide) ?_
  refine h_istore_n (L' := [(1, .int 0), (0, .ref 19)]) dX7_readCoins_19 rfl (by decide) rfl ?_
  refine h_iconst (v := 0) dX7_readCoins_20 (by decide) ?_
  refine h_istore_n (L' := [(2, .int 0), (1, .int 0), (0, .ref 19)]) dX7_readCoins_21 rfl (by decide) rfl ?_
  refine h_pick [2, 1, 0] [(0, .ref 19), (1, .int 0), (2, .int 0)] rfl ?_
  exact k1
set_option maxHeartbeats 1000000 in
set_option maxRecDepth 20000 in
theorem sg_X7_readCoins_22 {E : HEn} {d : Nat} {Q : Option Value → HIh → Prop} {I : HIh} {x1 : Int32} {x2 : Int32}
    (k1 : 6 ≤ x2 → Q (some (.int 1)) I)
    (k2 : ¬ 6 ≤ x2 → x2 ≤ 0 → HCall E me_X7_readNumber (d + 3) [.ref 19, .int (x1 + 1), .int 999] I (fun v9 J => HGo E (mF E (d + 4) Q) me_X7_readCoins 52 [(0, .ref 19), (2, .int x2)] (v9.toList ++ []) J))
    (k3 : ¬ 6 ≤ x2 → ¬ x2 ≤ 0 → (I 19 6) = 2 → HCall E me_X7_readNumber (d + 3) [.ref 19, .int (x1 + 1), .int 999] I (fun v9 J => HGo E (mF E (d + 4) Q) me_X7_readCoins 52 [(0, .ref 19), (2, .int x2)] (v9.toList ++ []) J))
    (k4 : ¬ 6 ≤ x2 → ¬ x2 ≤ 0 → ¬ (I 19 6) = 2 → Q (some (.int 1)) I)
    : HGo E (mF E (d + 4) Q) me_X7_readCoins 22 [(0, .ref 19), (1, .int x1), (2, .int x2)] [] I := by
  refine h_iload_n dX7_readCoins_22 rfl 2 rfl ?_
  refine h_bipush (v := 6) dX7_readCoins_23 (by decide) ?_
  refine h_icmp_ge (tgt := 79) dX7_readCoins_25 (by decide) (fun c1 => ?_) (fun c1 => ?_)
  ·
    refine h_iconst (v := 1) dX7_readCoins_79 (by decide) ?_
    exact h_zret dX7_readCoins_80 rfl rfl (k1 c1)
  ·
    refine h_iload_n dX7_readCoins_28 rfl 2 rfl ?_
    refine h_if_le (tgt := 42) dX7_readCoins_29 (by decide) (fun c2 => ?_) (fun c2 => ?_)
    ·
      refine h_aload_n dX7_readCoins_42 rfl 0 rfl ?_
      refine h_iload_n dX7_readCoins_43 rfl 1 rfl ?_
      refine h_iconst (v := 1) dX7_readCoins_44 (by decide) ?_
      refine h_iadd dX7_readCoins_45 ?_
      refine h_sipush (v := 999) dX7_readCoins_46 (by decide) ?_
      refine h_pick [0, 2] [(0, .ref 19), (2, .int x2)] rfl ?_
      refine h_invV (As := [.int (x1 + 1), .int 999]) (st := []) dX7_readCoins_49 lk_X7_82 (h_room (by decide)) nl_19 zk_19 (by decide) rfl rfl rfl (Nat.le_of_ble_eq_true rfl) ?_
      exact k2 c1 c2
    ·
      refine h_aload_n dX7_readCoins_32 rfl 0 rfl ?_
      refine gf_6_6 dX7_readCoins_33 hl_X7_46 nl_19 zk_19 ?_
      refine h_iconst (v := 2) dX7_readCoins_36 (by decide) ?_
      refine h_icmp_eq (tgt := 42) dX7_readCoins_37 (by decide) (fun c3 => ?_) (fun c3 => ?_)
      ·
        refine h_aload_n dX7_readCoins_42 rfl 0 rfl ?_
        refine h_iload_n dX7_readCoins_43 rfl 1 rfl ?_
        refine h_iconst (v := 1) dX7_readCoins_44 (by decide) ?_
        refine h_iadd dX7_readCoins_45 ?_
        refine h_sipush (v := 999) dX7_readCoins_46 (by decide) ?_
        refine h_pick [0, 2] [(0, .ref 19), (2, .int x2)] rfl ?_
        refine h_invV (As := [.int (x1 + 1), .int 999]) (st := []) dX7_readCoins_49 lk_X7_82 (h_room (by decide)) nl_19 zk_19 (by decide) rfl rfl rfl (Nat.le_of_ble_eq_true rfl) ?_
        exact k3 c1 c2 c3
      ·
        refine h_iconst (v := 1) dX7_readCoins_40 (by decide) ?_
        exact h_zret dX7_readCoins_41 rfl rfl (k4 c1 c2 c3)
set_option maxHeartbeats 1000000 in
set_option maxRecDepth 20000 in
theorem sg_X7_readCoins_52 {E : HEn} {d : Nat} {Q : Option Value → HIh → Prop} {I : HIh} {x2 : Int32} {s0 : Int32}
    (k1 : ¬ s0 = 0 → HCall E me_X9_addKind (d + 3) [.ref 21, .int (I 19 7)] I (fun v9 J => HGo E (mF E (d + 4) Q) me_X7_readCoins 73 [(0, .ref 19), (1, .int (I 19 7)), (2, .int x2)] (v9.toList ++ []) J))
    (k2 : s0 = 0 → Q (some (.int 0)) I)
    : HGo E (mF E (d + 4) Q) me_X7_readCoins 52 [(0, .ref 19), (2, .int x2)] [.int s0] I := by
  refine h_if_ne (tgt := 57) dX7_readCoins_52 (by decide) (fun c1 => ?_) (fun c1 => ?_)
  ·
    refine h_aload_n dX7_readCoins_57 rfl 0 rfl ?_
    refine gf_6_7 dX7_readCoins_58 hl_X7_86 nl_19 zk_19 ?_
    refine h_istore_n (L' := [(1, .int (I 19 7)), (0, .ref 19), (2, .int x2)]) dX7_readCoins_61 rfl (by decide) rfl ?_
    refine h_aload_n dX7_readCoins_62 rfl 1 rfl ?_
    refine gf_6_1 dX7_readCoins_63 hl_X7_18 nl_19 zk_19 zp_19_1 ?_
    refine h_aload_n dX7_readCoins_66 rfl 1 rfl ?_
    refine gf_6_7 dX7_readCoins_67 hl_X7_86 nl_19 zk_19 ?_
    refine h_pick [1, 0, 2] [(0, .ref 19), (1, .int (I 19 7)), (2, .int x2)] rfl ?_
    refine h_invV (As := [.int (I 19 7)]) (st := []) dX7_readCoins_70 lk_X7_139 (h_room (by decide)) nl_21 zk_21 (by decide) rfl rfl rfl (Nat.le_of_ble_eq_true rfl) ?_
    exact k1 c1
  ·
    refine h_iconst (v := 0) dX7_readCoins_55 (by decide) ?_
    exact h_zret dX7_readCoins_56 rfl rfl (k2 c1)
set_option maxHeartbeats 1000000 in
set_option maxRecDepth 20000 in
theorem sg_X7_readCoins_73 {E : HEn} {d : Nat} {Q : Option Value → HIh → Prop} {I : HIh} {x1 : Int32} {x2 : Int32}
    (k1 : HGo E (mF E (d + 4) Q) me_X7_readCoins 22 [(0, .ref 19), (1, .int x1), (2, .int (x2 + 1))] [] I)
    : HGo E (mF E (d + 4) Q) me_X7_readCoins 73 [(0, .ref 19), (1, .int x1), (2, .int x2)] [] I := by
  refine h_iinc (v := (x2 + 1)) (L' := [(2, .int (x2 + 1)), (0, .ref 19), (1, .int x1)]) dX7_readCoins_73 2 rfl rfl (by decide) rfl ?_
  refine h_goto (tgt := 22) dX7_readCoins_76 (by decide) ?_
  refine h_pick [1, 2, 0] [(0, .ref 19), (1, .int x1), (2, .int (x2 + 1))] rfl ?_
  exact k1
set_option maxHeartbeats 1000000 in
set_option maxRecDepth 20000 in
theorem sg_X7_readAmount_0 {E : HEn} {d : Nat} {Q : Option Value → HIh → Prop} {I : HIh} {o : Int32}
    (k1 : HCall E me_X7_readNumber (d + 3) [.ref 19, .int 0, .int ((I 21 9) - 1)] I (fun v9 J => HGo E (mF E (d + 4) Q) me_X7_readAmount 14 [(0, .ref 19), (1, .int o)] (v9.toList ++ []) J))
    : HGo E (mF E (d + 4) Q) me_X7_readAmount 0 [(0, .ref 19), (1, .int o)] [] I := by
  refine h_aload_n dX7_readAmount_0 rfl 0 rfl ?_
  refine h_iconst (v := 0) dX7_readAmount_1 (by decide) ?_
  refine h_aload_n dX7_readAmount_2 rfl 0 rfl ?_
  refine gf_6_1 dX7_readAmount_3 hl_X7_18 nl_19 zk_19 zp_19_1 ?_
  refine gf_7_9 dX7_readAmount_6 hl_X7_136 nl_21 zk_21 ?_
  refine h_iconst (v := 1) dX7_readAmount_9 (by decide) ?_
  refine h_isub dX7_readAmount_10 ?_
  refine h_invV (As := [.int 0, .int ((I 21 9) - 1)]) (st := []) dX7_readAmount_11 lk_X7_82 (h_room (by decide)) nl_19 zk_19 (by decide) rfl rfl rfl (Nat.le_of_ble_eq_true rfl) ?_
  exact k1
set_option maxHeartbeats 1000000 in
set_option maxRecDepth 20000 in
theorem sg_X7_readAmount_14 {E : HEn} {d : Nat} {Q : Option Value → HIh → Prop} {I : HIh} {x1 : Int32} {s0 : Int32}
    (k1 : ¬ s0 = 0 → HCall E me_X7_readNumber (d + 3) [.ref 19, .int 0, .int 20] I (fun v9 J => HGo E (mF E (d + 4) Q) me_X7_readAmount 31 [(0, .ref 19), (1, .int x1), (2, .int (I 19 7))] (v9.toList ++ []) J))
    (k2 : s0 = 0 → Q (some (.int 0)) I)
    : HGo E (mF E (d + 4) Q) me_X7_readAmount 14 [(0, .ref 19), (1, .int x1)] [.int s0] I := by
  refine h_if_ne (tgt := 19) dX7_readAmount_14 (by decide) (fun c1 => ?_) (fun c1 => ?_)
  ·
    refine h_aload_n dX7_readAmount_19 rfl 0 rfl ?_
    refine gf_6_7 dX7_readAmount_20 hl_X7_86 nl_19 zk_19 ?_
    refine h_istore_n (L' := [(2, .int (I 19 7)), (0, .ref 19), (1, .int x1)]) dX7_readAmount_23 rfl (by decide) rfl ?_
    refine h_aload_n dX7_readAmount_24 rfl 1 rfl ?_
    refine h_iconst (v := 0) dX7_readAmount_25 (by decide) ?_
    refine h_bipush (v := 20) dX7_readAmount_26 (by decide) ?_
    refine h_pick [1, 2, 0] [(0, .ref 19), (1, .int x1), (2, .int (I 19 7))] rfl ?_
    refine h_invV (As := [.int 0, .int 20]) (st := []) dX7_readAmount_28 lk_X7_82 (h_room (by decide)) nl_19 zk_19 (by decide) rfl rfl rfl (Nat.le_of_ble_eq_true rfl) ?_
    exact k1 c1
  ·
    refine h_iconst (v := 0) dX7_readAmount_17 (by decide) ?_
    exact h_zret dX7_readAmount_18 rfl rfl (k2 c1)
set_option maxHeartbeats 1000000 in
set_option maxRecDepth 20000 in
theorem sg_X7_readAmount_31 {E : HEn} {d : Nat} {Q : Option Value → HIh → Prop} {I : HIh} {x1 : Int32} {x2 : Int32} {s0 : Int32}
    (k1 : ¬ s0 = 0 → Q (some (.int 1)) (setI I 31 (fAdd (I 31) x1 x2 ((I 19 7) - (fOf (I 31) x1 x2)))))
    (k2 : s0 = 0 → Q (some (.int 0)) I)
    : HGo E (mF E (d + 4) Q) me_X7_readAmount 31 [(0, .ref 19), (1, .int x1), (2, .int x2)] [.int s0] I := by
  refine h_if_ne (tgt := 36) dX7_readAmount_31 (by decide) (fun c1 => ?_) (fun c1 => ?_)
  ·
    refine h_aload_n dX7_readAmount_36 rfl 0 rfl ?_
    refine gf_6_1 dX7_readAmount_37 hl_X7_18 nl_19 zk_19 zp_19_1 ?_
    refine gf_7_8 dX7_readAmount_40 hl_X7_127 nl_21 zk_21 zp_21_8 ?_
    refine h_iload_n dX7_readAmount_43 rfl 1 rfl ?_
    refine h_iload_n dX7_readAmount_44 rfl 2 rfl ?_
    refine h_aload_n dX7_readAmount_45 rfl 0 rfl ?_
    refine gf_6_7 dX7_readAmount_46 hl_X7_86 nl_19 zk_19 ?_
    refine h_aload_n dX7_readAmount_49 rfl 0 rfl ?_
    refine gf_6_1 dX7_readAmount_50 hl_X7_18 nl_19 zk_19 zp_19_1 ?_
    refine gf_7_8 dX7_readAmount_53 hl_X7_127 nl_21 zk_21 zp_21_8 ?_
    refine h_iload_n dX7_readAmount_56 rfl 1 rfl ?_
    refine h_iload_n dX7_readAmount_57 rfl 2 rfl ?_
    refine h_invV (As := [.int x1, .int x2]) (st := [.int (I 19 7), .int x2, .int x1, .ref 30]) dX7_readAmount_58 lk_X7_143 (h_room (by decide)) nl_30 zk_30 (by decide) rfl rfl rfl (Nat.le_of_ble_eq_true rfl) ?_
    refine c_X4_of nl_30 zk_30 zp_30_0 nl_31 zk_31 zn_31 ?_
    refine h_isub dX7_readAmount_61 ?_
    refine h_invV (As := [.int x1, .int x2, .int ((I 19 7) - (fOf (I 31) x1 x2))]) (st := []) dX7_readAmount_62 lk_X7_146 (h_room (by decide)) nl_30 zk_30 (by decide) rfl rfl rfl (Nat.le_of_ble_eq_true rfl) ?_
    refine c_X4_add nl_30 zk_30 zp_30_0 nl_31 zk_31 zn_31 ?_
    refine h_iconst (v := 1) dX7_readAmount_65 (by decide) ?_
    exact h_zret dX7_readAmount_66 rfl rfl (k1 c1)
  ·
    refine h_iconst (v := 0) dX7_readAmount_34 (by decide) ?_
    exact h_zret dX7_readAmount_35 rfl rfl (k2 c1)
set_option maxHeartbeats 1000000 in
set_option maxRecDepth 20000 in
theorem sg_X7_readHabit_0 {E : HEn} {d : Nat} {Q : Option Value → HIh → Prop} {I : HIh} {b : Int32}
    (k1 : HCall E me_X7_readNumber (d + 3) [.ref 19, .int 0, .int 3] I (fun v9 J => HGo E (mF E (d + 4) Q) me_X7_readHabit 6 [(0, .ref 19), (1, .int b)] (v9.toList ++ []) J))
    : HGo E (mF E (d + 4) Q) me_X7_readHabit 0 [(0, .ref 19), (1, .int b)] [] I := by
  refine h_aload_n dX7_readHabit_0 rfl 0 rfl ?_
  refine h_iconst (v := 0) dX7_readHabit_1 (by decide) ?_
  refine h_iconst (v := 3) dX7_readHabit_2 (by decide) ?_
  refine h_invV (As := [.int 0, .int 3]) (st := []) dX7_readHabit_3 lk_X7_82 (h_room (by decide)) nl_19 zk_19 (by decide) rfl rfl rfl (Nat.le_of_ble_eq_true rfl) ?_
  exact k1
set_option maxHeartbeats 1000000 in
set_option maxRecDepth 20000 in
theorem sg_X7_readHabit_6 {E : HEn} {d : Nat} {Q : Option Value → HIh → Prop} {I : HIh} {x1 : Int32} {s0 : Int32}
    (k1 : ¬ s0 = 0 → HCall E me_X9_setHabit (d + 3) [.ref 21, .int (I 19 7), .int x1, .int 0] I (fun v9 J => HGo E (mF E (d + 4) Q) me_X7_readHabit 24 [] (v9.toList ++ []) J))
    (k2 : s0 = 0 → Q (some (.int 0)) I)
    : HGo E (mF E (d + 4) Q) me_X7_readHabit 6 [(0, .ref 19), (1, .int x1)] [.int s0] I := by
  refine h_if_ne (tgt := 11) dX7_readHabit_6 (by decide) (fun c1 => ?_) (fun c1 => ?_)
  ·
    refine h_aload_n dX7_readHabit_11 rfl 0 rfl ?_
    refine gf_6_1 dX7_readHabit_12 hl_X7_18 nl_19 zk_19 zp_19_1 ?_
    refine h_aload_n dX7_readHabit_15 rfl 0 rfl ?_
    refine gf_6_7 dX7_readHabit_16 hl_X7_86 nl_19 zk_19 ?_
    refine h_iload_n dX7_readHabit_19 rfl 1 rfl ?_
    refine h_iconst (v := 0) dX7_readHabit_20 (by decide) ?_
    refine h_pick [] [] rfl ?_
    refine h_invV (As := [.int (I 19 7), .int x1, .int 0]) (st := []) dX7_readHabit_21 lk_X7_150 (h_room (by decide)) nl_21 zk_21 (by decide) rfl rfl rfl (Nat.le_of_ble_eq_true rfl) ?_
    exact k1 c1
  ·
    refine h_iconst (v := 0) dX7_readHabit_9 (by decide) ?_
    exact h_zret dX7_readHabit_10 rfl rfl (k2 c1)
set_option maxHeartbeats 1000000 in
set_option maxRecDepth 20000 in
theorem sg_X7_readHabit_24 {E : HEn} {d : Nat} {Q : Option Value → HIh → Prop} {I : HIh} 
    (k1 : Q (some (.int 1)) I)
    : HGo E (mF E (d + 4) Q) me_X7_readHabit 24 [] [] I := by
  refine h_iconst (v := 1) dX7_readHabit_24 (by decide) ?_
  exact h_zret dX7_readHabit_25 rfl rfl (k1)
set_option maxHeartbeats 1000000 in
set_option maxRecDepth 20000 in
theorem sg_X7_readWaiting_0 {E : HEn} {d : Nat} {Q : Option Value → HIh → Prop} {I : HIh} 
    (k1 : HCall E me_X7_readNumber (d + 3) [.ref 19, .int 0, .int 3] I (fun v9 J => HGo E (mF E (d + 4) Q) me_X7_readWaiting 6 [(0, .ref 19)] (v9.toList ++ []) J))
    : HGo E (mF E (d + 4) Q) me_X7_readWaiting 0 [(0, .ref 19)] [] I := by
  refine h_aload_n dX7_readWaiting_0 rfl 0 rfl ?_
  refine h_iconst (v := 0) dX7_readWaiting_1 (by decide) ?_
  refine h_iconst (v := 3) dX7_readWaiting_2 (by decide) ?_
  refine h_invV (As := [.int 0, .int 3]) (st := []) dX7_readWaiting_3 lk_X7_82 (h_room (by decide)) nl_19 zk_19 (by decide) rfl rfl rfl (Nat.le_of_ble_eq_true rfl) ?_
  exact k1
set_option maxHeartbeats 1000000 in
set_option maxRecDepth 20000 in
theorem sg_X7_readWaiting_6 {E : HEn} {d : Nat} {Q : Option Value → HIh → Prop} {I : HIh} {s0 : Int32}
    (k1 : ¬ s0 = 0 → HCall E me_X7_readNumber (d + 3) [.ref 19, .int 0, .int 99] I (fun v9 J => HGo E (mF E (d + 4) Q) me_X7_readWaiting 23 [(0, .ref 19), (1, .int (I 19 7))] (v9.toList ++ []) J))
    (k2 : s0 = 0 → Q (some (.int 0)) I)
    : HGo E (mF E (d + 4) Q) me_X7_readWaiting 6 [(0, .ref 19)] [.int s0] I := by
  refine h_if_ne (tgt := 11) dX7_readWaiting_6 (by decide) (fun c1 => ?_) (fun c1 => ?_)
  ·
    refine h_aload_n dX7_readWaiting_11 rfl 0 rfl ?_
    refine gf_6_7 dX7_readWaiting_12 hl_X7_86 nl_19 zk_19 ?_
    refine h_istore_n (L' := [(1, .int (I 19 7)), (0, .ref 19)]) dX7_readWaiting_15 rfl (by decide) rfl ?_
    refine h_aload_n dX7_readWaiting_16 rfl 1 rfl ?_
    refine h_iconst (v := 0) dX7_readWaiting_17 (by decide) ?_
    refine h_bipush (v := 99) dX7_readWaiting_18 (by decide) ?_
    refine h_pick [1, 0] [(0, .ref 19), (1, .int (I 19 7))] rfl ?_
    refine h_invV (As := [.int 0, .int 99]) (st := []) dX7_readWaiting_20 lk_X7_82 (h_room (by decide)) nl_19 zk_19 (by decide) rfl rfl rfl (Nat.le_of_ble_eq_true rfl) ?_
    exact k1 c1
  ·
    refine h_iconst (v := 0) dX7_readWaiting_9 (by decide) ?_
    exact h_zret dX7_readWaiting_10 rfl rfl (k2 c1)
set_option maxHeartbeats 1000000 in
set_option maxRecDepth 20000 in
theorem sg_X7_readWaiting_23 {E : HEn} {d : Nat} {Q : Option Value → HIh → Prop} {I : HIh} {x1 : Int32} {s0 : Int32}
    (k1 : ¬ s0 = 0 → HCall E me_X9_setHabit (d + 3) [.ref 21, .int x1, .int 2, .int (I 19 7)] I (fun v9 J => HGo E (mF E (d + 4) Q) me_X7_readWaiting 41 [] (v9.toList ++ []) J))
    (k2 : s0 = 0 → Q (some (.int 0)) I)
    : HGo E (mF E (d + 4) Q) me_X7_readWaiting 23 [(0, .ref 19), (1, .int x1)] [.int s0] I := by
  refine h_if_ne (tgt := 28) dX7_readWaiting_23 (by decide) (fun c1 => ?_) (fun c1 => ?_)
  ·
    refine h_aload_n dX7_readWaiting_28 rfl 0 rfl ?_
    refine gf_6_1 dX7_readWaiting_29 hl_X7_18 nl_19 zk_19 zp_19_1 ?_
    refine h_iload_n dX7_readWaiting_32 rfl 1 rfl ?_
    refine h_iconst (v := 2) dX7_readWaiting_33 (by decide) ?_
    refine h_aload_n dX7_readWaiting_34 rfl 0 rfl ?_
    refine gf_6_7 dX7_readWaiting_35 hl_X7_86 nl_19 zk_19 ?_
    refine h_pick [] [] rfl ?_
    refine h_invV (As := [.int x1, .int 2, .int (I 19 7)]) (st := []) dX7_readWaiting_38 lk_X7_150 (h_room (by decide)) nl_21 zk_21 (by decide) rfl rfl rfl (Nat.le_of_ble_eq_true rfl) ?_
    exact k1 c1
  ·
    refine h_iconst (v := 0) dX7_readWaiting_26 (by decide) ?_
    exact h_zret dX7_readWaiting_27 rfl rfl (k2 c1)
set_option maxHeartbeats 1000000 in
set_option maxRecDepth 20000 in
theorem sg_X7_readWaiting_41 {E : HEn} {d : Nat} {Q : Option Value → HIh → Prop} {I : HIh} 
    (k1 : Q (some (.int 1)) I)
    : HGo E (mF E (d + 4) Q) me_X7_readWaiting 41 [] [] I := by
  refine h_iconst (v := 1) dX7_readWaiting_41 (by decide) ?_
  exact h_zret dX7_readWaiting_42 rfl rfl (k1)
set_option maxHeartbeats 1000000 in
set_option maxRecDepth 20000 in
theorem sg_X7_readVisits_0 {E : HEn} {d : Nat} {Q : Option Value → HIh → Prop} {I : HIh} 
    (k1 : HGo E (mF E (d + 4) Q) me_X7_readVisits 2 [(0, .ref 19), (1, .int 0)] [] I)
    : HGo E (mF E (d + 4) Q) me_X7_readVisits 0 [(0, .ref 19)] [] I := by
  refine h_iconst (v := 0) dX7_readVisits_0 (by decide) ?_
  refine h_istore_n (L' := [(1, .int 0), (0, .ref 19)]) dX7_readVisits_1 rfl (by decide) rfl ?_
  refine h_pick [1, 0] [(0, .ref 19), (1, .int 0)] rfl ?_
  exact k1
set_option maxHeartbeats 1000000 in
set_option maxRecDepth 20000 in
theorem sg_X7_readVisits_2 {E : HEn} {d : Nat} {Q : Option Value → HIh → Prop} {I : HIh} {x1 : Int32}
    (k1 : 9 ≤ x1 → Q (some (.int 1)) I)
    (k2 : ¬ 9 ≤ x1 → x1 ≤ 0 → 24 ≤ (I 21 10) → Q (some (.int 0)) I)
    (k3 : ¬ 9 ≤ x1 → x1 ≤ 0 → ¬ 24 ≤ (I 21 10) → HCall E me_X7_readNumber (d + 3) [.ref 19, .int 0, .int 3] I (fun v9 J => HGo E (mF E (d + 4) Q) me_X7_readVisits 40 [(0, .ref 19), (1, .int x1)] (v9.toList ++ []) J))
    (k4 : ¬ 9 ≤ x1 → ¬ x1 ≤ 0 → (I 19 6) = 2 → 24 ≤ (I 21 10) → Q (some (.int 0)) I)
    (k5 : ¬ 9 ≤ x1 → ¬ x1 ≤ 0 → (I 19 6) = 2 → ¬ 24 ≤ (I 21 10) → HCall E me_X7_readNumber (d + 3) [.ref 19, .int 0, .int 3] I (fun v9 J => HGo E (mF E (d + 4) Q) me_X7_readVisits 40 [(0, .ref 19), (1, .int x1)] (v9.toList ++ []) J))
    (k6 : ¬ 9 ≤ x1 → ¬ x1 ≤ 0 → ¬ (I 19 6) = 2 → Q (some (.int 1)) I)
    : HGo E (mF E (d + 4) Q) me_X7_readVisits 2 [(0, .ref 19), (1, .int x1)] [] I := by
  refine h_iload_n dX7_readVisits_2 rfl 1 rfl ?_
  refine h_bipush (v := 9) dX7_readVisits_3 (by decide) ?_
  refine h_icmp_ge (tgt := 62) dX7_readVisits_5 (by decide) (fun c1 => ?_) (fun c1 => ?_)
  ·
    refine h_iconst (v := 1) dX7_readVisits_62 (by decide) ?_
    exact h_zret dX7_readVisits_63 rfl rfl (k1 c1)
  ·
    refine h_iload_n dX7_readVisits_8 rfl 1 rfl ?_
    refine h_if_le (tgt := 22) dX7_readVisits_9 (by decide) (fun c2 => ?_) (fun c2 => ?_)
    ·
      refine h_aload_n dX7_readVisits_22 rfl 0 rfl ?_
      refine gf_6_1 dX7_readVisits_23 hl_X7_18 nl_19 zk_19 zp_19_1 ?_
      refine gf_7_10 dX7_readVisits_26 hl_X7_153 nl_21 zk_21 ?_
      refine h_bipush (v := 24) dX7_readVisits_29 (by decide) ?_
      refine h_icmp_ge (tgt := 43) dX7_readVisits_31 (by decide) (fun c3 => ?_) (fun c3 => ?_)
      ·
        refine h_iconst (v := 0) dX7_readVisits_43 (by decide) ?_
        exact h_zret dX7_readVisits_44 rfl rfl (k2 c1 c2 c3)
      ·
        refine h_aload_n dX7_readVisits_34 rfl 0 rfl ?_
        refine h_iconst (v := 0) dX7_readVisits_35 (by decide) ?_
        refine h_iconst (v := 3) dX7_readVisits_36 (by decide) ?_
        refine h_invV (As := [.int 0, .int 3]) (st := []) dX7_readVisits_37 lk_X7_82 (h_room (by decide)) nl_19 zk_19 (by decide) rfl rfl rfl (Nat.le_of_ble_eq_true rfl) ?_
        exact k3 c1 c2 c3
    ·
      refine h_aload_n dX7_readVisits_12 rfl 0 rfl ?_
      refine gf_6_6 dX7_readVisits_13 hl_X7_46 nl_19 zk_19 ?_
      refine h_iconst (v := 2) dX7_readVisits_16 (by decide) ?_
      refine h_icmp_eq (tgt := 22) dX7_readVisits_17 (by decide) (fun c4 => ?_) (fun c4 => ?_)
      ·
        refine h_aload_n dX7_readVisits_22 rfl 0 rfl ?_
        refine gf_6_1 dX7_readVisits_23 hl_X7_18 nl_19 zk_19 zp_19_1 ?_
        refine gf_7_10 dX7_readVisits_26 hl_X7_153 nl_21 zk_21 ?_
        refine h_bipush (v := 24) dX7_readVisits_29 (by decide) ?_
        refine h_icmp_ge (tgt := 43) dX7_readVisits_31 (by decide) (fun c5 => ?_) (fun c5 => ?_)
        ·
          refine h_iconst (v := 0) dX7_readVisits_43 (by decide) ?_
          exact h_zret dX7_readVisits_44 rfl rfl (k4 c1 c2 c4 c5)
        ·
          refine h_aload_n dX7_readVisits_34 rfl 0 rfl ?_
          refine h_iconst (v := 0) dX7_readVisits_35 (by decide) ?_
          refine h_iconst (v := 3) dX7_readVisits_36 (by decide) ?_
          refine h_invV (As := [.int 0, .int 3]) (st := []) dX7_readVisits_37 lk_X7_82 (h_room (by decide)) nl_19 zk_19 (by decide) rfl rfl rfl (Nat.le_of_ble_eq_true rfl) ?_
          exact k5 c1 c2 c4 c5
      ·
        refine h_iconst (v := 1) dX7_readVisits_20 (by decide) ?_
        exact h_zret dX7_readVisits_21 rfl rfl (k6 c1 c2 c4)
set_option maxHeartbeats 1000000 in
set_option maxRecDepth 20000 in
theorem sg_X7_readVisits_40 {E : HEn} {d : Nat} {Q : Option Value → HIh → Prop} {I : HIh} {x1 : Int32} {s0 : Int32}
    (k1 : ¬ s0 = 0 → HCall E me_X9_addVisit (d + 3) [.ref 21, .int (I 19 7)] I (fun v9 J => HGo E (mF E (d + 4) Q) me_X7_readVisits 56 [(0, .ref 19), (1, .int x1)] (v9.toList ++ []) J))
    (k2 : s0 = 0 → Q (some (.int 0)) I)
    : HGo E (mF E (d + 4) Q) me_X7_readVisits 40 [(0, .ref 19), (1, .int x1)] [.int s0] I := by
  refine h_if_ne (tgt := 45) dX7_readVisits_40 (by decide) (fun c1 => ?_) (fun c1 => ?_)
  ·
    refine h_aload_n dX7_readVisits_45 rfl 0 rfl ?_
    refine gf_6_1 dX7_readVisits_46 hl_X7_18 nl_19 zk_19 zp_19_1 ?_
    refine h_aload_n dX7_readVisits_49 rfl 0 rfl ?_
    refine gf_6_7 dX7_readVisits_50 hl_X7_86 nl_19 zk_19 ?_
    refine h_invV (As := [.int (I 19 7)]) (st := []) dX7_readVisits_53 lk_X7_156 (h_room (by decide)) nl_21 zk_21 (by decide) rfl rfl rfl (Nat.le_of_ble_eq_true rfl) ?_
    exact k1 c1
  ·
    refine h_iconst (v := 0) dX7_readVisits_43 (by decide) ?_
    exact h_zret dX7_readVisits_44 rfl rfl (k2 c1)
set_option maxHeartbeats 1000000 in
set_option maxRecDepth 20000 in
theorem sg_X7_readVisits_56 {E : HEn} {d : Nat} {Q : Option Value → HIh → Prop} {I : HIh} {x1 : Int32}
    (k1 : HGo E (mF E (d + 4) Q) me_X7_readVisits 2 [(0, .ref 19), (1, .int (x1 + 1))] [] I)
    : HGo E (mF E (d + 4) Q) me_X7_readVisits 56 [(0, .ref 19), (1, .int x1)] [] I := by
  refine h_iinc (v := (x1 + 1)) (L' := [(1, .int (x1 + 1)), (0, .ref 19)]) dX7_readVisits_56 1 rfl rfl (by decide) rfl ?_
  refine h_goto (tgt := 2) dX7_readVisits_59 (by decide) ?_
  refine h_pick [1, 0] [(0, .ref 19), (1, .int (x1 + 1))] rfl ?_
  exact k1
set_option maxHeartbeats 1000000 in
set_option maxRecDepth 20000 in
theorem sg_X7_readLaw_0 {E : HEn} {d : Nat} {Q : Option Value → HIh → Prop} {I : HIh} 
    (k1 : HCall E me_X7_readNumber (d + 3) [.ref 19, .int 0, .int 3] I (fun v9 J => HGo E (mF E (d + 4) Q) me_X7_readLaw 6 [(0, .ref 19)] (v9.toList ++ []) J))
    : HGo E (mF E (d + 4) Q) me_X7_readLaw 0 [(0, .ref 19)] [] I := by
  refine h_aload_n dX7_readLaw_0 rfl 0 rfl ?_
  refine h_iconst (v := 0) dX7_readLaw_1 (by decide) ?_
  refine h_iconst (v := 3) dX7_readLaw_2 (by decide) ?_
  refine h_invV (As := [.int 0, .int 3]) (st := []) dX7_readLaw_3 lk_X7_82 (h_room (by decide)) nl_19 zk_19 (by decide) rfl rfl rfl (Nat.le_of_ble_eq_true rfl) ?_
  exact k1
set_option maxHeartbeats 1000000 in
set_option maxRecDepth 20000 in
theorem sg_X7_readLaw_6 {E : HEn} {d : Nat} {Q : Option Value → HIh → Prop} {I : HIh} {s0 : Int32}
    (k1 : ¬ s0 = 0 → Q (some (.int 1)) (setI I 21 (upd (I 21) 11 (I 19 7))))
    (k2 : s0 = 0 → Q (some (.int 0)) I)
    : HGo E (mF E (d + 4) Q) me_X7_readLaw 6 [(0, .ref 19)] [.int s0] I := by
  refine h_if_ne (tgt := 11) dX7_readLaw_6 (by decide) (fun c1 => ?_) (fun c1 => ?_)
  ·
    refine h_aload_n dX7_readLaw_11 rfl 0 rfl ?_
    refine gf_6_1 dX7_readLaw_12 hl_X7_18 nl_19 zk_19 zp_19_1 ?_
    refine h_aload_n dX7_readLaw_15 rfl 0 rfl ?_
    refine gf_6_7 dX7_readLaw_16 hl_X7_86 nl_19 zk_19 ?_
    refine pf_7_11 dX7_readLaw_19 hl_X7_159 nl_21 zk_21 ?_
    refine h_iconst (v := 1) dX7_readLaw_22 (by decide) ?_
    exact h_zret dX7_readLaw_23 rfl rfl (k1 c1)
  ·
    refine h_iconst (v := 0) dX7_readLaw_9 (by decide) ?_
    exact h_zret dX7_readLaw_10 rfl rfl (k2 c1)
set_option maxHeartbeats 1000000 in
set_option maxRecDepth 20000 in
theorem sg_X2_weighNext_0 {E : HEn} {d : Nat} {Q : Option Value → HIh → Prop} {I : HIh} {h c g e : Nat} {v : Int32} {k : Int32} (a_h : h < NL) (b_h : Zk h = 3) (p_h : Zp h 0 = c) (a_c : c < NL) (b_c : Zk c = 11) (n_c : Zn c = 30) (a_g : g < NL) (b_g : Zk g = 3) (p_g : Zp g 0 = e) (a_e : e < NL) (b_e : Zk e = 11) (n_e : Zn e = 30) (hs_g : Zp 33 (v + 1).toNatClampNeg = g) (hs_h : Zp 33 v.toNatClampNeg = h)
    (k1 : v < 0 → Q (some (.long 0)) I)
    (k2 : ¬ v < 0 → (v + 1) < 11 → vp_in (v + 1) 11)
    (k3 : ¬ v < 0 → (v + 1) < 11 → vp_in v 11)
    (k4 : ¬ v < 0 → (v + 1) < 11 → HCall E me_X9_letVisit (d + 9) [.ref 1, .ref g, .int k] (setI (setI I e (va_cpy (I c) (I e) 0 0 30)) g (upd ((setI I e (va_cpy (I c) (I e) 0 0 30)) g) 1 ((setI I e (va_cpy (I c) (I e) 0 0 30)) h 1))) (fun v9 J => HGo E (mF E (d + 10) Q) me_X2_weighNext 47 [(0, .ref 32), (1, .int v)] (v9.toList ++ []) J))
    (k5 : ¬ v < 0 → ¬ (v + 1) < 11 → Q (some (.long 0)) I)
    : HGo E (mF E (d + 10) Q) me_X2_weighNext 0 [(0, .ref 32), (1, .int v), (2, .int k)] [] I := by
  refine h_iload_n dX2_weighNext_0 rfl 1 rfl ?_
  refine h_if_lt (tgt := 12) dX2_weighNext_1 (by decide) (fun c1 => ?_) (fun c1 => ?_)
  ·
    refine h_lconst (v := 0) dX2_weighNext_12 (by decide) ?_
    exact h_lret dX2_weighNext_13 rfl (k1 c1)
  ·
    refine h_iload_n dX2_weighNext_4 rfl 1 rfl ?_
    refine h_iconst (v := 1) dX2_weighNext_5 (by decide) ?_
    refine h_iadd dX2_weighNext_6 ?_
    refine h_bipush (v := 11) dX2_weighNext_7 (by decide) ?_
    refine h_icmp_lt (tgt := 14) dX2_weighNext_9 (by decide) (fun c2 => ?_) (fun c2 => ?_)
    ·
      refine h_aload_n dX2_weighNext_14 rfl 0 rfl ?_
      refine gf_1_1 dX2_weighNext_15 hl_X2_13 nl_32 zk_32 zp_32_1 ?_
      refine h_iload_n dX2_weighNext_18 rfl 1 rfl ?_
      refine h_iconst (v := 1) dX2_weighNext_19 (by decide) ?_
      refine h_iadd dX2_weighNext_20 ?_
      refine h_aald13z dX2_weighNext_21 nl_33 zk_33 (by rw [zn_33]; exact k2 c1 c2) hs_g ?_
      refine h_aload_n dX2_weighNext_22 rfl 0 rfl ?_
      refine gf_1_1 dX2_weighNext_23 hl_X2_13 nl_32 zk_32 zp_32_1 ?_
      refine h_iload_n dX2_weighNext_26 rfl 1 rfl ?_
      refine h_aald13z dX2_weighNext_27 nl_33 zk_33 (by rw [zn_33]; exact k3 c1 c2) hs_h ?_
      refine h_invV (As := [.ref h]) (st := []) dX2_weighNext_28 lk_X2_53 (h_room (by decide)) a_g b_g (by decide) rfl rfl rfl (Nat.le_of_ble_eq_true rfl) ?_
      refine c_X4_copyFrom a_g b_g p_g a_e b_e n_e a_h b_h p_h a_c b_c n_c ?_
      refine h_aload_n dX2_weighNext_31 rfl 0 rfl ?_
      refine gf_1_0 dX2_weighNext_32 hl_X2_29 nl_32 zk_32 zp_32_0 ?_
      refine h_aload_n dX2_weighNext_35 rfl 0 rfl ?_
      refine gf_1_1 dX2_weighNext_36 hl_X2_13 nl_32 zk_32 zp_32_1 ?_
      refine h_iload_n dX2_weighNext_39 rfl 1 rfl ?_
      refine h_iconst (v := 1) dX2_weighNext_40 (by decide) ?_
      refine h_iadd dX2_weighNext_41 ?_
      refine h_aald13z dX2_weighNext_42 nl_33 zk_33 (by rw [zn_33]; exact k2 c1 c2) hs_g ?_
      refine h_iload_n dX2_weighNext_43 rfl 2 rfl ?_
      refine h_pick [0, 1] [(0, .ref 32), (1, .int v)] rfl ?_
      refine h_invV (As := [.ref g, .int k]) (st := []) dX2_weighNext_44 lk_X2_71 (h_room (by decide)) nl_1 zk_1 (by decide) rfl rfl rfl (Nat.le_of_ble_eq_true rfl) ?_
      exact k4 c1 c2
    ·
      refine h_lconst (v := 0) dX2_weighNext_12 (by decide) ?_
      exact h_lret dX2_weighNext_13 rfl (k5 c1 c2)
set_option maxHeartbeats 1000000 in
set_option maxRecDepth 20000 in
theorem sg_X2_weighNext_47 {E : HEn} {d : Nat} {Q : Option Value → HIh → Prop} {I : HIh} {x1 : Int32}
    (k1 : HCall E me_X2_weigh (d + 9) [.ref 32, .int (x1 + 1)] I (fun v9 J => HGo E (mF E (d + 10) Q) me_X2_weighNext 54 [] (v9.toList ++ []) J))
    : HGo E (mF E (d + 10) Q) me_X2_weighNext 47 [(0, .ref 32), (1, .int x1)] [] I := by
  refine h_aload_n dX2_weighNext_47 rfl 0 rfl ?_
  refine h_iload_n dX2_weighNext_48 rfl 1 rfl ?_
  refine h_iconst (v := 1) dX2_weighNext_49 (by decide) ?_
  refine h_iadd dX2_weighNext_50 ?_
  refine h_pick [] [] rfl ?_
  refine h_invS (As := [.ref 32, .int (x1 + 1)]) (st := []) dX2_weighNext_51 lk_X2_126 (h_room (by decide)) rfl rfl (Nat.le_of_ble_eq_true rfl) ?_
  exact k1
set_option maxHeartbeats 1000000 in
set_option maxRecDepth 20000 in
theorem sg_X2_weighNext_54 {E : HEn} {d : Nat} {Q : Option Value → HIh → Prop} {I : HIh} {s0 : Int64}
    (k1 : Q (some (.long s0)) I)
    : HGo E (mF E (d + 10) Q) me_X2_weighNext 54 [] [.long s0] I := by
  exact h_lret dX2_weighNext_54 rfl (k1)
set_option maxHeartbeats 1000000 in
set_option maxRecDepth 20000 in
theorem sg_X2_tempts_N_0 {E : HEn} {d : Nat} {Q : Option Value → HIh → Prop} {I : HIh} {p : Int32} {x : Int32} {y : Int32} {z : Int32}
    (k1 : HCall E me_X9_folkOf (d + 3) [.ref 1, .int p] (setI (setI (setI I 35 (fAdd (I 35) 4 x 1)) 35 (fAdd (fAdd (I 35) 4 x 1) 4 y 1)) 35 (fAdd (fAdd (fAdd (I 35) 4 x 1) 4 y 1) 4 z 1)) (fun v9 J => HGo E (mF E (d + 4) Q) me_X2_tempts 17 [(0, .ref 32), (1, .int p), (2, .int x), (3, .int y), (4, .int z)] (v9.toList ++ []) J))
    : HGo E (mF E (d + 4) Q) me_X2_tempts 0 [(0, .ref 32), (1, .int p), (2, .int x), (3, .int y), (4, .int z)] [] I := by
  refine h_aload_n dX2_tempts_0 rfl 0 rfl ?_
  refine h_iload_n dX2_tempts_1 rfl 2 rfl ?_
  refine h_iload_n dX2_tempts_2 rfl 3 rfl ?_
  refine h_iload dX2_tempts_3 4 rfl ?_
  refine h_iconst (v := 1) dX2_tempts_5 (by decide) ?_
  refine h_invV (As := [.int x, .int y, .int z, .int 1]) (st := []) dX2_tempts_6 lk_X2_147 (h_room (by decide)) nl_32 zk_32 (by decide) rfl rfl rfl (Nat.le_of_ble_eq_true rfl) ?_
  refine c_X2_putIn ?_
  refine h_aload_n dX2_tempts_9 rfl 0 rfl ?_
  refine gf_1_0 dX2_tempts_10 hl_X2_29 nl_32 zk_32 zp_32_0 ?_
  refine h_iload_n dX2_tempts_13 rfl 1 rfl ?_
  refine h_invV (As := [.int p]) (st := []) dX2_tempts_14 lk_X2_151 (h_room (by decide)) nl_1 zk_1 (by decide) rfl rfl rfl (Nat.le_of_ble_eq_true rfl) ?_
  exact k1
set_option maxHeartbeats 1000000 in
set_option maxRecDepth 20000 in
theorem sg_X2_tempts_N_17 {E : HEn} {d : Nat} {Q : Option Value → HIh → Prop} {I : HIh} {x1 : Int32} {x2 : Int32} {x3 : Int32} {x4 : Int32}
    (k1 : HCall E me_X5_wouldThrow (d + 3) [.ref 2, .ref 1, .ref 34, .int x1] I (fun v9 J => HGo E (mF E (d + 4) Q) me_X2_tempts 31 [(0, .ref 32), (2, .int x2), (3, .int x3), (4, .int x4)] (v9.toList ++ []) J))
    : HGo E (mF E (d + 4) Q) me_X2_tempts 17 [(0, .ref 32), (1, .int x1), (2, .int x2), (3, .int x3), (4, .int x4)] [.ref 2] I := by
  refine h_aload_n dX2_tempts_17 rfl 0 rfl ?_
  refine gf_1_0 dX2_tempts_18 hl_X2_29 nl_32 zk_32 zp_32_0 ?_
  refine h_aload_n dX2_tempts_21 rfl 0 rfl ?_
  refine gf_1_1 dX2_tempts_22 hl_X2_13 nl_32 zk_32 zp_32_1 ?_
  refine h_iconst (v := 0) dX2_tempts_25 (by decide) ?_
  refine h_aald13z dX2_tempts_26 nl_33 zk_33 (vp_lit (by rw [zn_33]; decide)) zp_33_0 ?_
  refine h_iload_n dX2_tempts_27 rfl 1 rfl ?_
  refine h_pick [0, 2, 3, 4] [(0, .ref 32), (2, .int x2), (3, .int x3), (4, .int x4)] rfl ?_
  refine h_invU (As := [.ref 1, .ref 34, .int x1]) (st := []) dX2_tempts_28 lk_X2_87_X5 (h_room (by decide)) nl_2 zk_2 (by decide) rfl rfl rfl (Nat.le_of_ble_eq_true rfl) ?_
  exact k1
set_option maxHeartbeats 1000000 in
set_option maxRecDepth 20000 in
theorem sg_X2_tempts_N_31 {E : HEn} {d : Nat} {Q : Option Value → HIh → Prop} {I : HIh} {x2 : Int32} {x3 : Int32} {x4 : Int32} {s0 : Int32}
    (k1 : s0 = (-1) → Q (some (.int 0)) (setI (setI (setI I 35 (fAdd (I 35) 4 x2 (-1))) 35 (fAdd (fAdd (I 35) 4 x2 (-1)) 4 x3 (-1))) 35 (fAdd (fAdd (fAdd (I 35) 4 x2 (-1)) 4 x3 (-1)) 4 x4 (-1))))
    (k2 : ¬ s0 = (-1) → Q (some (.int 1)) (setI (setI (setI I 35 (fAdd (I 35) 4 x2 (-1))) 35 (fAdd (fAdd (I 35) 4 x2 (-1)) 4 x3 (-1))) 35 (fAdd (fAdd (fAdd (I 35) 4 x2 (-1)) 4 x3 (-1)) 4 x4 (-1))))
    : HGo E (mF E (d + 4) Q) me_X2_tempts 31 [(0, .ref 32), (2, .int x2), (3, .int x3), (4, .int x4)] [.int s0] I := by
  refine h_iconst (v := (-1)) dX2_tempts_31 (by decide) ?_
  refine h_icmp_eq (tgt := 39) dX2_tempts_32 (by decide) (fun c1 => ?_) (fun c1 => ?_)
  ·
    refine h_iconst (v := 0) dX2_tempts_39 (by decide) ?_
    refine h_istore (L' := [(5, .int 0), (0, .ref 32), (2, .int x2), (3, .int x3), (4, .int x4)]) dX2_tempts_40 (by decide) rfl ?_
    refine h_aload_n dX2_tempts_42 rfl 1 rfl ?_
    refine h_iload_n dX2_tempts_43 rfl 2 rfl ?_
    refine h_iload_n dX2_tempts_44 rfl 3 rfl ?_
    refine h_iload dX2_tempts_45 4 rfl ?_
    refine h_iconst (v := (-1)) dX2_tempts_47 (by decide) ?_
    refine h_invV (As := [.int x2, .int x3, .int x4, .int (-1)]) (st := []) dX2_tempts_48 lk_X2_147 (h_room (by decide)) nl_32 zk_32 (by decide) rfl rfl rfl (Nat.le_of_ble_eq_true rfl) ?_
    refine c_X2_putIn ?_
    refine h_iload dX2_tempts_51 0 rfl ?_
    exact h_zret dX2_tempts_53 rfl rfl (k1 c1)
  ·
    refine h_iconst (v := 1) dX2_tempts_35 (by decide) ?_
    refine h_goto (tgt := 40) dX2_tempts_36 (by decide) ?_
    refine h_istore (L' := [(5, .int 1), (0, .ref 32), (2, .int x2), (3, .int x3), (4, .int x4)]) dX2_tempts_40 (by decide) rfl ?_
    refine h_aload_n dX2_tempts_42 rfl 1 rfl ?_
    refine h_iload_n dX2_tempts_43 rfl 2 rfl ?_
    refine h_iload_n dX2_tempts_44 rfl 3 rfl ?_
    refine h_iload dX2_tempts_45 4 rfl ?_
    refine h_iconst (v := (-1)) dX2_tempts_47 (by decide) ?_
    refine h_invV (As := [.int x2, .int x3, .int x4, .int (-1)]) (st := []) dX2_tempts_48 lk_X2_147 (h_room (by decide)) nl_32 zk_32 (by decide) rfl rfl rfl (Nat.le_of_ble_eq_true rfl) ?_
    refine c_X2_putIn ?_
    refine h_iload dX2_tempts_51 0 rfl ?_
    exact h_zret dX2_tempts_53 rfl rfl (k2 c1)
set_option maxHeartbeats 1000000 in
set_option maxRecDepth 20000 in
theorem sg_X2_tempts_G_0 {E : HEn} {d : Nat} {Q : Option Value → HIh → Prop} {I : HIh} {p : Int32} {x : Int32} {y : Int32} {z : Int32}
    (k1 : HCall E me_X9_folkOf (d + 3) [.ref 1, .int p] (setI (setI (setI I 35 (fAdd (I 35) 4 x 1)) 35 (fAdd (fAdd (I 35) 4 x 1) 4 y 1)) 35 (fAdd (fAdd (fAdd (I 35) 4 x 1) 4 y 1) 4 z 1)) (fun v9 J => HGo E (mF E (d + 4) Q) me_X2_tempts 17 [(0, .ref 32), (1, .int p), (2, .int x), (3, .int y), (4, .int z)] (v9.toList ++ []) J))
    : HGo E (mF E (d + 4) Q) me_X2_tempts 0 [(0, .ref 32), (1, .int p), (2, .int x), (3, .int y), (4, .int z)] [] I := by
  refine h_aload_n dX2_tempts_0 rfl 0 rfl ?_
  refine h_iload_n dX2_tempts_1 rfl 2 rfl ?_
  refine h_iload_n dX2_tempts_2 rfl 3 rfl ?_
  refine h_iload dX2_tempts_3 4 rfl ?_
  refine h_iconst (v := 1) dX2_tempts_5 (by decide) ?_
  refine h_invV (As := [.int x, .int y, .int z, .int 1]) (st := []) dX2_tempts_6 lk_X2_147 (h_room (by decide)) nl_32 zk_32 (by decide) rfl rfl rfl (Nat.le_of_ble_eq_true rfl) ?_
  refine c_X2_putIn ?_
  refine h_aload_n dX2_tempts_9 rfl 0 rfl ?_
  refine gf_1_0 dX2_tempts_10 hl_X2_29 nl_32 zk_32 zp_32_0 ?_
  refine h_iload_n dX2_tempts_13 rfl 1 rfl ?_
  refine h_invV (As := [.int p]) (st := []) dX2_tempts_14 lk_X2_151 (h_room (by decide)) nl_1 zk_1 (by decide) rfl rfl rfl (Nat.le_of_ble_eq_true rfl) ?_
  exact k1
set_option maxHeartbeats 1000000 in
set_option maxRecDepth 20000 in
theorem sg_X2_tempts_G_17 {E : HEn} {d : Nat} {Q : Option Value → HIh → Prop} {I : HIh} {x1 : Int32} {x2 : Int32} {x3 : Int32} {x4 : Int32}
    (k1 : HCall E me_X8_wouldThrow (d + 3) [.ref 3, .ref 1, .ref 34, .int x1] I (fun v9 J => HGo E (mF E (d + 4) Q) me_X2_tempts 31 [(0, .ref 32), (2, .int x2), (3, .int x3), (4, .int x4)] (v9.toList ++ []) J))
    : HGo E (mF E (d + 4) Q) me_X2_tempts 17 [(0, .ref 32), (1, .int x1), (2, .int x2), (3, .int x3), (4, .int x4)] [.ref 3] I := by
  refine h_aload_n dX2_tempts_17 rfl 0 rfl ?_
  refine gf_1_0 dX2_tempts_18 hl_X2_29 nl_32 zk_32 zp_32_0 ?_
  refine h_aload_n dX2_tempts_21 rfl 0 rfl ?_
  refine gf_1_1 dX2_tempts_22 hl_X2_13 nl_32 zk_32 zp_32_1 ?_
  refine h_iconst (v := 0) dX2_tempts_25 (by decide) ?_
  refine h_aald13z dX2_tempts_26 nl_33 zk_33 (vp_lit (by rw [zn_33]; decide)) zp_33_0 ?_
  refine h_iload_n dX2_tempts_27 rfl 1 rfl ?_
  refine h_pick [0, 2, 3, 4] [(0, .ref 32), (2, .int x2), (3, .int x3), (4, .int x4)] rfl ?_
  refine h_invU (As := [.ref 1, .ref 34, .int x1]) (st := []) dX2_tempts_28 lk_X2_87_X3 (h_room (by decide)) nl_3 zk_3 (by decide) rfl rfl rfl (Nat.le_of_ble_eq_true rfl) ?_
  exact k1
set_option maxHeartbeats 1000000 in
set_option maxRecDepth 20000 in
theorem sg_X2_tempts_G_31 {E : HEn} {d : Nat} {Q : Option Value → HIh → Prop} {I : HIh} {x2 : Int32} {x3 : Int32} {x4 : Int32} {s0 : Int32}
    (k1 : s0 = (-1) → Q (some (.int 0)) (setI (setI (setI I 35 (fAdd (I 35) 4 x2 (-1))) 35 (fAdd (fAdd (I 35) 4 x2 (-1)) 4 x3 (-1))) 35 (fAdd (fAdd (fAdd (I 35) 4 x2 (-1)) 4 x3 (-1)) 4 x4 (-1))))
    (k2 : ¬ s0 = (-1) → Q (some (.int 1)) (setI (setI (setI I 35 (fAdd (I 35) 4 x2 (-1))) 35 (fAdd (fAdd (I 35) 4 x2 (-1)) 4 x3 (-1))) 35 (fAdd (fAdd (fAdd (I 35) 4 x2 (-1)) 4 x3 (-1)) 4 x4 (-1))))
    : HGo E (mF E (d + 4) Q) me_X2_tempts 31 [(0, .ref 32), (2, .int x2), (3, .int x3), (4, .int x4)] [.int s0] I := by
  refine h_iconst (v := (-1)) dX2_tempts_31 (by decide) ?_
  refine h_icmp_eq (tgt := 39) dX2_tempts_32 (by decide) (fun c1 => ?_) (fun c1 => ?_)
  ·
    refine h_iconst (v := 0) dX2_tempts_39 (by decide) ?_
    refine h_istore (L' := [(5, .int 0), (0, .ref 32), (2, .int x2), (3, .int x3), (4, .int x4)]) dX2_tempts_40 (by decide) rfl ?_
    refine h_aload_n dX2_tempts_42 rfl 1 rfl ?_
    refine h_iload_n dX2_tempts_43 rfl 2 rfl ?_
    refine h_iload_n dX2_tempts_44 rfl 3 rfl ?_
    refine h_iload dX2_tempts_45 4 rfl ?_
    refine h_iconst (v := (-1)) dX2_tempts_47 (by decide) ?_
    refine h_invV (As := [.int x2, .int x3, .int x4, .int (-1)]) (st := []) dX2_tempts_48 lk_X2_147 (h_room (by decide)) nl_32 zk_32 (by decide) rfl rfl rfl (Nat.le_of_ble_eq_true rfl) ?_
    refine c_X2_putIn ?_
    refine h_iload dX2_tempts_51 0 rfl ?_
    exact h_zret dX2_tempts_53 rfl rfl (k1 c1)
  ·
    refine h_iconst (v := 1) dX2_tempts_35 (by decide) ?_
    refine h_goto (tgt := 40) dX2_tempts_36 (by decide) ?_
    refine h_istore (L' := [(5, .int 1), (0, .ref 32), (2, .int x2), (3, .int x3), (4, .int x4)]) dX2_tempts_40 (by decide) rfl ?_
    refine h_aload_n dX2_tempts_42 rfl 1 rfl ?_
    refine h_iload_n dX2_tempts_43 rfl 2 rfl ?_
    refine h_iload_n dX2_tempts_44 rfl 3 rfl ?_
    refine h_iload dX2_tempts_45 4 rfl ?_
    refine h_iconst (v := (-1)) dX2_tempts_47 (by decide) ?_
    refine h_invV (As := [.int x2, .int x3, .int x4, .int (-1)]) (st := []) dX2_tempts_48 lk_X2_147 (h_room (by decide)) nl_32 zk_32 (by decide) rfl rfl rfl (Nat.le_of_ble_eq_true rfl) ?_
    refine c_X2_putIn ?_
    refine h_iload dX2_tempts_51 0 rfl ?_
    exact h_zret dX2_tempts_53 rfl rfl (k2 c1)
set_option maxHeartbeats 1000000 in
set_option maxRecDepth 20000 in
theorem sg_X2_tempts_W_0 {E : HEn} {d : Nat} {Q : Option Value → HIh → Prop} {I : HIh} {p : Int32} {x : Int32} {y : Int32} {z : Int32}
    (k1 : HCall E me_X9_folkOf (d + 3) [.ref 1, .int p] (setI (setI (setI I 35 (fAdd (I 35) 4 x 1)) 35 (fAdd (fAdd (I 35) 4 x 1) 4 y 1)) 35 (fAdd (fAdd (fAdd (I 35) 4 x 1) 4 y 1) 4 z 1)) (fun v9 J => HGo E (mF E (d + 4) Q) me_X2_tempts 17 [(0, .ref 32), (1, .int p), (2, .int x), (3, .int y), (4, .int z)] (v9.toList ++ []) J))
    : HGo E (mF E (d + 4) Q) me_X2_tempts 0 [(0, .ref 32), (1, .int p), (2, .int x), (3, .int y), (4, .int z)] [] I := by
  refine h_aload_n dX2_tempts_0 rfl 0 rfl ?_
  refine h_iload_n dX2_tempts_1 rfl 2 rfl ?_
  refine h_iload_n dX2_tempts_2 rfl 3 rfl ?_
  refine h_iload dX2_tempts_3 4 rfl ?_
  refine h_iconst (v := 1) dX2_tempts_5 (by decide) ?_
  refine h_invV (As := [.int x, .int y, .int z, .int 1]) (st := []) dX2_tempts_6 lk_X2_147 (h_room (by decide)) nl_32 zk_32 (by decide) rfl rfl rfl (Nat.le_of_ble_eq_true rfl) ?_
  refine c_X2_putIn ?_
  refine h_aload_n dX2_tempts_9 rfl 0 rfl ?_
  refine gf_1_0 dX2_tempts_10 hl_X2_29 nl_32 zk_32 zp_32_0 ?_
  refine h_iload_n dX2_tempts_13 rfl 1 rfl ?_
  refine h_invV (As := [.int p]) (st := []) dX2_tempts_14 lk_X2_151 (h_room (by decide)) nl_1 zk_1 (by decide) rfl rfl rfl (Nat.le_of_ble_eq_true rfl) ?_
  exact k1
set_option maxHeartbeats 1000000 in
set_option maxRecDepth 20000 in
theorem sg_X2_tempts_W_17 {E : HEn} {d : Nat} {Q : Option Value → HIh → Prop} {I : HIh} {x1 : Int32} {x2 : Int32} {x3 : Int32} {x4 : Int32}
    (k1 : HCall E me_X8_wouldThrow (d + 3) [.ref 4, .ref 1, .ref 34, .int x1] I (fun v9 J => HGo E (mF E (d + 4) Q) me_X2_tempts 31 [(0, .ref 32), (2, .int x2), (3, .int x3), (4, .int x4)] (v9.toList ++ []) J))
    : HGo E (mF E (d + 4) Q) me_X2_tempts 17 [(0, .ref 32), (1, .int x1), (2, .int x2), (3, .int x3), (4, .int x4)] [.ref 4] I := by
  refine h_aload_n dX2_tempts_17 rfl 0 rfl ?_
  refine gf_1_0 dX2_tempts_18 hl_X2_29 nl_32 zk_32 zp_32_0 ?_
  refine h_aload_n dX2_tempts_21 rfl 0 rfl ?_
  refine gf_1_1 dX2_tempts_22 hl_X2_13 nl_32 zk_32 zp_32_1 ?_
  refine h_iconst (v := 0) dX2_tempts_25 (by decide) ?_
  refine h_aald13z dX2_tempts_26 nl_33 zk_33 (vp_lit (by rw [zn_33]; decide)) zp_33_0 ?_
  refine h_iload_n dX2_tempts_27 rfl 1 rfl ?_
  refine h_pick [0, 2, 3, 4] [(0, .ref 32), (2, .int x2), (3, .int x3), (4, .int x4)] rfl ?_
  refine h_invU (As := [.ref 1, .ref 34, .int x1]) (st := []) dX2_tempts_28 lk_X2_87_X10 (h_room (by decide)) nl_4 zk_4 (by decide) rfl rfl rfl (Nat.le_of_ble_eq_true rfl) ?_
  exact k1
set_option maxHeartbeats 1000000 in
set_option maxRecDepth 20000 in
theorem sg_X2_tempts_W_31 {E : HEn} {d : Nat} {Q : Option Value → HIh → Prop} {I : HIh} {x2 : Int32} {x3 : Int32} {x4 : Int32} {s0 : Int32}
    (k1 : s0 = (-1) → Q (some (.int 0)) (setI (setI (setI I 35 (fAdd (I 35) 4 x2 (-1))) 35 (fAdd (fAdd (I 35) 4 x2 (-1)) 4 x3 (-1))) 35 (fAdd (fAdd (fAdd (I 35) 4 x2 (-1)) 4 x3 (-1)) 4 x4 (-1))))
    (k2 : ¬ s0 = (-1) → Q (some (.int 1)) (setI (setI (setI I 35 (fAdd (I 35) 4 x2 (-1))) 35 (fAdd (fAdd (I 35) 4 x2 (-1)) 4 x3 (-1))) 35 (fAdd (fAdd (fAdd (I 35) 4 x2 (-1)) 4 x3 (-1)) 4 x4 (-1))))
    : HGo E (mF E (d + 4) Q) me_X2_tempts 31 [(0, .ref 32), (2, .int x2), (3, .int x3), (4, .int x4)] [.int s0] I := by
  refine h_iconst (v := (-1)) dX2_tempts_31 (by decide) ?_
  refine h_icmp_eq (tgt := 39) dX2_tempts_32 (by decide) (fun c1 => ?_) (fun c1 => ?_)
  ·
    refine h_iconst (v := 0) dX2_tempts_39 (by decide) ?_
    refine h_istore (L' := [(5, .int 0), (0, .ref 32), (2, .int x2), (3, .int x3), (4, .int x4)]) dX2_tempts_40 (by decide) rfl ?_
    refine h_aload_n dX2_tempts_42 rfl 1 rfl ?_
    refine h_iload_n dX2_tempts_43 rfl 2 rfl ?_
    refine h_iload_n dX2_tempts_44 rfl 3 rfl ?_
    refine h_iload dX2_tempts_45 4 rfl ?_
    refine h_iconst (v := (-1)) dX2_tempts_47 (by decide) ?_
    refine h_invV (As := [.int x2, .int x3, .int x4, .int (-1)]) (st := []) dX2_tempts_48 lk_X2_147 (h_room (by decide)) nl_32 zk_32 (by decide) rfl rfl rfl (Nat.le_of_ble_eq_true rfl) ?_
    refine c_X2_putIn ?_
    refine h_iload dX2_tempts_51 0 rfl ?_
    exact h_zret dX2_tempts_53 rfl rfl (k1 c1)
  ·
    refine h_iconst (v := 1) dX2_tempts_35 (by decide) ?_
    refine h_goto (tgt := 40) dX2_tempts_36 (by decide) ?_
    refine h_istore (L' := [(5, .int 1), (0, .ref 32), (2, .int x2), (3, .int x3), (4, .int x4)]) dX2_tempts_40 (by decide) rfl ?_
    refine h_aload_n dX2_tempts_42 rfl 1 rfl ?_
    refine h_iload_n dX2_tempts_43 rfl 2 rfl ?_
    refine h_iload_n dX2_tempts_44 rfl 3 rfl ?_
    refine h_iload dX2_tempts_45 4 rfl ?_
    refine h_iconst (v := (-1)) dX2_tempts_47 (by decide) ?_
    refine h_invV (As := [.int x2, .int x3, .int x4, .int (-1)]) (st := []) dX2_tempts_48 lk_X2_147 (h_room (by decide)) nl_32 zk_32 (by decide) rfl rfl rfl (Nat.le_of_ble_eq_true rfl) ?_
    refine c_X2_putIn ?_
    refine h_iload dX2_tempts_51 0 rfl ?_
    exact h_zret dX2_tempts_53 rfl rfl (k2 c1)
set_option maxHeartbeats 1000000 in
set_option maxRecDepth 20000 in
theorem sg_X2_tempts_C_0 {E : HEn} {d : Nat} {Q : Option Value → HIh → Prop} {I : HIh} {p : Int32} {x : Int32} {y : Int32} {z : Int32}
    (k1 : HCall E me_X9_folkOf (d + 3) [.ref 1, .int p] (setI (setI (setI I 35 (fAdd (I 35) 4 x 1)) 35 (fAdd (fAdd (I 35) 4 x 1) 4 y 1)) 35 (fAdd (fAdd (fAdd (I 35) 4 x 1) 4 y 1) 4 z 1)) (fun v9 J => HGo E (mF E (d + 4) Q) me_X2_tempts 17 [(0, .ref 32), (1, .int p), (2, .int x), (3, .int y), (4, .int z)] (v9.toList ++ []) J))
    : HGo E (mF E (d + 4) Q) me_X2_tempts 0 [(0, .ref 32), (1, .int p), (2, .int x), (3, .int y), (4, .int z)] [] I := by
  refine h_aload_n dX2_tempts_0 rfl 0 rfl ?_
  refine h_iload_n dX2_tempts_1 rfl 2 rfl ?_
  refine h_iload_n dX2_tempts_2 rfl 3 rfl ?_
  refine h_iload dX2_tempts_3 4 rfl ?_
  refine h_iconst (v := 1) dX2_tempts_5 (by decide) ?_
  refine h_invV (As := [.int x, .int y, .int z, .int 1]) (st := []) dX2_tempts_6 lk_X2_147 (h_room (by decide)) nl_32 zk_32 (by decide) rfl rfl rfl (Nat.le_of_ble_eq_true rfl) ?_
  refine c_X2_putIn ?_
  refine h_aload_n dX2_tempts_9 rfl 0 rfl ?_
  refine gf_1_0 dX2_tempts_10 hl_X2_29 nl_32 zk_32 zp_32_0 ?_
  refine h_iload_n dX2_tempts_13 rfl 1 rfl ?_
  refine h_invV (As := [.int p]) (st := []) dX2_tempts_14 lk_X2_151 (h_room (by decide)) nl_1 zk_1 (by decide) rfl rfl rfl (Nat.le_of_ble_eq_true rfl) ?_
  exact k1
set_option maxHeartbeats 1000000 in
set_option maxRecDepth 20000 in
theorem sg_X2_tempts_C_17 {E : HEn} {d : Nat} {Q : Option Value → HIh → Prop} {I : HIh} {x1 : Int32} {x2 : Int32} {x3 : Int32} {x4 : Int32}
    (k1 : HCall E me_X8_wouldThrow (d + 3) [.ref 5, .ref 1, .ref 34, .int x1] I (fun v9 J => HGo E (mF E (d + 4) Q) me_X2_tempts 31 [(0, .ref 32), (2, .int x2), (3, .int x3), (4, .int x4)] (v9.toList ++ []) J))
    : HGo E (mF E (d + 4) Q) me_X2_tempts 17 [(0, .ref 32), (1, .int x1), (2, .int x2), (3, .int x3), (4, .int x4)] [.ref 5] I := by
  refine h_aload_n dX2_tempts_17 rfl 0 rfl ?_
  refine gf_1_0 dX2_tempts_18 hl_X2_29 nl_32 zk_32 zp_32_0 ?_
  refine h_aload_n dX2_tempts_21 rfl 0 rfl ?_
  refine gf_1_1 dX2_tempts_22 hl_X2_13 nl_32 zk_32 zp_32_1 ?_
  refine h_iconst (v := 0) dX2_tempts_25 (by decide) ?_
  refine h_aald13z dX2_tempts_26 nl_33 zk_33 (vp_lit (by rw [zn_33]; decide)) zp_33_0 ?_
  refine h_iload_n dX2_tempts_27 rfl 1 rfl ?_
  refine h_pick [0, 2, 3, 4] [(0, .ref 32), (2, .int x2), (3, .int x3), (4, .int x4)] rfl ?_
  refine h_invU (As := [.ref 1, .ref 34, .int x1]) (st := []) dX2_tempts_28 lk_X2_87_X0 (h_room (by decide)) nl_5 zk_5 (by decide) rfl rfl rfl (Nat.le_of_ble_eq_true rfl) ?_
  exact k1
set_option maxHeartbeats 1000000 in
set_option maxRecDepth 20000 in
theorem sg_X2_tempts_C_31 {E : HEn} {d : Nat} {Q : Option Value → HIh → Prop} {I : HIh} {x2 : Int32} {x3 : Int32} {x4 : Int32} {s0 : Int32}
    (k1 : s0 = (-1) → Q (some (.int 0)) (setI (setI (setI I 35 (fAdd (I 35) 4 x2 (-1))) 35 (fAdd (fAdd (I 35) 4 x2 (-1)) 4 x3 (-1))) 35 (fAdd (fAdd (fAdd (I 35) 4 x2 (-1)) 4 x3 (-1)) 4 x4 (-1))))
    (k2 : ¬ s0 = (-1) → Q (some (.int 1)) (setI (setI (setI I 35 (fAdd (I 35) 4 x2 (-1))) 35 (fAdd (fAdd (I 35) 4 x2 (-1)) 4 x3 (-1))) 35 (fAdd (fAdd (fAdd (I 35) 4 x2 (-1)) 4 x3 (-1)) 4 x4 (-1))))
    : HGo E (mF E (d + 4) Q) me_X2_tempts 31 [(0, .ref 32), (2, .int x2), (3, .int x3), (4, .int x4)] [.int s0] I := by
  refine h_iconst (v := (-1)) dX2_tempts_31 (by decide) ?_
  refine h_icmp_eq (tgt := 39) dX2_tempts_32 (by decide) (fun c1 => ?_) (fun c1 => ?_)
  ·
    refine h_iconst (v := 0) dX2_tempts_39 (by decide) ?_
    refine h_istore (L' := [(5, .int 0), (0, .ref 32), (2, .int x2), (3, .int x3), (4, .int x4)]) dX2_tempts_40 (by decide) rfl ?_
    refine h_aload_n dX2_tempts_42 rfl 1 rfl ?_
    refine h_iload_n dX2_tempts_43 rfl 2 rfl ?_
    refine h_iload_n dX2_tempts_44 rfl 3 rfl ?_
    refine h_iload dX2_tempts_45 4 rfl ?_
    refine h_iconst (v := (-1)) dX2_tempts_47 (by decide) ?_
    refine h_invV (As := [.int x2, .int x3, .int x4, .int (-1)]) (st := []) dX2_tempts_48 lk_X2_147 (h_room (by decide)) nl_32 zk_32 (by decide) rfl rfl rfl (Nat.le_of_ble_eq_true rfl) ?_
    refine c_X2_putIn ?_
    refine h_iload dX2_tempts_51 0 rfl ?_
    exact h_zret dX2_tempts_53 rfl rfl (k1 c1)
  ·
    refine h_iconst (v := 1) dX2_tempts_35 (by decide) ?_
    refine h_goto (tgt := 40) dX2_tempts_36 (by decide) ?_
    refine h_istore (L' := [(5, .int 1), (0, .ref 32), (2, .int x2), (3, .int x3), (4, .int x4)]) dX2_tempts_40 (by decide) rfl ?_
    refine h_aload_n dX2_tempts_42 rfl 1 rfl ?_
    refine h_iload_n dX2_tempts_43 rfl 2 rfl ?_
    refine h_iload_n dX2_tempts_44 rfl 3 rfl ?_
    refine h_iload dX2_tempts_45 4 rfl ?_
    refine h_iconst (v := (-1)) dX2_tempts_47 (by decide) ?_
    refine h_invV (As := [.int x2, .int x3, .int x4, .int (-1)]) (st := []) dX2_tempts_48 lk_X2_147 (h_room (by decide)) nl_32 zk_32 (by decide) rfl rfl rfl (Nat.le_of_ble_eq_true rfl) ?_
    refine c_X2_putIn ?_
    refine h_iload dX2_tempts_51 0 rfl ?_
    exact h_zret dX2_tempts_53 rfl rfl (k2 c1)
set_option maxHeartbeats 1000000 in
set_option maxRecDepth 20000 in
theorem sg_X11_visit_0 {E : HEn} {d : Nat} {Q : Option Value → HIh → Prop} {I : HIh} {a : Int32}
    (k1 : a = (-1) → (fVis (I 1 10) (I 9) (I 12 1)) = (-1) → Q (some (.int (-4))) I)
    (k2 : a = (-1) → ¬ (fVis (I 1 10) (I 9) (I 12 1)) = (-1) → a = (-1) → ¬ a = (-1) → HCall E me_X9_gainOf (d + 3) [.ref 1, .ref 12, .int a] I (fun v9 J => HGo E (mF E (d + 4) Q) me_X11_visit 80 [(0, .ref 0), (1, .int a)] (v9.toList ++ []) J))
    (k3 : a = (-1) → ¬ (fVis (I 1 10) (I 9) (I 12 1)) = (-1) → a = (-1) → a = (-1) → HCall E me_X9_letVisit (d + 3) [.ref 1, .ref 12, .int a] I (fun v9 J => HGo E (mF E (d + 4) Q) me_X11_visit 93 [(0, .ref 0), (3, .int 0)] (v9.toList ++ []) J))
    (k4 : a = (-1) → ¬ (fVis (I 1 10) (I 9) (I 12 1)) = (-1) → ¬ a = (-1) → ¬ (fOf (I 13) (fVis (I 1 10) (I 9) (I 12 1)) a) = 0 → ¬ a = (-1) → HCall E me_X9_gainOf (d + 3) [.ref 1, .ref 12, .int a] I (fun v9 J => HGo E (mF E (d + 4) Q) me_X11_visit 80 [(0, .ref 0), (1, .int a)] (v9.toList ++ []) J))
    (k5 : a = (-1) → ¬ (fVis (I 1 10) (I 9) (I 12 1)) = (-1) → ¬ a = (-1) → ¬ (fOf (I 13) (fVis (I 1 10) (I 9) (I 12 1)) a) = 0 → a = (-1) → HCall E me_X9_letVisit (d + 3) [.ref 1, .ref 12, .int a] I (fun v9 J => HGo E (mF E (d + 4) Q) me_X11_visit 93 [(0, .ref 0), (3, .int 0)] (v9.toList ++ []) J))
    (k6 : a = (-1) → ¬ (fVis (I 1 10) (I 9) (I 12 1)) = (-1) → ¬ a = (-1) → (fOf (I 13) (fVis (I 1 10) (I 9) (I 12 1)) a) = 0 → Q (some (.int (-4))) I)
    (k7 : ¬ a = (-1) → (0 : Int32) ≤ a → a < (I 1 9) → (fVis (I 1 10) (I 9) (I 12 1)) = (-1) → Q (some (.int (-4))) I)
    (k8 : ¬ a = (-1) → (0 : Int32) ≤ a → a < (I 1 9) → ¬ (fVis (I 1 10) (I 9) (I 12 1)) = (-1) → a = (-1) → ¬ a = (-1) → HCall E me_X9_gainOf (d + 3) [.ref 1, .ref 12, .int a] I (fun v9 J => HGo E (mF E (d + 4) Q) me_X11_visit 80 [(0, .ref 0), (1, .int a)] (v9.toList ++ []) J))
    (k9 : ¬ a = (-1) → (0 : Int32) ≤ a → a < (I 1 9) → ¬ (fVis (I 1 10) (I 9) (I 12 1)) = (-1) → a = (-1) → a = (-1) → HCall E me_X9_letVisit (d + 3) [.ref 1, .ref 12, .int a] I (fun v9 J => HGo E (mF E (d + 4) Q) me_X11_visit 93 [(0, .ref 0), (3, .int 0)] (v9.toList ++ []) J))
    (k10 : ¬ a = (-1) → (0 : Int32) ≤ a → a < (I 1 9) → ¬ (fVis (I 1 10) (I 9) (I 12 1)) = (-1) → ¬ a = (-1) → ¬ (fOf (I 13) (fVis (I 1 10) (I 9) (I 12 1)) a) = 0 → ¬ a = (-1) → HCall E me_X9_gainOf (d + 3) [.ref 1, .ref 12, .int a] I (fun v9 J => HGo E (mF E (d + 4) Q) me_X11_visit 80 [(0, .ref 0), (1, .int a)] (v9.toList ++ []) J))
    (k11 : ¬ a = (-1) → (0 : Int32) ≤ a → a < (I 1 9) → ¬ (fVis (I 1 10) (I 9) (I 12 1)) = (-1) → ¬ a = (-1) → ¬ (fOf (I 13) (fVis (I 1 10) (I 9) (I 12 1)) a) = 0 → a = (-1) → HCall E me_X9_letVisit (d + 3) [.ref 1, .ref 12, .int a] I (fun v9 J => HGo E (mF E (d + 4) Q) me_X11_visit 93 [(0, .ref 0), (3, .int 0)] (v9.toList ++ []) J))
    (k12 : ¬ a = (-1) → (0 : Int32) ≤ a → a < (I 1 9) → ¬ (fVis (I 1 10) (I 9) (I 12 1)) = (-1) → ¬ a = (-1) → (fOf (I 13) (fVis (I 1 10) (I 9) (I 12 1)) a) = 0 → Q (some (.int (-4))) I)
    (k13 : ¬ a = (-1) → ¬ ((0 : Int32) ≤ a ∧ a < (I 1 9)) → Q (some (.int (-2))) I)
    : HGo E (mF E (d + 4) Q) me_X11_visit 0 [(0, .ref 0), (1, .int a)] [] I := by
  refine h_iload_n dX11_visit_0 rfl 1 rfl ?_
  refine h_iconst (v := (-1)) dX11_visit_1 (by decide) ?_
  refine h_icmp_eq (tgt := 19) dX11_visit_2 (by decide) (fun c1 => ?_) (fun c1 => ?_)
  ·
    refine h_aload_n dX11_visit_19 rfl 0 rfl ?_
    refine gf_9_0 dX11_visit_20 hl_X11_10 nl_0 zk_0 zp_0_0 ?_
    refine h_aload_n dX11_visit_23 rfl 0 rfl ?_
    refine gf_9_1 dX11_visit_24 hl_X11_19 nl_0 zk_0 zp_0_1 ?_
    refine gf_3_1 dX11_visit_27 hl_X11_139 nl_12 zk_12 ?_
    refine h_invV (As := [.int (I 12 1)]) (st := []) dX11_visit_30 lk_X11_132 (h_room (by decide)) nl_1 zk_1 (by decide) rfl rfl rfl (Nat.le_of_ble_eq_true rfl) ?_
    refine c_X9_visitor ?_
    refine h_istore_n (L' := [(2, .int (fVis (I 1 10) (I 9) (I 12 1))), (0, .ref 0), (1, .int a)]) dX11_visit_33 rfl (by decide) rfl ?_
    refine h_iload_n dX11_visit_34 rfl 0 rfl ?_
    refine h_iconst (v := (-1)) dX11_visit_35 (by decide) ?_
    refine h_icmp_eq (tgt := 56) dX11_visit_36 (by decide) (fun c2 => ?_) (fun c2 => ?_)
    ·
      refine h_bipush (v := (-4)) dX11_visit_56 (by decide) ?_
      exact h_iret dX11_visit_58 rfl (k1 c1 c2)
    ·
      refine h_iload_n dX11_visit_39 rfl 2 rfl ?_
      refine h_iconst (v := (-1)) dX11_visit_40 (by decide) ?_
      refine h_icmp_eq (tgt := 59) dX11_visit_41 (by decide) (fun c3 => ?_) (fun c3 => ?_)
      ·
        refine h_iload_n dX11_visit_59 rfl 2 rfl ?_
        refine h_iconst (v := (-1)) dX11_visit_60 (by decide) ?_
        refine h_icmp_ne (tgt := 68) dX11_visit_61 (by decide) (fun c4 => ?_) (fun c4 => ?_)
        ·
          refine h_aload_n dX11_visit_68 rfl 1 rfl ?_
          refine gf_9_0 dX11_visit_69 hl_X11_10 nl_0 zk_0 zp_0_0 ?_
          refine h_aload_n dX11_visit_72 rfl 1 rfl ?_
          refine gf_9_1 dX11_visit_73 hl_X11_19 nl_0 zk_0 zp_0_1 ?_
          refine h_iload_n dX11_visit_76 rfl 2 rfl ?_
          refine h_pick [1, 2] [(0, .ref 0), (1, .int a)] rfl ?_
          refine h_invV (As := [.ref 12, .int a]) (st := []) dX11_visit_77 lk_X11_135 (h_room (by decide)) nl_1 zk_1 (by decide) rfl rfl rfl (Nat.le_of_ble_eq_true rfl) ?_
          exact k2 c1 c2 c3 c4
        ·
          refine h_iconst (v := 0) dX11_visit_64 (by decide) ?_
          refine h_goto (tgt := 80) dX11_visit_65 (by decide) ?_
          refine h_istore_n (L' := [(3, .int 0), (2, .int (fVis (I 1 10) (I 9) (I 12 1))), (0, .ref 0), (1, .int a)]) dX11_visit_80 rfl (by decide) rfl ?_
          refine h_aload_n dX11_visit_81 rfl 2 rfl ?_
          refine gf_9_0 dX11_visit_82 hl_X11_10 nl_0 zk_0 zp_0_0 ?_
          refine h_aload_n dX11_visit_85 rfl 2 rfl ?_
          refine gf_9_1 dX11_visit_86 hl_X11_19 nl_0 zk_0 zp_0_1 ?_
          refine h_iload_n dX11_visit_89 rfl 3 rfl ?_
          refine h_pick [2, 0] [(0, .ref 0), (3, .int 0)] rfl ?_
          refine h_invV (As := [.ref 12, .int a]) (st := []) dX11_visit_90 lk_X11_142 (h_room (by decide)) nl_1 zk_1 (by decide) rfl rfl rfl (Nat.le_of_ble_eq_true rfl) ?_
          exact k3 c1 c2 c3 c4
      ·
        refine h_aload_n dX11_visit_44 rfl 1 rfl ?_
        refine gf_9_1 dX11_visit_45 hl_X11_19 nl_0 zk_0 zp_0_1 ?_
        refine h_iload_n dX11_visit_48 rfl 0 rfl ?_
        refine h_iload_n dX11_visit_49 rfl 2 rfl ?_
        refine h_invV (As := [.int (fVis (I 1 10) (I 9) (I 12 1)), .int a]) (st := []) dX11_visit_50 lk_X11_96 (h_room (by decide)) nl_12 zk_12 (by decide) rfl rfl rfl (Nat.le_of_ble_eq_true rfl) ?_
        refine c_X4_of nl_12 zk_12 zp_12_0 nl_13 zk_13 zn_13 ?_
        refine h_if_ne (tgt := 59) dX11_visit_53 (by decide) (fun c5 => ?_) (fun c5 => ?_)
        ·
          refine h_iload_n dX11_visit_59 rfl 2 rfl ?_
          refine h_iconst (v := (-1)) dX11_visit_60 (by decide) ?_
          refine h_icmp_ne (tgt := 68) dX11_visit_61 (by decide) (fun c6 => ?_) (fun c6 => ?_)
          ·
            refine h_aload_n dX11_visit_68 rfl 1 rfl ?_
            refine gf_9_0 dX11_visit_69 hl_X11_10 nl_0 zk_0 zp_0_0 ?_
            refine h_aload_n dX11_visit_72 rfl 1 rfl ?_
            refine gf_9_1 dX11_visit_73 hl_X11_19 nl_0 zk_0 zp_0_1 ?_
            refine h_iload_n dX11_visit_76 rfl 2 rfl ?_
            refine h_pick [1, 2] [(0, .ref 0), (1, .int a)] rfl ?_
            refine h_invV (As := [.ref 12, .int a]) (st := []) dX11_visit_77 lk_X11_135 (h_room (by decide)) nl_1 zk_1 (by decide) rfl rfl rfl (Nat.le_of_ble_eq_true rfl) ?_
            exact k4 c1 c2 c3 c5 c6
          ·
            refine h_iconst (v := 0) dX11_visit_64 (by decide) ?_
            refine h_goto (tgt := 80) dX11_visit_65 (by decide) ?_
            refine h_istore_n (L' := [(3, .int 0), (2, .int (fVis (I 1 10) (I 9) (I 12 1))), (0, .ref 0), (1, .int a)]) dX11_visit_80 rfl (by decide) rfl ?_
            refine h_aload_n dX11_visit_81 rfl 2 rfl ?_
            refine gf_9_0 dX11_visit_82 hl_X11_10 nl_0 zk_0 zp_0_0 ?_
            refine h_aload_n dX11_visit_85 rfl 2 rfl ?_
            refine gf_9_1 dX11_visit_86 hl_X11_19 nl_0 zk_0 zp_0_1 ?_
            refine h_iload_n dX11_visit_89 rfl 3 rfl ?_
            refine h_pick [2, 0] [(0, .ref 0), (3, .int 0)] rfl ?_
            refine h_invV (As := [.ref 12, .int a]) (st := []) dX11_visit_90 lk_X11_142 (h_room (by decide)) nl_1 zk_1 (by decide) rfl rfl rfl (Nat.le_of_ble_eq_true rfl) ?_
            exact k5 c1 c2 c3 c5 c6
        ·
          refine h_bipush (v := (-4)) dX11_visit_56 (by decide) ?_
          exact h_iret dX11_visit_58 rfl (k6 c1 c2 c3 c5)
  ·
    refine h_aload_n dX11_visit_5 rfl 0 rfl ?_
    refine gf_9_0 dX11_visit_6 hl_X11_10 nl_0 zk_0 zp_0_0 ?_
    refine h_iload_n dX11_visit_9 rfl 1 rfl ?_
    refine h_invV (As := [.int a]) (st := []) dX11_visit_10 lk_X11_88 (h_room (by decide)) nl_1 zk_1 (by decide) rfl rfl rfl (Nat.le_of_ble_eq_true rfl) ?_
    refine c_X9_hasKind (fun c7 c8 => ?_) (fun c9 => ?_)
    ·
      refine h_if_ne (tgt := 19) dX11_visit_13 (by decide) (fun _ => ?_) (fun c => absurd c (by decide))
      refine h_aload_n dX11_visit_19 rfl 0 rfl ?_
      refine gf_9_0 dX11_visit_20 hl_X11_10 nl_0 zk_0 zp_0_0 ?_
      refine h_aload_n dX11_visit_23 rfl 0 rfl ?_
      refine gf_9_1 dX11_visit_24 hl_X11_19 nl_0 zk_0 zp_0_1 ?_
      refine gf_3_1 dX11_visit_27 hl_X11_139 nl_12 zk_12 ?_
      refine h_invV (As := [.int (I 12 1)]) (st := []) dX11_visit_30 lk_X11_132 (h_room (by decide)) nl_1 zk_1 (by decide) rfl rfl rfl (Nat.le_of_ble_eq_true rfl) ?_
      refine c_X9_visitor ?_
      refine h_istore_n (L' := [(2, .int (fVis (I 1 10) (I 9) (I 12 1))), (0, .ref 0), (1, .int a)]) dX11_visit_33 rfl (by decide) rfl ?_
      refine h_iload_n dX11_visit_34 rfl 0 rfl ?_
      refine h_iconst (v := (-1)) dX11_visit_35 (by decide) ?_
      refine h_icmp_eq (tgt := 56) dX11_visit_36 (by decide) (fun c10 => ?_) (fun c10 => ?_)
      ·
        refine h_bipush (v := (-4)) dX11_visit_56 (by decide) ?_
        exact h_iret dX11_visit_58 rfl (k7 c1 c7 c8 c10)
      ·
        refine h_iload_n dX11_visit_39 rfl 2 rfl ?_
        refine h_iconst (v := (-1)) dX11_visit_40 (by decide) ?_
        refine h_icmp_eq (tgt := 59) dX11_visit_41 (by decide) (fun c11 => ?_) (fun c11 => ?_)
        ·
          refine h_iload_n dX11_visit_59 rfl 2 rfl ?_
          refine h_iconst (v := (-1)) dX11_visit_60 (by decide) ?_
          refine h_icmp_ne (tgt := 68) dX11_visit_61 (by decide) (fun c12 => ?_) (fun c12 => ?_)
          ·
            refine h_aload_n dX11_visit_68 rfl 1 rfl ?_
            refine gf_9_0 dX11_visit_69 hl_X11_10 nl_0 zk_0 zp_0_0 ?_
            refine h_aload_n dX11_visit_72 rfl 1 rfl ?_
            refine gf_9_1 dX11_visit_73 hl_X11_19 nl_0 zk_0 zp_0_1 ?_
            refine h_iload_n dX11_visit_76 rfl 2 rfl ?_
            refine h_pick [1, 2] [(0, .ref 0), (1, .int a)] rfl ?_
            refine h_invV (As := [.ref 12, .int a]) (st := []) dX11_visit_77 lk_X11_135 (h_room (by decide)) nl_1 zk_1 (by decide) rfl rfl rfl (Nat.le_of_ble_eq_true rfl) ?_
            exact k8 c1 c7 c8 c10 c11 c12
          ·
            refine h_iconst (v := 0) dX11_visit_64 (by decide) ?_
            refine h_goto (tgt := 80) dX11_visit_65 (by decide) ?_
            refine h_istore_n (L' := [(3, .int 0), (2, .int (fVis (I 1 10) (I 9) (I 12 1))), (0, .ref 0), (1, .int a)]) dX11_visit_80 rfl (by decide) rfl ?_
            refine h_aload_n dX11_visit_81 rfl 2 rfl ?_
            refine gf_9_0 dX11_visit_82 hl_X11_10 nl_0 zk_0 zp_0_0 ?_
            refine h_aload_n dX11_visit_85 rfl 2 rfl ?_
            refine gf_9_1 dX11_visit_86 hl_X11_19 nl_0 zk_0 zp_0_1 ?_
            refine h_iload_n dX11_visit_89 rfl 3 rfl ?_
            refine h_pick [2, 0] [(0, .ref 0), (3, .int 0)] rfl ?_
            refine h_invV (As := [.ref 12, .int a]) (st := []) dX11_visit_90 lk_X11_142 (h_room (by decide)) nl_1 zk_1 (by decide) rfl rfl rfl (Nat.le_of_ble_eq_true rfl) ?_
            exact k9 c1 c7 c8 c10 c11 c12
        ·
          refine h_aload_n dX11_visit_44 rfl 1 rfl ?_
          refine gf_9_1 dX11_visit_45 hl_X11_19 nl_0 zk_0 zp_0_1 ?_
          refine h_iload_n dX11_visit_48 rfl 0 rfl ?_
          refine h_iload_n dX11_visit_49 rfl 2 rfl ?_
          refine h_invV (As := [.int (fVis (I 1 10) (I 9) (I 12 1)), .int a]) (st := []) dX11_visit_50 lk_X11_96 (h_room (by decide)) nl_12 zk_12 (by decide) rfl rfl rfl (Nat.le_of_ble_eq_true rfl) ?_
          refine c_X4_of nl_12 zk_12 zp_12_0 nl_13 zk_13 zn_13 ?_
          refine h_if_ne (tgt := 59) dX11_visit_53 (by decide) (fun c13 => ?_) (fun c13 => ?_)
          ·
            refine h_iload_n dX11_visit_59 rfl 2 rfl ?_
            refine h_iconst (v := (-1)) dX11_visit_60 (by decide) ?_
            refine h_icmp_ne (tgt := 68) dX11_visit_61 (by decide) (fun c14 => ?_) (fun c14 => ?_)
            ·
              refine h_aload_n dX11_visit_68 rfl 1 rfl ?_
              refine gf_9_0 dX11_visit_69 hl_X11_10 nl_0 zk_0 zp_0_0 ?_
              refine h_aload_n dX11_visit_72 rfl 1 rfl ?_
              refine gf_9_1 dX11_visit_73 hl_X11_19 nl_0 zk_0 zp_0_1 ?_
              refine h_iload_n dX11_visit_76 rfl 2 rfl ?_
              refine h_pick [1, 2] [(0, .ref 0), (1, .int a)] rfl ?_
              refine h_invV (As := [.ref 12, .int a]) (st := []) dX11_visit_77 lk_X11_135 (h_room (by decide)) nl_1 zk_1 (by decide) rfl rfl rfl (Nat.le_of_ble_eq_true rfl) ?_
              exact k10 c1 c7 c8 c10 c11 c13 c14
            ·
              refine h_iconst (v := 0) dX11_visit_64 (by decide) ?_
              refine h_goto (tgt := 80) dX11_visit_65 (by decide) ?_
              refine h_istore_n (L' := [(3, .int 0), (2, .int (fVis (I 1 10) (I 9) (I 12 1))), (0, .ref 0), (1, .int a)]) dX11_visit_80 rfl (by decide) rfl ?_
              refine h_aload_n dX11_visit_81 rfl 2 rfl ?_
              refine gf_9_0 dX11_visit_82 hl_X11_10 nl_0 zk_0 zp_0_0 ?_
              refine h_aload_n dX11_visit_85 rfl 2 rfl ?_
              refine gf_9_1 dX11_visit_86 hl_X11_19 nl_0 zk_0 zp_0_1 ?_
              refine h_iload_n dX11_visit_89 rfl 3 rfl ?_
              refine h_pick [2, 0] [(0, .ref 0), (3, .int 0)] rfl ?_
              refine h_invV (As := [.ref 12, .int a]) (st := []) dX11_visit_90 lk_X11_142 (h_room (by decide)) nl_1 zk_1 (by decide) rfl rfl rfl (Nat.le_of_ble_eq_true rfl) ?_
              exact k11 c1 c7 c8 c10 c11 c13 c14
          ·
            refine h_bipush (v := (-4)) dX11_visit_56 (by decide) ?_
            exact h_iret dX11_visit_58 rfl (k12 c1 c7 c8 c10 c11 c13)
    ·
      refine h_if_ne (tgt := 19) dX11_visit_13 (by decide) (fun c => absurd c (by decide)) (fun _ => ?_)
      refine h_bipush (v := (-2)) dX11_visit_16 (by decide) ?_
      exact h_iret dX11_visit_18 rfl (k13 c1 c9)
set_option maxHeartbeats 1000000 in
set_option maxRecDepth 20000 in
theorem sg_X11_visit_80 {E : HEn} {d : Nat} {Q : Option Value → HIh → Prop} {I : HIh} {x1 : Int32} {s0 : Int32}
    (k1 : HCall E me_X9_letVisit (d + 3) [.ref 1, .ref 12, .int x1] I (fun v9 J => HGo E (mF E (d + 4) Q) me_X11_visit 93 [(0, .ref 0), (3, .int s0)] (v9.toList ++ []) J))
    : HGo E (mF E (d + 4) Q) me_X11_visit 80 [(0, .ref 0), (1, .int x1)] [.int s0] I := by
  refine h_istore_n (L' := [(3, .int s0), (0, .ref 0), (1, .int x1)]) dX11_visit_80 rfl (by decide) rfl ?_
  refine h_aload_n dX11_visit_81 rfl 1 rfl ?_
  refine gf_9_0 dX11_visit_82 hl_X11_10 nl_0 zk_0 zp_0_0 ?_
  refine h_aload_n dX11_visit_85 rfl 1 rfl ?_
  refine gf_9_1 dX11_visit_86 hl_X11_19 nl_0 zk_0 zp_0_1 ?_
  refine h_iload_n dX11_visit_89 rfl 2 rfl ?_
  refine h_pick [1, 0] [(0, .ref 0), (3, .int s0)] rfl ?_
  refine h_invV (As := [.ref 12, .int x1]) (st := []) dX11_visit_90 lk_X11_142 (h_room (by decide)) nl_1 zk_1 (by decide) rfl rfl rfl (Nat.le_of_ble_eq_true rfl) ?_
  exact k1
set_option maxHeartbeats 1000000 in
set_option maxRecDepth 20000 in
theorem sg_X11_visit_93 {E : HEn} {d : Nat} {Q : Option Value → HIh → Prop} {I : HIh} {x3 : Int32}
    (k1 : Q (some (.int (x3 + 100000))) (setI I 32 (upd (I 32) 4 (-1))))
    : HGo E (mF E (d + 4) Q) me_X11_visit 93 [(0, .ref 0), (3, .int x3)] [] I := by
  refine h_aload_n dX11_visit_93 rfl 0 rfl ?_
  refine gf_9_4 dX11_visit_94 hl_X11_39 nl_0 zk_0 zp_0_4 ?_
  refine h_invV (As := []) (st := []) dX11_visit_97 lk_X11_82 (h_room (by decide)) nl_32 zk_32 (by decide) rfl rfl rfl (Nat.le_of_ble_eq_true rfl) ?_
  refine c_X2_becomeStale ?_
  refine h_iload_n dX11_visit_100 rfl 1 rfl ?_
  refine h_ldc dX11_visit_101 wt_600 rfl ?_
  refine h_iadd dX11_visit_103 ?_
  exact h_iret dX11_visit_104 rfl (k1)
set_option maxHeartbeats 1000000 in
set_option maxRecDepth 20000 in
theorem sg_X11_count_0 {E : HEn} {d : Nat} {Q : Option Value → HIh → Prop} {I : HIh} {a : Int32}
    (k1 : a = 0 → Q (some (.int (I 1 9))) I)
    (k2 : ¬ a = 0 → a = 1 → HCall E me_X9_wealth (d + 3) [.ref 1, .ref 12, .int 4] I (fun v9 J => HGo E (mF E (d + 4) Q) me_X11_count 68 [] (v9.toList ++ []) J))
    (k3 : ¬ a = 0 → ¬ a = 1 → a = 2 → Q (some (.int (I 1 11))) I)
    (k4 : ¬ a = 0 → ¬ a = 1 → ¬ a = 2 → a = 3 → Q (some (.int (I 1 10))) I)
    (k5 : ¬ a = 0 → ¬ a = 1 → ¬ a = 2 → ¬ a = 3 → a = 4 → Q (some (.int (I 12 1))) I)
    (k6 : ¬ a = 0 → ¬ a = 1 → ¬ a = 2 → ¬ a = 3 → ¬ a = 4 → a = 5 → Q (some (.int (I 80 6))) I)
    (k7 : ¬ a = 0 → ¬ a = 1 → ¬ a = 2 → ¬ a = 3 → ¬ a = 4 → ¬ a = 5 → a = 6 → Q (some (.int (I 19 2))) I)
    (k8 : ¬ a = 0 → ¬ a = 1 → ¬ a = 2 → ¬ a = 3 → ¬ a = 4 → ¬ a = 5 → ¬ a = 6 → a = 7 → HCall E me_X11_wealthOfAll (d + 3) [.ref 0] I (fun v9 J => HGo E (mF E (d + 4) Q) me_X11_count 113 [] (v9.toList ++ []) J))
    (k9 : ¬ a = 0 → ¬ a = 1 → ¬ a = 2 → ¬ a = 3 → ¬ a = 4 → ¬ a = 5 → ¬ a = 6 → ¬ a = 7 → Q (some (.int (-3))) I)
    : HGo E (mF E (d + 4) Q) me_X11_count 0 [(0, .ref 0), (1, .int a)] [] I := by
  refine h_iload_n dX11_count_0 rfl 1 rfl ?_
  by_cases c1 : a = 0
  · refine h_tswIn (off := 47) (tgt := 48) 0 dX11_count_1 (by rw [c1]; rfl) (by decide) (by decide) (by decide) (by decide) ?_
    refine h_aload_n dX11_count_48 rfl 0 rfl ?_
    refine gf_9_0 dX11_count_49 hl_X11_10 nl_0 zk_0 zp_0_0 ?_
    refine gf_7_9 dX11_count_52 hl_X11_190 nl_1 zk_1 ?_
    exact h_iret dX11_count_55 rfl (k1 c1)
  by_cases c2 : a = 1
  · refine h_tswIn (off := 55) (tgt := 56) 1 dX11_count_1 (by rw [c2]; rfl) (by decide) (by decide) (by decide) (by decide) ?_
    refine h_aload_n dX11_count_56 rfl 0 rfl ?_
    refine gf_9_0 dX11_count_57 hl_X11_10 nl_0 zk_0 zp_0_0 ?_
    refine h_aload_n dX11_count_60 rfl 0 rfl ?_
    refine gf_9_1 dX11_count_61 hl_X11_19 nl_0 zk_0 zp_0_1 ?_
    refine h_iconst (v := 4) dX11_count_64 (by decide) ?_
    refine h_pick [] [] rfl ?_
    refine h_invV (As := [.ref 12, .int 4]) (st := []) dX11_count_65 lk_X11_103 (h_room (by decide)) nl_1 zk_1 (by decide) rfl rfl rfl (Nat.le_of_ble_eq_true rfl) ?_
    exact k2 c1 c2
  by_cases c3 : a = 2
  · refine h_tswIn (off := 68) (tgt := 69) 2 dX11_count_1 (by rw [c3]; rfl) (by decide) (by decide) (by decide) (by decide) ?_
    refine h_aload_n dX11_count_69 rfl 0 rfl ?_
    refine gf_9_0 dX11_count_70 hl_X11_10 nl_0 zk_0 zp_0_0 ?_
    refine gf_7_11 dX11_count_73 hl_X11_208 nl_1 zk_1 ?_
    exact h_iret dX11_count_76 rfl (k3 c1 c2 c3)
  by_cases c4 : a = 3
  · refine h_tswIn (off := 76) (tgt := 77) 3 dX11_count_1 (by rw [c4]; rfl) (by decide) (by decide) (by decide) (by decide) ?_
    refine h_aload_n dX11_count_77 rfl 0 rfl ?_
    refine gf_9_0 dX11_count_78 hl_X11_10 nl_0 zk_0 zp_0_0 ?_
    refine gf_7_10 dX11_count_81 hl_X11_146 nl_1 zk_1 ?_
    exact h_iret dX11_count_84 rfl (k4 c1 c2 c3 c4)
  by_cases c5 : a = 4
  · refine h_tswIn (off := 84) (tgt := 85) 4 dX11_count_1 (by rw [c5]; rfl) (by decide) (by decide) (by decide) (by decide) ?_
    refine h_aload_n dX11_count_85 rfl 0 rfl ?_
    refine gf_9_1 dX11_count_86 hl_X11_19 nl_0 zk_0 zp_0_1 ?_
    refine gf_3_1 dX11_count_89 hl_X11_139 nl_12 zk_12 ?_
    exact h_iret dX11_count_92 rfl (k5 c1 c2 c3 c4 c5)
  by_cases c6 : a = 5
  · refine h_tswIn (off := 92) (tgt := 93) 5 dX11_count_1 (by rw [c6]; rfl) (by decide) (by decide) (by decide) (by decide) ?_
    refine h_aload_n dX11_count_93 rfl 0 rfl ?_
    refine gf_9_5 dX11_count_94 hl_X11_46 nl_0 zk_0 zp_0_5 ?_
    refine gf_5_6 dX11_count_97 hl_X11_76 nl_80 zk_80 ?_
    exact h_iret dX11_count_100 rfl (k6 c1 c2 c3 c4 c5 c6)
  by_cases c7 : a = 6
  · refine h_tswIn (off := 100) (tgt := 101) 6 dX11_count_1 (by rw [c7]; rfl) (by decide) (by decide) (by decide) (by decide) ?_
    refine h_aload_n dX11_count_101 rfl 0 rfl ?_
    refine gf_9_3 dX11_count_102 hl_X11_30 nl_0 zk_0 zp_0_3 ?_
    refine gf_6_2 dX11_count_105 hl_X11_50 nl_19 zk_19 ?_
    exact h_iret dX11_count_108 rfl (k7 c1 c2 c3 c4 c5 c6 c7)
  by_cases c8 : a = 7
  · refine h_tswIn (off := 108) (tgt := 109) 7 dX11_count_1 (by rw [c8]; rfl) (by decide) (by decide) (by decide) (by decide) ?_
    refine h_aload_n dX11_count_109 rfl 0 rfl ?_
    refine h_pick [] [] rfl ?_
    refine h_invV (As := []) (st := []) dX11_count_110 lk_X11_211 (h_room (by decide)) nl_0 zk_0 (by decide) rfl rfl rfl (Nat.le_of_ble_eq_true rfl) ?_
    exact k8 c1 c2 c3 c4 c5 c6 c7 c8
  refine h_tswOut (tgt := 114) dX11_count_1 (tsw_out8 c1 c2 c3 c4 c5 c6 c7 c8) (by decide) ?_
  refine h_bipush (v := (-3)) dX11_count_114 (by decide) ?_
  exact h_iret dX11_count_116 rfl (k9 c1 c2 c3 c4 c5 c6 c7 c8)
set_option maxHeartbeats 1000000 in
set_option maxRecDepth 20000 in
theorem sg_X11_count_68 {E : HEn} {d : Nat} {Q : Option Value → HIh → Prop} {I : HIh} {s0 : Int32}
    (k1 : Q (some (.int s0)) I)
    : HGo E (mF E (d + 4) Q) me_X11_count 68 [] [.int s0] I := by
  exact h_iret dX11_count_68 rfl (k1)
set_option maxHeartbeats 1000000 in
set_option maxRecDepth 20000 in
theorem sg_X11_count_113 {E : HEn} {d : Nat} {Q : Option Value → HIh → Prop} {I : HIh} {s0 : Int32}
    (k1 : Q (some (.int s0)) I)
    : HGo E (mF E (d + 4) Q) me_X11_count 113 [] [.int s0] I := by
  exact h_iret dX11_count_113 rfl (k1)
set_option maxHeartbeats 1000000 in
set_option maxRecDepth 20000 in
theorem sg_X11_as_N_0 {E : HEn} {d : Nat} {Q : Option Value → HIh → Prop} {I : HIh} {a : Int32} {b : Int32}
    (k1 : (0 : Int32) ≤ a → a < 4 → b < 0 → Q (some (.int (-3))) I)
    (k2 : (0 : Int32) ≤ a → a < 4 → ¬ b < 0 → b ≤ 5 → HCall E me_X9_folkOf (d + 3) [.ref 1, .int a] I (fun v9 J => HGo E (mF E (d + 4) Q) me_X11_as 30 [(0, .ref 0), (1, .int a), (2, .int b)] (v9.toList ++ []) J))
    (k3 : (0 : Int32) ≤ a → a < 4 → ¬ b < 0 → ¬ b ≤ 5 → Q (some (.int (-3))) I)
    (k4 : ¬ ((0 : Int32) ≤ a ∧ a < 4) → Q (some (.int (-2))) I)
    : HGo E (mF E (d + 4) Q) me_X11_as 0 [(0, .ref 0), (1, .int a), (2, .int b)] [] I := by
  refine h_iload_n dX11_as_0 rfl 1 rfl ?_
  refine h_invS (As := [.int a]) (st := []) dX11_as_1 lk_X11_100 (h_room (by decide)) rfl rfl (Nat.le_of_ble_eq_true rfl) ?_
  refine c_X11_isPerson (fun c1 c2 => ?_) (fun c3 => ?_)
  ·
    refine h_if_ne (tgt := 10) dX11_as_4 (by decide) (fun _ => ?_) (fun c => absurd c (by decide))
    refine h_iload_n dX11_as_10 rfl 2 rfl ?_
    refine h_if_lt (tgt := 19) dX11_as_11 (by decide) (fun c4 => ?_) (fun c4 => ?_)
    ·
      refine h_bipush (v := (-3)) dX11_as_19 (by decide) ?_
      exact h_iret dX11_as_21 rfl (k1 c1 c2 c4)
    ·
      refine h_iload_n dX11_as_14 rfl 2 rfl ?_
      refine h_iconst (v := 5) dX11_as_15 (by decide) ?_
      refine h_icmp_le (tgt := 22) dX11_as_16 (by decide) (fun c5 => ?_) (fun c5 => ?_)
      ·
        refine h_aload_n dX11_as_22 rfl 0 rfl ?_
        refine gf_9_0 dX11_as_23 hl_X11_10 nl_0 zk_0 zp_0_0 ?_
        refine h_iload_n dX11_as_26 rfl 1 rfl ?_
        refine h_invV (As := [.int a]) (st := []) dX11_as_27 lk_X11_107 (h_room (by decide)) nl_1 zk_1 (by decide) rfl rfl rfl (Nat.le_of_ble_eq_true rfl) ?_
        exact k2 c1 c2 c4 c5
      ·
        refine h_bipush (v := (-3)) dX11_as_19 (by decide) ?_
        exact h_iret dX11_as_21 rfl (k3 c1 c2 c4 c5)
  ·
    refine h_if_ne (tgt := 10) dX11_as_4 (by decide) (fun c => absurd c (by decide)) (fun _ => ?_)
    refine h_bipush (v := (-2)) dX11_as_7 (by decide) ?_
    exact h_iret dX11_as_9 rfl (k4 c3)
set_option maxHeartbeats 1000000 in
set_option maxRecDepth 20000 in
theorem sg_X11_as_N_30 {E : HEn} {d : Nat} {Q : Option Value → HIh → Prop} {I : HIh} {x1 : Int32} {x2 : Int32}
    (k1 : HCall E me_X11_isA (d + 3) [.ref 2, .int x2] I (fun v9 J => HGo E (mF E (d + 4) Q) me_X11_as 36 [(0, .ref 0), (1, .int x1), (3, .ref 2)] (v9.toList ++ []) J))
    : HGo E (mF E (d + 4) Q) me_X11_as 30 [(0, .ref 0), (1, .int x1), (2, .int x2)] [.ref 2] I := by
  refine h_astore_n (L' := [(3, .ref 2), (0, .ref 0), (1, .int x1), (2, .int x2)]) dX11_as_30 rfl (by decide) rfl ?_
  refine h_aload_n dX11_as_31 rfl 0 rfl ?_
  refine h_iload_n dX11_as_32 rfl 3 rfl ?_
  refine h_pick [1, 2, 0] [(0, .ref 0), (1, .int x1), (3, .ref 2)] rfl ?_
  refine h_invS (As := [.ref 2, .int x2]) (st := []) dX11_as_33 lk_X11_124 (h_room (by decide)) rfl rfl (Nat.le_of_ble_eq_true rfl) ?_
  exact k1
set_option maxHeartbeats 1000000 in
set_option maxRecDepth 20000 in
theorem sg_X11_as_N_36 {E : HEn} {d : Nat} {Q : Option Value → HIh → Prop} {I : HIh} {x1 : Int32} {s0 : Int32}
    (k1 : s0 = 0 → Q (some (.int (-4))) I)
    (k2 : ¬ s0 = 0 → HCall E me_X5_wouldThrow (d + 3) [.ref 2, .ref 1, .ref 12, .int x1] I (fun v9 J => HGo E (mF E (d + 4) Q) me_X11_as 52 [] (v9.toList ++ []) J))
    : HGo E (mF E (d + 4) Q) me_X11_as 36 [(0, .ref 0), (1, .int x1), (3, .ref 2)] [.int s0] I := by
  refine h_if_eq (tgt := 55) dX11_as_36 (by decide) (fun c1 => ?_) (fun c1 => ?_)
  ·
    refine h_bipush (v := (-4)) dX11_as_55 (by decide) ?_
    exact h_iret dX11_as_57 rfl (k1 c1)
  ·
    refine h_aload_n dX11_as_39 rfl 2 rfl ?_
    refine h_aload_n dX11_as_40 rfl 0 rfl ?_
    refine gf_9_0 dX11_as_41 hl_X11_10 nl_0 zk_0 zp_0_0 ?_
    refine h_aload_n dX11_as_44 rfl 0 rfl ?_
    refine gf_9_1 dX11_as_45 hl_X11_19 nl_0 zk_0 zp_0_1 ?_
    refine h_iload_n dX11_as_48 rfl 1 rfl ?_
    refine h_pick [] [] rfl ?_
    refine h_invU (As := [.ref 1, .ref 12, .int x1]) (st := []) dX11_as_49 lk_X11_128_X5 (h_room (by decide)) nl_2 zk_2 (by decide) rfl rfl rfl (Nat.le_of_ble_eq_true rfl) ?_
    exact k2 c1
set_option maxHeartbeats 1000000 in
set_option maxRecDepth 20000 in
theorem sg_X11_as_N_52 {E : HEn} {d : Nat} {Q : Option Value → HIh → Prop} {I : HIh} {s0 : Int32}
    (k1 : Q (some (.int s0)) I)
    : HGo E (mF E (d + 4) Q) me_X11_as 52 [] [.int s0] I := by
  refine h_goto (tgt := 57) dX11_as_52 (by decide) ?_
  exact h_iret dX11_as_57 rfl (k1)
set_option maxHeartbeats 1000000 in
set_option maxRecDepth 20000 in
theorem sg_X11_as_G_0 {E : HEn} {d : Nat} {Q : Option Value → HIh → Prop} {I : HIh} {a : Int32} {b : Int32}
    (k1 : (0 : Int32) ≤ a → a < 4 → b < 0 → Q (some (.int (-3))) I)
    (k2 : (0 : Int32) ≤ a → a < 4 → ¬ b < 0 → b ≤ 5 → HCall E me_X9_folkOf (d + 3) [.ref 1, .int a] I (fun v9 J => HGo E (mF E (d + 4) Q) me_X11_as 30 [(0, .ref 0), (1, .int a), (2, .int b)] (v9.toList ++ []) J))
    (k3 : (0 : Int32) ≤ a → a < 4 → ¬ b < 0 → ¬ b ≤ 5 → Q (some (.int (-3))) I)
    (k4 : ¬ ((0 : Int32) ≤ a ∧ a < 4) → Q (some (.int (-2))) I)
    : HGo E (mF E (d + 4) Q) me_X11_as 0 [(0, .ref 0), (1, .int a), (2, .int b)] [] I := by
  refine h_iload_n dX11_as_0 rfl 1 rfl ?_
  refine h_invS (As := [.int a]) (st := []) dX11_as_1 lk_X11_100 (h_room (by decide)) rfl rfl (Nat.le_of_ble_eq_true rfl) ?_
  refine c_X11_isPerson (fun c1 c2 => ?_) (fun c3 => ?_)
  ·
    refine h_if_ne (tgt := 10) dX11_as_4 (by decide) (fun _ => ?_) (fun c => absurd c (by decide))
    refine h_iload_n dX11_as_10 rfl 2 rfl ?_
    refine h_if_lt (tgt := 19) dX11_as_11 (by decide) (fun c4 => ?_) (fun c4 => ?_)
    ·
      refine h_bipush (v := (-3)) dX11_as_19 (by decide) ?_
      exact h_iret dX11_as_21 rfl (k1 c1 c2 c4)
    ·
      refine h_iload_n dX11_as_14 rfl 2 rfl ?_
      refine h_iconst (v := 5) dX11_as_15 (by decide) ?_
      refine h_icmp_le (tgt := 22) dX11_as_16 (by decide) (fun c5 => ?_) (fun c5 => ?_)
      ·
        refine h_aload_n dX11_as_22 rfl 0 rfl ?_
        refine gf_9_0 dX11_as_23 hl_X11_10 nl_0 zk_0 zp_0_0 ?_
        refine h_iload_n dX11_as_26 rfl 1 rfl ?_
        refine h_invV (As := [.int a]) (st := []) dX11_as_27 lk_X11_107 (h_room (by decide)) nl_1 zk_1 (by decide) rfl rfl rfl (Nat.le_of_ble_eq_true rfl) ?_
        exact k2 c1 c2 c4 c5
      ·
        refine h_bipush (v := (-3)) dX11_as_19 (by decide) ?_
        exact h_iret dX11_as_21 rfl (k3 c1 c2 c4 c5)
  ·
    refine h_if_ne (tgt := 10) dX11_as_4 (by decide) (fun c => absurd c (by decide)) (fun _ => ?_)
    refine h_bipush (v := (-2)) dX11_as_7 (by decide) ?_
    exact h_iret dX11_as_9 rfl (k4 c3)
set_option maxHeartbeats 1000000 in
set_option maxRecDepth 20000 in
theorem sg_X11_as_G_30 {E : HEn} {d : Nat} {Q : Option Value → HIh → Prop} {I : HIh} {x1 : Int32} {x2 : Int32}
    (k1 : HCall E me_X11_isA (d + 3) [.ref 3, .int x2] I (fun v9 J => HGo E (mF E (d + 4) Q) me_X11_as 36 [(0, .ref 0), (1, .int x1), (3, .ref 3)] (v9.toList ++ []) J))
    : HGo E (mF E (d + 4) Q) me_X11_as 30 [(0, .ref 0), (1, .int x1), (2, .int x2)] [.ref 3] I := by
  refine h_astore_n (L' := [(3, .ref 3), (0, .ref 0), (1, .int x1), (2, .int x2)]) dX11_as_30 rfl (by decide) rfl ?_
  refine h_aload_n dX11_as_31 rfl 0 rfl ?_
  refine h_iload_n dX11_as_32 rfl 3 rfl ?_
  refine h_pick [1, 2, 0] [(0, .ref 0), (1, .int x1), (3, .ref 3)] rfl ?_
  refine h_invS (As := [.ref 3, .int x2]) (st := []) dX11_as_33 lk_X11_124 (h_room (by decide)) rfl rfl (Nat.le_of_ble_eq_true rfl) ?_
  exact k1
set_option maxHeartbeats 1000000 in
set_option maxRecDepth 20000 in
theorem sg_X11_as_G_36 {E : HEn} {d : Nat} {Q : Option Value → HIh → Prop} {I : HIh} {x1 : Int32} {s0 : Int32}
    (k1 : s0 = 0 → Q (some (.int (-4))) I)
    (k2 : ¬ s0 = 0 → HCall E me_X8_wouldThrow (d + 3) [.ref 3, .ref 1, .ref 12, .int x1] I (fun v9 J => HGo E (mF E (d + 4) Q) me_X11_as 52 [] (v9.toList ++ []) J))
    : HGo E (mF E (d + 4) Q) me_X11_as 36 [(0, .ref 0), (1, .int x1), (3, .ref 3)] [.int s0] I := by
  refine h_if_eq (tgt := 55) dX11_as_36 (by decide) (fun c1 => ?_) (fun c1 => ?_)
  ·
    refine h_bipush (v := (-4)) dX11_as_55 (by decide) ?_
    exact h_iret dX11_as_57 rfl (k1 c1)
  ·
    refine h_aload_n dX11_as_39 rfl 2 rfl ?_
    refine h_aload_n dX11_as_40 rfl 0 rfl ?_
    refine gf_9_0 dX11_as_41 hl_X11_10 nl_0 zk_0 zp_0_0 ?_
    refine h_aload_n dX11_as_44 rfl 0 rfl ?_
    refine gf_9_1 dX11_as_45 hl_X11_19 nl_0 zk_0 zp_0_1 ?_
    refine h_iload_n dX11_as_48 rfl 1 rfl ?_
    refine h_pick [] [] rfl ?_
    refine h_invU (As := [.ref 1, .ref 12, .int x1]) (st := []) dX11_as_49 lk_X11_128_X3 (h_room (by decide)) nl_3 zk_3 (by decide) rfl rfl rfl (Nat.le_of_ble_eq_true rfl) ?_
    exact k2 c1
set_option maxHeartbeats 1000000 in
set_option maxRecDepth 20000 in
theorem sg_X11_as_G_52 {E : HEn} {d : Nat} {Q : Option Value → HIh → Prop} {I : HIh} {s0 : Int32}
    (k1 : Q (some (.int s0)) I)
    : HGo E (mF E (d + 4) Q) me_X11_as 52 [] [.int s0] I := by
  refine h_goto (tgt := 57) dX11_as_52 (by decide) ?_
  exact h_iret dX11_as_57 rfl (k1)
set_option maxHeartbeats 1000000 in
set_option maxRecDepth 20000 in
theorem sg_X11_as_W_0 {E : HEn} {d : Nat} {Q : Option Value → HIh → Prop} {I : HIh} {a : Int32} {b : Int32}
    (k1 : (0 : Int32) ≤ a → a < 4 → b < 0 → Q (some (.int (-3))) I)
    (k2 : (0 : Int32) ≤ a → a < 4 → ¬ b < 0 → b ≤ 5 → HCall E me_X9_folkOf (d + 3) [.ref 1, .int a] I (fun v9 J => HGo E (mF E (d + 4) Q) me_X11_as 30 [(0, .ref 0), (1, .int a), (2, .int b)] (v9.toList ++ []) J))
    (k3 : (0 : Int32) ≤ a → a < 4 → ¬ b < 0 → ¬ b ≤ 5 → Q (some (.int (-3))) I)
    (k4 : ¬ ((0 : Int32) ≤ a ∧ a < 4) → Q (some (.int (-2))) I)
    : HGo E (mF E (d + 4) Q) me_X11_as 0 [(0, .ref 0), (1, .int a), (2, .int b)] [] I := by
  refine h_iload_n dX11_as_0 rfl 1 rfl ?_
  refine h_invS (As := [.int a]) (st := []) dX11_as_1 lk_X11_100 (h_room (by decide)) rfl rfl (Nat.le_of_ble_eq_true rfl) ?_
  refine c_X11_isPerson (fun c1 c2 => ?_) (fun c3 => ?_)
  ·
    refine h_if_ne (tgt := 10) dX11_as_4 (by decide) (fun _ => ?_) (fun c => absurd c (by decide))
    refine h_iload_n dX11_as_10 rfl 2 rfl ?_
    refine h_if_lt (tgt := 19) dX11_as_11 (by decide) (fun c4 => ?_) (fun c4 => ?_)
    ·
      refine h_bipush (v := (-3)) dX11_as_19 (by decide) ?_
      exact h_iret dX11_as_21 rfl (k1 c1 c2 c4)
    ·
      refine h_iload_n dX11_as_14 rfl 2 rfl ?_
      refine h_iconst (v := 5) dX11_as_15 (by decide) ?_
      refine h_icmp_le (tgt := 22) dX11_as_16 (by decide) (fun c5 => ?_) (fun c5 => ?_)
      ·
        refine h_aload_n dX11_as_22 rfl 0 rfl ?_
        refine gf_9_0 dX11_as_23 hl_X11_10 nl_0 zk_0 zp_0_0 ?_
        refine h_iload_n dX11_as_26 rfl 1 rfl ?_
        refine h_invV (As := [.int a]) (st := []) dX11_as_27 lk_X11_107 (h_room (by decide)) nl_1 zk_1 (by decide) rfl rfl rfl (Nat.le_of_ble_eq_true rfl) ?_
        exact k2 c1 c2 c4 c5
      ·
        refine h_bipush (v := (-3)) dX11_as_19 (by decide) ?_
        exact h_iret dX11_as_21 rfl (k3 c1 c2 c4 c5)
  ·
    refine h_if_ne (tgt := 10) dX11_as_4 (by decide) (fun c => absurd c (by decide)) (fun _ => ?_)
    refine h_bipush (v := (-2)) dX11_as_7 (by decide) ?_
    exact h_iret dX11_as_9 rfl (k4 c3)
set_option maxHeartbeats 1000000 in
set_option maxRecDepth 20000 in
theorem sg_X11_as_W_30 {E : HEn} {d : Nat} {Q : Option Value → HIh → Prop} {I : HIh} {x1 : Int32} {x2 : Int32}
    (k1 : HCall E me_X11_isA (d + 3) [.ref 4, .int x2] I (fun v9 J => HGo E (mF E (d + 4) Q) me_X11_as 36 [(0, .ref 0), (1, .int x1), (3, .ref 4)] (v9.toList ++ []) J))
    : HGo E (mF E (d + 4) Q) me_X11_as 30 [(0, .ref 0), (1, .int x1), (2, .int x2)] [.ref 4] I := by
  refine h_astore_n (L' := [(3, .ref 4), (0, .ref 0), (1, .int x1), (2, .int x2)]) dX11_as_30 rfl (by decide) rfl ?_
  refine h_aload_n dX11_as_31 rfl 0 rfl ?_
  refine h_iload_n dX11_as_32 rfl 3 rfl ?_
  refine h_pick [1, 2, 0] [(0, .ref 0), (1, .int x1), (3, .ref 4)] rfl ?_
  refine h_invS (As := [.ref 4, .int x2]) (st := []) dX11_as_33 lk_X11_124 (h_room (by decide)) rfl rfl (Nat.le_of_ble_eq_true rfl) ?_
  exact k1
set_option maxHeartbeats 1000000 in
set_option maxRecDepth 20000 in
theorem sg_X11_as_W_36 {E : HEn} {d : Nat} {Q : Option Value → HIh → Prop} {I : HIh} {x1 : Int32} {s0 : Int32}
    (k1 : s0 = 0 → Q (some (.int (-4))) I)
    (k2 : ¬ s0 = 0 → HCall E me_X8_wouldThrow (d + 3) [.ref 4, .ref 1, .ref 12, .int x1] I (fun v9 J => HGo E (mF E (d + 4) Q) me_X11_as 52 [] (v9.toList ++ []) J))
    : HGo E (mF E (d + 4) Q) me_X11_as 36 [(0, .ref 0), (1, .int x1), (3, .ref 4)] [.int s0] I := by
  refine h_if_eq (tgt := 55) dX11_as_36 (by decide) (fun c1 => ?_) (fun c1 => ?_)
  ·
    refine h_bipush (v := (-4)) dX11_as_55 (by decide) ?_
    exact h_iret dX11_as_57 rfl (k1 c1)
  ·
    refine h_aload_n dX11_as_39 rfl 2 rfl ?_
    refine h_aload_n dX11_as_40 rfl 0 rfl ?_
    refine gf_9_0 dX11_as_41 hl_X11_10 nl_0 zk_0 zp_0_0 ?_
    refine h_aload_n dX11_as_44 rfl 0 rfl ?_
    refine gf_9_1 dX11_as_45 hl_X11_19 nl_0 zk_0 zp_0_1 ?_
    refine h_iload_n dX11_as_48 rfl 1 rfl ?_
    refine h_pick [] [] rfl ?_
    refine h_invU (As := [.ref 1, .ref 12, .int x1]) (st := []) dX11_as_49 lk_X11_128_X10 (h_room (by decide)) nl_4 zk_4 (by decide) rfl rfl rfl (Nat.le_of_ble_eq_true rfl) ?_
    exact k2 c1
set_option maxHeartbeats 1000000 in
set_option maxRecDepth 20000 in
theorem sg_X11_as_W_52 {E : HEn} {d : Nat} {Q : Option Value → HIh → Prop} {I : HIh} {s0 : Int32}
    (k1 : Q (some (.int s0)) I)
    : HGo E (mF E (d + 4) Q) me_X11_as 52 [] [.int s0] I := by
  refine h_goto (tgt := 57) dX11_as_52 (by decide) ?_
  exact h_iret dX11_as_57 rfl (k1)
set_option maxHeartbeats 1000000 in
set_option maxRecDepth 20000 in
theorem sg_X11_as_C_0 {E : HEn} {d : Nat} {Q : Option Value → HIh → Prop} {I : HIh} {a : Int32} {b : Int32}
    (k1 : (0 : Int32) ≤ a → a < 4 → b < 0 → Q (some (.int (-3))) I)
    (k2 : (0 : Int32) ≤ a → a < 4 → ¬ b < 0 → b ≤ 5 → HCall E me_X9_folkOf (d + 3) [.ref 1, .int a] I (fun v9 J => HGo E (mF E (d + 4) Q) me_X11_as 30 [(0, .ref 0), (1, .int a), (2, .int b)] (v9.toList ++ []) J))
    (k3 : (0 : Int32) ≤ a → a < 4 → ¬ b < 0 → ¬ b ≤ 5 → Q (some (.int (-3))) I)
    (k4 : ¬ ((0 : Int32) ≤ a ∧ a < 4) → Q (some (.int (-2))) I)
    : HGo E (mF E (d + 4) Q) me_X11_as 0 [(0, .ref 0), (1, .int a), (2, .int b)] [] I := by
  refine h_iload_n dX11_as_0 rfl 1 rfl ?_
  refine h_invS (As := [.int a]) (st := []) dX11_as_1 lk_X11_100 (h_room (by decide)) rfl rfl (Nat.le_of_ble_eq_true rfl) ?_
  refine c_X11_isPerson (fun c1 c2 => ?_) (fun c3 => ?_)
  ·
    refine h_if_ne (tgt := 10) dX11_as_4 (by decide) (fun _ => ?_) (fun c => absurd c (by decide))
    refine h_iload_n dX11_as_10 rfl 2 rfl ?_
    refine h_if_lt (tgt := 19) dX11_as_11 (by decide) (fun c4 => ?_) (fun c4 => ?_)
    ·
      refine h_bipush (v := (-3)) dX11_as_19 (by decide) ?_
      exact h_iret dX11_as_21 rfl (k1 c1 c2 c4)
    ·
      refine h_iload_n dX11_as_14 rfl 2 rfl ?_
      refine h_iconst (v := 5) dX11_as_15 (by decide) ?_
      refine h_icmp_le (tgt := 22) dX11_as_16 (by decide) (fun c5 => ?_) (fun c5 => ?_)
      ·
        refine h_aload_n dX11_as_22 rfl 0 rfl ?_
        refine gf_9_0 dX11_as_23 hl_X11_10 nl_0 zk_0 zp_0_0 ?_
        refine h_iload_n dX11_as_26 rfl 1 rfl ?_
        refine h_invV (As := [.int a]) (st := []) dX11_as_27 lk_X11_107 (h_room (by decide)) nl_1 zk_1 (by decide) rfl rfl rfl (Nat.le_of_ble_eq_true rfl) ?_
        exact k2 c1 c2 c4 c5
      ·
        refine h_bipush (v := (-3)) dX11_as_19 (by decide) ?_
        exact h_iret dX11_as_21 rfl (k3 c1 c2 c4 c5)
  ·
    refine h_if_ne (tgt := 10) dX11_as_4 (by decide) (fun c => absurd c (by decide)) (fun _ => ?_)
    refine h_bipush (v := (-2)) dX11_as_7 (by decide) ?_
    exact h_iret dX11_as_9 rfl (k4 c3)
set_option maxHeartbeats 1000000 in
set_option maxRecDepth 20000 in
theorem sg_X11_as_C_30 {E : HEn} {d : Nat} {Q : Option Value → HIh → Prop} {I : HIh} {x1 : Int32} {x2 : Int32}
    (k1 : HCall E me_X11_isA (d + 3) [.ref 5, .int x2] I (fun v9 J => HGo E (mF E (d + 4) Q) me_X11_as 36 [(0, .ref 0), (1, .int x1), (3, .ref 5)] (v9.toList ++ []) J))
    : HGo E (mF E (d + 4) Q) me_X11_as 30 [(0, .ref 0), (1, .int x1), (2, .int x2)] [.ref 5] I := by
  refine h_astore_n (L' := [(3, .ref 5), (0, .ref 0), (1, .int x1), (2, .int x2)]) dX11_as_30 rfl (by decide) rfl ?_
  refine h_aload_n dX11_as_31 rfl 0 rfl ?_
  refine h_iload_n dX11_as_32 rfl 3 rfl ?_
  refine h_pick [1, 2, 0] [(0, .ref 0), (1, .int x1), (3, .ref 5)] rfl ?_
  refine h_invS (As := [.ref 5, .int x2]) (st := []) dX11_as_33 lk_X11_124 (h_room (by decide)) rfl rfl (Nat.le_of_ble_eq_true rfl) ?_
  exact k1
set_option maxHeartbeats 1000000 in
set_option maxRecDepth 20000 in
theorem sg_X11_as_C_36 {E : HEn} {d : Nat} {Q : Option Value → HIh → Prop} {I : HIh} {x1 : Int32} {s0 : Int32}
    (k1 : s0 = 0 → Q (some (.int (-4))) I)
    (k2 : ¬ s0 = 0 → HCall E me_X8_wouldThrow (d + 3) [.ref 5, .ref 1, .ref 12, .int x1] I (fun v9 J => HGo E (mF E (d + 4) Q) me_X11_as 52 [] (v9.toList ++ []) J))
    : HGo E (mF E (d + 4) Q) me_X11_as 36 [(0, .ref 0), (1, .int x1), (3, .ref 5)] [.int s0] I := by
  refine h_if_eq (tgt := 55) dX11_as_36 (by decide) (fun c1 => ?_) (fun c1 => ?_)
  ·
    refine h_bipush (v := (-4)) dX11_as_55 (by decide) ?_
    exact h_iret dX11_as_57 rfl (k1 c1)
  ·
    refine h_aload_n dX11_as_39 rfl 2 rfl ?_
    refine h_aload_n dX11_as_40 rfl 0 rfl ?_
    refine gf_9_0 dX11_as_41 hl_X11_10 nl_0 zk_0 zp_0_0 ?_
    refine h_aload_n dX11_as_44 rfl 0 rfl ?_
    refine gf_9_1 dX11_as_45 hl_X11_19 nl_0 zk_0 zp_0_1 ?_
    refine h_iload_n dX11_as_48 rfl 1 rfl ?_
    refine h_pick [] [] rfl ?_
    refine h_invU (As := [.ref 1, .ref 12, .int x1]) (st := []) dX11_as_49 lk_X11_128_X0 (h_room (by decide)) nl_5 zk_5 (by decide) rfl rfl rfl (Nat.le_of_ble_eq_true rfl) ?_
    exact k2 c1
set_option maxHeartbeats 1000000 in
set_option maxRecDepth 20000 in
theorem sg_X11_as_C_52 {E : HEn} {d : Nat} {Q : Option Value → HIh → Prop} {I : HIh} {s0 : Int32}
    (k1 : Q (some (.int s0)) I)
    : HGo E (mF E (d + 4) Q) me_X11_as 52 [] [.int s0] I := by
  refine h_goto (tgt := 57) dX11_as_52 (by decide) ?_
  exact h_iret dX11_as_57 rfl (k1)
set_option maxHeartbeats 1000000 in
set_option maxRecDepth 20000 in
theorem sg_X12_readsRest_0 {E : HEn} {d : Nat} {Q : Option Value → HIh → Prop} {I : HIh} {a : Int32}
    (k1 : a = 0 → HCall E me_X12_readsCoins (d + 4) [.ref 87] I (fun v9 J => HGo E (mF E (d + 5) Q) me_X12_readsRest 60 [] (v9.toList ++ []) J))
    (k2 : ¬ a = 0 → a = 1 → HCall E me_X12_reads (d + 4) [.ref 87, .int 0, .int ((I 87 17) - 1)] I (fun v9 J => HGo E (mF E (d + 5) Q) me_X12_readsRest 72 [(0, .ref 87)] (v9.toList ++ []) J))
    (k3 : ¬ a = 0 → ¬ a = 1 → a = 2 → HCall E me_X12_reads (d + 4) [.ref 87, .int 0, .int 3] I (fun v9 J => HGo E (mF E (d + 5) Q) me_X12_readsRest 97 [(0, .ref 87)] (v9.toList ++ []) J))
    (k4 : ¬ a = 0 → ¬ a = 1 → ¬ a = 2 → a = 3 → HCall E me_X12_reads (d + 4) [.ref 87, .int 0, .int 3] I (fun v9 J => HGo E (mF E (d + 5) Q) me_X12_readsRest 168 [] (v9.toList ++ []) J))
    (k5 : ¬ a = 0 → ¬ a = 1 → ¬ a = 2 → ¬ a = 3 → a = 4 → HCall E me_X12_reads (d + 4) [.ref 87, .int 0, .int 3] I (fun v9 J => HGo E (mF E (d + 5) Q) me_X12_readsRest 168 [] (v9.toList ++ []) J))
    (k6 : ¬ a = 0 → ¬ a = 1 → ¬ a = 2 → ¬ a = 3 → ¬ a = 4 → a = 5 → HCall E me_X12_reads (d + 4) [.ref 87, .int 0, .int 3] I (fun v9 J => HGo E (mF E (d + 5) Q) me_X12_readsRest 136 [(0, .ref 87)] (v9.toList ++ []) J))
    (k7 : ¬ a = 0 → ¬ a = 1 → ¬ a = 2 → ¬ a = 3 → ¬ a = 4 → ¬ a = 5 → a = 6 → HCall E me_X12_reads (d + 4) [.ref 87, .int 0, .int 3] I (fun v9 J => HGo E (mF E (d + 5) Q) me_X12_readsRest 168 [] (v9.toList ++ []) J))
    (k8 : ¬ a = 0 → ¬ a = 1 → ¬ a = 2 → ¬ a = 3 → ¬ a = 4 → ¬ a = 5 → ¬ a = 6 → a = 7 → HCall E me_X12_readsCome (d + 4) [.ref 87] I (fun v9 J => HGo E (mF E (d + 5) Q) me_X12_readsRest 159 [] (v9.toList ++ []) J))
    (k9 : ¬ a = 0 → ¬ a = 1 → ¬ a = 2 → ¬ a = 3 → ¬ a = 4 → ¬ a = 5 → ¬ a = 6 → ¬ a = 7 → a = 8 → HCall E me_X12_reads (d + 4) [.ref 87, .int 0, .int 3] I (fun v9 J => HGo E (mF E (d + 5) Q) me_X12_readsRest 168 [] (v9.toList ++ []) J))
    (k10 : ¬ a = 0 → ¬ a = 1 → ¬ a = 2 → ¬ a = 3 → ¬ a = 4 → ¬ a = 5 → ¬ a = 6 → ¬ a = 7 → ¬ a = 8 → a = 9 → Q (some (.int 1)) I)
    (k11 : ¬ a = 0 → ¬ a = 1 → ¬ a = 2 → ¬ a = 3 → ¬ a = 4 → ¬ a = 5 → ¬ a = 6 → ¬ a = 7 → ¬ a = 8 → ¬ a = 9 → HCall E me_X12_reads (d + 4) [.ref 87, .int 0, .int 3] I (fun v9 J => HGo E (mF E (d + 5) Q) me_X12_readsRest 168 [] (v9.toList ++ []) J))
    : HGo E (mF E (d + 5) Q) me_X12_readsRest 0 [(0, .ref 87), (1, .int a)] [] I := by
  refine h_iload_n dX12_readsRest_0 rfl 1 rfl ?_
  by_cases c1 : a = 0
  · refine h_tswIn (off := 55) (tgt := 56) 0 dX12_readsRest_1 (by rw [c1]; rfl) (by decide) (by decide) (by decide) (by decide) ?_
    refine h_aload_n dX12_readsRest_56 rfl 0 rfl ?_
    refine h_pick [] [] rfl ?_
    refine h_invV (As := []) (st := []) dX12_readsRest_57 lk_X12_131 (h_room (by decide)) nl_87 zk_87 (by decide) rfl rfl rfl (Nat.le_of_ble_eq_true rfl) ?_
    exact k1 c1
  by_cases c2 : a = 1
  · refine h_tswIn (off := 60) (tgt := 61) 1 dX12_readsRest_1 (by rw [c2]; rfl) (by decide) (by decide) (by decide) (by decide) ?_
    refine h_aload_n dX12_readsRest_61 rfl 0 rfl ?_
    refine h_iconst (v := 0) dX12_readsRest_62 (by decide) ?_
    refine h_aload_n dX12_readsRest_63 rfl 0 rfl ?_
    refine gf_10_17 dX12_readsRest_64 hl_X12_134 nl_87 zk_87 ?_
    refine h_iconst (v := 1) dX12_readsRest_67 (by decide) ?_
    refine h_isub dX12_readsRest_68 ?_
    refine h_pick [0] [(0, .ref 87)] rfl ?_
    refine h_invV (As := [.int 0, .int ((I 87 17) - 1)]) (st := []) dX12_readsRest_69 lk_X12_124 (h_room (by decide)) nl_87 zk_87 (by decide) rfl rfl rfl (Nat.le_of_ble_eq_true rfl) ?_
    exact k2 c1 c2
  by_cases c3 : a = 2
  · refine h_tswIn (off := 90) (tgt := 91) 2 dX12_readsRest_1 (by rw [c3]; rfl) (by decide) (by decide) (by decide) (by decide) ?_
    refine h_aload_n dX12_readsRest_91 rfl 0 rfl ?_
    refine h_iconst (v := 0) dX12_readsRest_92 (by decide) ?_
    refine h_iconst (v := 3) dX12_readsRest_93 (by decide) ?_
    refine h_pick [0] [(0, .ref 87)] rfl ?_
    refine h_invV (As := [.int 0, .int 3]) (st := []) dX12_readsRest_94 lk_X12_124 (h_room (by decide)) nl_87 zk_87 (by decide) rfl rfl rfl (Nat.le_of_ble_eq_true rfl) ?_
    exact k3 c1 c2 c3
  by_cases c4 : a = 3
  · refine h_tswIn (off := 161) (tgt := 162) 3 dX12_readsRest_1 (by rw [c4]; rfl) (by decide) (by decide) (by decide) (by decide) ?_
    refine h_aload_n dX12_readsRest_162 rfl 0 rfl ?_
    refine h_iconst (v := 0) dX12_readsRest_163 (by decide) ?_
    refine h_iconst (v := 3) dX12_readsRest_164 (by decide) ?_
    refine h_pick [] [] rfl ?_
    refine h_invV (As := [.int 0, .int 3]) (st := []) dX12_readsRest_165 lk_X12_124 (h_room (by decide)) nl_87 zk_87 (by decide) rfl rfl rfl (Nat.le_of_ble_eq_true rfl) ?_
    exact k4 c1 c2 c3 c4
  by_cases c5 : a = 4
  · refine h_tswIn (off := 161) (tgt := 162) 4 dX12_readsRest_1 (by rw [c5]; rfl) (by decide) (by decide) (by decide) (by decide) ?_
    refine h_aload_n dX12_readsRest_162 rfl 0 rfl ?_
    refine h_iconst (v := 0) dX12_readsRest_163 (by decide) ?_
    refine h_iconst (v := 3) dX12_readsRest_164 (by decide) ?_
    refine h_pick [] [] rfl ?_
    refine h_invV (As := [.int 0, .int 3]) (st := []) dX12_readsRest_165 lk_X12_124 (h_room (by decide)) nl_87 zk_87 (by decide) rfl rfl rfl (Nat.le_of_ble_eq_true rfl) ?_
    exact k5 c1 c2 c3 c4 c5
  by_cases c6 : a = 5
  · refine h_tswIn (off := 129) (tgt := 130) 5 dX12_readsRest_1 (by rw [c6]; rfl) (by decide) (by decide) (by decide) (by decide) ?_
    refine h_aload_n dX12_readsRest_130 rfl 0 rfl ?_
    refine h_iconst (v := 0) dX12_readsRest_131 (by decide) ?_
    refine h_iconst (v := 3) dX12_readsRest_132 (by decide) ?_
    refine h_pick [0] [(0, .ref 87)] rfl ?_
    refine h_invV (As := [.int 0, .int 3]) (st := []) dX12_readsRest_133 lk_X12_124 (h_room (by decide)) nl_87 zk_87 (by decide) rfl rfl rfl (Nat.le_of_ble_eq_true rfl) ?_
    exact k6 c1 c2 c3 c4 c5 c6
  by_cases c7 : a = 6
  · refine h_tswIn (off := 161) (tgt := 162) 6 dX12_readsRest_1 (by rw [c7]; rfl) (by decide) (by decide) (by decide) (by decide) ?_
    refine h_aload_n dX12_readsRest_162 rfl 0 rfl ?_
    refine h_iconst (v := 0) dX12_readsRest_163 (by decide) ?_
    refine h_iconst (v := 3) dX12_readsRest_164 (by decide) ?_
    refine h_pick [] [] rfl ?_
    refine h_invV (As := [.int 0, .int 3]) (st := []) dX12_readsRest_165 lk_X12_124 (h_room (by decide)) nl_87 zk_87 (by decide) rfl rfl rfl (Nat.le_of_ble_eq_true rfl) ?_
    exact k7 c1 c2 c3 c4 c5 c6 c7
  by_cases c8 : a = 7
  · refine h_tswIn (off := 154) (tgt := 155) 7 dX12_readsRest_1 (by rw [c8]; rfl) (by decide) (by decide) (by decide) (by decide) ?_
    refine h_aload_n dX12_readsRest_155 rfl 0 rfl ?_
    refine h_pick [] [] rfl ?_
    refine h_invV (As := []) (st := []) dX12_readsRest_156 lk_X12_137 (h_room (by decide)) nl_87 zk_87 (by decide) rfl rfl rfl (Nat.le_of_ble_eq_true rfl) ?_
    exact k8 c1 c2 c3 c4 c5 c6 c7 c8
  by_cases c9 : a = 8
  · refine h_tswIn (off := 161) (tgt := 162) 8 dX12_readsRest_1 (by rw [c9]; rfl) (by decide) (by decide) (by decide) (by decide) ?_
    refine h_aload_n dX12_readsRest_162 rfl 0 rfl ?_
    refine h_iconst (v := 0) dX12_readsRest_163 (by decide) ?_
    refine h_iconst (v := 3) dX12_readsRest_164 (by decide) ?_
    refine h_pick [] [] rfl ?_
    refine h_invV (As := [.int 0, .int 3]) (st := []) dX12_readsRest_165 lk_X12_124 (h_room (by decide)) nl_87 zk_87 (by decide) rfl rfl rfl (Nat.le_of_ble_eq_true rfl) ?_
    exact k9 c1 c2 c3 c4 c5 c6 c7 c8 c9
  by_cases c10 : a = 9
  · refine h_tswIn (off := 159) (tgt := 160) 9 dX12_readsRest_1 (by rw [c10]; rfl) (by decide) (by decide) (by decide) (by decide) ?_
    refine h_iconst (v := 1) dX12_readsRest_160 (by decide) ?_
    exact h_zret dX12_readsRest_161 rfl rfl (k10 c1 c2 c3 c4 c5 c6 c7 c8 c9 c10)
  refine h_tswOut (tgt := 162) dX12_readsRest_1 (tsw_out10 c1 c2 c3 c4 c5 c6 c7 c8 c9 c10) (by decide) ?_
  refine h_aload_n dX12_readsRest_162 rfl 0 rfl ?_
  refine h_iconst (v := 0) dX12_readsRest_163 (by decide) ?_
  refine h_iconst (v := 3) dX12_readsRest_164 (by decide) ?_
  refine h_pick [] [] rfl ?_
  refine h_invV (As := [.int 0, .int 3]) (st := []) dX12_readsRest_165 lk_X12_124 (h_room (by decide)) nl_87 zk_87 (by decide) rfl rfl rfl (Nat.le_of_ble_eq_true rfl) ?_
  exact k11 c1 c2 c3 c4 c5 c6 c7 c8 c9 c10
set_option maxHeartbeats 1000000 in
set_option maxRecDepth 20000 in
theorem sg_X12_readsRest_60 {E : HEn} {d : Nat} {Q : Option Value → HIh → Prop} {I : HIh} {s0 : Int32}
    (k1 : vp_nar .boolean s0 = s0)
    (k2 : Q (some (.int s0)) I)
    : HGo E (mF E (d + 5) Q) me_X12_readsRest 60 [] [.int s0] I := by
  exact h_zret dX12_readsRest_60 rfl (k1) (k2)
set_option maxHeartbeats 1000000 in
set_option maxRecDepth 20000 in
theorem sg_X12_readsRest_72 {E : HEn} {d : Nat} {Q : Option Value → HIh → Prop} {I : HIh} {s0 : Int32}
    (k1 : s0 = 0 → Q (some (.int 0)) I)
    (k2 : ¬ s0 = 0 → HCall E me_X12_reads (d + 4) [.ref 87, .int 0, .int 20] I (fun v9 J => HGo E (mF E (d + 5) Q) me_X12_readsRest 82 [] (v9.toList ++ []) J))
    : HGo E (mF E (d + 5) Q) me_X12_readsRest 72 [(0, .ref 87)] [.int s0] I := by
  refine h_if_eq (tgt := 89) dX12_readsRest_72 (by decide) (fun c1 => ?_) (fun c1 => ?_)
  ·
    refine h_iconst (v := 0) dX12_readsRest_89 (by decide) ?_
    exact h_zret dX12_readsRest_90 rfl rfl (k1 c1)
  ·
    refine h_aload_n dX12_readsRest_75 rfl 0 rfl ?_
    refine h_iconst (v := 0) dX12_readsRest_76 (by decide) ?_
    refine h_bipush (v := 20) dX12_readsRest_77 (by decide) ?_
    refine h_pick [] [] rfl ?_
    refine h_invV (As := [.int 0, .int 20]) (st := []) dX12_readsRest_79 lk_X12_124 (h_room (by decide)) nl_87 zk_87 (by decide) rfl rfl rfl (Nat.le_of_ble_eq_true rfl) ?_
    exact k2 c1
set_option maxHeartbeats 1000000 in
set_option maxRecDepth 20000 in
theorem sg_X12_readsRest_97 {E : HEn} {d : Nat} {Q : Option Value → HIh → Prop} {I : HIh} {s0 : Int32}
    (k1 : s0 = 0 → Q (some (.int 0)) I)
    (k2 : ¬ s0 = 0 → HCall E me_X12_reads (d + 4) [.ref 87, .int 0, .int ((I 87 17) - 1)] I (fun v9 J => HGo E (mF E (d + 5) Q) me_X12_readsRest 111 [(0, .ref 87)] (v9.toList ++ []) J))
    : HGo E (mF E (d + 5) Q) me_X12_readsRest 97 [(0, .ref 87)] [.int s0] I := by
  refine h_if_eq (tgt := 128) dX12_readsRest_97 (by decide) (fun c1 => ?_) (fun c1 => ?_)
  ·
    refine h_iconst (v := 0) dX12_readsRest_128 (by decide) ?_
    exact h_zret dX12_readsRest_129 rfl rfl (k1 c1)
  ·
    refine h_aload_n dX12_readsRest_100 rfl 0 rfl ?_
    refine h_iconst (v := 0) dX12_readsRest_101 (by decide) ?_
    refine h_aload_n dX12_readsRest_102 rfl 0 rfl ?_
    refine gf_10_17 dX12_readsRest_103 hl_X12_134 nl_87 zk_87 ?_
    refine h_iconst (v := 1) dX12_readsRest_106 (by decide) ?_
    refine h_isub dX12_readsRest_107 ?_
    refine h_invV (As := [.int 0, .int ((I 87 17) - 1)]) (st := []) dX12_readsRest_108 lk_X12_124 (h_room (by decide)) nl_87 zk_87 (by decide) rfl rfl rfl (Nat.le_of_ble_eq_true rfl) ?_
    exact k2 c1
set_option maxHeartbeats 1000000 in
set_option maxRecDepth 20000 in
theorem sg_X12_readsRest_168 {E : HEn} {d : Nat} {Q : Option Value → HIh → Prop} {I : HIh} {s0 : Int32}
    (k1 : vp_nar .boolean s0 = s0)
    (k2 : Q (some (.int s0)) I)
    : HGo E (mF E (d + 5) Q) me_X12_readsRest 168 [] [.int s0] I := by
  exact h_zret dX12_readsRest_168 rfl (k1) (k2)
set_option maxHeartbeats 1000000 in
set_option maxRecDepth 20000 in
theorem sg_X12_readsRest_136 {E : HEn} {d : Nat} {Q : Option Value → HIh → Prop} {I : HIh} {s0 : Int32}
    (k1 : s0 = 0 → Q (some (.int 0)) I)
    (k2 : ¬ s0 = 0 → HCall E me_X12_reads (d + 4) [.ref 87, .int 0, .int 99] I (fun v9 J => HGo E (mF E (d + 5) Q) me_X12_readsRest 146 [] (v9.toList ++ []) J))
    : HGo E (mF E (d + 5) Q) me_X12_readsRest 136 [(0, .ref 87)] [.int s0] I := by
  refine h_if_eq (tgt := 153) dX12_readsRest_136 (by decide) (fun c1 => ?_) (fun c1 => ?_)
  ·
    refine h_iconst (v := 0) dX12_readsRest_153 (by decide) ?_
    exact h_zret dX12_readsRest_154 rfl rfl (k1 c1)
  ·
    refine h_aload_n dX12_readsRest_139 rfl 0 rfl ?_
    refine h_iconst (v := 0) dX12_readsRest_140 (by decide) ?_
    refine h_bipush (v := 99) dX12_readsRest_141 (by decide) ?_
    refine h_pick [] [] rfl ?_
    refine h_invV (As := [.int 0, .int 99]) (st := []) dX12_readsRest_143 lk_X12_124 (h_room (by decide)) nl_87 zk_87 (by decide) rfl rfl rfl (Nat.le_of_ble_eq_true rfl) ?_
    exact k2 c1
set_option maxHeartbeats 1000000 in
set_option maxRecDepth 20000 in
theorem sg_X12_readsRest_159 {E : HEn} {d : Nat} {Q : Option Value → HIh → Prop} {I : HIh} {s0 : Int32}
    (k1 : vp_nar .boolean s0 = s0)
    (k2 : Q (some (.int s0)) I)
    : HGo E (mF E (d + 5) Q) me_X12_readsRest 159 [] [.int s0] I := by
  exact h_zret dX12_readsRest_159 rfl (k1) (k2)
set_option maxHeartbeats 1000000 in
set_option maxRecDepth 20000 in
theorem sg_X12_readsRest_82 {E : HEn} {d : Nat} {Q : Option Value → HIh → Prop} {I : HIh} {s0 : Int32}
    (k1 : s0 = 0 → Q (some (.int 0)) I)
    (k2 : ¬ s0 = 0 → Q (some (.int 1)) I)
    : HGo E (mF E (d + 5) Q) me_X12_readsRest 82 [] [.int s0] I := by
  refine h_if_eq (tgt := 89) dX12_readsRest_82 (by decide) (fun c1 => ?_) (fun c1 => ?_)
  ·
    refine h_iconst (v := 0) dX12_readsRest_89 (by decide) ?_
    exact h_zret dX12_readsRest_90 rfl rfl (k1 c1)
  ·
    refine h_iconst (v := 1) dX12_readsRest_85 (by decide) ?_
    refine h_goto (tgt := 90) dX12_readsRest_86 (by decide) ?_
    exact h_zret dX12_readsRest_90 rfl rfl (k2 c1)
set_option maxHeartbeats 1000000 in
set_option maxRecDepth 20000 in
theorem sg_X12_readsRest_111 {E : HEn} {d : Nat} {Q : Option Value → HIh → Prop} {I : HIh} {s0 : Int32}
    (k1 : s0 = 0 → Q (some (.int 0)) I)
    (k2 : ¬ s0 = 0 → HCall E me_X12_reads (d + 4) [.ref 87, .int 0, .int 20] I (fun v9 J => HGo E (mF E (d + 5) Q) me_X12_readsRest 121 [] (v9.toList ++ []) J))
    : HGo E (mF E (d + 5) Q) me_X12_readsRest 111 [(0, .ref 87)] [.int s0] I := by
  refine h_if_eq (tgt := 128) dX12_readsRest_111 (by decide) (fun c1 => ?_) (fun c1 => ?_)
  ·
    refine h_iconst (v := 0) dX12_readsRest_128 (by decide) ?_
    exact h_zret dX12_readsRest_129 rfl rfl (k1 c1)
  ·
    refine h_aload_n dX12_readsRest_114 rfl 0 rfl ?_
    refine h_iconst (v := 0) dX12_readsRest_115 (by decide) ?_
    refine h_bipush (v := 20) dX12_readsRest_116 (by decide) ?_
    refine h_pick [] [] rfl ?_
    refine h_invV (As := [.int 0, .int 20]) (st := []) dX12_readsRest_118 lk_X12_124 (h_room (by decide)) nl_87 zk_87 (by decide) rfl rfl rfl (Nat.le_of_ble_eq_true rfl) ?_
    exact k2 c1
set_option maxHeartbeats 1000000 in
set_option maxRecDepth 20000 in
theorem sg_X12_readsRest_146 {E : HEn} {d : Nat} {Q : Option Value → HIh → Prop} {I : HIh} {s0 : Int32}
    (k1 : s0 = 0 → Q (some (.int 0)) I)
    (k2 : ¬ s0 = 0 → Q (some (.int 1)) I)
    : HGo E (mF E (d + 5) Q) me_X12_readsRest 146 [] [.int s0] I := by
  refine h_if_eq (tgt := 153) dX12_readsRest_146 (by decide) (fun c1 => ?_) (fun c1 => ?_)
  ·
    refine h_iconst (v := 0) dX12_readsRest_153 (by decide) ?_
    exact h_zret dX12_readsRest_154 rfl rfl (k1 c1)
  ·
    refine h_iconst (v := 1) dX12_readsRest_149 (by decide) ?_
    refine h_goto (tgt := 154) dX12_readsRest_150 (by decide) ?_
    exact h_zret dX12_readsRest_154 rfl rfl (k2 c1)
set_option maxHeartbeats 1000000 in
set_option maxRecDepth 20000 in
theorem sg_X12_readsRest_121 {E : HEn} {d : Nat} {Q : Option Value → HIh → Prop} {I : HIh} {s0 : Int32}
    (k1 : s0 = 0 → Q (some (.int 0)) I)
    (k2 : ¬ s0 = 0 → Q (some (.int 1)) I)
    : HGo E (mF E (d + 5) Q) me_X12_readsRest 121 [] [.int s0] I := by
  refine h_if_eq (tgt := 128) dX12_readsRest_121 (by decide) (fun c1 => ?_) (fun c1 => ?_)
  ·
    refine h_iconst (v := 0) dX12_readsRest_128 (by decide) ?_
    exact h_zret dX12_readsRest_129 rfl rfl (k1 c1)
  ·
    refine h_iconst (v := 1) dX12_readsRest_124 (by decide) ?_
    refine h_goto (tgt := 129) dX12_readsRest_125 (by decide) ?_
    exact h_zret dX12_readsRest_129 rfl rfl (k2 c1)
set_option maxHeartbeats 1000000 in
set_option maxRecDepth 20000 in
theorem sg_X12_visitsBy_0 {E : HEn} {d : Nat} {Q : Option Value → HIh → Prop} {I : HIh} {a : Int32} {b : Int32}
    (k1 : HCall E me_X12_byHabit (d + 3) [.ref 87, .int a, .int b] I (fun v9 J => HGo E (mF E (d + 4) Q) me_X12_visitsBy 6 [(0, .ref 87), (1, .int a), (2, .int b)] (v9.toList ++ []) J))
    : HGo E (mF E (d + 4) Q) me_X12_visitsBy 0 [(0, .ref 87), (1, .int a), (2, .int b)] [] I := by
  refine h_aload_n dX12_visitsBy_0 rfl 0 rfl ?_
  refine h_iload_n dX12_visitsBy_1 rfl 1 rfl ?_
  refine h_iload_n dX12_visitsBy_2 rfl 2 rfl ?_
  refine h_invV (As := [.int a, .int b]) (st := []) dX12_visitsBy_3 lk_X12_203 (h_room (by decide)) nl_87 zk_87 (by decide) rfl rfl rfl (Nat.le_of_ble_eq_true rfl) ?_
  exact k1
set_option maxHeartbeats 1000000 in
set_option maxRecDepth 20000 in
theorem sg_X12_visitsBy_6 {E : HEn} {d : Nat} {Q : Option Value → HIh → Prop} {I : HIh} {x1 : Int32} {x2 : Int32} {s0 : Int32}
    (k1 : s0 = (-1) → s0 = (-1) → Q (some (.int 0)) I)
    (k2 : s0 = (-1) → ¬ s0 = (-1) → Q (some (.int 1)) I)
    (k3 : ¬ s0 = (-1) → HCall E me_X12_throwsOne (d + 3) [.ref 87, .int x1, .int x2, .int s0] I (fun v9 J => HGo E (mF E (d + 4) Q) me_X12_visitsBy 19 [(3, .int s0)] (v9.toList ++ []) J))
    : HGo E (mF E (d + 4) Q) me_X12_visitsBy 6 [(0, .ref 87), (1, .int x1), (2, .int x2)] [.int s0] I := by
  refine h_istore_n (L' := [(3, .int s0), (0, .ref 87), (1, .int x1), (2, .int x2)]) dX12_visitsBy_6 rfl (by decide) rfl ?_
  refine h_iload_n dX12_visitsBy_7 rfl 0 rfl ?_
  refine h_iconst (v := (-1)) dX12_visitsBy_8 (by decide) ?_
  refine h_icmp_eq (tgt := 19) dX12_visitsBy_9 (by decide) (fun c1 => ?_) (fun c1 => ?_)
  ·
    refine h_iload_n dX12_visitsBy_19 rfl 0 rfl ?_
    refine h_iconst (v := (-1)) dX12_visitsBy_20 (by decide) ?_
    refine h_icmp_eq (tgt := 28) dX12_visitsBy_21 (by decide) (fun c2 => ?_) (fun c2 => ?_)
    ·
      refine h_iconst (v := 0) dX12_visitsBy_28 (by decide) ?_
      exact h_zret dX12_visitsBy_29 rfl rfl (k1 c1 c2)
    ·
      refine h_iconst (v := 1) dX12_visitsBy_24 (by decide) ?_
      refine h_goto (tgt := 29) dX12_visitsBy_25 (by decide) ?_
      exact h_zret dX12_visitsBy_29 rfl rfl (k2 c1 c2)
  ·
    refine h_aload_n dX12_visitsBy_12 rfl 1 rfl ?_
    refine h_iload_n dX12_visitsBy_13 rfl 2 rfl ?_
    refine h_iload_n dX12_visitsBy_14 rfl 3 rfl ?_
    refine h_iload_n dX12_visitsBy_15 rfl 0 rfl ?_
    refine h_pick [0] [(3, .int s0)] rfl ?_
    refine h_invV (As := [.int x1, .int x2, .int s0]) (st := []) dX12_visitsBy_16 lk_X12_206 (h_room (by decide)) nl_87 zk_87 (by decide) rfl rfl rfl (Nat.le_of_ble_eq_true rfl) ?_
    exact k3 c1
set_option maxHeartbeats 1000000 in
set_option maxRecDepth 20000 in
theorem sg_X12_visitsBy_19 {E : HEn} {d : Nat} {Q : Option Value → HIh → Prop} {I : HIh} {x3 : Int32}
    (k1 : x3 = (-1) → Q (some (.int 0)) I)
    (k2 : ¬ x3 = (-1) → Q (some (.int 1)) I)
    : HGo E (mF E (d + 4) Q) me_X12_visitsBy 19 [(3, .int x3)] [] I := by
  refine h_iload_n dX12_visitsBy_19 rfl 0 rfl ?_
  refine h_iconst (v := (-1)) dX12_visitsBy_20 (by decide) ?_
  refine h_icmp_eq (tgt := 28) dX12_visitsBy_21 (by decide) (fun c1 => ?_) (fun c1 => ?_)
  ·
    refine h_iconst (v := 0) dX12_visitsBy_28 (by decide) ?_
    exact h_zret dX12_visitsBy_29 rfl rfl (k1 c1)
  ·
    refine h_iconst (v := 1) dX12_visitsBy_24 (by decide) ?_
    refine h_goto (tgt := 29) dX12_visitsBy_25 (by decide) ?_
    exact h_zret dX12_visitsBy_29 rfl rfl (k2 c1)
set_option maxHeartbeats 1000000 in
set_option maxRecDepth 20000 in
theorem sg_X12_as_0 {E : HEn} {d : Nat} {Q : Option Value → HIh → Prop} {I : HIh} {a : Int32} {b : Int32}
    (k1 : (0 : Int32) ≤ a → a < 4 → (0 : Int64) ≤ b.toInt64 → (b.toInt64 : Int64) ≤ 5 → vp_in a 4)
    (k2 : (0 : Int32) ≤ a → a < 4 → (0 : Int64) ≤ b.toInt64 → (b.toInt64 : Int64) ≤ 5 → b = 0 → HGo E (mF E (d + 4) Q) me_X12_as 94 [(0, .ref 87), (1, .int a)] [.int 1] I)
    (k3 : (0 : Int32) ≤ a → a < 4 → (0 : Int64) ≤ b.toInt64 → (b.toInt64 : Int64) ≤ 5 → ¬ b = 0 → ¬ b = 1 → ¬ b = 2 → ¬ b = 3 → ¬ b = 4 → ¬ b = 5 → HGo E (mF E (d + 4) Q) me_X12_as 94 [(0, .ref 87), (1, .int a)] [.int 0] I)
    (k4 : (0 : Int32) ≤ a → a < 4 → (0 : Int64) ≤ b.toInt64 → (b.toInt64 : Int64) ≤ 5 → ¬ b = 0 → ¬ b = 1 → ¬ b = 2 → ¬ b = 3 → ¬ b = 4 → b = 5 → ¬ (I 94 a.toNatClampNeg) = 3 → HGo E (mF E (d + 4) Q) me_X12_as 94 [(0, .ref 87), (1, .int a)] [.int 0] I)
    (k5 : (0 : Int32) ≤ a → a < 4 → (0 : Int64) ≤ b.toInt64 → (b.toInt64 : Int64) ≤ 5 → ¬ b = 0 → ¬ b = 1 → ¬ b = 2 → ¬ b = 3 → ¬ b = 4 → b = 5 → (I 94 a.toNatClampNeg) = 3 → HGo E (mF E (d + 4) Q) me_X12_as 94 [(0, .ref 87), (1, .int a)] [.int 1] I)
    (k6 : (0 : Int32) ≤ a → a < 4 → (0 : Int64) ≤ b.toInt64 → (b.toInt64 : Int64) ≤ 5 → ¬ b = 0 → ¬ b = 1 → ¬ b = 2 → ¬ b = 3 → b = 4 → (I 94 a.toNatClampNeg) = 2 → HGo E (mF E (d + 4) Q) me_X12_as 94 [(0, .ref 87), (1, .int a)] [.int 1] I)
    (k7 : (0 : Int32) ≤ a → a < 4 → (0 : Int64) ≤ b.toInt64 → (b.toInt64 : Int64) ≤ 5 → ¬ b = 0 → ¬ b = 1 → ¬ b = 2 → ¬ b = 3 → b = 4 → ¬ (I 94 a.toNatClampNeg) = 2 → ¬ b = 5 → HGo E (mF E (d + 4) Q) me_X12_as 94 [(0, .ref 87), (1, .int a)] [.int 0] I)
    (k8 : (0 : Int32) ≤ a → a < 4 → (0 : Int64) ≤ b.toInt64 → (b.toInt64 : Int64) ≤ 5 → ¬ b = 0 → ¬ b = 1 → ¬ b = 2 → ¬ b = 3 → b = 4 → ¬ (I 94 a.toNatClampNeg) = 2 → b = 5 → ¬ (I 94 a.toNatClampNeg) = 3 → HGo E (mF E (d + 4) Q) me_X12_as 94 [(0, .ref 87), (1, .int a)] [.int 0] I)
    (k9 : (0 : Int32) ≤ a → a < 4 → (0 : Int64) ≤ b.toInt64 → (b.toInt64 : Int64) ≤ 5 → ¬ b = 0 → ¬ b = 1 → ¬ b = 2 → ¬ b = 3 → b = 4 → ¬ (I 94 a.toNatClampNeg) = 2 → b = 5 → (I 94 a.toNatClampNeg) = 3 → HGo E (mF E (d + 4) Q) me_X12_as 94 [(0, .ref 87), (1, .int a)] [.int 1] I)
    (k10 : (0 : Int32) ≤ a → a < 4 → (0 : Int64) ≤ b.toInt64 → (b.toInt64 : Int64) ≤ 5 → ¬ b = 0 → ¬ b = 1 → ¬ b = 2 → b = 3 → (I 94 a.toNatClampNeg) = 1 → HGo E (mF E (d + 4) Q) me_X12_as 94 [(0, .ref 87), (1, .int a)] [.int 1] I)
    (k11 : (0 : Int32) ≤ a → a < 4 → (0 : Int64) ≤ b.toInt64 → (b.toInt64 : Int64) ≤ 5 → ¬ b = 0 → ¬ b = 1 → ¬ b = 2 → b = 3 → ¬ (I 94 a.toNatClampNeg) = 1 → (I 94 a.toNatClampNeg) = 2 → HGo E (mF E (d + 4) Q) me_X12_as 94 [(0, .ref 87), (1, .int a)] [.int 1] I)
    (k12 : (0 : Int32) ≤ a → a < 4 → (0 : Int64) ≤ b.toInt64 → (b.toInt64 : Int64) ≤ 5 → ¬ b = 0 → ¬ b = 1 → ¬ b = 2 → b = 3 → ¬ (I 94 a.toNatClampNeg) = 1 → ¬ (I 94 a.toNatClampNeg) = 2 → ¬ b = 4 → ¬ b = 5 → HGo E (mF E (d + 4) Q) me_X12_as 94 [(0, .ref 87), (1, .int a)] [.int 0] I)
    (k13 : (0 : Int32) ≤ a → a < 4 → (0 : Int64) ≤ b.toInt64 → (b.toInt64 : Int64) ≤ 5 → ¬ b = 0 → ¬ b = 1 → ¬ b = 2 → b = 3 → ¬ (I 94 a.toNatClampNeg) = 1 → ¬ (I 94 a.toNatClampNeg) = 2 → ¬ b = 4 → b = 5 → ¬ (I 94 a.toNatClampNeg) = 3 → HGo E (mF E (d + 4) Q) me_X12_as 94 [(0, .ref 87), (1, .int a)] [.int 0] I)
    (k14 : (0 : Int32) ≤ a → a < 4 → (0 : Int64) ≤ b.toInt64 → (b.toInt64 : Int64) ≤ 5 → ¬ b = 0 → ¬ b = 1 → ¬ b = 2 → b = 3 → ¬ (I 94 a.toNatClampNeg) = 1 → ¬ (I 94 a.toNatClampNeg) = 2 → ¬ b = 4 → b = 5 → (I 94 a.toNatClampNeg) = 3 → HGo E (mF E (d + 4) Q) me_X12_as 94 [(0, .ref 87), (1, .int a)] [.int 1] I)
    (k15 : (0 : Int32) ≤ a → a < 4 → (0 : Int64) ≤ b.toInt64 → (b.toInt64 : Int64) ≤ 5 → ¬ b = 0 → ¬ b = 1 → ¬ b = 2 → b = 3 → ¬ (I 94 a.toNatClampNeg) = 1 → ¬ (I 94 a.toNatClampNeg) = 2 → b = 4 → (I 94 a.toNatClampNeg) = 2 → HGo E (mF E (d + 4) Q) me_X12_as 94 [(0, .ref 87), (1, .int a)] [.int 1] I)
    (k16 : (0 : Int32) ≤ a → a < 4 → (0 : Int64) ≤ b.toInt64 → (b.toInt64 : Int64) ≤ 5 → ¬ b = 0 → ¬ b = 1 → ¬ b = 2 → b = 3 → ¬ (I 94 a.toNatClampNeg) = 1 → ¬ (I 94 a.toNatClampNeg) = 2 → b = 4 → ¬ (I 94 a.toNatClampNeg) = 2 → ¬ b = 5 → HGo E (mF E (d + 4) Q) me_X12_as 94 [(0, .ref 87), (1, .int a)] [.int 0] I)
    (k17 : (0 : Int32) ≤ a → a < 4 → (0 : Int64) ≤ b.toInt64 → (b.toInt64 : Int64) ≤ 5 → ¬ b = 0 → ¬ b = 1 → ¬ b = 2 → b = 3 → ¬ (I 94 a.toNatClampNeg) = 1 → ¬ (I 94 a.toNatClampNeg) = 2 → b = 4 → ¬ (I 94 a.toNatClampNeg) = 2 → b = 5 → ¬ (I 94 a.toNatClampNeg) = 3 → HGo E (mF E (d + 4) Q) me_X12_as 94 [(0, .ref 87), (1, .int a)] [.int 0] I)
    (k18 : (0 : Int32) ≤ a → a < 4 → (0 : Int64) ≤ b.toInt64 → (b.toInt64 : Int64) ≤ 5 → ¬ b = 0 → ¬ b = 1 → ¬ b = 2 → b = 3 → ¬ (I 94 a.toNatClampNeg) = 1 → ¬ (I 94 a.toNatClampNeg) = 2 → b = 4 → ¬ (I 94 a.toNatClampNeg) = 2 → b = 5 → (I 94 a.toNatClampNeg) = 3 → HGo E (mF E (d + 4) Q) me_X12_as 94 [(0, .ref 87), (1, .int a)] [.int 1] I)
    (k19 : (0 : Int32) ≤ a → a < 4 → (0 : Int64) ≤ b.toInt64 → (b.toInt64 : Int64) ≤ 5 → ¬ b = 0 → ¬ b = 1 → b = 2 → ¬ (I 94 a.toNatClampNeg) = 0 → HGo E (mF E (d + 4) Q) me_X12_as 94 [(0, .ref 87), (1, .int a)] [.int 1] I)
    (k20 : (0 : Int32) ≤ a → a < 4 → (0 : Int64) ≤ b.toInt64 → (b.toInt64 : Int64) ≤ 5 → ¬ b = 0 → ¬ b = 1 → b = 2 → (I 94 a.toNatClampNeg) = 0 → ¬ b = 3 → ¬ b = 4 → ¬ b = 5 → HGo E (mF E (d + 4) Q) me_X12_as 94 [(0, .ref 87), (1, .int a)] [.int 0] I)
    (k21 : (0 : Int32) ≤ a → a < 4 → (0 : Int64) ≤ b.toInt64 → (b.toInt64 : Int64) ≤ 5 → ¬ b = 0 → ¬ b = 1 → b = 2 → (I 94 a.toNatClampNeg) = 0 → ¬ b = 3 → ¬ b = 4 → b = 5 → ¬ (I 94 a.toNatClampNeg) = 3 → HGo E (mF E (d + 4) Q) me_X12_as 94 [(0, .ref 87), (1, .int a)] [.int 0] I)
    (k22 : (0 : Int32) ≤ a → a < 4 → (0 : Int64) ≤ b.toInt64 → (b.toInt64 : Int64) ≤ 5 → ¬ b = 0 → ¬ b = 1 → b = 2 → (I 94 a.toNatClampNeg) = 0 → ¬ b = 3 → ¬ b = 4 → b = 5 → (I 94 a.toNatClampNeg) = 3 → HGo E (mF E (d + 4) Q) me_X12_as 94 [(0, .ref 87), (1, .int a)] [.int 1] I)
    (k23 : (0 : Int32) ≤ a → a < 4 → (0 : Int64) ≤ b.toInt64 → (b.toInt64 : Int64) ≤ 5 → ¬ b = 0 → ¬ b = 1 → b = 2 → (I 94 a.toNatClampNeg) = 0 → ¬ b = 3 → b = 4 → (I 94 a.toNatClampNeg) = 2 → HGo E (mF E (d + 4) Q) me_X12_as 94 [(0, .ref 87), (1, .int a)] [.int 1] I)
    (k24 : (0 : Int32) ≤ a → a < 4 → (0 : Int64) ≤ b.toInt64 → (b.toInt64 : Int64) ≤ 5 → ¬ b = 0 → ¬ b = 1 → b = 2 → (I 94 a.toNatClampNeg) = 0 → ¬ b = 3 → b = 4 → ¬ (I 94 a.toNatClampNeg) = 2 → ¬ b = 5 → HGo E (mF E (d + 4) Q) me_X12_as 94 [(0, .ref 87), (1, .int a)] [.int 0] I)
    (k25 : (0 : Int32) ≤ a → a < 4 → (0 : Int64) ≤ b.toInt64 → (b.toInt64 : Int64) ≤ 5 → ¬ b = 0 → ¬ b = 1 → b = 2 → (I 94 a.toNatClampNeg) = 0 → ¬ b = 3 → b = 4 → ¬ (I 94 a.toNatClampNeg) = 2 → b = 5 → ¬ (I 94 a.toNatClampNeg) = 3 → HGo E (mF E (d + 4) Q) me_X12_as 94 [(0, .ref 87), (1, .int a)] [.int 0] I)
    (k26 : (0 : Int32) ≤ a → a < 4 → (0 : Int64) ≤ b.toInt64 → (b.toInt64 : Int64) ≤ 5 → ¬ b = 0 → ¬ b = 1 → b = 2 → (I 94 a.toNatClampNeg) = 0 → ¬ b = 3 → b = 4 → ¬ (I 94 a.toNatClampNeg) = 2 → b = 5 → (I 94 a.toNatClampNeg) = 3 → HGo E (mF E (d + 4) Q) me_X12_as 94 [(0, .ref 87), (1, .int a)] [.int 1] I)
    (k27 : (0 : Int32) ≤ a → a < 4 → (0 : Int64) ≤ b.toInt64 → (b.toInt64 : Int64) ≤ 5 → ¬ b = 0 → ¬ b = 1 → b = 2 → (I 94 a.toNatClampNeg) = 0 → b = 3 → (I 94 a.toNatClampNeg) = 1 → HGo E (mF E (d + 4) Q) me_X12_as 94 [(0, .ref 87), (1, .int a)] [.int 1] I)
    (k28 : (0 : Int32) ≤ a → a < 4 → (0 : Int64) ≤ b.toInt64 → (b.toInt64 : Int64) ≤ 5 → ¬ b = 0 → ¬ b = 1 → b = 2 → (I 94 a.toNatClampNeg) = 0 → b = 3 → ¬ (I 94 a.toNatClampNeg) = 1 → (I 94 a.toNatClampNeg) = 2 → HGo E (mF E (d + 4) Q) me_X12_as 94 [(0, .ref 87), (1, .int a)] [.int 1] I)
    (k29 : (0 : Int32) ≤ a → a < 4 → (0 : Int64) ≤ b.toInt64 → (b.toInt64 : Int64) ≤ 5 → ¬ b = 0 → ¬ b = 1 → b = 2 → (I 94 a.toNatClampNeg) = 0 → b = 3 → ¬ (I 94 a.toNatClampNeg) = 1 → ¬ (I 94 a.toNatClampNeg) = 2 → ¬ b = 4 → ¬ b = 5 → HGo E (mF E (d + 4) Q) me_X12_as 94 [(0, .ref 87), (1, .int a)] [.int 0] I)
    (k30 : (0 : Int32) ≤ a → a < 4 → (0 : Int64) ≤ b.toInt64 → (b.toInt64 : Int64) ≤ 5 → ¬ b = 0 → ¬ b = 1 → b = 2 → (I 94 a.toNatClampNeg) = 0 → b = 3 → ¬ (I 94 a.toNatClampNeg) = 1 → ¬ (I 94 a.toNatClampNeg) = 2 → ¬ b = 4 → b = 5 → ¬ (I 94 a.toNatClampNeg) = 3 → HGo E (mF E (d + 4) Q) me_X12_as 94 [(0, .ref 87), (1, .int a)] [.int 0] I)
    (k31 : (0 : Int32) ≤ a → a < 4 → (0 : Int64) ≤ b.toInt64 → (b.toInt64 : Int64) ≤ 5 → ¬ b = 0 → ¬ b = 1 → b = 2 → (I 94 a.toNatClampNeg) = 0 → b = 3 → ¬ (I 94 a.toNatClampNeg) = 1 → ¬ (I 94 a.toNatClampNeg) = 2 → ¬ b = 4 → b = 5 → (I 94 a.toNatClampNeg) = 3 → HGo E (mF E (d + 4) Q) me_X12_as 94 [(0, .ref 87), (1, .int a)] [.int 1] I)
    (k32 : (0 : Int32) ≤ a → a < 4 → (0 : Int64) ≤ b.toInt64 → (b.toInt64 : Int64) ≤ 5 → ¬ b = 0 → ¬ b = 1 → b = 2 → (I 94 a.toNatClampNeg) = 0 → b = 3 → ¬ (I 94 a.toNatClampNeg) = 1 → ¬ (I 94 a.toNatClampNeg) = 2 → b = 4 → (I 94 a.toNatClampNeg) = 2 → HGo E (mF E (d + 4) Q) me_X12_as 94 [(0, .ref 87), (1, .int a)] [.int 1] I)
    (k33 : (0 : Int32) ≤ a → a < 4 → (0 : Int64) ≤ b.toInt64 → (b.toInt64 : Int64) ≤ 5 → ¬ b = 0 → ¬ b = 1 → b = 2 → (I 94 a.toNatClampNeg) = 0 → b = 3 → ¬ (I 94 a.toNatClampNeg) = 1 → ¬ (I 94 a.toNatClampNeg) = 2 → b = 4 → ¬ (I 94 a.toNatClampNeg) = 2 → ¬ b = 5 → HGo E (mF E (d + 4) Q) me_X12_as 94 [(0, .ref 87), (1, .int a)] [.int 0] I)
    (k34 : (0 : Int32) ≤ a → a < 4 → (0 : Int64) ≤ b.toInt64 → (b.toInt64 : Int64) ≤ 5 → ¬ b = 0 → ¬ b = 1 → b = 2 → (I 94 a.toNatClampNeg) = 0 → b = 3 → ¬ (I 94 a.toNatClampNeg) = 1 → ¬ (I 94 a.toNatClampNeg) = 2 → b = 4 → ¬ (I 94 a.toNatClampNeg) = 2 → b = 5 → ¬ (I 94 a.toNatClampNeg) = 3 → HGo E (mF E (d + 4) Q) me_X12_as 94 [(0, .ref 87), (1, .int a)] [.int 0] I)
    (k35 : (0 : Int32) ≤ a → a < 4 → (0 : Int64) ≤ b.toInt64 → (b.toInt64 : Int64) ≤ 5 → ¬ b = 0 → ¬ b = 1 → b = 2 → (I 94 a.toNatClampNeg) = 0 → b = 3 → ¬ (I 94 a.toNatClampNeg) = 1 → ¬ (I 94 a.toNatClampNeg) = 2 → b = 4 → ¬ (I 94 a.toNatClampNeg) = 2 → b = 5 → (I 94 a.toNatClampNeg) = 3 → HGo E (mF E (d + 4) Q) me_X12_as 94 [(0, .ref 87), (1, .int a)] [.int 1] I)
    (k36 : (0 : Int32) ≤ a → a < 4 → (0 : Int64) ≤ b.toInt64 → (b.toInt64 : Int64) ≤ 5 → ¬ b = 0 → b = 1 → (I 94 a.toNatClampNeg) = 0 → HGo E (mF E (d + 4) Q) me_X12_as 94 [(0, .ref 87), (1, .int a)] [.int 1] I)
    (k37 : (0 : Int32) ≤ a → a < 4 → (0 : Int64) ≤ b.toInt64 → (b.toInt64 : Int64) ≤ 5 → ¬ b = 0 → b = 1 → ¬ (I 94 a.toNatClampNeg) = 0 → ¬ b = 2 → ¬ b = 3 → ¬ b = 4 → ¬ b = 5 → HGo E (mF E (d + 4) Q) me_X12_as 94 [(0, .ref 87), (1, .int a)] [.int 0] I)
    (k38 : (0 : Int32) ≤ a → a < 4 → (0 : Int64) ≤ b.toInt64 → (b.toInt64 : Int64) ≤ 5 → ¬ b = 0 → b = 1 → ¬ (I 94 a.toNatClampNeg) = 0 → ¬ b = 2 → ¬ b = 3 → ¬ b = 4 → b = 5 → ¬ (I 94 a.toNatClampNeg) = 3 → HGo E (mF E (d + 4) Q) me_X12_as 94 [(0, .ref 87), (1, .int a)] [.int 0] I)
    (k39 : (0 : Int32) ≤ a → a < 4 → (0 : Int64) ≤ b.toInt64 → (b.toInt64 : Int64) ≤ 5 → ¬ b = 0 → b = 1 → ¬ (I 94 a.toNatClampNeg) = 0 → ¬ b = 2 → ¬ b = 3 → ¬ b = 4 → b = 5 → (I 94 a.toNatClampNeg) = 3 → HGo E (mF E (d + 4) Q) me_X12_as 94 [(0, .ref 87), (1, .int a)] [.int 1] I)
    (k40 : (0 : Int32) ≤ a → a < 4 → (0 : Int64) ≤ b.toInt64 → (b.toInt64 : Int64) ≤ 5 → ¬ b = 0 → b = 1 → ¬ (I 94 a.toNatClampNeg) = 0 → ¬ b = 2 → ¬ b = 3 → b = 4 → (I 94 a.toNatClampNeg) = 2 → HGo E (mF E (d + 4) Q) me_X12_as 94 [(0, .ref 87), (1, .int a)] [.int 1] I)
    (k41 : (0 : Int32) ≤ a → a < 4 → (0 : Int64) ≤ b.toInt64 → (b.toInt64 : Int64) ≤ 5 → ¬ b = 0 → b = 1 → ¬ (I 94 a.toNatClampNeg) = 0 → ¬ b = 2 → ¬ b = 3 → b = 4 → ¬ (I 94 a.toNatClampNeg) = 2 → ¬ b = 5 → HGo E (mF E (d + 4) Q) me_X12_as 94 [(0, .ref 87), (1, .int a)] [.int 0] I)
    (k42 : (0 : Int32) ≤ a → a < 4 → (0 : Int64) ≤ b.toInt64 → (b.toInt64 : Int64) ≤ 5 → ¬ b = 0 → b = 1 → ¬ (I 94 a.toNatClampNeg) = 0 → ¬ b = 2 → ¬ b = 3 → b = 4 → ¬ (I 94 a.toNatClampNeg) = 2 → b = 5 → ¬ (I 94 a.toNatClampNeg) = 3 → HGo E (mF E (d + 4) Q) me_X12_as 94 [(0, .ref 87), (1, .int a)] [.int 0] I)
    (k43 : (0 : Int32) ≤ a → a < 4 → (0 : Int64) ≤ b.toInt64 → (b.toInt64 : Int64) ≤ 5 → ¬ b = 0 → b = 1 → ¬ (I 94 a.toNatClampNeg) = 0 → ¬ b = 2 → ¬ b = 3 → b = 4 → ¬ (I 94 a.toNatClampNeg) = 2 → b = 5 → (I 94 a.toNatClampNeg) = 3 → HGo E (mF E (d + 4) Q) me_X12_as 94 [(0, .ref 87), (1, .int a)] [.int 1] I)
    (k44 : (0 : Int32) ≤ a → a < 4 → (0 : Int64) ≤ b.toInt64 → (b.toInt64 : Int64) ≤ 5 → ¬ b = 0 → b = 1 → ¬ (I 94 a.toNatClampNeg) = 0 → ¬ b = 2 → b = 3 → (I 94 a.toNatClampNeg) = 1 → HGo E (mF E (d + 4) Q) me_X12_as 94 [(0, .ref 87), (1, .int a)] [.int 1] I)
    (k45 : (0 : Int32) ≤ a → a < 4 → (0 : Int64) ≤ b.toInt64 → (b.toInt64 : Int64) ≤ 5 → ¬ b = 0 → b = 1 → ¬ (I 94 a.toNatClampNeg) = 0 → ¬ b = 2 → b = 3 → ¬ (I 94 a.toNatClampNeg) = 1 → (I 94 a.toNatClampNeg) = 2 → HGo E (mF E (d + 4) Q) me_X12_as 94 [(0, .ref 87), (1, .int a)] [.int 1] I)
    (k46 : (0 : Int32) ≤ a → a < 4 → (0 : Int64) ≤ b.toInt64 → (b.toInt64 : Int64) ≤ 5 → ¬ b = 0 → b = 1 → ¬ (I 94 a.toNatClampNeg) = 0 → ¬ b = 2 → b = 3 → ¬ (I 94 a.toNatClampNeg) = 1 → ¬ (I 94 a.toNatClampNeg) = 2 → ¬ b = 4 → ¬ b = 5 → HGo E (mF E (d + 4) Q) me_X12_as 94 [(0, .ref 87), (1, .int a)] [.int 0] I)
    (k47 : (0 : Int32) ≤ a → a < 4 → (0 : Int64) ≤ b.toInt64 → (b.toInt64 : Int64) ≤ 5 → ¬ b = 0 → b = 1 → ¬ (I 94 a.toNatClampNeg) = 0 → ¬ b = 2 → b = 3 → ¬ (I 94 a.toNatClampNeg) = 1 → ¬ (I 94 a.toNatClampNeg) = 2 → ¬ b = 4 → b = 5 → ¬ (I 94 a.toNatClampNeg) = 3 → HGo E (mF E (d + 4) Q) me_X12_as 94 [(0, .ref 87), (1, .int a)] [.int 0] I)
    (k48 : (0 : Int32) ≤ a → a < 4 → (0 : Int64) ≤ b.toInt64 → (b.toInt64 : Int64) ≤ 5 → ¬ b = 0 → b = 1 → ¬ (I 94 a.toNatClampNeg) = 0 → ¬ b = 2 → b = 3 → ¬ (I 94 a.toNatClampNeg) = 1 → ¬ (I 94 a.toNatClampNeg) = 2 → ¬ b = 4 → b = 5 → (I 94 a.toNatClampNeg) = 3 → HGo E (mF E (d + 4) Q) me_X12_as 94 [(0, .ref 87), (1, .int a)] [.int 1] I)
    (k49 : (0 : Int32) ≤ a → a < 4 → (0 : Int64) ≤ b.toInt64 → (b.toInt64 : Int64) ≤ 5 → ¬ b = 0 → b = 1 → ¬ (I 94 a.toNatClampNeg) = 0 → ¬ b = 2 → b = 3 → ¬ (I 94 a.toNatClampNeg) = 1 → ¬ (I 94 a.toNatClampNeg) = 2 → b = 4 → (I 94 a.toNatClampNeg) = 2 → HGo E (mF E (d + 4) Q) me_X12_as 94 [(0, .ref 87), (1, .int a)] [.int 1] I)
    (k50 : (0 : Int32) ≤ a → a < 4 → (0 : Int64) ≤ b.toInt64 → (b.toInt64 : Int64) ≤ 5 → ¬ b = 0 → b = 1 → ¬ (I 94 a.toNatClampNeg) = 0 → ¬ b = 2 → b = 3 → ¬ (I 94 a.toNatClampNeg) = 1 → ¬ (I 94 a.toNatClampNeg) = 2 → b = 4 → ¬ (I 94 a.toNatClampNeg) = 2 → ¬ b = 5 → HGo E (mF E (d + 4) Q) me_X12_as 94 [(0, .ref 87), (1, .int a)] [.int 0] I)
    (k51 : (0 : Int32) ≤ a → a < 4 → (0 : Int64) ≤ b.toInt64 → (b.toInt64 : Int64) ≤ 5 → ¬ b = 0 → b = 1 → ¬ (I 94 a.toNatClampNeg) = 0 → ¬ b = 2 → b = 3 → ¬ (I 94 a.toNatClampNeg) = 1 → ¬ (I 94 a.toNatClampNeg) = 2 → b = 4 → ¬ (I 94 a.toNatClampNeg) = 2 → b = 5 → ¬ (I 94 a.toNatClampNeg) = 3 → HGo E (mF E (d + 4) Q) me_X12_as 94 [(0, .ref 87), (1, .int a)] [.int 0] I)
    (k52 : (0 : Int32) ≤ a → a < 4 → (0 : Int64) ≤ b.toInt64 → (b.toInt64 : Int64) ≤ 5 → ¬ b = 0 → b = 1 → ¬ (I 94 a.toNatClampNeg) = 0 → ¬ b = 2 → b = 3 → ¬ (I 94 a.toNatClampNeg) = 1 → ¬ (I 94 a.toNatClampNeg) = 2 → b = 4 → ¬ (I 94 a.toNatClampNeg) = 2 → b = 5 → (I 94 a.toNatClampNeg) = 3 → HGo E (mF E (d + 4) Q) me_X12_as 94 [(0, .ref 87), (1, .int a)] [.int 1] I)
    (k53 : (0 : Int32) ≤ a → a < 4 → (0 : Int64) ≤ b.toInt64 → (b.toInt64 : Int64) ≤ 5 → ¬ b = 0 → b = 1 → ¬ (I 94 a.toNatClampNeg) = 0 → b = 2 → ¬ (I 94 a.toNatClampNeg) = 0 → HGo E (mF E (d + 4) Q) me_X12_as 94 [(0, .ref 87), (1, .int a)] [.int 1] I)
    (k54 : (0 : Int32) ≤ a → a < 4 → (0 : Int64) ≤ b.toInt64 → (b.toInt64 : Int64) ≤ 5 → ¬ b = 0 → b = 1 → ¬ (I 94 a.toNatClampNeg) = 0 → b = 2 → (I 94 a.toNatClampNeg) = 0 → ¬ b = 3 → ¬ b = 4 → ¬ b = 5 → HGo E (mF E (d + 4) Q) me_X12_as 94 [(0, .ref 87), (1, .int a)] [.int 0] I)
    (k55 : (0 : Int32) ≤ a → a < 4 → (0 : Int64) ≤ b.toInt64 → (b.toInt64 : Int64) ≤ 5 → ¬ b = 0 → b = 1 → ¬ (I 94 a.toNatClampNeg) = 0 → b = 2 → (I 94 a.toNatClampNeg) = 0 → ¬ b = 3 → ¬ b = 4 → b = 5 → ¬ (I 94 a.toNatClampNeg) = 3 → HGo E (mF E (d + 4) Q) me_X12_as 94 [(0, .ref 87), (1, .int a)] [.int 0] I)
    (k56 : (0 : Int32) ≤ a → a < 4 → (0 : Int64) ≤ b.toInt64 → (b.toInt64 : Int64) ≤ 5 → ¬ b = 0 → b = 1 → ¬ (I 94 a.toNatClampNeg) = 0 → b = 2 → (I 94 a.toNatClampNeg) = 0 → ¬ b = 3 → ¬ b = 4 → b = 5 → (I 94 a.toNatClampNeg) = 3 → HGo E (mF E (d + 4) Q) me_X12_as 94 [(0, .ref 87), (1, .int a)] [.int 1] I)
    (k57 : (0 : Int32) ≤ a → a < 4 → (0 : Int64) ≤ b.toInt64 → (b.toInt64 : Int64) ≤ 5 → ¬ b = 0 → b = 1 → ¬ (I 94 a.toNatClampNeg) = 0 → b = 2 → (I 94 a.toNatClampNeg) = 0 → ¬ b = 3 → b = 4 → (I 94 a.toNatClampNeg) = 2 → HGo E (mF E (d + 4) Q) me_X12_as 94 [(0, .ref 87), (1, .int a)] [.int 1] I)
    (k58 : (0 : Int32) ≤ a → a < 4 → (0 : Int64) ≤ b.toInt64 → (b.toInt64 : Int64) ≤ 5 → ¬ b = 0 → b = 1 → ¬ (I 94 a.toNatClampNeg) = 0 → b = 2 → (I 94 a.toNatClampNeg) = 0 → ¬ b = 3 → b = 4 → ¬ (I 94 a.toNatClampNeg) = 2 → ¬ b = 5 → HGo E (mF E (d + 4) Q) me_X12_as 94 [(0, .ref 87), (1, .int a)] [.int 0] I)
    (k59 : (0 : Int32) ≤ a → a < 4 → (0 : Int64) ≤ b.toInt64 → (b.toInt64 : Int64) ≤ 5 → ¬ b = 0 → b = 1 → ¬ (I 94 a.toNatClampNeg) = 0 → b = 2 → (I 94 a.toNatClampNeg) = 0 → ¬ b = 3 → b = 4 → ¬ (I 94 a.toNatClampNeg) = 2 → b = 5 → ¬ (I 94 a.toNatClampNeg) = 3 → HGo E (mF E (d + 4) Q) me_X12_as 94 [(0, .ref 87), (1, .int a)] [.int 0] I)
    (k60 : (0 : Int32) ≤ a → a < 4 → (0 : Int64) ≤ b.toInt64 → (b.toInt64 : Int64) ≤ 5 → ¬ b = 0 → b = 1 → ¬ (I 94 a.toNatClampNeg) = 0 → b = 2 → (I 94 a.toNatClampNeg) = 0 → ¬ b = 3 → b = 4 → ¬ (I 94 a.toNatClampNeg) = 2 → b = 5 → (I 94 a.toNatClampNeg) = 3 → HGo E (mF E (d + 4) Q) me_X12_as 94 [(0, .ref 87), (1, .int a)] [.int 1] I)
    (k61 : (0 : Int32) ≤ a → a < 4 → (0 : Int64) ≤ b.toInt64 → (b.toInt64 : Int64) ≤ 5 → ¬ b = 0 → b = 1 → ¬ (I 94 a.toNatClampNeg) = 0 → b = 2 → (I 94 a.toNatClampNeg) = 0 → b = 3 → (I 94 a.toNatClampNeg) = 1 → HGo E (mF E (d + 4) Q) me_X12_as 94 [(0, .ref 87), (1, .int a)] [.int 1] I)
    (k62 : (0 : Int32) ≤ a → a < 4 → (0 : Int64) ≤ b.toInt64 → (b.toInt64 : Int64) ≤ 5 → ¬ b = 0 → b = 1 → ¬ (I 94 a.toNatClampNeg) = 0 → b = 2 → (I 94 a.toNatClampNeg) = 0 → b = 3 → ¬ (I 94 a.toNatClampNeg) = 1 → (I 94 a.toNatClampNeg) = 2 → HGo E (mF E (d + 4) Q) me_X12_as 94 [(0, .ref 87), (1, .int a)] [.int 1] I)
    (k63 : (0 : Int32) ≤ a → a < 4 → (0 : Int64) ≤ b.toInt64 → (b.toInt64 : Int64) ≤ 5 → ¬ b = 0 → b = 1 → ¬ (I 94 a.toNatClampNeg) = 0 → b = 2 → (I 94 a.toNatClampNeg) = 0 → b = 3 → ¬ (I 94 a.toNatClampNeg) = 1 → ¬ (I 94 a.toNatClampNeg) = 2 → ¬ b = 4 → ¬ b = 5 → HGo E (mF E (d + 4) Q) me_X12_as 94 [(0, .ref 87), (1, .int a)] [.int 0] I)
    (k64 : (0 : Int32) ≤ a → a < 4 → (0 : Int64) ≤ b.toInt64 → (b.toInt64 : Int64) ≤ 5 → ¬ b = 0 → b = 1 → ¬ (I 94 a.toNatClampNeg) = 0 → b = 2 → (I 94 a.toNatClampNeg) = 0 → b = 3 → ¬ (I 94 a.toNatClampNeg) = 1 → ¬ (I 94 a.toNatClampNeg) = 2 → ¬ b = 4 → b = 5 → ¬ (I 94 a.toNatClampNeg) = 3 → HGo E (mF E (d + 4) Q) me_X12_as 94 [(0, .ref 87), (1, .int a)] [.int 0] I)
    (k65 : (0 : Int32) ≤ a → a < 4 → (0 : Int64) ≤ b.toInt64 → (b.toInt64 : Int64) ≤ 5 → ¬ b = 0 → b = 1 → ¬ (I 94 a.toNatClampNeg) = 0 → b = 2 → (I 94 a.toNatClampNeg) = 0 → b = 3 → ¬ (I 94 a.toNatClampNeg) = 1 → ¬ (I 94 a.toNatClampNeg) = 2 → ¬ b = 4 → b = 5 → (I 94 a.toNatClampNeg) = 3 → HGo E (mF E (d + 4) Q) me_X12_as 94 [(0, .ref 87), (1, .int a)] [.int 1] I)
    (k66 : (0 : Int32) ≤ a → a < 4 → (0 : Int64) ≤ b.toInt64 → (b.toInt64 : Int64) ≤ 5 → ¬ b = 0 → b = 1 → ¬ (I 94 a.toNatClampNeg) = 0 → b = 2 → (I 94 a.toNatClampNeg) = 0 → b = 3 → ¬ (I 94 a.toNatClampNeg) = 1 → ¬ (I 94 a.toNatClampNeg) = 2 → b = 4 → (I 94 a.toNatClampNeg) = 2 → HGo E (mF E (d + 4) Q) me_X12_as 94 [(0, .ref 87), (1, .int a)] [.int 1] I)
    (k67 : (0 : Int32) ≤ a → a < 4 → (0 : Int64) ≤ b.toInt64 → (b.toInt64 : Int64) ≤ 5 → ¬ b = 0 → b = 1 → ¬ (I 94 a.toNatClampNeg) = 0 → b = 2 → (I 94 a.toNatClampNeg) = 0 → b = 3 → ¬ (I 94 a.toNatClampNeg) = 1 → ¬ (I 94 a.toNatClampNeg) = 2 → b = 4 → ¬ (I 94 a.toNatClampNeg) = 2 → ¬ b = 5 → HGo E (mF E (d + 4) Q) me_X12_as 94 [(0, .ref 87), (1, .int a)] [.int 0] I)
    (k68 : (0 : Int32) ≤ a → a < 4 → (0 : Int64) ≤ b.toInt64 → (b.toInt64 : Int64) ≤ 5 → ¬ b = 0 → b = 1 → ¬ (I 94 a.toNatClampNeg) = 0 → b = 2 → (I 94 a.toNatClampNeg) = 0 → b = 3 → ¬ (I 94 a.toNatClampNeg) = 1 → ¬ (I 94 a.toNatClampNeg) = 2 → b = 4 → ¬ (I 94 a.toNatClampNeg) = 2 → b = 5 → ¬ (I 94 a.toNatClampNeg) = 3 → HGo E (mF E (d + 4) Q) me_X12_as 94 [(0, .ref 87), (1, .int a)] [.int 0] I)
    (k69 : (0 : Int32) ≤ a → a < 4 → (0 : Int64) ≤ b.toInt64 → (b.toInt64 : Int64) ≤ 5 → ¬ b = 0 → b = 1 → ¬ (I 94 a.toNatClampNeg) = 0 → b = 2 → (I 94 a.toNatClampNeg) = 0 → b = 3 → ¬ (I 94 a.toNatClampNeg) = 1 → ¬ (I 94 a.toNatClampNeg) = 2 → b = 4 → ¬ (I 94 a.toNatClampNeg) = 2 → b = 5 → (I 94 a.toNatClampNeg) = 3 → HGo E (mF E (d + 4) Q) me_X12_as 94 [(0, .ref 87), (1, .int a)] [.int 1] I)
    (k70 : (0 : Int32) ≤ a → a < 4 → ¬ ((0 : Int64) ≤ b.toInt64 ∧ (b.toInt64 : Int64) ≤ 5) → Q (some (.int (-3))) I)
    (k71 : ¬ ((0 : Int32) ≤ a ∧ a < 4) → Q (some (.int (-2))) I)
    : HGo E (mF E (d + 4) Q) me_X12_as 0 [(0, .ref 87), (1, .int a), (2, .int b)] [] I := by
  refine h_iload_n dX12_as_0 rfl 1 rfl ?_
  refine h_invS (As := [.int a]) (st := []) dX12_as_1 lk_X12_180 (h_room (by decide)) rfl rfl (Nat.le_of_ble_eq_true rfl) ?_
  refine c_X12_isPerson (fun c1 c2 => ?_) (fun c3 => ?_)
  ·
    refine h_if_ne (tgt := 10) dX12_as_4 (by decide) (fun _ => ?_) (fun c => absurd c (by decide))
    refine h_iload_n dX12_as_10 rfl 2 rfl ?_
    refine h_i2l dX12_as_11 ?_
    refine h_lconst (v := 0) dX12_as_12 (by decide) ?_
    refine h_ldc2 dX12_as_13 wt_1026 rfl ?_
    refine h_invS (As := [.long b.toInt64, .long 0, .long 5]) (st := []) dX12_as_16 lk_X12_62 (h_room (by decide)) rfl rfl (Nat.le_of_ble_eq_true rfl) ?_
    refine c_X12_in (fun c4 c5 => ?_) (fun c6 => ?_)
    ·
      refine h_if_ne (tgt := 25) dX12_as_19 (by decide) (fun _ => ?_) (fun c => absurd c (by decide))
      refine h_aload_n dX12_as_25 rfl 0 rfl ?_
      refine gf_10_9 dX12_as_26 hl_X12_33 nl_87 zk_87 zp_87_9 ?_
      refine h_iload_n dX12_as_29 rfl 1 rfl ?_
      refine h_iald dX12_as_30 nl_94 zk_94 (by rw [zn_94]; exact k1 c1 c2 c4 c5) ?_
      refine h_istore_n (L' := [(3, .int (I 94 a.toNatClampNeg)), (0, .ref 87), (1, .int a), (2, .int b)]) dX12_as_31 rfl (by decide) rfl ?_
      refine h_iload_n dX12_as_32 rfl 3 rfl ?_
      refine h_if_eq (tgt := 89) dX12_as_33 (by decide) (fun c7 => ?_) (fun c7 => ?_)
      ·
        refine h_iconst (v := 1) dX12_as_89 (by decide) ?_
        refine h_goto (tgt := 94) dX12_as_90 (by decide) ?_
        refine h_pick [1, 2] [(0, .ref 87), (1, .int a)] rfl ?_
        exact k2 c1 c2 c4 c5 c7
      ·
        refine h_iload_n dX12_as_36 rfl 3 rfl ?_
        refine h_iconst (v := 1) dX12_as_37 (by decide) ?_
        refine h_icmp_ne (tgt := 45) dX12_as_38 (by decide) (fun c8 => ?_) (fun c8 => ?_)
        ·
          refine h_iload_n dX12_as_45 rfl 3 rfl ?_
          refine h_iconst (v := 2) dX12_as_46 (by decide) ?_
          refine h_icmp_ne (tgt := 54) dX12_as_47 (by decide) (fun c9 => ?_) (fun c9 => ?_)
          ·
            refine h_iload_n dX12_as_54 rfl 3 rfl ?_
            refine h_iconst (v := 3) dX12_as_55 (by decide) ?_
            refine h_icmp_ne (tgt := 69) dX12_as_56 (by decide) (fun c10 => ?_) (fun c10 => ?_)
            ·
              refine h_iload_n dX12_as_69 rfl 3 rfl ?_
              refine h_iconst (v := 4) dX12_as_70 (by decide) ?_
              refine h_icmp_ne (tgt := 79) dX12_as_71 (by decide) (fun c11 => ?_) (fun c11 => ?_)
              ·
                refine h_iload_n dX12_as_79 rfl 3 rfl ?_
                refine h_iconst (v := 5) dX12_as_80 (by decide) ?_
                refine h_icmp_ne (tgt := 93) dX12_as_81 (by decide) (fun c12 => ?_) (fun c12 => ?_)
                ·
                  refine h_iconst (v := 0) dX12_as_93 (by decide) ?_
                  refine h_pick [1, 2] [(0, .ref 87), (1, .int a)] rfl ?_
                  exact k3 c1 c2 c4 c5 c7 c8 c9 c10 c11 c12
                ·
                  refine h_iload_n dX12_as_84 rfl 0 rfl ?_
                  refine h_iconst (v := 3) dX12_as_85 (by decide) ?_
                  refine h_icmp_ne (tgt := 93) dX12_as_86 (by decide) (fun c13 => ?_) (fun c13 => ?_)
                  ·
                    refine h_iconst (v := 0) dX12_as_93 (by decide) ?_
                    refine h_pick [1, 2] [(0, .ref 87), (1, .int a)] rfl ?_
                    exact k4 c1 c2 c4 c5 c7 c8 c9 c10 c11 c12 c13
                  ·
                    refine h_iconst (v := 1) dX12_as_89 (by decide) ?_
                    refine h_goto (tgt := 94) dX12_as_90 (by decide) ?_
                    refine h_pick [1, 2] [(0, .ref 87), (1, .int a)] rfl ?_
                    exact k5 c1 c2 c4 c5 c7 c8 c9 c10 c11 c12 c13
              ·
                refine h_iload_n dX12_as_74 rfl 0 rfl ?_
                refine h_iconst (v := 2) dX12_as_75 (by decide) ?_
                refine h_icmp_eq (tgt := 89) dX12_as_76 (by decide) (fun c14 => ?_) (fun c14 => ?_)
                ·
                  refine h_iconst (v := 1) dX12_as_89 (by decide) ?_
                  refine h_goto (tgt := 94) dX12_as_90 (by decide) ?_
                  refine h_pick [1, 2] [(0, .ref 87), (1, .int a)] rfl ?_
                  exact k6 c1 c2 c4 c5 c7 c8 c9 c10 c11 c14
                ·
                  refine h_iload_n dX12_as_79 rfl 3 rfl ?_
                  refine h_iconst (v := 5) dX12_as_80 (by decide) ?_
                  refine h_icmp_ne (tgt := 93) dX12_as_81 (by decide) (fun c15 => ?_) (fun c15 => ?_)
                  ·
                    refine h_iconst (v := 0) dX12_as_93 (by decide) ?_
                    refine h_pick [1, 2] [(0, .ref 87), (1, .int a)] rfl ?_
                    exact k7 c1 c2 c4 c5 c7 c8 c9 c10 c11 c14 c15
                  ·
                    refine h_iload_n dX12_as_84 rfl 0 rfl ?_
                    refine h_iconst (v := 3) dX12_as_85 (by decide) ?_
                    refine h_icmp_ne (tgt := 93) dX12_as_86 (by decide) (fun c16 => ?_) (fun c16 => ?_)
                    ·
                      refine h_iconst (v := 0) dX12_as_93 (by decide) ?_
                      refine h_pick [1, 2] [(0, .ref 87), (1, .int a)] rfl ?_
                      exact k8 c1 c2 c4 c5 c7 c8 c9 c10 c11 c14 c15 c16
                    ·
                      refine h_iconst (v := 1) dX12_as_89 (by decide) ?_
                      refine h_goto (tgt := 94) dX12_as_90 (by decide) ?_
                      refine h_pick [1, 2] [(0, .ref 87), (1, .int a)] rfl ?_
                      exact k9 c1 c2 c4 c5 c7 c8 c9 c10 c11 c14 c15 c16
            ·
              refine h_iload_n dX12_as_59 rfl 0 rfl ?_
              refine h_iconst (v := 1) dX12_as_60 (by decide) ?_
              refine h_icmp_eq (tgt := 89) dX12_as_61 (by decide) (fun c17 => ?_) (fun c17 => ?_)
              ·
                refine h_iconst (v := 1) dX12_as_89 (by decide) ?_
                refine h_goto (tgt := 94) dX12_as_90 (by decide) ?_
                refine h_pick [1, 2] [(0, .ref 87), (1, .int a)] rfl ?_
                exact k10 c1 c2 c4 c5 c7 c8 c9 c10 c17
              ·
                refine h_iload_n dX12_as_64 rfl 0 rfl ?_
                refine h_iconst (v := 2) dX12_as_65 (by decide) ?_
                refine h_icmp_eq (tgt := 89) dX12_as_66 (by decide) (fun c18 => ?_) (fun c18 => ?_)
                ·
                  refine h_iconst (v := 1) dX12_as_89 (by decide) ?_
                  refine h_goto (tgt := 94) dX12_as_90 (by decide) ?_
                  refine h_pick [1, 2] [(0, .ref 87), (1, .int a)] rfl ?_
                  exact k11 c1 c2 c4 c5 c7 c8 c9 c10 c17 c18
                ·
                  refine h_iload_n dX12_as_69 rfl 3 rfl ?_
                  refine h_iconst (v := 4) dX12_as_70 (by decide) ?_
                  refine h_icmp_ne (tgt := 79) dX12_as_71 (by decide) (fun c19 => ?_) (fun c19 => ?_)
                  ·
                    refine h_iload_n dX12_as_79 rfl 3 rfl ?_
                    refine h_iconst (v := 5) dX12_as_80 (by decide) ?_
                    refine h_icmp_ne (tgt := 93) dX12_as_81 (by decide) (fun c20 => ?_) (fun c20 => ?_)
                    ·
                      refine h_iconst (v := 0) dX12_as_93 (by decide) ?_
                      refine h_pick [1, 2] [(0, .ref 87), (1, .int a)] rfl ?_
                      exact k12 c1 c2 c4 c5 c7 c8 c9 c10 c17 c18 c19 c20
                    ·
                      refine h_iload_n dX12_as_84 rfl 0 rfl ?_
                      refine h_iconst (v := 3) dX12_as_85 (by decide) ?_
                      refine h_icmp_ne (tgt := 93) dX12_as_86 (by decide) (fun c21 => ?_) (fun c21 => ?_)
                      ·
                        refine h_iconst (v := 0) dX12_as_93 (by decide) ?_
                        refine h_pick [1, 2] [(0, .ref 87), (1, .int a)] rfl ?_
                        exact k13 c1 c2 c4 c5 c7 c8 c9 c10 c17 c18 c19 c20 c21
                      ·
                        refine h_iconst (v := 1) dX12_as_89 (by decide) ?_
                        refine h_goto (tgt := 94) dX12_as_90 (by decide) ?_
                        refine h_pick [1, 2] [(0, .ref 87), (1, .int a)] rfl ?_
                        exact k14 c1 c2 c4 c5 c7 c8 c9 c10 c17 c18 c19 c20 c21
                  ·
                    refine h_iload_n dX12_as_74 rfl 0 rfl ?_
                    refine h_iconst (v := 2) dX12_as_75 (by decide) ?_
                    refine h_icmp_eq (tgt := 89) dX12_as_76 (by decide) (fun c22 => ?_) (fun c22 => ?_)
                    ·
                      refine h_iconst (v := 1) dX12_as_89 (by decide) ?_
                      refine h_goto (tgt := 94) dX12_as_90 (by decide) ?_
                      refine h_pick [1, 2] [(0, .ref 87), (1, .int a)] rfl ?_
                      exact k15 c1 c2 c4 c5 c7 c8 c9 c10 c17 c18 c19 c22
                    ·
                      refine h_iload_n dX12_as_79 rfl 3 rfl ?_
                      refine h_iconst (v := 5) dX12_as_80 (by decide) ?_
                      refine h_icmp_ne (tgt := 93) dX12_as_81 (by decide) (fun c23 => ?_) (fun c23 => ?_)
                      ·
                        refine h_iconst (v := 0) dX12_as_93 (by decide) ?_
                        refine h_pick [1, 2] [(0, .ref 87), (1, .int a)] rfl ?_
                        exact k16 c1 c2 c4 c5 c7 c8 c9 c10 c17 c18 c19 c22 c23
                      ·
                        refine h_iload_n dX12_as_84 rfl 0 rfl ?_
                        refine h_iconst (v := 3) dX12_as_85 (by decide) ?_
                        refine h_icmp_ne (tgt := 93) dX12_as_86 (by decide) (fun c24 => ?_) (fun c24 => ?_)
                        ·
                          refine h_iconst (v := 0) dX12_as_93 (by decide) ?_
                          refine h_pick [1, 2] [(0, .ref 87), (1, .int a)] rfl ?_
                          exact k17 c1 c2 c4 c5 c7 c8 c9 c10 c17 c18 c19 c22 c23 c24
                        ·
                          refine h_iconst (v := 1) dX12_as_89 (by decide) ?_
                          refine h_goto (tgt := 94) dX12_as_90 (by decide) ?_
                          refine h_pick [1, 2] [(0, .ref 87), (1, .int a)] rfl ?_
                          exact k18 c1 c2 c4 c5 c7 c8 c9 c10 c17 c18 c19 c22 c23 c24
          ·
            refine h_iload_n dX12_as_50 rfl 0 rfl ?_
            refine h_if_ne (tgt := 89) dX12_as_51 (by decide) (fun c25 => ?_) (fun c25 => ?_)
            ·
              refine h_iconst (v := 1) dX12_as_89 (by decide) ?_
              refine h_goto (tgt := 94) dX12_as_90 (by decide) ?_
              refine h_pick [1, 2] [(0, .ref 87), (1, .int a)] rfl ?_
              exact k19 c1 c2 c4 c5 c7 c8 c9 c25
            ·
              refine h_iload_n dX12_as_54 rfl 3 rfl ?_
              refine h_iconst (v := 3) dX12_as_55 (by decide) ?_
              refine h_icmp_ne (tgt := 69) dX12_as_56 (by decide) (fun c26 => ?_) (fun c26 => ?_)
              ·
                refine h_iload_n dX12_as_69 rfl 3 rfl ?_
                refine h_iconst (v := 4) dX12_as_70 (by decide) ?_
                refine h_icmp_ne (tgt := 79) dX12_as_71 (by decide) (fun c27 => ?_) (fun c27 => ?_)
                ·
                  refine h_iload_n dX12_as_79 rfl 3 rfl ?_
                  refine h_iconst (v := 5) dX12_as_80 (by decide) ?_
                  refine h_icmp_ne (tgt := 93) dX12_as_81 (by decide) (fun c28 => ?_) (fun c28 => ?_)
                  ·
                    refine h_iconst (v := 0) dX12_as_93 (by decide) ?_
                    refine h_pick [1, 2] [(0, .ref 87), (1, .int a)] rfl ?_
                    exact k20 c1 c2 c4 c5 c7 c8 c9 c25 c26 c27 c28
                  ·
                    refine h_iload_n dX12_as_84 rfl 0 rfl ?_
                    refine h_iconst (v := 3) dX12_as_85 (by decide) ?_
                    refine h_icmp_ne (tgt := 93) dX12_as_86 (by decide) (fun c29 => ?_) (fun c29 => ?_)
                    ·
                      refine h_iconst (v := 0) dX12_as_93 (by decide) ?_
                      refine h_pick [1, 2] [(0, .ref 87), (1, .int a)] rfl ?_
                      exact k21 c1 c2 c4 c5 c7 c8 c9 c25 c26 c27 c28 c29
                    ·
                      refine h_iconst (v := 1) dX12_as_89 (by decide) ?_
                      refine h_goto (tgt := 94) dX12_as_90 (by decide) ?_
                      refine h_pick [1, 2] [(0, .ref 87), (1, .int a)] rfl ?_
                      exact k22 c1 c2 c4 c5 c7 c8 c9 c25 c26 c27 c28 c29
                ·
                  refine h_iload_n dX12_as_74 rfl 0 rfl ?_
                  refine h_iconst (v := 2) dX12_as_75 (by decide) ?_
                  refine h_icmp_eq (tgt := 89) dX12_as_76 (by decide) (fun c30 => ?_) (fun c30 => ?_)
                  ·
                    refine h_iconst (v := 1) dX12_as_89 (by decide) ?_
                    refine h_goto (tgt := 94) dX12_as_90 (by decide) ?_
                    refine h_pick [1, 2] [(0, .ref 87), (1, .int a)] rfl ?_
                    exact k23 c1 c2 c4 c5 c7 c8 c9 c25 c26 c27 c30
                  ·
                    refine h_iload_n dX12_as_79 rfl 3 rfl ?_
                    refine h_iconst (v := 5) dX12_as_80 (by decide) ?_
                    refine h_icmp_ne (tgt := 93) dX12_as_81 (by decide) (fun c31 => ?_) (fun c31 => ?_)
                    ·
                      refine h_iconst (v := 0) dX12_as_93 (by decide) ?_
                      refine h_pick [1, 2] [(0, .ref 87), (1, .int a)] rfl ?_
                      exact k24 c1 c2 c4 c5 c7 c8 c9 c25 c26 c27 c30 c31
                    ·
                      refine h_iload_n dX12_as_84 rfl 0 rfl ?_
                      refine h_iconst (v := 3) dX12_as_85 (by decide) ?_
                      refine h_icmp_ne (tgt := 93) dX12_as_86 (by decide) (fun c32 => ?_) (fun c32 => ?_)
                      ·
                        refine h_iconst (v := 0) dX12_as_93 (by decide) ?_
                        refine h_pick [1, 2] [(0, .ref 87), (1, .int a)] rfl ?_
                        exact k25 c1 c2 c4 c5 c7 c8 c9 c25 c26 c27 c30 c31 c32
                      ·
                        refine h_iconst (v := 1) dX12_as_89 (by decide) ?_
                        refine h_goto (tgt := 94) dX12_as_90 (by decide) ?_
                        refine h_pick [1, 2] [(0, .ref 87), (1, .int a)] rfl ?_
                        exact k26 c1 c2 c4 c5 c7 c8 c9 c25 c26 c27 c30 c31 c32
              ·
                refine h_iload_n dX12_as_59 rfl 0 rfl ?_
                refine h_iconst (v := 1) dX12_as_60 (by decide) ?_
                refine h_icmp_eq (tgt := 89) dX12_as_61 (by decide) (fun c33 => ?_) (fun c33 => ?_)
                ·
                  refine h_iconst (v := 1) dX12_as_89 (by decide) ?_
                  refine h_goto (tgt := 94) dX12_as_90 (by decide) ?_
                  refine h_pick [1, 2] [(0, .ref 87), (1, .int a)] rfl ?_
                  exact k27 c1 c2 c4 c5 c7 c8 c9 c25 c26 c33
                ·
                  refine h_iload_n dX12_as_64 rfl 0 rfl ?_
                  refine h_iconst (v := 2) dX12_as_65 (by decide) ?_
                  refine h_icmp_eq (tgt := 89) dX12_as_66 (by decide) (fun c34 => ?_) (fun c34 => ?_)
                  ·
                    refine h_iconst (v := 1) dX12_as_89 (by decide) ?_
                    refine h_goto (tgt := 94) dX12_as_90 (by decide) ?_
                    refine h_pick [1, 2] [(0, .ref 87), (1, .int a)] rfl ?_
                    exact k28 c1 c2 c4 c5 c7 c8 c9 c25 c26 c33 c34
                  ·
                    refine h_iload_n dX12_as_69 rfl 3 rfl ?_
                    refine h_iconst (v := 4) dX12_as_70 (by decide) ?_
                    refine h_icmp_ne (tgt := 79) dX12_as_71 (by decide) (fun c35 => ?_) (fun c35 => ?_)
                    ·
                      refine h_iload_n dX12_as_79 rfl 3 rfl ?_
                      refine h_iconst (v := 5) dX12_as_80 (by decide) ?_
                      refine h_icmp_ne (tgt := 93) dX12_as_81 (by decide) (fun c36 => ?_) (fun c36 => ?_)
                      ·
                        refine h_iconst (v := 0) dX12_as_93 (by decide) ?_
                        refine h_pick [1, 2] [(0, .ref 87), (1, .int a)] rfl ?_
                        exact k29 c1 c2 c4 c5 c7 c8 c9 c25 c26 c33 c34 c35 c36
                      ·
                        refine h_iload_n dX12_as_84 rfl 0 rfl ?_
                        refine h_iconst (v := 3) dX12_as_85 (by decide) ?_
                        refine h_icmp_ne (tgt := 93) dX12_as_86 (by decide) (fun c37 => ?_) (fun c37 => ?_)
                        ·
                          refine h_iconst (v := 0) dX12_as_93 (by decide) ?_
                          refine h_pick [1, 2] [(0, .ref 87), (1, .int a)] rfl ?_
                          exact k30 c1 c2 c4 c5 c7 c8 c9 c25 c26 c33 c34 c35 c36 c37
                        ·
                          refine h_iconst (v := 1) dX12_as_89 (by decide) ?_
                          refine h_goto (tgt := 94) dX12_as_90 (by decide) ?_
                          refine h_pick [1, 2] [(0, .ref 87), (1, .int a)] rfl ?_
                          exact k31 c1 c2 c4 c5 c7 c8 c9 c25 c26 c33 c34 c35 c36 c37
                    ·
                      refine h_iload_n dX12_as_74 rfl 0 rfl ?_
                      refine h_iconst (v := 2) dX12_as_75 (by decide) ?_
                      refine h_icmp_eq (tgt := 89) dX12_as_76 (by decide) (fun c38 => ?_) (fun c38 => ?_)
                      ·
                        refine h_iconst (v := 1) dX12_as_89 (by decide) ?_
                        refine h_goto (tgt := 94) dX12_as_90 (by decide) ?_
                        refine h_pick [1, 2] [(0, .ref 87), (1, .int a)] rfl ?_
                        exact k32 c1 c2 c4 c5 c7 c8 c9 c25 c26 c33 c34 c35 c38
                      ·
                        refine h_iload_n dX12_as_79 rfl 3 rfl ?_
                        refine h_iconst (v := 5) dX12_as_80 (by decide) ?_
                        refine h_icmp_ne (tgt := 93) dX12_as_81 (by decide) (fun c39 => ?_) (fun c39 => ?_)
                        ·
                          refine h_iconst (v := 0) dX12_as_93 (by decide) ?_
                          refine h_pick [1, 2] [(0, .ref 87), (1, .int a)] rfl ?_
                          exact k33 c1 c2 c4 c5 c7 c8 c9 c25 c26 c33 c34 c35 c38 c39
                        ·
                          refine h_iload_n dX12_as_84 rfl 0 rfl ?_
                          refine h_iconst (v := 3) dX12_as_85 (by decide) ?_
                          refine h_icmp_ne (tgt := 93) dX12_as_86 (by decide) (fun c40 => ?_) (fun c40 => ?_)
                          ·
                            refine h_iconst (v := 0) dX12_as_93 (by decide) ?_
                            refine h_pick [1, 2] [(0, .ref 87), (1, .int a)] rfl ?_
                            exact k34 c1 c2 c4 c5 c7 c8 c9 c25 c26 c33 c34 c35 c38 c39 c40
                          ·
                            refine h_iconst (v := 1) dX12_as_89 (by decide) ?_
                            refine h_goto (tgt := 94) dX12_as_90 (by decide) ?_
                            refine h_pick [1, 2] [(0, .ref 87), (1, .int a)] rfl ?_
                            exact k35 c1 c2 c4 c5 c7 c8 c9 c25 c26 c33 c34 c35 c38 c39 c40
        ·
          refine h_iload_n dX12_as_41 rfl 0 rfl ?_
          refine h_if_eq (tgt := 89) dX12_as_42 (by decide) (fun c41 => ?_) (fun c41 => ?_)
          ·
            refine h_iconst (v := 1) dX12_as_89 (by decide) ?_
            refine h_goto (tgt := 94) dX12_as_90 (by decide) ?_
            refine h_pick [1, 2] [(0, .ref 87), (1, .int a)] rfl ?_
            exact k36 c1 c2 c4 c5 c7 c8 c41
          ·
            refine h_iload_n dX12_as_45 rfl 3 rfl ?_
            refine h_iconst (v := 2) dX12_as_46 (by decide) ?_
            refine h_icmp_ne (tgt := 54) dX12_as_47 (by decide) (fun c42 => ?_) (fun c42 => ?_)
            ·
              refine h_iload_n dX12_as_54 rfl 3 rfl ?_
              refine h_iconst (v := 3) dX12_as_55 (by decide) ?_
              refine h_icmp_ne (tgt := 69) dX12_as_56 (by decide) (fun c43 => ?_) (fun c43 => ?_)
              ·
                refine h_iload_n dX12_as_69 rfl 3 rfl ?_
                refine h_iconst (v := 4) dX12_as_70 (by decide) ?_
                refine h_icmp_ne (tgt := 79) dX12_as_71 (by decide) (fun c44 => ?_) (fun c44 => ?_)
                ·
                  refine h_iload_n dX12_as_79 rfl 3 rfl ?_
                  refine h_iconst (v := 5) dX12_as_80 (by decide) ?_
                  refine h_icmp_ne (tgt := 93) dX12_as_81 (by decide) (fun c45 => ?_) (fun c45 => ?_)
                  ·
                    refine h_iconst (v := 0) dX12_as_93 (by decide) ?_
                    refine h_pick [1, 2] [(0, .ref 87), (1, .int a)] rfl ?_
                    exact k37 c1 c2 c4 c5 c7 c8 c41 c42 c43 c44 c45
                  ·
                    refine h_iload_n dX12_as_84 rfl 0 rfl ?_
                    refine h_iconst (v := 3) dX12_as_85 (by decide) ?_
                    refine h_icmp_ne (tgt := 93) dX12_as_86 (by decide) (fun c46 => ?_) (fun c46 => ?_)
                    ·
                      refine h_iconst (v := 0) dX12_as_93 (by decide) ?_
                      refine h_pick [1, 2] [(0, .ref 87), (1, .int a)] rfl ?_
                      exact k38 c1 c2 c4 c5 c7 c8 c41 c42 c43 c44 c45 c46
                    ·
                      refine h_iconst (v := 1) dX12_as_89 (by decide) ?_
                      refine h_goto (tgt := 94) dX12_as_90 (by decide) ?_
                      refine h_pick [1, 2] [(0, .ref 87), (1, .int a)] rfl ?_
                      exact k39 c1 c2 c4 c5 c7 c8 c41 c42 c43 c44 c45 c46
                ·
                  refine h_iload_n dX12_as_74 rfl 0 rfl ?_
                  refine h_iconst (v := 2) dX12_as_75 (by decide) ?_
                  refine h_icmp_eq (tgt := 89) dX12_as_76 (by decide) (fun c47 => ?_) (fun c47 => ?_)
                  ·
                    refine h_iconst (v := 1) dX12_as_89 (by decide) ?_
                    refine h_goto (tgt := 94) dX12_as_90 (by decide) ?_
                    refine h_pick [1, 2] [(0, .ref 87), (1, .int a)] rfl ?_
                    exact k40 c1 c2 c4 c5 c7 c8 c41 c42 c43 c44 c47
                  ·
                    refine h_iload_n dX12_as_79 rfl 3 rfl ?_
                    refine h_iconst (v := 5) dX12_as_80 (by decide) ?_
                    refine h_icmp_ne (tgt := 93) dX12_as_81 (by decide) (fun c48 => ?_) (fun c48 => ?_)
                    ·
                      refine h_iconst (v := 0) dX12_as_93 (by decide) ?_
                      refine h_pick [1, 2] [(0, .ref 87), (1, .int a)] rfl ?_
                      exact k41 c1 c2 c4 c5 c7 c8 c41 c42 c43 c44 c47 c48
                    ·
                      refine h_iload_n dX12_as_84 rfl 0 rfl ?_
                      refine h_iconst (v := 3) dX12_as_85 (by decide) ?_
                      refine h_icmp_ne (tgt := 93) dX12_as_86 (by decide) (fun c49 => ?_) (fun c49 => ?_)
                      ·
                        refine h_iconst (v := 0) dX12_as_93 (by decide) ?_
                        refine h_pick [1, 2] [(0, .ref 87), (1, .int a)] rfl ?_
                        exact k42 c1 c2 c4 c5 c7 c8 c41 c42 c43 c44 c47 c48 c49
                      ·
                        refine h_iconst (v := 1) dX12_as_89 (by decide) ?_
                        refine h_goto (tgt := 94) dX12_as_90 (by decide) ?_
                        refine h_pick [1, 2] [(0, .ref 87), (1, .int a)] rfl ?_
                        exact k43 c1 c2 c4 c5 c7 c8 c41 c42 c43 c44 c47 c48 c49
              ·
                refine h_iload_n dX12_as_59 rfl 0 rfl ?_
                refine h_iconst (v := 1) dX12_as_60 (by decide) ?_
                refine h_icmp_eq (tgt := 89) dX12_as_61 (by decide) (fun c50 => ?_) (fun c50 => ?_)
                ·
                  refine h_iconst (v := 1) dX12_as_89 (by decide) ?_
                  refine h_goto (tgt := 94) dX12_as_90 (by decide) ?_
                  refine h_pick [1, 2] [(0, .ref 87), (1, .int a)] rfl ?_
                  exact k44 c1 c2 c4 c5 c7 c8 c41 c42 c43 c50
                ·
                  refine h_iload_n dX12_as_64 rfl 0 rfl ?_
                  refine h_iconst (v := 2) dX12_as_65 (by decide) ?_
                  refine h_icmp_eq (tgt := 89) dX12_as_66 (by decide) (fun c51 => ?_) (fun c51 => ?_)
                  ·
                    refine h_iconst (v := 1) dX12_as_89 (by decide) ?_
                    refine h_goto (tgt := 94) dX12_as_90 (by decide) ?_
                    refine h_pick [1, 2] [(0, .ref 87), (1, .int a)] rfl ?_
                    exact k45 c1 c2 c4 c5 c7 c8 c41 c42 c43 c50 c51
                  ·
                    refine h_iload_n dX12_as_69 rfl 3 rfl ?_
                    refine h_iconst (v := 4) dX12_as_70 (by decide) ?_
                    refine h_icmp_ne (tgt := 79) dX12_as_71 (by decide) (fun c52 => ?_) (fun c52 => ?_)
                    ·
                      refine h_iload_n dX12_as_79 rfl 3 rfl ?_
                      refine h_iconst (v := 5) dX12_as_80 (by decide) ?_
                      refine h_icmp_ne (tgt := 93) dX12_as_81 (by decide) (fun c53 => ?_) (fun c53 => ?_)
                      ·
                        refine h_iconst (v := 0) dX12_as_93 (by decide) ?_
                        refine h_pick [1, 2] [(0, .ref 87), (1, .int a)] rfl ?_
                        exact k46 c1 c2 c4 c5 c7 c8 c41 c42 c43 c50 c51 c52 c53
                      ·
                        refine h_iload_n dX12_as_84 rfl 0 rfl ?_
                        refine h_iconst (v := 3) dX12_as_85 (by decide) ?_
                        refine h_icmp_ne (tgt := 93) dX12_as_86 (by decide) (fun c54 => ?_) (fun c54 => ?_)
                        ·
                          refine h_iconst (v := 0) dX12_as_93 (by decide) ?_
                          refine h_pick [1, 2] [(0, .ref 87), (1, .int a)] rfl ?_
                          exact k47 c1 c2 c4 c5 c7 c8 c41 c42 c43 c50 c51 c52 c53 c54
                        ·
                          refine h_iconst (v := 1) dX12_as_89 (by decide) ?_
                          refine h_goto (tgt := 94) dX12_as_90 (by decide) ?_
                          refine h_pick [1, 2] [(0, .ref 87), (1, .int a)] rfl ?_
                          exact k48 c1 c2 c4 c5 c7 c8 c41 c42 c43 c50 c51 c52 c53 c54
                    ·
                      refine h_iload_n dX12_as_74 rfl 0 rfl ?_
                      refine h_iconst (v := 2) dX12_as_75 (by decide) ?_
                      refine h_icmp_eq (tgt := 89) dX12_as_76 (by decide) (fun c55 => ?_) (fun c55 => ?_)
                      ·
                        refine h_iconst (v := 1) dX12_as_89 (by decide) ?_
                        refine h_goto (tgt := 94) dX12_as_90 (by decide) ?_
                        refine h_pick [1, 2] [(0, .ref 87), (1, .int a)] rfl ?_
                        exact k49 c1 c2 c4 c5 c7 c8 c41 c42 c43 c50 c51 c52 c55
                      ·
                        refine h_iload_n dX12_as_79 rfl 3 rfl ?_
                        refine h_iconst (v := 5) dX12_as_80 (by decide) ?_
                        refine h_icmp_ne (tgt := 93) dX12_as_81 (by decide) (fun c56 => ?_) (fun c56 => ?_)
                        ·
                          refine h_iconst (v := 0) dX12_as_93 (by decide) ?_
                          refine h_pick [1, 2] [(0, .ref 87), (1, .int a)] rfl ?_
                          exact k50 c1 c2 c4 c5 c7 c8 c41 c42 c43 c50 c51 c52 c55 c56
                        ·
                          refine h_iload_n dX12_as_84 rfl 0 rfl ?_
                          refine h_iconst (v := 3) dX12_as_85 (by decide) ?_
                          refine h_icmp_ne (tgt := 93) dX12_as_86 (by decide) (fun c57 => ?_) (fun c57 => ?_)
                          ·
                            refine h_iconst (v := 0) dX12_as_93 (by decide) ?_
                            refine h_pick [1, 2] [(0, .ref 87), (1, .int a)] rfl ?_
                            exact k51 c1 c2 c4 c5 c7 c8 c41 c42 c43 c50 c51 c52 c55 c56 c57
                          ·
                            refine h_iconst (v := 1) dX12_as_89 (by decide) ?_
                            refine h_goto (tgt := 94) dX12_as_90 (by decide) ?_
                            refine h_pick [1, 2] [(0, .ref 87), (1, .int a)] rfl ?_
                            exact k52 c1 c2 c4 c5 c7 c8 c41 c42 c43 c50 c51 c52 c55 c56 c57
            ·
              refine h_iload_n dX12_as_50 rfl 0 rfl ?_
              refine h_if_ne (tgt := 89) dX12_as_51 (by decide) (fun c58 => ?_) (fun c58 => ?_)
              ·
                refine h_iconst (v := 1) dX12_as_89 (by decide) ?_
                refine h_goto (tgt := 94) dX12_as_90 (by decide) ?_
                refine h_pick [1, 2] [(0, .ref 87), (1, .int a)] rfl ?_
                exact k53 c1 c2 c4 c5 c7 c8 c41 c42 c58
              ·
                refine h_iload_n dX12_as_54 rfl 3 rfl ?_
                refine h_iconst (v := 3) dX12_as_55 (by decide) ?_
                refine h_icmp_ne (tgt := 69) dX12_as_56 (by decide) (fun c59 => ?_) (fun c59 => ?_)
                ·
                  refine h_iload_n dX12_as_69 rfl 3 rfl ?_
                  refine h_iconst (v := 4) dX12_as_70 (by decide) ?_
                  refine h_icmp_ne (tgt := 79) dX12_as_71 (by decide) (fun c60 => ?_) (fun c60 => ?_)
                  ·
                    refine h_iload_n dX12_as_79 rfl 3 rfl ?_
                    refine h_iconst (v := 5) dX12_as_80 (by decide) ?_
                    refine h_icmp_ne (tgt := 93) dX12_as_81 (by decide) (fun c61 => ?_) (fun c61 => ?_)
                    ·
                      refine h_iconst (v := 0) dX12_as_93 (by decide) ?_
                      refine h_pick [1, 2] [(0, .ref 87), (1, .int a)] rfl ?_
                      exact k54 c1 c2 c4 c5 c7 c8 c41 c42 c58 c59 c60 c61
                    ·
                      refine h_iload_n dX12_as_84 rfl 0 rfl ?_
                      refine h_iconst (v := 3) dX12_as_85 (by decide) ?_
                      refine h_icmp_ne (tgt := 93) dX12_as_86 (by decide) (fun c62 => ?_) (fun c62 => ?_)
                      ·
                        refine h_iconst (v := 0) dX12_as_93 (by decide) ?_
                        refine h_pick [1, 2] [(0, .ref 87), (1, .int a)] rfl ?_
                        exact k55 c1 c2 c4 c5 c7 c8 c41 c42 c58 c59 c60 c61 c62
                      ·
                        refine h_iconst (v := 1) dX12_as_89 (by decide) ?_
                        refine h_goto (tgt := 94) dX12_as_90 (by decide) ?_
                        refine h_pick [1, 2] [(0, .ref 87), (1, .int a)] rfl ?_
                        exact k56 c1 c2 c4 c5 c7 c8 c41 c42 c58 c59 c60 c61 c62
                  ·
                    refine h_iload_n dX12_as_74 rfl 0 rfl ?_
                    refine h_iconst (v := 2) dX12_as_75 (by decide) ?_
                    refine h_icmp_eq (tgt := 89) dX12_as_76 (by decide) (fun c63 => ?_) (fun c63 => ?_)
                    ·
                      refine h_iconst (v := 1) dX12_as_89 (by decide) ?_
                      refine h_goto (tgt := 94) dX12_as_90 (by decide) ?_
                      refine h_pick [1, 2] [(0, .ref 87), (1, .int a)] rfl ?_
                      exact k57 c1 c2 c4 c5 c7 c8 c41 c42 c58 c59 c60 c63
                    ·
                      refine h_iload_n dX12_as_79 rfl 3 rfl ?_
                      refine h_iconst (v := 5) dX12_as_80 (by decide) ?_
                      refine h_icmp_ne (tgt := 93) dX12_as_81 (by decide) (fun c64 => ?_) (fun c64 => ?_)
                      ·
                        refine h_iconst (v := 0) dX12_as_93 (by decide) ?_
                        refine h_pick [1, 2] [(0, .ref 87), (1, .int a)] rfl ?_
                        exact k58 c1 c2 c4 c5 c7 c8 c41 c42 c58 c59 c60 c63 c64
                      ·
                        refine h_iload_n dX12_as_84 rfl 0 rfl ?_
                        refine h_iconst (v := 3) dX12_as_85 (by decide) ?_
                        refine h_icmp_ne (tgt := 93) dX12_as_86 (by decide) (fun c65 => ?_) (fun c65 => ?_)
                        ·
                          refine h_iconst (v := 0) dX12_as_93 (by decide) ?_
                          refine h_pick [1, 2] [(0, .ref 87), (1, .int a)] rfl ?_
                          exact k59 c1 c2 c4 c5 c7 c8 c41 c42 c58 c59 c60 c63 c64 c65
                        ·
                          refine h_iconst (v := 1) dX12_as_89 (by decide) ?_
                          refine h_goto (tgt := 94) dX12_as_90 (by decide) ?_
                          refine h_pick [1, 2] [(0, .ref 87), (1, .int a)] rfl ?_
                          exact k60 c1 c2 c4 c5 c7 c8 c41 c42 c58 c59 c60 c63 c64 c65
                ·
                  refine h_iload_n dX12_as_59 rfl 0 rfl ?_
                  refine h_iconst (v := 1) dX12_as_60 (by decide) ?_
                  refine h_icmp_eq (tgt := 89) dX12_as_61 (by decide) (fun c66 => ?_) (fun c66 => ?_)
                  ·
                    refine h_iconst (v := 1) dX12_as_89 (by decide) ?_
                    refine h_goto (tgt := 94) dX12_as_90 (by decide) ?_
                    refine h_pick [1, 2] [(0, .ref 87), (1, .int a)] rfl ?_
                    exact k61 c1 c2 c4 c5 c7 c8 c41 c42 c58 c59 c66
                  ·
                    refine h_iload_n dX12_as_64 rfl 0 rfl ?_
                    refine h_iconst (v := 2) dX12_as_65 (by decide) ?_
                    refine h_icmp_eq (tgt := 89) dX12_as_66 (by decide) (fun c67 => ?_) (fun c67 => ?_)
                    ·
                      refine h_iconst (v := 1) dX12_as_89 (by decide) ?_
                      refine h_goto (tgt := 94) dX12_as_90 (by decide) ?_
                      refine h_pick [1, 2] [(0, .ref 87), (1, .int a)] rfl ?_
                      exact k62 c1 c2 c4 c5 c7 c8 c41 c42 c58 c59 c66 c67
                    ·
                      refine h_iload_n dX12_as_69 rfl 3 rfl ?_
                      refine h_iconst (v := 4) dX12_as_70 (by decide) ?_
                      refine h_icmp_ne (tgt := 79) dX12_as_71 (by decide) (fun c68 => ?_) (fun c68 => ?_)
                      ·
                        refine h_iload_n dX12_as_79 rfl 3 rfl ?_
                        refine h_iconst (v := 5) dX12_as_80 (by decide) ?_
                        refine h_icmp_ne (tgt := 93) dX12_as_81 (by decide) (fun c69 => ?_) (fun c69 => ?_)
                        ·
                          refine h_iconst (v := 0) dX12_as_93 (by decide) ?_
                          refine h_pick [1, 2] [(0, .ref 87), (1, .int a)] rfl ?_
                          exact k63 c1 c2 c4 c5 c7 c8 c41 c42 c58 c59 c66 c67 c68 c69
                        ·
                          refine h_iload_n dX12_as_84 rfl 0 rfl ?_
                          refine h_iconst (v := 3) dX12_as_85 (by decide) ?_
                          refine h_icmp_ne (tgt := 93) dX12_as_86 (by decide) (fun c70 => ?_) (fun c70 => ?_)
                          ·
                            refine h_iconst (v := 0) dX12_as_93 (by decide) ?_
                            refine h_pick [1, 2] [(0, .ref 87), (1, .int a)] rfl ?_
                            exact k64 c1 c2 c4 c5 c7 c8 c41 c42 c58 c59 c66 c67 c68 c69 c70
                          ·
                            refine h_iconst (v := 1) dX12_as_89 (by decide) ?_
                            refine h_goto (tgt := 94) dX12_as_90 (by decide) ?_
                            refine h_pick [1, 2] [(0, .ref 87), (1, .int a)] rfl ?_
                            exact k65 c1 c2 c4 c5 c7 c8 c41 c42 c58 c59 c66 c67 c68 c69 c70
                      ·
                        refine h_iload_n dX12_as_74 rfl 0 rfl ?_
                        refine h_iconst (v := 2) dX12_as_75 (by decide) ?_
                        refine h_icmp_eq (tgt := 89) dX12_as_76 (by decide) (fun c71 => ?_) (fun c71 => ?_)
                        ·
                          refine h_iconst (v := 1) dX12_as_89 (by decide) ?_
                          refine h_goto (tgt := 94) dX12_as_90 (by decide) ?_
                          refine h_pick [1, 2] [(0, .ref 87), (1, .int a)] rfl ?_
                          exact k66 c1 c2 c4 c5 c7 c8 c41 c42 c58 c59 c66 c67 c68 c71
                        ·
                          refine h_iload_n dX12_as_79 rfl 3 rfl ?_
                          refine h_iconst (v := 5) dX12_as_80 (by decide) ?_
                          refine h_icmp_ne (tgt := 93) dX12_as_81 (by decide) (fun c72 => ?_) (fun c72 => ?_)
                          ·
                            refine h_iconst (v := 0) dX12_as_93 (by decide) ?_
                            refine h_pick [1, 2] [(0, .ref 87), (1, .int a)] rfl ?_
                            exact k67 c1 c2 c4 c5 c7 c8 c41 c42 c58 c59 c66 c67 c68 c71 c72
                          ·
                            refine h_iload_n dX12_as_84 rfl 0 rfl ?_
                            refine h_iconst (v := 3) dX12_as_85 (by decide) ?_
                            refine h_icmp_ne (tgt := 93) dX12_as_86 (by decide) (fun c73 => ?_) (fun c73 => ?_)
                            ·
                              refine h_iconst (v := 0) dX12_as_93 (by decide) ?_
                              refine h_pick [1, 2] [(0, .ref 87), (1, .int a)] rfl ?_
                              exact k68 c1 c2 c4 c5 c7 c8 c41 c42 c58 c59 c66 c67 c68 c71 c72 c73
                            ·
                              refine h_iconst (v := 1) dX12_as_89 (by decide) ?_
                              refine h_goto (tgt := 94) dX12_as_90 (by decide) ?_
                              refine h_pick [1, 2] [(0, .ref 87), (1, .int a)] rfl ?_
                              exact k69 c1 c2 c4 c5 c7 c8 c41 c42 c58 c59 c66 c67 c68 c71 c72 c73
    ·
      refine h_if_ne (tgt := 25) dX12_as_19 (by decide) (fun c => absurd c (by decide)) (fun _ => ?_)
      refine h_bipush (v := (-3)) dX12_as_22 (by decide) ?_
      exact h_iret dX12_as_24 rfl (k70 c1 c2 c6)
  ·
    refine h_if_ne (tgt := 10) dX12_as_4 (by decide) (fun c => absurd c (by decide)) (fun _ => ?_)
    refine h_bipush (v := (-2)) dX12_as_7 (by decide) ?_
    exact h_iret dX12_as_9 rfl (k71 c3)
set_option maxHeartbeats 1000000 in
set_option maxRecDepth 20000 in
theorem sg_X12_as_94 {E : HEn} {d : Nat} {Q : Option Value → HIh → Prop} {I : HIh} {x1 : Int32} {s0 : Int32}
    (k1 : s0 = 0 → Q (some (.int (-4))) I)
    (k2 : ¬ s0 = 0 → HCall E me_X12_byHabit (d + 3) [.ref 87, .int 0, .int x1] I (fun v9 J => HGo E (mF E (d + 4) Q) me_X12_as 107 [] (v9.toList ++ []) J))
    : HGo E (mF E (d + 4) Q) me_X12_as 94 [(0, .ref 87), (1, .int x1)] [.int s0] I := by
  refine h_istore (L' := [(4, .int s0), (0, .ref 87), (1, .int x1)]) dX12_as_94 (by decide) rfl ?_
  refine h_iload dX12_as_96 0 rfl ?_
  refine h_if_eq (tgt := 110) dX12_as_98 (by decide) (fun c1 => ?_) (fun c1 => ?_)
  ·
    refine h_bipush (v := (-4)) dX12_as_110 (by decide) ?_
    exact h_iret dX12_as_112 rfl (k1 c1)
  ·
    refine h_aload_n dX12_as_101 rfl 1 rfl ?_
    refine h_iconst (v := 0) dX12_as_102 (by decide) ?_
    refine h_iload_n dX12_as_103 rfl 2 rfl ?_
    refine h_pick [] [] rfl ?_
    refine h_invV (As := [.int 0, .int x1]) (st := []) dX12_as_104 lk_X12_203 (h_room (by decide)) nl_87 zk_87 (by decide) rfl rfl rfl (Nat.le_of_ble_eq_true rfl) ?_
    exact k2 c1
set_option maxHeartbeats 1000000 in
set_option maxRecDepth 20000 in
theorem sg_X12_as_107 {E : HEn} {d : Nat} {Q : Option Value → HIh → Prop} {I : HIh} {s0 : Int32}
    (k1 : Q (some (.int s0)) I)
    : HGo E (mF E (d + 4) Q) me_X12_as 107 [] [.int s0] I := by
  refine h_goto (tgt := 112) dX12_as_107 (by decide) ?_
  exact h_iret dX12_as_112 rfl (k1)
set_option maxHeartbeats 1000000 in
set_option maxRecDepth 20000 in
theorem sg_X12_layGame_0 {E : HEn} {d : Nat} {Q : Option Value → HIh → Prop} {I : HIh} 
    (k1 : HCall E me_X12_copy (d + 3) [.ref 87, .int 0, .int 3] I (fun v9 J => HGo E (mF E (d + 4) Q) me_X12_layGame 11 [(0, .ref 87), (1, .int ((I 87 13) - (I 88 30)))] (v9.toList ++ []) J))
    : HGo E (mF E (d + 4) Q) me_X12_layGame 0 [(0, .ref 87)] [] I := by
  refine h_aload_n dX12_layGame_0 rfl 0 rfl ?_
  refine h_invV (As := []) (st := []) dX12_layGame_1 lk_X12_213 (h_room (by decide)) nl_87 zk_87 (by decide) rfl rfl rfl (Nat.le_of_ble_eq_true rfl) ?_
  refine c_X12_visitsLeft ?_
  refine h_istore_n (L' := [(1, .int ((I 87 13) - (I 88 30))), (0, .ref 87)]) dX12_layGame_4 rfl (by decide) rfl ?_
  refine h_aload_n dX12_layGame_5 rfl 1 rfl ?_
  refine h_iconst (v := 0) dX12_layGame_6 (by decide) ?_
  refine h_iconst (v := 3) dX12_layGame_7 (by decide) ?_
  refine h_pick [1, 0] [(0, .ref 87), (1, .int ((I 87 13) - (I 88 30)))] rfl ?_
  refine h_invV (As := [.int 0, .int 3]) (st := []) dX12_layGame_8 lk_X12_221 (h_room (by decide)) nl_87 zk_87 (by decide) rfl rfl rfl (Nat.le_of_ble_eq_true rfl) ?_
  exact k1
set_option maxHeartbeats 1000000 in
set_option maxRecDepth 20000 in
theorem sg_X12_layGame_11 {E : HEn} {d : Nat} {Q : Option Value → HIh → Prop} {I : HIh} {x1 : Int32}
    (k1 : HGo E (mF E (d + 4) Q) me_X12_layGame 20 [(0, .ref 87), (1, .int x1), (2, .int 0)] [] (setI I 98 (upd (I 98) 0 0)))
    : HGo E (mF E (d + 4) Q) me_X12_layGame 11 [(0, .ref 87), (1, .int x1)] [] I := by
  refine h_aload_n dX12_layGame_11 rfl 0 rfl ?_
  refine gf_10_22 dX12_layGame_12 hl_X12_45 nl_87 zk_87 zp_87_22 ?_
  refine h_iconst (v := 0) dX12_layGame_15 (by decide) ?_
  refine h_iconst (v := 0) dX12_layGame_16 (by decide) ?_
  refine h_iast dX12_layGame_17 nl_98 zk_98 (vp_lit (by rw [zn_98]; decide)) ?_
  refine h_iconst (v := 0) dX12_layGame_18 (by decide) ?_
  refine h_istore_n (L' := [(2, .int 0), (0, .ref 87), (1, .int x1)]) dX12_layGame_19 rfl (by decide) rfl ?_
  refine h_pick [1, 2, 0] [(0, .ref 87), (1, .int x1), (2, .int 0)] rfl ?_
  exact k1
set_option maxHeartbeats 1000000 in
set_option maxRecDepth 20000 in
theorem sg_X12_layGame_20 {E : HEn} {d : Nat} {Q : Option Value → HIh → Prop} {I : HIh} {x1 : Int32} {x2 : Int32}
    (k1 : x2 < 0 → Q none I)
    (k2 : ¬ x2 < 0 → x1 ≤ x2 → ¬ x2 = x1 → vp_in x2 8)
    (k3 : ¬ x2 < 0 → x1 ≤ x2 → ¬ x2 = x1 → (I 87 6) < (I 98 x2.toNatClampNeg) → (x2 + (-1)) < 0 → HGo E (mF E (d + 4) Q) me_X12_layGame 20 [(0, .ref 87), (1, .int x1), (2, .int (x2 + (-1)))] [] I)
    (k4 : ¬ x2 < 0 → x1 ≤ x2 → ¬ x2 = x1 → (I 87 6) < (I 98 x2.toNatClampNeg) → ¬ (x2 + (-1)) < 0 → vp_in ((I 88 30) + (x2 + (-1))) 24)
    (k5 : ¬ x2 < 0 → x1 ≤ x2 → ¬ x2 = x1 → (I 87 6) < (I 98 x2.toNatClampNeg) → ¬ (x2 + (-1)) < 0 → HCall E me_X12_takeUp (d + 3) [.ref 87, .int (x2 + (-1)), .int (I 96 (((I 88 30) + (x2 + (-1))).toNatClampNeg))] I (fun v9 J => HGo E (mF E (d + 4) Q) me_X12_layGame 161 [(0, .ref 87), (1, .int x1), (2, .int (x2 + (-1)))] (v9.toList ++ []) J))
    (k6 : ¬ x2 < 0 → x1 ≤ x2 → ¬ x2 = x1 → ¬ (I 87 6) < (I 98 x2.toNatClampNeg) → HCall E me_X12_opens (d + 3) [.ref 87, .int x2, .int 0] I (fun v9 J => HGo E (mF E (d + 4) Q) me_X12_layGame 113 [(0, .ref 87), (1, .int x1), (2, .int x2)] (v9.toList ++ []) J))
    (k7 : ¬ x2 < 0 → x1 ≤ x2 → x2 = x1 → HGo E (mF E (d + 4) Q) me_X12_layGame 56 [(0, .ref 87), (1, .int x1), (2, .int x2), (4, .int 0)] [] I)
    (k8 : ¬ x2 < 0 → ¬ x1 ≤ x2 → vp_in ((I 88 30) + x2) 24)
    (k9 : ¬ x2 < 0 → ¬ x1 ≤ x2 → ¬ x2 = x1 → vp_in x2 8)
    (k10 : ¬ x2 < 0 → ¬ x1 ≤ x2 → ¬ x2 = x1 → (I 87 6) < (I 98 x2.toNatClampNeg) → (x2 + (-1)) < 0 → HGo E (mF E (d + 4) Q) me_X12_layGame 20 [(0, .ref 87), (1, .int x1), (2, .int (x2 + (-1)))] [] I)
    (k11 : ¬ x2 < 0 → ¬ x1 ≤ x2 → ¬ x2 = x1 → (I 87 6) < (I 98 x2.toNatClampNeg) → ¬ (x2 + (-1)) < 0 → vp_in ((I 88 30) + (x2 + (-1))) 24)
    (k12 : ¬ x2 < 0 → ¬ x1 ≤ x2 → ¬ x2 = x1 → (I 87 6) < (I 98 x2.toNatClampNeg) → ¬ (x2 + (-1)) < 0 → HCall E me_X12_takeUp (d + 3) [.ref 87, .int (x2 + (-1)), .int (I 96 (((I 88 30) + (x2 + (-1))).toNatClampNeg))] I (fun v9 J => HGo E (mF E (d + 4) Q) me_X12_layGame 161 [(0, .ref 87), (1, .int x1), (2, .int (x2 + (-1)))] (v9.toList ++ []) J))
    (k13 : ¬ x2 < 0 → ¬ x1 ≤ x2 → ¬ x2 = x1 → ¬ (I 87 6) < (I 98 x2.toNatClampNeg) → HCall E me_X12_opens (d + 3) [.ref 87, .int x2, .int (I 96 (((I 88 30) + x2).toNatClampNeg))] I (fun v9 J => HGo E (mF E (d + 4) Q) me_X12_layGame 113 [(0, .ref 87), (1, .int x1), (2, .int x2)] (v9.toList ++ []) J))
    (k14 : ¬ x2 < 0 → ¬ x1 ≤ x2 → x2 = x1 → HGo E (mF E (d + 4) Q) me_X12_layGame 56 [(0, .ref 87), (1, .int x1), (2, .int x2), (4, .int 0)] [] I)
    : HGo E (mF E (d + 4) Q) me_X12_layGame 20 [(0, .ref 87), (1, .int x1), (2, .int x2)] [] I := by
  refine h_iload_n dX12_layGame_20 rfl 2 rfl ?_
  refine h_if_lt (tgt := 174) dX12_layGame_21 (by decide) (fun c1 => ?_) (fun c1 => ?_)
  ·
    exact h_vret dX12_layGame_174 rfl (k1 c1)
  ·
    refine h_iload_n dX12_layGame_24 rfl 2 rfl ?_
    refine h_iload_n dX12_layGame_25 rfl 1 rfl ?_
    refine h_icmp_ge (tgt := 46) dX12_layGame_26 (by decide) (fun c2 => ?_) (fun c2 => ?_)
    ·
      refine h_iconst (v := 0) dX12_layGame_46 (by decide) ?_
      refine h_istore_n (L' := [(3, .int 0), (0, .ref 87), (1, .int x1), (2, .int x2)]) dX12_layGame_47 rfl (by decide) rfl ?_
      refine h_iload_n dX12_layGame_48 rfl 3 rfl ?_
      refine h_iload_n dX12_layGame_49 rfl 2 rfl ?_
      refine h_icmp_ne (tgt := 94) dX12_layGame_50 (by decide) (fun c3 => ?_) (fun c3 => ?_)
      ·
        refine h_aload_n dX12_layGame_94 rfl 1 rfl ?_
        refine gf_10_22 dX12_layGame_95 hl_X12_45 nl_87 zk_87 zp_87_22 ?_
        refine h_iload_n dX12_layGame_98 rfl 3 rfl ?_
        refine h_iald dX12_layGame_99 nl_98 zk_98 (by rw [zn_98]; exact k2 c1 c2 c3) ?_
        refine h_aload_n dX12_layGame_100 rfl 1 rfl ?_
        refine gf_10_6 dX12_layGame_101 hl_X12_23 nl_87 zk_87 ?_
        refine h_icmp_gt (tgt := 135) dX12_layGame_104 (by decide) (fun c4 => ?_) (fun c4 => ?_)
        ·
          refine h_iinc (v := (x2 + (-1))) (L' := [(2, .int (x2 + (-1))), (3, .int 0), (0, .ref 87), (1, .int x1)]) dX12_layGame_135 3 rfl rfl (by decide) rfl ?_
          refine h_iload_n dX12_layGame_138 rfl 0 rfl ?_
          refine h_if_lt (tgt := 171) dX12_layGame_139 (by decide) (fun c5 => ?_) (fun c5 => ?_)
          ·
            refine h_goto (tgt := 20) dX12_layGame_171 (by decide) ?_
            refine h_pick [2, 3, 0] [(0, .ref 87), (1, .int x1), (2, .int (x2 + (-1)))] rfl ?_
            exact k3 c1 c2 c3 c4 c5
          ·
            refine h_aload_n dX12_layGame_142 rfl 2 rfl ?_
            refine h_iload_n dX12_layGame_143 rfl 0 rfl ?_
            refine h_aload_n dX12_layGame_144 rfl 2 rfl ?_
            refine gf_10_12 dX12_layGame_145 hl_X12_39 nl_87 zk_87 zp_87_12 ?_
            refine h_aload_n dX12_layGame_148 rfl 2 rfl ?_
            refine gf_10_0 dX12_layGame_149 hl_X12_7 nl_87 zk_87 zp_87_0 ?_
            refine h_bipush (v := 30) dX12_layGame_152 (by decide) ?_
            refine h_iald dX12_layGame_154 nl_88 zk_88 (vp_lit (by rw [zn_88]; decide)) ?_
            refine h_iload_n dX12_layGame_155 rfl 0 rfl ?_
            refine h_iadd dX12_layGame_156 ?_
            refine h_iald dX12_layGame_157 nl_96 zk_96 (by rw [zn_96]; exact k4 c1 c2 c3 c4 c5) ?_
            refine h_pick [2, 3, 0] [(0, .ref 87), (1, .int x1), (2, .int (x2 + (-1)))] rfl ?_
            refine h_invV (As := [.int (x2 + (-1)), .int (I 96 (((I 88 30) + (x2 + (-1))).toNatClampNeg))]) (st := []) dX12_layGame_158 lk_X12_244 (h_room (by decide)) nl_87 zk_87 (by decide) rfl rfl rfl (Nat.le_of_ble_eq_true rfl) ?_
            exact k5 c1 c2 c3 c4 c5
        ·
          refine h_aload_n dX12_layGame_107 rfl 1 rfl ?_
          refine h_iload_n dX12_layGame_108 rfl 3 rfl ?_
          refine h_iload_n dX12_layGame_109 rfl 0 rfl ?_
          refine h_pick [1, 2, 3] [(0, .ref 87), (1, .int x1), (2, .int x2)] rfl ?_
          refine h_invV (As := [.int x2, .int 0]) (st := []) dX12_layGame_110 lk_X12_241 (h_room (by decide)) nl_87 zk_87 (by decide) rfl rfl rfl (Nat.le_of_ble_eq_true rfl) ?_
          exact k6 c1 c2 c3 c4
      ·
        refine h_iconst (v := 0) dX12_layGame_53 (by decide) ?_
        refine h_istore (L' := [(4, .int 0), (3, .int 0), (0, .ref 87), (1, .int x1), (2, .int x2)]) dX12_layGame_54 (by decide) rfl ?_
        refine h_pick [2, 3, 4, 0] [(0, .ref 87), (1, .int x1), (2, .int x2), (4, .int 0)] rfl ?_
        exact k7 c1 c2 c3
    ·
      refine h_aload_n dX12_layGame_29 rfl 0 rfl ?_
      refine gf_10_12 dX12_layGame_30 hl_X12_39 nl_87 zk_87 zp_87_12 ?_
      refine h_aload_n dX12_layGame_33 rfl 0 rfl ?_
      refine gf_10_0 dX12_layGame_34 hl_X12_7 nl_87 zk_87 zp_87_0 ?_
      refine h_bipush (v := 30) dX12_layGame_37 (by decide) ?_
      refine h_iald dX12_layGame_39 nl_88 zk_88 (vp_lit (by rw [zn_88]; decide)) ?_
      refine h_iload_n dX12_layGame_40 rfl 2 rfl ?_
      refine h_iadd dX12_layGame_41 ?_
      refine h_iald dX12_layGame_42 nl_96 zk_96 (by rw [zn_96]; exact k8 c1 c2) ?_
      refine h_goto (tgt := 47) dX12_layGame_43 (by decide) ?_
      refine h_istore_n (L' := [(3, .int (I 96 (((I 88 30) + x2).toNatClampNeg))), (0, .ref 87), (1, .int x1), (2, .int x2)]) dX12_layGame_47 rfl (by decide) rfl ?_
      refine h_iload_n dX12_layGame_48 rfl 3 rfl ?_
      refine h_iload_n dX12_layGame_49 rfl 2 rfl ?_
      refine h_icmp_ne (tgt := 94) dX12_layGame_50 (by decide) (fun c6 => ?_) (fun c6 => ?_)
      ·
        refine h_aload_n dX12_layGame_94 rfl 1 rfl ?_
        refine gf_10_22 dX12_layGame_95 hl_X12_45 nl_87 zk_87 zp_87_22 ?_
        refine h_iload_n dX12_layGame_98 rfl 3 rfl ?_
        refine h_iald dX12_layGame_99 nl_98 zk_98 (by rw [zn_98]; exact k9 c1 c2 c6) ?_
        refine h_aload_n dX12_layGame_100 rfl 1 rfl ?_
        refine gf_10_6 dX12_layGame_101 hl_X12_23 nl_87 zk_87 ?_
        refine h_icmp_gt (tgt := 135) dX12_layGame_104 (by decide) (fun c7 => ?_) (fun c7 => ?_)
        ·
          refine h_iinc (v := (x2 + (-1))) (L' := [(2, .int (x2 + (-1))), (3, .int (I 96 (((I 88 30) + x2).toNatClampNeg))), (0, .ref 87), (1, .int x1)]) dX12_layGame_135 3 rfl rfl (by decide) rfl ?_
          refine h_iload_n dX12_layGame_138 rfl 0 rfl ?_
          refine h_if_lt (tgt := 171) dX12_layGame_139 (by decide) (fun c8 => ?_) (fun c8 => ?_)
          ·
            refine h_goto (tgt := 20) dX12_layGame_171 (by decide) ?_
            refine h_pick [2, 3, 0] [(0, .ref 87), (1, .int x1), (2, .int (x2 + (-1)))] rfl ?_
            exact k10 c1 c2 c6 c7 c8
          ·
            refine h_aload_n dX12_layGame_142 rfl 2 rfl ?_
            refine h_iload_n dX12_layGame_143 rfl 0 rfl ?_
            refine h_aload_n dX12_layGame_144 rfl 2 rfl ?_
            refine gf_10_12 dX12_layGame_145 hl_X12_39 nl_87 zk_87 zp_87_12 ?_
            refine h_aload_n dX12_layGame_148 rfl 2 rfl ?_
            refine gf_10_0 dX12_layGame_149 hl_X12_7 nl_87 zk_87 zp_87_0 ?_
            refine h_bipush (v := 30) dX12_layGame_152 (by decide) ?_
            refine h_iald dX12_layGame_154 nl_88 zk_88 (vp_lit (by rw [zn_88]; decide)) ?_
            refine h_iload_n dX12_layGame_155 rfl 0 rfl ?_
            refine h_iadd dX12_layGame_156 ?_
            refine h_iald dX12_layGame_157 nl_96 zk_96 (by rw [zn_96]; exact k11 c1 c2 c6 c7 c8) ?_
            refine h_pick [2, 3, 0] [(0, .ref 87), (1, .int x1), (2, .int (x2 + (-1)))] rfl ?_
            refine h_invV (As := [.int (x2 + (-1)), .int (I 96 (((I 88 30) + (x2 + (-1))).toNatClampNeg))]) (st := []) dX12_layGame_158 lk_X12_244 (h_room (by decide)) nl_87 zk_87 (by decide) rfl rfl rfl (Nat.le_of_ble_eq_true rfl) ?_
            exact k12 c1 c2 c6 c7 c8
        ·
          refine h_aload_n dX12_layGame_107 rfl 1 rfl ?_
          refine h_iload_n dX12_layGame_108 rfl 3 rfl ?_
          refine h_iload_n dX12_layGame_109 rfl 0 rfl ?_
          refine h_pick [1, 2, 3] [(0, .ref 87), (1, .int x1), (2, .int x2)] rfl ?_
          refine h_invV (As := [.int x2, .int (I 96 (((I 88 30) + x2).toNatClampNeg))]) (st := []) dX12_layGame_110 lk_X12_241 (h_room (by decide)) nl_87 zk_87 (by decide) rfl rfl rfl (Nat.le_of_ble_eq_true rfl) ?_
          exact k13 c1 c2 c6 c7
      ·
        refine h_iconst (v := 0) dX12_layGame_53 (by decide) ?_
        refine h_istore (L' := [(4, .int 0), (3, .int (I 96 (((I 88 30) + x2).toNatClampNeg))), (0, .ref 87), (1, .int x1), (2, .int x2)]) dX12_layGame_54 (by decide) rfl ?_
        refine h_pick [2, 3, 4, 0] [(0, .ref 87), (1, .int x1), (2, .int x2), (4, .int 0)] rfl ?_
        exact k14 c1 c2 c6
set_option maxHeartbeats 1000000 in
set_option maxRecDepth 20000 in
theorem sg_X12_layGame_161 {E : HEn} {d : Nat} {Q : Option Value → HIh → Prop} {I : HIh} {x1 : Int32} {x2 : Int32}
    (k1 : vp_in x2 8)
    (k2 : HGo E (mF E (d + 4) Q) me_X12_layGame 20 [(0, .ref 87), (1, .int x1), (2, .int x2)] [] (setI I 98 (upd (I 98) x2.toNatClampNeg ((I 98 x2.toNatClampNeg) + 1))))
    : HGo E (mF E (d + 4) Q) me_X12_layGame 161 [(0, .ref 87), (1, .int x1), (2, .int x2)] [] I := by
  refine h_aload_n dX12_layGame_161 rfl 0 rfl ?_
  refine gf_10_22 dX12_layGame_162 hl_X12_45 nl_87 zk_87 zp_87_22 ?_
  refine h_iload_n dX12_layGame_165 rfl 2 rfl ?_
  refine h_dup2 dX12_layGame_166 rfl rfl ?_
  refine h_iald dX12_layGame_167 nl_98 zk_98 (by rw [zn_98]; exact k1) ?_
  refine h_iconst (v := 1) dX12_layGame_168 (by decide) ?_
  refine h_iadd dX12_layGame_169 ?_
  refine h_iast dX12_layGame_170 nl_98 zk_98 (by rw [zn_98]; exact k1) ?_
  refine h_goto (tgt := 20) dX12_layGame_171 (by decide) ?_
  exact k2
set_option maxHeartbeats 1000000 in
set_option maxRecDepth 20000 in
theorem sg_X12_layGame_113 {E : HEn} {d : Nat} {Q : Option Value → HIh → Prop} {I : HIh} {x1 : Int32} {x2 : Int32} {s0 : Int32}
    (k1 : s0 = 0 → vp_in x2 8)
    (k2 : s0 = 0 → HGo E (mF E (d + 4) Q) me_X12_layGame 20 [(0, .ref 87), (1, .int x1), (2, .int x2)] [] (setI I 98 (upd (I 98) x2.toNatClampNeg ((I 98 x2.toNatClampNeg) + 1))))
    (k3 : ¬ s0 = 0 → HGo E (mF E (d + 4) Q) me_X12_layGame 20 [(0, .ref 87), (1, .int x1), (2, .int (x2 + 1))] [] I)
    : HGo E (mF E (d + 4) Q) me_X12_layGame 113 [(0, .ref 87), (1, .int x1), (2, .int x2)] [.int s0] I := by
  refine h_if_eq (tgt := 122) dX12_layGame_113 (by decide) (fun c1 => ?_) (fun c1 => ?_)
  ·
    refine h_aload_n dX12_layGame_122 rfl 0 rfl ?_
    refine gf_10_22 dX12_layGame_123 hl_X12_45 nl_87 zk_87 zp_87_22 ?_
    refine h_iload_n dX12_layGame_126 rfl 2 rfl ?_
    refine h_dup2 dX12_layGame_127 rfl rfl ?_
    refine h_iald dX12_layGame_128 nl_98 zk_98 (by rw [zn_98]; exact k1 c1) ?_
    refine h_iconst (v := 1) dX12_layGame_129 (by decide) ?_
    refine h_iadd dX12_layGame_130 ?_
    refine h_iast dX12_layGame_131 nl_98 zk_98 (by rw [zn_98]; exact k1 c1) ?_
    refine h_goto (tgt := 20) dX12_layGame_132 (by decide) ?_
    exact k2 c1
  ·
    refine h_iinc (v := (x2 + 1)) (L' := [(2, .int (x2 + 1)), (0, .ref 87), (1, .int x1)]) dX12_layGame_116 2 rfl rfl (by decide) rfl ?_
    refine h_goto (tgt := 20) dX12_layGame_119 (by decide) ?_
    refine h_pick [1, 2, 0] [(0, .ref 87), (1, .int x1), (2, .int (x2 + 1))] rfl ?_
    exact k3 c1
set_option maxHeartbeats 1000000 in
set_option maxRecDepth 20000 in
theorem sg_X12_layGame_56 {E : HEn} {d : Nat} {Q : Option Value → HIh → Prop} {I : HIh} {x1 : Int32} {x2 : Int32} {x4 : Int32}
    (k1 : 4 ≤ x4 → (x2 + (-1)) < 0 → HGo E (mF E (d + 4) Q) me_X12_layGame 20 [(0, .ref 87), (1, .int x1), (2, .int (x2 + (-1)))] [] I)
    (k2 : 4 ≤ x4 → ¬ (x2 + (-1)) < 0 → vp_in ((I 88 30) + (x2 + (-1))) 24)
    (k3 : 4 ≤ x4 → ¬ (x2 + (-1)) < 0 → HCall E me_X12_takeUp (d + 3) [.ref 87, .int (x2 + (-1)), .int (I 96 (((I 88 30) + (x2 + (-1))).toNatClampNeg))] I (fun v9 J => HGo E (mF E (d + 4) Q) me_X12_layGame 161 [(0, .ref 87), (1, .int x1), (2, .int (x2 + (-1)))] (v9.toList ++ []) J))
    (k4 : ¬ 4 ≤ x4 → HCall E me_X12_worthOf (d + 3) [.ref 87, .int (31 * (3 + x2)), .int x4] I (fun v9 J => HGo E (mF E (d + 4) Q) me_X12_layGame 84 [(0, .ref 87), (1, .int x1), (2, .int x2), (4, .int x4)] (v9.toList ++ [.int ((4 * x2) + x4), .ref 99]) J))
    : HGo E (mF E (d + 4) Q) me_X12_layGame 56 [(0, .ref 87), (1, .int x1), (2, .int x2), (4, .int x4)] [] I := by
  refine h_iload dX12_layGame_56 3 rfl ?_
  refine h_iconst (v := 4) dX12_layGame_58 (by decide) ?_
  refine h_icmp_ge (tgt := 91) dX12_layGame_59 (by decide) (fun c1 => ?_) (fun c1 => ?_)
  ·
    refine h_goto (tgt := 135) dX12_layGame_91 (by decide) ?_
    refine h_iinc (v := (x2 + (-1))) (L' := [(2, .int (x2 + (-1))), (0, .ref 87), (1, .int x1), (4, .int x4)]) dX12_layGame_135 2 rfl rfl (by decide) rfl ?_
    refine h_iload_n dX12_layGame_138 rfl 0 rfl ?_
    refine h_if_lt (tgt := 171) dX12_layGame_139 (by decide) (fun c2 => ?_) (fun c2 => ?_)
    ·
      refine h_goto (tgt := 20) dX12_layGame_171 (by decide) ?_
      refine h_pick [1, 2, 0] [(0, .ref 87), (1, .int x1), (2, .int (x2 + (-1)))] rfl ?_
      exact k1 c1 c2
    ·
      refine h_aload_n dX12_layGame_142 rfl 1 rfl ?_
      refine h_iload_n dX12_layGame_143 rfl 0 rfl ?_
      refine h_aload_n dX12_layGame_144 rfl 1 rfl ?_
      refine gf_10_12 dX12_layGame_145 hl_X12_39 nl_87 zk_87 zp_87_12 ?_
      refine h_aload_n dX12_layGame_148 rfl 1 rfl ?_
      refine gf_10_0 dX12_layGame_149 hl_X12_7 nl_87 zk_87 zp_87_0 ?_
      refine h_bipush (v := 30) dX12_layGame_152 (by decide) ?_
      refine h_iald dX12_layGame_154 nl_88 zk_88 (vp_lit (by rw [zn_88]; decide)) ?_
      refine h_iload_n dX12_layGame_155 rfl 0 rfl ?_
      refine h_iadd dX12_layGame_156 ?_
      refine h_iald dX12_layGame_157 nl_96 zk_96 (by rw [zn_96]; exact k2 c1 c2) ?_
      refine h_pick [1, 2, 0] [(0, .ref 87), (1, .int x1), (2, .int (x2 + (-1)))] rfl ?_
      refine h_invV (As := [.int (x2 + (-1)), .int (I 96 (((I 88 30) + (x2 + (-1))).toNatClampNeg))]) (st := []) dX12_layGame_158 lk_X12_244 (h_room (by decide)) nl_87 zk_87 (by decide) rfl rfl rfl (Nat.le_of_ble_eq_true rfl) ?_
      exact k3 c1 c2
  ·
    refine h_aload_n dX12_layGame_62 rfl 0 rfl ?_
    refine gf_10_23 dX12_layGame_63 hl_X12_48 nl_87 zk_87 zp_87_23 ?_
    refine h_iconst (v := 4) dX12_layGame_66 (by decide) ?_
    refine h_iload_n dX12_layGame_67 rfl 2 rfl ?_
    refine h_imul dX12_layGame_68 ?_
    refine h_iload dX12_layGame_69 3 rfl ?_
    refine h_iadd dX12_layGame_71 ?_
    refine h_aload_n dX12_layGame_72 rfl 0 rfl ?_
    refine h_bipush (v := 31) dX12_layGame_73 (by decide) ?_
    refine h_iconst (v := 3) dX12_layGame_75 (by decide) ?_
    refine h_iload_n dX12_layGame_76 rfl 2 rfl ?_
    refine h_iadd dX12_layGame_77 ?_
    refine h_imul dX12_layGame_78 ?_
    refine h_iload dX12_layGame_79 3 rfl ?_
    refine h_invV (As := [.int (31 * (3 + x2)), .int x4]) (st := [.int ((4 * x2) + x4), .ref 99]) dX12_layGame_81 lk_X12_186 (h_room (by decide)) nl_87 zk_87 (by decide) rfl rfl rfl (Nat.le_of_ble_eq_true rfl) ?_
    exact k4 c1
set_option maxHeartbeats 1000000 in
set_option maxRecDepth 20000 in
theorem sg_X12_layGame_84 {E : HEn} {d : Nat} {Q : Option Value → HIh → Prop} {I : HIh} {x1 : Int32} {x2 : Int32} {x4 : Int32} {s0 : Int32} {s1 : Int32}
    (k1 : vp_in s1 32)
    (k2 : HGo E (mF E (d + 4) Q) me_X12_layGame 56 [(0, .ref 87), (1, .int x1), (2, .int x2), (4, .int (x4 + 1))] [] (setI I 99 (upd (I 99) s1.toNatClampNeg s0)))
    : HGo E (mF E (d + 4) Q) me_X12_layGame 84 [(0, .ref 87), (1, .int x1), (2, .int x2), (4, .int x4)] [.int s0, .int s1, .ref 99] I := by
  refine h_iast dX12_layGame_84 nl_99 zk_99 (by rw [zn_99]; exact k1) ?_
  refine h_iinc (v := (x4 + 1)) (L' := [(4, .int (x4 + 1)), (0, .ref 87), (1, .int x1), (2, .int x2)]) dX12_layGame_85 3 rfl rfl (by decide) rfl ?_
  refine h_goto (tgt := 56) dX12_layGame_88 (by decide) ?_
  refine h_pick [1, 2, 3, 0] [(0, .ref 87), (1, .int x1), (2, .int x2), (4, .int (x4 + 1))] rfl ?_
  exact k2
set_option maxHeartbeats 1000000 in
set_option maxRecDepth 20000 in
theorem sg_X12_bait_0 {E : HEn} {d : Nat} {Q : Option Value → HIh → Prop} {I : HIh} {a : Int32}
    (k1 : (0 : Int32) ≤ a → a < 4 → HGo E (mF E (d + 4) Q) me_X12_bait 14 [(0, .ref 87), (1, .int a), (2, .int (-1)), (3, .int 0)] [] I)
    (k2 : ¬ ((0 : Int32) ≤ a ∧ a < 4) → Q (some (.int (-2))) I)
    : HGo E (mF E (d + 4) Q) me_X12_bait 0 [(0, .ref 87), (1, .int a)] [] I := by
  refine h_iload_n dX12_bait_0 rfl 1 rfl ?_
  refine h_invS (As := [.int a]) (st := []) dX12_bait_1 lk_X12_180 (h_room (by decide)) rfl rfl (Nat.le_of_ble_eq_true rfl) ?_
  refine c_X12_isPerson (fun c1 c2 => ?_) (fun c3 => ?_)
  ·
    refine h_if_ne (tgt := 10) dX12_bait_4 (by decide) (fun _ => ?_) (fun c => absurd c (by decide))
    refine h_iconst (v := (-1)) dX12_bait_10 (by decide) ?_
    refine h_istore_n (L' := [(2, .int (-1)), (0, .ref 87), (1, .int a)]) dX12_bait_11 rfl (by decide) rfl ?_
    refine h_iconst (v := 0) dX12_bait_12 (by decide) ?_
    refine h_istore_n (L' := [(3, .int 0), (2, .int (-1)), (0, .ref 87), (1, .int a)]) dX12_bait_13 rfl (by decide) rfl ?_
    refine h_pick [2, 3, 1, 0] [(0, .ref 87), (1, .int a), (2, .int (-1)), (3, .int 0)] rfl ?_
    exact k1 c1 c2
  ·
    refine h_if_ne (tgt := 10) dX12_bait_4 (by decide) (fun c => absurd c (by decide)) (fun _ => ?_)
    refine h_bipush (v := (-2)) dX12_bait_7 (by decide) ?_
    exact h_iret dX12_bait_9 rfl (k2 c3)
set_option maxHeartbeats 1000000 in
set_option maxRecDepth 20000 in
theorem sg_X12_bait_14 {E : HEn} {d : Nat} {Q : Option Value → HIh → Prop} {I : HIh} {x1 : Int32} {x2 : Int32} {x3 : Int32}
    (k1 : 343 ≤ x3 → Q (some (.int x2)) I)
    (k2 : ¬ 343 ≤ x3 → HCall E me_X12_copy (d + 3) [.ref 87, .int 0, .int 3] I (fun v9 J => HGo E (mF E (d + 4) Q) me_X12_bait 36 [(0, .ref 87), (1, .int x1), (2, .int x2), (3, .int x3), (4, .int 0), (5, .int 1), (6, .int x3)] (v9.toList ++ []) J))
    : HGo E (mF E (d + 4) Q) me_X12_bait 14 [(0, .ref 87), (1, .int x1), (2, .int x2), (3, .int x3)] [] I := by
  refine h_iload_n dX12_bait_14 rfl 3 rfl ?_
  refine h_sipush (v := 343) dX12_bait_15 (by decide) ?_
  refine h_icmp_ge (tgt := 198) dX12_bait_18 (by decide) (fun c1 => ?_) (fun c1 => ?_)
  ·
    refine h_iload_n dX12_bait_198 rfl 2 rfl ?_
    exact h_iret dX12_bait_199 rfl (k1 c1)
  ·
    refine h_iconst (v := 0) dX12_bait_21 (by decide) ?_
    refine h_istore (L' := [(4, .int 0), (0, .ref 87), (1, .int x1), (2, .int x2), (3, .int x3)]) dX12_bait_22 (by decide) rfl ?_
    refine h_iconst (v := 1) dX12_bait_24 (by decide) ?_
    refine h_istore (L' := [(5, .int 1), (4, .int 0), (0, .ref 87), (1, .int x1), (2, .int x2), (3, .int x3)]) dX12_bait_25 (by decide) rfl ?_
    refine h_iload_n dX12_bait_27 rfl 5 rfl ?_
    refine h_istore (L' := [(6, .int x3), (5, .int 1), (4, .int 0), (0, .ref 87), (1, .int x1), (2, .int x2), (3, .int x3)]) dX12_bait_28 (by decide) rfl ?_
    refine h_aload_n dX12_bait_30 rfl 3 rfl ?_
    refine h_iconst (v := 0) dX12_bait_31 (by decide) ?_
    refine h_iconst (v := 3) dX12_bait_32 (by decide) ?_
    refine h_pick [3, 4, 5, 6, 2, 1, 0] [(0, .ref 87), (1, .int x1), (2, .int x2), (3, .int x3), (4, .int 0), (5, .int 1), (6, .int x3)] rfl ?_
    refine h_invV (As := [.int 0, .int 3]) (st := []) dX12_bait_33 lk_X12_221 (h_room (by decide)) nl_87 zk_87 (by decide) rfl rfl rfl (Nat.le_of_ble_eq_true rfl) ?_
    exact k2 c1
set_option maxHeartbeats 1000000 in
set_option maxRecDepth 20000 in
theorem sg_X12_bait_36 {E : HEn} {d : Nat} {Q : Option Value → HIh → Prop} {I : HIh} {x1 : Int32} {x2 : Int32} {x3 : Int32} {x4 : Int32} {x5 : Int32} {x6 : Int32}
    (k1 : HGo E (mF E (d + 4) Q) me_X12_bait 39 [(0, .ref 87), (1, .int x1), (2, .int x2), (3, .int x3), (4, .int x4), (5, .int x5), (6, .int x6), (7, .int 0)] [] I)
    : HGo E (mF E (d + 4) Q) me_X12_bait 36 [(0, .ref 87), (1, .int x1), (2, .int x2), (3, .int x3), (4, .int x4), (5, .int x5), (6, .int x6)] [] I := by
  refine h_iconst (v := 0) dX12_bait_36 (by decide) ?_
  refine h_istore (L' := [(7, .int 0), (0, .ref 87), (1, .int x1), (2, .int x2), (3, .int x3), (4, .int x4), (5, .int x5), (6, .int x6)]) dX12_bait_37 (by decide) rfl ?_
  refine h_pick [1, 2, 3, 4, 5, 6, 7, 0] [(0, .ref 87), (1, .int x1), (2, .int x2), (3, .int x3), (4, .int x4), (5, .int x5), (6, .int x6), (7, .int 0)] rfl ?_
  exact k1
set_option maxHeartbeats 1000000 in
set_option maxRecDepth 20000 in
theorem sg_X12_bait_39 {E : HEn} {d : Nat} {Q : Option Value → HIh → Prop} {I : HIh} {x1 : Int32} {x2 : Int32} {x3 : Int32} {x4 : Int32} {x5 : Int32} {x6 : Int32} {x7 : Int32}
    (k1 : 3 ≤ x7 → x5 = 0 → HGo E (mF E (d + 4) Q) me_X12_bait 14 [(0, .ref 87), (1, .int x1), (2, .int x2), (3, .int (x3 + 1))] [] I)
    (k2 : 3 ≤ x7 → ¬ x5 = 0 → HCall E me_X12_byHabit (d + 3) [.ref 87, .int 93, .int x1] I (fun v9 J => HGo E (mF E (d + 4) Q) me_X12_bait 170 [(0, .ref 87), (1, .int x1), (2, .int x2), (3, .int x3), (4, .int x4)] (v9.toList ++ []) J))
    (k3 : ¬ 3 ≤ x7 → x5 = 0 → HGo E (mF E (d + 4) Q) me_X12_bait 87 [(0, .ref 87), (1, .int x1), (2, .int x2), (3, .int x3), (4, .int x4), (5, .int 0), (6, .int (x6 / 7)), (7, .int x7), (8, .int (x6 - x6 / 7 * 7))] [] I)
    (k4 : ¬ 3 ≤ x7 → ¬ x5 = 0 → (x6 - x6 / 7 * 7) < (I 87 6) → HGo E (mF E (d + 4) Q) me_X12_bait 87 [(0, .ref 87), (1, .int x1), (2, .int x2), (3, .int x3), (4, .int x4), (5, .int 1), (6, .int (x6 / 7)), (7, .int x7), (8, .int (x6 - x6 / 7 * 7))] [] I)
    (k5 : ¬ 3 ≤ x7 → ¬ x5 = 0 → ¬ (x6 - x6 / 7 * 7) < (I 87 6) → ¬ (x6 - x6 / 7 * 7) = 6 → HGo E (mF E (d + 4) Q) me_X12_bait 87 [(0, .ref 87), (1, .int x1), (2, .int x2), (3, .int x3), (4, .int x4), (5, .int 0), (6, .int (x6 / 7)), (7, .int x7), (8, .int (x6 - x6 / 7 * 7))] [] I)
    (k6 : ¬ 3 ≤ x7 → ¬ x5 = 0 → ¬ (x6 - x6 / 7 * 7) < (I 87 6) → (x6 - x6 / 7 * 7) = 6 → HGo E (mF E (d + 4) Q) me_X12_bait 87 [(0, .ref 87), (1, .int x1), (2, .int x2), (3, .int x3), (4, .int x4), (5, .int 1), (6, .int (x6 / 7)), (7, .int x7), (8, .int (x6 - x6 / 7 * 7))] [] I)
    : HGo E (mF E (d + 4) Q) me_X12_bait 39 [(0, .ref 87), (1, .int x1), (2, .int x2), (3, .int x3), (4, .int x4), (5, .int x5), (6, .int x6), (7, .int x7)] [] I := by
  refine h_iload dX12_bait_39 7 rfl ?_
  refine h_iconst (v := 3) dX12_bait_41 (by decide) ?_
  refine h_icmp_ge (tgt := 158) dX12_bait_42 (by decide) (fun c1 => ?_) (fun c1 => ?_)
  ·
    refine h_iload dX12_bait_158 5 rfl ?_
    refine h_if_eq (tgt := 190) dX12_bait_160 (by decide) (fun c2 => ?_) (fun c2 => ?_)
    ·
      refine h_iload_n dX12_bait_190 rfl 2 rfl ?_
      refine h_istore_n (L' := [(2, .int x2), (0, .ref 87), (1, .int x1), (3, .int x3), (4, .int x4), (5, .int x5), (6, .int x6), (7, .int x7)]) dX12_bait_191 rfl (by decide) rfl ?_
      refine h_iinc (v := (x3 + 1)) (L' := [(3, .int (x3 + 1)), (2, .int x2), (0, .ref 87), (1, .int x1), (4, .int x4), (5, .int x5), (6, .int x6), (7, .int x7)]) dX12_bait_192 3 rfl rfl (by decide) rfl ?_
      refine h_goto (tgt := 14) dX12_bait_195 (by decide) ?_
      refine h_pick [2, 3, 1, 0] [(0, .ref 87), (1, .int x1), (2, .int x2), (3, .int (x3 + 1))] rfl ?_
      exact k1 c1 c2
    ·
      refine h_aload_n dX12_bait_163 rfl 0 rfl ?_
      refine h_bipush (v := 93) dX12_bait_164 (by decide) ?_
      refine h_iload_n dX12_bait_166 rfl 1 rfl ?_
      refine h_pick [0, 1, 2, 3, 4] [(0, .ref 87), (1, .int x1), (2, .int x2), (3, .int x3), (4, .int x4)] rfl ?_
      refine h_invV (As := [.int 93, .int x1]) (st := []) dX12_bait_167 lk_X12_203 (h_room (by decide)) nl_87 zk_87 (by decide) rfl rfl rfl (Nat.le_of_ble_eq_true rfl) ?_
      exact k2 c1 c2
  ·
    refine h_iload dX12_bait_45 6 rfl ?_
    refine h_bipush (v := 7) dX12_bait_47 (by decide) ?_
    refine h_irem dX12_bait_49 (by decide) ?_
    refine h_istore (L' := [(8, .int (x6 - x6 / 7 * 7)), (0, .ref 87), (1, .int x1), (2, .int x2), (3, .int x3), (4, .int x4), (5, .int x5), (6, .int x6), (7, .int x7)]) dX12_bait_50 (by decide) rfl ?_
    refine h_iload dX12_bait_52 7 rfl ?_
    refine h_bipush (v := 7) dX12_bait_54 (by decide) ?_
    refine h_idiv dX12_bait_56 (by decide) ?_
    refine h_istore (L' := [(6, .int (x6 / 7)), (8, .int (x6 - x6 / 7 * 7)), (0, .ref 87), (1, .int x1), (2, .int x2), (3, .int x3), (4, .int x4), (5, .int x5), (7, .int x7)]) dX12_bait_57 (by decide) rfl ?_
    refine h_iload dX12_bait_59 7 rfl ?_
    refine h_if_eq (tgt := 84) dX12_bait_61 (by decide) (fun c3 => ?_) (fun c3 => ?_)
    ·
      refine h_iconst (v := 0) dX12_bait_84 (by decide) ?_
      refine h_istore (L' := [(5, .int 0), (6, .int (x6 / 7)), (8, .int (x6 - x6 / 7 * 7)), (0, .ref 87), (1, .int x1), (2, .int x2), (3, .int x3), (4, .int x4), (7, .int x7)]) dX12_bait_85 (by decide) rfl ?_
      refine h_pick [3, 4, 5, 6, 7, 0, 1, 8, 2] [(0, .ref 87), (1, .int x1), (2, .int x2), (3, .int x3), (4, .int x4), (5, .int 0), (6, .int (x6 / 7)), (7, .int x7), (8, .int (x6 - x6 / 7 * 7))] rfl ?_
      exact k3 c1 c3
    ·
      refine h_iload dX12_bait_64 1 rfl ?_
      refine h_aload_n dX12_bait_66 rfl 2 rfl ?_
      refine gf_10_6 dX12_bait_67 hl_X12_23 nl_87 zk_87 ?_
      refine h_icmp_lt (tgt := 80) dX12_bait_70 (by decide) (fun c4 => ?_) (fun c4 => ?_)
      ·
        refine h_iconst (v := 1) dX12_bait_80 (by decide) ?_
        refine h_goto (tgt := 85) dX12_bait_81 (by decide) ?_
        refine h_istore (L' := [(5, .int 1), (6, .int (x6 / 7)), (8, .int (x6 - x6 / 7 * 7)), (0, .ref 87), (1, .int x1), (2, .int x2), (3, .int x3), (4, .int x4), (7, .int x7)]) dX12_bait_85 (by decide) rfl ?_
        refine h_pick [3, 4, 5, 6, 7, 0, 1, 8, 2] [(0, .ref 87), (1, .int x1), (2, .int x2), (3, .int x3), (4, .int x4), (5, .int 1), (6, .int (x6 / 7)), (7, .int x7), (8, .int (x6 - x6 / 7 * 7))] rfl ?_
        exact k4 c1 c3 c4
      ·
        refine h_iload dX12_bait_73 1 rfl ?_
        refine h_bipush (v := 6) dX12_bait_75 (by decide) ?_
        refine h_icmp_ne (tgt := 84) dX12_bait_77 (by decide) (fun c5 => ?_) (fun c5 => ?_)
        ·
          refine h_iconst (v := 0) dX12_bait_84 (by decide) ?_
          refine h_istore (L' := [(5, .int 0), (6, .int (x6 / 7)), (8, .int (x6 - x6 / 7 * 7)), (0, .ref 87), (1, .int x1), (2, .int x2), (3, .int x3), (4, .int x4), (7, .int x7)]) dX12_bait_85 (by decide) rfl ?_
          refine h_pick [3, 4, 5, 6, 7, 0, 1, 8, 2] [(0, .ref 87), (1, .int x1), (2, .int x2), (3, .int x3), (4, .int x4), (5, .int 0), (6, .int (x6 / 7)), (7, .int x7), (8, .int (x6 - x6 / 7 * 7))] rfl ?_
          exact k5 c1 c3 c4 c5
        ·
          refine h_iconst (v := 1) dX12_bait_80 (by decide) ?_
          refine h_goto (tgt := 85) dX12_bait_81 (by decide) ?_
          refine h_istore (L' := [(5, .int 1), (6, .int (x6 / 7)), (8, .int (x6 - x6 / 7 * 7)), (0, .ref 87), (1, .int x1), (2, .int x2), (3, .int x3), (4, .int x4), (7, .int x7)]) dX12_bait_85 (by decide) rfl ?_
          refine h_pick [3, 4, 5, 6, 7, 0, 1, 8, 2] [(0, .ref 87), (1, .int x1), (2, .int x2), (3, .int x3), (4, .int x4), (5, .int 1), (6, .int (x6 / 7)), (7, .int x7), (8, .int (x6 - x6 / 7 * 7))] rfl ?_
          exact k6 c1 c3 c4 c5
set_option maxHeartbeats 1000000 in
set_option maxRecDepth 20000 in
theorem sg_X12_bait_170 {E : HEn} {d : Nat} {Q : Option Value → HIh → Prop} {I : HIh} {x1 : Int32} {x2 : Int32} {x3 : Int32} {x4 : Int32} {s0 : Int32}
    (k1 : s0 = (-1) → HGo E (mF E (d + 4) Q) me_X12_bait 14 [(0, .ref 87), (1, .int x1), (2, .int x2), (3, .int (x3 + 1))] [] I)
    (k2 : ¬ s0 = (-1) → x2 = (-1) → HGo E (mF E (d + 4) Q) me_X12_bait 14 [(0, .ref 87), (1, .int x1), (2, .int x4), (3, .int (x3 + 1))] [] I)
    (k3 : ¬ s0 = (-1) → ¬ x2 = (-1) → x2 ≤ x4 → HGo E (mF E (d + 4) Q) me_X12_bait 14 [(0, .ref 87), (1, .int x1), (2, .int x2), (3, .int (x3 + 1))] [] I)
    (k4 : ¬ s0 = (-1) → ¬ x2 = (-1) → ¬ x2 ≤ x4 → HGo E (mF E (d + 4) Q) me_X12_bait 14 [(0, .ref 87), (1, .int x1), (2, .int x4), (3, .int (x3 + 1))] [] I)
    : HGo E (mF E (d + 4) Q) me_X12_bait 170 [(0, .ref 87), (1, .int x1), (2, .int x2), (3, .int x3), (4, .int x4)] [.int s0] I := by
  refine h_iconst (v := (-1)) dX12_bait_170 (by decide) ?_
  refine h_icmp_eq (tgt := 190) dX12_bait_171 (by decide) (fun c1 => ?_) (fun c1 => ?_)
  ·
    refine h_iload_n dX12_bait_190 rfl 2 rfl ?_
    refine h_istore_n (L' := [(2, .int x2), (0, .ref 87), (1, .int x1), (3, .int x3), (4, .int x4)]) dX12_bait_191 rfl (by decide) rfl ?_
    refine h_iinc (v := (x3 + 1)) (L' := [(3, .int (x3 + 1)), (2, .int x2), (0, .ref 87), (1, .int x1), (4, .int x4)]) dX12_bait_192 3 rfl rfl (by decide) rfl ?_
    refine h_goto (tgt := 14) dX12_bait_195 (by decide) ?_
    refine h_pick [2, 3, 1, 0] [(0, .ref 87), (1, .int x1), (2, .int x2), (3, .int (x3 + 1))] rfl ?_
    exact k1 c1
  ·
    refine h_iload_n dX12_bait_174 rfl 2 rfl ?_
    refine h_iconst (v := (-1)) dX12_bait_175 (by decide) ?_
    refine h_icmp_eq (tgt := 185) dX12_bait_176 (by decide) (fun c2 => ?_) (fun c2 => ?_)
    ·
      refine h_iload dX12_bait_185 4 rfl ?_
      refine h_goto (tgt := 191) dX12_bait_187 (by decide) ?_
      refine h_istore_n (L' := [(2, .int x4), (0, .ref 87), (1, .int x1), (3, .int x3), (4, .int x4)]) dX12_bait_191 rfl (by decide) rfl ?_
      refine h_iinc (v := (x3 + 1)) (L' := [(3, .int (x3 + 1)), (2, .int x4), (0, .ref 87), (1, .int x1), (4, .int x4)]) dX12_bait_192 3 rfl rfl (by decide) rfl ?_
      refine h_goto (tgt := 14) dX12_bait_195 (by decide) ?_
      refine h_pick [2, 3, 1, 0] [(0, .ref 87), (1, .int x1), (2, .int x4), (3, .int (x3 + 1))] rfl ?_
      exact k2 c1 c2
    ·
      refine h_iload dX12_bait_179 4 rfl ?_
      refine h_iload_n dX12_bait_181 rfl 2 rfl ?_
      refine h_icmp_ge (tgt := 190) dX12_bait_182 (by decide) (fun c3 => ?_) (fun c3 => ?_)
      ·
        refine h_iload_n dX12_bait_190 rfl 2 rfl ?_
        refine h_istore_n (L' := [(2, .int x2), (0, .ref 87), (1, .int x1), (3, .int x3), (4, .int x4)]) dX12_bait_191 rfl (by decide) rfl ?_
        refine h_iinc (v := (x3 + 1)) (L' := [(3, .int (x3 + 1)), (2, .int x2), (0, .ref 87), (1, .int x1), (4, .int x4)]) dX12_bait_192 3 rfl rfl (by decide) rfl ?_
        refine h_goto (tgt := 14) dX12_bait_195 (by decide) ?_
        refine h_pick [2, 3, 1, 0] [(0, .ref 87), (1, .int x1), (2, .int x2), (3, .int (x3 + 1))] rfl ?_
        exact k3 c1 c2 c3
      ·
        refine h_iload dX12_bait_185 4 rfl ?_
        refine h_goto (tgt := 191) dX12_bait_187 (by decide) ?_
        refine h_istore_n (L' := [(2, .int x4), (0, .ref 87), (1, .int x1), (3, .int x3), (4, .int x4)]) dX12_bait_191 rfl (by decide) rfl ?_
        refine h_iinc (v := (x3 + 1)) (L' := [(3, .int (x3 + 1)), (2, .int x4), (0, .ref 87), (1, .int x1), (4, .int x4)]) dX12_bait_192 3 rfl rfl (by decide) rfl ?_
        refine h_goto (tgt := 14) dX12_bait_195 (by decide) ?_
        refine h_pick [2, 3, 1, 0] [(0, .ref 87), (1, .int x1), (2, .int x4), (3, .int (x3 + 1))] rfl ?_
        exact k4 c1 c2 c3
set_option maxHeartbeats 1000000 in
set_option maxRecDepth 20000 in
theorem sg_X12_bait_87 {E : HEn} {d : Nat} {Q : Option Value → HIh → Prop} {I : HIh} {x1 : Int32} {x2 : Int32} {x3 : Int32} {x4 : Int32} {x5 : Int32} {x6 : Int32} {x7 : Int32} {x8 : Int32}
    (k1 : (I 87 6) ≤ x8 → HGo E (mF E (d + 4) Q) me_X12_bait 112 [(0, .ref 87), (1, .int x1), (2, .int x2), (3, .int x3), (4, .int (x4 + 0)), (5, .int x5), (6, .int x6), (7, .int x7), (8, .int x8)] [] I)
    (k2 : ¬ (I 87 6) ≤ x8 → vp_in x8 6)
    (k3 : ¬ (I 87 6) ≤ x8 → HGo E (mF E (d + 4) Q) me_X12_bait 112 [(0, .ref 87), (1, .int x1), (2, .int x2), (3, .int x3), (4, .int (x4 + (I 92 x8.toNatClampNeg))), (5, .int x5), (6, .int x6), (7, .int x7), (8, .int x8)] [] I)
    : HGo E (mF E (d + 4) Q) me_X12_bait 87 [(0, .ref 87), (1, .int x1), (2, .int x2), (3, .int x3), (4, .int x4), (5, .int x5), (6, .int x6), (7, .int x7), (8, .int x8)] [] I := by
  refine h_iload dX12_bait_87 4 rfl ?_
  refine h_iload dX12_bait_89 8 rfl ?_
  refine h_aload_n dX12_bait_91 rfl 0 rfl ?_
  refine gf_10_6 dX12_bait_92 hl_X12_23 nl_87 zk_87 ?_
  refine h_icmp_ge (tgt := 108) dX12_bait_95 (by decide) (fun c1 => ?_) (fun c1 => ?_)
  ·
    refine h_iconst (v := 0) dX12_bait_108 (by decide) ?_
    refine h_iadd dX12_bait_109 ?_
    refine h_istore (L' := [(4, .int (x4 + 0)), (0, .ref 87), (1, .int x1), (2, .int x2), (3, .int x3), (5, .int x5), (6, .int x6), (7, .int x7), (8, .int x8)]) dX12_bait_110 (by decide) rfl ?_
    refine h_pick [1, 2, 3, 4, 0, 5, 6, 7, 8] [(0, .ref 87), (1, .int x1), (2, .int x2), (3, .int x3), (4, .int (x4 + 0)), (5, .int x5), (6, .int x6), (7, .int x7), (8, .int x8)] rfl ?_
    exact k1 c1
  ·
    refine h_aload_n dX12_bait_98 rfl 0 rfl ?_
    refine gf_10_7 dX12_bait_99 hl_X12_27 nl_87 zk_87 zp_87_7 ?_
    refine h_iload dX12_bait_102 8 rfl ?_
    refine h_iald dX12_bait_104 nl_92 zk_92 (by rw [zn_92]; exact k2 c1) ?_
    refine h_goto (tgt := 109) dX12_bait_105 (by decide) ?_
    refine h_iadd dX12_bait_109 ?_
    refine h_istore (L' := [(4, .int (x4 + (I 92 x8.toNatClampNeg))), (0, .ref 87), (1, .int x1), (2, .int x2), (3, .int x3), (5, .int x5), (6, .int x6), (7, .int x7), (8, .int x8)]) dX12_bait_110 (by decide) rfl ?_
    refine h_pick [1, 2, 3, 4, 0, 5, 6, 7, 8] [(0, .ref 87), (1, .int x1), (2, .int x2), (3, .int x3), (4, .int (x4 + (I 92 x8.toNatClampNeg))), (5, .int x5), (6, .int x6), (7, .int x7), (8, .int x8)] rfl ?_
    exact k3 c1
set_option maxHeartbeats 1000000 in
set_option maxRecDepth 20000 in
theorem sg_X12_bait_112 {E : HEn} {d : Nat} {Q : Option Value → HIh → Prop} {I : HIh} {x1 : Int32} {x2 : Int32} {x3 : Int32} {x4 : Int32} {x5 : Int32} {x6 : Int32} {x7 : Int32} {x8 : Int32}
    (k1 : (I 87 6) ≤ x8 → vp_in (93 + 0) 341)
    (k2 : (I 87 6) ≤ x8 → (I 87 6) ≤ x8 → vp_in (93 + 0) 341)
    (k3 : (I 87 6) ≤ x8 → (I 87 6) ≤ x8 → HGo E (mF E (d + 4) Q) me_X12_bait 39 [(0, .ref 87), (1, .int x1), (2, .int x2), (3, .int x3), (4, .int x4), (5, .int x5), (6, .int x6), (7, .int (x7 + 1))] [] (setI I 88 (upd (I 88) ((93 + 0) : Int32).toNatClampNeg ((I 88 (((93 + 0) : Int32).toNatClampNeg)) + 0))))
    (k4 : (I 87 6) ≤ x8 → ¬ (I 87 6) ≤ x8 → vp_in (93 + 0) 341)
    (k5 : (I 87 6) ≤ x8 → ¬ (I 87 6) ≤ x8 → HGo E (mF E (d + 4) Q) me_X12_bait 39 [(0, .ref 87), (1, .int x1), (2, .int x2), (3, .int x3), (4, .int x4), (5, .int x5), (6, .int x6), (7, .int (x7 + 1))] [] (setI I 88 (upd (I 88) ((93 + 0) : Int32).toNatClampNeg ((I 88 (((93 + 0) : Int32).toNatClampNeg)) + 1))))
    (k6 : ¬ (I 87 6) ≤ x8 → vp_in (93 + x8) 341)
    (k7 : ¬ (I 87 6) ≤ x8 → (I 87 6) ≤ x8 → vp_in (93 + x8) 341)
    (k8 : ¬ (I 87 6) ≤ x8 → (I 87 6) ≤ x8 → HGo E (mF E (d + 4) Q) me_X12_bait 39 [(0, .ref 87), (1, .int x1), (2, .int x2), (3, .int x3), (4, .int x4), (5, .int x5), (6, .int x6), (7, .int (x7 + 1))] [] (setI I 88 (upd (I 88) (93 + x8).toNatClampNeg ((I 88 ((93 + x8).toNatClampNeg)) + 0))))
    (k9 : ¬ (I 87 6) ≤ x8 → ¬ (I 87 6) ≤ x8 → vp_in (93 + x8) 341)
    (k10 : ¬ (I 87 6) ≤ x8 → ¬ (I 87 6) ≤ x8 → HGo E (mF E (d + 4) Q) me_X12_bait 39 [(0, .ref 87), (1, .int x1), (2, .int x2), (3, .int x3), (4, .int x4), (5, .int x5), (6, .int x6), (7, .int (x7 + 1))] [] (setI I 88 (upd (I 88) (93 + x8).toNatClampNeg ((I 88 ((93 + x8).toNatClampNeg)) + 1))))
    : HGo E (mF E (d + 4) Q) me_X12_bait 112 [(0, .ref 87), (1, .int x1), (2, .int x2), (3, .int x3), (4, .int x4), (5, .int x5), (6, .int x6), (7, .int x7), (8, .int x8)] [] I := by
  refine h_aload_n dX12_bait_112 rfl 0 rfl ?_
  refine gf_10_0 dX12_bait_113 hl_X12_7 nl_87 zk_87 zp_87_0 ?_
  refine h_bipush (v := 93) dX12_bait_116 (by decide) ?_
  refine h_iload dX12_bait_118 8 rfl ?_
  refine h_aload_n dX12_bait_120 rfl 0 rfl ?_
  refine gf_10_6 dX12_bait_121 hl_X12_23 nl_87 zk_87 ?_
  refine h_icmp_ge (tgt := 132) dX12_bait_124 (by decide) (fun c1 => ?_) (fun c1 => ?_)
  ·
    refine h_iconst (v := 0) dX12_bait_132 (by decide) ?_
    refine h_iadd dX12_bait_133 ?_
    refine h_dup2 dX12_bait_134 rfl rfl ?_
    refine h_iald dX12_bait_135 nl_88 zk_88 (by rw [zn_88]; exact k1 c1) ?_
    refine h_iload dX12_bait_136 8 rfl ?_
    refine h_aload_n dX12_bait_138 rfl 0 rfl ?_
    refine gf_10_6 dX12_bait_139 hl_X12_23 nl_87 zk_87 ?_
    refine h_icmp_ge (tgt := 149) dX12_bait_142 (by decide) (fun c2 => ?_) (fun c2 => ?_)
    ·
      refine h_iconst (v := 0) dX12_bait_149 (by decide) ?_
      refine h_iadd dX12_bait_150 ?_
      refine h_iast dX12_bait_151 nl_88 zk_88 (by rw [zn_88]; exact k2 c1 c2) ?_
      refine h_iinc (v := (x7 + 1)) (L' := [(7, .int (x7 + 1)), (0, .ref 87), (1, .int x1), (2, .int x2), (3, .int x3), (4, .int x4), (5, .int x5), (6, .int x6), (8, .int x8)]) dX12_bait_152 7 rfl rfl (by decide) rfl ?_
      refine h_goto (tgt := 39) dX12_bait_155 (by decide) ?_
      refine h_pick [1, 2, 3, 4, 5, 6, 7, 0] [(0, .ref 87), (1, .int x1), (2, .int x2), (3, .int x3), (4, .int x4), (5, .int x5), (6, .int x6), (7, .int (x7 + 1))] rfl ?_
      exact k3 c1 c2
    ·
      refine h_iconst (v := 1) dX12_bait_145 (by decide) ?_
      refine h_goto (tgt := 150) dX12_bait_146 (by decide) ?_
      refine h_iadd dX12_bait_150 ?_
      refine h_iast dX12_bait_151 nl_88 zk_88 (by rw [zn_88]; exact k4 c1 c2) ?_
      refine h_iinc (v := (x7 + 1)) (L' := [(7, .int (x7 + 1)), (0, .ref 87), (1, .int x1), (2, .int x2), (3, .int x3), (4, .int x4), (5, .int x5), (6, .int x6), (8, .int x8)]) dX12_bait_152 7 rfl rfl (by decide) rfl ?_
      refine h_goto (tgt := 39) dX12_bait_155 (by decide) ?_
      refine h_pick [1, 2, 3, 4, 5, 6, 7, 0] [(0, .ref 87), (1, .int x1), (2, .int x2), (3, .int x3), (4, .int x4), (5, .int x5), (6, .int x6), (7, .int (x7 + 1))] rfl ?_
      exact k5 c1 c2
  ·
    refine h_iload dX12_bait_127 8 rfl ?_
    refine h_goto (tgt := 133) dX12_bait_129 (by decide) ?_
    refine h_iadd dX12_bait_133 ?_
    refine h_dup2 dX12_bait_134 rfl rfl ?_
    refine h_iald dX12_bait_135 nl_88 zk_88 (by rw [zn_88]; exact k6 c1) ?_
    refine h_iload dX12_bait_136 8 rfl ?_
    refine h_aload_n dX12_bait_138 rfl 0 rfl ?_
    refine gf_10_6 dX12_bait_139 hl_X12_23 nl_87 zk_87 ?_
    refine h_icmp_ge (tgt := 149) dX12_bait_142 (by decide) (fun c3 => ?_) (fun c3 => ?_)
    ·
      refine h_iconst (v := 0) dX12_bait_149 (by decide) ?_
      refine h_iadd dX12_bait_150 ?_
      refine h_iast dX12_bait_151 nl_88 zk_88 (by rw [zn_88]; exact k7 c1 c3) ?_
      refine h_iinc (v := (x7 + 1)) (L' := [(7, .int (x7 + 1)), (0, .ref 87), (1, .int x1), (2, .int x2), (3, .int x3), (4, .int x4), (5, .int x5), (6, .int x6), (8, .int x8)]) dX12_bait_152 7 rfl rfl (by decide) rfl ?_
      refine h_goto (tgt := 39) dX12_bait_155 (by decide) ?_
      refine h_pick [1, 2, 3, 4, 5, 6, 7, 0] [(0, .ref 87), (1, .int x1), (2, .int x2), (3, .int x3), (4, .int x4), (5, .int x5), (6, .int x6), (7, .int (x7 + 1))] rfl ?_
      exact k8 c1 c3
    ·
      refine h_iconst (v := 1) dX12_bait_145 (by decide) ?_
      refine h_goto (tgt := 150) dX12_bait_146 (by decide) ?_
      refine h_iadd dX12_bait_150 ?_
      refine h_iast dX12_bait_151 nl_88 zk_88 (by rw [zn_88]; exact k9 c1 c3) ?_
      refine h_iinc (v := (x7 + 1)) (L' := [(7, .int (x7 + 1)), (0, .ref 87), (1, .int x1), (2, .int x2), (3, .int x3), (4, .int x4), (5, .int x5), (6, .int x6), (8, .int x8)]) dX12_bait_152 7 rfl rfl (by decide) rfl ?_
      refine h_goto (tgt := 39) dX12_bait_155 (by decide) ?_
      refine h_pick [1, 2, 3, 4, 5, 6, 7, 0] [(0, .ref 87), (1, .int x1), (2, .int x2), (3, .int x3), (4, .int x4), (5, .int x5), (6, .int x6), (7, .int (x7 + 1))] rfl ?_
      exact k10 c1 c3
