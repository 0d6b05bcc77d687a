set_option maxHeartbeats 1000000 in
set_option maxRecDepth 4000 in
theorem sg_X6_add_0 {E : HEn} {d : Nat} {Q : Option Value → HIh → Prop} {I : HIh} {k : Int32} {w : Int32}
    (k1 : (I 80 6) < 0 → Q (some (.int 0)) I)
    (k2 : ¬ (I 80 6) < 0 → (I 80 6) < 6 → vp_in (I 80 6) 6)
    (k3 : ¬ (I 80 6) < 0 → (I 80 6) < 6 → vp_in ((setI I 83 (upd (I 83) (I 80 6).toNatClampNeg k)) 80 6) 6)
    (k4 : ¬ (I 80 6) < 0 → (I 80 6) < 6 → Q (some (.int 1)) (setI (setI (setI I 83 (upd (I 83) (I 80 6).toNatClampNeg k)) 84 (upd ((setI I 83 (upd (I 83) (I 80 6).toNatClampNeg k)) 84) ((setI I 83 (upd (I 83) (I 80 6).toNatClampNeg k)) 80 6).toNatClampNeg w)) 80 (upd ((setI (setI I 83 (upd (I 83) (I 80 6).toNatClampNeg k)) 84 (upd ((setI I 83 (upd (I 83) (I 80 6).toNatClampNeg k)) 84) ((setI I 83 (upd (I 83) (I 80 6).toNatClampNeg k)) 80 6).toNatClampNeg w)) 80) 6 (((setI (setI I 83 (upd (I 83) (I 80 6).toNatClampNeg k)) 84 (upd ((setI I 83 (upd (I 83) (I 80 6).toNatClampNeg k)) 84) ((setI I 83 (upd (I 83) (I 80 6).toNatClampNeg k)) 80 6).toNatClampNeg w)) 80 6) + 1))))
    (k5 : ¬ (I 80 6) < 0 → ¬ (I 80 6) < 6 → Q (some (.int 0)) I)
    : HGo E (mF E (d + 1) Q) me_X6_add 0 [(0, .ref 80), (1, .int k), (2, .int w)] [] I := by
  refine h_aload_n dX6_add_0 rfl 0 rfl ?_
  refine gf_5_6 dX6_add_1 hl_X6_35 nl_80 zk_80 ?_
  refine h_if_lt (tgt := 16) dX6_add_4 (by decide) (fun c1 => ?_) (fun c1 => ?_)
  ·
    refine h_iconst (v := 0) dX6_add_16 (by decide) ?_
    exact h_zret dX6_add_17 rfl rfl (k1 c1)
  ·
    refine h_aload_n dX6_add_7 rfl 0 rfl ?_
    refine gf_5_6 dX6_add_8 hl_X6_35 nl_80 zk_80 ?_
    refine h_bipush (v := 6) dX6_add_11 (by decide) ?_
    refine h_icmp_lt (tgt := 18) dX6_add_13 (by decide) (fun c2 => ?_) (fun c2 => ?_)
    ·
      refine h_aload_n dX6_add_18 rfl 0 rfl ?_
      refine gf_5_2 dX6_add_19 hl_X6_18 nl_80 zk_80 zp_80_2 ?_
      refine h_aload_n dX6_add_22 rfl 0 rfl ?_
      refine gf_5_6 dX6_add_23 hl_X6_35 nl_80 zk_80 ?_
      refine h_iload_n dX6_add_26 rfl 1 rfl ?_
      refine h_iast dX6_add_27 nl_83 zk_83 (by rw [zn_83]; exact k2 c1 c2) ?_
      refine h_aload_n dX6_add_28 rfl 0 rfl ?_
      refine gf_5_3 dX6_add_29 hl_X6_22 nl_80 zk_80 zp_80_3 ?_
      refine h_aload_n dX6_add_32 rfl 0 rfl ?_
      refine gf_5_6 dX6_add_33 hl_X6_35 nl_80 zk_80 ?_
      refine h_iload_n dX6_add_36 rfl 2 rfl ?_
      refine h_iast dX6_add_37 nl_84 zk_84 (by rw [zn_84]; exact k3 c1 c2) ?_
      refine h_aload_n dX6_add_38 rfl 0 rfl ?_
      refine h_dup dX6_add_39 rfl ?_
      refine gf_5_6 dX6_add_40 hl_X6_35 nl_80 zk_80 ?_
      refine h_iconst (v := 1) dX6_add_43 (by decide) ?_
      refine h_iadd dX6_add_44 ?_
      refine pf_5_6 dX6_add_45 hl_X6_35 nl_80 zk_80 ?_
      refine h_iconst (v := 1) dX6_add_48 (by decide) ?_
      exact h_zret dX6_add_49 rfl rfl (k4 c1 c2)
    ·
      refine h_iconst (v := 0) dX6_add_16 (by decide) ?_
      exact h_zret dX6_add_17 rfl rfl (k5 c1 c2)
set_option maxHeartbeats 1000000 in
set_option maxRecDepth 4000 in
theorem sg_X6_leastOf_0 {E : HEn} {d : Nat} {Q : Option Value → HIh → Prop} {I : HIh} {k : Int32}
    (k1 : k < 0 → Q (some (.int (-1))) I)
    (k2 : ¬ k < 0 → 6 ≤ k → Q (some (.int (-1))) I)
    (k3 : ¬ k < 0 → ¬ 6 ≤ k → vp_in k 6)
    (k4 : ¬ k < 0 → ¬ 6 ≤ k → Q (some (.int (I 85 k.toNatClampNeg))) I)
    : HGo E (mF E (d + 1) Q) me_X6_leastOf 0 [(0, .ref 80), (1, .int k)] [] I := by
  refine h_iload_n dX6_leastOf_0 rfl 1 rfl ?_
  refine h_if_lt (tgt := 19) dX6_leastOf_1 (by decide) (fun c1 => ?_) (fun c1 => ?_)
  ·
    refine h_iconst (v := (-1)) dX6_leastOf_19 (by decide) ?_
    exact h_iret dX6_leastOf_20 rfl (k1 c1)
  ·
    refine h_iload_n dX6_leastOf_4 rfl 1 rfl ?_
    refine h_bipush (v := 6) dX6_leastOf_5 (by decide) ?_
    refine h_icmp_ge (tgt := 19) dX6_leastOf_7 (by decide) (fun c2 => ?_) (fun c2 => ?_)
    ·
      refine h_iconst (v := (-1)) dX6_leastOf_19 (by decide) ?_
      exact h_iret dX6_leastOf_20 rfl (k2 c1 c2)
    ·
      refine h_aload_n dX6_leastOf_10 rfl 0 rfl ?_
      refine gf_5_4 dX6_leastOf_11 hl_X6_25 nl_80 zk_80 zp_80_4 ?_
      refine h_iload_n dX6_leastOf_14 rfl 1 rfl ?_
      refine h_iald dX6_leastOf_15 nl_85 zk_85 (by rw [zn_85]; exact k3 c1 c2) ?_
      refine h_goto (tgt := 20) dX6_leastOf_16 (by decide) ?_
      exact h_iret dX6_leastOf_20 rfl (k4 c1 c2)
set_option maxHeartbeats 1000000 in
set_option maxRecDepth 4000 in
theorem sg_X6_mostOf_0 {E : HEn} {d : Nat} {Q : Option Value → HIh → Prop} {I : HIh} {k : Int32}
    (k1 : k < 0 → Q (some (.int (-1))) I)
    (k2 : ¬ k < 0 → 6 ≤ k → Q (some (.int (-1))) I)
    (k3 : ¬ k < 0 → ¬ 6 ≤ k → vp_in k 6)
    (k4 : ¬ k < 0 → ¬ 6 ≤ k → Q (some (.int (I 86 k.toNatClampNeg))) I)
    : HGo E (mF E (d + 1) Q) me_X6_mostOf 0 [(0, .ref 80), (1, .int k)] [] I := by
  refine h_iload_n dX6_mostOf_0 rfl 1 rfl ?_
  refine h_if_lt (tgt := 19) dX6_mostOf_1 (by decide) (fun c1 => ?_) (fun c1 => ?_)
  ·
    refine h_iconst (v := (-1)) dX6_mostOf_19 (by decide) ?_
    exact h_iret dX6_mostOf_20 rfl (k1 c1)
  ·
    refine h_iload_n dX6_mostOf_4 rfl 1 rfl ?_
    refine h_bipush (v := 6) dX6_mostOf_5 (by decide) ?_
    refine h_icmp_ge (tgt := 19) dX6_mostOf_7 (by decide) (fun c2 => ?_) (fun c2 => ?_)
    ·
      refine h_iconst (v := (-1)) dX6_mostOf_19 (by decide) ?_
      exact h_iret dX6_mostOf_20 rfl (k2 c1 c2)
    ·
      refine h_aload_n dX6_mostOf_10 rfl 0 rfl ?_
      refine gf_5_5 dX6_mostOf_11 hl_X6_28 nl_80 zk_80 zp_80_5 ?_
      refine h_iload_n dX6_mostOf_14 rfl 1 rfl ?_
      refine h_iald dX6_mostOf_15 nl_86 zk_86 (by rw [zn_86]; exact k3 c1 c2) ?_
      refine h_goto (tgt := 20) dX6_mostOf_16 (by decide) ?_
      exact h_iret dX6_mostOf_20 rfl (k4 c1 c2)
set_option maxHeartbeats 1000000 in
set_option maxRecDepth 4000 in
theorem sg_X6_searchLayings_0 {E : HEn} {d : Nat} {Q : Option Value → HIh → Prop} {I : HIh} 
    (k1 : HGo E (mF E (d + 4) Q) me_X6_searchLayings 12 [(0, .ref 80), (1, .int 0)] [] (setI (setI I 80 (upd (I 80) 7 0)) 80 (upd ((setI I 80 (upd (I 80) 7 0)) 80) 8 (-1))))
    : HGo E (mF E (d + 4) Q) me_X6_searchLayings 0 [(0, .ref 80)] [] I := by
  refine h_aload_n dX6_searchLayings_0 rfl 0 rfl ?_
  refine h_iconst (v := 0) dX6_searchLayings_1 (by decide) ?_
  refine pf_5_7 dX6_searchLayings_2 hl_X6_39 nl_80 zk_80 ?_
  refine h_aload_n dX6_searchLayings_5 rfl 0 rfl ?_
  refine h_iconst (v := (-1)) dX6_searchLayings_6 (by decide) ?_
  refine pf_5_8 dX6_searchLayings_7 hl_X6_42 nl_80 zk_80 ?_
  refine h_iconst (v := 0) dX6_searchLayings_10 (by decide) ?_
  refine h_istore_n (L' := [(1, .int 0), (0, .ref 80)]) dX6_searchLayings_11 rfl (by decide) rfl ?_
  refine h_pick [1, 0] [(0, .ref 80), (1, .int 0)] rfl ?_
  exact k1
set_option maxHeartbeats 1000000 in
set_option maxRecDepth 4000 in
theorem sg_X6_searchLayings_12 {E : HEn} {d : Nat} {Q : Option Value → HIh → Prop} {I : HIh} {x1 : Int32}
    (k1 : 6 ≤ x1 → HGo E (mF E (d + 4) Q) me_X6_searchLayings 56 [(0, .ref 80), (1, .int ((1 : Int32) <<< ((2 * (if 4 < (I 1 9) then 4 else (I 1 9))) &&& 31))), (2, .int 0)] [] I)
    (k2 : ¬ 6 ≤ x1 → vp_in x1 6)
    (k3 : ¬ 6 ≤ x1 → HGo E (mF E (d + 4) Q) me_X6_searchLayings 12 [(0, .ref 80), (1, .int (x1 + 1))] [] (setI (setI I 85 (upd (I 85) x1.toNatClampNeg (-1))) 86 (upd ((setI I 85 (upd (I 85) x1.toNatClampNeg (-1))) 86) x1.toNatClampNeg (-1))))
    : HGo E (mF E (d + 4) Q) me_X6_searchLayings 12 [(0, .ref 80), (1, .int x1)] [] I := by
  refine h_iload_n dX6_searchLayings_12 rfl 1 rfl ?_
  refine h_bipush (v := 6) dX6_searchLayings_13 (by decide) ?_
  refine h_icmp_ge (tgt := 38) dX6_searchLayings_15 (by decide) (fun c1 => ?_) (fun c1 => ?_)
  ·
    refine h_iconst (v := 1) dX6_searchLayings_38 (by decide) ?_
    refine h_iconst (v := 2) dX6_searchLayings_39 (by decide) ?_
    refine h_aload_n dX6_searchLayings_40 rfl 0 rfl ?_
    refine gf_5_0 dX6_searchLayings_41 hl_X6_31 nl_80 zk_80 zp_80_0 ?_
    refine gf_7_9 dX6_searchLayings_44 hl_X6_45 nl_1 zk_1 ?_
    refine h_iconst (v := 4) dX6_searchLayings_47 (by decide) ?_
    refine h_min dX6_searchLayings_48 wt_764 wt_315 wt_15 wt_316 (h_frm (Nat.le_of_ble_eq_true rfl)) ?_
    refine h_imul dX6_searchLayings_51 ?_
    refine h_ishl dX6_searchLayings_52 ?_
    refine h_istore_n (L' := [(1, .int ((1 : Int32) <<< ((2 * (if 4 < (I 1 9) then 4 else (I 1 9))) &&& 31))), (0, .ref 80)]) dX6_searchLayings_53 rfl (by decide) rfl ?_
    refine h_iconst (v := 0) dX6_searchLayings_54 (by decide) ?_
    refine h_istore_n (L' := [(2, .int 0), (1, .int ((1 : Int32) <<< ((2 * (if 4 < (I 1 9) then 4 else (I 1 9))) &&& 31))), (0, .ref 80)]) dX6_searchLayings_55 rfl (by decide) rfl ?_
    refine h_pick [2, 1, 0] [(0, .ref 80), (1, .int ((1 : Int32) <<< ((2 * (if 4 < (I 1 9) then 4 else (I 1 9))) &&& 31))), (2, .int 0)] rfl ?_
    exact k1 c1
  ·
    refine h_aload_n dX6_searchLayings_18 rfl 0 rfl ?_
    refine gf_5_4 dX6_searchLayings_19 hl_X6_25 nl_80 zk_80 zp_80_4 ?_
    refine h_iload_n dX6_searchLayings_22 rfl 1 rfl ?_
    refine h_iconst (v := (-1)) dX6_searchLayings_23 (by decide) ?_
    refine h_iast dX6_searchLayings_24 nl_85 zk_85 (by rw [zn_85]; exact k2 c1) ?_
    refine h_aload_n dX6_searchLayings_25 rfl 0 rfl ?_
    refine gf_5_5 dX6_searchLayings_26 hl_X6_28 nl_80 zk_80 zp_80_5 ?_
    refine h_iload_n dX6_searchLayings_29 rfl 1 rfl ?_
    refine h_iconst (v := (-1)) dX6_searchLayings_30 (by decide) ?_
    refine h_iast dX6_searchLayings_31 nl_86 zk_86 (by rw [zn_86]; exact k2 c1) ?_
    refine h_iinc (v := (x1 + 1)) (L' := [(1, .int (x1 + 1)), (0, .ref 80)]) dX6_searchLayings_32 1 rfl rfl (by decide) rfl ?_
    refine h_goto (tgt := 12) dX6_searchLayings_35 (by decide) ?_
    refine h_pick [1, 0] [(0, .ref 80), (1, .int (x1 + 1))] rfl ?_
    exact k3 c1
set_option maxHeartbeats 1000000 in
set_option maxRecDepth 4000 in
theorem sg_X6_searchLayings_56 {E : HEn} {d : Nat} {Q : Option Value → HIh → Prop} {I : HIh} {x1 : Int32} {x2 : Int32}
    (k1 : x1 ≤ x2 → Q none I)
    (k2 : ¬ x1 ≤ x2 → HCall E me_X6_fits (d + 3) [.ref 80, .int x2] I (fun v9 J => HGo E (mF E (d + 4) Q) me_X6_searchLayings 66 [(0, .ref 80), (1, .int x1), (2, .int x2)] (v9.toList ++ []) J))
    : HGo E (mF E (d + 4) Q) me_X6_searchLayings 56 [(0, .ref 80), (1, .int x1), (2, .int x2)] [] I := by
  refine h_iload_n dX6_searchLayings_56 rfl 2 rfl ?_
  refine h_iload_n dX6_searchLayings_57 rfl 1 rfl ?_
  refine h_icmp_ge (tgt := 80) dX6_searchLayings_58 (by decide) (fun c1 => ?_) (fun c1 => ?_)
  ·
    exact h_vret dX6_searchLayings_80 rfl (k1 c1)
  ·
    refine h_aload_n dX6_searchLayings_61 rfl 0 rfl ?_
    refine h_iload_n dX6_searchLayings_62 rfl 2 rfl ?_
    refine h_invV (As := [.int x2]) (st := []) dX6_searchLayings_63 lk_X6_56 (h_room (by decide)) nl_80 zk_80 (by decide) rfl rfl rfl (Nat.le_of_ble_eq_true rfl) ?_
    exact k2 c1
set_option maxHeartbeats 1000000 in
set_option maxRecDepth 4000 in
theorem sg_X6_searchLayings_66 {E : HEn} {d : Nat} {Q : Option Value → HIh → Prop} {I : HIh} {x1 : Int32} {x2 : Int32} {s0 : Int32}
    (k1 : s0 = 0 → HGo E (mF E (d + 4) Q) me_X6_searchLayings 56 [(0, .ref 80), (1, .int x1), (2, .int (x2 + 1))] [] I)
    (k2 : ¬ s0 = 0 → HCall E me_X6_tally (d + 3) [.ref 80, .int x2] I (fun v9 J => HGo E (mF E (d + 4) Q) me_X6_searchLayings 74 [(0, .ref 80), (1, .int x1), (2, .int x2)] (v9.toList ++ []) J))
    : HGo E (mF E (d + 4) Q) me_X6_searchLayings 66 [(0, .ref 80), (1, .int x1), (2, .int x2)] [.int s0] I := by
  refine h_if_eq (tgt := 74) dX6_searchLayings_66 (by decide) (fun c1 => ?_) (fun c1 => ?_)
  ·
    refine h_iinc (v := (x2 + 1)) (L' := [(2, .int (x2 + 1)), (0, .ref 80), (1, .int x1)]) dX6_searchLayings_74 2 rfl rfl (by decide) rfl ?_
    refine h_goto (tgt := 56) dX6_searchLayings_77 (by decide) ?_
    refine h_pick [1, 2, 0] [(0, .ref 80), (1, .int x1), (2, .int (x2 + 1))] rfl ?_
    exact k1 c1
  ·
    refine h_aload_n dX6_searchLayings_69 rfl 0 rfl ?_
    refine h_iload_n dX6_searchLayings_70 rfl 2 rfl ?_
    refine h_invV (As := [.int x2]) (st := []) dX6_searchLayings_71 lk_X6_60 (h_room (by decide)) nl_80 zk_80 (by decide) rfl rfl rfl (Nat.le_of_ble_eq_true rfl) ?_
    exact k2 c1
set_option maxHeartbeats 1000000 in
set_option maxRecDepth 4000 in
theorem sg_X6_searchLayings_74 {E : HEn} {d : Nat} {Q : Option Value → HIh → Prop} {I : HIh} {x1 : Int32} {x2 : Int32}
    (k1 : HGo E (mF E (d + 4) Q) me_X6_searchLayings 56 [(0, .ref 80), (1, .int x1), (2, .int (x2 + 1))] [] I)
    : HGo E (mF E (d + 4) Q) me_X6_searchLayings 74 [(0, .ref 80), (1, .int x1), (2, .int x2)] [] I := by
  refine h_iinc (v := (x2 + 1)) (L' := [(2, .int (x2 + 1)), (0, .ref 80), (1, .int x1)]) dX6_searchLayings_74 2 rfl rfl (by decide) rfl ?_
  refine h_goto (tgt := 56) dX6_searchLayings_77 (by decide) ?_
  refine h_pick [1, 2, 0] [(0, .ref 80), (1, .int x1), (2, .int (x2 + 1))] rfl ?_
  exact k1
set_option maxHeartbeats 1000000 in
set_option maxRecDepth 4000 in
theorem sg_X6_figureOf_0 {E : HEn} {d : Nat} {Q : Option Value → HIh → Prop} {I : HIh} {v : Int32} {k : Int32}
    (k1 : Q (some (.int ((v >>> ((2 * (((I 1 9) - 1) - k)) &&& 31)) &&& 3))) I)
    : HGo E (mF E (d + 1) Q) me_X6_figureOf 0 [(0, .ref 80), (1, .int v), (2, .int k)] [] I := by
  refine h_iload_n dX6_figureOf_0 rfl 1 rfl ?_
  refine h_iconst (v := 2) dX6_figureOf_1 (by decide) ?_
  refine h_aload_n dX6_figureOf_2 rfl 0 rfl ?_
  refine gf_5_0 dX6_figureOf_3 hl_X6_31 nl_80 zk_80 zp_80_0 ?_
  refine gf_7_9 dX6_figureOf_6 hl_X6_45 nl_1 zk_1 ?_
  refine h_iconst (v := 1) dX6_figureOf_9 (by decide) ?_
  refine h_isub dX6_figureOf_10 ?_
  refine h_iload_n dX6_figureOf_11 rfl 2 rfl ?_
  refine h_isub dX6_figureOf_12 ?_
  refine h_imul dX6_figureOf_13 ?_
  refine h_ishr dX6_figureOf_14 ?_
  refine h_iconst (v := 3) dX6_figureOf_15 (by decide) ?_
  refine h_iand dX6_figureOf_16 ?_
  exact h_iret dX6_figureOf_17 rfl (k1)
set_option maxHeartbeats 1000000 in
set_option maxRecDepth 4000 in
theorem sg_X6_fits_0 {E : HEn} {d : Nat} {Q : Option Value → HIh → Prop} {I : HIh} {v : Int32}
    (k1 : HCall E me_X4_empty (d + 2) [.ref 81] I (fun v9 J => HGo E (mF E (d + 3) Q) me_X6_fits 7 [(0, .ref 80), (1, .int v)] (v9.toList ++ []) J))
    : HGo E (mF E (d + 3) Q) me_X6_fits 0 [(0, .ref 80), (1, .int v)] [] I := by
  refine h_aload_n dX6_fits_0 rfl 0 rfl ?_
  refine gf_5_1 dX6_fits_1 hl_X6_12 nl_80 zk_80 zp_80_1 ?_
  refine h_invV (As := []) (st := []) dX6_fits_4 lk_X6_64 (h_room (by decide)) nl_81 zk_81 (by decide) rfl rfl rfl (Nat.le_of_ble_eq_true rfl) ?_
  exact k1
set_option maxHeartbeats 1000000 in
set_option maxRecDepth 4000 in
theorem sg_X6_fits_7 {E : HEn} {d : Nat} {Q : Option Value → HIh → Prop} {I : HIh} {x1 : Int32}
    (k1 : HGo E (mF E (d + 3) Q) me_X6_fits 9 [(0, .ref 80), (1, .int x1), (2, .int 0)] [] I)
    : HGo E (mF E (d + 3) Q) me_X6_fits 7 [(0, .ref 80), (1, .int x1)] [] I := by
  refine h_iconst (v := 0) dX6_fits_7 (by decide) ?_
  refine h_istore_n (L' := [(2, .int 0), (0, .ref 80), (1, .int x1)]) dX6_fits_8 rfl (by decide) rfl ?_
  refine h_pick [1, 2, 0] [(0, .ref 80), (1, .int x1), (2, .int 0)] rfl ?_
  exact k1
set_option maxHeartbeats 1000000 in
set_option maxRecDepth 4000 in
theorem sg_X6_fits_9 {E : HEn} {d : Nat} {Q : Option Value → HIh → Prop} {I : HIh} {x1 : Int32} {x2 : Int32}
    (k1 : (I 1 9) ≤ x2 → HGo E (mF E (d + 3) Q) me_X6_fits 43 [(0, .ref 80), (2, .int 0)] [] I)
    (k2 : ¬ (I 1 9) ≤ x2 → HCall E me_X6_figureOf (d + 2) [.ref 80, .int x1, .int x2] I (fun v9 J => HGo E (mF E (d + 3) Q) me_X6_fits 32 [(0, .ref 80), (1, .int x1), (2, .int x2)] (v9.toList ++ [.int x2, .int 4, .ref 81]) J))
    : HGo E (mF E (d + 3) Q) me_X6_fits 9 [(0, .ref 80), (1, .int x1), (2, .int x2)] [] I := by
  refine h_iload_n dX6_fits_9 rfl 2 rfl ?_
  refine h_aload_n dX6_fits_10 rfl 0 rfl ?_
  refine gf_5_0 dX6_fits_11 hl_X6_31 nl_80 zk_80 zp_80_0 ?_
  refine gf_7_9 dX6_fits_14 hl_X6_45 nl_1 zk_1 ?_
  refine h_icmp_ge (tgt := 41) dX6_fits_17 (by decide) (fun c1 => ?_) (fun c1 => ?_)
  ·
    refine h_iconst (v := 0) dX6_fits_41 (by decide) ?_
    refine h_istore_n (L' := [(2, .int 0), (0, .ref 80), (1, .int x1)]) dX6_fits_42 rfl (by decide) rfl ?_
    refine h_pick [1, 0] [(0, .ref 80), (2, .int 0)] rfl ?_
    exact k1 c1
  ·
    refine h_aload_n dX6_fits_20 rfl 0 rfl ?_
    refine gf_5_1 dX6_fits_21 hl_X6_12 nl_80 zk_80 zp_80_1 ?_
    refine h_iconst (v := 4) dX6_fits_24 (by decide) ?_
    refine h_iload_n dX6_fits_25 rfl 2 rfl ?_
    refine h_aload_n dX6_fits_26 rfl 0 rfl ?_
    refine h_iload_n dX6_fits_27 rfl 1 rfl ?_
    refine h_iload_n dX6_fits_28 rfl 2 rfl ?_
    refine h_invV (As := [.int x1, .int x2]) (st := [.int x2, .int 4, .ref 81]) dX6_fits_29 lk_X6_67 (h_room (by decide)) nl_80 zk_80 (by decide) rfl rfl rfl (Nat.le_of_ble_eq_true rfl) ?_
    exact k2 c1
set_option maxHeartbeats 1000000 in
set_option maxRecDepth 4000 in
theorem sg_X6_fits_43 {E : HEn} {d : Nat} {Q : Option Value → HIh → Prop} {I : HIh} {x2 : Int32}
    (k1 : (I 80 6) ≤ x2 → Q (some (.int 1)) I)
    (k2 : ¬ (I 80 6) ≤ x2 → 6 ≤ x2 → Q (some (.int 1)) I)
    (k3 : ¬ (I 80 6) ≤ x2 → ¬ 6 ≤ x2 → vp_in x2 6)
    (k4 : ¬ (I 80 6) ≤ x2 → ¬ 6 ≤ x2 → HCall E me_X9_gainOf (d + 2) [.ref 1, .ref 81, .int (I 83 x2.toNatClampNeg)] I (fun v9 J => HGo E (mF E (d + 3) Q) me_X6_fits 74 [(0, .ref 80), (2, .int x2)] (v9.toList ++ []) J))
    : HGo E (mF E (d + 3) Q) me_X6_fits 43 [(0, .ref 80), (2, .int x2)] [] I := by
  refine h_iload_n dX6_fits_43 rfl 1 rfl ?_
  refine h_aload_n dX6_fits_44 rfl 0 rfl ?_
  refine gf_5_6 dX6_fits_45 hl_X6_35 nl_80 zk_80 ?_
  refine h_icmp_ge (tgt := 123) dX6_fits_48 (by decide) (fun c1 => ?_) (fun c1 => ?_)
  ·
    refine h_iconst (v := 1) dX6_fits_123 (by decide) ?_
    exact h_zret dX6_fits_124 rfl rfl (k1 c1)
  ·
    refine h_iload_n dX6_fits_51 rfl 1 rfl ?_
    refine h_bipush (v := 6) dX6_fits_52 (by decide) ?_
    refine h_icmp_ge (tgt := 123) dX6_fits_54 (by decide) (fun c2 => ?_) (fun c2 => ?_)
    ·
      refine h_iconst (v := 1) dX6_fits_123 (by decide) ?_
      exact h_zret dX6_fits_124 rfl rfl (k2 c1 c2)
    ·
      refine h_aload_n dX6_fits_57 rfl 0 rfl ?_
      refine gf_5_0 dX6_fits_58 hl_X6_31 nl_80 zk_80 zp_80_0 ?_
      refine h_aload_n dX6_fits_61 rfl 0 rfl ?_
      refine gf_5_1 dX6_fits_62 hl_X6_12 nl_80 zk_80 zp_80_1 ?_
      refine h_aload_n dX6_fits_65 rfl 0 rfl ?_
      refine gf_5_2 dX6_fits_66 hl_X6_18 nl_80 zk_80 zp_80_2 ?_
      refine h_iload_n dX6_fits_69 rfl 1 rfl ?_
      refine h_iald dX6_fits_70 nl_83 zk_83 (by rw [zn_83]; exact k3 c1 c2) ?_
      refine h_invV (As := [.ref 81, .int (I 83 x2.toNatClampNeg)]) (st := []) dX6_fits_71 lk_X6_74 (h_room (by decide)) nl_1 zk_1 (by decide) rfl rfl rfl (Nat.le_of_ble_eq_true rfl) ?_
      exact k4 c1 c2
set_option maxHeartbeats 1000000 in
set_option maxRecDepth 4000 in
theorem sg_X6_fits_32 {E : HEn} {d : Nat} {Q : Option Value → HIh → Prop} {I : HIh} {x1 : Int32} {x2 : Int32} {s0 : Int32} {s1 : Int32} {s2 : Int32}
    (k1 : HCall E me_X4_add (d + 2) [.ref 81, .int s2, .int s1, .int s0] I (fun v9 J => HGo E (mF E (d + 3) Q) me_X6_fits 35 [(0, .ref 80), (1, .int x1), (2, .int x2)] (v9.toList ++ []) J))
    : HGo E (mF E (d + 3) Q) me_X6_fits 32 [(0, .ref 80), (1, .int x1), (2, .int x2)] [.int s0, .int s1, .int s2, .ref 81] I := by
  refine h_invV (As := [.int s2, .int s1, .int s0]) (st := []) dX6_fits_32 lk_X6_70 (h_room (by decide)) nl_81 zk_81 (by decide) rfl rfl rfl (Nat.le_of_ble_eq_true rfl) ?_
  exact k1
set_option maxHeartbeats 1000000 in
set_option maxRecDepth 4000 in
theorem sg_X6_fits_74 {E : HEn} {d : Nat} {Q : Option Value → HIh → Prop} {I : HIh} {x2 : Int32} {s0 : Int32}
    (k1 : vp_in x2 6)
    (k2 : HCall E me_X9_worthOf (d + 2) [.ref 1, .int (I 83 x2.toNatClampNeg)] I (fun v9 J => HGo E (mF E (d + 3) Q) me_X6_fits 87 [(0, .ref 80), (2, .int x2)] (v9.toList ++ [.int s0]) J))
    : HGo E (mF E (d + 3) Q) me_X6_fits 74 [(0, .ref 80), (2, .int x2)] [.int s0] I := by
  refine h_aload_n dX6_fits_74 rfl 0 rfl ?_
  refine gf_5_0 dX6_fits_75 hl_X6_31 nl_80 zk_80 zp_80_0 ?_
  refine h_aload_n dX6_fits_78 rfl 0 rfl ?_
  refine gf_5_2 dX6_fits_79 hl_X6_18 nl_80 zk_80 zp_80_2 ?_
  refine h_iload_n dX6_fits_82 rfl 1 rfl ?_
  refine h_iald dX6_fits_83 nl_83 zk_83 (by rw [zn_83]; exact k1) ?_
  refine h_invV (As := [.int (I 83 x2.toNatClampNeg)]) (st := [.int s0]) dX6_fits_84 lk_X6_78 (h_room (by decide)) nl_1 zk_1 (by decide) rfl rfl rfl (Nat.le_of_ble_eq_true rfl) ?_
  exact k2
set_option maxHeartbeats 1000000 in
set_option maxRecDepth 4000 in
theorem sg_X6_fits_35 {E : HEn} {d : Nat} {Q : Option Value → HIh → Prop} {I : HIh} {x1 : Int32} {x2 : Int32}
    (k1 : HGo E (mF E (d + 3) Q) me_X6_fits 9 [(0, .ref 80), (1, .int x1), (2, .int (x2 + 1))] [] I)
    : HGo E (mF E (d + 3) Q) me_X6_fits 35 [(0, .ref 80), (1, .int x1), (2, .int x2)] [] I := by
  refine h_iinc (v := (x2 + 1)) (L' := [(2, .int (x2 + 1)), (0, .ref 80), (1, .int x1)]) dX6_fits_35 2 rfl rfl (by decide) rfl ?_
  refine h_goto (tgt := 9) dX6_fits_38 (by decide) ?_
  refine h_pick [1, 2, 0] [(0, .ref 80), (1, .int x1), (2, .int (x2 + 1))] rfl ?_
  exact k1
set_option maxHeartbeats 1000000 in
set_option maxRecDepth 4000 in
theorem sg_X6_fits_87 {E : HEn} {d : Nat} {Q : Option Value → HIh → Prop} {I : HIh} {x2 : Int32} {s0 : Int32} {s1 : Int32}
    (k1 : vp_in x2 6)
    (k2 : (s1 + s0) = (I 84 x2.toNatClampNeg) → vp_in x2 6)
    (k3 : (s1 + s0) = (I 84 x2.toNatClampNeg) → HCall E me_X9_throwCoin (d + 2) [.ref 1, .ref 81, .int 0, .int (I 83 x2.toNatClampNeg)] I (fun v9 J => HGo E (mF E (d + 3) Q) me_X6_fits 117 [(0, .ref 80), (2, .int x2)] (v9.toList ++ []) J))
    (k4 : ¬ (s1 + s0) = (I 84 x2.toNatClampNeg) → Q (some (.int 0)) I)
    : HGo E (mF E (d + 3) Q) me_X6_fits 87 [(0, .ref 80), (2, .int x2)] [.int s0, .int s1] I := by
  refine h_iadd dX6_fits_87 ?_
  refine h_aload_n dX6_fits_88 rfl 0 rfl ?_
  refine gf_5_3 dX6_fits_89 hl_X6_22 nl_80 zk_80 zp_80_3 ?_
  refine h_iload_n dX6_fits_92 rfl 1 rfl ?_
  refine h_iald dX6_fits_93 nl_84 zk_84 (by rw [zn_84]; exact k1) ?_
  refine h_icmp_eq (tgt := 99) dX6_fits_94 (by decide) (fun c1 => ?_) (fun c1 => ?_)
  ·
    refine h_aload_n dX6_fits_99 rfl 0 rfl ?_
    refine gf_5_0 dX6_fits_100 hl_X6_31 nl_80 zk_80 zp_80_0 ?_
    refine h_aload_n dX6_fits_103 rfl 0 rfl ?_
    refine gf_5_1 dX6_fits_104 hl_X6_12 nl_80 zk_80 zp_80_1 ?_
    refine h_iconst (v := 0) dX6_fits_107 (by decide) ?_
    refine h_aload_n dX6_fits_108 rfl 0 rfl ?_
    refine gf_5_2 dX6_fits_109 hl_X6_18 nl_80 zk_80 zp_80_2 ?_
    refine h_iload_n dX6_fits_112 rfl 1 rfl ?_
    refine h_iald dX6_fits_113 nl_83 zk_83 (by rw [zn_83]; exact k2 c1) ?_
    refine h_invV (As := [.ref 81, .int 0, .int (I 83 x2.toNatClampNeg)]) (st := []) dX6_fits_114 lk_X6_82 (h_room (by decide)) nl_1 zk_1 (by decide) rfl rfl rfl (Nat.le_of_ble_eq_true rfl) ?_
    exact k3 c1
  ·
    refine h_iconst (v := 0) dX6_fits_97 (by decide) ?_
    exact h_zret dX6_fits_98 rfl rfl (k4 c1)
set_option maxHeartbeats 1000000 in
set_option maxRecDepth 4000 in
theorem sg_X6_fits_117 {E : HEn} {d : Nat} {Q : Option Value → HIh → Prop} {I : HIh} {x2 : Int32}
    (k1 : HGo E (mF E (d + 3) Q) me_X6_fits 43 [(0, .ref 80), (2, .int (x2 + 1))] [] I)
    : HGo E (mF E (d + 3) Q) me_X6_fits 117 [(0, .ref 80), (2, .int x2)] [] I := by
  refine h_iinc (v := (x2 + 1)) (L' := [(2, .int (x2 + 1)), (0, .ref 80)]) dX6_fits_117 1 rfl rfl (by decide) rfl ?_
  refine h_goto (tgt := 43) dX6_fits_120 (by decide) ?_
  refine h_pick [1, 0] [(0, .ref 80), (2, .int (x2 + 1))] rfl ?_
  exact k1
set_option maxHeartbeats 1000000 in
set_option maxRecDepth 4000 in
theorem sg_X6_tally_0 {E : HEn} {d : Nat} {Q : Option Value → HIh → Prop} {I : HIh} {v : Int32}
    (k1 : ¬ ((setI I 80 (upd (I 80) 7 ((I 80 7) + 1))) 80 8) = (-1) → HGo E (mF E (d + 2) Q) me_X6_tally 32 [(0, .ref 80), (1, .int v), (2, .int 0)] [] (setI (setI I 80 (upd (I 80) 7 ((I 80 7) + 1))) 80 (upd ((setI I 80 (upd (I 80) 7 ((I 80 7) + 1))) 80) 8 ((setI I 80 (upd (I 80) 7 ((I 80 7) + 1))) 80 8))))
    (k2 : ((setI I 80 (upd (I 80) 7 ((I 80 7) + 1))) 80 8) = (-1) → HGo E (mF E (d + 2) Q) me_X6_tally 32 [(0, .ref 80), (1, .int v), (2, .int 0)] [] (setI (setI I 80 (upd (I 80) 7 ((I 80 7) + 1))) 80 (upd ((setI I 80 (upd (I 80) 7 ((I 80 7) + 1))) 80) 8 v)))
    : HGo E (mF E (d + 2) Q) me_X6_tally 0 [(0, .ref 80), (1, .int v)] [] I := by
  refine h_aload_n dX6_tally_0 rfl 0 rfl ?_
  refine h_dup dX6_tally_1 rfl ?_
  refine gf_5_7 dX6_tally_2 hl_X6_39 nl_80 zk_80 ?_
  refine h_iconst (v := 1) dX6_tally_5 (by decide) ?_
  refine h_iadd dX6_tally_6 ?_
  refine pf_5_7 dX6_tally_7 hl_X6_39 nl_80 zk_80 ?_
  refine h_aload_n dX6_tally_10 rfl 0 rfl ?_
  refine h_aload_n dX6_tally_11 rfl 0 rfl ?_
  refine gf_5_8 dX6_tally_12 hl_X6_42 nl_80 zk_80 ?_
  refine h_iconst (v := (-1)) dX6_tally_15 (by decide) ?_
  refine h_icmp_ne (tgt := 23) dX6_tally_16 (by decide) (fun c1 => ?_) (fun c1 => ?_)
  ·
    refine h_aload_n dX6_tally_23 rfl 0 rfl ?_
    refine gf_5_8 dX6_tally_24 hl_X6_42 nl_80 zk_80 ?_
    refine pf_5_8 dX6_tally_27 hl_X6_42 nl_80 zk_80 ?_
    refine h_iconst (v := 0) dX6_tally_30 (by decide) ?_
    refine h_istore_n (L' := [(2, .int 0), (0, .ref 80), (1, .int v)]) dX6_tally_31 rfl (by decide) rfl ?_
    refine h_pick [1, 2, 0] [(0, .ref 80), (1, .int v), (2, .int 0)] rfl ?_
    exact k1 c1
  ·
    refine h_iload_n dX6_tally_19 rfl 1 rfl ?_
    refine h_goto (tgt := 27) dX6_tally_20 (by decide) ?_
    refine pf_5_8 dX6_tally_27 hl_X6_42 nl_80 zk_80 ?_
    refine h_iconst (v := 0) dX6_tally_30 (by decide) ?_
    refine h_istore_n (L' := [(2, .int 0), (0, .ref 80), (1, .int v)]) dX6_tally_31 rfl (by decide) rfl ?_
    refine h_pick [1, 2, 0] [(0, .ref 80), (1, .int v), (2, .int 0)] rfl ?_
    exact k2 c1
set_option maxHeartbeats 1000000 in
set_option maxRecDepth 4000 in
theorem sg_X6_tally_32 {E : HEn} {d : Nat} {Q : Option Value → HIh → Prop} {I : HIh} {x1 : Int32} {x2 : Int32}
    (k1 : (I 1 9) ≤ x2 → Q none I)
    (k2 : ¬ (I 1 9) ≤ x2 → 6 ≤ x2 → Q none I)
    (k3 : ¬ (I 1 9) ≤ x2 → ¬ 6 ≤ x2 → HCall E me_X6_figureOf (d + 1) [.ref 80, .int x1, .int x2] I (fun v9 J => HGo E (mF E (d + 2) Q) me_X6_tally 55 [(0, .ref 80), (1, .int x1), (2, .int x2)] (v9.toList ++ []) J))
    : HGo E (mF E (d + 2) Q) me_X6_tally 32 [(0, .ref 80), (1, .int x1), (2, .int x2)] [] I := by
  refine h_iload_n dX6_tally_32 rfl 2 rfl ?_
  refine h_aload_n dX6_tally_33 rfl 0 rfl ?_
  refine gf_5_0 dX6_tally_34 hl_X6_31 nl_80 zk_80 zp_80_0 ?_
  refine gf_7_9 dX6_tally_37 hl_X6_45 nl_1 zk_1 ?_
  refine h_icmp_ge (tgt := 108) dX6_tally_40 (by decide) (fun c1 => ?_) (fun c1 => ?_)
  ·
    exact h_vret dX6_tally_108 rfl (k1 c1)
  ·
    refine h_iload_n dX6_tally_43 rfl 2 rfl ?_
    refine h_bipush (v := 6) dX6_tally_44 (by decide) ?_
    refine h_icmp_ge (tgt := 108) dX6_tally_46 (by decide) (fun c2 => ?_) (fun c2 => ?_)
    ·
      exact h_vret dX6_tally_108 rfl (k2 c1 c2)
    ·
      refine h_aload_n dX6_tally_49 rfl 0 rfl ?_
      refine h_iload_n dX6_tally_50 rfl 1 rfl ?_
      refine h_iload_n dX6_tally_51 rfl 2 rfl ?_
      refine h_invV (As := [.int x1, .int x2]) (st := []) dX6_tally_52 lk_X6_67 (h_room (by decide)) nl_80 zk_80 (by decide) rfl rfl rfl (Nat.le_of_ble_eq_true rfl) ?_
      exact k3 c1 c2
set_option maxHeartbeats 1000000 in
set_option maxRecDepth 4000 in
theorem sg_X6_tally_55 {E : HEn} {d : Nat} {Q : Option Value → HIh → Prop} {I : HIh} {x1 : Int32} {x2 : Int32} {s0 : Int32}
    (k1 : vp_in x2 6)
    (k2 : ¬ (I 85 x2.toNatClampNeg) = (-1) → vp_in x2 6)
    (k3 : ¬ (I 85 x2.toNatClampNeg) = (-1) → HGo E (mF E (d + 2) Q) me_X6_tally 32 [(0, .ref 80), (1, .int x1), (2, .int (x2 + 1))] [] (setI (setI I 85 (upd (I 85) x2.toNatClampNeg (if s0 < (I 85 x2.toNatClampNeg) then s0 else (I 85 x2.toNatClampNeg)))) 86 (upd ((setI I 85 (upd (I 85) x2.toNatClampNeg (if s0 < (I 85 x2.toNatClampNeg) then s0 else (I 85 x2.toNatClampNeg)))) 86) x2.toNatClampNeg (if ((setI I 85 (upd (I 85) x2.toNatClampNeg (if s0 < (I 85 x2.toNatClampNeg) then s0 else (I 85 x2.toNatClampNeg)))) 86 x2.toNatClampNeg) < s0 then s0 else ((setI I 85 (upd (I 85) x2.toNatClampNeg (if s0 < (I 85 x2.toNatClampNeg) then s0 else (I 85 x2.toNatClampNeg)))) 86 x2.toNatClampNeg)))))
    (k4 : (I 85 x2.toNatClampNeg) = (-1) → vp_in x2 6)
    (k5 : (I 85 x2.toNatClampNeg) = (-1) → HGo E (mF E (d + 2) Q) me_X6_tally 32 [(0, .ref 80), (1, .int x1), (2, .int (x2 + 1))] [] (setI (setI I 85 (upd (I 85) x2.toNatClampNeg s0)) 86 (upd ((setI I 85 (upd (I 85) x2.toNatClampNeg s0)) 86) x2.toNatClampNeg (if ((setI I 85 (upd (I 85) x2.toNatClampNeg s0)) 86 x2.toNatClampNeg) < s0 then s0 else ((setI I 85 (upd (I 85) x2.toNatClampNeg s0)) 86 x2.toNatClampNeg)))))
    : HGo E (mF E (d + 2) Q) me_X6_tally 55 [(0, .ref 80), (1, .int x1), (2, .int x2)] [.int s0] I := by
  refine h_istore_n (L' := [(3, .int s0), (0, .ref 80), (1, .int x1), (2, .int x2)]) dX6_tally_55 rfl (by decide) rfl ?_
  refine h_aload_n dX6_tally_56 rfl 1 rfl ?_
  refine gf_5_4 dX6_tally_57 hl_X6_25 nl_80 zk_80 zp_80_4 ?_
  refine h_iload_n dX6_tally_60 rfl 3 rfl ?_
  refine h_aload_n dX6_tally_61 rfl 1 rfl ?_
  refine gf_5_4 dX6_tally_62 hl_X6_25 nl_80 zk_80 zp_80_4 ?_
  refine h_iload_n dX6_tally_65 rfl 3 rfl ?_
  refine h_iald dX6_tally_66 nl_85 zk_85 (by rw [zn_85]; exact k1) ?_
  refine h_iconst (v := (-1)) dX6_tally_67 (by decide) ?_
  refine h_icmp_ne (tgt := 75) dX6_tally_68 (by decide) (fun c1 => ?_) (fun c1 => ?_)
  ·
    refine h_aload_n dX6_tally_75 rfl 1 rfl ?_
    refine gf_5_4 dX6_tally_76 hl_X6_25 nl_80 zk_80 zp_80_4 ?_
    refine h_iload_n dX6_tally_79 rfl 3 rfl ?_
    refine h_iald dX6_tally_80 nl_85 zk_85 (by rw [zn_85]; exact k2 c1) ?_
    refine h_iload_n dX6_tally_81 rfl 0 rfl ?_
    refine h_min dX6_tally_82 wt_764 wt_315 wt_15 wt_316 (h_frm (Nat.le_of_ble_eq_true rfl)) ?_
    refine h_iast dX6_tally_85 nl_85 zk_85 (by rw [zn_85]; exact k2 c1) ?_
    refine h_aload_n dX6_tally_86 rfl 1 rfl ?_
    refine gf_5_5 dX6_tally_87 hl_X6_28 nl_80 zk_80 zp_80_5 ?_
    refine h_iload_n dX6_tally_90 rfl 3 rfl ?_
    refine h_aload_n dX6_tally_91 rfl 1 rfl ?_
    refine gf_5_5 dX6_tally_92 hl_X6_28 nl_80 zk_80 zp_80_5 ?_
    refine h_iload_n dX6_tally_95 rfl 3 rfl ?_
    refine h_iald dX6_tally_96 nl_86 zk_86 (by rw [zn_86]; exact k2 c1) ?_
    refine h_iload_n dX6_tally_97 rfl 0 rfl ?_
    refine h_max dX6_tally_98 wt_782 wt_553 wt_15 wt_554 (h_frm (Nat.le_of_ble_eq_true rfl)) ?_
    refine h_iast dX6_tally_101 nl_86 zk_86 (by rw [zn_86]; exact k2 c1) ?_
    refine h_iinc (v := (x2 + 1)) (L' := [(2, .int (x2 + 1)), (3, .int s0), (0, .ref 80), (1, .int x1)]) dX6_tally_102 3 rfl rfl (by decide) rfl ?_
    refine h_goto (tgt := 32) dX6_tally_105 (by decide) ?_
    refine h_pick [2, 3, 0] [(0, .ref 80), (1, .int x1), (2, .int (x2 + 1))] rfl ?_
    exact k3 c1
  ·
    refine h_iload_n dX6_tally_71 rfl 0 rfl ?_
    refine h_goto (tgt := 85) dX6_tally_72 (by decide) ?_
    refine h_iast dX6_tally_85 nl_85 zk_85 (by rw [zn_85]; exact k4 c1) ?_
    refine h_aload_n dX6_tally_86 rfl 1 rfl ?_
    refine gf_5_5 dX6_tally_87 hl_X6_28 nl_80 zk_80 zp_80_5 ?_
    refine h_iload_n dX6_tally_90 rfl 3 rfl ?_
    refine h_aload_n dX6_tally_91 rfl 1 rfl ?_
    refine gf_5_5 dX6_tally_92 hl_X6_28 nl_80 zk_80 zp_80_5 ?_
    refine h_iload_n dX6_tally_95 rfl 3 rfl ?_
    refine h_iald dX6_tally_96 nl_86 zk_86 (by rw [zn_86]; exact k4 c1) ?_
    refine h_iload_n dX6_tally_97 rfl 0 rfl ?_
    refine h_max dX6_tally_98 wt_782 wt_553 wt_15 wt_554 (h_frm (Nat.le_of_ble_eq_true rfl)) ?_
    refine h_iast dX6_tally_101 nl_86 zk_86 (by rw [zn_86]; exact k4 c1) ?_
    refine h_iinc (v := (x2 + 1)) (L' := [(2, .int (x2 + 1)), (3, .int s0), (0, .ref 80), (1, .int x1)]) dX6_tally_102 3 rfl rfl (by decide) rfl ?_
    refine h_goto (tgt := 32) dX6_tally_105 (by decide) ?_
    refine h_pick [2, 3, 0] [(0, .ref 80), (1, .int x1), (2, .int (x2 + 1))] rfl ?_
    exact k5 c1
set_option maxHeartbeats 1000000 in
set_option maxRecDepth 4000 in
theorem sg_X7_append_0 {E : HEn} {d : Nat} {Q : Option Value → HIh → Prop} {I : HIh} {b : Int32}
    (k1 : (I 19 2) < 0 → Q none I)
    (k2 : ¬ (I 19 2) < 0 → 200 ≤ (I 19 2) → Q none I)
    (k3 : ¬ (I 19 2) < 0 → ¬ 200 ≤ (I 19 2) → vp_in (I 19 2) 200)
    (k4 : ¬ (I 19 2) < 0 → ¬ 200 ≤ (I 19 2) → Q none (setI (setI I 20 (upd (I 20) (I 19 2).toNatClampNeg b)) 19 (upd ((setI I 20 (upd (I 20) (I 19 2).toNatClampNeg b)) 19) 2 (((setI I 20 (upd (I 20) (I 19 2).toNatClampNeg b)) 19 2) + 1))))
    : HGo E (mF E (d + 1) Q) me_X7_append 0 [(0, .ref 19), (1, .int b)] [] I := by
  refine h_aload_n dX7_append_0 rfl 0 rfl ?_
  refine gf_6_2 dX7_append_1 hl_X7_22 nl_19 zk_19 ?_
  refine h_if_lt (tgt := 37) dX7_append_4 (by decide) (fun c1 => ?_) (fun c1 => ?_)
  ·
    exact h_vret dX7_append_37 rfl (k1 c1)
  ·
    refine h_aload_n dX7_append_7 rfl 0 rfl ?_
    refine gf_6_2 dX7_append_8 hl_X7_22 nl_19 zk_19 ?_
    refine h_sipush (v := 200) dX7_append_11 (by decide) ?_
    refine h_icmp_ge (tgt := 37) dX7_append_14 (by decide) (fun c2 => ?_) (fun c2 => ?_)
    ·
      exact h_vret dX7_append_37 rfl (k2 c1 c2)
    ·
      refine h_aload_n dX7_append_17 rfl 0 rfl ?_
      refine gf_6_0 dX7_append_18 hl_X7_9 nl_19 zk_19 zp_19_0 ?_
      refine h_aload_n dX7_append_21 rfl 0 rfl ?_
      refine gf_6_2 dX7_append_22 hl_X7_22 nl_19 zk_19 ?_
      refine h_iload_n dX7_append_25 rfl 1 rfl ?_
      refine h_iast dX7_append_26 nl_20 zk_20 (by rw [zn_20]; exact k3 c1 c2) ?_
      refine h_aload_n dX7_append_27 rfl 0 rfl ?_
      refine h_dup dX7_append_28 rfl ?_
      refine gf_6_2 dX7_append_29 hl_X7_22 nl_19 zk_19 ?_
      refine h_iconst (v := 1) dX7_append_32 (by decide) ?_
      refine h_iadd dX7_append_33 ?_
      refine pf_6_2 dX7_append_34 hl_X7_22 nl_19 zk_19 ?_
      exact h_vret dX7_append_37 rfl (k4 c1 c2)
set_option maxHeartbeats 1000000 in
set_option maxRecDepth 4000 in
theorem sg_X7_readOver_0 {E : HEn} {d : Nat} {Q : Option Value → HIh → Prop} {I : HIh} 
    (k1 : HCall E me_X9_copyFrom (d + 5) [.ref 21, .ref 1] I (fun v9 J => HGo E (mF E (d + 6) Q) me_X7_readOver 8 [(0, .ref 19)] (v9.toList ++ []) J))
    : HGo E (mF E (d + 6) Q) me_X7_readOver 0 [(0, .ref 19), (1, .ref 1)] [] I := by
  refine h_aload_n dX7_readOver_0 rfl 0 rfl ?_
  refine gf_6_1 dX7_readOver_1 hl_X7_18 nl_19 zk_19 zp_19_1 ?_
  refine h_aload_n dX7_readOver_4 rfl 1 rfl ?_
  refine h_pick [0] [(0, .ref 19)] rfl ?_
  refine h_invV (As := [.ref 1]) (st := []) dX7_readOver_5 lk_X7_26 (h_room (by decide)) nl_21 zk_21 (by decide) rfl rfl rfl (Nat.le_of_ble_eq_true rfl) ?_
  exact k1
set_option maxHeartbeats 1000000 in
set_option maxRecDepth 4000 in
theorem sg_X7_readOver_8 {E : HEn} {d : Nat} {Q : Option Value → HIh → Prop} {I : HIh} 
    (k1 : HCall E me_X7_nextToken (d + 5) [.ref 19] (setI I 19 (upd (I 19) 5 0)) (fun v9 J => HGo E (mF E (d + 6) Q) me_X7_readOver 17 [(0, .ref 19)] (v9.toList ++ []) J))
    : HGo E (mF E (d + 6) Q) me_X7_readOver 8 [(0, .ref 19)] [] I := by
  refine h_aload_n dX7_readOver_8 rfl 0 rfl ?_
  refine h_iconst (v := 0) dX7_readOver_9 (by decide) ?_
  refine pf_6_5 dX7_readOver_10 hl_X7_30 nl_19 zk_19 ?_
  refine h_aload_n dX7_readOver_13 rfl 0 rfl ?_
  refine h_invV (As := []) (st := []) dX7_readOver_14 lk_X7_33 (h_room (by decide)) nl_19 zk_19 (by decide) rfl rfl rfl (Nat.le_of_ble_eq_true rfl) ?_
  exact k1
set_option maxHeartbeats 1000000 in
set_option maxRecDepth 4000 in
theorem sg_X7_readOver_17 {E : HEn} {d : Nat} {Q : Option Value → HIh → Prop} {I : HIh} 
    (k1 : HGo E (mF E (d + 6) Q) me_X7_readOver 22 [(0, .ref 19)] [] (setI I 19 (upd (I 19) 3 1)))
    : HGo E (mF E (d + 6) Q) me_X7_readOver 17 [(0, .ref 19)] [] I := by
  refine h_aload_n dX7_readOver_17 rfl 0 rfl ?_
  refine h_iconst (v := 1) dX7_readOver_18 (by decide) ?_
  refine pf_6_3 dX7_readOver_19 hl_X7_36 nl_19 zk_19 ?_
  exact k1
set_option maxHeartbeats 1000000 in
set_option maxRecDepth 4000 in
theorem sg_X7_readOver_22 {E : HEn} {d : Nat} {Q : Option Value → HIh → Prop} {I : HIh} 
    (k1 : 10 < (I 19 3) → Q (some (.int (I 19 4))) I)
    (k2 : ¬ 10 < (I 19 3) → HCall E me_X7_readLine (d + 5) [.ref 19] I (fun v9 J => HGo E (mF E (d + 6) Q) me_X7_readOver 35 [(0, .ref 19)] (v9.toList ++ []) J))
    : HGo E (mF E (d + 6) Q) me_X7_readOver 22 [(0, .ref 19)] [] I := by
  refine h_aload_n dX7_readOver_22 rfl 0 rfl ?_
  refine gf_6_3 dX7_readOver_23 hl_X7_36 nl_19 zk_19 ?_
  refine h_bipush (v := 10) dX7_readOver_26 (by decide) ?_
  refine h_icmp_gt (tgt := 90) dX7_readOver_28 (by decide) (fun c1 => ?_) (fun c1 => ?_)
  ·
    refine h_aload_n dX7_readOver_90 rfl 0 rfl ?_
    refine gf_6_4 dX7_readOver_91 hl_X7_43 nl_19 zk_19 ?_
    exact h_iret dX7_readOver_94 rfl (k1 c1)
  ·
    refine h_aload_n dX7_readOver_31 rfl 0 rfl ?_
    refine h_invV (As := []) (st := []) dX7_readOver_32 lk_X7_39 (h_room (by decide)) nl_19 zk_19 (by decide) rfl rfl rfl (Nat.le_of_ble_eq_true rfl) ?_
    exact k2 c1
set_option maxHeartbeats 1000000 in
set_option maxRecDepth 4000 in
theorem sg_X7_readOver_35 {E : HEn} {d : Nat} {Q : Option Value → HIh → Prop} {I : HIh} {s0 : Int32}
    (k1 : ¬ s0 = 0 → ¬ (I 19 6) = 0 → HCall E me_X7_isSemicolon (d + 5) [.ref 19] I (fun v9 J => HGo E (mF E (d + 6) Q) me_X7_readOver 56 [(0, .ref 19)] (v9.toList ++ []) J))
    (k2 : ¬ s0 = 0 → (I 19 6) = 0 → Q (some (.int (-1))) I)
    (k3 : s0 = 0 → Q (some (.int (I 19 4))) I)
    : HGo E (mF E (d + 6) Q) me_X7_readOver 35 [(0, .ref 19)] [.int s0] I := by
  refine h_if_ne (tgt := 43) dX7_readOver_35 (by decide) (fun c1 => ?_) (fun c1 => ?_)
  ·
    refine h_aload_n dX7_readOver_43 rfl 0 rfl ?_
    refine gf_6_6 dX7_readOver_44 hl_X7_46 nl_19 zk_19 ?_
    refine h_if_ne (tgt := 52) dX7_readOver_47 (by decide) (fun c2 => ?_) (fun c2 => ?_)
    ·
      refine h_aload_n dX7_readOver_52 rfl 0 rfl ?_
      refine h_invV (As := []) (st := []) dX7_readOver_53 lk_X7_49 (h_room (by decide)) nl_19 zk_19 (by decide) rfl rfl rfl (Nat.le_of_ble_eq_true rfl) ?_
      exact k1 c1 c2
    ·
      refine h_iconst (v := (-1)) dX7_readOver_50 (by decide) ?_
      exact h_iret dX7_readOver_51 rfl (k2 c1 c2)
  ·
    refine h_aload_n dX7_readOver_38 rfl 0 rfl ?_
    refine gf_6_4 dX7_readOver_39 hl_X7_43 nl_19 zk_19 ?_
    exact h_iret dX7_readOver_42 rfl (k3 c1)
set_option maxHeartbeats 1000000 in
set_option maxRecDepth 4000 in
theorem sg_X7_readOver_56 {E : HEn} {d : Nat} {Q : Option Value → HIh → Prop} {I : HIh} {s0 : Int32}
    (k1 : s0 = 0 → Q (some (.int (I 19 4))) I)
    (k2 : ¬ s0 = 0 → ¬ (I 19 3) = 10 → HCall E me_X7_nextToken (d + 5) [.ref 19] I (fun v9 J => HGo E (mF E (d + 6) Q) me_X7_readOver 77 [(0, .ref 19)] (v9.toList ++ []) J))
    (k3 : ¬ s0 = 0 → (I 19 3) = 10 → Q (some (.int (I 19 4))) I)
    : HGo E (mF E (d + 6) Q) me_X7_readOver 56 [(0, .ref 19)] [.int s0] I := by
  refine h_if_eq (tgt := 68) dX7_readOver_56 (by decide) (fun c1 => ?_) (fun c1 => ?_)
  ·
    refine h_aload_n dX7_readOver_68 rfl 0 rfl ?_
    refine gf_6_4 dX7_readOver_69 hl_X7_43 nl_19 zk_19 ?_
    exact h_iret dX7_readOver_72 rfl (k1 c1)
  ·
    refine h_aload_n dX7_readOver_59 rfl 0 rfl ?_
    refine gf_6_3 dX7_readOver_60 hl_X7_36 nl_19 zk_19 ?_
    refine h_bipush (v := 10) dX7_readOver_63 (by decide) ?_
    refine h_icmp_ne (tgt := 73) dX7_readOver_65 (by decide) (fun c2 => ?_) (fun c2 => ?_)
    ·
      refine h_aload_n dX7_readOver_73 rfl 0 rfl ?_
      refine h_invV (As := []) (st := []) dX7_readOver_74 lk_X7_33 (h_room (by decide)) nl_19 zk_19 (by decide) rfl rfl rfl (Nat.le_of_ble_eq_true rfl) ?_
      exact k2 c1 c2
    ·
      refine h_aload_n dX7_readOver_68 rfl 0 rfl ?_
      refine gf_6_4 dX7_readOver_69 hl_X7_43 nl_19 zk_19 ?_
      exact h_iret dX7_readOver_72 rfl (k3 c1 c2)
set_option maxHeartbeats 1000000 in
set_option maxRecDepth 4000 in
theorem sg_X7_readOver_77 {E : HEn} {d : Nat} {Q : Option Value → HIh → Prop} {I : HIh} 
    (k1 : HGo E (mF E (d + 6) Q) me_X7_readOver 22 [(0, .ref 19)] [] (setI I 19 (upd (I 19) 3 ((I 19 3) + 1))))
    : HGo E (mF E (d + 6) Q) me_X7_readOver 77 [(0, .ref 19)] [] I := by
  refine h_aload_n dX7_readOver_77 rfl 0 rfl ?_
  refine h_dup dX7_readOver_78 rfl ?_
  refine gf_6_3 dX7_readOver_79 hl_X7_36 nl_19 zk_19 ?_
  refine h_iconst (v := 1) dX7_readOver_82 (by decide) ?_
  refine h_iadd dX7_readOver_83 ?_
  refine pf_6_3 dX7_readOver_84 hl_X7_36 nl_19 zk_19 ?_
  refine h_goto (tgt := 22) dX7_readOver_87 (by decide) ?_
  exact k1
set_option maxHeartbeats 1000000 in
set_option maxRecDepth 4000 in
theorem sg_X7_nextToken_0 {E : HEn} {d : Nat} {Q : Option Value → HIh → Prop} {I : HIh} 
    (k1 : HGo E (mF E (d + 2) Q) me_X7_nextToken 8 [(0, .ref 19)] [] (setI I 19 (upd (I 19) 4 (I 19 5))))
    : HGo E (mF E (d + 2) Q) me_X7_nextToken 0 [(0, .ref 19)] [] I := by
  refine h_aload_n dX7_nextToken_0 rfl 0 rfl ?_
  refine h_aload_n dX7_nextToken_1 rfl 0 rfl ?_
  refine gf_6_5 dX7_nextToken_2 hl_X7_30 nl_19 zk_19 ?_
  refine pf_6_4 dX7_nextToken_5 hl_X7_43 nl_19 zk_19 ?_
  exact k1
set_option maxHeartbeats 1000000 in
set_option maxRecDepth 4000 in
theorem sg_X7_nextToken_8 {E : HEn} {d : Nat} {Q : Option Value → HIh → Prop} {I : HIh} 
    (k1 : (I 19 2) ≤ (I 19 4) → HCall E me_X7_byteAt (d + 1) [.ref 19, .int (I 19 4)] I (fun v9 J => HGo E (mF E (d + 2) Q) me_X7_nextToken 54 [(0, .ref 19)] (v9.toList ++ [.ref 19]) J))
    (k2 : ¬ (I 19 2) ≤ (I 19 4) → HCall E me_X7_byteAt (d + 1) [.ref 19, .int (I 19 4)] I (fun v9 J => HGo E (mF E (d + 2) Q) me_X7_nextToken 27 [(0, .ref 19)] (v9.toList ++ []) J))
    : HGo E (mF E (d + 2) Q) me_X7_nextToken 8 [(0, .ref 19)] [] I := by
  refine h_aload_n dX7_nextToken_8 rfl 0 rfl ?_
  refine gf_6_4 dX7_nextToken_9 hl_X7_43 nl_19 zk_19 ?_
  refine h_aload_n dX7_nextToken_12 rfl 0 rfl ?_
  refine gf_6_2 dX7_nextToken_13 hl_X7_22 nl_19 zk_19 ?_
  refine h_icmp_ge (tgt := 45) dX7_nextToken_16 (by decide) (fun c1 => ?_) (fun c1 => ?_)
  ·
    refine h_aload_n dX7_nextToken_45 rfl 0 rfl ?_
    refine h_aload_n dX7_nextToken_46 rfl 0 rfl ?_
    refine h_aload_n dX7_nextToken_47 rfl 0 rfl ?_
    refine gf_6_4 dX7_nextToken_48 hl_X7_43 nl_19 zk_19 ?_
    refine h_invV (As := [.int (I 19 4)]) (st := [.ref 19]) dX7_nextToken_51 lk_X7_52 (h_room (by decide)) nl_19 zk_19 (by decide) rfl rfl rfl (Nat.le_of_ble_eq_true rfl) ?_
    exact k1 c1
  ·
    refine h_aload_n dX7_nextToken_19 rfl 0 rfl ?_
    refine h_aload_n dX7_nextToken_20 rfl 0 rfl ?_
    refine gf_6_4 dX7_nextToken_21 hl_X7_43 nl_19 zk_19 ?_
    refine h_invV (As := [.int (I 19 4)]) (st := []) dX7_nextToken_24 lk_X7_52 (h_room (by decide)) nl_19 zk_19 (by decide) rfl rfl rfl (Nat.le_of_ble_eq_true rfl) ?_
    exact k2 c1
set_option maxHeartbeats 1000000 in
set_option maxRecDepth 4000 in
theorem sg_X7_nextToken_54 {E : HEn} {d : Nat} {Q : Option Value → HIh → Prop} {I : HIh} {s0 : Int32}
    (k1 : HCall E me_X7_tokenOf (d + 1) [.int s0] I (fun v9 J => HGo E (mF E (d + 2) Q) me_X7_nextToken 57 [(0, .ref 19)] (v9.toList ++ [.ref 19]) J))
    : HGo E (mF E (d + 2) Q) me_X7_nextToken 54 [(0, .ref 19)] [.int s0, .ref 19] I := by
  refine h_invS (As := [.int s0]) (st := [.ref 19]) dX7_nextToken_54 lk_X7_56 (h_room (by decide)) rfl rfl (Nat.le_of_ble_eq_true rfl) ?_
  exact k1
set_option maxHeartbeats 1000000 in
set_option maxRecDepth 4000 in
theorem sg_X7_nextToken_27 {E : HEn} {d : Nat} {Q : Option Value → HIh → Prop} {I : HIh} {s0 : Int32}
    (k1 : ¬ s0 = 32 → HCall E me_X7_byteAt (d + 1) [.ref 19, .int (I 19 4)] I (fun v9 J => HGo E (mF E (d + 2) Q) me_X7_nextToken 54 [(0, .ref 19)] (v9.toList ++ [.ref 19]) J))
    (k2 : s0 = 32 → HGo E (mF E (d + 2) Q) me_X7_nextToken 8 [(0, .ref 19)] [] (setI I 19 (upd (I 19) 4 ((I 19 4) + 1))))
    : HGo E (mF E (d + 2) Q) me_X7_nextToken 27 [(0, .ref 19)] [.int s0] I := by
  refine h_bipush (v := 32) dX7_nextToken_27 (by decide) ?_
  refine h_icmp_ne (tgt := 45) dX7_nextToken_29 (by decide) (fun c1 => ?_) (fun c1 => ?_)
  ·
    refine h_aload_n dX7_nextToken_45 rfl 0 rfl ?_
    refine h_aload_n dX7_nextToken_46 rfl 0 rfl ?_
    refine h_aload_n dX7_nextToken_47 rfl 0 rfl ?_
    refine gf_6_4 dX7_nextToken_48 hl_X7_43 nl_19 zk_19 ?_
    refine h_invV (As := [.int (I 19 4)]) (st := [.ref 19]) dX7_nextToken_51 lk_X7_52 (h_room (by decide)) nl_19 zk_19 (by decide) rfl rfl rfl (Nat.le_of_ble_eq_true rfl) ?_
    exact k1 c1
  ·
    refine h_aload_n dX7_nextToken_32 rfl 0 rfl ?_
    refine h_dup dX7_nextToken_33 rfl ?_
    refine gf_6_4 dX7_nextToken_34 hl_X7_43 nl_19 zk_19 ?_
    refine h_iconst (v := 1) dX7_nextToken_37 (by decide) ?_
    refine h_iadd dX7_nextToken_38 ?_
    refine pf_6_4 dX7_nextToken_39 hl_X7_43 nl_19 zk_19 ?_
    refine h_goto (tgt := 8) dX7_nextToken_42 (by decide) ?_
    exact k2 c1
set_option maxHeartbeats 1000000 in
set_option maxRecDepth 4000 in
theorem sg_X7_nextToken_57 {E : HEn} {d : Nat} {Q : Option Value → HIh → Prop} {I : HIh} {s0 : Int32}
    (k1 : ((setI (setI I 19 (upd (I 19) 6 s0)) 19 (upd ((setI I 19 (upd (I 19) 6 s0)) 19) 5 (if ((setI I 19 (upd (I 19) 6 s0)) 19 2) < (((setI I 19 (upd (I 19) 6 s0)) 19 4) + 1) then ((setI I 19 (upd (I 19) 6 s0)) 19 2) else (((setI I 19 (upd (I 19) 6 s0)) 19 4) + 1)))) 19 6) = 1 → HGo E (mF E (d + 2) Q) me_X7_nextToken 99 [(0, .ref 19), (1, .int 1)] [] (setI (setI I 19 (upd (I 19) 6 s0)) 19 (upd ((setI I 19 (upd (I 19) 6 s0)) 19) 5 (if ((setI I 19 (upd (I 19) 6 s0)) 19 2) < (((setI I 19 (upd (I 19) 6 s0)) 19 4) + 1) then ((setI I 19 (upd (I 19) 6 s0)) 19 2) else (((setI I 19 (upd (I 19) 6 s0)) 19 4) + 1)))))
    (k2 : ¬ ((setI (setI I 19 (upd (I 19) 6 s0)) 19 (upd ((setI I 19 (upd (I 19) 6 s0)) 19) 5 (if ((setI I 19 (upd (I 19) 6 s0)) 19 2) < (((setI I 19 (upd (I 19) 6 s0)) 19 4) + 1) then ((setI I 19 (upd (I 19) 6 s0)) 19 2) else (((setI I 19 (upd (I 19) 6 s0)) 19 4) + 1)))) 19 6) = 1 → ¬ ((setI (setI I 19 (upd (I 19) 6 s0)) 19 (upd ((setI I 19 (upd (I 19) 6 s0)) 19) 5 (if ((setI I 19 (upd (I 19) 6 s0)) 19 2) < (((setI I 19 (upd (I 19) 6 s0)) 19 4) + 1) then ((setI I 19 (upd (I 19) 6 s0)) 19 2) else (((setI I 19 (upd (I 19) 6 s0)) 19 4) + 1)))) 19 6) = 2 → HGo E (mF E (d + 2) Q) me_X7_nextToken 99 [(0, .ref 19), (1, .int 0)] [] (setI (setI I 19 (upd (I 19) 6 s0)) 19 (upd ((setI I 19 (upd (I 19) 6 s0)) 19) 5 (if ((setI I 19 (upd (I 19) 6 s0)) 19 2) < (((setI I 19 (upd (I 19) 6 s0)) 19 4) + 1) then ((setI I 19 (upd (I 19) 6 s0)) 19 2) else (((setI I 19 (upd (I 19) 6 s0)) 19 4) + 1)))))
    (k3 : ¬ ((setI (setI I 19 (upd (I 19) 6 s0)) 19 (upd ((setI I 19 (upd (I 19) 6 s0)) 19) 5 (if ((setI I 19 (upd (I 19) 6 s0)) 19 2) < (((setI I 19 (upd (I 19) 6 s0)) 19 4) + 1) then ((setI I 19 (upd (I 19) 6 s0)) 19 2) else (((setI I 19 (upd (I 19) 6 s0)) 19 4) + 1)))) 19 6) = 1 → ((setI (setI I 19 (upd (I 19) 6 s0)) 19 (upd ((setI I 19 (upd (I 19) 6 s0)) 19) 5 (if ((setI I 19 (upd (I 19) 6 s0)) 19 2) < (((setI I 19 (upd (I 19) 6 s0)) 19 4) + 1) then ((setI I 19 (upd (I 19) 6 s0)) 19 2) else (((setI I 19 (upd (I 19) 6 s0)) 19 4) + 1)))) 19 6) = 2 → HGo E (mF E (d + 2) Q) me_X7_nextToken 99 [(0, .ref 19), (1, .int 1)] [] (setI (setI I 19 (upd (I 19) 6 s0)) 19 (upd ((setI I 19 (upd (I 19) 6 s0)) 19) 5 (if ((setI I 19 (upd (I 19) 6 s0)) 19 2) < (((setI I 19 (upd (I 19) 6 s0)) 19 4) + 1) then ((setI I 19 (upd (I 19) 6 s0)) 19 2) else (((setI I 19 (upd (I 19) 6 s0)) 19 4) + 1)))))
    : HGo E (mF E (d + 2) Q) me_X7_nextToken 57 [(0, .ref 19)] [.int s0, .ref 19] I := by
  refine pf_6_6 dX7_nextToken_57 hl_X7_46 nl_19 zk_19 ?_
  refine h_aload_n dX7_nextToken_60 rfl 0 rfl ?_
  refine h_aload_n dX7_nextToken_61 rfl 0 rfl ?_
  refine gf_6_4 dX7_nextToken_62 hl_X7_43 nl_19 zk_19 ?_
  refine h_iconst (v := 1) dX7_nextToken_65 (by decide) ?_
  refine h_iadd dX7_nextToken_66 ?_
  refine h_aload_n dX7_nextToken_67 rfl 0 rfl ?_
  refine gf_6_2 dX7_nextToken_68 hl_X7_22 nl_19 zk_19 ?_
  refine h_min dX7_nextToken_71 wt_314 wt_315 wt_15 wt_316 (h_frm (Nat.le_of_ble_eq_true rfl)) ?_
  refine pf_6_5 dX7_nextToken_74 hl_X7_30 nl_19 zk_19 ?_
  refine h_aload_n dX7_nextToken_77 rfl 0 rfl ?_
  refine gf_6_6 dX7_nextToken_78 hl_X7_46 nl_19 zk_19 ?_
  refine h_iconst (v := 1) dX7_nextToken_81 (by decide) ?_
  refine h_icmp_eq (tgt := 93) dX7_nextToken_82 (by decide) (fun c1 => ?_) (fun c1 => ?_)
  ·
    refine h_iconst (v := 1) dX7_nextToken_93 (by decide) ?_
    refine h_goto (tgt := 98) dX7_nextToken_94 (by decide) ?_
    refine h_istore_n (L' := [(1, .int 1), (0, .ref 19)]) dX7_nextToken_98 rfl (by decide) rfl ?_
    refine h_pick [1, 0] [(0, .ref 19), (1, .int 1)] rfl ?_
    exact k1 c1
  ·
    refine h_aload_n dX7_nextToken_85 rfl 0 rfl ?_
    refine gf_6_6 dX7_nextToken_86 hl_X7_46 nl_19 zk_19 ?_
    refine h_iconst (v := 2) dX7_nextToken_89 (by decide) ?_
    refine h_icmp_ne (tgt := 97) dX7_nextToken_90 (by decide) (fun c2 => ?_) (fun c2 => ?_)
    ·
      refine h_iconst (v := 0) dX7_nextToken_97 (by decide) ?_
      refine h_istore_n (L' := [(1, .int 0), (0, .ref 19)]) dX7_nextToken_98 rfl (by decide) rfl ?_
      refine h_pick [1, 0] [(0, .ref 19), (1, .int 0)] rfl ?_
      exact k2 c1 c2
    ·
      refine h_iconst (v := 1) dX7_nextToken_93 (by decide) ?_
      refine h_goto (tgt := 98) dX7_nextToken_94 (by decide) ?_
      refine h_istore_n (L' := [(1, .int 1), (0, .ref 19)]) dX7_nextToken_98 rfl (by decide) rfl ?_
      refine h_pick [1, 0] [(0, .ref 19), (1, .int 1)] rfl ?_
      exact k3 c1 c2
set_option maxHeartbeats 1000000 in
set_option maxRecDepth 4000 in
theorem sg_X7_nextToken_99 {E : HEn} {d : Nat} {Q : Option Value → HIh → Prop} {I : HIh} {x1 : Int32}
    (k1 : x1 = 0 → Q none I)
    (k2 : ¬ x1 = 0 → (I 19 2) ≤ (I 19 5) → Q none I)
    (k3 : ¬ x1 = 0 → ¬ (I 19 2) ≤ (I 19 5) → HCall E me_X7_byteAt (d + 1) [.ref 19, .int (I 19 5)] I (fun v9 J => HGo E (mF E (d + 2) Q) me_X7_nextToken 122 [(0, .ref 19), (1, .int x1)] (v9.toList ++ []) J))
    : HGo E (mF E (d + 2) Q) me_X7_nextToken 99 [(0, .ref 19), (1, .int x1)] [] I := by
  refine h_iload_n dX7_nextToken_99 rfl 1 rfl ?_
  refine h_if_eq (tgt := 145) dX7_nextToken_100 (by decide) (fun c1 => ?_) (fun c1 => ?_)
  ·
    exact h_vret dX7_nextToken_145 rfl (k1 c1)
  ·
    refine h_aload_n dX7_nextToken_103 rfl 0 rfl ?_
    refine gf_6_5 dX7_nextToken_104 hl_X7_30 nl_19 zk_19 ?_
    refine h_aload_n dX7_nextToken_107 rfl 0 rfl ?_
    refine gf_6_2 dX7_nextToken_108 hl_X7_22 nl_19 zk_19 ?_
    refine h_icmp_ge (tgt := 145) dX7_nextToken_111 (by decide) (fun c2 => ?_) (fun c2 => ?_)
    ·
      exact h_vret dX7_nextToken_145 rfl (k2 c1 c2)
    ·
      refine h_aload_n dX7_nextToken_114 rfl 0 rfl ?_
      refine h_aload_n dX7_nextToken_115 rfl 0 rfl ?_
      refine gf_6_5 dX7_nextToken_116 hl_X7_30 nl_19 zk_19 ?_
      refine h_invV (As := [.int (I 19 5)]) (st := []) dX7_nextToken_119 lk_X7_52 (h_room (by decide)) nl_19 zk_19 (by decide) rfl rfl rfl (Nat.le_of_ble_eq_true rfl) ?_
      exact k3 c1 c2
set_option maxHeartbeats 1000000 in
set_option maxRecDepth 4000 in
theorem sg_X7_nextToken_122 {E : HEn} {d : Nat} {Q : Option Value → HIh → Prop} {I : HIh} {x1 : Int32} {s0 : Int32}
    (k1 : HCall E me_X7_tokenOf (d + 1) [.int s0] I (fun v9 J => HGo E (mF E (d + 2) Q) me_X7_nextToken 125 [(0, .ref 19), (1, .int x1)] (v9.toList ++ []) J))
    : HGo E (mF E (d + 2) Q) me_X7_nextToken 122 [(0, .ref 19), (1, .int x1)] [.int s0] I := by
  refine h_invS (As := [.int s0]) (st := []) dX7_nextToken_122 lk_X7_56 (h_room (by decide)) rfl rfl (Nat.le_of_ble_eq_true rfl) ?_
  exact k1
set_option maxHeartbeats 1000000 in
set_option maxRecDepth 4000 in
theorem sg_X7_nextToken_125 {E : HEn} {d : Nat} {Q : Option Value → HIh → Prop} {I : HIh} {x1 : Int32} {s0 : Int32}
    (k1 : ¬ s0 = (I 19 6) → Q none I)
    (k2 : s0 = (I 19 6) → HGo E (mF E (d + 2) Q) me_X7_nextToken 99 [(0, .ref 19), (1, .int x1)] [] (setI I 19 (upd (I 19) 5 ((I 19 5) + 1))))
    : HGo E (mF E (d + 2) Q) me_X7_nextToken 125 [(0, .ref 19), (1, .int x1)] [.int s0] I := by
  refine h_aload_n dX7_nextToken_125 rfl 0 rfl ?_
  refine gf_6_6 dX7_nextToken_126 hl_X7_46 nl_19 zk_19 ?_
  refine h_icmp_ne (tgt := 145) dX7_nextToken_129 (by decide) (fun c1 => ?_) (fun c1 => ?_)
  ·
    exact h_vret dX7_nextToken_145 rfl (k1 c1)
  ·
    refine h_aload_n dX7_nextToken_132 rfl 0 rfl ?_
    refine h_dup dX7_nextToken_133 rfl ?_
    refine gf_6_5 dX7_nextToken_134 hl_X7_30 nl_19 zk_19 ?_
    refine h_iconst (v := 1) dX7_nextToken_137 (by decide) ?_
    refine h_iadd dX7_nextToken_138 ?_
    refine pf_6_5 dX7_nextToken_139 hl_X7_30 nl_19 zk_19 ?_
    refine h_goto (tgt := 99) dX7_nextToken_142 (by decide) ?_
    exact k2 c1
set_option maxHeartbeats 1000000 in
set_option maxRecDepth 4000 in
theorem sg_X7_byteAt_0 {E : HEn} {d : Nat} {Q : Option Value → HIh → Prop} {I : HIh} {p : Int32}
    (k1 : p < 0 → Q (some (.int (-1))) I)
    (k2 : ¬ p < 0 → (I 19 2) ≤ p → Q (some (.int (-1))) I)
    (k3 : ¬ p < 0 → ¬ (I 19 2) ≤ p → 200 ≤ p → Q (some (.int (-1))) I)
    (k4 : ¬ p < 0 → ¬ (I 19 2) ≤ p → ¬ 200 ≤ p → vp_in p 200)
    (k5 : ¬ p < 0 → ¬ (I 19 2) ≤ p → ¬ 200 ≤ p → Q (some (.int (I 20 p.toNatClampNeg))) I)
    : HGo E (mF E (d + 1) Q) me_X7_byteAt 0 [(0, .ref 19), (1, .int p)] [] I := by
  refine h_iload_n dX7_byteAt_0 rfl 1 rfl ?_
  refine h_if_lt (tgt := 28) dX7_byteAt_1 (by decide) (fun c1 => ?_) (fun c1 => ?_)
  ·
    refine h_iconst (v := (-1)) dX7_byteAt_28 (by decide) ?_
    exact h_iret dX7_byteAt_29 rfl (k1 c1)
  ·
    refine h_iload_n dX7_byteAt_4 rfl 1 rfl ?_
    refine h_aload_n dX7_byteAt_5 rfl 0 rfl ?_
    refine gf_6_2 dX7_byteAt_6 hl_X7_22 nl_19 zk_19 ?_
    refine h_icmp_ge (tgt := 28) dX7_byteAt_9 (by decide) (fun c2 => ?_) (fun c2 => ?_)
    ·
      refine h_iconst (v := (-1)) dX7_byteAt_28 (by decide) ?_
      exact h_iret dX7_byteAt_29 rfl (k2 c1 c2)
    ·
      refine h_iload_n dX7_byteAt_12 rfl 1 rfl ?_
      refine h_sipush (v := 200) dX7_byteAt_13 (by decide) ?_
      refine h_icmp_ge (tgt := 28) dX7_byteAt_16 (by decide) (fun c3 => ?_) (fun c3 => ?_)
      ·
        refine h_iconst (v := (-1)) dX7_byteAt_28 (by decide) ?_
        exact h_iret dX7_byteAt_29 rfl (k3 c1 c2 c3)
      ·
        refine h_aload_n dX7_byteAt_19 rfl 0 rfl ?_
        refine gf_6_0 dX7_byteAt_20 hl_X7_9 nl_19 zk_19 zp_19_0 ?_
        refine h_iload_n dX7_byteAt_23 rfl 1 rfl ?_
        refine h_iald dX7_byteAt_24 nl_20 zk_20 (by rw [zn_20]; exact k4 c1 c2 c3) ?_
        refine h_goto (tgt := 29) dX7_byteAt_25 (by decide) ?_
        exact h_iret dX7_byteAt_29 rfl (k5 c1 c2 c3)
set_option maxHeartbeats 1000000 in
set_option maxRecDepth 4000 in
theorem sg_X7_tokenOf_0 {E : HEn} {d : Nat} {Q : Option Value → HIh → Prop} {I : HIh} {b : Int32}
    (k1 : ¬ b = (-1) → b < 97 → b < 48 → Q (some (.int 3)) I)
    (k2 : ¬ b = (-1) → b < 97 → ¬ b < 48 → 57 < b → Q (some (.int 3)) I)
    (k3 : ¬ b = (-1) → b < 97 → ¬ b < 48 → ¬ 57 < b → Q (some (.int 2)) I)
    (k4 : ¬ b = (-1) → ¬ b < 97 → 122 < b → b < 48 → Q (some (.int 3)) I)
    (k5 : ¬ b = (-1) → ¬ b < 97 → 122 < b → ¬ b < 48 → 57 < b → Q (some (.int 3)) I)
    (k6 : ¬ b = (-1) → ¬ b < 97 → 122 < b → ¬ b < 48 → ¬ 57 < b → Q (some (.int 2)) I)
    (k7 : ¬ b = (-1) → ¬ b < 97 → ¬ 122 < b → Q (some (.int 1)) I)
    (k8 : b = (-1) → Q (some (.int 0)) I)
    : HGo E (mF E (d + 1) Q) me_X7_tokenOf 0 [(0, .int b)] [] I := by
  refine h_iload_n dX7_tokenOf_0 rfl 0 rfl ?_
  refine h_iconst (v := (-1)) dX7_tokenOf_1 (by decide) ?_
  refine h_icmp_ne (tgt := 7) dX7_tokenOf_2 (by decide) (fun c1 => ?_) (fun c1 => ?_)
  ·
    refine h_iload_n dX7_tokenOf_7 rfl 0 rfl ?_
    refine h_bipush (v := 97) dX7_tokenOf_8 (by decide) ?_
    refine h_icmp_lt (tgt := 21) dX7_tokenOf_10 (by decide) (fun c2 => ?_) (fun c2 => ?_)
    ·
      refine h_iload_n dX7_tokenOf_21 rfl 0 rfl ?_
      refine h_bipush (v := 48) dX7_tokenOf_22 (by decide) ?_
      refine h_icmp_lt (tgt := 37) dX7_tokenOf_24 (by decide) (fun c3 => ?_) (fun c3 => ?_)
      ·
        refine h_iconst (v := 3) dX7_tokenOf_37 (by decide) ?_
        exact h_iret dX7_tokenOf_38 rfl (k1 c1 c2 c3)
      ·
        refine h_iload_n dX7_tokenOf_27 rfl 0 rfl ?_
        refine h_bipush (v := 57) dX7_tokenOf_28 (by decide) ?_
        refine h_icmp_gt (tgt := 37) dX7_tokenOf_30 (by decide) (fun c4 => ?_) (fun c4 => ?_)
        ·
          refine h_iconst (v := 3) dX7_tokenOf_37 (by decide) ?_
          exact h_iret dX7_tokenOf_38 rfl (k2 c1 c2 c3 c4)
        ·
          refine h_iconst (v := 2) dX7_tokenOf_33 (by decide) ?_
          refine h_goto (tgt := 38) dX7_tokenOf_34 (by decide) ?_
          exact h_iret dX7_tokenOf_38 rfl (k3 c1 c2 c3 c4)
    ·
      refine h_iload_n dX7_tokenOf_13 rfl 0 rfl ?_
      refine h_bipush (v := 122) dX7_tokenOf_14 (by decide) ?_
      refine h_icmp_gt (tgt := 21) dX7_tokenOf_16 (by decide) (fun c5 => ?_) (fun c5 => ?_)
      ·
        refine h_iload_n dX7_tokenOf_21 rfl 0 rfl ?_
        refine h_bipush (v := 48) dX7_tokenOf_22 (by decide) ?_
        refine h_icmp_lt (tgt := 37) dX7_tokenOf_24 (by decide) (fun c6 => ?_) (fun c6 => ?_)
        ·
          refine h_iconst (v := 3) dX7_tokenOf_37 (by decide) ?_
          exact h_iret dX7_tokenOf_38 rfl (k4 c1 c2 c5 c6)
        ·
          refine h_iload_n dX7_tokenOf_27 rfl 0 rfl ?_
          refine h_bipush (v := 57) dX7_tokenOf_28 (by decide) ?_
          refine h_icmp_gt (tgt := 37) dX7_tokenOf_30 (by decide) (fun c7 => ?_) (fun c7 => ?_)
          ·
            refine h_iconst (v := 3) dX7_tokenOf_37 (by decide) ?_
            exact h_iret dX7_tokenOf_38 rfl (k5 c1 c2 c5 c6 c7)
          ·
            refine h_iconst (v := 2) dX7_tokenOf_33 (by decide) ?_
            refine h_goto (tgt := 38) dX7_tokenOf_34 (by decide) ?_
            exact h_iret dX7_tokenOf_38 rfl (k6 c1 c2 c5 c6 c7)
      ·
        refine h_iconst (v := 1) dX7_tokenOf_19 (by decide) ?_
        exact h_iret dX7_tokenOf_20 rfl (k7 c1 c2 c5)
  ·
    refine h_iconst (v := 0) dX7_tokenOf_5 (by decide) ?_
    exact h_iret dX7_tokenOf_6 rfl (k8 c1)
set_option maxHeartbeats 1000000 in
set_option maxRecDepth 4000 in
theorem sg_X7_isSemicolon_0 {E : HEn} {d : Nat} {Q : Option Value → HIh → Prop} {I : HIh} 
    (k1 : ¬ (I 19 6) = 3 → Q (some (.int 0)) I)
    (k2 : (I 19 6) = 3 → HCall E me_X7_byteAt (d + 1) [.ref 19, .int (I 19 4)] I (fun v9 J => HGo E (mF E (d + 2) Q) me_X7_isSemicolon 16 [] (v9.toList ++ []) J))
    : HGo E (mF E (d + 2) Q) me_X7_isSemicolon 0 [(0, .ref 19)] [] I := by
  refine h_aload_n dX7_isSemicolon_0 rfl 0 rfl ?_
  refine gf_6_6 dX7_isSemicolon_1 hl_X7_46 nl_19 zk_19 ?_
  refine h_iconst (v := 3) dX7_isSemicolon_4 (by decide) ?_
  refine h_icmp_ne (tgt := 25) dX7_isSemicolon_5 (by decide) (fun c1 => ?_) (fun c1 => ?_)
  ·
    refine h_iconst (v := 0) dX7_isSemicolon_25 (by decide) ?_
    exact h_zret dX7_isSemicolon_26 rfl rfl (k1 c1)
  ·
    refine h_aload_n dX7_isSemicolon_8 rfl 0 rfl ?_
    refine h_aload_n dX7_isSemicolon_9 rfl 0 rfl ?_
    refine gf_6_4 dX7_isSemicolon_10 hl_X7_43 nl_19 zk_19 ?_
    refine h_pick [] [] rfl ?_
    refine h_invV (As := [.int (I 19 4)]) (st := []) dX7_isSemicolon_13 lk_X7_52 (h_room (by decide)) nl_19 zk_19 (by decide) rfl rfl rfl (Nat.le_of_ble_eq_true rfl) ?_
    exact k2 c1
set_option maxHeartbeats 1000000 in
set_option maxRecDepth 4000 in
theorem sg_X7_isSemicolon_16 {E : HEn} {d : Nat} {Q : Option Value → HIh → Prop} {I : HIh} {s0 : Int32}
    (k1 : ¬ s0 = 59 → Q (some (.int 0)) I)
    (k2 : s0 = 59 → Q (some (.int 1)) I)
    : HGo E (mF E (d + 2) Q) me_X7_isSemicolon 16 [] [.int s0] I := by
  refine h_bipush (v := 59) dX7_isSemicolon_16 (by decide) ?_
  refine h_icmp_ne (tgt := 25) dX7_isSemicolon_18 (by decide) (fun c1 => ?_) (fun c1 => ?_)
  ·
    refine h_iconst (v := 0) dX7_isSemicolon_25 (by decide) ?_
    exact h_zret dX7_isSemicolon_26 rfl rfl (k1 c1)
  ·
    refine h_iconst (v := 1) dX7_isSemicolon_21 (by decide) ?_
    refine h_goto (tgt := 26) dX7_isSemicolon_22 (by decide) ?_
    exact h_zret dX7_isSemicolon_26 rfl rfl (k2 c1)
set_option maxHeartbeats 1000000 in
set_option maxRecDepth 4000 in
theorem sg_X7_readLine_0 {E : HEn} {d : Nat} {Q : Option Value → HIh → Prop} {I : HIh} 
    (k1 : HCall E me_X7_readWord (d + 4) [.ref 19, .ref 1000] I (fun v9 J => HGo E (mF E (d + 5) Q) me_X7_readLine 6 [(0, .ref 19)] (v9.toList ++ []) J))
    : HGo E (mF E (d + 5) Q) me_X7_readLine 0 [(0, .ref 19)] [] I := by
  refine h_aload_n dX7_readLine_0 rfl 0 rfl ?_
  refine h_ldcS 0 dX7_readLine_1 rfl rfl (by decide) ?_
  refine h_invV (As := [.ref 1000]) (st := []) dX7_readLine_3 lk_X7_67 (h_room (by decide)) nl_19 zk_19 (by decide) rfl rfl rfl (Nat.le_of_ble_eq_true rfl) ?_
  exact k1
set_option maxHeartbeats 1000000 in
set_option maxRecDepth 4000 in
theorem sg_X7_readLine_6 {E : HEn} {d : Nat} {Q : Option Value → HIh → Prop} {I : HIh} {s0 : Int32}
    (k1 : s0 = 0 → HCall E me_X7_readWord (d + 4) [.ref 19, .ref 1001] I (fun v9 J => HGo E (mF E (d + 5) Q) me_X7_readLine 20 [(0, .ref 19)] (v9.toList ++ []) J))
    (k2 : ¬ s0 = 0 → HCall E me_X7_readCoins (d + 4) [.ref 19] I (fun v9 J => HGo E (mF E (d + 5) Q) me_X7_readLine 13 [] (v9.toList ++ []) J))
    : HGo E (mF E (d + 5) Q) me_X7_readLine 6 [(0, .ref 19)] [.int s0] I := by
  refine h_if_eq (tgt := 14) dX7_readLine_6 (by decide) (fun c1 => ?_) (fun c1 => ?_)
  ·
    refine h_aload_n dX7_readLine_14 rfl 0 rfl ?_
    refine h_ldcS 1 dX7_readLine_15 rfl rfl (by decide) ?_
    refine h_invV (As := [.ref 1001]) (st := []) dX7_readLine_17 lk_X7_67 (h_room (by decide)) nl_19 zk_19 (by decide) rfl rfl rfl (Nat.le_of_ble_eq_true rfl) ?_
    exact k1 c1
  ·
    refine h_aload_n dX7_readLine_9 rfl 0 rfl ?_
    refine h_pick [] [] rfl ?_
    refine h_invV (As := []) (st := []) dX7_readLine_10 lk_X7_71 (h_room (by decide)) nl_19 zk_19 (by decide) rfl rfl rfl (Nat.le_of_ble_eq_true rfl) ?_
    exact k2 c1
set_option maxHeartbeats 1000000 in
set_option maxRecDepth 4000 in
theorem sg_X7_readLine_20 {E : HEn} {d : Nat} {Q : Option Value → HIh → Prop} {I : HIh} {s0 : Int32}
    (k1 : s0 = 0 → HCall E me_X7_readWord (d + 4) [.ref 19, .ref 1002] I (fun v9 J => HGo E (mF E (d + 5) Q) me_X7_readLine 35 [(0, .ref 19)] (v9.toList ++ []) J))
    (k2 : ¬ s0 = 0 → HCall E me_X7_readAmount (d + 4) [.ref 19, .int 4] I (fun v9 J => HGo E (mF E (d + 5) Q) me_X7_readLine 28 [] (v9.toList ++ []) J))
    : HGo E (mF E (d + 5) Q) me_X7_readLine 20 [(0, .ref 19)] [.int s0] I := by
  refine h_if_eq (tgt := 29) dX7_readLine_20 (by decide) (fun c1 => ?_) (fun c1 => ?_)
  ·
    refine h_aload_n dX7_readLine_29 rfl 0 rfl ?_
    refine h_ldcS 2 dX7_readLine_30 rfl rfl (by decide) ?_
    refine h_invV (As := [.ref 1002]) (st := []) dX7_readLine_32 lk_X7_67 (h_room (by decide)) nl_19 zk_19 (by decide) rfl rfl rfl (Nat.le_of_ble_eq_true rfl) ?_
    exact k1 c1
  ·
    refine h_aload_n dX7_readLine_23 rfl 0 rfl ?_
    refine h_iconst (v := 4) dX7_readLine_24 (by decide) ?_
    refine h_pick [] [] rfl ?_
    refine h_invV (As := [.int 4]) (st := []) dX7_readLine_25 lk_X7_76 (h_room (by decide)) nl_19 zk_19 (by decide) rfl rfl rfl (Nat.le_of_ble_eq_true rfl) ?_
    exact k2 c1
set_option maxHeartbeats 1000000 in
set_option maxRecDepth 4000 in
theorem sg_X7_readLine_13 {E : HEn} {d : Nat} {Q : Option Value → HIh → Prop} {I : HIh} {s0 : Int32}
    (k1 : vp_nar .boolean s0 = s0)
    (k2 : Q (some (.int s0)) I)
    : HGo E (mF E (d + 5) Q) me_X7_readLine 13 [] [.int s0] I := by
  exact h_zret dX7_readLine_13 rfl (k1) (k2)
set_option maxHeartbeats 1000000 in
set_option maxRecDepth 4000 in
theorem sg_X7_readLine_35 {E : HEn} {d : Nat} {Q : Option Value → HIh → Prop} {I : HIh} {s0 : Int32}
    (k1 : s0 = 0 → HCall E me_X7_readWord (d + 4) [.ref 19, .ref 1003] I (fun v9 J => HGo E (mF E (d + 5) Q) me_X7_readLine 70 [(0, .ref 19)] (v9.toList ++ []) J))
    (k2 : ¬ s0 = 0 → HCall E me_X7_readNumber (d + 4) [.ref 19, .int 0, .int 3] I (fun v9 J => HGo E (mF E (d + 5) Q) me_X7_readLine 44 [(0, .ref 19)] (v9.toList ++ []) J))
    : HGo E (mF E (d + 5) Q) me_X7_readLine 35 [(0, .ref 19)] [.int s0] I := by
  refine h_if_eq (tgt := 64) dX7_readLine_35 (by decide) (fun c1 => ?_) (fun c1 => ?_)
  ·
    refine h_aload_n dX7_readLine_64 rfl 0 rfl ?_
    refine h_ldcS 3 dX7_readLine_65 rfl rfl (by decide) ?_
    refine h_invV (As := [.ref 1003]) (st := []) dX7_readLine_67 lk_X7_67 (h_room (by decide)) nl_19 zk_19 (by decide) rfl rfl rfl (Nat.le_of_ble_eq_true rfl) ?_
    exact k1 c1
  ·
    refine h_aload_n dX7_readLine_38 rfl 0 rfl ?_
    refine h_iconst (v := 0) dX7_readLine_39 (by decide) ?_
    refine h_iconst (v := 3) dX7_readLine_40 (by decide) ?_
    refine h_invV (As := [.int 0, .int 3]) (st := []) dX7_readLine_41 lk_X7_82 (h_room (by decide)) nl_19 zk_19 (by decide) rfl rfl rfl (Nat.le_of_ble_eq_true rfl) ?_
    exact k2 c1
set_option maxHeartbeats 1000000 in
set_option maxRecDepth 4000 in
theorem sg_X7_readLine_28 {E : HEn} {d : Nat} {Q : Option Value → HIh → Prop} {I : HIh} {s0 : Int32}
    (k1 : vp_nar .boolean s0 = s0)
    (k2 : Q (some (.int s0)) I)
    : HGo E (mF E (d + 5) Q) me_X7_readLine 28 [] [.int s0] I := by
  exact h_zret dX7_readLine_28 rfl (k1) (k2)
set_option maxHeartbeats 1000000 in
set_option maxRecDepth 4000 in
theorem sg_X7_readLine_70 {E : HEn} {d : Nat} {Q : Option Value → HIh → Prop} {I : HIh} {s0 : Int32}
    (k1 : s0 = 0 → HCall E me_X7_readWord (d + 4) [.ref 19, .ref 1004] I (fun v9 J => HGo E (mF E (d + 5) Q) me_X7_readLine 85 [(0, .ref 19)] (v9.toList ++ []) J))
    (k2 : ¬ s0 = 0 → HCall E me_X7_readHabit (d + 4) [.ref 19, .int 0] I (fun v9 J => HGo E (mF E (d + 5) Q) me_X7_readLine 78 [] (v9.toList ++ []) J))
    : HGo E (mF E (d + 5) Q) me_X7_readLine 70 [(0, .ref 19)] [.int s0] I := by
  refine h_if_eq (tgt := 79) dX7_readLine_70 (by decide) (fun c1 => ?_) (fun c1 => ?_)
  ·
    refine h_aload_n dX7_readLine_79 rfl 0 rfl ?_
    refine h_ldcS 4 dX7_readLine_80 rfl rfl (by decide) ?_
    refine h_invV (As := [.ref 1004]) (st := []) dX7_readLine_82 lk_X7_67 (h_room (by decide)) nl_19 zk_19 (by decide) rfl rfl rfl (Nat.le_of_ble_eq_true rfl) ?_
    exact k1 c1
  ·
    refine h_aload_n dX7_readLine_73 rfl 0 rfl ?_
    refine h_iconst (v := 0) dX7_readLine_74 (by decide) ?_
    refine h_pick [] [] rfl ?_
    refine h_invV (As := [.int 0]) (st := []) dX7_readLine_75 lk_X7_91 (h_room (by decide)) nl_19 zk_19 (by decide) rfl rfl rfl (Nat.le_of_ble_eq_true rfl) ?_
    exact k2 c1
set_option maxHeartbeats 1000000 in
set_option maxRecDepth 4000 in
theorem sg_X7_readLine_44 {E : HEn} {d : Nat} {Q : Option Value → HIh → Prop} {I : HIh} {s0 : Int32}
    (k1 : s0 = 0 → Q (some (.int 0)) I)
    (k2 : ¬ s0 = 0 → HCall E me_X7_readAmount (d + 4) [.ref 19, .int (I 19 7)] I (fun v9 J => HGo E (mF E (d + 5) Q) me_X7_readLine 55 [] (v9.toList ++ []) J))
    : HGo E (mF E (d + 5) Q) me_X7_readLine 44 [(0, .ref 19)] [.int s0] I := by
  refine h_if_eq (tgt := 62) dX7_readLine_44 (by decide) (fun c1 => ?_) (fun c1 => ?_)
  ·
    refine h_iconst (v := 0) dX7_readLine_62 (by decide) ?_
    exact h_zret dX7_readLine_63 rfl rfl (k1 c1)
  ·
    refine h_aload_n dX7_readLine_47 rfl 0 rfl ?_
    refine h_aload_n dX7_readLine_48 rfl 0 rfl ?_
    refine gf_6_7 dX7_readLine_49 hl_X7_86 nl_19 zk_19 ?_
    refine h_pick [] [] rfl ?_
    refine h_invV (As := [.int (I 19 7)]) (st := []) dX7_readLine_52 lk_X7_76 (h_room (by decide)) nl_19 zk_19 (by decide) rfl rfl rfl (Nat.le_of_ble_eq_true rfl) ?_
    exact k2 c1
set_option maxHeartbeats 1000000 in
set_option maxRecDepth 4000 in
theorem sg_X7_readLine_85 {E : HEn} {d : Nat} {Q : Option Value → HIh → Prop} {I : HIh} {s0 : Int32}
    (k1 : s0 = 0 → HCall E me_X7_readWord (d + 4) [.ref 19, .ref 1005] I (fun v9 J => HGo E (mF E (d + 5) Q) me_X7_readLine 100 [(0, .ref 19)] (v9.toList ++ []) J))
    (k2 : ¬ s0 = 0 → HCall E me_X7_readHabit (d + 4) [.ref 19, .int 1] I (fun v9 J => HGo E (mF E (d + 5) Q) me_X7_readLine 93 [] (v9.toList ++ []) J))
    : HGo E (mF E (d + 5) Q) me_X7_readLine 85 [(0, .ref 19)] [.int s0] I := by
  refine h_if_eq (tgt := 94) dX7_readLine_85 (by decide) (fun c1 => ?_) (fun c1 => ?_)
  ·
    refine h_aload_n dX7_readLine_94 rfl 0 rfl ?_
    refine h_ldcS 5 dX7_readLine_95 rfl rfl (by decide) ?_
    refine h_invV (As := [.ref 1005]) (st := []) dX7_readLine_97 lk_X7_67 (h_room (by decide)) nl_19 zk_19 (by decide) rfl rfl rfl (Nat.le_of_ble_eq_true rfl) ?_
    exact k1 c1
  ·
    refine h_aload_n dX7_readLine_88 rfl 0 rfl ?_
    refine h_iconst (v := 1) dX7_readLine_89 (by decide) ?_
    refine h_pick [] [] rfl ?_
    refine h_invV (As := [.int 1]) (st := []) dX7_readLine_90 lk_X7_91 (h_room (by decide)) nl_19 zk_19 (by decide) rfl rfl rfl (Nat.le_of_ble_eq_true rfl) ?_
    exact k2 c1
set_option maxHeartbeats 1000000 in
set_option maxRecDepth 4000 in
theorem sg_X7_readLine_78 {E : HEn} {d : Nat} {Q : Option Value → HIh → Prop} {I : HIh} {s0 : Int32}
    (k1 : vp_nar .boolean s0 = s0)
    (k2 : Q (some (.int s0)) I)
    : HGo E (mF E (d + 5) Q) me_X7_readLine 78 [] [.int s0] I := by
  exact h_zret dX7_readLine_78 rfl (k1) (k2)
set_option maxHeartbeats 1000000 in
set_option maxRecDepth 4000 in
theorem sg_X7_readLine_55 {E : HEn} {d : Nat} {Q : Option Value → HIh → Prop} {I : HIh} {s0 : Int32}
    (k1 : s0 = 0 → Q (some (.int 0)) I)
    (k2 : ¬ s0 = 0 → Q (some (.int 1)) I)
    : HGo E (mF E (d + 5) Q) me_X7_readLine 55 [] [.int s0] I := by
  refine h_if_eq (tgt := 62) dX7_readLine_55 (by decide) (fun c1 => ?_) (fun c1 => ?_)
  ·
    refine h_iconst (v := 0) dX7_readLine_62 (by decide) ?_
    exact h_zret dX7_readLine_63 rfl rfl (k1 c1)
  ·
    refine h_iconst (v := 1) dX7_readLine_58 (by decide) ?_
    refine h_goto (tgt := 63) dX7_readLine_59 (by decide) ?_
    exact h_zret dX7_readLine_63 rfl rfl (k2 c1)
set_option maxHeartbeats 1000000 in
set_option maxRecDepth 4000 in
theorem sg_X7_readLine_100 {E : HEn} {d : Nat} {Q : Option Value → HIh → Prop} {I : HIh} {s0 : Int32}
    (k1 : s0 = 0 → HCall E me_X7_readWord (d + 4) [.ref 19, .ref 1006] I (fun v9 J => HGo E (mF E (d + 5) Q) me_X7_readLine 114 [(0, .ref 19)] (v9.toList ++ []) J))
    (k2 : ¬ s0 = 0 → HCall E me_X7_readWaiting (d + 4) [.ref 19] I (fun v9 J => HGo E (mF E (d + 5) Q) me_X7_readLine 107 [] (v9.toList ++ []) J))
    : HGo E (mF E (d + 5) Q) me_X7_readLine 100 [(0, .ref 19)] [.int s0] I := by
  refine h_if_eq (tgt := 108) dX7_readLine_100 (by decide) (fun c1 => ?_) (fun c1 => ?_)
  ·
    refine h_aload_n dX7_readLine_108 rfl 0 rfl ?_
    refine h_ldcS 6 dX7_readLine_109 rfl rfl (by decide) ?_
    refine h_invV (As := [.ref 1006]) (st := []) dX7_readLine_111 lk_X7_67 (h_room (by decide)) nl_19 zk_19 (by decide) rfl rfl rfl (Nat.le_of_ble_eq_true rfl) ?_
    exact k1 c1
  ·
    refine h_aload_n dX7_readLine_103 rfl 0 rfl ?_
    refine h_pick [] [] rfl ?_
    refine h_invV (As := []) (st := []) dX7_readLine_104 lk_X7_98 (h_room (by decide)) nl_19 zk_19 (by decide) rfl rfl rfl (Nat.le_of_ble_eq_true rfl) ?_
    exact k2 c1
set_option maxHeartbeats 1000000 in
set_option maxRecDepth 4000 in
theorem sg_X7_readLine_93 {E : HEn} {d : Nat} {Q : Option Value → HIh → Prop} {I : HIh} {s0 : Int32}
    (k1 : vp_nar .boolean s0 = s0)
    (k2 : Q (some (.int s0)) I)
    : HGo E (mF E (d + 5) Q) me_X7_readLine 93 [] [.int s0] I := by
  exact h_zret dX7_readLine_93 rfl (k1) (k2)
set_option maxHeartbeats 1000000 in
set_option maxRecDepth 4000 in
theorem sg_X7_readLine_114 {E : HEn} {d : Nat} {Q : Option Value → HIh → Prop} {I : HIh} {s0 : Int32}
    (k1 : s0 = 0 → HCall E me_X7_readWord (d + 4) [.ref 19, .ref 1007] I (fun v9 J => HGo E (mF E (d + 5) Q) me_X7_readLine 129 [(0, .ref 19)] (v9.toList ++ []) J))
    (k2 : ¬ s0 = 0 → HCall E me_X7_readHabit (d + 4) [.ref 19, .int 3] I (fun v9 J => HGo E (mF E (d + 5) Q) me_X7_readLine 122 [] (v9.toList ++ []) J))
    : HGo E (mF E (d + 5) Q) me_X7_readLine 114 [(0, .ref 19)] [.int s0] I := by
  refine h_if_eq (tgt := 123) dX7_readLine_114 (by decide) (fun c1 => ?_) (fun c1 => ?_)
  ·
    refine h_aload_n dX7_readLine_123 rfl 0 rfl ?_
    refine h_ldcS 7 dX7_readLine_124 rfl rfl (by decide) ?_
    refine h_invV (As := [.ref 1007]) (st := []) dX7_readLine_126 lk_X7_67 (h_room (by decide)) nl_19 zk_19 (by decide) rfl rfl rfl (Nat.le_of_ble_eq_true rfl) ?_
    exact k1 c1
  ·
    refine h_aload_n dX7_readLine_117 rfl 0 rfl ?_
    refine h_iconst (v := 3) dX7_readLine_118 (by decide) ?_
    refine h_pick [] [] rfl ?_
    refine h_invV (As := [.int 3]) (st := []) dX7_readLine_119 lk_X7_91 (h_room (by decide)) nl_19 zk_19 (by decide) rfl rfl rfl (Nat.le_of_ble_eq_true rfl) ?_
    exact k2 c1
set_option maxHeartbeats 1000000 in
set_option maxRecDepth 4000 in
theorem sg_X7_readLine_107 {E : HEn} {d : Nat} {Q : Option Value → HIh → Prop} {I : HIh} {s0 : Int32}
    (k1 : vp_nar .boolean s0 = s0)
    (k2 : Q (some (.int s0)) I)
    : HGo E (mF E (d + 5) Q) me_X7_readLine 107 [] [.int s0] I := by
  exact h_zret dX7_readLine_107 rfl (k1) (k2)
set_option maxHeartbeats 1000000 in
set_option maxRecDepth 4000 in
theorem sg_X7_readLine_129 {E : HEn} {d : Nat} {Q : Option Value → HIh → Prop} {I : HIh} {s0 : Int32}
    (k1 : s0 = 0 → HCall E me_X7_readWord (d + 4) [.ref 19, .ref 1008] I (fun v9 J => HGo E (mF E (d + 5) Q) me_X7_readLine 143 [(0, .ref 19)] (v9.toList ++ []) J))
    (k2 : ¬ s0 = 0 → HCall E me_X7_readVisits (d + 4) [.ref 19] I (fun v9 J => HGo E (mF E (d + 5) Q) me_X7_readLine 136 [] (v9.toList ++ []) J))
    : HGo E (mF E (d + 5) Q) me_X7_readLine 129 [(0, .ref 19)] [.int s0] I := by
  refine h_if_eq (tgt := 137) dX7_readLine_129 (by decide) (fun c1 => ?_) (fun c1 => ?_)
  ·
    refine h_aload_n dX7_readLine_137 rfl 0 rfl ?_
    refine h_ldcS 8 dX7_readLine_138 rfl rfl (by decide) ?_
    refine h_invV (As := [.ref 1008]) (st := []) dX7_readLine_140 lk_X7_67 (h_room (by decide)) nl_19 zk_19 (by decide) rfl rfl rfl (Nat.le_of_ble_eq_true rfl) ?_
    exact k1 c1
  ·
    refine h_aload_n dX7_readLine_132 rfl 0 rfl ?_
    refine h_pick [] [] rfl ?_
    refine h_invV (As := []) (st := []) dX7_readLine_133 lk_X7_105 (h_room (by decide)) nl_19 zk_19 (by decide) rfl rfl rfl (Nat.le_of_ble_eq_true rfl) ?_
    exact k2 c1
set_option maxHeartbeats 1000000 in
set_option maxRecDepth 4000 in
theorem sg_X7_readLine_122 {E : HEn} {d : Nat} {Q : Option Value → HIh → Prop} {I : HIh} {s0 : Int32}
    (k1 : vp_nar .boolean s0 = s0)
    (k2 : Q (some (.int s0)) I)
    : HGo E (mF E (d + 5) Q) me_X7_readLine 122 [] [.int s0] I := by
  exact h_zret dX7_readLine_122 rfl (k1) (k2)
set_option maxHeartbeats 1000000 in
set_option maxRecDepth 4000 in
theorem sg_X7_readLine_143 {E : HEn} {d : Nat} {Q : Option Value → HIh → Prop} {I : HIh} {s0 : Int32}
    (k1 : s0 = 0 → HCall E me_X7_readWord (d + 4) [.ref 19, .ref 1009] I (fun v9 J => HGo E (mF E (d + 5) Q) me_X7_readLine 157 [(0, .ref 19)] (v9.toList ++ []) J))
    (k2 : ¬ s0 = 0 → HCall E me_X7_readLaw (d + 4) [.ref 19] I (fun v9 J => HGo E (mF E (d + 5) Q) me_X7_readLine 150 [] (v9.toList ++ []) J))
    : HGo E (mF E (d + 5) Q) me_X7_readLine 143 [(0, .ref 19)] [.int s0] I := by
  refine h_if_eq (tgt := 151) dX7_readLine_143 (by decide) (fun c1 => ?_) (fun c1 => ?_)
  ·
    refine h_aload_n dX7_readLine_151 rfl 0 rfl ?_
    refine h_ldcS 9 dX7_readLine_152 rfl rfl (by decide) ?_
    refine h_invV (As := [.ref 1009]) (st := []) dX7_readLine_154 lk_X7_67 (h_room (by decide)) nl_19 zk_19 (by decide) rfl rfl rfl (Nat.le_of_ble_eq_true rfl) ?_
    exact k1 c1
  ·
    refine h_aload_n dX7_readLine_146 rfl 0 rfl ?_
    refine h_pick [] [] rfl ?_
    refine h_invV (As := []) (st := []) dX7_readLine_147 lk_X7_110 (h_room (by decide)) nl_19 zk_19 (by decide) rfl rfl rfl (Nat.le_of_ble_eq_true rfl) ?_
    exact k2 c1
set_option maxHeartbeats 1000000 in
set_option maxRecDepth 4000 in
theorem sg_X7_readLine_136 {E : HEn} {d : Nat} {Q : Option Value → HIh → Prop} {I : HIh} {s0 : Int32}
    (k1 : vp_nar .boolean s0 = s0)
    (k2 : Q (some (.int s0)) I)
    : HGo E (mF E (d + 5) Q) me_X7_readLine 136 [] [.int s0] I := by
  exact h_zret dX7_readLine_136 rfl (k1) (k2)
set_option maxHeartbeats 1000000 in
set_option maxRecDepth 4000 in
theorem sg_X7_readLine_157 {E : HEn} {d : Nat} {Q : Option Value → HIh → Prop} {I : HIh} {s0 : Int32}
    (k1 : s0 = 0 → Q (some (.int 0)) I)
    (k2 : ¬ s0 = 0 → HCall E me_X7_leaveAlone (d + 4) [.ref 19] I (fun v9 J => HGo E (mF E (d + 5) Q) me_X7_readLine 164 [] (v9.toList ++ []) J))
    : HGo E (mF E (d + 5) Q) me_X7_readLine 157 [(0, .ref 19)] [.int s0] I := by
  refine h_if_eq (tgt := 171) dX7_readLine_157 (by decide) (fun c1 => ?_) (fun c1 => ?_)
  ·
    refine h_iconst (v := 0) dX7_readLine_171 (by decide) ?_
    exact h_zret dX7_readLine_172 rfl rfl (k1 c1)
  ·
    refine h_aload_n dX7_readLine_160 rfl 0 rfl ?_
    refine h_pick [] [] rfl ?_
    refine h_invV (As := []) (st := []) dX7_readLine_161 lk_X7_115 (h_room (by decide)) nl_19 zk_19 (by decide) rfl rfl rfl (Nat.le_of_ble_eq_true rfl) ?_
    exact k2 c1
set_option maxHeartbeats 1000000 in
set_option maxRecDepth 4000 in
theorem sg_X7_readLine_150 {E : HEn} {d : Nat} {Q : Option Value → HIh → Prop} {I : HIh} {s0 : Int32}
    (k1 : vp_nar .boolean s0 = s0)
    (k2 : Q (some (.int s0)) I)
    : HGo E (mF E (d + 5) Q) me_X7_readLine 150 [] [.int s0] I := by
  exact h_zret dX7_readLine_150 rfl (k1) (k2)
set_option maxHeartbeats 1000000 in
set_option maxRecDepth 4000 in
theorem sg_X7_readLine_164 {E : HEn} {d : Nat} {Q : Option Value → HIh → Prop} {I : HIh} {s0 : Int32}
    (k1 : s0 = 0 → Q (some (.int 0)) I)
    (k2 : ¬ s0 = 0 → Q (some (.int 1)) I)
    : HGo E (mF E (d + 5) Q) me_X7_readLine 164 [] [.int s0] I := by
  refine h_if_eq (tgt := 171) dX7_readLine_164 (by decide) (fun c1 => ?_) (fun c1 => ?_)
  ·
    refine h_iconst (v := 0) dX7_readLine_171 (by decide) ?_
    exact h_zret dX7_readLine_172 rfl rfl (k1 c1)
  ·
    refine h_iconst (v := 1) dX7_readLine_167 (by decide) ?_
    refine h_goto (tgt := 172) dX7_readLine_168 (by decide) ?_
    exact h_zret dX7_readLine_172 rfl rfl (k2 c1)
set_option maxHeartbeats 1000000 in
set_option maxRecDepth 4000 in
theorem sg_X7_readNumber_0 {E : HEn} {d : Nat} {Q : Option Value → HIh → Prop} {I : HIh} {l : Int32} {m : Int32}
    (k1 : ¬ (I 19 6) = 2 → Q (some (.int 0)) I)
    (k2 : (I 19 6) = 2 → ((I 19 5) - (I 19 4)) ≤ 3 → HGo E (mF E (d + 3) Q) me_X7_readNumber 33 [(0, .ref 19), (1, .int l), (2, .int m), (3, .int ((setI I 19 (upd (I 19) 7 0)) 19 4))] [] (setI I 19 (upd (I 19) 7 0)))
    (k3 : (I 19 6) = 2 → ¬ ((I 19 5) - (I 19 4)) ≤ 3 → Q (some (.int 0)) I)
    : HGo E (mF E (d + 3) Q) me_X7_readNumber 0 [(0, .ref 19), (1, .int l), (2, .int m)] [] I := by
  refine h_aload_n dX7_readNumber_0 rfl 0 rfl ?_
  refine gf_6_6 dX7_readNumber_1 hl_X7_46 nl_19 zk_19 ?_
  refine h_iconst (v := 2) dX7_readNumber_4 (by decide) ?_
  refine h_icmp_ne (tgt := 21) dX7_readNumber_5 (by decide) (fun c1 => ?_) (fun c1 => ?_)
  ·
    refine h_iconst (v := 0) dX7_readNumber_21 (by decide) ?_
    exact h_zret dX7_readNumber_22 rfl rfl (k1 c1)
  ·
    refine h_aload_n dX7_readNumber_8 rfl 0 rfl ?_
    refine gf_6_5 dX7_readNumber_9 hl_X7_30 nl_19 zk_19 ?_
    refine h_aload_n dX7_readNumber_12 rfl 0 rfl ?_
    refine gf_6_4 dX7_readNumber_13 hl_X7_43 nl_19 zk_19 ?_
    refine h_isub dX7_readNumber_16 ?_
    refine h_iconst (v := 3) dX7_readNumber_17 (by decide) ?_
    refine h_icmp_le (tgt := 23) dX7_readNumber_18 (by decide) (fun c2 => ?_) (fun c2 => ?_)
    ·
      refine h_aload_n dX7_readNumber_23 rfl 0 rfl ?_
      refine h_iconst (v := 0) dX7_readNumber_24 (by decide) ?_
      refine pf_6_7 dX7_readNumber_25 hl_X7_86 nl_19 zk_19 ?_
      refine h_aload_n dX7_readNumber_28 rfl 0 rfl ?_
      refine gf_6_4 dX7_readNumber_29 hl_X7_43 nl_19 zk_19 ?_
      refine h_istore_n (L' := [(3, .int ((setI I 19 (upd (I 19) 7 0)) 19 4)), (0, .ref 19), (1, .int l), (2, .int m)]) dX7_readNumber_32 rfl (by decide) rfl ?_
      refine h_pick [1, 2, 3, 0] [(0, .ref 19), (1, .int l), (2, .int m), (3, .int ((setI I 19 (upd (I 19) 7 0)) 19 4))] rfl ?_
      exact k2 c1 c2
    ·
      refine h_iconst (v := 0) dX7_readNumber_21 (by decide) ?_
      exact h_zret dX7_readNumber_22 rfl rfl (k3 c1 c2)
set_option maxHeartbeats 1000000 in
set_option maxRecDepth 4000 in
theorem sg_X7_readNumber_33 {E : HEn} {d : Nat} {Q : Option Value → HIh → Prop} {I : HIh} {x1 : Int32} {x2 : Int32} {x3 : Int32}
    (k1 : (I 19 5) ≤ x3 → (I 19 7) < x1 → Q (some (.int 0)) I)
    (k2 : (I 19 5) ≤ x3 → ¬ (I 19 7) < x1 → (I 19 7) ≤ x2 → HCall E me_X7_nextToken (d + 2) [.ref 19] I (fun v9 J => HGo E (mF E (d + 3) Q) me_X7_readNumber 89 [] (v9.toList ++ []) J))
    (k3 : (I 19 5) ≤ x3 → ¬ (I 19 7) < x1 → ¬ (I 19 7) ≤ x2 → Q (some (.int 0)) I)
    (k4 : ¬ (I 19 5) ≤ x3 → HCall E me_X7_byteAt (d + 2) [.ref 19, .int x3] I (fun v9 J => HGo E (mF E (d + 3) Q) me_X7_readNumber 54 [(0, .ref 19), (1, .int x1), (2, .int x2), (3, .int x3)] (v9.toList ++ [.int (10 * (I 19 7)), .ref 19]) J))
    : HGo E (mF E (d + 3) Q) me_X7_readNumber 33 [(0, .ref 19), (1, .int x1), (2, .int x2), (3, .int x3)] [] I := by
  refine h_iload_n dX7_readNumber_33 rfl 3 rfl ?_
  refine h_aload_n dX7_readNumber_34 rfl 0 rfl ?_
  refine gf_6_5 dX7_readNumber_35 hl_X7_30 nl_19 zk_19 ?_
  refine h_icmp_ge (tgt := 67) dX7_readNumber_38 (by decide) (fun c1 => ?_) (fun c1 => ?_)
  ·
    refine h_aload_n dX7_readNumber_67 rfl 0 rfl ?_
    refine gf_6_7 dX7_readNumber_68 hl_X7_86 nl_19 zk_19 ?_
    refine h_iload_n dX7_readNumber_71 rfl 1 rfl ?_
    refine h_icmp_lt (tgt := 83) dX7_readNumber_72 (by decide) (fun c2 => ?_) (fun c2 => ?_)
    ·
      refine h_iconst (v := 0) dX7_readNumber_83 (by decide) ?_
      exact h_zret dX7_readNumber_84 rfl rfl (k1 c1 c2)
    ·
      refine h_aload_n dX7_readNumber_75 rfl 0 rfl ?_
      refine gf_6_7 dX7_readNumber_76 hl_X7_86 nl_19 zk_19 ?_
      refine h_iload_n dX7_readNumber_79 rfl 2 rfl ?_
      refine h_icmp_le (tgt := 85) dX7_readNumber_80 (by decide) (fun c3 => ?_) (fun c3 => ?_)
      ·
        refine h_aload_n dX7_readNumber_85 rfl 0 rfl ?_
        refine h_pick [] [] rfl ?_
        refine h_invV (As := []) (st := []) dX7_readNumber_86 lk_X7_33 (h_room (by decide)) nl_19 zk_19 (by decide) rfl rfl rfl (Nat.le_of_ble_eq_true rfl) ?_
        exact k2 c1 c2 c3
      ·
        refine h_iconst (v := 0) dX7_readNumber_83 (by decide) ?_
        exact h_zret dX7_readNumber_84 rfl rfl (k3 c1 c2 c3)
  ·
    refine h_aload_n dX7_readNumber_41 rfl 0 rfl ?_
    refine h_bipush (v := 10) dX7_readNumber_42 (by decide) ?_
    refine h_aload_n dX7_readNumber_44 rfl 0 rfl ?_
    refine gf_6_7 dX7_readNumber_45 hl_X7_86 nl_19 zk_19 ?_
    refine h_imul dX7_readNumber_48 ?_
    refine h_aload_n dX7_readNumber_49 rfl 0 rfl ?_
    refine h_iload_n dX7_readNumber_50 rfl 3 rfl ?_
    refine h_invV (As := [.int x3]) (st := [.int (10 * (I 19 7)), .ref 19]) dX7_readNumber_51 lk_X7_52 (h_room (by decide)) nl_19 zk_19 (by decide) rfl rfl rfl (Nat.le_of_ble_eq_true rfl) ?_
    exact k4 c1
set_option maxHeartbeats 1000000 in
set_option maxRecDepth 4000 in
theorem sg_X7_readNumber_89 {E : HEn} {d : Nat} {Q : Option Value → HIh → Prop} {I : HIh} 
    (k1 : Q (some (.int 1)) I)
    : HGo E (mF E (d + 3) Q) me_X7_readNumber 89 [] [] I := by
  refine h_iconst (v := 1) dX7_readNumber_89 (by decide) ?_
  exact h_zret dX7_readNumber_90 rfl rfl (k1)
set_option maxHeartbeats 1000000 in
set_option maxRecDepth 4000 in
theorem sg_X7_readNumber_54 {E : HEn} {d : Nat} {Q : Option Value → HIh → Prop} {I : HIh} {x1 : Int32} {x2 : Int32} {x3 : Int32} {s0 : Int32} {s1 : Int32}
    (k1 : HGo E (mF E (d + 3) Q) me_X7_readNumber 33 [(0, .ref 19), (1, .int x1), (2, .int x2), (3, .int (x3 + 1))] [] (setI I 19 (upd (I 19) 7 ((s1 + s0) - 48))))
    : HGo E (mF E (d + 3) Q) me_X7_readNumber 54 [(0, .ref 19), (1, .int x1), (2, .int x2), (3, .int x3)] [.int s0, .int s1, .ref 19] I := by
  refine h_iadd dX7_readNumber_54 ?_
  refine h_bipush (v := 48) dX7_readNumber_55 (by decide) ?_
  refine h_isub dX7_readNumber_57 ?_
  refine pf_6_7 dX7_readNumber_58 hl_X7_86 nl_19 zk_19 ?_
  refine h_iinc (v := (x3 + 1)) (L' := [(3, .int (x3 + 1)), (0, .ref 19), (1, .int x1), (2, .int x2)]) dX7_readNumber_61 3 rfl rfl (by decide) rfl ?_
  refine h_goto (tgt := 33) dX7_readNumber_64 (by decide) ?_
  refine h_pick [1, 2, 3, 0] [(0, .ref 19), (1, .int x1), (2, .int x2), (3, .int (x3 + 1))] rfl ?_
  exact k1
set_option maxHeartbeats 1000000 in
set_option maxRecDepth 4000 in
theorem sg_X7_readCoins_0 {E : HEn} {d : Nat} {Q : Option Value → HIh → Prop} {I : HIh} 
    (k1 : HCall E me_X4_empty (d + 3) [.ref 30] I (fun v9 J => HGo E (mF E (d + 4) Q) me_X7_readCoins 10 [(0, .ref 19)] (v9.toList ++ []) J))
    : HGo E (mF E (d + 4) Q) me_X7_readCoins 0 [(0, .ref 19)] [] I := by
  refine h_aload_n dX7_readCoins_0 rfl 0 rfl ?_
  refine gf_6_1 dX7_readCoins_1 hl_X7_18 nl_19 zk_19 zp_19_1 ?_
  refine gf_7_8 dX7_readCoins_4 hl_X7_127 nl_21 zk_21 zp_21_8 ?_
  refine h_invV (As := []) (st := []) dX7_readCoins_7 lk_X7_131 (h_room (by decide)) nl_30 zk_30 (by decide) rfl rfl rfl (Nat.le_of_ble_eq_true rfl) ?_
  exact k1
set_option maxHeartbeats 1000000 in
set_option maxRecDepth 4000 in
theorem sg_X7_readCoins_10 {E : HEn} {d : Nat} {Q : Option Value → HIh → Prop} {I : HIh} 
    (k1 : HGo E (mF E (d + 4) Q) me_X7_readCoins 22 [(0, .ref 19), (1, .int 0), (2, .int 0)] [] (setI I 21 (upd (I 21) 9 0)))
    : HGo E (mF E (d + 4) Q) me_X7_readCoins 10 [(0, .ref 19)] [] I := by
  refine h_aload_n dX7_readCoins_10 rfl 0 rfl ?_
  refine gf_6_1 dX7_readCoins_11 hl_X7_18 nl_19 zk_19 zp_19_1 ?_
  refine h_iconst (v := 0) dX7_readCoins_14 (by decide) ?_
  refine pf_7_9 dX7_readCoins_15 hl_X7_136 nl_21 zk_21 ?_
  refine h_iconst (v := 0) dX7_readCoins_18 (by decide) ?_
  refine h_istore_n (L' := [(1, .int 0), (0, .ref 19)]) dX7_readCoins_19 rfl (by decide) rfl ?_
  refine h_iconst (v := 0) dX7_readCoins_20 (by decide) ?_
  refine h_istore_n (L' := [(2, .int 0), (1, .int 0), (0, .ref 19)]) dX7_readCoins_21 rfl (by decide) rfl ?_
  refine h_pick [2, 1, 0] [(0, .ref 19), (1, .int 0), (2, .int 0)] rfl ?_
  exact k1
set_option maxHeartbeats 1000000 in
set_option maxRecDepth 4000 in
theorem sg_X7_readCoins_22 {E : HEn} {d : Nat} {Q : Option Value → HIh → Prop} {I : HIh} {x1 : Int32} {x2 : Int32}
    (k1 : 6 ≤ x2 → Q (some (.int 1)) I)
    (k2 : ¬ 6 ≤ x2 → x2 ≤ 0 → HCall E me_X7_readNumber (d + 3) [.ref 19, .int (x1 + 1), .int 999] I (fun v9 J => HGo E (mF E (d + 4) Q) me_X7_readCoins 52 [(0, .ref 19), (2, .int x2)] (v9.toList ++ []) J))
    (k3 : ¬ 6 ≤ x2 → ¬ x2 ≤ 0 → (I 19 6) = 2 → HCall E me_X7_readNumber (d + 3) [.ref 19, .int (x1 + 1), .int 999] I (fun v9 J => HGo E (mF E (d + 4) Q) me_X7_readCoins 52 [(0, .ref 19), (2, .int x2)] (v9.toList ++ []) J))
    (k4 : ¬ 6 ≤ x2 → ¬ x2 ≤ 0 → ¬ (I 19 6) = 2 → Q (some (.int 1)) I)
    : HGo E (mF E (d + 4) Q) me_X7_readCoins 22 [(0, .ref 19), (1, .int x1), (2, .int x2)] [] I := by
  refine h_iload_n dX7_readCoins_22 rfl 2 rfl ?_
  refine h_bipush (v := 6) dX7_readCoins_23 (by decide) ?_
  refine h_icmp_ge (tgt := 79) dX7_readCoins_25 (by decide) (fun c1 => ?_) (fun c1 => ?_)
  ·
    refine h_iconst (v := 1) dX7_readCoins_79 (by decide) ?_
    exact h_zret dX7_readCoins_80 rfl rfl (k1 c1)
  ·
    refine h_iload_n dX7_readCoins_28 rfl 2 rfl ?_
    refine h_if_le (tgt := 42) dX7_readCoins_29 (by decide) (fun c2 => ?_) (fun c2 => ?_)
    ·
      refine h_aload_n dX7_readCoins_42 rfl 0 rfl ?_
      refine h_iload_n dX7_readCoins_43 rfl 1 rfl ?_
      refine h_iconst (v := 1) dX7_readCoins_44 (by decide) ?_
      refine h_iadd dX7_readCoins_45 ?_
      refine h_sipush (v := 999) dX7_readCoins_46 (by decide) ?_
      refine h_pick [0, 2] [(0, .ref 19), (2, .int x2)] rfl ?_
      refine h_invV (As := [.int (x1 + 1), .int 999]) (st := []) dX7_readCoins_49 lk_X7_82 (h_room (by decide)) nl_19 zk_19 (by decide) rfl rfl rfl (Nat.le_of_ble_eq_true rfl) ?_
      exact k2 c1 c2
    ·
      refine h_aload_n dX7_readCoins_32 rfl 0 rfl ?_
      refine gf_6_6 dX7_readCoins_33 hl_X7_46 nl_19 zk_19 ?_
      refine h_iconst (v := 2) dX7_readCoins_36 (by decide) ?_
      refine h_icmp_eq (tgt := 42) dX7_readCoins_37 (by decide) (fun c3 => ?_) (fun c3 => ?_)
      ·
        refine h_aload_n dX7_readCoins_42 rfl 0 rfl ?_
        refine h_iload_n dX7_readCoins_43 rfl 1 rfl ?_
        refine h_iconst (v := 1) dX7_readCoins_44 (by decide) ?_
        refine h_iadd dX7_readCoins_45 ?_
        refine h_sipush (v := 999) dX7_readCoins_46 (by decide) ?_
        refine h_pick [0, 2] [(0, .ref 19), (2, .int x2)] rfl ?_
        refine h_invV (As := [.int (x1 + 1), .int 999]) (st := []) dX7_readCoins_49 lk_X7_82 (h_room (by decide)) nl_19 zk_19 (by decide) rfl rfl rfl (Nat.le_of_ble_eq_true rfl) ?_
        exact k3 c1 c2 c3
      ·
        refine h_iconst (v := 1) dX7_readCoins_40 (by decide) ?_
        exact h_zret dX7_readCoins_41 rfl rfl (k4 c1 c2 c3)
set_option maxHeartbeats 1000000 in
set_option maxRecDepth 4000 in
theorem sg_X7_readCoins_52 {E : HEn} {d : Nat} {Q : Option Value → HIh → Prop} {I : HIh} {x2 : Int32} {s0 : Int32}
    (k1 : ¬ s0 = 0 → HCall E me_X9_addKind (d + 3) [.ref 21, .int (I 19 7)] I (fun v9 J => HGo E (mF E (d + 4) Q) me_X7_readCoins 73 [(0, .ref 19), (1, .int (I 19 7)), (2, .int x2)] (v9.toList ++ []) J))
    (k2 : s0 = 0 → Q (some (.int 0)) I)
    : HGo E (mF E (d + 4) Q) me_X7_readCoins 52 [(0, .ref 19), (2, .int x2)] [.int s0] I := by
  refine h_if_ne (tgt := 57) dX7_readCoins_52 (by decide) (fun c1 => ?_) (fun c1 => ?_)
  ·
    refine h_aload_n dX7_readCoins_57 rfl 0 rfl ?_
    refine gf_6_7 dX7_readCoins_58 hl_X7_86 nl_19 zk_19 ?_
    refine h_istore_n (L' := [(1, .int (I 19 7)), (0, .ref 19), (2, .int x2)]) dX7_readCoins_61 rfl (by decide) rfl ?_
    refine h_aload_n dX7_readCoins_62 rfl 1 rfl ?_
    refine gf_6_1 dX7_readCoins_63 hl_X7_18 nl_19 zk_19 zp_19_1 ?_
    refine h_aload_n dX7_readCoins_66 rfl 1 rfl ?_
    refine gf_6_7 dX7_readCoins_67 hl_X7_86 nl_19 zk_19 ?_
    refine h_pick [1, 0, 2] [(0, .ref 19), (1, .int (I 19 7)), (2, .int x2)] rfl ?_
    refine h_invV (As := [.int (I 19 7)]) (st := []) dX7_readCoins_70 lk_X7_139 (h_room (by decide)) nl_21 zk_21 (by decide) rfl rfl rfl (Nat.le_of_ble_eq_true rfl) ?_
    exact k1 c1
  ·
    refine h_iconst (v := 0) dX7_readCoins_55 (by decide) ?_
    exact h_zret dX7_readCoins_56 rfl rfl (k2 c1)
set_option maxHeartbeats 1000000 in
set_option maxRecDepth 4000 in
theorem sg_X7_readCoins_73 {E : HEn} {d : Nat} {Q : Option Value → HIh → Prop} {I : HIh} {x1 : Int32} {x2 : Int32}
    (k1 : HGo E (mF E (d + 4) Q) me_X7_readCoins 22 [(0, .ref 19), (1, .int x1), (2, .int (x2 + 1))] [] I)
    : HGo E (mF E (d + 4) Q) me_X7_readCoins 73 [(0, .ref 19), (1, .int x1), (2, .int x2)] [] I := by
  refine h_iinc (v := (x2 + 1)) (L' := [(2, .int (x2 + 1)), (0, .ref 19), (1, .int x1)]) dX7_readCoins_73 2 rfl rfl (by decide) rfl ?_
  refine h_goto (tgt := 22) dX7_readCoins_76 (by decide) ?_
  refine h_pick [1, 2, 0] [(0, .ref 19), (1, .int x1), (2, .int (x2 + 1))] rfl ?_
  exact k1
set_option maxHeartbeats 1000000 in
set_option maxRecDepth 4000 in
theorem sg_X7_readAmount_0 {E : HEn} {d : Nat} {Q : Option Value → HIh → Prop} {I : HIh} {o : Int32}
    (k1 : HCall E me_X7_readNumber (d + 3) [.ref 19, .int 0, .int ((I 21 9) - 1)] I (fun v9 J => HGo E (mF E (d + 4) Q) me_X7_readAmount 14 [(0, .ref 19), (1, .int o)] (v9.toList ++ []) J))
    : HGo E (mF E (d + 4) Q) me_X7_readAmount 0 [(0, .ref 19), (1, .int o)] [] I := by
  refine h_aload_n dX7_readAmount_0 rfl 0 rfl ?_
  refine h_iconst (v := 0) dX7_readAmount_1 (by decide) ?_
  refine h_aload_n dX7_readAmount_2 rfl 0 rfl ?_
  refine gf_6_1 dX7_readAmount_3 hl_X7_18 nl_19 zk_19 zp_19_1 ?_
  refine gf_7_9 dX7_readAmount_6 hl_X7_136 nl_21 zk_21 ?_
  refine h_iconst (v := 1) dX7_readAmount_9 (by decide) ?_
  refine h_isub dX7_readAmount_10 ?_
  refine h_invV (As := [.int 0, .int ((I 21 9) - 1)]) (st := []) dX7_readAmount_11 lk_X7_82 (h_room (by decide)) nl_19 zk_19 (by decide) rfl rfl rfl (Nat.le_of_ble_eq_true rfl) ?_
  exact k1
set_option maxHeartbeats 1000000 in
set_option maxRecDepth 4000 in
theorem sg_X7_readAmount_14 {E : HEn} {d : Nat} {Q : Option Value → HIh → Prop} {I : HIh} {x1 : Int32} {s0 : Int32}
    (k1 : ¬ s0 = 0 → HCall E me_X7_readNumber (d + 3) [.ref 19, .int 0, .int 20] I (fun v9 J => HGo E (mF E (d + 4) Q) me_X7_readAmount 31 [(0, .ref 19), (1, .int x1), (2, .int (I 19 7))] (v9.toList ++ []) J))
    (k2 : s0 = 0 → Q (some (.int 0)) I)
    : HGo E (mF E (d + 4) Q) me_X7_readAmount 14 [(0, .ref 19), (1, .int x1)] [.int s0] I := by
  refine h_if_ne (tgt := 19) dX7_readAmount_14 (by decide) (fun c1 => ?_) (fun c1 => ?_)
  ·
    refine h_aload_n dX7_readAmount_19 rfl 0 rfl ?_
    refine gf_6_7 dX7_readAmount_20 hl_X7_86 nl_19 zk_19 ?_
    refine h_istore_n (L' := [(2, .int (I 19 7)), (0, .ref 19), (1, .int x1)]) dX7_readAmount_23 rfl (by decide) rfl ?_
    refine h_aload_n dX7_readAmount_24 rfl 1 rfl ?_
    refine h_iconst (v := 0) dX7_readAmount_25 (by decide) ?_
    refine h_bipush (v := 20) dX7_readAmount_26 (by decide) ?_
    refine h_pick [1, 2, 0] [(0, .ref 19), (1, .int x1), (2, .int (I 19 7))] rfl ?_
    refine h_invV (As := [.int 0, .int 20]) (st := []) dX7_readAmount_28 lk_X7_82 (h_room (by decide)) nl_19 zk_19 (by decide) rfl rfl rfl (Nat.le_of_ble_eq_true rfl) ?_
    exact k1 c1
  ·
    refine h_iconst (v := 0) dX7_readAmount_17 (by decide) ?_
    exact h_zret dX7_readAmount_18 rfl rfl (k2 c1)
set_option maxHeartbeats 1000000 in
set_option maxRecDepth 4000 in
theorem sg_X7_readAmount_31 {E : HEn} {d : Nat} {Q : Option Value → HIh → Prop} {I : HIh} {x1 : Int32} {x2 : Int32} {s0 : Int32}
    (k1 : ¬ s0 = 0 → HCall E me_X4_of (d + 3) [.ref 30, .int x1, .int x2] I (fun v9 J => HGo E (mF E (d + 4) Q) me_X7_readAmount 61 [] (v9.toList ++ [.int (I 19 7), .int x2, .int x1, .ref 30]) J))
    (k2 : s0 = 0 → Q (some (.int 0)) I)
    : HGo E (mF E (d + 4) Q) me_X7_readAmount 31 [(0, .ref 19), (1, .int x1), (2, .int x2)] [.int s0] I := by
  refine h_if_ne (tgt := 36) dX7_readAmount_31 (by decide) (fun c1 => ?_) (fun c1 => ?_)
  ·
    refine h_aload_n dX7_readAmount_36 rfl 0 rfl ?_
    refine gf_6_1 dX7_readAmount_37 hl_X7_18 nl_19 zk_19 zp_19_1 ?_
    refine gf_7_8 dX7_readAmount_40 hl_X7_127 nl_21 zk_21 zp_21_8 ?_
    refine h_iload_n dX7_readAmount_43 rfl 1 rfl ?_
    refine h_iload_n dX7_readAmount_44 rfl 2 rfl ?_
    refine h_aload_n dX7_readAmount_45 rfl 0 rfl ?_
    refine gf_6_7 dX7_readAmount_46 hl_X7_86 nl_19 zk_19 ?_
    refine h_aload_n dX7_readAmount_49 rfl 0 rfl ?_
    refine gf_6_1 dX7_readAmount_50 hl_X7_18 nl_19 zk_19 zp_19_1 ?_
    refine gf_7_8 dX7_readAmount_53 hl_X7_127 nl_21 zk_21 zp_21_8 ?_
    refine h_iload_n dX7_readAmount_56 rfl 1 rfl ?_
    refine h_iload_n dX7_readAmount_57 rfl 2 rfl ?_
    refine h_pick [] [] rfl ?_
    refine h_invV (As := [.int x1, .int x2]) (st := [.int (I 19 7), .int x2, .int x1, .ref 30]) dX7_readAmount_58 lk_X7_143 (h_room (by decide)) nl_30 zk_30 (by decide) rfl rfl rfl (Nat.le_of_ble_eq_true rfl) ?_
    exact k1 c1
  ·
    refine h_iconst (v := 0) dX7_readAmount_34 (by decide) ?_
    exact h_zret dX7_readAmount_35 rfl rfl (k2 c1)
set_option maxHeartbeats 1000000 in
set_option maxRecDepth 4000 in
theorem sg_X7_readAmount_61 {E : HEn} {d : Nat} {Q : Option Value → HIh → Prop} {I : HIh} {s0 : Int32} {s1 : Int32} {s2 : Int32} {s3 : Int32}
    (k1 : HCall E me_X4_add (d + 3) [.ref 30, .int s3, .int s2, .int (s1 - s0)] I (fun v9 J => HGo E (mF E (d + 4) Q) me_X7_readAmount 65 [] (v9.toList ++ []) J))
    : HGo E (mF E (d + 4) Q) me_X7_readAmount 61 [] [.int s0, .int s1, .int s2, .int s3, .ref 30] I := by
  refine h_isub dX7_readAmount_61 ?_
  refine h_invV (As := [.int s3, .int s2, .int (s1 - s0)]) (st := []) dX7_readAmount_62 lk_X7_146 (h_room (by decide)) nl_30 zk_30 (by decide) rfl rfl rfl (Nat.le_of_ble_eq_true rfl) ?_
  exact k1
set_option maxHeartbeats 1000000 in
set_option maxRecDepth 4000 in
theorem sg_X7_readAmount_65 {E : HEn} {d : Nat} {Q : Option Value → HIh → Prop} {I : HIh} 
    (k1 : Q (some (.int 1)) I)
    : HGo E (mF E (d + 4) Q) me_X7_readAmount 65 [] [] I := by
  refine h_iconst (v := 1) dX7_readAmount_65 (by decide) ?_
  exact h_zret dX7_readAmount_66 rfl rfl (k1)
set_option maxHeartbeats 1000000 in
set_option maxRecDepth 4000 in
theorem sg_X7_readHabit_0 {E : HEn} {d : Nat} {Q : Option Value → HIh → Prop} {I : HIh} {b : Int32}
    (k1 : HCall E me_X7_readNumber (d + 3) [.ref 19, .int 0, .int 3] I (fun v9 J => HGo E (mF E (d + 4) Q) me_X7_readHabit 6 [(0, .ref 19), (1, .int b)] (v9.toList ++ []) J))
    : HGo E (mF E (d + 4) Q) me_X7_readHabit 0 [(0, .ref 19), (1, .int b)] [] I := by
  refine h_aload_n dX7_readHabit_0 rfl 0 rfl ?_
  refine h_iconst (v := 0) dX7_readHabit_1 (by decide) ?_
  refine h_iconst (v := 3) dX7_readHabit_2 (by decide) ?_
  refine h_invV (As := [.int 0, .int 3]) (st := []) dX7_readHabit_3 lk_X7_82 (h_room (by decide)) nl_19 zk_19 (by decide) rfl rfl rfl (Nat.le_of_ble_eq_true rfl) ?_
  exact k1
set_option maxHeartbeats 1000000 in
set_option maxRecDepth 4000 in
theorem sg_X7_readHabit_6 {E : HEn} {d : Nat} {Q : Option Value → HIh → Prop} {I : HIh} {x1 : Int32} {s0 : Int32}
    (k1 : ¬ s0 = 0 → HCall E me_X9_setHabit (d + 3) [.ref 21, .int (I 19 7), .int x1, .int 0] I (fun v9 J => HGo E (mF E (d + 4) Q) me_X7_readHabit 24 [] (v9.toList ++ []) J))
    (k2 : s0 = 0 → Q (some (.int 0)) I)
    : HGo E (mF E (d + 4) Q) me_X7_readHabit 6 [(0, .ref 19), (1, .int x1)] [.int s0] I := by
  refine h_if_ne (tgt := 11) dX7_readHabit_6 (by decide) (fun c1 => ?_) (fun c1 => ?_)
  ·
    refine h_aload_n dX7_readHabit_11 rfl 0 rfl ?_
    refine gf_6_1 dX7_readHabit_12 hl_X7_18 nl_19 zk_19 zp_19_1 ?_
    refine h_aload_n dX7_readHabit_15 rfl 0 rfl ?_
    refine gf_6_7 dX7_readHabit_16 hl_X7_86 nl_19 zk_19 ?_
    refine h_iload_n dX7_readHabit_19 rfl 1 rfl ?_
    refine h_iconst (v := 0) dX7_readHabit_20 (by decide) ?_
    refine h_pick [] [] rfl ?_
    refine h_invV (As := [.int (I 19 7), .int x1, .int 0]) (st := []) dX7_readHabit_21 lk_X7_150 (h_room (by decide)) nl_21 zk_21 (by decide) rfl rfl rfl (Nat.le_of_ble_eq_true rfl) ?_
    exact k1 c1
  ·
    refine h_iconst (v := 0) dX7_readHabit_9 (by decide) ?_
    exact h_zret dX7_readHabit_10 rfl rfl (k2 c1)
set_option maxHeartbeats 1000000 in
set_option maxRecDepth 4000 in
theorem sg_X7_readHabit_24 {E : HEn} {d : Nat} {Q : Option Value → HIh → Prop} {I : HIh} 
    (k1 : Q (some (.int 1)) I)
    : HGo E (mF E (d + 4) Q) me_X7_readHabit 24 [] [] I := by
  refine h_iconst (v := 1) dX7_readHabit_24 (by decide) ?_
  exact h_zret dX7_readHabit_25 rfl rfl (k1)
set_option maxHeartbeats 1000000 in
set_option maxRecDepth 4000 in
theorem sg_X7_readWaiting_0 {E : HEn} {d : Nat} {Q : Option Value → HIh → Prop} {I : HIh} 
    (k1 : HCall E me_X7_readNumber (d + 3) [.ref 19, .int 0, .int 3] I (fun v9 J => HGo E (mF E (d + 4) Q) me_X7_readWaiting 6 [(0, .ref 19)] (v9.toList ++ []) J))
    : HGo E (mF E (d + 4) Q) me_X7_readWaiting 0 [(0, .ref 19)] [] I := by
  refine h_aload_n dX7_readWaiting_0 rfl 0 rfl ?_
  refine h_iconst (v := 0) dX7_readWaiting_1 (by decide) ?_
  refine h_iconst (v := 3) dX7_readWaiting_2 (by decide) ?_
  refine h_invV (As := [.int 0, .int 3]) (st := []) dX7_readWaiting_3 lk_X7_82 (h_room (by decide)) nl_19 zk_19 (by decide) rfl rfl rfl (Nat.le_of_ble_eq_true rfl) ?_
  exact k1
set_option maxHeartbeats 1000000 in
set_option maxRecDepth 4000 in
theorem sg_X7_readWaiting_6 {E : HEn} {d : Nat} {Q : Option Value → HIh → Prop} {I : HIh} {s0 : Int32}
    (k1 : ¬ s0 = 0 → HCall E me_X7_readNumber (d + 3) [.ref 19, .int 0, .int 99] I (fun v9 J => HGo E (mF E (d + 4) Q) me_X7_readWaiting 23 [(0, .ref 19), (1, .int (I 19 7))] (v9.toList ++ []) J))
    (k2 : s0 = 0 → Q (some (.int 0)) I)
    : HGo E (mF E (d + 4) Q) me_X7_readWaiting 6 [(0, .ref 19)] [.int s0] I := by
  refine h_if_ne (tgt := 11) dX7_readWaiting_6 (by decide) (fun c1 => ?_) (fun c1 => ?_)
  ·
    refine h_aload_n dX7_readWaiting_11 rfl 0 rfl ?_
    refine gf_6_7 dX7_readWaiting_12 hl_X7_86 nl_19 zk_19 ?_
    refine h_istore_n (L' := [(1, .int (I 19 7)), (0, .ref 19)]) dX7_readWaiting_15 rfl (by decide) rfl ?_
    refine h_aload_n dX7_readWaiting_16 rfl 1 rfl ?_
    refine h_iconst (v := 0) dX7_readWaiting_17 (by decide) ?_
    refine h_bipush (v := 99) dX7_readWaiting_18 (by decide) ?_
    refine h_pick [1, 0] [(0, .ref 19), (1, .int (I 19 7))] rfl ?_
    refine h_invV (As := [.int 0, .int 99]) (st := []) dX7_readWaiting_20 lk_X7_82 (h_room (by decide)) nl_19 zk_19 (by decide) rfl rfl rfl (Nat.le_of_ble_eq_true rfl) ?_
    exact k1 c1
  ·
    refine h_iconst (v := 0) dX7_readWaiting_9 (by decide) ?_
    exact h_zret dX7_readWaiting_10 rfl rfl (k2 c1)
set_option maxHeartbeats 1000000 in
set_option maxRecDepth 4000 in
theorem sg_X7_readWaiting_23 {E : HEn} {d : Nat} {Q : Option Value → HIh → Prop} {I : HIh} {x1 : Int32} {s0 : Int32}
    (k1 : ¬ s0 = 0 → HCall E me_X9_setHabit (d + 3) [.ref 21, .int x1, .int 2, .int (I 19 7)] I (fun v9 J => HGo E (mF E (d + 4) Q) me_X7_readWaiting 41 [] (v9.toList ++ []) J))
    (k2 : s0 = 0 → Q (some (.int 0)) I)
    : HGo E (mF E (d + 4) Q) me_X7_readWaiting 23 [(0, .ref 19), (1, .int x1)] [.int s0] I := by
  refine h_if_ne (tgt := 28) dX7_readWaiting_23 (by decide) (fun c1 => ?_) (fun c1 => ?_)
  ·
    refine h_aload_n dX7_readWaiting_28 rfl 0 rfl ?_
    refine gf_6_1 dX7_readWaiting_29 hl_X7_18 nl_19 zk_19 zp_19_1 ?_
    refine h_iload_n dX7_readWaiting_32 rfl 1 rfl ?_
    refine h_iconst (v := 2) dX7_readWaiting_33 (by decide) ?_
    refine h_aload_n dX7_readWaiting_34 rfl 0 rfl ?_
    refine gf_6_7 dX7_readWaiting_35 hl_X7_86 nl_19 zk_19 ?_
    refine h_pick [] [] rfl ?_
    refine h_invV (As := [.int x1, .int 2, .int (I 19 7)]) (st := []) dX7_readWaiting_38 lk_X7_150 (h_room (by decide)) nl_21 zk_21 (by decide) rfl rfl rfl (Nat.le_of_ble_eq_true rfl) ?_
    exact k1 c1
  ·
    refine h_iconst (v := 0) dX7_readWaiting_26 (by decide) ?_
    exact h_zret dX7_readWaiting_27 rfl rfl (k2 c1)
set_option maxHeartbeats 1000000 in
set_option maxRecDepth 4000 in
theorem sg_X7_readWaiting_41 {E : HEn} {d : Nat} {Q : Option Value → HIh → Prop} {I : HIh} 
    (k1 : Q (some (.int 1)) I)
    : HGo E (mF E (d + 4) Q) me_X7_readWaiting 41 [] [] I := by
  refine h_iconst (v := 1) dX7_readWaiting_41 (by decide) ?_
  exact h_zret dX7_readWaiting_42 rfl rfl (k1)
set_option maxHeartbeats 1000000 in
set_option maxRecDepth 4000 in
theorem sg_X7_readVisits_0 {E : HEn} {d : Nat} {Q : Option Value → HIh → Prop} {I : HIh} 
    (k1 : HGo E (mF E (d + 4) Q) me_X7_readVisits 2 [(0, .ref 19), (1, .int 0)] [] I)
    : HGo E (mF E (d + 4) Q) me_X7_readVisits 0 [(0, .ref 19)] [] I := by
  refine h_iconst (v := 0) dX7_readVisits_0 (by decide) ?_
  refine h_istore_n (L' := [(1, .int 0), (0, .ref 19)]) dX7_readVisits_1 rfl (by decide) rfl ?_
  refine h_pick [1, 0] [(0, .ref 19), (1, .int 0)] rfl ?_
  exact k1
set_option maxHeartbeats 1000000 in
set_option maxRecDepth 4000 in
theorem sg_X7_readVisits_2 {E : HEn} {d : Nat} {Q : Option Value → HIh → Prop} {I : HIh} {x1 : Int32}
    (k1 : 9 ≤ x1 → Q (some (.int 1)) I)
    (k2 : ¬ 9 ≤ x1 → x1 ≤ 0 → 24 ≤ (I 21 10) → Q (some (.int 0)) I)
    (k3 : ¬ 9 ≤ x1 → x1 ≤ 0 → ¬ 24 ≤ (I 21 10) → HCall E me_X7_readNumber (d + 3) [.ref 19, .int 0, .int 3] I (fun v9 J => HGo E (mF E (d + 4) Q) me_X7_readVisits 40 [(0, .ref 19), (1, .int x1)] (v9.toList ++ []) J))
    (k4 : ¬ 9 ≤ x1 → ¬ x1 ≤ 0 → (I 19 6) = 2 → 24 ≤ (I 21 10) → Q (some (.int 0)) I)
    (k5 : ¬ 9 ≤ x1 → ¬ x1 ≤ 0 → (I 19 6) = 2 → ¬ 24 ≤ (I 21 10) → HCall E me_X7_readNumber (d + 3) [.ref 19, .int 0, .int 3] I (fun v9 J => HGo E (mF E (d + 4) Q) me_X7_readVisits 40 [(0, .ref 19), (1, .int x1)] (v9.toList ++ []) J))
    (k6 : ¬ 9 ≤ x1 → ¬ x1 ≤ 0 → ¬ (I 19 6) = 2 → Q (some (.int 1)) I)
    : HGo E (mF E (d + 4) Q) me_X7_readVisits 2 [(0, .ref 19), (1, .int x1)] [] I := by
  refine h_iload_n dX7_readVisits_2 rfl 1 rfl ?_
  refine h_bipush (v := 9) dX7_readVisits_3 (by decide) ?_
  refine h_icmp_ge (tgt := 62) dX7_readVisits_5 (by decide) (fun c1 => ?_) (fun c1 => ?_)
  ·
    refine h_iconst (v := 1) dX7_readVisits_62 (by decide) ?_
    exact h_zret dX7_readVisits_63 rfl rfl (k1 c1)
  ·
    refine h_iload_n dX7_readVisits_8 rfl 1 rfl ?_
    refine h_if_le (tgt := 22) dX7_readVisits_9 (by decide) (fun c2 => ?_) (fun c2 => ?_)
    ·
      refine h_aload_n dX7_readVisits_22 rfl 0 rfl ?_
      refine gf_6_1 dX7_readVisits_23 hl_X7_18 nl_19 zk_19 zp_19_1 ?_
      refine gf_7_10 dX7_readVisits_26 hl_X7_153 nl_21 zk_21 ?_
      refine h_bipush (v := 24) dX7_readVisits_29 (by decide) ?_
      refine h_icmp_ge (tgt := 43) dX7_readVisits_31 (by decide) (fun c3 => ?_) (fun c3 => ?_)
      ·
        refine h_iconst (v := 0) dX7_readVisits_43 (by decide) ?_
        exact h_zret dX7_readVisits_44 rfl rfl (k2 c1 c2 c3)
      ·
        refine h_aload_n dX7_readVisits_34 rfl 0 rfl ?_
        refine h_iconst (v := 0) dX7_readVisits_35 (by decide) ?_
        refine h_iconst (v := 3) dX7_readVisits_36 (by decide) ?_
        refine h_invV (As := [.int 0, .int 3]) (st := []) dX7_readVisits_37 lk_X7_82 (h_room (by decide)) nl_19 zk_19 (by decide) rfl rfl rfl (Nat.le_of_ble_eq_true rfl) ?_
        exact k3 c1 c2 c3
    ·
      refine h_aload_n dX7_readVisits_12 rfl 0 rfl ?_
      refine gf_6_6 dX7_readVisits_13 hl_X7_46 nl_19 zk_19 ?_
      refine h_iconst (v := 2) dX7_readVisits_16 (by decide) ?_
      refine h_icmp_eq (tgt := 22) dX7_readVisits_17 (by decide) (fun c4 => ?_) (fun c4 => ?_)
      ·
        refine h_aload_n dX7_readVisits_22 rfl 0 rfl ?_
        refine gf_6_1 dX7_readVisits_23 hl_X7_18 nl_19 zk_19 zp_19_1 ?_
        refine gf_7_10 dX7_readVisits_26 hl_X7_153 nl_21 zk_21 ?_
        refine h_bipush (v := 24) dX7_readVisits_29 (by decide) ?_
        refine h_icmp_ge (tgt := 43) dX7_readVisits_31 (by decide) (fun c5 => ?_) (fun c5 => ?_)
        ·
          refine h_iconst (v := 0) dX7_readVisits_43 (by decide) ?_
          exact h_zret dX7_readVisits_44 rfl rfl (k4 c1 c2 c4 c5)
        ·
          refine h_aload_n dX7_readVisits_34 rfl 0 rfl ?_
          refine h_iconst (v := 0) dX7_readVisits_35 (by decide) ?_
          refine h_iconst (v := 3) dX7_readVisits_36 (by decide) ?_
          refine h_invV (As := [.int 0, .int 3]) (st := []) dX7_readVisits_37 lk_X7_82 (h_room (by decide)) nl_19 zk_19 (by decide) rfl rfl rfl (Nat.le_of_ble_eq_true rfl) ?_
          exact k5 c1 c2 c4 c5
      ·
        refine h_iconst (v := 1) dX7_readVisits_20 (by decide) ?_
        exact h_zret dX7_readVisits_21 rfl rfl (k6 c1 c2 c4)
set_option maxHeartbeats 1000000 in
set_option maxRecDepth 4000 in
theorem sg_X7_readVisits_40 {E : HEn} {d : Nat} {Q : Option Value → HIh → Prop} {I : HIh} {x1 : Int32} {s0 : Int32}
    (k1 : ¬ s0 = 0 → HCall E me_X9_addVisit (d + 3) [.ref 21, .int (I 19 7)] I (fun v9 J => HGo E (mF E (d + 4) Q) me_X7_readVisits 56 [(0, .ref 19), (1, .int x1)] (v9.toList ++ []) J))
    (k2 : s0 = 0 → Q (some (.int 0)) I)
    : HGo E (mF E (d + 4) Q) me_X7_readVisits 40 [(0, .ref 19), (1, .int x1)] [.int s0] I := by
  refine h_if_ne (tgt := 45) dX7_readVisits_40 (by decide) (fun c1 => ?_) (fun c1 => ?_)
  ·
    refine h_aload_n dX7_readVisits_45 rfl 0 rfl ?_
    refine gf_6_1 dX7_readVisits_46 hl_X7_18 nl_19 zk_19 zp_19_1 ?_
    refine h_aload_n dX7_readVisits_49 rfl 0 rfl ?_
    refine gf_6_7 dX7_readVisits_50 hl_X7_86 nl_19 zk_19 ?_
    refine h_invV (As := [.int (I 19 7)]) (st := []) dX7_readVisits_53 lk_X7_156 (h_room (by decide)) nl_21 zk_21 (by decide) rfl rfl rfl (Nat.le_of_ble_eq_true rfl) ?_
    exact k1 c1
  ·
    refine h_iconst (v := 0) dX7_readVisits_43 (by decide) ?_
    exact h_zret dX7_readVisits_44 rfl rfl (k2 c1)
set_option maxHeartbeats 1000000 in
set_option maxRecDepth 4000 in
theorem sg_X7_readVisits_56 {E : HEn} {d : Nat} {Q : Option Value → HIh → Prop} {I : HIh} {x1 : Int32}
    (k1 : HGo E (mF E (d + 4) Q) me_X7_readVisits 2 [(0, .ref 19), (1, .int (x1 + 1))] [] I)
    : HGo E (mF E (d + 4) Q) me_X7_readVisits 56 [(0, .ref 19), (1, .int x1)] [] I := by
  refine h_iinc (v := (x1 + 1)) (L' := [(1, .int (x1 + 1)), (0, .ref 19)]) dX7_readVisits_56 1 rfl rfl (by decide) rfl ?_
  refine h_goto (tgt := 2) dX7_readVisits_59 (by decide) ?_
  refine h_pick [1, 0] [(0, .ref 19), (1, .int (x1 + 1))] rfl ?_
  exact k1
set_option maxHeartbeats 1000000 in
set_option maxRecDepth 4000 in
theorem sg_X7_readLaw_0 {E : HEn} {d : Nat} {Q : Option Value → HIh → Prop} {I : HIh} 
    (k1 : HCall E me_X7_readNumber (d + 3) [.ref 19, .int 0, .int 3] I (fun v9 J => HGo E (mF E (d + 4) Q) me_X7_readLaw 6 [(0, .ref 19)] (v9.toList ++ []) J))
    : HGo E (mF E (d + 4) Q) me_X7_readLaw 0 [(0, .ref 19)] [] I := by
  refine h_aload_n dX7_readLaw_0 rfl 0 rfl ?_
  refine h_iconst (v := 0) dX7_readLaw_1 (by decide) ?_
  refine h_iconst (v := 3) dX7_readLaw_2 (by decide) ?_
  refine h_invV (As := [.int 0, .int 3]) (st := []) dX7_readLaw_3 lk_X7_82 (h_room (by decide)) nl_19 zk_19 (by decide) rfl rfl rfl (Nat.le_of_ble_eq_true rfl) ?_
  exact k1
set_option maxHeartbeats 1000000 in
set_option maxRecDepth 4000 in
theorem sg_X7_readLaw_6 {E : HEn} {d : Nat} {Q : Option Value → HIh → Prop} {I : HIh} {s0 : Int32}
    (k1 : ¬ s0 = 0 → Q (some (.int 1)) (setI I 21 (upd (I 21) 11 (I 19 7))))
    (k2 : s0 = 0 → Q (some (.int 0)) I)
    : HGo E (mF E (d + 4) Q) me_X7_readLaw 6 [(0, .ref 19)] [.int s0] I := by
  refine h_if_ne (tgt := 11) dX7_readLaw_6 (by decide) (fun c1 => ?_) (fun c1 => ?_)
  ·
    refine h_aload_n dX7_readLaw_11 rfl 0 rfl ?_
    refine gf_6_1 dX7_readLaw_12 hl_X7_18 nl_19 zk_19 zp_19_1 ?_
    refine h_aload_n dX7_readLaw_15 rfl 0 rfl ?_
    refine gf_6_7 dX7_readLaw_16 hl_X7_86 nl_19 zk_19 ?_
    refine pf_7_11 dX7_readLaw_19 hl_X7_159 nl_21 zk_21 ?_
    refine h_iconst (v := 1) dX7_readLaw_22 (by decide) ?_
    exact h_zret dX7_readLaw_23 rfl rfl (k1 c1)
  ·
    refine h_iconst (v := 0) dX7_readLaw_9 (by decide) ?_
    exact h_zret dX7_readLaw_10 rfl rfl (k2 c1)
set_option maxHeartbeats 1000000 in
set_option maxRecDepth 4000 in
theorem sg_X7_leaveAlone_0 {E : HEn} {d : Nat} {Q : Option Value → HIh → Prop} {I : HIh} 
    (k1 : Q (some (.int 1)) (setI I 21 (upd (I 21) 10 0)))
    : HGo E (mF E (d + 1) Q) me_X7_leaveAlone 0 [(0, .ref 19)] [] I := by
  refine h_aload_n dX7_leaveAlone_0 rfl 0 rfl ?_
  refine gf_6_1 dX7_leaveAlone_1 hl_X7_18 nl_19 zk_19 zp_19_1 ?_
  refine h_iconst (v := 0) dX7_leaveAlone_4 (by decide) ?_
  refine pf_7_10 dX7_leaveAlone_5 hl_X7_153 nl_21 zk_21 ?_
  refine h_iconst (v := 1) dX7_leaveAlone_8 (by decide) ?_
  exact h_zret dX7_leaveAlone_9 rfl rfl (k1)
