set_option maxHeartbeats 1000000 in
set_option maxRecDepth 4000 in
theorem sg_X2_becomeStale_0 {E : HEn} {d : Nat} {Q : Option Value → HIh → Prop} {I : HIh} 
    (k1 : Q none (setI I 32 (upd (I 32) 4 (-1))))
    : HGo E (mF E (d + 1) Q) me_X2_becomeStale 0 [(0, .ref 32)] [] I := by
  refine h_aload_n dX2_becomeStale_0 rfl 0 rfl ?_
  refine h_iconst (v := (-1)) dX2_becomeStale_1 (by decide) ?_
  refine pf_1_4 dX2_becomeStale_2 hl_X2_25 nl_32 zk_32 ?_
  exact h_vret dX2_becomeStale_5 rfl (k1)
set_option maxHeartbeats 1000000 in
set_option maxRecDepth 4000 in
theorem sg_X2_foresee_0 {E : HEn} {d : Nat} {Q : Option Value → HIh → Prop} {I : HIh} {h : Nat} {z : Int32} (a_h : h < NL) (b_h : Zk h = 3)
    (k1 : ¬ (I 32 4) = z → HGo E (mF E (d + 41) Q) me_X2_foresee 24 [(0, .ref 32), (1, .ref h), (3, .int ((setI (setI I 32 (upd (I 32) 4 z)) 32 (upd ((setI I 32 (upd (I 32) 4 z)) 32) 5 0)) h 1))] [] (setI (setI I 32 (upd (I 32) 4 z)) 32 (upd ((setI I 32 (upd (I 32) 4 z)) 32) 5 0)))
    (k2 : (I 32 4) = z → Q none I)
    : HGo E (mF E (d + 41) Q) me_X2_foresee 0 [(0, .ref 32), (1, .ref h), (2, .int z)] [] I := by
  refine h_aload_n dX2_foresee_0 rfl 0 rfl ?_
  refine gf_1_4 dX2_foresee_1 hl_X2_25 nl_32 zk_32 ?_
  refine h_iload_n dX2_foresee_4 rfl 2 rfl ?_
  refine h_icmp_ne (tgt := 9) dX2_foresee_5 (by decide) (fun c1 => ?_) (fun c1 => ?_)
  ·
    refine h_aload_n dX2_foresee_9 rfl 0 rfl ?_
    refine h_iload_n dX2_foresee_10 rfl 2 rfl ?_
    refine pf_1_4 dX2_foresee_11 hl_X2_25 nl_32 zk_32 ?_
    refine h_aload_n dX2_foresee_14 rfl 0 rfl ?_
    refine h_iconst (v := 0) dX2_foresee_15 (by decide) ?_
    refine pf_1_5 dX2_foresee_16 hl_X2_34 nl_32 zk_32 ?_
    refine h_aload_n dX2_foresee_19 rfl 1 rfl ?_
    refine gf_3_1 dX2_foresee_20 hl_X2_37 a_h b_h ?_
    refine h_istore_n (L' := [(3, .int ((setI (setI I 32 (upd (I 32) 4 z)) 32 (upd ((setI I 32 (upd (I 32) 4 z)) 32) 5 0)) h 1)), (0, .ref 32), (1, .ref h), (2, .int z)]) dX2_foresee_23 rfl (by decide) rfl ?_
    refine h_pick [1, 2, 0] [(0, .ref 32), (1, .ref h), (3, .int ((setI (setI I 32 (upd (I 32) 4 z)) 32 (upd ((setI I 32 (upd (I 32) 4 z)) 32) 5 0)) h 1))] rfl ?_
    exact k1 c1
  ·
    exact h_vret dX2_foresee_8 rfl (k2 c1)
set_option maxHeartbeats 1000000 in
set_option maxRecDepth 4000 in
theorem sg_X2_foresee_24 {E : HEn} {d : Nat} {Q : Option Value → HIh → Prop} {I : HIh} {h : Nat} {x3 : Int32} (a_h : h < NL) (b_h : Zk h = 3)
    (k1 : (I 1 10) ≤ x3 → HCall E me_X4_copyFrom (d + 40) [.ref 34, .ref h] I (fun v9 J => HGo E (mF E (d + 41) Q) me_X2_foresee 80 [(0, .ref 32)] (v9.toList ++ []) J))
    (k2 : ¬ (I 1 10) ≤ x3 → HCall E me_X9_visitor (d + 40) [.ref 1, .int x3] I (fun v9 J => HGo E (mF E (d + 41) Q) me_X2_foresee 49 [(0, .ref 32), (1, .ref h), (3, .int x3)] (v9.toList ++ [.ref 32, .int (I 32 5), .ref 32]) J))
    : HGo E (mF E (d + 41) Q) me_X2_foresee 24 [(0, .ref 32), (1, .ref h), (3, .int x3)] [] I := by
  refine h_iload_n dX2_foresee_24 rfl 2 rfl ?_
  refine h_aload_n dX2_foresee_25 rfl 0 rfl ?_
  refine gf_1_0 dX2_foresee_26 hl_X2_29 nl_32 zk_32 zp_32_0 ?_
  refine gf_7_10 dX2_foresee_29 hl_X2_40 nl_1 zk_1 ?_
  refine h_icmp_ge (tgt := 70) dX2_foresee_32 (by decide) (fun c1 => ?_) (fun c1 => ?_)
  ·
    refine h_aload_n dX2_foresee_70 rfl 0 rfl ?_
    refine gf_1_1 dX2_foresee_71 hl_X2_13 nl_32 zk_32 zp_32_1 ?_
    refine h_iconst (v := 0) dX2_foresee_74 (by decide) ?_
    refine h_aald13z dX2_foresee_75 nl_33 zk_33 (vp_lit (by rw [zn_33]; decide)) zp_33_0 ?_
    refine h_aload_n dX2_foresee_76 rfl 1 rfl ?_
    refine h_pick [0] [(0, .ref 32)] rfl ?_
    refine h_invV (As := [.ref h]) (st := []) dX2_foresee_77 lk_X2_53 (h_room (by decide)) nl_34 zk_34 (by decide) rfl rfl rfl (Nat.le_of_ble_eq_true rfl) ?_
    exact k1 c1
  ·
    refine h_aload_n dX2_foresee_35 rfl 0 rfl ?_
    refine h_dup dX2_foresee_36 rfl ?_
    refine gf_1_5 dX2_foresee_37 hl_X2_34 nl_32 zk_32 ?_
    refine h_aload_n dX2_foresee_40 rfl 0 rfl ?_
    refine h_aload_n dX2_foresee_41 rfl 0 rfl ?_
    refine gf_1_0 dX2_foresee_42 hl_X2_29 nl_32 zk_32 zp_32_0 ?_
    refine h_iload_n dX2_foresee_45 rfl 2 rfl ?_
    refine h_invV (As := [.int x3]) (st := [.ref 32, .int (I 32 5), .ref 32]) dX2_foresee_46 lk_X2_45 (h_room (by decide)) nl_1 zk_1 (by decide) rfl rfl rfl (Nat.le_of_ble_eq_true rfl) ?_
    exact k2 c1
set_option maxHeartbeats 1000000 in
set_option maxRecDepth 4000 in
theorem sg_X2_foresee_80 {E : HEn} {d : Nat} {Q : Option Value → HIh → Prop} {I : HIh} 
    (k1 : HCall E me_X2_playOn (d + 40) [.ref 32, .int 0] I (fun v9 J => HGo E (mF E (d + 41) Q) me_X2_foresee 85 [] (v9.toList ++ []) J))
    : HGo E (mF E (d + 41) Q) me_X2_foresee 80 [(0, .ref 32)] [] I := by
  refine h_aload_n dX2_foresee_80 rfl 0 rfl ?_
  refine h_iconst (v := 0) dX2_foresee_81 (by decide) ?_
  refine h_pick [] [] rfl ?_
  refine h_invS (As := [.ref 32, .int 0]) (st := []) dX2_foresee_82 lk_X2_57 (h_room (by decide)) rfl rfl (Nat.le_of_ble_eq_true rfl) ?_
  exact k1
set_option maxHeartbeats 1000000 in
set_option maxRecDepth 4000 in
theorem sg_X2_foresee_49 {E : HEn} {d : Nat} {Q : Option Value → HIh → Prop} {I : HIh} {h : Nat} {x3 : Int32} {s0 : Int32} {s2 : Int32} (a_h : h < NL) (b_h : Zk h = 3)
    (k1 : HCall E me_X2_isFree (d + 40) [.ref 32, .int s0] I (fun v9 J => HGo E (mF E (d + 41) Q) me_X2_foresee 52 [(0, .ref 32), (1, .ref h), (3, .int x3)] (v9.toList ++ [.int s2, .ref 32]) J))
    : HGo E (mF E (d + 41) Q) me_X2_foresee 49 [(0, .ref 32), (1, .ref h), (3, .int x3)] [.int s0, .ref 32, .int s2, .ref 32] I := by
  refine h_invV (As := [.int s0]) (st := [.int s2, .ref 32]) dX2_foresee_49 lk_X2_49 (h_room (by decide)) nl_32 zk_32 (by decide) rfl rfl rfl (Nat.le_of_ble_eq_true rfl) ?_
  exact k1
set_option maxHeartbeats 1000000 in
set_option maxRecDepth 4000 in
theorem sg_X2_foresee_85 {E : HEn} {d : Nat} {Q : Option Value → HIh → Prop} {I : HIh} 
    (k1 : Q none I)
    : HGo E (mF E (d + 41) Q) me_X2_foresee 85 [] [] I := by
  exact h_vret dX2_foresee_85 rfl (k1)
set_option maxHeartbeats 1000000 in
set_option maxRecDepth 4000 in
theorem sg_X2_foresee_52 {E : HEn} {d : Nat} {Q : Option Value → HIh → Prop} {I : HIh} {h : Nat} {x3 : Int32} {s0 : Int32} {s1 : Int32} (a_h : h < NL) (b_h : Zk h = 3)
    (k1 : s0 = 0 → HGo E (mF E (d + 41) Q) me_X2_foresee 24 [(0, .ref 32), (1, .ref h), (3, .int (x3 + 1))] [] (setI I 32 (upd (I 32) 5 (s1 + 0))))
    (k2 : ¬ s0 = 0 → HGo E (mF E (d + 41) Q) me_X2_foresee 24 [(0, .ref 32), (1, .ref h), (3, .int (x3 + 1))] [] (setI I 32 (upd (I 32) 5 (s1 + 1))))
    : HGo E (mF E (d + 41) Q) me_X2_foresee 52 [(0, .ref 32), (1, .ref h), (3, .int x3)] [.int s0, .int s1, .ref 32] I := by
  refine h_if_eq (tgt := 59) dX2_foresee_52 (by decide) (fun c1 => ?_) (fun c1 => ?_)
  ·
    refine h_iconst (v := 0) dX2_foresee_59 (by decide) ?_
    refine h_iadd dX2_foresee_60 ?_
    refine pf_1_5 dX2_foresee_61 hl_X2_34 nl_32 zk_32 ?_
    refine h_iinc (v := (x3 + 1)) (L' := [(3, .int (x3 + 1)), (0, .ref 32), (1, .ref h)]) dX2_foresee_64 2 rfl rfl (by decide) rfl ?_
    refine h_goto (tgt := 24) dX2_foresee_67 (by decide) ?_
    refine h_pick [1, 2, 0] [(0, .ref 32), (1, .ref h), (3, .int (x3 + 1))] rfl ?_
    exact k1 c1
  ·
    refine h_iconst (v := 1) dX2_foresee_55 (by decide) ?_
    refine h_goto (tgt := 60) dX2_foresee_56 (by decide) ?_
    refine h_iadd dX2_foresee_60 ?_
    refine pf_1_5 dX2_foresee_61 hl_X2_34 nl_32 zk_32 ?_
    refine h_iinc (v := (x3 + 1)) (L' := [(3, .int (x3 + 1)), (0, .ref 32), (1, .ref h)]) dX2_foresee_64 2 rfl rfl (by decide) rfl ?_
    refine h_goto (tgt := 24) dX2_foresee_67 (by decide) ?_
    refine h_pick [1, 2, 0] [(0, .ref 32), (1, .ref h), (3, .int (x3 + 1))] rfl ?_
    exact k2 c1
set_option maxHeartbeats 1000000 in
set_option maxRecDepth 4000 in
theorem sg_X2_endOf_0 {E : HEn} {d : Nat} {Q : Option Value → HIh → Prop} {I : HIh} {p : Int32}
    (k1 : (0 : Int32) ≤ p → p < 4 → vp_in p 4)
    (k2 : (0 : Int32) ≤ p → p < 4 → Q (some (.int (I 57 p.toNatClampNeg))) I)
    (k3 : ¬ ((0 : Int32) ≤ p ∧ p < 4) → Q (some (.int 0)) I)
    : HGo E (mF E (d + 2) Q) me_X2_endOf 0 [(0, .ref 32), (1, .int p)] [] I := by
  refine h_iload_n dX2_endOf_0 rfl 1 rfl ?_
  refine h_invN (As := [.int p]) (st := []) dX2_endOf_1 lk_X2_61 (h_room (by decide)) rfl rfl (Nat.le_of_ble_eq_true rfl) ?_
  refine c_X11_isPerson (fun c1 c2 => ?_) (fun c3 => ?_)
  ·
    refine h_if_eq (tgt := 18) dX2_endOf_4 (by decide) (fun c => absurd c (by decide)) (fun _ => ?_)
    refine h_aload_n dX2_endOf_7 rfl 0 rfl ?_
    refine gf_1_2 dX2_endOf_8 hl_X2_19 nl_32 zk_32 zp_32_2 ?_
    refine h_iconst (v := 0) dX2_endOf_11 (by decide) ?_
    refine h_aald14z dX2_endOf_12 nl_56 zk_56 (vp_lit (by rw [zn_56]; decide)) zp_56_0 ?_
    refine h_iload_n dX2_endOf_13 rfl 1 rfl ?_
    refine h_iald dX2_endOf_14 nl_57 zk_57 (by rw [zn_57]; exact k1 c1 c2) ?_
    refine h_goto (tgt := 19) dX2_endOf_15 (by decide) ?_
    exact h_iret dX2_endOf_19 rfl (k2 c1 c2)
  ·
    refine h_if_eq (tgt := 18) dX2_endOf_4 (by decide) (fun _ => ?_) (fun c => absurd c (by decide))
    refine h_iconst (v := 0) dX2_endOf_18 (by decide) ?_
    exact h_iret dX2_endOf_19 rfl (k3 c3)
set_option maxHeartbeats 1000000 in
set_option maxRecDepth 4000 in
theorem sg_X2_step_0 {E : HEn} {d : Nat} {Q : Option Value → HIh → Prop} {I : HIh} {p : Int32}
    (k1 : p < 0 → Q (some (.int (-1))) I)
    (k2 : ¬ p < 0 → (I 32 5) ≤ p → Q (some (.int (-1))) I)
    (k3 : ¬ p < 0 → ¬ (I 32 5) ≤ p → 11 ≤ p → Q (some (.int (-1))) I)
    (k4 : ¬ p < 0 → ¬ (I 32 5) ≤ p → ¬ 11 ≤ p → vp_in p 11)
    (k5 : ¬ p < 0 → ¬ (I 32 5) ≤ p → ¬ 11 ≤ p → Q (some (.int ((I 69 p.toNatClampNeg) + 1))) I)
    : HGo E (mF E (d + 1) Q) me_X2_step 0 [(0, .ref 32), (1, .int p)] [] I := by
  refine h_iload_n dX2_step_0 rfl 1 rfl ?_
  refine h_if_lt (tgt := 31) dX2_step_1 (by decide) (fun c1 => ?_) (fun c1 => ?_)
  ·
    refine h_iconst (v := (-1)) dX2_step_31 (by decide) ?_
    exact h_iret dX2_step_32 rfl (k1 c1)
  ·
    refine h_iload_n dX2_step_4 rfl 1 rfl ?_
    refine h_aload_n dX2_step_5 rfl 0 rfl ?_
    refine gf_1_5 dX2_step_6 hl_X2_34 nl_32 zk_32 ?_
    refine h_icmp_ge (tgt := 31) dX2_step_9 (by decide) (fun c2 => ?_) (fun c2 => ?_)
    ·
      refine h_iconst (v := (-1)) dX2_step_31 (by decide) ?_
      exact h_iret dX2_step_32 rfl (k2 c1 c2)
    ·
      refine h_iload_n dX2_step_12 rfl 1 rfl ?_
      refine h_bipush (v := 11) dX2_step_13 (by decide) ?_
      refine h_icmp_ge (tgt := 31) dX2_step_15 (by decide) (fun c3 => ?_) (fun c3 => ?_)
      ·
        refine h_iconst (v := (-1)) dX2_step_31 (by decide) ?_
        exact h_iret dX2_step_32 rfl (k3 c1 c2 c3)
      ·
        refine h_aload_n dX2_step_18 rfl 0 rfl ?_
        refine gf_1_3 dX2_step_19 hl_X2_22 nl_32 zk_32 zp_32_3 ?_
        refine h_iconst (v := 0) dX2_step_22 (by decide) ?_
        refine h_aald14z dX2_step_23 nl_68 zk_68 (vp_lit (by rw [zn_68]; decide)) zp_68_0 ?_
        refine h_iload_n dX2_step_24 rfl 1 rfl ?_
        refine h_iald dX2_step_25 nl_69 zk_69 (by rw [zn_69]; exact k4 c1 c2 c3) ?_
        refine h_iconst (v := 1) dX2_step_26 (by decide) ?_
        refine h_iadd dX2_step_27 ?_
        refine h_goto (tgt := 32) dX2_step_28 (by decide) ?_
        exact h_iret dX2_step_32 rfl (k5 c1 c2 c3)
set_option maxHeartbeats 1000000 in
set_option maxRecDepth 4000 in
theorem sg_X2_goalOf_0 {E : HEn} {d : Nat} {Q : Option Value → HIh → Prop} {I : HIh} {p : Int32}
    (k1 : (0 : Int32) ≤ p → p < 4 → Q (some (.int (((I 32 4) >>> ((4 * p) &&& 31)) &&& 15))) I)
    (k2 : ¬ ((0 : Int32) ≤ p ∧ p < 4) → Q (some (.int 0)) I)
    : HGo E (mF E (d + 2) Q) me_X2_goalOf 0 [(0, .ref 32), (1, .int p)] [] I := by
  refine h_iload_n dX2_goalOf_0 rfl 1 rfl ?_
  refine h_invN (As := [.int p]) (st := []) dX2_goalOf_1 lk_X2_61 (h_room (by decide)) rfl rfl (Nat.le_of_ble_eq_true rfl) ?_
  refine c_X11_isPerson (fun c1 c2 => ?_) (fun c3 => ?_)
  ·
    refine h_if_eq (tgt := 21) dX2_goalOf_4 (by decide) (fun c => absurd c (by decide)) (fun _ => ?_)
    refine h_aload_n dX2_goalOf_7 rfl 0 rfl ?_
    refine gf_1_4 dX2_goalOf_8 hl_X2_25 nl_32 zk_32 ?_
    refine h_iconst (v := 4) dX2_goalOf_11 (by decide) ?_
    refine h_iload_n dX2_goalOf_12 rfl 1 rfl ?_
    refine h_imul dX2_goalOf_13 ?_
    refine h_ishr dX2_goalOf_14 ?_
    refine h_bipush (v := 15) dX2_goalOf_15 (by decide) ?_
    refine h_iand dX2_goalOf_17 ?_
    refine h_goto (tgt := 22) dX2_goalOf_18 (by decide) ?_
    exact h_iret dX2_goalOf_22 rfl (k1 c1 c2)
  ·
    refine h_if_eq (tgt := 21) dX2_goalOf_4 (by decide) (fun _ => ?_) (fun c => absurd c (by decide))
    refine h_iconst (v := 0) dX2_goalOf_21 (by decide) ?_
    exact h_iret dX2_goalOf_22 rfl (k2 c3)
set_option maxHeartbeats 1000000 in
set_option maxRecDepth 4000 in
theorem sg_X2_isFree_0 {E : HEn} {d : Nat} {Q : Option Value → HIh → Prop} {I : HIh} {p : Int32}
    (k1 : HCall E me_X2_goalOf (d + 2) [.ref 32, .int p] I (fun v9 J => HGo E (mF E (d + 3) Q) me_X2_isFree 5 [] (v9.toList ++ []) J))
    : HGo E (mF E (d + 3) Q) me_X2_isFree 0 [(0, .ref 32), (1, .int p)] [] I := by
  refine h_aload_n dX2_isFree_0 rfl 0 rfl ?_
  refine h_iload_n dX2_isFree_1 rfl 1 rfl ?_
  refine h_pick [] [] rfl ?_
  refine h_invV (As := [.int p]) (st := []) dX2_isFree_2 lk_X2_64 (h_room (by decide)) nl_32 zk_32 (by decide) rfl rfl rfl (Nat.le_of_ble_eq_true rfl) ?_
  exact k1
set_option maxHeartbeats 1000000 in
set_option maxRecDepth 4000 in
theorem sg_X2_isFree_5 {E : HEn} {d : Nat} {Q : Option Value → HIh → Prop} {I : HIh} {s0 : Int32}
    (k1 : s0 = 0 → Q (some (.int 0)) I)
    (k2 : ¬ s0 = 0 → Q (some (.int 1)) I)
    : HGo E (mF E (d + 3) Q) me_X2_isFree 5 [] [.int s0] I := by
  refine h_if_eq (tgt := 12) dX2_isFree_5 (by decide) (fun c1 => ?_) (fun c1 => ?_)
  ·
    refine h_iconst (v := 0) dX2_isFree_12 (by decide) ?_
    exact h_zret dX2_isFree_13 rfl rfl (k1 c1)
  ·
    refine h_iconst (v := 1) dX2_isFree_8 (by decide) ?_
    refine h_goto (tgt := 13) dX2_isFree_9 (by decide) ?_
    exact h_zret dX2_isFree_13 rfl rfl (k2 c1)
set_option maxHeartbeats 1000000 in
set_option maxRecDepth 4000 in
theorem sg_X2_playOn_0 {E : HEn} {d : Nat} {Q : Option Value → HIh → Prop} {I : HIh} {h : Nat} {v : Int32} (a_h : h < NL) (b_h : Zk h = 3) (hs_h : Zp 33 v.toNatClampNeg = h)
    (k1 : v < 0 → Q none I)
    (k2 : ¬ v < 0 → v < 11 → vp_in v 11)
    (k3 : ¬ v < 0 → v < 11 → HGo E (mF E (d + 1) Q) me_X2_playOn 23 [(0, .ref 32), (1, .int v), (2, .ref h), (3, .int (I h 1))] [] I)
    (k4 : ¬ v < 0 → ¬ v < 11 → Q none I)
    : HGo E (mF E (d + 1) Q) me_X2_playOn 0 [(0, .ref 32), (1, .int v)] [] I := by
  refine h_iload_n dX2_playOn_0 rfl 1 rfl ?_
  refine h_if_lt (tgt := 10) dX2_playOn_1 (by decide) (fun c1 => ?_) (fun c1 => ?_)
  ·
    exact h_vret dX2_playOn_10 rfl (k1 c1)
  ·
    refine h_iload_n dX2_playOn_4 rfl 1 rfl ?_
    refine h_bipush (v := 11) dX2_playOn_5 (by decide) ?_
    refine h_icmp_lt (tgt := 11) dX2_playOn_7 (by decide) (fun c2 => ?_) (fun c2 => ?_)
    ·
      refine h_aload_n dX2_playOn_11 rfl 0 rfl ?_
      refine gf_1_1 dX2_playOn_12 hl_X2_13 nl_32 zk_32 zp_32_1 ?_
      refine h_iload_n dX2_playOn_15 rfl 1 rfl ?_
      refine h_aald13z dX2_playOn_16 nl_33 zk_33 (by rw [zn_33]; exact k2 c1 c2) hs_h ?_
      refine h_astore_n (L' := [(2, .ref h), (0, .ref 32), (1, .int v)]) dX2_playOn_17 rfl (by decide) rfl ?_
      refine h_aload_n dX2_playOn_18 rfl 0 rfl ?_
      refine gf_3_1 dX2_playOn_19 hl_X2_37 a_h b_h ?_
      refine h_istore_n (L' := [(3, .int (I h 1)), (2, .ref h), (0, .ref 32), (1, .int v)]) dX2_playOn_22 rfl (by decide) rfl ?_
      refine h_pick [2, 3, 1, 0] [(0, .ref 32), (1, .int v), (2, .ref h), (3, .int (I h 1))] rfl ?_
      exact k3 c1 c2
    ·
      exact h_vret dX2_playOn_10 rfl (k4 c1 c2)
set_option maxHeartbeats 1000000 in
set_option maxRecDepth 4000 in
theorem sg_X2_playOn_23 {E : HEn} {d : Nat} {Q : Option Value → HIh → Prop} {I : HIh} {h : Nat} {x1 : Int32} {x3 : Int32} (a_h : h < NL) (b_h : Zk h = 3)
    (k1 : (I 1 10) ≤ x3 → (I 1 10) ≤ (I h 1) → HCall E me_X2_settle d [.ref 32, .int x1] I (fun v9 J => HGo E (mF E (d + 1) Q) me_X2_playOn 98 [] (v9.toList ++ []) J))
    (k2 : (I 1 10) ≤ x3 → ¬ (I 1 10) ≤ (I h 1) → (x1 + 1) < 11 → HCall E me_X9_visitor d [.ref 1, .int (I h 1)] I (fun v9 J => HGo E (mF E (d + 1) Q) me_X2_playOn 110 [(0, .ref 32), (1, .int x1), (2, .ref h)] (v9.toList ++ []) J))
    (k3 : (I 1 10) ≤ x3 → ¬ (I 1 10) ≤ (I h 1) → ¬ (x1 + 1) < 11 → HCall E me_X2_settle d [.ref 32, .int x1] I (fun v9 J => HGo E (mF E (d + 1) Q) me_X2_playOn 98 [] (v9.toList ++ []) J))
    (k4 : ¬ (I 1 10) ≤ x3 → HCall E me_X9_visitor d [.ref 1, .int x3] I (fun v9 J => HGo E (mF E (d + 1) Q) me_X2_playOn 43 [(0, .ref 32), (1, .int x1), (2, .ref h), (3, .int x3)] (v9.toList ++ [.ref 32]) J))
    : HGo E (mF E (d + 1) Q) me_X2_playOn 23 [(0, .ref 32), (1, .int x1), (2, .ref h), (3, .int x3)] [] I := by
  refine h_iload_n dX2_playOn_23 rfl 3 rfl ?_
  refine h_aload_n dX2_playOn_24 rfl 0 rfl ?_
  refine gf_1_0 dX2_playOn_25 hl_X2_29 nl_32 zk_32 zp_32_0 ?_
  refine gf_7_10 dX2_playOn_28 hl_X2_40 nl_1 zk_1 ?_
  refine h_icmp_ge (tgt := 71) dX2_playOn_31 (by decide) (fun c1 => ?_) (fun c1 => ?_)
  ·
    refine h_aload_n dX2_playOn_71 rfl 2 rfl ?_
    refine gf_3_1 dX2_playOn_72 hl_X2_37 a_h b_h ?_
    refine h_aload_n dX2_playOn_75 rfl 0 rfl ?_
    refine gf_1_0 dX2_playOn_76 hl_X2_29 nl_32 zk_32 zp_32_0 ?_
    refine gf_7_10 dX2_playOn_79 hl_X2_40 nl_1 zk_1 ?_
    refine h_icmp_ge (tgt := 93) dX2_playOn_82 (by decide) (fun c2 => ?_) (fun c2 => ?_)
    ·
      refine h_aload_n dX2_playOn_93 rfl 0 rfl ?_
      refine h_iload_n dX2_playOn_94 rfl 1 rfl ?_
      refine h_pick [] [] rfl ?_
      refine h_invV (As := [.int x1]) (st := []) dX2_playOn_95 lk_X2_75 (h_room (by decide)) nl_32 zk_32 (by decide) rfl rfl rfl (Nat.le_of_ble_eq_true rfl) ?_
      exact k1 c1 c2
    ·
      refine h_iload_n dX2_playOn_85 rfl 1 rfl ?_
      refine h_iconst (v := 1) dX2_playOn_86 (by decide) ?_
      refine h_iadd dX2_playOn_87 ?_
      refine h_bipush (v := 11) dX2_playOn_88 (by decide) ?_
      refine h_icmp_lt (tgt := 99) dX2_playOn_90 (by decide) (fun c3 => ?_) (fun c3 => ?_)
      ·
        refine h_aload_n dX2_playOn_99 rfl 0 rfl ?_
        refine gf_1_0 dX2_playOn_100 hl_X2_29 nl_32 zk_32 zp_32_0 ?_
        refine h_aload_n dX2_playOn_103 rfl 2 rfl ?_
        refine gf_3_1 dX2_playOn_104 hl_X2_37 a_h b_h ?_
        refine h_pick [0, 1, 2] [(0, .ref 32), (1, .int x1), (2, .ref h)] rfl ?_
        refine h_invV (As := [.int (I h 1)]) (st := []) dX2_playOn_107 lk_X2_45 (h_room (by decide)) nl_1 zk_1 (by decide) rfl rfl rfl (Nat.le_of_ble_eq_true rfl) ?_
        exact k2 c1 c2 c3
      ·
        refine h_aload_n dX2_playOn_93 rfl 0 rfl ?_
        refine h_iload_n dX2_playOn_94 rfl 1 rfl ?_
        refine h_pick [] [] rfl ?_
        refine h_invV (As := [.int x1]) (st := []) dX2_playOn_95 lk_X2_75 (h_room (by decide)) nl_32 zk_32 (by decide) rfl rfl rfl (Nat.le_of_ble_eq_true rfl) ?_
        exact k3 c1 c2 c3
  ·
    refine h_aload_n dX2_playOn_34 rfl 0 rfl ?_
    refine h_aload_n dX2_playOn_35 rfl 0 rfl ?_
    refine gf_1_0 dX2_playOn_36 hl_X2_29 nl_32 zk_32 zp_32_0 ?_
    refine h_iload_n dX2_playOn_39 rfl 3 rfl ?_
    refine h_invV (As := [.int x3]) (st := [.ref 32]) dX2_playOn_40 lk_X2_45 (h_room (by decide)) nl_1 zk_1 (by decide) rfl rfl rfl (Nat.le_of_ble_eq_true rfl) ?_
    exact k4 c1
set_option maxHeartbeats 1000000 in
set_option maxRecDepth 4000 in
theorem sg_X2_playOn_98 {E : HEn} {d : Nat} {Q : Option Value → HIh → Prop} {I : HIh} 
    (k1 : Q none I)
    : HGo E (mF E (d + 1) Q) me_X2_playOn 98 [] [] I := by
  exact h_vret dX2_playOn_98 rfl (k1)
set_option maxHeartbeats 1000000 in
set_option maxRecDepth 4000 in
theorem sg_X2_playOn_110 {E : HEn} {d : Nat} {Q : Option Value → HIh → Prop} {I : HIh} {h : Nat} {x1 : Int32} {s0 : Int32} (a_h : h < NL) (b_h : Zk h = 3)
    (k1 : HCall E me_X2_comesAgain d [.ref 32, .int s0, .int (I h 1)] I (fun v9 J => HGo E (mF E (d + 1) Q) me_X2_playOn 120 [(0, .ref 32), (1, .int x1), (2, .ref h), (3, .int s0)] (v9.toList ++ []) J))
    : HGo E (mF E (d + 1) Q) me_X2_playOn 110 [(0, .ref 32), (1, .int x1), (2, .ref h)] [.int s0] I := by
  refine h_istore_n (L' := [(3, .int s0), (0, .ref 32), (1, .int x1), (2, .ref h)]) dX2_playOn_110 rfl (by decide) rfl ?_
  refine h_aload_n dX2_playOn_111 rfl 1 rfl ?_
  refine h_iload_n dX2_playOn_112 rfl 0 rfl ?_
  refine h_aload_n dX2_playOn_113 rfl 3 rfl ?_
  refine gf_3_1 dX2_playOn_114 hl_X2_37 a_h b_h ?_
  refine h_pick [1, 2, 3, 0] [(0, .ref 32), (1, .int x1), (2, .ref h), (3, .int s0)] rfl ?_
  refine h_invV (As := [.int s0, .int (I h 1)]) (st := []) dX2_playOn_117 lk_X2_79 (h_room (by decide)) nl_32 zk_32 (by decide) rfl rfl rfl (Nat.le_of_ble_eq_true rfl) ?_
  exact k1
set_option maxHeartbeats 1000000 in
set_option maxRecDepth 4000 in
theorem sg_X2_playOn_43 {E : HEn} {d : Nat} {Q : Option Value → HIh → Prop} {I : HIh} {h : Nat} {x1 : Int32} {x3 : Int32} {s0 : Int32} (a_h : h < NL) (b_h : Zk h = 3)
    (k1 : HCall E me_X2_isFree d [.ref 32, .int s0] I (fun v9 J => HGo E (mF E (d + 1) Q) me_X2_playOn 46 [(0, .ref 32), (1, .int x1), (2, .ref h), (3, .int x3)] (v9.toList ++ []) J))
    : HGo E (mF E (d + 1) Q) me_X2_playOn 43 [(0, .ref 32), (1, .int x1), (2, .ref h), (3, .int x3)] [.int s0, .ref 32] I := by
  refine h_invV (As := [.int s0]) (st := []) dX2_playOn_43 lk_X2_49 (h_room (by decide)) nl_32 zk_32 (by decide) rfl rfl rfl (Nat.le_of_ble_eq_true rfl) ?_
  exact k1
set_option maxHeartbeats 1000000 in
set_option maxRecDepth 4000 in
theorem sg_X2_playOn_120 {E : HEn} {d : Nat} {Q : Option Value → HIh → Prop} {I : HIh} {h : Nat} {x1 : Int32} {x3 : Int32} {s0 : Int32} (a_h : h < NL) (b_h : Zk h = 3)
    (k1 : ¬ s0 = 0 → HGo E (mF E (d + 1) Q) me_X2_playOn 163 [(0, .ref 32), (1, .int x1), (2, .ref h), (3, .int x3), (4, .int 0), (5, .int (-1)), (6, .int (-1)), (7, .int (-1))] [] I)
    (k2 : s0 = 0 → HCall E me_X8_wouldThrow d [.ref 3, .ref 1, .ref h, .int x3] I (fun v9 J => HGo E (mF E (d + 1) Q) me_X2_playOn 151 [(0, .ref 32), (1, .int x1), (2, .ref h), (3, .int x3), (4, .int 1)] (v9.toList ++ []) J))
    : HGo E (mF E (d + 1) Q) me_X2_playOn 120 [(0, .ref 32), (1, .int x1), (2, .ref h), (3, .int x3)] [.int s0] I := by
  refine h_if_ne (tgt := 127) dX2_playOn_120 (by decide) (fun c1 => ?_) (fun c1 => ?_)
  ·
    refine h_iconst (v := 0) dX2_playOn_127 (by decide) ?_
    refine h_istore (L' := [(4, .int 0), (0, .ref 32), (1, .int x1), (2, .ref h), (3, .int x3)]) dX2_playOn_128 (by decide) rfl ?_
    refine h_iload dX2_playOn_130 0 rfl ?_
    refine h_if_eq (tgt := 154) dX2_playOn_132 (by decide) (fun _ => ?_) (fun c => absurd c (by decide))
    refine h_iconst (v := (-1)) dX2_playOn_154 (by decide) ?_
    refine h_istore (L' := [(5, .int (-1)), (4, .int 0), (0, .ref 32), (1, .int x1), (2, .ref h), (3, .int x3)]) dX2_playOn_155 (by decide) rfl ?_
    refine h_iconst (v := (-1)) dX2_playOn_157 (by decide) ?_
    refine h_istore (L' := [(6, .int (-1)), (5, .int (-1)), (4, .int 0), (0, .ref 32), (1, .int x1), (2, .ref h), (3, .int x3)]) dX2_playOn_158 (by decide) rfl ?_
    refine h_iconst (v := (-1)) dX2_playOn_160 (by decide) ?_
    refine h_istore (L' := [(7, .int (-1)), (6, .int (-1)), (5, .int (-1)), (4, .int 0), (0, .ref 32), (1, .int x1), (2, .ref h), (3, .int x3)]) dX2_playOn_161 (by decide) rfl ?_
    refine h_pick [4, 5, 6, 7, 3, 2, 1, 0] [(0, .ref 32), (1, .int x1), (2, .ref h), (3, .int x3), (4, .int 0), (5, .int (-1)), (6, .int (-1)), (7, .int (-1))] rfl ?_
    exact k1 c1
  ·
    refine h_iconst (v := 1) dX2_playOn_123 (by decide) ?_
    refine h_goto (tgt := 128) dX2_playOn_124 (by decide) ?_
    refine h_istore (L' := [(4, .int 1), (0, .ref 32), (1, .int x1), (2, .ref h), (3, .int x3)]) dX2_playOn_128 (by decide) rfl ?_
    refine h_iload dX2_playOn_130 0 rfl ?_
    refine h_if_eq (tgt := 154) dX2_playOn_132 (by decide) (fun c => absurd c (by decide)) (fun _ => ?_)
    refine h_aload_n dX2_playOn_135 rfl 1 rfl ?_
    refine gf_1_0 dX2_playOn_136 hl_X2_29 nl_32 zk_32 zp_32_0 ?_
    refine gf_7_1 dX2_playOn_139 hl_X2_83 nl_1 zk_1 zp_1_1 ?_
    refine h_aload_n dX2_playOn_142 rfl 1 rfl ?_
    refine gf_1_0 dX2_playOn_143 hl_X2_29 nl_32 zk_32 zp_32_0 ?_
    refine h_aload_n dX2_playOn_146 rfl 3 rfl ?_
    refine h_iload_n dX2_playOn_147 rfl 4 rfl ?_
    refine h_pick [1, 2, 3, 4, 0] [(0, .ref 32), (1, .int x1), (2, .ref h), (3, .int x3), (4, .int 1)] rfl ?_
    refine h_invU (As := [.ref 1, .ref h, .int x3]) (st := []) dX2_playOn_148 lk_X2_87_X3 (h_room (by decide)) nl_3 zk_3 (by decide) rfl rfl rfl (Nat.le_of_ble_eq_true rfl) ?_
    exact k2 c1
set_option maxHeartbeats 1000000 in
set_option maxRecDepth 4000 in
theorem sg_X2_playOn_46 {E : HEn} {d : Nat} {Q : Option Value → HIh → Prop} {I : HIh} {h : Nat} {x1 : Int32} {x3 : Int32} {s0 : Int32} (a_h : h < NL) (b_h : Zk h = 3)
    (k1 : ¬ s0 = 0 → (I 1 10) ≤ (I h 1) → HCall E me_X2_settle d [.ref 32, .int x1] I (fun v9 J => HGo E (mF E (d + 1) Q) me_X2_playOn 98 [] (v9.toList ++ []) J))
    (k2 : ¬ s0 = 0 → ¬ (I 1 10) ≤ (I h 1) → (x1 + 1) < 11 → HCall E me_X9_visitor d [.ref 1, .int (I h 1)] I (fun v9 J => HGo E (mF E (d + 1) Q) me_X2_playOn 110 [(0, .ref 32), (1, .int x1), (2, .ref h)] (v9.toList ++ []) J))
    (k3 : ¬ s0 = 0 → ¬ (I 1 10) ≤ (I h 1) → ¬ (x1 + 1) < 11 → HCall E me_X2_settle d [.ref 32, .int x1] I (fun v9 J => HGo E (mF E (d + 1) Q) me_X2_playOn 98 [] (v9.toList ++ []) J))
    (k4 : s0 = 0 → HCall E me_X9_habitual d [.ref 1, .ref h] I (fun v9 J => HGo E (mF E (d + 1) Q) me_X2_playOn 62 [(0, .ref 32), (1, .int x1), (2, .ref h), (3, .int x3)] (v9.toList ++ [.ref h, .ref 1]) J))
    : HGo E (mF E (d + 1) Q) me_X2_playOn 46 [(0, .ref 32), (1, .int x1), (2, .ref h), (3, .int x3)] [.int s0] I := by
  refine h_if_ne (tgt := 71) dX2_playOn_46 (by decide) (fun c1 => ?_) (fun c1 => ?_)
  ·
    refine h_aload_n dX2_playOn_71 rfl 2 rfl ?_
    refine gf_3_1 dX2_playOn_72 hl_X2_37 a_h b_h ?_
    refine h_aload_n dX2_playOn_75 rfl 0 rfl ?_
    refine gf_1_0 dX2_playOn_76 hl_X2_29 nl_32 zk_32 zp_32_0 ?_
    refine gf_7_10 dX2_playOn_79 hl_X2_40 nl_1 zk_1 ?_
    refine h_icmp_ge (tgt := 93) dX2_playOn_82 (by decide) (fun c2 => ?_) (fun c2 => ?_)
    ·
      refine h_aload_n dX2_playOn_93 rfl 0 rfl ?_
      refine h_iload_n dX2_playOn_94 rfl 1 rfl ?_
      refine h_pick [] [] rfl ?_
      refine h_invV (As := [.int x1]) (st := []) dX2_playOn_95 lk_X2_75 (h_room (by decide)) nl_32 zk_32 (by decide) rfl rfl rfl (Nat.le_of_ble_eq_true rfl) ?_
      exact k1 c1 c2
    ·
      refine h_iload_n dX2_playOn_85 rfl 1 rfl ?_
      refine h_iconst (v := 1) dX2_playOn_86 (by decide) ?_
      refine h_iadd dX2_playOn_87 ?_
      refine h_bipush (v := 11) dX2_playOn_88 (by decide) ?_
      refine h_icmp_lt (tgt := 99) dX2_playOn_90 (by decide) (fun c3 => ?_) (fun c3 => ?_)
      ·
        refine h_aload_n dX2_playOn_99 rfl 0 rfl ?_
        refine gf_1_0 dX2_playOn_100 hl_X2_29 nl_32 zk_32 zp_32_0 ?_
        refine h_aload_n dX2_playOn_103 rfl 2 rfl ?_
        refine gf_3_1 dX2_playOn_104 hl_X2_37 a_h b_h ?_
        refine h_pick [0, 1, 2] [(0, .ref 32), (1, .int x1), (2, .ref h)] rfl ?_
        refine h_invV (As := [.int (I h 1)]) (st := []) dX2_playOn_107 lk_X2_45 (h_room (by decide)) nl_1 zk_1 (by decide) rfl rfl rfl (Nat.le_of_ble_eq_true rfl) ?_
        exact k2 c1 c2 c3
      ·
        refine h_aload_n dX2_playOn_93 rfl 0 rfl ?_
        refine h_iload_n dX2_playOn_94 rfl 1 rfl ?_
        refine h_pick [] [] rfl ?_
        refine h_invV (As := [.int x1]) (st := []) dX2_playOn_95 lk_X2_75 (h_room (by decide)) nl_32 zk_32 (by decide) rfl rfl rfl (Nat.le_of_ble_eq_true rfl) ?_
        exact k3 c1 c2 c3
  ·
    refine h_aload_n dX2_playOn_49 rfl 0 rfl ?_
    refine gf_1_0 dX2_playOn_50 hl_X2_29 nl_32 zk_32 zp_32_0 ?_
    refine h_aload_n dX2_playOn_53 rfl 2 rfl ?_
    refine h_aload_n dX2_playOn_54 rfl 0 rfl ?_
    refine gf_1_0 dX2_playOn_55 hl_X2_29 nl_32 zk_32 zp_32_0 ?_
    refine h_aload_n dX2_playOn_58 rfl 2 rfl ?_
    refine h_invV (As := [.ref h]) (st := [.ref h, .ref 1]) dX2_playOn_59 lk_X2_67 (h_room (by decide)) nl_1 zk_1 (by decide) rfl rfl rfl (Nat.le_of_ble_eq_true rfl) ?_
    exact k4 c1
set_option maxHeartbeats 1000000 in
set_option maxRecDepth 4000 in
theorem sg_X2_playOn_163 {E : HEn} {d : Nat} {Q : Option Value → HIh → Prop} {I : HIh} {h g : Nat} {x1 : Int32} {x3 : Int32} {x4 : Int32} {x5 : Int32} {x6 : Int32} {x7 : Int32} (a_h : h < NL) (b_h : Zk h = 3) (a_g : g < NL) (b_g : Zk g = 3) (hs_g : Zp 33 (x1 + 1).toNatClampNeg = g)
    (k1 : (I 1 9) ≤ x7 → Q none I)
    (k2 : ¬ (I 1 9) ≤ x7 → x4 = 0 → x7 = (-1) → vp_in (x1 + 1) 11)
    (k3 : ¬ (I 1 9) ≤ x7 → x4 = 0 → x7 = (-1) → HCall E me_X4_copyFrom d [.ref g, .ref h] I (fun v9 J => HGo E (mF E (d + 1) Q) me_X2_playOn 221 [(0, .ref 32), (1, .int x1), (2, .ref h), (3, .int x3), (4, .int x4), (5, .int x5), (6, .int x6), (7, .int x7)] (v9.toList ++ []) J))
    (k4 : ¬ (I 1 9) ≤ x7 → x4 = 0 → ¬ x7 = (-1) → HCall E me_X4_of d [.ref h, .int x3, .int x7] I (fun v9 J => HGo E (mF E (d + 1) Q) me_X2_playOn 203 [(0, .ref 32), (1, .int x1), (2, .ref h), (3, .int x3), (4, .int x4), (5, .int x5), (6, .int x6), (7, .int x7)] (v9.toList ++ []) J))
    (k5 : ¬ (I 1 9) ≤ x7 → ¬ x4 = 0 → x7 = x5 → vp_in (x1 + 1) 11)
    (k6 : ¬ (I 1 9) ≤ x7 → ¬ x4 = 0 → x7 = x5 → HCall E me_X4_copyFrom d [.ref g, .ref h] I (fun v9 J => HGo E (mF E (d + 1) Q) me_X2_playOn 221 [(0, .ref 32), (1, .int x1), (2, .ref h), (3, .int x3), (4, .int x4), (5, .int x5), (6, .int x6), (7, .int x7)] (v9.toList ++ []) J))
    (k7 : ¬ (I 1 9) ≤ x7 → ¬ x4 = 0 → ¬ x7 = x5 → HGo E (mF E (d + 1) Q) me_X2_playOn 163 [(0, .ref 32), (1, .int x1), (2, .ref h), (3, .int x3), (4, .int x4), (5, .int x5), (6, .int x6), (7, .int (x7 + 1))] [] I)
    : HGo E (mF E (d + 1) Q) me_X2_playOn 163 [(0, .ref 32), (1, .int x1), (2, .ref h), (3, .int x3), (4, .int x4), (5, .int x5), (6, .int x6), (7, .int x7)] [] I := by
  refine h_iload dX2_playOn_163 7 rfl ?_
  refine h_aload_n dX2_playOn_165 rfl 0 rfl ?_
  refine gf_1_0 dX2_playOn_166 hl_X2_29 nl_32 zk_32 zp_32_0 ?_
  refine gf_7_9 dX2_playOn_169 hl_X2_93 nl_1 zk_1 ?_
  refine h_icmp_ge (tgt := 279) dX2_playOn_172 (by decide) (fun c1 => ?_) (fun c1 => ?_)
  ·
    exact h_vret dX2_playOn_279 rfl (k1 c1)
  ·
    refine h_iload dX2_playOn_175 4 rfl ?_
    refine h_if_eq (tgt := 190) dX2_playOn_177 (by decide) (fun c2 => ?_) (fun c2 => ?_)
    ·
      refine h_iload dX2_playOn_190 7 rfl ?_
      refine h_iconst (v := (-1)) dX2_playOn_192 (by decide) ?_
      refine h_icmp_eq (tgt := 209) dX2_playOn_193 (by decide) (fun c3 => ?_) (fun c3 => ?_)
      ·
        refine h_aload_n dX2_playOn_209 rfl 0 rfl ?_
        refine gf_1_1 dX2_playOn_210 hl_X2_13 nl_32 zk_32 zp_32_1 ?_
        refine h_iload_n dX2_playOn_213 rfl 1 rfl ?_
        refine h_iconst (v := 1) dX2_playOn_214 (by decide) ?_
        refine h_iadd dX2_playOn_215 ?_
        refine h_aald13z dX2_playOn_216 nl_33 zk_33 (by rw [zn_33]; exact k2 c1 c2 c3) hs_g ?_
        refine h_aload_n dX2_playOn_217 rfl 2 rfl ?_
        refine h_invV (As := [.ref h]) (st := []) dX2_playOn_218 lk_X2_53 (h_room (by decide)) a_g b_g (by decide) rfl rfl rfl (Nat.le_of_ble_eq_true rfl) ?_
        exact k3 c1 c2 c3
      ·
        refine h_aload_n dX2_playOn_196 rfl 2 rfl ?_
        refine h_iload_n dX2_playOn_197 rfl 3 rfl ?_
        refine h_iload dX2_playOn_198 7 rfl ?_
        refine h_invV (As := [.int x3, .int x7]) (st := []) dX2_playOn_200 lk_X2_96 (h_room (by decide)) a_h b_h (by decide) rfl rfl rfl (Nat.le_of_ble_eq_true rfl) ?_
        exact k4 c1 c2 c3
    ·
      refine h_iload dX2_playOn_180 7 rfl ?_
      refine h_iload dX2_playOn_182 5 rfl ?_
      refine h_icmp_eq (tgt := 209) dX2_playOn_184 (by decide) (fun c4 => ?_) (fun c4 => ?_)
      ·
        refine h_aload_n dX2_playOn_209 rfl 0 rfl ?_
        refine gf_1_1 dX2_playOn_210 hl_X2_13 nl_32 zk_32 zp_32_1 ?_
        refine h_iload_n dX2_playOn_213 rfl 1 rfl ?_
        refine h_iconst (v := 1) dX2_playOn_214 (by decide) ?_
        refine h_iadd dX2_playOn_215 ?_
        refine h_aald13z dX2_playOn_216 nl_33 zk_33 (by rw [zn_33]; exact k5 c1 c2 c4) hs_g ?_
        refine h_aload_n dX2_playOn_217 rfl 2 rfl ?_
        refine h_invV (As := [.ref h]) (st := []) dX2_playOn_218 lk_X2_53 (h_room (by decide)) a_g b_g (by decide) rfl rfl rfl (Nat.le_of_ble_eq_true rfl) ?_
        exact k6 c1 c2 c4
      ·
        refine h_goto (tgt := 273) dX2_playOn_187 (by decide) ?_
        refine h_iinc (v := (x7 + 1)) (L' := [(7, .int (x7 + 1)), (0, .ref 32), (1, .int x1), (2, .ref h), (3, .int x3), (4, .int x4), (5, .int x5), (6, .int x6)]) dX2_playOn_273 7 rfl rfl (by decide) rfl ?_
        refine h_goto (tgt := 163) dX2_playOn_276 (by decide) ?_
        refine h_pick [1, 2, 3, 4, 5, 6, 7, 0] [(0, .ref 32), (1, .int x1), (2, .ref h), (3, .int x3), (4, .int x4), (5, .int x5), (6, .int x6), (7, .int (x7 + 1))] rfl ?_
        exact k7 c1 c2 c4
set_option maxHeartbeats 1000000 in
set_option maxRecDepth 4000 in
theorem sg_X2_playOn_151 {E : HEn} {d : Nat} {Q : Option Value → HIh → Prop} {I : HIh} {h : Nat} {x1 : Int32} {x3 : Int32} {x4 : Int32} {s0 : Int32} (a_h : h < NL) (b_h : Zk h = 3)
    (k1 : HGo E (mF E (d + 1) Q) me_X2_playOn 163 [(0, .ref 32), (1, .int x1), (2, .ref h), (3, .int x3), (4, .int x4), (5, .int s0), (6, .int (-1)), (7, .int (-1))] [] I)
    : HGo E (mF E (d + 1) Q) me_X2_playOn 151 [(0, .ref 32), (1, .int x1), (2, .ref h), (3, .int x3), (4, .int x4)] [.int s0] I := by
  refine h_goto (tgt := 155) dX2_playOn_151 (by decide) ?_
  refine h_istore (L' := [(5, .int s0), (0, .ref 32), (1, .int x1), (2, .ref h), (3, .int x3), (4, .int x4)]) dX2_playOn_155 (by decide) rfl ?_
  refine h_iconst (v := (-1)) dX2_playOn_157 (by decide) ?_
  refine h_istore (L' := [(6, .int (-1)), (5, .int s0), (0, .ref 32), (1, .int x1), (2, .ref h), (3, .int x3), (4, .int x4)]) dX2_playOn_158 (by decide) rfl ?_
  refine h_iconst (v := (-1)) dX2_playOn_160 (by decide) ?_
  refine h_istore (L' := [(7, .int (-1)), (6, .int (-1)), (5, .int s0), (0, .ref 32), (1, .int x1), (2, .ref h), (3, .int x3), (4, .int x4)]) dX2_playOn_161 (by decide) rfl ?_
  refine h_pick [3, 4, 5, 6, 7, 2, 1, 0] [(0, .ref 32), (1, .int x1), (2, .ref h), (3, .int x3), (4, .int x4), (5, .int s0), (6, .int (-1)), (7, .int (-1))] rfl ?_
  exact k1
set_option maxHeartbeats 1000000 in
set_option maxRecDepth 4000 in
theorem sg_X2_playOn_62 {E : HEn} {d : Nat} {Q : Option Value → HIh → Prop} {I : HIh} {h : Nat} {x1 : Int32} {x3 : Int32} {s0 : Int32} (a_h : h < NL) (b_h : Zk h = 3)
    (k1 : HCall E me_X9_letVisit d [.ref 1, .ref h, .int s0] I (fun v9 J => HGo E (mF E (d + 1) Q) me_X2_playOn 65 [(0, .ref 32), (1, .int x1), (2, .ref h), (3, .int x3)] (v9.toList ++ []) J))
    : HGo E (mF E (d + 1) Q) me_X2_playOn 62 [(0, .ref 32), (1, .int x1), (2, .ref h), (3, .int x3)] [.int s0, .ref h, .ref 1] I := by
  refine h_invV (As := [.ref h, .int s0]) (st := []) dX2_playOn_62 lk_X2_71 (h_room (by decide)) nl_1 zk_1 (by decide) rfl rfl rfl (Nat.le_of_ble_eq_true rfl) ?_
  exact k1
set_option maxHeartbeats 1000000 in
set_option maxRecDepth 4000 in
theorem sg_X2_playOn_221 {E : HEn} {d : Nat} {Q : Option Value → HIh → Prop} {I : HIh} {h g : Nat} {x1 : Int32} {x3 : Int32} {x4 : Int32} {x5 : Int32} {x6 : Int32} {x7 : Int32} (a_h : h < NL) (b_h : Zk h = 3) (a_g : g < NL) (b_g : Zk g = 3) (hs_g : Zp 33 (x1 + 1).toNatClampNeg = g)
    (k1 : vp_in (x1 + 1) 11)
    (k2 : HCall E me_X9_letVisit d [.ref 1, .ref g, .int x7] I (fun v9 J => HGo E (mF E (d + 1) Q) me_X2_playOn 238 [(0, .ref 32), (1, .int x1), (2, .ref h), (3, .int x3), (4, .int x4), (5, .int x5), (6, .int x6), (7, .int x7)] (v9.toList ++ []) J))
    : HGo E (mF E (d + 1) Q) me_X2_playOn 221 [(0, .ref 32), (1, .int x1), (2, .ref h), (3, .int x3), (4, .int x4), (5, .int x5), (6, .int x6), (7, .int x7)] [] I := by
  refine h_aload_n dX2_playOn_221 rfl 0 rfl ?_
  refine gf_1_0 dX2_playOn_222 hl_X2_29 nl_32 zk_32 zp_32_0 ?_
  refine h_aload_n dX2_playOn_225 rfl 0 rfl ?_
  refine gf_1_1 dX2_playOn_226 hl_X2_13 nl_32 zk_32 zp_32_1 ?_
  refine h_iload_n dX2_playOn_229 rfl 1 rfl ?_
  refine h_iconst (v := 1) dX2_playOn_230 (by decide) ?_
  refine h_iadd dX2_playOn_231 ?_
  refine h_aald13z dX2_playOn_232 nl_33 zk_33 (by rw [zn_33]; exact k1) hs_g ?_
  refine h_iload dX2_playOn_233 7 rfl ?_
  refine h_invV (As := [.ref g, .int x7]) (st := []) dX2_playOn_235 lk_X2_71 (h_room (by decide)) nl_1 zk_1 (by decide) rfl rfl rfl (Nat.le_of_ble_eq_true rfl) ?_
  exact k2
set_option maxHeartbeats 1000000 in
set_option maxRecDepth 4000 in
theorem sg_X2_playOn_203 {E : HEn} {d : Nat} {Q : Option Value → HIh → Prop} {I : HIh} {h g : Nat} {x1 : Int32} {x3 : Int32} {x4 : Int32} {x5 : Int32} {x6 : Int32} {x7 : Int32} {s0 : Int32} (a_h : h < NL) (b_h : Zk h = 3) (a_g : g < NL) (b_g : Zk g = 3) (hs_g : Zp 33 (x1 + 1).toNatClampNeg = g)
    (k1 : ¬ s0 = 0 → vp_in (x1 + 1) 11)
    (k2 : ¬ s0 = 0 → HCall E me_X4_copyFrom d [.ref g, .ref h] I (fun v9 J => HGo E (mF E (d + 1) Q) me_X2_playOn 221 [(0, .ref 32), (1, .int x1), (2, .ref h), (3, .int x3), (4, .int x4), (5, .int x5), (6, .int x6), (7, .int x7)] (v9.toList ++ []) J))
    (k3 : s0 = 0 → HGo E (mF E (d + 1) Q) me_X2_playOn 163 [(0, .ref 32), (1, .int x1), (2, .ref h), (3, .int x3), (4, .int x4), (5, .int x5), (6, .int x6), (7, .int (x7 + 1))] [] I)
    : HGo E (mF E (d + 1) Q) me_X2_playOn 203 [(0, .ref 32), (1, .int x1), (2, .ref h), (3, .int x3), (4, .int x4), (5, .int x5), (6, .int x6), (7, .int x7)] [.int s0] I := by
  refine h_if_ne (tgt := 209) dX2_playOn_203 (by decide) (fun c1 => ?_) (fun c1 => ?_)
  ·
    refine h_aload_n dX2_playOn_209 rfl 0 rfl ?_
    refine gf_1_1 dX2_playOn_210 hl_X2_13 nl_32 zk_32 zp_32_1 ?_
    refine h_iload_n dX2_playOn_213 rfl 1 rfl ?_
    refine h_iconst (v := 1) dX2_playOn_214 (by decide) ?_
    refine h_iadd dX2_playOn_215 ?_
    refine h_aald13z dX2_playOn_216 nl_33 zk_33 (by rw [zn_33]; exact k1 c1) hs_g ?_
    refine h_aload_n dX2_playOn_217 rfl 2 rfl ?_
    refine h_invV (As := [.ref h]) (st := []) dX2_playOn_218 lk_X2_53 (h_room (by decide)) a_g b_g (by decide) rfl rfl rfl (Nat.le_of_ble_eq_true rfl) ?_
    exact k2 c1
  ·
    refine h_goto (tgt := 273) dX2_playOn_206 (by decide) ?_
    refine h_iinc (v := (x7 + 1)) (L' := [(7, .int (x7 + 1)), (0, .ref 32), (1, .int x1), (2, .ref h), (3, .int x3), (4, .int x4), (5, .int x5), (6, .int x6)]) dX2_playOn_273 7 rfl rfl (by decide) rfl ?_
    refine h_goto (tgt := 163) dX2_playOn_276 (by decide) ?_
    refine h_pick [1, 2, 3, 4, 5, 6, 7, 0] [(0, .ref 32), (1, .int x1), (2, .ref h), (3, .int x3), (4, .int x4), (5, .int x5), (6, .int x6), (7, .int (x7 + 1))] rfl ?_
    exact k3 c1
set_option maxHeartbeats 1000000 in
set_option maxRecDepth 4000 in
theorem sg_X2_playOn_65 {E : HEn} {d : Nat} {Q : Option Value → HIh → Prop} {I : HIh} {h : Nat} {x1 : Int32} {x3 : Int32} (a_h : h < NL) (b_h : Zk h = 3)
    (k1 : HGo E (mF E (d + 1) Q) me_X2_playOn 23 [(0, .ref 32), (1, .int x1), (2, .ref h), (3, .int (x3 + 1))] [] I)
    : HGo E (mF E (d + 1) Q) me_X2_playOn 65 [(0, .ref 32), (1, .int x1), (2, .ref h), (3, .int x3)] [] I := by
  refine h_iinc (v := (x3 + 1)) (L' := [(3, .int (x3 + 1)), (0, .ref 32), (1, .int x1), (2, .ref h)]) dX2_playOn_65 3 rfl rfl (by decide) rfl ?_
  refine h_goto (tgt := 23) dX2_playOn_68 (by decide) ?_
  refine h_pick [1, 2, 3, 0] [(0, .ref 32), (1, .int x1), (2, .ref h), (3, .int (x3 + 1))] rfl ?_
  exact k1
set_option maxHeartbeats 1000000 in
set_option maxRecDepth 4000 in
theorem sg_X2_playOn_238 {E : HEn} {d : Nat} {Q : Option Value → HIh → Prop} {I : HIh} {h : Nat} {x1 : Int32} {x3 : Int32} {x4 : Int32} {x5 : Int32} {x6 : Int32} {x7 : Int32} (a_h : h < NL) (b_h : Zk h = 3)
    (k1 : HCall E me_X2_playOn d [.ref 32, .int (x1 + 1)] I (fun v9 J => HGo E (mF E (d + 1) Q) me_X2_playOn 245 [(0, .ref 32), (1, .int x1), (2, .ref h), (3, .int x3), (4, .int x4), (5, .int x5), (6, .int x6), (7, .int x7)] (v9.toList ++ []) J))
    : HGo E (mF E (d + 1) Q) me_X2_playOn 238 [(0, .ref 32), (1, .int x1), (2, .ref h), (3, .int x3), (4, .int x4), (5, .int x5), (6, .int x6), (7, .int x7)] [] I := by
  refine h_aload_n dX2_playOn_238 rfl 0 rfl ?_
  refine h_iload_n dX2_playOn_239 rfl 1 rfl ?_
  refine h_iconst (v := 1) dX2_playOn_240 (by decide) ?_
  refine h_iadd dX2_playOn_241 ?_
  refine h_invS (As := [.ref 32, .int (x1 + 1)]) (st := []) dX2_playOn_242 lk_X2_57 (h_room (by decide)) rfl rfl (Nat.le_of_ble_eq_true rfl) ?_
  exact k1
set_option maxHeartbeats 1000000 in
set_option maxRecDepth 4000 in
theorem sg_X2_playOn_245 {E : HEn} {d : Nat} {Q : Option Value → HIh → Prop} {I : HIh} {h : Nat} {x1 : Int32} {x3 : Int32} {x4 : Int32} {x5 : Int32} {x6 : Int32} {x7 : Int32} (a_h : h < NL) (b_h : Zk h = 3)
    (k1 : HCall E me_X2_reached d [.ref 32, .int (x1 + 1), .int x3] I (fun v9 J => HGo E (mF E (d + 1) Q) me_X2_playOn 253 [(0, .ref 32), (1, .int x1), (2, .ref h), (3, .int x3), (4, .int x4), (5, .int x5), (6, .int x6), (7, .int x7)] (v9.toList ++ []) J))
    : HGo E (mF E (d + 1) Q) me_X2_playOn 245 [(0, .ref 32), (1, .int x1), (2, .ref h), (3, .int x3), (4, .int x4), (5, .int x5), (6, .int x6), (7, .int x7)] [] I := by
  refine h_aload_n dX2_playOn_245 rfl 0 rfl ?_
  refine h_iload_n dX2_playOn_246 rfl 1 rfl ?_
  refine h_iconst (v := 1) dX2_playOn_247 (by decide) ?_
  refine h_iadd dX2_playOn_248 ?_
  refine h_iload_n dX2_playOn_249 rfl 3 rfl ?_
  refine h_invV (As := [.int (x1 + 1), .int x3]) (st := []) dX2_playOn_250 lk_X2_100 (h_room (by decide)) nl_32 zk_32 (by decide) rfl rfl rfl (Nat.le_of_ble_eq_true rfl) ?_
  exact k1
set_option maxHeartbeats 1000000 in
set_option maxRecDepth 4000 in
theorem sg_X2_playOn_253 {E : HEn} {d : Nat} {Q : Option Value → HIh → Prop} {I : HIh} {h : Nat} {x1 : Int32} {x3 : Int32} {x4 : Int32} {x5 : Int32} {x6 : Int32} {x7 : Int32} {s0 : Int32} (a_h : h < NL) (b_h : Zk h = 3)
    (k1 : s0 ≤ x6 → HGo E (mF E (d + 1) Q) me_X2_playOn 163 [(0, .ref 32), (1, .int x1), (2, .ref h), (3, .int x3), (4, .int x4), (5, .int x5), (6, .int x6), (7, .int (x7 + 1))] [] I)
    (k2 : ¬ s0 ≤ x6 → HCall E me_X2_takeOver d [.ref 32, .int x1, .int x7] I (fun v9 J => HGo E (mF E (d + 1) Q) me_X2_playOn 273 [(0, .ref 32), (1, .int x1), (2, .ref h), (3, .int x3), (4, .int x4), (5, .int x5), (6, .int s0), (7, .int x7)] (v9.toList ++ []) J))
    : HGo E (mF E (d + 1) Q) me_X2_playOn 253 [(0, .ref 32), (1, .int x1), (2, .ref h), (3, .int x3), (4, .int x4), (5, .int x5), (6, .int x6), (7, .int x7)] [.int s0] I := by
  refine h_istore (L' := [(8, .int s0), (0, .ref 32), (1, .int x1), (2, .ref h), (3, .int x3), (4, .int x4), (5, .int x5), (6, .int x6), (7, .int x7)]) dX2_playOn_253 (by decide) rfl ?_
  refine h_iload dX2_playOn_255 0 rfl ?_
  refine h_iload dX2_playOn_257 7 rfl ?_
  refine h_icmp_le (tgt := 273) dX2_playOn_259 (by decide) (fun c1 => ?_) (fun c1 => ?_)
  ·
    refine h_iinc (v := (x7 + 1)) (L' := [(7, .int (x7 + 1)), (8, .int s0), (0, .ref 32), (1, .int x1), (2, .ref h), (3, .int x3), (4, .int x4), (5, .int x5), (6, .int x6)]) dX2_playOn_273 8 rfl rfl (by decide) rfl ?_
    refine h_goto (tgt := 163) dX2_playOn_276 (by decide) ?_
    refine h_pick [2, 3, 4, 5, 6, 7, 8, 0] [(0, .ref 32), (1, .int x1), (2, .ref h), (3, .int x3), (4, .int x4), (5, .int x5), (6, .int x6), (7, .int (x7 + 1))] rfl ?_
    exact k1 c1
  ·
    refine h_iload dX2_playOn_262 0 rfl ?_
    refine h_istore (L' := [(6, .int s0), (8, .int s0), (0, .ref 32), (1, .int x1), (2, .ref h), (3, .int x3), (4, .int x4), (5, .int x5), (7, .int x7)]) dX2_playOn_264 (by decide) rfl ?_
    refine h_aload_n dX2_playOn_266 rfl 2 rfl ?_
    refine h_iload_n dX2_playOn_267 rfl 3 rfl ?_
    refine h_iload dX2_playOn_268 8 rfl ?_
    refine h_pick [2, 3, 4, 5, 6, 7, 0, 8] [(0, .ref 32), (1, .int x1), (2, .ref h), (3, .int x3), (4, .int x4), (5, .int x5), (6, .int s0), (7, .int x7)] rfl ?_
    refine h_invV (As := [.int x1, .int x7]) (st := []) dX2_playOn_270 lk_X2_103 (h_room (by decide)) nl_32 zk_32 (by decide) rfl rfl rfl (Nat.le_of_ble_eq_true rfl) ?_
    exact k2 c1
set_option maxHeartbeats 1000000 in
set_option maxRecDepth 4000 in
theorem sg_X2_playOn_273 {E : HEn} {d : Nat} {Q : Option Value → HIh → Prop} {I : HIh} {h : Nat} {x1 : Int32} {x3 : Int32} {x4 : Int32} {x5 : Int32} {x6 : Int32} {x7 : Int32} (a_h : h < NL) (b_h : Zk h = 3)
    (k1 : HGo E (mF E (d + 1) Q) me_X2_playOn 163 [(0, .ref 32), (1, .int x1), (2, .ref h), (3, .int x3), (4, .int x4), (5, .int x5), (6, .int x6), (7, .int (x7 + 1))] [] I)
    : HGo E (mF E (d + 1) Q) me_X2_playOn 273 [(0, .ref 32), (1, .int x1), (2, .ref h), (3, .int x3), (4, .int x4), (5, .int x5), (6, .int x6), (7, .int x7)] [] I := by
  refine h_iinc (v := (x7 + 1)) (L' := [(7, .int (x7 + 1)), (0, .ref 32), (1, .int x1), (2, .ref h), (3, .int x3), (4, .int x4), (5, .int x5), (6, .int x6)]) dX2_playOn_273 7 rfl rfl (by decide) rfl ?_
  refine h_goto (tgt := 163) dX2_playOn_276 (by decide) ?_
  refine h_pick [1, 2, 3, 4, 5, 6, 7, 0] [(0, .ref 32), (1, .int x1), (2, .ref h), (3, .int x3), (4, .int x4), (5, .int x5), (6, .int x6), (7, .int (x7 + 1))] rfl ?_
  exact k1
set_option maxHeartbeats 1000000 in
set_option maxRecDepth 4000 in
theorem sg_X2_comesAgain_0 {E : HEn} {d : Nat} {Q : Option Value → HIh → Prop} {I : HIh} {w : Int32} {t : Int32}
    (k1 : HGo E (mF E (d + 3) Q) me_X2_comesAgain 4 [(0, .ref 32), (1, .int w), (3, .int (t + 1))] [] I)
    : HGo E (mF E (d + 3) Q) me_X2_comesAgain 0 [(0, .ref 32), (1, .int w), (2, .int t)] [] I := by
  refine h_iload_n dX2_comesAgain_0 rfl 2 rfl ?_
  refine h_iconst (v := 1) dX2_comesAgain_1 (by decide) ?_
  refine h_iadd dX2_comesAgain_2 ?_
  refine h_istore_n (L' := [(3, .int (t + 1)), (0, .ref 32), (1, .int w), (2, .int t)]) dX2_comesAgain_3 rfl (by decide) rfl ?_
  refine h_pick [1, 2, 0] [(0, .ref 32), (1, .int w), (3, .int (t + 1))] rfl ?_
  exact k1
set_option maxHeartbeats 1000000 in
set_option maxRecDepth 4000 in
theorem sg_X2_comesAgain_4 {E : HEn} {d : Nat} {Q : Option Value → HIh → Prop} {I : HIh} {x1 : Int32} {x3 : Int32}
    (k1 : (I 1 10) ≤ x3 → Q (some (.int 0)) I)
    (k2 : ¬ (I 1 10) ≤ x3 → HCall E me_X9_visitor (d + 2) [.ref 1, .int x3] I (fun v9 J => HGo E (mF E (d + 3) Q) me_X2_comesAgain 24 [(0, .ref 32), (1, .int x1), (3, .int x3)] (v9.toList ++ [.ref 32]) J))
    : HGo E (mF E (d + 3) Q) me_X2_comesAgain 4 [(0, .ref 32), (1, .int x1), (3, .int x3)] [] I := by
  refine h_iload_n dX2_comesAgain_4 rfl 2 rfl ?_
  refine h_aload_n dX2_comesAgain_5 rfl 0 rfl ?_
  refine gf_1_0 dX2_comesAgain_6 hl_X2_29 nl_32 zk_32 zp_32_0 ?_
  refine gf_7_10 dX2_comesAgain_9 hl_X2_40 nl_1 zk_1 ?_
  refine h_icmp_ge (tgt := 43) dX2_comesAgain_12 (by decide) (fun c1 => ?_) (fun c1 => ?_)
  ·
    refine h_iconst (v := 0) dX2_comesAgain_43 (by decide) ?_
    exact h_zret dX2_comesAgain_44 rfl rfl (k1 c1)
  ·
    refine h_aload_n dX2_comesAgain_15 rfl 0 rfl ?_
    refine h_aload_n dX2_comesAgain_16 rfl 0 rfl ?_
    refine gf_1_0 dX2_comesAgain_17 hl_X2_29 nl_32 zk_32 zp_32_0 ?_
    refine h_iload_n dX2_comesAgain_20 rfl 2 rfl ?_
    refine h_invV (As := [.int x3]) (st := [.ref 32]) dX2_comesAgain_21 lk_X2_45 (h_room (by decide)) nl_1 zk_1 (by decide) rfl rfl rfl (Nat.le_of_ble_eq_true rfl) ?_
    exact k2 c1
set_option maxHeartbeats 1000000 in
set_option maxRecDepth 4000 in
theorem sg_X2_comesAgain_24 {E : HEn} {d : Nat} {Q : Option Value → HIh → Prop} {I : HIh} {x1 : Int32} {x3 : Int32} {s0 : Int32}
    (k1 : HCall E me_X2_goalOf (d + 2) [.ref 32, .int s0] I (fun v9 J => HGo E (mF E (d + 3) Q) me_X2_comesAgain 27 [(0, .ref 32), (1, .int x1), (3, .int x3)] (v9.toList ++ []) J))
    : HGo E (mF E (d + 3) Q) me_X2_comesAgain 24 [(0, .ref 32), (1, .int x1), (3, .int x3)] [.int s0, .ref 32] I := by
  refine h_invV (As := [.int s0]) (st := []) dX2_comesAgain_24 lk_X2_64 (h_room (by decide)) nl_32 zk_32 (by decide) rfl rfl rfl (Nat.le_of_ble_eq_true rfl) ?_
  exact k1
set_option maxHeartbeats 1000000 in
set_option maxRecDepth 4000 in
theorem sg_X2_comesAgain_27 {E : HEn} {d : Nat} {Q : Option Value → HIh → Prop} {I : HIh} {x1 : Int32} {x3 : Int32} {s0 : Int32}
    (k1 : HCall E me_X2_goalOf (d + 2) [.ref 32, .int x1] I (fun v9 J => HGo E (mF E (d + 3) Q) me_X2_comesAgain 32 [(0, .ref 32), (1, .int x1), (3, .int x3)] (v9.toList ++ [.int s0]) J))
    : HGo E (mF E (d + 3) Q) me_X2_comesAgain 27 [(0, .ref 32), (1, .int x1), (3, .int x3)] [.int s0] I := by
  refine h_aload_n dX2_comesAgain_27 rfl 0 rfl ?_
  refine h_iload_n dX2_comesAgain_28 rfl 1 rfl ?_
  refine h_invV (As := [.int x1]) (st := [.int s0]) dX2_comesAgain_29 lk_X2_64 (h_room (by decide)) nl_32 zk_32 (by decide) rfl rfl rfl (Nat.le_of_ble_eq_true rfl) ?_
  exact k1
set_option maxHeartbeats 1000000 in
set_option maxRecDepth 4000 in
theorem sg_X2_comesAgain_32 {E : HEn} {d : Nat} {Q : Option Value → HIh → Prop} {I : HIh} {x1 : Int32} {x3 : Int32} {s0 : Int32} {s1 : Int32}
    (k1 : ¬ s1 = s0 → HGo E (mF E (d + 3) Q) me_X2_comesAgain 4 [(0, .ref 32), (1, .int x1), (3, .int (x3 + 1))] [] I)
    (k2 : s1 = s0 → Q (some (.int 1)) I)
    : HGo E (mF E (d + 3) Q) me_X2_comesAgain 32 [(0, .ref 32), (1, .int x1), (3, .int x3)] [.int s0, .int s1] I := by
  refine h_icmp_ne (tgt := 37) dX2_comesAgain_32 (by decide) (fun c1 => ?_) (fun c1 => ?_)
  ·
    refine h_iinc (v := (x3 + 1)) (L' := [(3, .int (x3 + 1)), (0, .ref 32), (1, .int x1)]) dX2_comesAgain_37 2 rfl rfl (by decide) rfl ?_
    refine h_goto (tgt := 4) dX2_comesAgain_40 (by decide) ?_
    refine h_pick [1, 2, 0] [(0, .ref 32), (1, .int x1), (3, .int (x3 + 1))] rfl ?_
    exact k1 c1
  ·
    refine h_iconst (v := 1) dX2_comesAgain_35 (by decide) ?_
    exact h_zret dX2_comesAgain_36 rfl rfl (k2 c1)
set_option maxHeartbeats 1000000 in
set_option maxRecDepth 4000 in
theorem sg_X2_settle_0 {E : HEn} {d : Nat} {Q : Option Value → HIh → Prop} {I : HIh} {v : Int32}
    (k1 : HGo E (mF E (d + 3) Q) me_X2_settle 2 [(0, .ref 32), (1, .int v), (2, .int 0)] [] I)
    : HGo E (mF E (d + 3) Q) me_X2_settle 0 [(0, .ref 32), (1, .int v)] [] I := by
  refine h_iconst (v := 0) dX2_settle_0 (by decide) ?_
  refine h_istore_n (L' := [(2, .int 0), (0, .ref 32), (1, .int v)]) dX2_settle_1 rfl (by decide) rfl ?_
  refine h_pick [1, 2, 0] [(0, .ref 32), (1, .int v), (2, .int 0)] rfl ?_
  exact k1
set_option maxHeartbeats 1000000 in
set_option maxRecDepth 4000 in
theorem sg_X2_settle_2 {E : HEn} {d : Nat} {Q : Option Value → HIh → Prop} {I : HIh} {h e : Nat} {x1 : Int32} {x2 : Int32} (a_h : h < NL) (b_h : Zk h = 3) (a_e : e < NL) (b_e : Zk e = 11) (n_e : Zn e = 4) (hs_e : Zp 56 x1.toNatClampNeg = e) (hs_h : Zp 33 x1.toNatClampNeg = h)
    (k1 : 4 ≤ x2 → Q none I)
    (k2 : ¬ 4 ≤ x2 → vp_in x1 11)
    (k3 : ¬ 4 ≤ x2 → HCall E me_X9_wealth (d + 2) [.ref 1, .ref h, .int x2] I (fun v9 J => HGo E (mF E (d + 3) Q) me_X2_settle 28 [(0, .ref 32), (1, .int x1), (2, .int x2)] (v9.toList ++ [.int x2, .ref e]) J))
    : HGo E (mF E (d + 3) Q) me_X2_settle 2 [(0, .ref 32), (1, .int x1), (2, .int x2)] [] I := by
  refine h_iload_n dX2_settle_2 rfl 2 rfl ?_
  refine h_iconst (v := 4) dX2_settle_3 (by decide) ?_
  refine h_icmp_ge (tgt := 35) dX2_settle_4 (by decide) (fun c1 => ?_) (fun c1 => ?_)
  ·
    exact h_vret dX2_settle_35 rfl (k1 c1)
  ·
    refine h_aload_n dX2_settle_7 rfl 0 rfl ?_
    refine gf_1_2 dX2_settle_8 hl_X2_19 nl_32 zk_32 zp_32_2 ?_
    refine h_iload_n dX2_settle_11 rfl 1 rfl ?_
    refine h_aald14z dX2_settle_12 nl_56 zk_56 (by rw [zn_56]; exact k2 c1) hs_e ?_
    refine h_iload_n dX2_settle_13 rfl 2 rfl ?_
    refine h_aload_n dX2_settle_14 rfl 0 rfl ?_
    refine gf_1_0 dX2_settle_15 hl_X2_29 nl_32 zk_32 zp_32_0 ?_
    refine h_aload_n dX2_settle_18 rfl 0 rfl ?_
    refine gf_1_1 dX2_settle_19 hl_X2_13 nl_32 zk_32 zp_32_1 ?_
    refine h_iload_n dX2_settle_22 rfl 1 rfl ?_
    refine h_aald13z dX2_settle_23 nl_33 zk_33 (by rw [zn_33]; exact k2 c1) hs_h ?_
    refine h_iload_n dX2_settle_24 rfl 2 rfl ?_
    refine h_invV (As := [.ref h, .int x2]) (st := [.int x2, .ref e]) dX2_settle_25 lk_X2_107 (h_room (by decide)) nl_1 zk_1 (by decide) rfl rfl rfl (Nat.le_of_ble_eq_true rfl) ?_
    exact k3 c1
set_option maxHeartbeats 1000000 in
set_option maxRecDepth 4000 in
theorem sg_X2_settle_28 {E : HEn} {d : Nat} {Q : Option Value → HIh → Prop} {I : HIh} {e : Nat} {x1 : Int32} {x2 : Int32} {s0 : Int32} {s1 : Int32} (a_e : e < NL) (b_e : Zk e = 11) (n_e : Zn e = 4)
    (k1 : vp_in s1 4)
    (k2 : HGo E (mF E (d + 3) Q) me_X2_settle 2 [(0, .ref 32), (1, .int x1), (2, .int (x2 + 1))] [] (setI I e (upd (I e) s1.toNatClampNeg s0)))
    : HGo E (mF E (d + 3) Q) me_X2_settle 28 [(0, .ref 32), (1, .int x1), (2, .int x2)] [.int s0, .int s1, .ref e] I := by
  refine h_iast dX2_settle_28 a_e b_e (by rw [n_e]; exact k1) ?_
  refine h_iinc (v := (x2 + 1)) (L' := [(2, .int (x2 + 1)), (0, .ref 32), (1, .int x1)]) dX2_settle_29 2 rfl rfl (by decide) rfl ?_
  refine h_goto (tgt := 2) dX2_settle_32 (by decide) ?_
  refine h_pick [1, 2, 0] [(0, .ref 32), (1, .int x1), (2, .int (x2 + 1))] rfl ?_
  exact k2
set_option maxHeartbeats 1000000 in
set_option maxRecDepth 4000 in
theorem sg_X2_reached_0 {E : HEn} {d : Nat} {Q : Option Value → HIh → Prop} {I : HIh} {v : Int32} {w : Int32}
    (k1 : HGo E (mF E (d + 3) Q) me_X2_reached 5 [(0, .ref 32), (1, .int v), (2, .int w), (3, .int 0), (4, .int 0)] [] I)
    : HGo E (mF E (d + 3) Q) me_X2_reached 0 [(0, .ref 32), (1, .int v), (2, .int w)] [] I := by
  refine h_iconst (v := 0) dX2_reached_0 (by decide) ?_
  refine h_istore_n (L' := [(3, .int 0), (0, .ref 32), (1, .int v), (2, .int w)]) dX2_reached_1 rfl (by decide) rfl ?_
  refine h_iconst (v := 0) dX2_reached_2 (by decide) ?_
  refine h_istore (L' := [(4, .int 0), (3, .int 0), (0, .ref 32), (1, .int v), (2, .int w)]) dX2_reached_3 (by decide) rfl ?_
  refine h_pick [2, 3, 4, 1, 0] [(0, .ref 32), (1, .int v), (2, .int w), (3, .int 0), (4, .int 0)] rfl ?_
  exact k1
set_option maxHeartbeats 1000000 in
set_option maxRecDepth 4000 in
theorem sg_X2_reached_5 {E : HEn} {d : Nat} {Q : Option Value → HIh → Prop} {I : HIh} {x1 : Int32} {x2 : Int32} {x3 : Int32} {x4 : Int32}
    (k1 : 4 ≤ x4 → Q (some (.int x3)) I)
    (k2 : ¬ 4 ≤ x4 → HCall E me_X2_goalOf (d + 2) [.ref 32, .int x2] I (fun v9 J => HGo E (mF E (d + 3) Q) me_X2_reached 17 [(0, .ref 32), (1, .int x1), (2, .int x2), (4, .int x4)] (v9.toList ++ [.int x3]) J))
    : HGo E (mF E (d + 3) Q) me_X2_reached 5 [(0, .ref 32), (1, .int x1), (2, .int x2), (3, .int x3), (4, .int x4)] [] I := by
  refine h_iload dX2_reached_5 4 rfl ?_
  refine h_iconst (v := 4) dX2_reached_7 (by decide) ?_
  refine h_icmp_ge (tgt := 40) dX2_reached_8 (by decide) (fun c1 => ?_) (fun c1 => ?_)
  ·
    refine h_iload_n dX2_reached_40 rfl 3 rfl ?_
    exact h_iret dX2_reached_41 rfl (k1 c1)
  ·
    refine h_iload_n dX2_reached_11 rfl 3 rfl ?_
    refine h_aload_n dX2_reached_12 rfl 0 rfl ?_
    refine h_iload_n dX2_reached_13 rfl 2 rfl ?_
    refine h_pick [0, 1, 2, 4] [(0, .ref 32), (1, .int x1), (2, .int x2), (4, .int x4)] rfl ?_
    refine h_invV (As := [.int x2]) (st := [.int x3]) dX2_reached_14 lk_X2_64 (h_room (by decide)) nl_32 zk_32 (by decide) rfl rfl rfl (Nat.le_of_ble_eq_true rfl) ?_
    exact k2 c1
set_option maxHeartbeats 1000000 in
set_option maxRecDepth 4000 in
theorem sg_X2_reached_17 {E : HEn} {d : Nat} {Q : Option Value → HIh → Prop} {I : HIh} {e : Nat} {x1 : Int32} {x2 : Int32} {x4 : Int32} {s0 : Int32} {s1 : Int32} (a_e : e < NL) (b_e : Zk e = 11) (n_e : Zn e = 4) (hs_e : Zp 56 x1.toNatClampNeg = e)
    (k1 : vp_in x1 11)
    (k2 : vp_in x4 4)
    (k3 : HGo E (mF E (d + 3) Q) me_X2_reached 5 [(0, .ref 32), (1, .int x1), (2, .int x2), (3, .int (s1 + (((s0 >>> (x4 &&& 31)) &&& 1) * (I e x4.toNatClampNeg)))), (4, .int (x4 + 1))] [] I)
    : HGo E (mF E (d + 3) Q) me_X2_reached 17 [(0, .ref 32), (1, .int x1), (2, .int x2), (4, .int x4)] [.int s0, .int s1] I := by
  refine h_iload dX2_reached_17 3 rfl ?_
  refine h_ishr dX2_reached_19 ?_
  refine h_iconst (v := 1) dX2_reached_20 (by decide) ?_
  refine h_iand dX2_reached_21 ?_
  refine h_aload_n dX2_reached_22 rfl 0 rfl ?_
  refine gf_1_2 dX2_reached_23 hl_X2_19 nl_32 zk_32 zp_32_2 ?_
  refine h_iload_n dX2_reached_26 rfl 1 rfl ?_
  refine h_aald14z dX2_reached_27 nl_56 zk_56 (by rw [zn_56]; exact k1) hs_e ?_
  refine h_iload dX2_reached_28 3 rfl ?_
  refine h_iald dX2_reached_30 a_e b_e (by rw [n_e]; exact k2) ?_
  refine h_imul dX2_reached_31 ?_
  refine h_iadd dX2_reached_32 ?_
  refine h_istore_n (L' := [(3, .int (s1 + (((s0 >>> (x4 &&& 31)) &&& 1) * (I e x4.toNatClampNeg)))), (0, .ref 32), (1, .int x1), (2, .int x2), (4, .int x4)]) dX2_reached_33 rfl (by decide) rfl ?_
  refine h_iinc (v := (x4 + 1)) (L' := [(4, .int (x4 + 1)), (3, .int (s1 + (((s0 >>> (x4 &&& 31)) &&& 1) * (I e x4.toNatClampNeg)))), (0, .ref 32), (1, .int x1), (2, .int x2)]) dX2_reached_34 4 rfl rfl (by decide) rfl ?_
  refine h_goto (tgt := 5) dX2_reached_37 (by decide) ?_
  refine h_pick [2, 3, 4, 1, 0] [(0, .ref 32), (1, .int x1), (2, .int x2), (3, .int (s1 + (((s0 >>> (x4 &&& 31)) &&& 1) * (I e x4.toNatClampNeg)))), (4, .int (x4 + 1))] rfl ?_
  exact k3
set_option maxHeartbeats 1000000 in
set_option maxRecDepth 4000 in
theorem sg_X2_takeOver_0 {E : HEn} {d : Nat} {Q : Option Value → HIh → Prop} {I : HIh} {e f g h : Nat} {v : Int32} {k : Int32} (a_e : e < NL) (b_e : Zk e = 11) (n_e : Zn e = 4) (a_f : f < NL) (b_f : Zk f = 11) (n_f : Zn f = 4) (a_g : g < NL) (b_g : Zk g = 11) (n_g : Zn g = 11) (a_h : h < NL) (b_h : Zk h = 11) (n_h : Zn h = 11) (hs_e : Zp 56 (v + 1).toNatClampNeg = e) (hs_f : Zp 56 v.toNatClampNeg = f) (hs_g : Zp 68 (v + 1).toNatClampNeg = g) (hs_h : Zp 68 v.toNatClampNeg = h)
    (k1 : vp_in (v + 1) 11)
    (k2 : vp_in v 11)
    (k3 : Q none (setI (setI (setI I f (va_cpy (I e) (I f) 0 0 4)) h (va_cpy ((setI I f (va_cpy (I e) (I f) 0 0 4)) g) ((setI I f (va_cpy (I e) (I f) 0 0 4)) h) 0 0 11)) h (upd ((setI (setI I f (va_cpy (I e) (I f) 0 0 4)) h (va_cpy ((setI I f (va_cpy (I e) (I f) 0 0 4)) g) ((setI I f (va_cpy (I e) (I f) 0 0 4)) h) 0 0 11)) h) v.toNatClampNeg k)))
    : HGo E (mF E (d + 1) Q) me_X2_takeOver 0 [(0, .ref 32), (1, .int v), (2, .int k)] [] I := by
  refine h_aload_n dX2_takeOver_0 rfl 0 rfl ?_
  refine gf_1_2 dX2_takeOver_1 hl_X2_19 nl_32 zk_32 zp_32_2 ?_
  refine h_iload_n dX2_takeOver_4 rfl 1 rfl ?_
  refine h_iconst (v := 1) dX2_takeOver_5 (by decide) ?_
  refine h_iadd dX2_takeOver_6 ?_
  refine h_aald14z dX2_takeOver_7 nl_56 zk_56 (by rw [zn_56]; exact k1) hs_e ?_
  refine h_iconst (v := 0) dX2_takeOver_8 (by decide) ?_
  refine h_aload_n dX2_takeOver_9 rfl 0 rfl ?_
  refine gf_1_2 dX2_takeOver_10 hl_X2_19 nl_32 zk_32 zp_32_2 ?_
  refine h_iload_n dX2_takeOver_13 rfl 1 rfl ?_
  refine h_aald14z dX2_takeOver_14 nl_56 zk_56 (by rw [zn_56]; exact k2) hs_f ?_
  refine h_iconst (v := 0) dX2_takeOver_15 (by decide) ?_
  refine h_iconst (v := 4) dX2_takeOver_16 (by decide) ?_
  refine h_copy dX2_takeOver_17 wt_670 wt_297 wt_296 wt_14 a_e b_e a_f b_f (by decide) (by decide) (by decide) (by rw [n_e]; decide) (by rw [n_f]; decide) (h_frm (Nat.le_of_ble_eq_true rfl)).1 ?_
  refine h_aload_n dX2_takeOver_20 rfl 0 rfl ?_
  refine gf_1_3 dX2_takeOver_21 hl_X2_22 nl_32 zk_32 zp_32_3 ?_
  refine h_iload_n dX2_takeOver_24 rfl 1 rfl ?_
  refine h_iconst (v := 1) dX2_takeOver_25 (by decide) ?_
  refine h_iadd dX2_takeOver_26 ?_
  refine h_aald14z dX2_takeOver_27 nl_68 zk_68 (by rw [zn_68]; exact k1) hs_g ?_
  refine h_iconst (v := 0) dX2_takeOver_28 (by decide) ?_
  refine h_aload_n dX2_takeOver_29 rfl 0 rfl ?_
  refine gf_1_3 dX2_takeOver_30 hl_X2_22 nl_32 zk_32 zp_32_3 ?_
  refine h_iload_n dX2_takeOver_33 rfl 1 rfl ?_
  refine h_aald14z dX2_takeOver_34 nl_68 zk_68 (by rw [zn_68]; exact k2) hs_h ?_
  refine h_iconst (v := 0) dX2_takeOver_35 (by decide) ?_
  refine h_bipush (v := 11) dX2_takeOver_36 (by decide) ?_
  refine h_copy dX2_takeOver_38 wt_670 wt_297 wt_296 wt_14 a_g b_g a_h b_h (by decide) (by decide) (by decide) (by rw [n_g]; decide) (by rw [n_h]; decide) (h_frm (Nat.le_of_ble_eq_true rfl)).1 ?_
  refine h_aload_n dX2_takeOver_41 rfl 0 rfl ?_
  refine gf_1_3 dX2_takeOver_42 hl_X2_22 nl_32 zk_32 zp_32_3 ?_
  refine h_iload_n dX2_takeOver_45 rfl 1 rfl ?_
  refine h_aald14z dX2_takeOver_46 nl_68 zk_68 (by rw [zn_68]; exact k2) hs_h ?_
  refine h_iload_n dX2_takeOver_47 rfl 1 rfl ?_
  refine h_iload_n dX2_takeOver_48 rfl 2 rfl ?_
  refine h_iast dX2_takeOver_49 a_h b_h (by rw [n_h]; exact k2) ?_
  exact h_vret dX2_takeOver_50 rfl (k3)
set_option maxHeartbeats 1000000 in
set_option maxRecDepth 4000 in
theorem sg_X2_expected_0 {E : HEn} {d : Nat} {Q : Option Value → HIh → Prop} {I : HIh} {h : Nat} {p : Int32} {z : Int32} {w : Int32} (a_h : h < NL) (b_h : Zk h = 3)
    (k1 : HCall E me_X4_copyFrom (d + 60) [.ref 34, .ref h] (setI (setI I 32 (upd (I 32) 6 p)) 32 (upd ((setI I 32 (upd (I 32) 6 p)) 32) 7 z)) (fun v9 J => HGo E (mF E (d + 61) Q) me_X2_expected 20 [(0, .ref 32), (1, .ref h), (2, .int p), (4, .int w)] (v9.toList ++ []) J))
    : HGo E (mF E (d + 61) Q) me_X2_expected 0 [(0, .ref 32), (1, .ref h), (2, .int p), (3, .int z), (4, .int w)] [] I := by
  refine h_aload_n dX2_expected_0 rfl 0 rfl ?_
  refine h_iload_n dX2_expected_1 rfl 2 rfl ?_
  refine pf_1_6 dX2_expected_2 hl_X2_117 nl_32 zk_32 ?_
  refine h_aload_n dX2_expected_5 rfl 0 rfl ?_
  refine h_iload_n dX2_expected_6 rfl 3 rfl ?_
  refine pf_1_7 dX2_expected_7 hl_X2_120 nl_32 zk_32 ?_
  refine h_aload_n dX2_expected_10 rfl 0 rfl ?_
  refine gf_1_1 dX2_expected_11 hl_X2_13 nl_32 zk_32 zp_32_1 ?_
  refine h_iconst (v := 0) dX2_expected_14 (by decide) ?_
  refine h_aald13z dX2_expected_15 nl_33 zk_33 (vp_lit (by rw [zn_33]; decide)) zp_33_0 ?_
  refine h_aload_n dX2_expected_16 rfl 1 rfl ?_
  refine h_pick [0, 1, 2, 4] [(0, .ref 32), (1, .ref h), (2, .int p), (4, .int w)] rfl ?_
  refine h_invV (As := [.ref h]) (st := []) dX2_expected_17 lk_X2_53 (h_room (by decide)) nl_34 zk_34 (by decide) rfl rfl rfl (Nat.le_of_ble_eq_true rfl) ?_
  exact k1
set_option maxHeartbeats 1000000 in
set_option maxRecDepth 4000 in
theorem sg_X2_expected_20 {E : HEn} {d : Nat} {Q : Option Value → HIh → Prop} {I : HIh} {h : Nat} {x2 : Int32} {x4 : Int32} (a_h : h < NL) (b_h : Zk h = 3)
    (k1 : HCall E me_X9_visitsLeft (d + 60) [.ref 1, .ref h, .int (15 &&& (((1 : Int32) <<< (x2 &&& 31)) ^^^ (-1)))] I (fun v9 J => HGo E (mF E (d + 61) Q) me_X2_expected 36 [(0, .ref 32), (4, .int x4)] (v9.toList ++ []) J))
    : HGo E (mF E (d + 61) Q) me_X2_expected 20 [(0, .ref 32), (1, .ref h), (2, .int x2), (4, .int x4)] [] I := by
  refine h_aload_n dX2_expected_20 rfl 0 rfl ?_
  refine gf_1_0 dX2_expected_21 hl_X2_29 nl_32 zk_32 zp_32_0 ?_
  refine h_aload_n dX2_expected_24 rfl 1 rfl ?_
  refine h_bipush (v := 15) dX2_expected_25 (by decide) ?_
  refine h_iconst (v := 1) dX2_expected_27 (by decide) ?_
  refine h_iload_n dX2_expected_28 rfl 2 rfl ?_
  refine h_ishl dX2_expected_29 ?_
  refine h_iconst (v := (-1)) dX2_expected_30 (by decide) ?_
  refine h_ixor dX2_expected_31 ?_
  refine h_iand dX2_expected_32 ?_
  refine h_pick [0, 3] [(0, .ref 32), (4, .int x4)] rfl ?_
  refine h_invV (As := [.ref h, .int (15 &&& (((1 : Int32) <<< (x2 &&& 31)) ^^^ (-1)))]) (st := []) dX2_expected_33 lk_X2_123 (h_room (by decide)) nl_1 zk_1 (by decide) rfl rfl rfl (Nat.le_of_ble_eq_true rfl) ?_
  exact k1
set_option maxHeartbeats 1000000 in
set_option maxRecDepth 4000 in
theorem sg_X2_expected_36 {E : HEn} {d : Nat} {Q : Option Value → HIh → Prop} {I : HIh} {x4 : Int32} {s0 : Int32}
    (k1 : HCall E me_X2_weigh (d + 60) [.ref 32, .int 0] I (fun v9 J => HGo E (mF E (d + 61) Q) me_X2_expected 43 [(4, .int x4), (5, .int s0)] (v9.toList ++ []) J))
    : HGo E (mF E (d + 61) Q) me_X2_expected 36 [(0, .ref 32), (4, .int x4)] [.int s0] I := by
  refine h_istore (L' := [(5, .int s0), (0, .ref 32), (4, .int x4)]) dX2_expected_36 (by decide) rfl ?_
  refine h_aload_n dX2_expected_38 rfl 1 rfl ?_
  refine h_iconst (v := 0) dX2_expected_39 (by decide) ?_
  refine h_pick [2, 0] [(4, .int x4), (5, .int s0)] rfl ?_
  refine h_invS (As := [.ref 32, .int 0]) (st := []) dX2_expected_40 lk_X2_126 (h_room (by decide)) rfl rfl (Nat.le_of_ble_eq_true rfl) ?_
  exact k1
set_option maxHeartbeats 1000000 in
set_option maxRecDepth 4000 in
theorem sg_X2_expected_43 {E : HEn} {d : Nat} {Q : Option Value → HIh → Prop} {I : HIh} {x4 : Int32} {x5 : Int32} {s0 : Int64}
    (k1 : HGo E (mF E (d + 61) Q) me_X2_expected 51 [(4, .int x4), (5, .int x5), (6, .long s0), (8, .long 1), (10, .int 0)] [] I)
    : HGo E (mF E (d + 61) Q) me_X2_expected 43 [(4, .int x4), (5, .int x5)] [.long s0] I := by
  refine h_lstore (L' := [(6, .long s0), (4, .int x4), (5, .int x5)]) dX2_expected_43 (by decide) rfl ?_
  refine h_lconst (v := 1) dX2_expected_45 (by decide) ?_
  refine h_lstore (L' := [(8, .long 1), (6, .long s0), (4, .int x4), (5, .int x5)]) dX2_expected_46 (by decide) rfl ?_
  refine h_iconst (v := 0) dX2_expected_48 (by decide) ?_
  refine h_istore (L' := [(10, .int 0), (8, .long 1), (6, .long s0), (4, .int x4), (5, .int x5)]) dX2_expected_49 (by decide) rfl ?_
  refine h_pick [3, 4, 2, 1, 0] [(4, .int x4), (5, .int x5), (6, .long s0), (8, .long 1), (10, .int 0)] rfl ?_
  exact k1
set_option maxHeartbeats 1000000 in
set_option maxRecDepth 4000 in
theorem sg_X2_expected_51 {E : HEn} {d : Nat} {Q : Option Value → HIh → Prop} {I : HIh} {x4 : Int32} {x5 : Int32} {x6 : Int64} {x8 : Int64} {x10 : Int32}
    (k1 : x5 ≤ x10 → HGo E (mF E (d + 61) Q) me_X2_expected 82 [(4, .int x4), (5, .int x5), (6, .long x6), (8, .long x8), (10, .int 0)] [] I)
    (k2 : ¬ x5 ≤ x10 → 10 ≤ x10 → HGo E (mF E (d + 61) Q) me_X2_expected 82 [(4, .int x4), (5, .int x5), (6, .long x6), (8, .long x8), (10, .int 0)] [] I)
    (k3 : ¬ x5 ≤ x10 → ¬ 10 ≤ x10 → HGo E (mF E (d + 61) Q) me_X2_expected 51 [(4, .int x4), (5, .int x5), (6, .long x6), (8, .long (x8 * 10)), (10, .int (x10 + 1))] [] I)
    : HGo E (mF E (d + 61) Q) me_X2_expected 51 [(4, .int x4), (5, .int x5), (6, .long x6), (8, .long x8), (10, .int x10)] [] I := by
  refine h_iload dX2_expected_51 4 rfl ?_
  refine h_iload dX2_expected_53 1 rfl ?_
  refine h_icmp_ge (tgt := 79) dX2_expected_55 (by decide) (fun c1 => ?_) (fun c1 => ?_)
  ·
    refine h_iconst (v := 0) dX2_expected_79 (by decide) ?_
    refine h_istore (L' := [(10, .int 0), (4, .int x4), (5, .int x5), (6, .long x6), (8, .long x8)]) dX2_expected_80 (by decide) rfl ?_
    refine h_pick [1, 2, 3, 4, 0] [(4, .int x4), (5, .int x5), (6, .long x6), (8, .long x8), (10, .int 0)] rfl ?_
    exact k1 c1
  ·
    refine h_iload dX2_expected_58 4 rfl ?_
    refine h_bipush (v := 10) dX2_expected_60 (by decide) ?_
    refine h_icmp_ge (tgt := 79) dX2_expected_62 (by decide) (fun c2 => ?_) (fun c2 => ?_)
    ·
      refine h_iconst (v := 0) dX2_expected_79 (by decide) ?_
      refine h_istore (L' := [(10, .int 0), (4, .int x4), (5, .int x5), (6, .long x6), (8, .long x8)]) dX2_expected_80 (by decide) rfl ?_
      refine h_pick [1, 2, 3, 4, 0] [(4, .int x4), (5, .int x5), (6, .long x6), (8, .long x8), (10, .int 0)] rfl ?_
      exact k2 c1 c2
    ·
      refine h_lload dX2_expected_65 3 rfl ?_
      refine h_ldc2 dX2_expected_67 wt_714 rfl ?_
      refine h_lmul dX2_expected_70 ?_
      refine h_lstore (L' := [(8, .long (x8 * 10)), (4, .int x4), (5, .int x5), (6, .long x6), (10, .int x10)]) dX2_expected_71 (by decide) rfl ?_
      refine h_iinc (v := (x10 + 1)) (L' := [(10, .int (x10 + 1)), (8, .long (x8 * 10)), (4, .int x4), (5, .int x5), (6, .long x6)]) dX2_expected_73 4 rfl rfl (by decide) rfl ?_
      refine h_goto (tgt := 51) dX2_expected_76 (by decide) ?_
      refine h_pick [2, 3, 4, 1, 0] [(4, .int x4), (5, .int x5), (6, .long x6), (8, .long (x8 * 10)), (10, .int (x10 + 1))] rfl ?_
      exact k3 c1 c2
set_option maxHeartbeats 1000000 in
set_option maxRecDepth 4000 in
theorem sg_X2_expected_82 {E : HEn} {d : Nat} {Q : Option Value → HIh → Prop} {I : HIh} {x4 : Int32} {x5 : Int32} {x6 : Int64} {x8 : Int64} {x10 : Int32}
    (k1 : x5 ≤ x10 → ¬ x4 = 0 → Q (some (.long x8)) I)
    (k2 : x5 ≤ x10 → x4 = 0 → Q (some (.long x6)) I)
    (k3 : ¬ x5 ≤ x10 → 10 ≤ x10 → ¬ x4 = 0 → Q (some (.long x8)) I)
    (k4 : ¬ x5 ≤ x10 → 10 ≤ x10 → x4 = 0 → Q (some (.long x6)) I)
    (k5 : ¬ x5 ≤ x10 → ¬ 10 ≤ x10 → ¬ (lg_cmp (x6 - x6 / 2 * 2) 0) = 0 → ¬ (lg_cmp (x6 - x6 / 5 * 5) 0) = 0 → HGo E (mF E (d + 61) Q) me_X2_expected 82 [(4, .int x4), (5, .int x5), (6, .long x6), (8, .long x8), (10, .int (x10 + 1))] [] I)
    (k6 : ¬ x5 ≤ x10 → ¬ 10 ≤ x10 → ¬ (lg_cmp (x6 - x6 / 2 * 2) 0) = 0 → (lg_cmp (x6 - x6 / 5 * 5) 0) = 0 → HGo E (mF E (d + 61) Q) me_X2_expected 82 [(4, .int x4), (5, .int x5), (6, .long (x6 / 5)), (8, .long (x8 / 5)), (10, .int (x10 + 1))] [] I)
    (k7 : ¬ x5 ≤ x10 → ¬ 10 ≤ x10 → (lg_cmp (x6 - x6 / 2 * 2) 0) = 0 → ¬ (lg_cmp ((x6 / 2) - (x6 / 2) / 5 * 5) 0) = 0 → HGo E (mF E (d + 61) Q) me_X2_expected 82 [(4, .int x4), (5, .int x5), (6, .long (x6 / 2)), (8, .long (x8 / 2)), (10, .int (x10 + 1))] [] I)
    (k8 : ¬ x5 ≤ x10 → ¬ 10 ≤ x10 → (lg_cmp (x6 - x6 / 2 * 2) 0) = 0 → (lg_cmp ((x6 / 2) - (x6 / 2) / 5 * 5) 0) = 0 → HGo E (mF E (d + 61) Q) me_X2_expected 82 [(4, .int x4), (5, .int x5), (6, .long ((x6 / 2) / 5)), (8, .long ((x8 / 2) / 5)), (10, .int (x10 + 1))] [] I)
    : HGo E (mF E (d + 61) Q) me_X2_expected 82 [(4, .int x4), (5, .int x5), (6, .long x6), (8, .long x8), (10, .int x10)] [] I := by
  refine h_iload dX2_expected_82 4 rfl ?_
  refine h_iload dX2_expected_84 1 rfl ?_
  refine h_icmp_ge (tgt := 156) dX2_expected_86 (by decide) (fun c1 => ?_) (fun c1 => ?_)
  ·
    refine h_iload dX2_expected_156 0 rfl ?_
    refine h_if_ne (tgt := 166) dX2_expected_158 (by decide) (fun c2 => ?_) (fun c2 => ?_)
    ·
      refine h_lload dX2_expected_166 3 rfl ?_
      exact h_lret dX2_expected_168 rfl (k1 c1 c2)
    ·
      refine h_lload dX2_expected_161 2 rfl ?_
      refine h_goto (tgt := 168) dX2_expected_163 (by decide) ?_
      exact h_lret dX2_expected_168 rfl (k2 c1 c2)
  ·
    refine h_iload dX2_expected_89 4 rfl ?_
    refine h_bipush (v := 10) dX2_expected_91 (by decide) ?_
    refine h_icmp_ge (tgt := 156) dX2_expected_93 (by decide) (fun c3 => ?_) (fun c3 => ?_)
    ·
      refine h_iload dX2_expected_156 0 rfl ?_
      refine h_if_ne (tgt := 166) dX2_expected_158 (by decide) (fun c4 => ?_) (fun c4 => ?_)
      ·
        refine h_lload dX2_expected_166 3 rfl ?_
        exact h_lret dX2_expected_168 rfl (k3 c1 c3 c4)
      ·
        refine h_lload dX2_expected_161 2 rfl ?_
        refine h_goto (tgt := 168) dX2_expected_163 (by decide) ?_
        exact h_lret dX2_expected_168 rfl (k4 c1 c3 c4)
    ·
      refine h_lload dX2_expected_96 2 rfl ?_
      refine h_ldc2 dX2_expected_98 wt_715 rfl ?_
      refine h_lrem dX2_expected_101 (by decide) ?_
      refine h_lconst (v := 0) dX2_expected_102 (by decide) ?_
      refine h_lcmp dX2_expected_103 ?_
      refine h_if_ne (tgt := 123) dX2_expected_104 (by decide) (fun c5 => ?_) (fun c5 => ?_)
      ·
        refine h_lload dX2_expected_123 2 rfl ?_
        refine h_ldc2 dX2_expected_125 wt_716 rfl ?_
        refine h_lrem dX2_expected_128 (by decide) ?_
        refine h_lconst (v := 0) dX2_expected_129 (by decide) ?_
        refine h_lcmp dX2_expected_130 ?_
        refine h_if_ne (tgt := 150) dX2_expected_131 (by decide) (fun c6 => ?_) (fun c6 => ?_)
        ·
          refine h_iinc (v := (x10 + 1)) (L' := [(10, .int (x10 + 1)), (4, .int x4), (5, .int x5), (6, .long x6), (8, .long x8)]) dX2_expected_150 4 rfl rfl (by decide) rfl ?_
          refine h_goto (tgt := 82) dX2_expected_153 (by decide) ?_
          refine h_pick [1, 2, 3, 4, 0] [(4, .int x4), (5, .int x5), (6, .long x6), (8, .long x8), (10, .int (x10 + 1))] rfl ?_
          exact k5 c1 c3 c5 c6
        ·
          refine h_lload dX2_expected_134 2 rfl ?_
          refine h_ldc2 dX2_expected_136 wt_716 rfl ?_
          refine h_ldiv dX2_expected_139 (by decide) ?_
          refine h_lstore (L' := [(6, .long (x6 / 5)), (4, .int x4), (5, .int x5), (8, .long x8), (10, .int x10)]) dX2_expected_140 (by decide) rfl ?_
          refine h_lload dX2_expected_142 3 rfl ?_
          refine h_ldc2 dX2_expected_144 wt_716 rfl ?_
          refine h_ldiv dX2_expected_147 (by decide) ?_
          refine h_lstore (L' := [(8, .long (x8 / 5)), (6, .long (x6 / 5)), (4, .int x4), (5, .int x5), (10, .int x10)]) dX2_expected_148 (by decide) rfl ?_
          refine h_iinc (v := (x10 + 1)) (L' := [(10, .int (x10 + 1)), (8, .long (x8 / 5)), (6, .long (x6 / 5)), (4, .int x4), (5, .int x5)]) dX2_expected_150 4 rfl rfl (by decide) rfl ?_
          refine h_goto (tgt := 82) dX2_expected_153 (by decide) ?_
          refine h_pick [3, 4, 2, 1, 0] [(4, .int x4), (5, .int x5), (6, .long (x6 / 5)), (8, .long (x8 / 5)), (10, .int (x10 + 1))] rfl ?_
          exact k6 c1 c3 c5 c6
      ·
        refine h_lload dX2_expected_107 2 rfl ?_
        refine h_ldc2 dX2_expected_109 wt_715 rfl ?_
        refine h_ldiv dX2_expected_112 (by decide) ?_
        refine h_lstore (L' := [(6, .long (x6 / 2)), (4, .int x4), (5, .int x5), (8, .long x8), (10, .int x10)]) dX2_expected_113 (by decide) rfl ?_
        refine h_lload dX2_expected_115 3 rfl ?_
        refine h_ldc2 dX2_expected_117 wt_715 rfl ?_
        refine h_ldiv dX2_expected_120 (by decide) ?_
        refine h_lstore (L' := [(8, .long (x8 / 2)), (6, .long (x6 / 2)), (4, .int x4), (5, .int x5), (10, .int x10)]) dX2_expected_121 (by decide) rfl ?_
        refine h_lload dX2_expected_123 1 rfl ?_
        refine h_ldc2 dX2_expected_125 wt_716 rfl ?_
        refine h_lrem dX2_expected_128 (by decide) ?_
        refine h_lconst (v := 0) dX2_expected_129 (by decide) ?_
        refine h_lcmp dX2_expected_130 ?_
        refine h_if_ne (tgt := 150) dX2_expected_131 (by decide) (fun c7 => ?_) (fun c7 => ?_)
        ·
          refine h_iinc (v := (x10 + 1)) (L' := [(10, .int (x10 + 1)), (8, .long (x8 / 2)), (6, .long (x6 / 2)), (4, .int x4), (5, .int x5)]) dX2_expected_150 4 rfl rfl (by decide) rfl ?_
          refine h_goto (tgt := 82) dX2_expected_153 (by decide) ?_
          refine h_pick [3, 4, 2, 1, 0] [(4, .int x4), (5, .int x5), (6, .long (x6 / 2)), (8, .long (x8 / 2)), (10, .int (x10 + 1))] rfl ?_
          exact k7 c1 c3 c5 c7
        ·
          refine h_lload dX2_expected_134 1 rfl ?_
          refine h_ldc2 dX2_expected_136 wt_716 rfl ?_
          refine h_ldiv dX2_expected_139 (by decide) ?_
          refine h_lstore (L' := [(6, .long ((x6 / 2) / 5)), (8, .long (x8 / 2)), (4, .int x4), (5, .int x5), (10, .int x10)]) dX2_expected_140 (by decide) rfl ?_
          refine h_lload dX2_expected_142 1 rfl ?_
          refine h_ldc2 dX2_expected_144 wt_716 rfl ?_
          refine h_ldiv dX2_expected_147 (by decide) ?_
          refine h_lstore (L' := [(8, .long ((x8 / 2) / 5)), (6, .long ((x6 / 2) / 5)), (4, .int x4), (5, .int x5), (10, .int x10)]) dX2_expected_148 (by decide) rfl ?_
          refine h_iinc (v := (x10 + 1)) (L' := [(10, .int (x10 + 1)), (8, .long ((x8 / 2) / 5)), (6, .long ((x6 / 2) / 5)), (4, .int x4), (5, .int x5)]) dX2_expected_150 4 rfl rfl (by decide) rfl ?_
          refine h_goto (tgt := 82) dX2_expected_153 (by decide) ?_
          refine h_pick [3, 4, 2, 1, 0] [(4, .int x4), (5, .int x5), (6, .long ((x6 / 2) / 5)), (8, .long ((x8 / 2) / 5)), (10, .int (x10 + 1))] rfl ?_
          exact k8 c1 c3 c5 c7
set_option maxHeartbeats 1000000 in
set_option maxRecDepth 4000 in
theorem sg_X2_weigh_0 {E : HEn} {d : Nat} {Q : Option Value → HIh → Prop} {I : HIh} {h : Nat} {v : Int32} (a_h : h < NL) (b_h : Zk h = 3) (hs_h : Zp 33 v.toNatClampNeg = h)
    (k1 : v < 0 → Q (some (.long 0)) I)
    (k2 : ¬ v < 0 → v < 11 → vp_in v 11)
    (k3 : ¬ v < 0 → v < 11 → HGo E (mF E (d + 1) Q) me_X2_weigh 27 [(0, .ref 32), (1, .int v), (2, .ref h), (3, .long 1), (5, .int (I h 1))] [] I)
    (k4 : ¬ v < 0 → ¬ v < 11 → Q (some (.long 0)) I)
    : HGo E (mF E (d + 1) Q) me_X2_weigh 0 [(0, .ref 32), (1, .int v)] [] I := by
  refine h_iload_n dX2_weigh_0 rfl 1 rfl ?_
  refine h_if_lt (tgt := 10) dX2_weigh_1 (by decide) (fun c1 => ?_) (fun c1 => ?_)
  ·
    refine h_lconst (v := 0) dX2_weigh_10 (by decide) ?_
    exact h_lret dX2_weigh_11 rfl (k1 c1)
  ·
    refine h_iload_n dX2_weigh_4 rfl 1 rfl ?_
    refine h_bipush (v := 11) dX2_weigh_5 (by decide) ?_
    refine h_icmp_lt (tgt := 12) dX2_weigh_7 (by decide) (fun c2 => ?_) (fun c2 => ?_)
    ·
      refine h_aload_n dX2_weigh_12 rfl 0 rfl ?_
      refine gf_1_1 dX2_weigh_13 hl_X2_13 nl_32 zk_32 zp_32_1 ?_
      refine h_iload_n dX2_weigh_16 rfl 1 rfl ?_
      refine h_aald13z dX2_weigh_17 nl_33 zk_33 (by rw [zn_33]; exact k2 c1 c2) hs_h ?_
      refine h_astore_n (L' := [(2, .ref h), (0, .ref 32), (1, .int v)]) dX2_weigh_18 rfl (by decide) rfl ?_
      refine h_lconst (v := 1) dX2_weigh_19 (by decide) ?_
      refine h_lstore_n (L' := [(3, .long 1), (2, .ref h), (0, .ref 32), (1, .int v)]) dX2_weigh_20 rfl (by decide) rfl ?_
      refine h_aload_n dX2_weigh_21 rfl 1 rfl ?_
      refine gf_3_1 dX2_weigh_22 hl_X2_37 a_h b_h ?_
      refine h_istore (L' := [(5, .int (I h 1)), (3, .long 1), (2, .ref h), (0, .ref 32), (1, .int v)]) dX2_weigh_25 (by decide) rfl ?_
      refine h_pick [3, 4, 2, 1, 0] [(0, .ref 32), (1, .int v), (2, .ref h), (3, .long 1), (5, .int (I h 1))] rfl ?_
      exact k3 c1 c2
    ·
      refine h_lconst (v := 0) dX2_weigh_10 (by decide) ?_
      exact h_lret dX2_weigh_11 rfl (k4 c1 c2)
set_option maxHeartbeats 1000000 in
set_option maxRecDepth 4000 in
theorem sg_X2_weigh_27 {E : HEn} {d : Nat} {Q : Option Value → HIh → Prop} {I : HIh} {h : Nat} {x1 : Int32} {x3 : Int64} {x5 : Int32} (a_h : h < NL) (b_h : Zk h = 3)
    (k1 : (I 1 10) ≤ x5 → HCall E me_X9_wealth d [.ref 1, .ref h, .int (I 32 6)] I (fun v9 J => HGo E (mF E (d + 1) Q) me_X2_weigh 167 [] (v9.toList ++ [.long x3]) J))
    (k2 : ¬ (I 1 10) ≤ x5 → HCall E me_X9_visitor d [.ref 1, .int x5] I (fun v9 J => HGo E (mF E (d + 1) Q) me_X2_weigh 48 [(0, .ref 32), (1, .int x1), (2, .ref h), (3, .long x3), (5, .int x5)] (v9.toList ++ []) J))
    : HGo E (mF E (d + 1) Q) me_X2_weigh 27 [(0, .ref 32), (1, .int x1), (2, .ref h), (3, .long x3), (5, .int x5)] [] I := by
  refine h_iload dX2_weigh_27 4 rfl ?_
  refine h_aload_n dX2_weigh_29 rfl 0 rfl ?_
  refine gf_1_0 dX2_weigh_30 hl_X2_29 nl_32 zk_32 zp_32_0 ?_
  refine gf_7_10 dX2_weigh_33 hl_X2_40 nl_1 zk_1 ?_
  refine h_icmp_ge (tgt := 154) dX2_weigh_36 (by decide) (fun c1 => ?_) (fun c1 => ?_)
  ·
    refine h_lload_n dX2_weigh_154 rfl 3 rfl ?_
    refine h_aload_n dX2_weigh_155 rfl 0 rfl ?_
    refine gf_1_0 dX2_weigh_156 hl_X2_29 nl_32 zk_32 zp_32_0 ?_
    refine h_aload_n dX2_weigh_159 rfl 2 rfl ?_
    refine h_aload_n dX2_weigh_160 rfl 0 rfl ?_
    refine gf_1_6 dX2_weigh_161 hl_X2_117 nl_32 zk_32 ?_
    refine h_pick [] [] rfl ?_
    refine h_invV (As := [.ref h, .int (I 32 6)]) (st := [.long x3]) dX2_weigh_164 lk_X2_107 (h_room (by decide)) nl_1 zk_1 (by decide) rfl rfl rfl (Nat.le_of_ble_eq_true rfl) ?_
    exact k1 c1
  ·
    refine h_aload_n dX2_weigh_39 rfl 0 rfl ?_
    refine gf_1_0 dX2_weigh_40 hl_X2_29 nl_32 zk_32 zp_32_0 ?_
    refine h_iload dX2_weigh_43 4 rfl ?_
    refine h_invV (As := [.int x5]) (st := []) dX2_weigh_45 lk_X2_45 (h_room (by decide)) nl_1 zk_1 (by decide) rfl rfl rfl (Nat.le_of_ble_eq_true rfl) ?_
    exact k2 c1
set_option maxHeartbeats 1000000 in
set_option maxRecDepth 4000 in
theorem sg_X2_weigh_167 {E : HEn} {d : Nat} {Q : Option Value → HIh → Prop} {I : HIh} {s0 : Int32} {s1 : Int64}
    (k1 : Q (some (.long (s1 * s0.toInt64))) I)
    : HGo E (mF E (d + 1) Q) me_X2_weigh 167 [] [.int s0, .long s1] I := by
  refine h_i2l dX2_weigh_167 ?_
  refine h_lmul dX2_weigh_168 ?_
  exact h_lret dX2_weigh_169 rfl (k1)
set_option maxHeartbeats 1000000 in
set_option maxRecDepth 4000 in
theorem sg_X2_weigh_48 {E : HEn} {d : Nat} {Q : Option Value → HIh → Prop} {I : HIh} {h : Nat} {x1 : Int32} {x3 : Int64} {x5 : Int32} {s0 : Int32} (a_h : h < NL) (b_h : Zk h = 3)
    (k1 : ¬ s0 = (I 32 6) → HCall E me_X9_habitual d [.ref 1, .ref h] I (fun v9 J => HGo E (mF E (d + 1) Q) me_X2_weigh 70 [(0, .ref 32), (1, .int x1), (2, .ref h), (3, .long x3), (5, .int x5), (6, .int 0)] (v9.toList ++ []) J))
    (k2 : s0 = (I 32 6) → HCall E me_X9_habitual d [.ref 1, .ref h] I (fun v9 J => HGo E (mF E (d + 1) Q) me_X2_weigh 70 [(0, .ref 32), (1, .int x1), (2, .ref h), (3, .long x3), (5, .int x5), (6, .int 1)] (v9.toList ++ []) J))
    : HGo E (mF E (d + 1) Q) me_X2_weigh 48 [(0, .ref 32), (1, .int x1), (2, .ref h), (3, .long x3), (5, .int x5)] [.int s0] I := by
  refine h_aload_n dX2_weigh_48 rfl 0 rfl ?_
  refine gf_1_6 dX2_weigh_49 hl_X2_117 nl_32 zk_32 ?_
  refine h_icmp_ne (tgt := 59) dX2_weigh_52 (by decide) (fun c1 => ?_) (fun c1 => ?_)
  ·
    refine h_iconst (v := 0) dX2_weigh_59 (by decide) ?_
    refine h_istore (L' := [(6, .int 0), (0, .ref 32), (1, .int x1), (2, .ref h), (3, .long x3), (5, .int x5)]) dX2_weigh_60 (by decide) rfl ?_
    refine h_aload_n dX2_weigh_62 rfl 1 rfl ?_
    refine gf_1_0 dX2_weigh_63 hl_X2_29 nl_32 zk_32 zp_32_0 ?_
    refine h_aload_n dX2_weigh_66 rfl 3 rfl ?_
    refine h_pick [1, 2, 3, 4, 5, 0] [(0, .ref 32), (1, .int x1), (2, .ref h), (3, .long x3), (5, .int x5), (6, .int 0)] rfl ?_
    refine h_invV (As := [.ref h]) (st := []) dX2_weigh_67 lk_X2_67 (h_room (by decide)) nl_1 zk_1 (by decide) rfl rfl rfl (Nat.le_of_ble_eq_true rfl) ?_
    exact k1 c1
  ·
    refine h_iconst (v := 1) dX2_weigh_55 (by decide) ?_
    refine h_goto (tgt := 60) dX2_weigh_56 (by decide) ?_
    refine h_istore (L' := [(6, .int 1), (0, .ref 32), (1, .int x1), (2, .ref h), (3, .long x3), (5, .int x5)]) dX2_weigh_60 (by decide) rfl ?_
    refine h_aload_n dX2_weigh_62 rfl 1 rfl ?_
    refine gf_1_0 dX2_weigh_63 hl_X2_29 nl_32 zk_32 zp_32_0 ?_
    refine h_aload_n dX2_weigh_66 rfl 3 rfl ?_
    refine h_pick [1, 2, 3, 4, 5, 0] [(0, .ref 32), (1, .int x1), (2, .ref h), (3, .long x3), (5, .int x5), (6, .int 1)] rfl ?_
    refine h_invV (As := [.ref h]) (st := []) dX2_weigh_67 lk_X2_67 (h_room (by decide)) nl_1 zk_1 (by decide) rfl rfl rfl (Nat.le_of_ble_eq_true rfl) ?_
    exact k2 c1
set_option maxHeartbeats 1000000 in
set_option maxRecDepth 4000 in
theorem sg_X2_weigh_70 {E : HEn} {d : Nat} {Q : Option Value → HIh → Prop} {I : HIh} {h : Nat} {x1 : Int32} {x3 : Int64} {x5 : Int32} {x6 : Int32} {s0 : Int32} (a_h : h < NL) (b_h : Zk h = 3)
    (k1 : ¬ x6 = 0 → HCall E me_X9_letVisit d [.ref 1, .ref h, .int s0] I (fun v9 J => HGo E (mF E (d + 1) Q) me_X2_weigh 133 [(0, .ref 32), (1, .int x1), (2, .ref h), (3, .long x3), (5, .int x5), (6, .int x6)] (v9.toList ++ []) J))
    (k2 : x6 = 0 → s0 = (-1) → HCall E me_X9_letVisit d [.ref 1, .ref h, .int s0] I (fun v9 J => HGo E (mF E (d + 1) Q) me_X2_weigh 133 [(0, .ref 32), (1, .int x1), (2, .ref h), (3, .long x3), (5, .int x5), (6, .int x6)] (v9.toList ++ []) J))
    (k3 : x6 = 0 → ¬ s0 = (-1) → HCall E me_X2_weighNext d [.ref 32, .int x1, .int (-1)] I (fun v9 J => HGo E (mF E (d + 1) Q) me_X2_weigh 97 [(0, .ref 32), (1, .int x1), (3, .long x3), (7, .int s0)] (v9.toList ++ [.long ((10 - (I 32 7)).toInt64)]) J))
    : HGo E (mF E (d + 1) Q) me_X2_weigh 70 [(0, .ref 32), (1, .int x1), (2, .ref h), (3, .long x3), (5, .int x5), (6, .int x6)] [.int s0] I := by
  refine h_istore (L' := [(7, .int s0), (0, .ref 32), (1, .int x1), (2, .ref h), (3, .long x3), (5, .int x5), (6, .int x6)]) dX2_weigh_70 (by decide) rfl ?_
  refine h_iload dX2_weigh_72 6 rfl ?_
  refine h_if_ne (tgt := 123) dX2_weigh_74 (by decide) (fun c1 => ?_) (fun c1 => ?_)
  ·
    refine h_aload_n dX2_weigh_123 rfl 1 rfl ?_
    refine gf_1_0 dX2_weigh_124 hl_X2_29 nl_32 zk_32 zp_32_0 ?_
    refine h_aload_n dX2_weigh_127 rfl 3 rfl ?_
    refine h_iload dX2_weigh_128 0 rfl ?_
    refine h_pick [1, 2, 3, 4, 5, 6] [(0, .ref 32), (1, .int x1), (2, .ref h), (3, .long x3), (5, .int x5), (6, .int x6)] rfl ?_
    refine h_invV (As := [.ref h, .int s0]) (st := []) dX2_weigh_130 lk_X2_71 (h_room (by decide)) nl_1 zk_1 (by decide) rfl rfl rfl (Nat.le_of_ble_eq_true rfl) ?_
    exact k1 c1
  ·
    refine h_iload dX2_weigh_77 0 rfl ?_
    refine h_iconst (v := (-1)) dX2_weigh_79 (by decide) ?_
    refine h_icmp_eq (tgt := 123) dX2_weigh_80 (by decide) (fun c2 => ?_) (fun c2 => ?_)
    ·
      refine h_aload_n dX2_weigh_123 rfl 1 rfl ?_
      refine gf_1_0 dX2_weigh_124 hl_X2_29 nl_32 zk_32 zp_32_0 ?_
      refine h_aload_n dX2_weigh_127 rfl 3 rfl ?_
      refine h_iload dX2_weigh_128 0 rfl ?_
      refine h_pick [1, 2, 3, 4, 5, 6] [(0, .ref 32), (1, .int x1), (2, .ref h), (3, .long x3), (5, .int x5), (6, .int x6)] rfl ?_
      refine h_invV (As := [.ref h, .int s0]) (st := []) dX2_weigh_130 lk_X2_71 (h_room (by decide)) nl_1 zk_1 (by decide) rfl rfl rfl (Nat.le_of_ble_eq_true rfl) ?_
      exact k2 c1 c2
    ·
      refine h_bipush (v := 10) dX2_weigh_83 (by decide) ?_
      refine h_aload_n dX2_weigh_85 rfl 1 rfl ?_
      refine gf_1_7 dX2_weigh_86 hl_X2_120 nl_32 zk_32 ?_
      refine h_isub dX2_weigh_89 ?_
      refine h_i2l dX2_weigh_90 ?_
      refine h_aload_n dX2_weigh_91 rfl 1 rfl ?_
      refine h_iload_n dX2_weigh_92 rfl 2 rfl ?_
      refine h_iconst (v := (-1)) dX2_weigh_93 (by decide) ?_
      refine h_pick [1, 2, 4, 0] [(0, .ref 32), (1, .int x1), (3, .long x3), (7, .int s0)] rfl ?_
      refine h_invS (As := [.ref 32, .int x1, .int (-1)]) (st := [.long ((10 - (I 32 7)).toInt64)]) dX2_weigh_94 lk_X2_136 (h_room (by decide)) rfl rfl (Nat.le_of_ble_eq_true rfl) ?_
      exact k3 c1 c2
set_option maxHeartbeats 1000000 in
set_option maxRecDepth 4000 in
theorem sg_X2_weigh_133 {E : HEn} {d : Nat} {Q : Option Value → HIh → Prop} {I : HIh} {h : Nat} {x1 : Int32} {x3 : Int64} {x5 : Int32} {x6 : Int32} (a_h : h < NL) (b_h : Zk h = 3)
    (k1 : x6 = 0 → HGo E (mF E (d + 1) Q) me_X2_weigh 27 [(0, .ref 32), (1, .int x1), (2, .ref h), (3, .long (x3 * 10)), (5, .int (x5 + 1))] [] I)
    (k2 : ¬ x6 = 0 → HGo E (mF E (d + 1) Q) me_X2_weigh 27 [(0, .ref 32), (1, .int x1), (2, .ref h), (3, .long (x3 * 1)), (5, .int (x5 + 1))] [] I)
    : HGo E (mF E (d + 1) Q) me_X2_weigh 133 [(0, .ref 32), (1, .int x1), (2, .ref h), (3, .long x3), (5, .int x5), (6, .int x6)] [] I := by
  refine h_lload_n dX2_weigh_133 rfl 3 rfl ?_
  refine h_iload dX2_weigh_134 5 rfl ?_
  refine h_if_eq (tgt := 143) dX2_weigh_136 (by decide) (fun c1 => ?_) (fun c1 => ?_)
  ·
    refine h_ldc2 dX2_weigh_143 wt_714 rfl ?_
    refine h_lmul dX2_weigh_146 ?_
    refine h_lstore_n (L' := [(3, .long (x3 * 10)), (0, .ref 32), (1, .int x1), (2, .ref h), (5, .int x5), (6, .int x6)]) dX2_weigh_147 rfl (by decide) rfl ?_
    refine h_iinc (v := (x5 + 1)) (L' := [(5, .int (x5 + 1)), (3, .long (x3 * 10)), (0, .ref 32), (1, .int x1), (2, .ref h), (6, .int x6)]) dX2_weigh_148 4 rfl rfl (by decide) rfl ?_
    refine h_goto (tgt := 27) dX2_weigh_151 (by decide) ?_
    refine h_pick [2, 3, 4, 1, 0] [(0, .ref 32), (1, .int x1), (2, .ref h), (3, .long (x3 * 10)), (5, .int (x5 + 1))] rfl ?_
    exact k1 c1
  ·
    refine h_lconst (v := 1) dX2_weigh_139 (by decide) ?_
    refine h_goto (tgt := 146) dX2_weigh_140 (by decide) ?_
    refine h_lmul dX2_weigh_146 ?_
    refine h_lstore_n (L' := [(3, .long (x3 * 1)), (0, .ref 32), (1, .int x1), (2, .ref h), (5, .int x5), (6, .int x6)]) dX2_weigh_147 rfl (by decide) rfl ?_
    refine h_iinc (v := (x5 + 1)) (L' := [(5, .int (x5 + 1)), (3, .long (x3 * 1)), (0, .ref 32), (1, .int x1), (2, .ref h), (6, .int x6)]) dX2_weigh_148 4 rfl rfl (by decide) rfl ?_
    refine h_goto (tgt := 27) dX2_weigh_151 (by decide) ?_
    refine h_pick [2, 3, 4, 1, 0] [(0, .ref 32), (1, .int x1), (2, .ref h), (3, .long (x3 * 1)), (5, .int (x5 + 1))] rfl ?_
    exact k2 c1
set_option maxHeartbeats 1000000 in
set_option maxRecDepth 4000 in
theorem sg_X2_weigh_97 {E : HEn} {d : Nat} {Q : Option Value → HIh → Prop} {I : HIh} {x1 : Int32} {x3 : Int64} {x7 : Int32} {s0 : Int64} {s1 : Int64}
    (k1 : HCall E me_X2_weighNext d [.ref 32, .int x1, .int x7] I (fun v9 J => HGo E (mF E (d + 1) Q) me_X2_weigh 112 [(3, .long x3), (8, .long (s1 * s0))] (v9.toList ++ [.long ((I 32 7).toInt64)]) J))
    : HGo E (mF E (d + 1) Q) me_X2_weigh 97 [(0, .ref 32), (1, .int x1), (3, .long x3), (7, .int x7)] [.long s0, .long s1] I := by
  refine h_lmul dX2_weigh_97 ?_
  refine h_lstore (L' := [(8, .long (s1 * s0)), (0, .ref 32), (1, .int x1), (3, .long x3), (7, .int x7)]) dX2_weigh_98 (by decide) rfl ?_
  refine h_aload_n dX2_weigh_100 rfl 1 rfl ?_
  refine gf_1_7 dX2_weigh_101 hl_X2_120 nl_32 zk_32 ?_
  refine h_i2l dX2_weigh_104 ?_
  refine h_aload_n dX2_weigh_105 rfl 1 rfl ?_
  refine h_iload_n dX2_weigh_106 rfl 2 rfl ?_
  refine h_iload dX2_weigh_107 4 rfl ?_
  refine h_pick [3, 0] [(3, .long x3), (8, .long (s1 * s0))] rfl ?_
  refine h_invS (As := [.ref 32, .int x1, .int x7]) (st := [.long ((I 32 7).toInt64)]) dX2_weigh_109 lk_X2_136 (h_room (by decide)) rfl rfl (Nat.le_of_ble_eq_true rfl) ?_
  exact k1
set_option maxHeartbeats 1000000 in
set_option maxRecDepth 4000 in
theorem sg_X2_weigh_112 {E : HEn} {d : Nat} {Q : Option Value → HIh → Prop} {I : HIh} {x3 : Int64} {x8 : Int64} {s0 : Int64} {s1 : Int64}
    (k1 : Q (some (.long (x3 * (x8 + (s1 * s0))))) I)
    : HGo E (mF E (d + 1) Q) me_X2_weigh 112 [(3, .long x3), (8, .long x8)] [.long s0, .long s1] I := by
  refine h_lmul dX2_weigh_112 ?_
  refine h_lstore (L' := [(10, .long (s1 * s0)), (3, .long x3), (8, .long x8)]) dX2_weigh_113 (by decide) rfl ?_
  refine h_lload_n dX2_weigh_115 rfl 1 rfl ?_
  refine h_lload dX2_weigh_116 2 rfl ?_
  refine h_lload dX2_weigh_118 0 rfl ?_
  refine h_ladd dX2_weigh_120 ?_
  refine h_lmul dX2_weigh_121 ?_
  exact h_lret dX2_weigh_122 rfl (k1)
set_option maxHeartbeats 1000000 in
set_option maxRecDepth 4000 in
theorem sg_X2_weighNext_0 {E : HEn} {d : Nat} {Q : Option Value → HIh → Prop} {I : HIh} {h g : Nat} {v : Int32} {k : Int32} (a_h : h < NL) (b_h : Zk h = 3) (a_g : g < NL) (b_g : Zk g = 3) (hs_g : Zp 33 (v + 1).toNatClampNeg = g) (hs_h : Zp 33 v.toNatClampNeg = h)
    (k1 : v < 0 → Q (some (.long 0)) I)
    (k2 : ¬ v < 0 → (v + 1) < 11 → vp_in (v + 1) 11)
    (k3 : ¬ v < 0 → (v + 1) < 11 → vp_in v 11)
    (k4 : ¬ v < 0 → (v + 1) < 11 → HCall E me_X4_copyFrom d [.ref g, .ref h] I (fun v9 J => HGo E (mF E (d + 1) Q) me_X2_weighNext 31 [(0, .ref 32), (1, .int v), (2, .int k)] (v9.toList ++ []) J))
    (k5 : ¬ v < 0 → ¬ (v + 1) < 11 → Q (some (.long 0)) I)
    : HGo E (mF E (d + 1) Q) me_X2_weighNext 0 [(0, .ref 32), (1, .int v), (2, .int k)] [] I := by
  refine h_iload_n dX2_weighNext_0 rfl 1 rfl ?_
  refine h_if_lt (tgt := 12) dX2_weighNext_1 (by decide) (fun c1 => ?_) (fun c1 => ?_)
  ·
    refine h_lconst (v := 0) dX2_weighNext_12 (by decide) ?_
    exact h_lret dX2_weighNext_13 rfl (k1 c1)
  ·
    refine h_iload_n dX2_weighNext_4 rfl 1 rfl ?_
    refine h_iconst (v := 1) dX2_weighNext_5 (by decide) ?_
    refine h_iadd dX2_weighNext_6 ?_
    refine h_bipush (v := 11) dX2_weighNext_7 (by decide) ?_
    refine h_icmp_lt (tgt := 14) dX2_weighNext_9 (by decide) (fun c2 => ?_) (fun c2 => ?_)
    ·
      refine h_aload_n dX2_weighNext_14 rfl 0 rfl ?_
      refine gf_1_1 dX2_weighNext_15 hl_X2_13 nl_32 zk_32 zp_32_1 ?_
      refine h_iload_n dX2_weighNext_18 rfl 1 rfl ?_
      refine h_iconst (v := 1) dX2_weighNext_19 (by decide) ?_
      refine h_iadd dX2_weighNext_20 ?_
      refine h_aald13z dX2_weighNext_21 nl_33 zk_33 (by rw [zn_33]; exact k2 c1 c2) hs_g ?_
      refine h_aload_n dX2_weighNext_22 rfl 0 rfl ?_
      refine gf_1_1 dX2_weighNext_23 hl_X2_13 nl_32 zk_32 zp_32_1 ?_
      refine h_iload_n dX2_weighNext_26 rfl 1 rfl ?_
      refine h_aald13z dX2_weighNext_27 nl_33 zk_33 (by rw [zn_33]; exact k3 c1 c2) hs_h ?_
      refine h_invV (As := [.ref h]) (st := []) dX2_weighNext_28 lk_X2_53 (h_room (by decide)) a_g b_g (by decide) rfl rfl rfl (Nat.le_of_ble_eq_true rfl) ?_
      exact k4 c1 c2
    ·
      refine h_lconst (v := 0) dX2_weighNext_12 (by decide) ?_
      exact h_lret dX2_weighNext_13 rfl (k5 c1 c2)
set_option maxHeartbeats 1000000 in
set_option maxRecDepth 4000 in
theorem sg_X2_weighNext_31 {E : HEn} {d : Nat} {Q : Option Value → HIh → Prop} {I : HIh} {g : Nat} {x1 : Int32} {x2 : Int32} (a_g : g < NL) (b_g : Zk g = 3) (hs_g : Zp 33 (x1 + 1).toNatClampNeg = g)
    (k1 : vp_in (x1 + 1) 11)
    (k2 : HCall E me_X9_letVisit d [.ref 1, .ref g, .int x2] I (fun v9 J => HGo E (mF E (d + 1) Q) me_X2_weighNext 47 [(0, .ref 32), (1, .int x1)] (v9.toList ++ []) J))
    : HGo E (mF E (d + 1) Q) me_X2_weighNext 31 [(0, .ref 32), (1, .int x1), (2, .int x2)] [] I := by
  refine h_aload_n dX2_weighNext_31 rfl 0 rfl ?_
  refine gf_1_0 dX2_weighNext_32 hl_X2_29 nl_32 zk_32 zp_32_0 ?_
  refine h_aload_n dX2_weighNext_35 rfl 0 rfl ?_
  refine gf_1_1 dX2_weighNext_36 hl_X2_13 nl_32 zk_32 zp_32_1 ?_
  refine h_iload_n dX2_weighNext_39 rfl 1 rfl ?_
  refine h_iconst (v := 1) dX2_weighNext_40 (by decide) ?_
  refine h_iadd dX2_weighNext_41 ?_
  refine h_aald13z dX2_weighNext_42 nl_33 zk_33 (by rw [zn_33]; exact k1) hs_g ?_
  refine h_iload_n dX2_weighNext_43 rfl 2 rfl ?_
  refine h_pick [0, 1] [(0, .ref 32), (1, .int x1)] rfl ?_
  refine h_invV (As := [.ref g, .int x2]) (st := []) dX2_weighNext_44 lk_X2_71 (h_room (by decide)) nl_1 zk_1 (by decide) rfl rfl rfl (Nat.le_of_ble_eq_true rfl) ?_
  exact k2
set_option maxHeartbeats 1000000 in
set_option maxRecDepth 4000 in
theorem sg_X2_weighNext_47 {E : HEn} {d : Nat} {Q : Option Value → HIh → Prop} {I : HIh} {x1 : Int32}
    (k1 : HCall E me_X2_weigh d [.ref 32, .int (x1 + 1)] I (fun v9 J => HGo E (mF E (d + 1) Q) me_X2_weighNext 54 [] (v9.toList ++ []) J))
    : HGo E (mF E (d + 1) Q) me_X2_weighNext 47 [(0, .ref 32), (1, .int x1)] [] I := by
  refine h_aload_n dX2_weighNext_47 rfl 0 rfl ?_
  refine h_iload_n dX2_weighNext_48 rfl 1 rfl ?_
  refine h_iconst (v := 1) dX2_weighNext_49 (by decide) ?_
  refine h_iadd dX2_weighNext_50 ?_
  refine h_pick [] [] rfl ?_
  refine h_invS (As := [.ref 32, .int (x1 + 1)]) (st := []) dX2_weighNext_51 lk_X2_126 (h_room (by decide)) rfl rfl (Nat.le_of_ble_eq_true rfl) ?_
  exact k1
set_option maxHeartbeats 1000000 in
set_option maxRecDepth 4000 in
theorem sg_X2_weighNext_54 {E : HEn} {d : Nat} {Q : Option Value → HIh → Prop} {I : HIh} {s0 : Int64}
    (k1 : Q (some (.long s0)) I)
    : HGo E (mF E (d + 1) Q) me_X2_weighNext 54 [] [.long s0] I := by
  exact h_lret dX2_weighNext_54 rfl (k1)
set_option maxHeartbeats 1000000 in
set_option maxRecDepth 4000 in
theorem sg_X2_tillDry_0 {E : HEn} {d : Nat} {Q : Option Value → HIh → Prop} {I : HIh} {h : Nat} (a_h : h < NL) (b_h : Zk h = 3)
    (k1 : HCall E me_X4_copyFrom (d + 4) [.ref 34, .ref h] I (fun v9 J => HGo E (mF E (d + 5) Q) me_X2_tillDry 12 [(0, .ref 32), (2, .ref 34)] (v9.toList ++ []) J))
    : HGo E (mF E (d + 5) Q) me_X2_tillDry 0 [(0, .ref 32), (1, .ref h)] [] I := by
  refine h_aload_n dX2_tillDry_0 rfl 0 rfl ?_
  refine gf_1_1 dX2_tillDry_1 hl_X2_13 nl_32 zk_32 zp_32_1 ?_
  refine h_iconst (v := 0) dX2_tillDry_4 (by decide) ?_
  refine h_aald13z dX2_tillDry_5 nl_33 zk_33 (vp_lit (by rw [zn_33]; decide)) zp_33_0 ?_
  refine h_astore_n (L' := [(2, .ref 34), (0, .ref 32), (1, .ref h)]) dX2_tillDry_6 rfl (by decide) rfl ?_
  refine h_aload_n dX2_tillDry_7 rfl 0 rfl ?_
  refine h_aload_n dX2_tillDry_8 rfl 2 rfl ?_
  refine h_pick [1, 0] [(0, .ref 32), (2, .ref 34)] rfl ?_
  refine h_invV (As := [.ref h]) (st := []) dX2_tillDry_9 lk_X2_53 (h_room (by decide)) nl_34 zk_34 (by decide) rfl rfl rfl (Nat.le_of_ble_eq_true rfl) ?_
  exact k1
set_option maxHeartbeats 1000000 in
set_option maxRecDepth 4000 in
theorem sg_X2_tillDry_12 {E : HEn} {d : Nat} {Q : Option Value → HIh → Prop} {I : HIh} 
    (k1 : HGo E (mF E (d + 5) Q) me_X2_tillDry 17 [(0, .ref 32), (2, .ref 34), (3, .int 0), (4, .int 1)] [] I)
    : HGo E (mF E (d + 5) Q) me_X2_tillDry 12 [(0, .ref 32), (2, .ref 34)] [] I := by
  refine h_iconst (v := 0) dX2_tillDry_12 (by decide) ?_
  refine h_istore_n (L' := [(3, .int 0), (0, .ref 32), (2, .ref 34)]) dX2_tillDry_13 rfl (by decide) rfl ?_
  refine h_iconst (v := 1) dX2_tillDry_14 (by decide) ?_
  refine h_istore (L' := [(4, .int 1), (3, .int 0), (0, .ref 32), (2, .ref 34)]) dX2_tillDry_15 (by decide) rfl ?_
  refine h_pick [2, 3, 1, 0] [(0, .ref 32), (2, .ref 34), (3, .int 0), (4, .int 1)] rfl ?_
  exact k1
set_option maxHeartbeats 1000000 in
set_option maxRecDepth 4000 in
theorem sg_X2_tillDry_17 {E : HEn} {d : Nat} {Q : Option Value → HIh → Prop} {I : HIh} {x3 : Int32} {x4 : Int32}
    (k1 : 200 < x4 → Q (some (.int (-1))) I)
    (k2 : ¬ 200 < x4 → (I 1 10) ≤ 0 → Q (some (.int (-1))) I)
    (k3 : ¬ 200 < x4 → ¬ (I 1 10) ≤ 0 → (I 34 1) < (I 1 10) → HCall E me_X9_habitual (d + 4) [.ref 1, .ref 34] I (fun v9 J => HGo E (mF E (d + 5) Q) me_X2_tillDry 62 [(0, .ref 32), (2, .ref 34), (3, .int x3), (4, .int x4)] (v9.toList ++ []) J))
    (k4 : ¬ 200 < x4 → ¬ (I 1 10) ≤ 0 → ¬ (I 34 1) < (I 1 10) → HCall E me_X9_habitual (d + 4) [.ref 1, .ref 34] (setI I 34 (upd (I 34) 1 0)) (fun v9 J => HGo E (mF E (d + 5) Q) me_X2_tillDry 62 [(0, .ref 32), (2, .ref 34), (3, .int x3), (4, .int x4)] (v9.toList ++ []) J))
    : HGo E (mF E (d + 5) Q) me_X2_tillDry 17 [(0, .ref 32), (2, .ref 34), (3, .int x3), (4, .int x4)] [] I := by
  refine h_iload dX2_tillDry_17 3 rfl ?_
  refine h_sipush (v := 200) dX2_tillDry_19 (by decide) ?_
  refine h_icmp_gt (tgt := 108) dX2_tillDry_22 (by decide) (fun c1 => ?_) (fun c1 => ?_)
  ·
    refine h_iconst (v := (-1)) dX2_tillDry_108 (by decide) ?_
    exact h_iret dX2_tillDry_109 rfl (k1 c1)
  ·
    refine h_aload_n dX2_tillDry_25 rfl 0 rfl ?_
    refine gf_1_0 dX2_tillDry_26 hl_X2_29 nl_32 zk_32 zp_32_0 ?_
    refine gf_7_10 dX2_tillDry_29 hl_X2_40 nl_1 zk_1 ?_
    refine h_if_le (tgt := 108) dX2_tillDry_32 (by decide) (fun c2 => ?_) (fun c2 => ?_)
    ·
      refine h_iconst (v := (-1)) dX2_tillDry_108 (by decide) ?_
      exact h_iret dX2_tillDry_109 rfl (k2 c1 c2)
    ·
      refine h_aload_n dX2_tillDry_35 rfl 1 rfl ?_
      refine gf_3_1 dX2_tillDry_36 hl_X2_37 nl_34 zk_34 ?_
      refine h_aload_n dX2_tillDry_39 rfl 0 rfl ?_
      refine gf_1_0 dX2_tillDry_40 hl_X2_29 nl_32 zk_32 zp_32_0 ?_
      refine gf_7_10 dX2_tillDry_43 hl_X2_40 nl_1 zk_1 ?_
      refine h_icmp_lt (tgt := 54) dX2_tillDry_46 (by decide) (fun c3 => ?_) (fun c3 => ?_)
      ·
        refine h_aload_n dX2_tillDry_54 rfl 0 rfl ?_
        refine gf_1_0 dX2_tillDry_55 hl_X2_29 nl_32 zk_32 zp_32_0 ?_
        refine h_aload_n dX2_tillDry_58 rfl 1 rfl ?_
        refine h_invV (As := [.ref 34]) (st := []) dX2_tillDry_59 lk_X2_67 (h_room (by decide)) nl_1 zk_1 (by decide) rfl rfl rfl (Nat.le_of_ble_eq_true rfl) ?_
        exact k3 c1 c2 c3
      ·
        refine h_aload_n dX2_tillDry_49 rfl 1 rfl ?_
        refine h_iconst (v := 0) dX2_tillDry_50 (by decide) ?_
        refine pf_3_1 dX2_tillDry_51 hl_X2_37 nl_34 zk_34 ?_
        refine h_aload_n dX2_tillDry_54 rfl 0 rfl ?_
        refine gf_1_0 dX2_tillDry_55 hl_X2_29 nl_32 zk_32 zp_32_0 ?_
        refine h_aload_n dX2_tillDry_58 rfl 1 rfl ?_
        refine h_invV (As := [.ref 34]) (st := []) dX2_tillDry_59 lk_X2_67 (h_room (by decide)) nl_1 zk_1 (by decide) rfl rfl rfl (Nat.le_of_ble_eq_true rfl) ?_
        exact k4 c1 c2 c3
set_option maxHeartbeats 1000000 in
set_option maxRecDepth 4000 in
theorem sg_X2_tillDry_62 {E : HEn} {d : Nat} {Q : Option Value → HIh → Prop} {I : HIh} {x3 : Int32} {x4 : Int32} {s0 : Int32}
    (k1 : HCall E me_X9_letVisit (d + 4) [.ref 1, .ref 34, .int s0] I (fun v9 J => HGo E (mF E (d + 5) Q) me_X2_tillDry 74 [(0, .ref 32), (2, .ref 34), (3, .int x3), (4, .int x4), (5, .int s0)] (v9.toList ++ []) J))
    : HGo E (mF E (d + 5) Q) me_X2_tillDry 62 [(0, .ref 32), (2, .ref 34), (3, .int x3), (4, .int x4)] [.int s0] I := by
  refine h_istore (L' := [(5, .int s0), (0, .ref 32), (2, .ref 34), (3, .int x3), (4, .int x4)]) dX2_tillDry_62 (by decide) rfl ?_
  refine h_aload_n dX2_tillDry_64 rfl 1 rfl ?_
  refine gf_1_0 dX2_tillDry_65 hl_X2_29 nl_32 zk_32 zp_32_0 ?_
  refine h_aload_n dX2_tillDry_68 rfl 2 rfl ?_
  refine h_iload dX2_tillDry_69 0 rfl ?_
  refine h_pick [1, 2, 3, 4, 0] [(0, .ref 32), (2, .ref 34), (3, .int x3), (4, .int x4), (5, .int s0)] rfl ?_
  refine h_invV (As := [.ref 34, .int s0]) (st := []) dX2_tillDry_71 lk_X2_71 (h_room (by decide)) nl_1 zk_1 (by decide) rfl rfl rfl (Nat.le_of_ble_eq_true rfl) ?_
  exact k1
set_option maxHeartbeats 1000000 in
set_option maxRecDepth 4000 in
theorem sg_X2_tillDry_74 {E : HEn} {d : Nat} {Q : Option Value → HIh → Prop} {I : HIh} {x3 : Int32} {x4 : Int32} {x5 : Int32}
    (k1 : ¬ x5 = (-1) → ¬ 0 = (I 1 10) → HGo E (mF E (d + 5) Q) me_X2_tillDry 17 [(0, .ref 32), (2, .ref 34), (3, .int 0), (4, .int (x4 + 1))] [] I)
    (k2 : ¬ x5 = (-1) → 0 = (I 1 10) → Q (some (.int x4)) I)
    (k3 : x5 = (-1) → ¬ (x3 + 1) = (I 1 10) → HGo E (mF E (d + 5) Q) me_X2_tillDry 17 [(0, .ref 32), (2, .ref 34), (3, .int (x3 + 1)), (4, .int (x4 + 1))] [] I)
    (k4 : x5 = (-1) → (x3 + 1) = (I 1 10) → Q (some (.int x4)) I)
    : HGo E (mF E (d + 5) Q) me_X2_tillDry 74 [(0, .ref 32), (2, .ref 34), (3, .int x3), (4, .int x4), (5, .int x5)] [] I := by
  refine h_iload dX2_tillDry_74 4 rfl ?_
  refine h_iconst (v := (-1)) dX2_tillDry_76 (by decide) ?_
  refine h_icmp_ne (tgt := 86) dX2_tillDry_77 (by decide) (fun c1 => ?_) (fun c1 => ?_)
  ·
    refine h_iconst (v := 0) dX2_tillDry_86 (by decide) ?_
    refine h_istore_n (L' := [(3, .int 0), (0, .ref 32), (2, .ref 34), (4, .int x4), (5, .int x5)]) dX2_tillDry_87 rfl (by decide) rfl ?_
    refine h_iload_n dX2_tillDry_88 rfl 0 rfl ?_
    refine h_aload_n dX2_tillDry_89 rfl 1 rfl ?_
    refine gf_1_0 dX2_tillDry_90 hl_X2_29 nl_32 zk_32 zp_32_0 ?_
    refine gf_7_10 dX2_tillDry_93 hl_X2_40 nl_1 zk_1 ?_
    refine h_icmp_ne (tgt := 102) dX2_tillDry_96 (by decide) (fun c2 => ?_) (fun c2 => ?_)
    ·
      refine h_iinc (v := (x4 + 1)) (L' := [(4, .int (x4 + 1)), (3, .int 0), (0, .ref 32), (2, .ref 34), (5, .int x5)]) dX2_tillDry_102 3 rfl rfl (by decide) rfl ?_
      refine h_goto (tgt := 17) dX2_tillDry_105 (by decide) ?_
      refine h_pick [2, 3, 1, 0] [(0, .ref 32), (2, .ref 34), (3, .int 0), (4, .int (x4 + 1))] rfl ?_
      exact k1 c1 c2
    ·
      refine h_iload dX2_tillDry_99 3 rfl ?_
      exact h_iret dX2_tillDry_101 rfl (k2 c1 c2)
  ·
    refine h_iload_n dX2_tillDry_80 rfl 2 rfl ?_
    refine h_iconst (v := 1) dX2_tillDry_81 (by decide) ?_
    refine h_iadd dX2_tillDry_82 ?_
    refine h_goto (tgt := 87) dX2_tillDry_83 (by decide) ?_
    refine h_istore_n (L' := [(3, .int (x3 + 1)), (0, .ref 32), (2, .ref 34), (4, .int x4), (5, .int x5)]) dX2_tillDry_87 rfl (by decide) rfl ?_
    refine h_iload_n dX2_tillDry_88 rfl 0 rfl ?_
    refine h_aload_n dX2_tillDry_89 rfl 1 rfl ?_
    refine gf_1_0 dX2_tillDry_90 hl_X2_29 nl_32 zk_32 zp_32_0 ?_
    refine gf_7_10 dX2_tillDry_93 hl_X2_40 nl_1 zk_1 ?_
    refine h_icmp_ne (tgt := 102) dX2_tillDry_96 (by decide) (fun c3 => ?_) (fun c3 => ?_)
    ·
      refine h_iinc (v := (x4 + 1)) (L' := [(4, .int (x4 + 1)), (3, .int (x3 + 1)), (0, .ref 32), (2, .ref 34), (5, .int x5)]) dX2_tillDry_102 3 rfl rfl (by decide) rfl ?_
      refine h_goto (tgt := 17) dX2_tillDry_105 (by decide) ?_
      refine h_pick [2, 3, 1, 0] [(0, .ref 32), (2, .ref 34), (3, .int (x3 + 1)), (4, .int (x4 + 1))] rfl ?_
      exact k3 c1 c3
    ·
      refine h_iload dX2_tillDry_99 3 rfl ?_
      exact h_iret dX2_tillDry_101 rfl (k4 c1 c3)
set_option maxHeartbeats 1000000 in
set_option maxRecDepth 4000 in
theorem sg_X2_leastBait_0 {E : HEn} {d : Nat} {Q : Option Value → HIh → Prop} {I : HIh} {h : Nat} {p : Int32} (a_h : h < NL) (b_h : Zk h = 3)
    (k1 : HCall E me_X4_copyFrom (d + 4) [.ref 34, .ref h] I (fun v9 J => HGo E (mF E (d + 5) Q) me_X2_leastBait 12 [(0, .ref 32), (2, .int p), (3, .int (-1))] (v9.toList ++ []) J))
    : HGo E (mF E (d + 5) Q) me_X2_leastBait 0 [(0, .ref 32), (1, .ref h), (2, .int p)] [] I := by
  refine h_iconst (v := (-1)) dX2_leastBait_0 (by decide) ?_
  refine h_istore_n (L' := [(3, .int (-1)), (0, .ref 32), (1, .ref h), (2, .int p)]) dX2_leastBait_1 rfl (by decide) rfl ?_
  refine h_aload_n dX2_leastBait_2 rfl 1 rfl ?_
  refine gf_1_1 dX2_leastBait_3 hl_X2_13 nl_32 zk_32 zp_32_1 ?_
  refine h_iconst (v := 0) dX2_leastBait_6 (by decide) ?_
  refine h_aald13z dX2_leastBait_7 nl_33 zk_33 (vp_lit (by rw [zn_33]; decide)) zp_33_0 ?_
  refine h_aload_n dX2_leastBait_8 rfl 2 rfl ?_
  refine h_pick [1, 3, 0] [(0, .ref 32), (2, .int p), (3, .int (-1))] rfl ?_
  refine h_invV (As := [.ref h]) (st := []) dX2_leastBait_9 lk_X2_53 (h_room (by decide)) nl_34 zk_34 (by decide) rfl rfl rfl (Nat.le_of_ble_eq_true rfl) ?_
  exact k1
set_option maxHeartbeats 1000000 in
set_option maxRecDepth 4000 in
theorem sg_X2_leastBait_12 {E : HEn} {d : Nat} {Q : Option Value → HIh → Prop} {I : HIh} {x2 : Int32} {x3 : Int32}
    (k1 : HGo E (mF E (d + 5) Q) me_X2_leastBait 15 [(0, .ref 32), (2, .int x2), (3, .int x3), (4, .int (-1))] [] I)
    : HGo E (mF E (d + 5) Q) me_X2_leastBait 12 [(0, .ref 32), (2, .int x2), (3, .int x3)] [] I := by
  refine h_iconst (v := (-1)) dX2_leastBait_12 (by decide) ?_
  refine h_istore (L' := [(4, .int (-1)), (0, .ref 32), (2, .int x2), (3, .int x3)]) dX2_leastBait_13 (by decide) rfl ?_
  refine h_pick [1, 2, 3, 0] [(0, .ref 32), (2, .int x2), (3, .int x3), (4, .int (-1))] rfl ?_
  exact k1
set_option maxHeartbeats 1000000 in
set_option maxRecDepth 4000 in
theorem sg_X2_leastBait_15 {E : HEn} {d : Nat} {Q : Option Value → HIh → Prop} {I : HIh} {x2 : Int32} {x3 : Int32} {x4 : Int32}
    (k1 : (I 1 9) ≤ x4 → Q (some (.int x3)) I)
    (k2 : ¬ (I 1 9) ≤ x4 → HGo E (mF E (d + 5) Q) me_X2_leastBait 31 [(0, .ref 32), (2, .int x2), (3, .int x3), (4, .int x4), (5, .int x4)] [] I)
    : HGo E (mF E (d + 5) Q) me_X2_leastBait 15 [(0, .ref 32), (2, .int x2), (3, .int x3), (4, .int x4)] [] I := by
  refine h_iload dX2_leastBait_15 3 rfl ?_
  refine h_aload_n dX2_leastBait_17 rfl 0 rfl ?_
  refine gf_1_0 dX2_leastBait_18 hl_X2_29 nl_32 zk_32 zp_32_0 ?_
  refine gf_7_9 dX2_leastBait_21 hl_X2_93 nl_1 zk_1 ?_
  refine h_icmp_ge (tgt := 136) dX2_leastBait_24 (by decide) (fun c1 => ?_) (fun c1 => ?_)
  ·
    refine h_iload_n dX2_leastBait_136 rfl 2 rfl ?_
    exact h_iret dX2_leastBait_137 rfl (k1 c1)
  ·
    refine h_iload dX2_leastBait_27 3 rfl ?_
    refine h_istore (L' := [(5, .int x4), (0, .ref 32), (2, .int x2), (3, .int x3), (4, .int x4)]) dX2_leastBait_29 (by decide) rfl ?_
    refine h_pick [1, 2, 3, 4, 0] [(0, .ref 32), (2, .int x2), (3, .int x3), (4, .int x4), (5, .int x4)] rfl ?_
    exact k2 c1
set_option maxHeartbeats 1000000 in
set_option maxRecDepth 4000 in
theorem sg_X2_leastBait_31 {E : HEn} {d : Nat} {Q : Option Value → HIh → Prop} {I : HIh} {x2 : Int32} {x3 : Int32} {x4 : Int32} {x5 : Int32}
    (k1 : (I 1 9) ≤ x5 → HGo E (mF E (d + 5) Q) me_X2_leastBait 15 [(0, .ref 32), (2, .int x2), (3, .int x3), (4, .int (x4 + 1))] [] I)
    (k2 : ¬ (I 1 9) ≤ x5 → HGo E (mF E (d + 5) Q) me_X2_leastBait 47 [(0, .ref 32), (2, .int x2), (3, .int x3), (4, .int x4), (5, .int x5), (6, .int x5)] [] I)
    : HGo E (mF E (d + 5) Q) me_X2_leastBait 31 [(0, .ref 32), (2, .int x2), (3, .int x3), (4, .int x4), (5, .int x5)] [] I := by
  refine h_iload dX2_leastBait_31 4 rfl ?_
  refine h_aload_n dX2_leastBait_33 rfl 0 rfl ?_
  refine gf_1_0 dX2_leastBait_34 hl_X2_29 nl_32 zk_32 zp_32_0 ?_
  refine gf_7_9 dX2_leastBait_37 hl_X2_93 nl_1 zk_1 ?_
  refine h_icmp_ge (tgt := 130) dX2_leastBait_40 (by decide) (fun c1 => ?_) (fun c1 => ?_)
  ·
    refine h_iinc (v := (x4 + 1)) (L' := [(4, .int (x4 + 1)), (0, .ref 32), (2, .int x2), (3, .int x3), (5, .int x5)]) dX2_leastBait_130 3 rfl rfl (by decide) rfl ?_
    refine h_goto (tgt := 15) dX2_leastBait_133 (by decide) ?_
    refine h_pick [1, 2, 3, 0] [(0, .ref 32), (2, .int x2), (3, .int x3), (4, .int (x4 + 1))] rfl ?_
    exact k1 c1
  ·
    refine h_iload dX2_leastBait_43 4 rfl ?_
    refine h_istore (L' := [(6, .int x5), (0, .ref 32), (2, .int x2), (3, .int x3), (4, .int x4), (5, .int x5)]) dX2_leastBait_45 (by decide) rfl ?_
    refine h_pick [1, 2, 3, 4, 5, 0] [(0, .ref 32), (2, .int x2), (3, .int x3), (4, .int x4), (5, .int x5), (6, .int x5)] rfl ?_
    exact k2 c1
set_option maxHeartbeats 1000000 in
set_option maxRecDepth 4000 in
theorem sg_X2_leastBait_47 {E : HEn} {d : Nat} {Q : Option Value → HIh → Prop} {I : HIh} {x2 : Int32} {x3 : Int32} {x4 : Int32} {x5 : Int32} {x6 : Int32}
    (k1 : (I 1 9) ≤ x6 → HGo E (mF E (d + 5) Q) me_X2_leastBait 31 [(0, .ref 32), (2, .int x2), (3, .int x3), (4, .int x4), (5, .int (x5 + 1))] [] I)
    (k2 : ¬ (I 1 9) ≤ x6 → HCall E me_X9_worthOf (d + 4) [.ref 1, .int x4] I (fun v9 J => HGo E (mF E (d + 5) Q) me_X2_leastBait 68 [(0, .ref 32), (2, .int x2), (3, .int x3), (4, .int x4), (5, .int x5), (6, .int x6)] (v9.toList ++ []) J))
    : HGo E (mF E (d + 5) Q) me_X2_leastBait 47 [(0, .ref 32), (2, .int x2), (3, .int x3), (4, .int x4), (5, .int x5), (6, .int x6)] [] I := by
  refine h_iload dX2_leastBait_47 5 rfl ?_
  refine h_aload_n dX2_leastBait_49 rfl 0 rfl ?_
  refine gf_1_0 dX2_leastBait_50 hl_X2_29 nl_32 zk_32 zp_32_0 ?_
  refine gf_7_9 dX2_leastBait_53 hl_X2_93 nl_1 zk_1 ?_
  refine h_icmp_ge (tgt := 124) dX2_leastBait_56 (by decide) (fun c1 => ?_) (fun c1 => ?_)
  ·
    refine h_iinc (v := (x5 + 1)) (L' := [(5, .int (x5 + 1)), (0, .ref 32), (2, .int x2), (3, .int x3), (4, .int x4), (6, .int x6)]) dX2_leastBait_124 4 rfl rfl (by decide) rfl ?_
    refine h_goto (tgt := 31) dX2_leastBait_127 (by decide) ?_
    refine h_pick [1, 2, 3, 4, 0] [(0, .ref 32), (2, .int x2), (3, .int x3), (4, .int x4), (5, .int (x5 + 1))] rfl ?_
    exact k1 c1
  ·
    refine h_aload_n dX2_leastBait_59 rfl 0 rfl ?_
    refine gf_1_0 dX2_leastBait_60 hl_X2_29 nl_32 zk_32 zp_32_0 ?_
    refine h_iload dX2_leastBait_63 3 rfl ?_
    refine h_invV (As := [.int x4]) (st := []) dX2_leastBait_65 lk_X2_140 (h_room (by decide)) nl_1 zk_1 (by decide) rfl rfl rfl (Nat.le_of_ble_eq_true rfl) ?_
    exact k2 c1
set_option maxHeartbeats 1000000 in
set_option maxRecDepth 4000 in
theorem sg_X2_leastBait_68 {E : HEn} {d : Nat} {Q : Option Value → HIh → Prop} {I : HIh} {x2 : Int32} {x3 : Int32} {x4 : Int32} {x5 : Int32} {x6 : Int32} {s0 : Int32}
    (k1 : HCall E me_X9_worthOf (d + 4) [.ref 1, .int x5] I (fun v9 J => HGo E (mF E (d + 5) Q) me_X2_leastBait 77 [(0, .ref 32), (2, .int x2), (3, .int x3), (4, .int x4), (5, .int x5), (6, .int x6)] (v9.toList ++ [.int s0]) J))
    : HGo E (mF E (d + 5) Q) me_X2_leastBait 68 [(0, .ref 32), (2, .int x2), (3, .int x3), (4, .int x4), (5, .int x5), (6, .int x6)] [.int s0] I := by
  refine h_aload_n dX2_leastBait_68 rfl 0 rfl ?_
  refine gf_1_0 dX2_leastBait_69 hl_X2_29 nl_32 zk_32 zp_32_0 ?_
  refine h_iload dX2_leastBait_72 4 rfl ?_
  refine h_invV (As := [.int x5]) (st := [.int s0]) dX2_leastBait_74 lk_X2_140 (h_room (by decide)) nl_1 zk_1 (by decide) rfl rfl rfl (Nat.le_of_ble_eq_true rfl) ?_
  exact k1
set_option maxHeartbeats 1000000 in
set_option maxRecDepth 4000 in
theorem sg_X2_leastBait_77 {E : HEn} {d : Nat} {Q : Option Value → HIh → Prop} {I : HIh} {x2 : Int32} {x3 : Int32} {x4 : Int32} {x5 : Int32} {x6 : Int32} {s0 : Int32} {s1 : Int32}
    (k1 : HCall E me_X9_worthOf (d + 4) [.ref 1, .int x6] I (fun v9 J => HGo E (mF E (d + 5) Q) me_X2_leastBait 87 [(0, .ref 32), (2, .int x2), (3, .int x3), (4, .int x4), (5, .int x5), (6, .int x6)] (v9.toList ++ [.int (s1 + s0)]) J))
    : HGo E (mF E (d + 5) Q) me_X2_leastBait 77 [(0, .ref 32), (2, .int x2), (3, .int x3), (4, .int x4), (5, .int x5), (6, .int x6)] [.int s0, .int s1] I := by
  refine h_iadd dX2_leastBait_77 ?_
  refine h_aload_n dX2_leastBait_78 rfl 0 rfl ?_
  refine gf_1_0 dX2_leastBait_79 hl_X2_29 nl_32 zk_32 zp_32_0 ?_
  refine h_iload dX2_leastBait_82 5 rfl ?_
  refine h_invV (As := [.int x6]) (st := [.int (s1 + s0)]) dX2_leastBait_84 lk_X2_140 (h_room (by decide)) nl_1 zk_1 (by decide) rfl rfl rfl (Nat.le_of_ble_eq_true rfl) ?_
  exact k1
set_option maxHeartbeats 1000000 in
set_option maxRecDepth 4000 in
theorem sg_X2_leastBait_87 {E : HEn} {d : Nat} {Q : Option Value → HIh → Prop} {I : HIh} {x2 : Int32} {x3 : Int32} {x4 : Int32} {x5 : Int32} {x6 : Int32} {s0 : Int32} {s1 : Int32}
    (k1 : x3 = (-1) → HCall E me_X2_tempts (d + 4) [.ref 32, .int x2, .int x4, .int x5, .int x6] I (fun v9 J => HGo E (mF E (d + 5) Q) me_X2_leastBait 112 [(0, .ref 32), (2, .int x2), (3, .int x3), (4, .int x4), (5, .int x5), (6, .int x6), (7, .int (s1 + s0))] (v9.toList ++ []) J))
    (k2 : ¬ x3 = (-1) → x3 ≤ (s1 + s0) → HGo E (mF E (d + 5) Q) me_X2_leastBait 47 [(0, .ref 32), (2, .int x2), (3, .int x3), (4, .int x4), (5, .int x5), (6, .int (x6 + 1))] [] I)
    (k3 : ¬ x3 = (-1) → ¬ x3 ≤ (s1 + s0) → HCall E me_X2_tempts (d + 4) [.ref 32, .int x2, .int x4, .int x5, .int x6] I (fun v9 J => HGo E (mF E (d + 5) Q) me_X2_leastBait 112 [(0, .ref 32), (2, .int x2), (3, .int x3), (4, .int x4), (5, .int x5), (6, .int x6), (7, .int (s1 + s0))] (v9.toList ++ []) J))
    : HGo E (mF E (d + 5) Q) me_X2_leastBait 87 [(0, .ref 32), (2, .int x2), (3, .int x3), (4, .int x4), (5, .int x5), (6, .int x6)] [.int s0, .int s1] I := by
  refine h_iadd dX2_leastBait_87 ?_
  refine h_istore (L' := [(7, .int (s1 + s0)), (0, .ref 32), (2, .int x2), (3, .int x3), (4, .int x4), (5, .int x5), (6, .int x6)]) dX2_leastBait_88 (by decide) rfl ?_
  refine h_iload_n dX2_leastBait_90 rfl 3 rfl ?_
  refine h_iconst (v := (-1)) dX2_leastBait_91 (by decide) ?_
  refine h_icmp_eq (tgt := 101) dX2_leastBait_92 (by decide) (fun c1 => ?_) (fun c1 => ?_)
  ·
    refine h_aload_n dX2_leastBait_101 rfl 1 rfl ?_
    refine h_iload_n dX2_leastBait_102 rfl 2 rfl ?_
    refine h_iload dX2_leastBait_103 4 rfl ?_
    refine h_iload dX2_leastBait_105 5 rfl ?_
    refine h_iload dX2_leastBait_107 6 rfl ?_
    refine h_pick [1, 2, 3, 4, 5, 6, 0] [(0, .ref 32), (2, .int x2), (3, .int x3), (4, .int x4), (5, .int x5), (6, .int x6), (7, .int (s1 + s0))] rfl ?_
    refine h_invV (As := [.int x2, .int x4, .int x5, .int x6]) (st := []) dX2_leastBait_109 lk_X2_143 (h_room (by decide)) nl_32 zk_32 (by decide) rfl rfl rfl (Nat.le_of_ble_eq_true rfl) ?_
    exact k1 c1
  ·
    refine h_iload dX2_leastBait_95 0 rfl ?_
    refine h_iload_n dX2_leastBait_97 rfl 3 rfl ?_
    refine h_icmp_ge (tgt := 118) dX2_leastBait_98 (by decide) (fun c2 => ?_) (fun c2 => ?_)
    ·
      refine h_iinc (v := (x6 + 1)) (L' := [(6, .int (x6 + 1)), (7, .int (s1 + s0)), (0, .ref 32), (2, .int x2), (3, .int x3), (4, .int x4), (5, .int x5)]) dX2_leastBait_118 6 rfl rfl (by decide) rfl ?_
      refine h_goto (tgt := 47) dX2_leastBait_121 (by decide) ?_
      refine h_pick [2, 3, 4, 5, 6, 0] [(0, .ref 32), (2, .int x2), (3, .int x3), (4, .int x4), (5, .int x5), (6, .int (x6 + 1))] rfl ?_
      exact k2 c1 c2
    ·
      refine h_aload_n dX2_leastBait_101 rfl 1 rfl ?_
      refine h_iload_n dX2_leastBait_102 rfl 2 rfl ?_
      refine h_iload dX2_leastBait_103 4 rfl ?_
      refine h_iload dX2_leastBait_105 5 rfl ?_
      refine h_iload dX2_leastBait_107 6 rfl ?_
      refine h_pick [1, 2, 3, 4, 5, 6, 0] [(0, .ref 32), (2, .int x2), (3, .int x3), (4, .int x4), (5, .int x5), (6, .int x6), (7, .int (s1 + s0))] rfl ?_
      refine h_invV (As := [.int x2, .int x4, .int x5, .int x6]) (st := []) dX2_leastBait_109 lk_X2_143 (h_room (by decide)) nl_32 zk_32 (by decide) rfl rfl rfl (Nat.le_of_ble_eq_true rfl) ?_
      exact k3 c1 c2
set_option maxHeartbeats 1000000 in
set_option maxRecDepth 4000 in
theorem sg_X2_leastBait_112 {E : HEn} {d : Nat} {Q : Option Value → HIh → Prop} {I : HIh} {x2 : Int32} {x3 : Int32} {x4 : Int32} {x5 : Int32} {x6 : Int32} {x7 : Int32} {s0 : Int32}
    (k1 : s0 = 0 → HGo E (mF E (d + 5) Q) me_X2_leastBait 47 [(0, .ref 32), (2, .int x2), (3, .int x3), (4, .int x4), (5, .int x5), (6, .int (x6 + 1))] [] I)
    (k2 : ¬ s0 = 0 → HGo E (mF E (d + 5) Q) me_X2_leastBait 47 [(0, .ref 32), (2, .int x2), (3, .int x7), (4, .int x4), (5, .int x5), (6, .int (x6 + 1))] [] I)
    : HGo E (mF E (d + 5) Q) me_X2_leastBait 112 [(0, .ref 32), (2, .int x2), (3, .int x3), (4, .int x4), (5, .int x5), (6, .int x6), (7, .int x7)] [.int s0] I := by
  refine h_if_eq (tgt := 118) dX2_leastBait_112 (by decide) (fun c1 => ?_) (fun c1 => ?_)
  ·
    refine h_iinc (v := (x6 + 1)) (L' := [(6, .int (x6 + 1)), (0, .ref 32), (2, .int x2), (3, .int x3), (4, .int x4), (5, .int x5), (7, .int x7)]) dX2_leastBait_118 5 rfl rfl (by decide) rfl ?_
    refine h_goto (tgt := 47) dX2_leastBait_121 (by decide) ?_
    refine h_pick [1, 2, 3, 4, 5, 0] [(0, .ref 32), (2, .int x2), (3, .int x3), (4, .int x4), (5, .int x5), (6, .int (x6 + 1))] rfl ?_
    exact k1 c1
  ·
    refine h_iload dX2_leastBait_115 6 rfl ?_
    refine h_istore_n (L' := [(3, .int x7), (0, .ref 32), (2, .int x2), (4, .int x4), (5, .int x5), (6, .int x6), (7, .int x7)]) dX2_leastBait_117 rfl (by decide) rfl ?_
    refine h_iinc (v := (x6 + 1)) (L' := [(6, .int (x6 + 1)), (3, .int x7), (0, .ref 32), (2, .int x2), (4, .int x4), (5, .int x5), (7, .int x7)]) dX2_leastBait_118 5 rfl rfl (by decide) rfl ?_
    refine h_goto (tgt := 47) dX2_leastBait_121 (by decide) ?_
    refine h_pick [2, 3, 1, 4, 5, 0] [(0, .ref 32), (2, .int x2), (3, .int x7), (4, .int x4), (5, .int x5), (6, .int (x6 + 1))] rfl ?_
    exact k2 c1
set_option maxHeartbeats 1000000 in
set_option maxRecDepth 4000 in
theorem sg_X2_tempts_N_0 {E : HEn} {d : Nat} {Q : Option Value → HIh → Prop} {I : HIh} {p : Int32} {x : Int32} {y : Int32} {z : Int32}
    (k1 : HCall E me_X2_putIn (d + 3) [.ref 32, .int x, .int y, .int z, .int 1] I (fun v9 J => HGo E (mF E (d + 4) Q) me_X2_tempts 9 [(0, .ref 32), (1, .int p), (2, .int x), (3, .int y), (4, .int z)] (v9.toList ++ []) J))
    : HGo E (mF E (d + 4) Q) me_X2_tempts 0 [(0, .ref 32), (1, .int p), (2, .int x), (3, .int y), (4, .int z)] [] I := by
  refine h_aload_n dX2_tempts_0 rfl 0 rfl ?_
  refine h_iload_n dX2_tempts_1 rfl 2 rfl ?_
  refine h_iload_n dX2_tempts_2 rfl 3 rfl ?_
  refine h_iload dX2_tempts_3 4 rfl ?_
  refine h_iconst (v := 1) dX2_tempts_5 (by decide) ?_
  refine h_invV (As := [.int x, .int y, .int z, .int 1]) (st := []) dX2_tempts_6 lk_X2_147 (h_room (by decide)) nl_32 zk_32 (by decide) rfl rfl rfl (Nat.le_of_ble_eq_true rfl) ?_
  exact k1
set_option maxHeartbeats 1000000 in
set_option maxRecDepth 4000 in
theorem sg_X2_tempts_N_9 {E : HEn} {d : Nat} {Q : Option Value → HIh → Prop} {I : HIh} {x1 : Int32} {x2 : Int32} {x3 : Int32} {x4 : Int32}
    (k1 : HCall E me_X9_folkOf (d + 3) [.ref 1, .int x1] I (fun v9 J => HGo E (mF E (d + 4) Q) me_X2_tempts 17 [(0, .ref 32), (1, .int x1), (2, .int x2), (3, .int x3), (4, .int x4)] (v9.toList ++ []) J))
    : HGo E (mF E (d + 4) Q) me_X2_tempts 9 [(0, .ref 32), (1, .int x1), (2, .int x2), (3, .int x3), (4, .int x4)] [] I := by
  refine h_aload_n dX2_tempts_9 rfl 0 rfl ?_
  refine gf_1_0 dX2_tempts_10 hl_X2_29 nl_32 zk_32 zp_32_0 ?_
  refine h_iload_n dX2_tempts_13 rfl 1 rfl ?_
  refine h_invV (As := [.int x1]) (st := []) dX2_tempts_14 lk_X2_151 (h_room (by decide)) nl_1 zk_1 (by decide) rfl rfl rfl (Nat.le_of_ble_eq_true rfl) ?_
  exact k1
set_option maxHeartbeats 1000000 in
set_option maxRecDepth 4000 in
theorem sg_X2_tempts_N_17 {E : HEn} {d : Nat} {Q : Option Value → HIh → Prop} {I : HIh} {x1 : Int32} {x2 : Int32} {x3 : Int32} {x4 : Int32}
    (k1 : HCall E me_X5_wouldThrow (d + 3) [.ref 2, .ref 1, .ref 34, .int x1] I (fun v9 J => HGo E (mF E (d + 4) Q) me_X2_tempts 31 [(0, .ref 32), (2, .int x2), (3, .int x3), (4, .int x4)] (v9.toList ++ []) J))
    : HGo E (mF E (d + 4) Q) me_X2_tempts 17 [(0, .ref 32), (1, .int x1), (2, .int x2), (3, .int x3), (4, .int x4)] [.ref 2] I := by
  refine h_aload_n dX2_tempts_17 rfl 0 rfl ?_
  refine gf_1_0 dX2_tempts_18 hl_X2_29 nl_32 zk_32 zp_32_0 ?_
  refine h_aload_n dX2_tempts_21 rfl 0 rfl ?_
  refine gf_1_1 dX2_tempts_22 hl_X2_13 nl_32 zk_32 zp_32_1 ?_
  refine h_iconst (v := 0) dX2_tempts_25 (by decide) ?_
  refine h_aald13z dX2_tempts_26 nl_33 zk_33 (vp_lit (by rw [zn_33]; decide)) zp_33_0 ?_
  refine h_iload_n dX2_tempts_27 rfl 1 rfl ?_
  refine h_pick [0, 2, 3, 4] [(0, .ref 32), (2, .int x2), (3, .int x3), (4, .int x4)] rfl ?_
  refine h_invU (As := [.ref 1, .ref 34, .int x1]) (st := []) dX2_tempts_28 lk_X2_87_X5 (h_room (by decide)) nl_2 zk_2 (by decide) rfl rfl rfl (Nat.le_of_ble_eq_true rfl) ?_
  exact k1
set_option maxHeartbeats 1000000 in
set_option maxRecDepth 4000 in
theorem sg_X2_tempts_N_31 {E : HEn} {d : Nat} {Q : Option Value → HIh → Prop} {I : HIh} {x2 : Int32} {x3 : Int32} {x4 : Int32} {s0 : Int32}
    (k1 : s0 = (-1) → HCall E me_X2_putIn (d + 3) [.ref 32, .int x2, .int x3, .int x4, .int (-1)] I (fun v9 J => HGo E (mF E (d + 4) Q) me_X2_tempts 51 [(5, .int 0)] (v9.toList ++ []) J))
    (k2 : ¬ s0 = (-1) → HCall E me_X2_putIn (d + 3) [.ref 32, .int x2, .int x3, .int x4, .int (-1)] I (fun v9 J => HGo E (mF E (d + 4) Q) me_X2_tempts 51 [(5, .int 1)] (v9.toList ++ []) J))
    : HGo E (mF E (d + 4) Q) me_X2_tempts 31 [(0, .ref 32), (2, .int x2), (3, .int x3), (4, .int x4)] [.int s0] I := by
  refine h_iconst (v := (-1)) dX2_tempts_31 (by decide) ?_
  refine h_icmp_eq (tgt := 39) dX2_tempts_32 (by decide) (fun c1 => ?_) (fun c1 => ?_)
  ·
    refine h_iconst (v := 0) dX2_tempts_39 (by decide) ?_
    refine h_istore (L' := [(5, .int 0), (0, .ref 32), (2, .int x2), (3, .int x3), (4, .int x4)]) dX2_tempts_40 (by decide) rfl ?_
    refine h_aload_n dX2_tempts_42 rfl 1 rfl ?_
    refine h_iload_n dX2_tempts_43 rfl 2 rfl ?_
    refine h_iload_n dX2_tempts_44 rfl 3 rfl ?_
    refine h_iload dX2_tempts_45 4 rfl ?_
    refine h_iconst (v := (-1)) dX2_tempts_47 (by decide) ?_
    refine h_pick [0] [(5, .int 0)] rfl ?_
    refine h_invV (As := [.int x2, .int x3, .int x4, .int (-1)]) (st := []) dX2_tempts_48 lk_X2_147 (h_room (by decide)) nl_32 zk_32 (by decide) rfl rfl rfl (Nat.le_of_ble_eq_true rfl) ?_
    exact k1 c1
  ·
    refine h_iconst (v := 1) dX2_tempts_35 (by decide) ?_
    refine h_goto (tgt := 40) dX2_tempts_36 (by decide) ?_
    refine h_istore (L' := [(5, .int 1), (0, .ref 32), (2, .int x2), (3, .int x3), (4, .int x4)]) dX2_tempts_40 (by decide) rfl ?_
    refine h_aload_n dX2_tempts_42 rfl 1 rfl ?_
    refine h_iload_n dX2_tempts_43 rfl 2 rfl ?_
    refine h_iload_n dX2_tempts_44 rfl 3 rfl ?_
    refine h_iload dX2_tempts_45 4 rfl ?_
    refine h_iconst (v := (-1)) dX2_tempts_47 (by decide) ?_
    refine h_pick [0] [(5, .int 1)] rfl ?_
    refine h_invV (As := [.int x2, .int x3, .int x4, .int (-1)]) (st := []) dX2_tempts_48 lk_X2_147 (h_room (by decide)) nl_32 zk_32 (by decide) rfl rfl rfl (Nat.le_of_ble_eq_true rfl) ?_
    exact k2 c1
set_option maxHeartbeats 1000000 in
set_option maxRecDepth 4000 in
theorem sg_X2_tempts_N_51 {E : HEn} {d : Nat} {Q : Option Value → HIh → Prop} {I : HIh} {x5 : Int32}
    (k1 : vp_nar .boolean x5 = x5)
    (k2 : Q (some (.int x5)) I)
    : HGo E (mF E (d + 4) Q) me_X2_tempts 51 [(5, .int x5)] [] I := by
  refine h_iload dX2_tempts_51 0 rfl ?_
  exact h_zret dX2_tempts_53 rfl (k1) (k2)
set_option maxHeartbeats 1000000 in
set_option maxRecDepth 4000 in
theorem sg_X2_tempts_G_0 {E : HEn} {d : Nat} {Q : Option Value → HIh → Prop} {I : HIh} {p : Int32} {x : Int32} {y : Int32} {z : Int32}
    (k1 : HCall E me_X2_putIn (d + 3) [.ref 32, .int x, .int y, .int z, .int 1] I (fun v9 J => HGo E (mF E (d + 4) Q) me_X2_tempts 9 [(0, .ref 32), (1, .int p), (2, .int x), (3, .int y), (4, .int z)] (v9.toList ++ []) J))
    : HGo E (mF E (d + 4) Q) me_X2_tempts 0 [(0, .ref 32), (1, .int p), (2, .int x), (3, .int y), (4, .int z)] [] I := by
  refine h_aload_n dX2_tempts_0 rfl 0 rfl ?_
  refine h_iload_n dX2_tempts_1 rfl 2 rfl ?_
  refine h_iload_n dX2_tempts_2 rfl 3 rfl ?_
  refine h_iload dX2_tempts_3 4 rfl ?_
  refine h_iconst (v := 1) dX2_tempts_5 (by decide) ?_
  refine h_invV (As := [.int x, .int y, .int z, .int 1]) (st := []) dX2_tempts_6 lk_X2_147 (h_room (by decide)) nl_32 zk_32 (by decide) rfl rfl rfl (Nat.le_of_ble_eq_true rfl) ?_
  exact k1
set_option maxHeartbeats 1000000 in
set_option maxRecDepth 4000 in
theorem sg_X2_tempts_G_9 {E : HEn} {d : Nat} {Q : Option Value → HIh → Prop} {I : HIh} {x1 : Int32} {x2 : Int32} {x3 : Int32} {x4 : Int32}
    (k1 : HCall E me_X9_folkOf (d + 3) [.ref 1, .int x1] I (fun v9 J => HGo E (mF E (d + 4) Q) me_X2_tempts 17 [(0, .ref 32), (1, .int x1), (2, .int x2), (3, .int x3), (4, .int x4)] (v9.toList ++ []) J))
    : HGo E (mF E (d + 4) Q) me_X2_tempts 9 [(0, .ref 32), (1, .int x1), (2, .int x2), (3, .int x3), (4, .int x4)] [] I := by
  refine h_aload_n dX2_tempts_9 rfl 0 rfl ?_
  refine gf_1_0 dX2_tempts_10 hl_X2_29 nl_32 zk_32 zp_32_0 ?_
  refine h_iload_n dX2_tempts_13 rfl 1 rfl ?_
  refine h_invV (As := [.int x1]) (st := []) dX2_tempts_14 lk_X2_151 (h_room (by decide)) nl_1 zk_1 (by decide) rfl rfl rfl (Nat.le_of_ble_eq_true rfl) ?_
  exact k1
set_option maxHeartbeats 1000000 in
set_option maxRecDepth 4000 in
theorem sg_X2_tempts_G_17 {E : HEn} {d : Nat} {Q : Option Value → HIh → Prop} {I : HIh} {x1 : Int32} {x2 : Int32} {x3 : Int32} {x4 : Int32}
    (k1 : HCall E me_X8_wouldThrow (d + 3) [.ref 3, .ref 1, .ref 34, .int x1] I (fun v9 J => HGo E (mF E (d + 4) Q) me_X2_tempts 31 [(0, .ref 32), (2, .int x2), (3, .int x3), (4, .int x4)] (v9.toList ++ []) J))
    : HGo E (mF E (d + 4) Q) me_X2_tempts 17 [(0, .ref 32), (1, .int x1), (2, .int x2), (3, .int x3), (4, .int x4)] [.ref 3] I := by
  refine h_aload_n dX2_tempts_17 rfl 0 rfl ?_
  refine gf_1_0 dX2_tempts_18 hl_X2_29 nl_32 zk_32 zp_32_0 ?_
  refine h_aload_n dX2_tempts_21 rfl 0 rfl ?_
  refine gf_1_1 dX2_tempts_22 hl_X2_13 nl_32 zk_32 zp_32_1 ?_
  refine h_iconst (v := 0) dX2_tempts_25 (by decide) ?_
  refine h_aald13z dX2_tempts_26 nl_33 zk_33 (vp_lit (by rw [zn_33]; decide)) zp_33_0 ?_
  refine h_iload_n dX2_tempts_27 rfl 1 rfl ?_
  refine h_pick [0, 2, 3, 4] [(0, .ref 32), (2, .int x2), (3, .int x3), (4, .int x4)] rfl ?_
  refine h_invU (As := [.ref 1, .ref 34, .int x1]) (st := []) dX2_tempts_28 lk_X2_87_X3 (h_room (by decide)) nl_3 zk_3 (by decide) rfl rfl rfl (Nat.le_of_ble_eq_true rfl) ?_
  exact k1
set_option maxHeartbeats 1000000 in
set_option maxRecDepth 4000 in
theorem sg_X2_tempts_G_31 {E : HEn} {d : Nat} {Q : Option Value → HIh → Prop} {I : HIh} {x2 : Int32} {x3 : Int32} {x4 : Int32} {s0 : Int32}
    (k1 : s0 = (-1) → HCall E me_X2_putIn (d + 3) [.ref 32, .int x2, .int x3, .int x4, .int (-1)] I (fun v9 J => HGo E (mF E (d + 4) Q) me_X2_tempts 51 [(5, .int 0)] (v9.toList ++ []) J))
    (k2 : ¬ s0 = (-1) → HCall E me_X2_putIn (d + 3) [.ref 32, .int x2, .int x3, .int x4, .int (-1)] I (fun v9 J => HGo E (mF E (d + 4) Q) me_X2_tempts 51 [(5, .int 1)] (v9.toList ++ []) J))
    : HGo E (mF E (d + 4) Q) me_X2_tempts 31 [(0, .ref 32), (2, .int x2), (3, .int x3), (4, .int x4)] [.int s0] I := by
  refine h_iconst (v := (-1)) dX2_tempts_31 (by decide) ?_
  refine h_icmp_eq (tgt := 39) dX2_tempts_32 (by decide) (fun c1 => ?_) (fun c1 => ?_)
  ·
    refine h_iconst (v := 0) dX2_tempts_39 (by decide) ?_
    refine h_istore (L' := [(5, .int 0), (0, .ref 32), (2, .int x2), (3, .int x3), (4, .int x4)]) dX2_tempts_40 (by decide) rfl ?_
    refine h_aload_n dX2_tempts_42 rfl 1 rfl ?_
    refine h_iload_n dX2_tempts_43 rfl 2 rfl ?_
    refine h_iload_n dX2_tempts_44 rfl 3 rfl ?_
    refine h_iload dX2_tempts_45 4 rfl ?_
    refine h_iconst (v := (-1)) dX2_tempts_47 (by decide) ?_
    refine h_pick [0] [(5, .int 0)] rfl ?_
    refine h_invV (As := [.int x2, .int x3, .int x4, .int (-1)]) (st := []) dX2_tempts_48 lk_X2_147 (h_room (by decide)) nl_32 zk_32 (by decide) rfl rfl rfl (Nat.le_of_ble_eq_true rfl) ?_
    exact k1 c1
  ·
    refine h_iconst (v := 1) dX2_tempts_35 (by decide) ?_
    refine h_goto (tgt := 40) dX2_tempts_36 (by decide) ?_
    refine h_istore (L' := [(5, .int 1), (0, .ref 32), (2, .int x2), (3, .int x3), (4, .int x4)]) dX2_tempts_40 (by decide) rfl ?_
    refine h_aload_n dX2_tempts_42 rfl 1 rfl ?_
    refine h_iload_n dX2_tempts_43 rfl 2 rfl ?_
    refine h_iload_n dX2_tempts_44 rfl 3 rfl ?_
    refine h_iload dX2_tempts_45 4 rfl ?_
    refine h_iconst (v := (-1)) dX2_tempts_47 (by decide) ?_
    refine h_pick [0] [(5, .int 1)] rfl ?_
    refine h_invV (As := [.int x2, .int x3, .int x4, .int (-1)]) (st := []) dX2_tempts_48 lk_X2_147 (h_room (by decide)) nl_32 zk_32 (by decide) rfl rfl rfl (Nat.le_of_ble_eq_true rfl) ?_
    exact k2 c1
set_option maxHeartbeats 1000000 in
set_option maxRecDepth 4000 in
theorem sg_X2_tempts_G_51 {E : HEn} {d : Nat} {Q : Option Value → HIh → Prop} {I : HIh} {x5 : Int32}
    (k1 : vp_nar .boolean x5 = x5)
    (k2 : Q (some (.int x5)) I)
    : HGo E (mF E (d + 4) Q) me_X2_tempts 51 [(5, .int x5)] [] I := by
  refine h_iload dX2_tempts_51 0 rfl ?_
  exact h_zret dX2_tempts_53 rfl (k1) (k2)
set_option maxHeartbeats 1000000 in
set_option maxRecDepth 4000 in
theorem sg_X2_tempts_W_0 {E : HEn} {d : Nat} {Q : Option Value → HIh → Prop} {I : HIh} {p : Int32} {x : Int32} {y : Int32} {z : Int32}
    (k1 : HCall E me_X2_putIn (d + 3) [.ref 32, .int x, .int y, .int z, .int 1] I (fun v9 J => HGo E (mF E (d + 4) Q) me_X2_tempts 9 [(0, .ref 32), (1, .int p), (2, .int x), (3, .int y), (4, .int z)] (v9.toList ++ []) J))
    : HGo E (mF E (d + 4) Q) me_X2_tempts 0 [(0, .ref 32), (1, .int p), (2, .int x), (3, .int y), (4, .int z)] [] I := by
  refine h_aload_n dX2_tempts_0 rfl 0 rfl ?_
  refine h_iload_n dX2_tempts_1 rfl 2 rfl ?_
  refine h_iload_n dX2_tempts_2 rfl 3 rfl ?_
  refine h_iload dX2_tempts_3 4 rfl ?_
  refine h_iconst (v := 1) dX2_tempts_5 (by decide) ?_
  refine h_invV (As := [.int x, .int y, .int z, .int 1]) (st := []) dX2_tempts_6 lk_X2_147 (h_room (by decide)) nl_32 zk_32 (by decide) rfl rfl rfl (Nat.le_of_ble_eq_true rfl) ?_
  exact k1
set_option maxHeartbeats 1000000 in
set_option maxRecDepth 4000 in
theorem sg_X2_tempts_W_9 {E : HEn} {d : Nat} {Q : Option Value → HIh → Prop} {I : HIh} {x1 : Int32} {x2 : Int32} {x3 : Int32} {x4 : Int32}
    (k1 : HCall E me_X9_folkOf (d + 3) [.ref 1, .int x1] I (fun v9 J => HGo E (mF E (d + 4) Q) me_X2_tempts 17 [(0, .ref 32), (1, .int x1), (2, .int x2), (3, .int x3), (4, .int x4)] (v9.toList ++ []) J))
    : HGo E (mF E (d + 4) Q) me_X2_tempts 9 [(0, .ref 32), (1, .int x1), (2, .int x2), (3, .int x3), (4, .int x4)] [] I := by
  refine h_aload_n dX2_tempts_9 rfl 0 rfl ?_
  refine gf_1_0 dX2_tempts_10 hl_X2_29 nl_32 zk_32 zp_32_0 ?_
  refine h_iload_n dX2_tempts_13 rfl 1 rfl ?_
  refine h_invV (As := [.int x1]) (st := []) dX2_tempts_14 lk_X2_151 (h_room (by decide)) nl_1 zk_1 (by decide) rfl rfl rfl (Nat.le_of_ble_eq_true rfl) ?_
  exact k1
set_option maxHeartbeats 1000000 in
set_option maxRecDepth 4000 in
theorem sg_X2_tempts_W_17 {E : HEn} {d : Nat} {Q : Option Value → HIh → Prop} {I : HIh} {x1 : Int32} {x2 : Int32} {x3 : Int32} {x4 : Int32}
    (k1 : HCall E me_X8_wouldThrow (d + 3) [.ref 4, .ref 1, .ref 34, .int x1] I (fun v9 J => HGo E (mF E (d + 4) Q) me_X2_tempts 31 [(0, .ref 32), (2, .int x2), (3, .int x3), (4, .int x4)] (v9.toList ++ []) J))
    : HGo E (mF E (d + 4) Q) me_X2_tempts 17 [(0, .ref 32), (1, .int x1), (2, .int x2), (3, .int x3), (4, .int x4)] [.ref 4] I := by
  refine h_aload_n dX2_tempts_17 rfl 0 rfl ?_
  refine gf_1_0 dX2_tempts_18 hl_X2_29 nl_32 zk_32 zp_32_0 ?_
  refine h_aload_n dX2_tempts_21 rfl 0 rfl ?_
  refine gf_1_1 dX2_tempts_22 hl_X2_13 nl_32 zk_32 zp_32_1 ?_
  refine h_iconst (v := 0) dX2_tempts_25 (by decide) ?_
  refine h_aald13z dX2_tempts_26 nl_33 zk_33 (vp_lit (by rw [zn_33]; decide)) zp_33_0 ?_
  refine h_iload_n dX2_tempts_27 rfl 1 rfl ?_
  refine h_pick [0, 2, 3, 4] [(0, .ref 32), (2, .int x2), (3, .int x3), (4, .int x4)] rfl ?_
  refine h_invU (As := [.ref 1, .ref 34, .int x1]) (st := []) dX2_tempts_28 lk_X2_87_X10 (h_room (by decide)) nl_4 zk_4 (by decide) rfl rfl rfl (Nat.le_of_ble_eq_true rfl) ?_
  exact k1
set_option maxHeartbeats 1000000 in
set_option maxRecDepth 4000 in
theorem sg_X2_tempts_W_31 {E : HEn} {d : Nat} {Q : Option Value → HIh → Prop} {I : HIh} {x2 : Int32} {x3 : Int32} {x4 : Int32} {s0 : Int32}
    (k1 : s0 = (-1) → HCall E me_X2_putIn (d + 3) [.ref 32, .int x2, .int x3, .int x4, .int (-1)] I (fun v9 J => HGo E (mF E (d + 4) Q) me_X2_tempts 51 [(5, .int 0)] (v9.toList ++ []) J))
    (k2 : ¬ s0 = (-1) → HCall E me_X2_putIn (d + 3) [.ref 32, .int x2, .int x3, .int x4, .int (-1)] I (fun v9 J => HGo E (mF E (d + 4) Q) me_X2_tempts 51 [(5, .int 1)] (v9.toList ++ []) J))
    : HGo E (mF E (d + 4) Q) me_X2_tempts 31 [(0, .ref 32), (2, .int x2), (3, .int x3), (4, .int x4)] [.int s0] I := by
  refine h_iconst (v := (-1)) dX2_tempts_31 (by decide) ?_
  refine h_icmp_eq (tgt := 39) dX2_tempts_32 (by decide) (fun c1 => ?_) (fun c1 => ?_)
  ·
    refine h_iconst (v := 0) dX2_tempts_39 (by decide) ?_
    refine h_istore (L' := [(5, .int 0), (0, .ref 32), (2, .int x2), (3, .int x3), (4, .int x4)]) dX2_tempts_40 (by decide) rfl ?_
    refine h_aload_n dX2_tempts_42 rfl 1 rfl ?_
    refine h_iload_n dX2_tempts_43 rfl 2 rfl ?_
    refine h_iload_n dX2_tempts_44 rfl 3 rfl ?_
    refine h_iload dX2_tempts_45 4 rfl ?_
    refine h_iconst (v := (-1)) dX2_tempts_47 (by decide) ?_
    refine h_pick [0] [(5, .int 0)] rfl ?_
    refine h_invV (As := [.int x2, .int x3, .int x4, .int (-1)]) (st := []) dX2_tempts_48 lk_X2_147 (h_room (by decide)) nl_32 zk_32 (by decide) rfl rfl rfl (Nat.le_of_ble_eq_true rfl) ?_
    exact k1 c1
  ·
    refine h_iconst (v := 1) dX2_tempts_35 (by decide) ?_
    refine h_goto (tgt := 40) dX2_tempts_36 (by decide) ?_
    refine h_istore (L' := [(5, .int 1), (0, .ref 32), (2, .int x2), (3, .int x3), (4, .int x4)]) dX2_tempts_40 (by decide) rfl ?_
    refine h_aload_n dX2_tempts_42 rfl 1 rfl ?_
    refine h_iload_n dX2_tempts_43 rfl 2 rfl ?_
    refine h_iload_n dX2_tempts_44 rfl 3 rfl ?_
    refine h_iload dX2_tempts_45 4 rfl ?_
    refine h_iconst (v := (-1)) dX2_tempts_47 (by decide) ?_
    refine h_pick [0] [(5, .int 1)] rfl ?_
    refine h_invV (As := [.int x2, .int x3, .int x4, .int (-1)]) (st := []) dX2_tempts_48 lk_X2_147 (h_room (by decide)) nl_32 zk_32 (by decide) rfl rfl rfl (Nat.le_of_ble_eq_true rfl) ?_
    exact k2 c1
set_option maxHeartbeats 1000000 in
set_option maxRecDepth 4000 in
theorem sg_X2_tempts_W_51 {E : HEn} {d : Nat} {Q : Option Value → HIh → Prop} {I : HIh} {x5 : Int32}
    (k1 : vp_nar .boolean x5 = x5)
    (k2 : Q (some (.int x5)) I)
    : HGo E (mF E (d + 4) Q) me_X2_tempts 51 [(5, .int x5)] [] I := by
  refine h_iload dX2_tempts_51 0 rfl ?_
  exact h_zret dX2_tempts_53 rfl (k1) (k2)
set_option maxHeartbeats 1000000 in
set_option maxRecDepth 4000 in
theorem sg_X2_tempts_C_0 {E : HEn} {d : Nat} {Q : Option Value → HIh → Prop} {I : HIh} {p : Int32} {x : Int32} {y : Int32} {z : Int32}
    (k1 : HCall E me_X2_putIn (d + 3) [.ref 32, .int x, .int y, .int z, .int 1] I (fun v9 J => HGo E (mF E (d + 4) Q) me_X2_tempts 9 [(0, .ref 32), (1, .int p), (2, .int x), (3, .int y), (4, .int z)] (v9.toList ++ []) J))
    : HGo E (mF E (d + 4) Q) me_X2_tempts 0 [(0, .ref 32), (1, .int p), (2, .int x), (3, .int y), (4, .int z)] [] I := by
  refine h_aload_n dX2_tempts_0 rfl 0 rfl ?_
  refine h_iload_n dX2_tempts_1 rfl 2 rfl ?_
  refine h_iload_n dX2_tempts_2 rfl 3 rfl ?_
  refine h_iload dX2_tempts_3 4 rfl ?_
  refine h_iconst (v := 1) dX2_tempts_5 (by decide) ?_
  refine h_invV (As := [.int x, .int y, .int z, .int 1]) (st := []) dX2_tempts_6 lk_X2_147 (h_room (by decide)) nl_32 zk_32 (by decide) rfl rfl rfl (Nat.le_of_ble_eq_true rfl) ?_
  exact k1
set_option maxHeartbeats 1000000 in
set_option maxRecDepth 4000 in
theorem sg_X2_tempts_C_9 {E : HEn} {d : Nat} {Q : Option Value → HIh → Prop} {I : HIh} {x1 : Int32} {x2 : Int32} {x3 : Int32} {x4 : Int32}
    (k1 : HCall E me_X9_folkOf (d + 3) [.ref 1, .int x1] I (fun v9 J => HGo E (mF E (d + 4) Q) me_X2_tempts 17 [(0, .ref 32), (1, .int x1), (2, .int x2), (3, .int x3), (4, .int x4)] (v9.toList ++ []) J))
    : HGo E (mF E (d + 4) Q) me_X2_tempts 9 [(0, .ref 32), (1, .int x1), (2, .int x2), (3, .int x3), (4, .int x4)] [] I := by
  refine h_aload_n dX2_tempts_9 rfl 0 rfl ?_
  refine gf_1_0 dX2_tempts_10 hl_X2_29 nl_32 zk_32 zp_32_0 ?_
  refine h_iload_n dX2_tempts_13 rfl 1 rfl ?_
  refine h_invV (As := [.int x1]) (st := []) dX2_tempts_14 lk_X2_151 (h_room (by decide)) nl_1 zk_1 (by decide) rfl rfl rfl (Nat.le_of_ble_eq_true rfl) ?_
  exact k1
set_option maxHeartbeats 1000000 in
set_option maxRecDepth 4000 in
theorem sg_X2_tempts_C_17 {E : HEn} {d : Nat} {Q : Option Value → HIh → Prop} {I : HIh} {x1 : Int32} {x2 : Int32} {x3 : Int32} {x4 : Int32}
    (k1 : HCall E me_X8_wouldThrow (d + 3) [.ref 5, .ref 1, .ref 34, .int x1] I (fun v9 J => HGo E (mF E (d + 4) Q) me_X2_tempts 31 [(0, .ref 32), (2, .int x2), (3, .int x3), (4, .int x4)] (v9.toList ++ []) J))
    : HGo E (mF E (d + 4) Q) me_X2_tempts 17 [(0, .ref 32), (1, .int x1), (2, .int x2), (3, .int x3), (4, .int x4)] [.ref 5] I := by
  refine h_aload_n dX2_tempts_17 rfl 0 rfl ?_
  refine gf_1_0 dX2_tempts_18 hl_X2_29 nl_32 zk_32 zp_32_0 ?_
  refine h_aload_n dX2_tempts_21 rfl 0 rfl ?_
  refine gf_1_1 dX2_tempts_22 hl_X2_13 nl_32 zk_32 zp_32_1 ?_
  refine h_iconst (v := 0) dX2_tempts_25 (by decide) ?_
  refine h_aald13z dX2_tempts_26 nl_33 zk_33 (vp_lit (by rw [zn_33]; decide)) zp_33_0 ?_
  refine h_iload_n dX2_tempts_27 rfl 1 rfl ?_
  refine h_pick [0, 2, 3, 4] [(0, .ref 32), (2, .int x2), (3, .int x3), (4, .int x4)] rfl ?_
  refine h_invU (As := [.ref 1, .ref 34, .int x1]) (st := []) dX2_tempts_28 lk_X2_87_X0 (h_room (by decide)) nl_5 zk_5 (by decide) rfl rfl rfl (Nat.le_of_ble_eq_true rfl) ?_
  exact k1
set_option maxHeartbeats 1000000 in
set_option maxRecDepth 4000 in
theorem sg_X2_tempts_C_31 {E : HEn} {d : Nat} {Q : Option Value → HIh → Prop} {I : HIh} {x2 : Int32} {x3 : Int32} {x4 : Int32} {s0 : Int32}
    (k1 : s0 = (-1) → HCall E me_X2_putIn (d + 3) [.ref 32, .int x2, .int x3, .int x4, .int (-1)] I (fun v9 J => HGo E (mF E (d + 4) Q) me_X2_tempts 51 [(5, .int 0)] (v9.toList ++ []) J))
    (k2 : ¬ s0 = (-1) → HCall E me_X2_putIn (d + 3) [.ref 32, .int x2, .int x3, .int x4, .int (-1)] I (fun v9 J => HGo E (mF E (d + 4) Q) me_X2_tempts 51 [(5, .int 1)] (v9.toList ++ []) J))
    : HGo E (mF E (d + 4) Q) me_X2_tempts 31 [(0, .ref 32), (2, .int x2), (3, .int x3), (4, .int x4)] [.int s0] I := by
  refine h_iconst (v := (-1)) dX2_tempts_31 (by decide) ?_
  refine h_icmp_eq (tgt := 39) dX2_tempts_32 (by decide) (fun c1 => ?_) (fun c1 => ?_)
  ·
    refine h_iconst (v := 0) dX2_tempts_39 (by decide) ?_
    refine h_istore (L' := [(5, .int 0), (0, .ref 32), (2, .int x2), (3, .int x3), (4, .int x4)]) dX2_tempts_40 (by decide) rfl ?_
    refine h_aload_n dX2_tempts_42 rfl 1 rfl ?_
    refine h_iload_n dX2_tempts_43 rfl 2 rfl ?_
    refine h_iload_n dX2_tempts_44 rfl 3 rfl ?_
    refine h_iload dX2_tempts_45 4 rfl ?_
    refine h_iconst (v := (-1)) dX2_tempts_47 (by decide) ?_
    refine h_pick [0] [(5, .int 0)] rfl ?_
    refine h_invV (As := [.int x2, .int x3, .int x4, .int (-1)]) (st := []) dX2_tempts_48 lk_X2_147 (h_room (by decide)) nl_32 zk_32 (by decide) rfl rfl rfl (Nat.le_of_ble_eq_true rfl) ?_
    exact k1 c1
  ·
    refine h_iconst (v := 1) dX2_tempts_35 (by decide) ?_
    refine h_goto (tgt := 40) dX2_tempts_36 (by decide) ?_
    refine h_istore (L' := [(5, .int 1), (0, .ref 32), (2, .int x2), (3, .int x3), (4, .int x4)]) dX2_tempts_40 (by decide) rfl ?_
    refine h_aload_n dX2_tempts_42 rfl 1 rfl ?_
    refine h_iload_n dX2_tempts_43 rfl 2 rfl ?_
    refine h_iload_n dX2_tempts_44 rfl 3 rfl ?_
    refine h_iload dX2_tempts_45 4 rfl ?_
    refine h_iconst (v := (-1)) dX2_tempts_47 (by decide) ?_
    refine h_pick [0] [(5, .int 1)] rfl ?_
    refine h_invV (As := [.int x2, .int x3, .int x4, .int (-1)]) (st := []) dX2_tempts_48 lk_X2_147 (h_room (by decide)) nl_32 zk_32 (by decide) rfl rfl rfl (Nat.le_of_ble_eq_true rfl) ?_
    exact k2 c1
set_option maxHeartbeats 1000000 in
set_option maxRecDepth 4000 in
theorem sg_X2_tempts_C_51 {E : HEn} {d : Nat} {Q : Option Value → HIh → Prop} {I : HIh} {x5 : Int32}
    (k1 : vp_nar .boolean x5 = x5)
    (k2 : Q (some (.int x5)) I)
    : HGo E (mF E (d + 4) Q) me_X2_tempts 51 [(5, .int x5)] [] I := by
  refine h_iload dX2_tempts_51 0 rfl ?_
  exact h_zret dX2_tempts_53 rfl (k1) (k2)
set_option maxHeartbeats 1000000 in
set_option maxRecDepth 4000 in
theorem sg_X2_putIn_0 {E : HEn} {d : Nat} {Q : Option Value → HIh → Prop} {I : HIh} {x : Int32} {y : Int32} {z : Int32} {w : Int32}
    (k1 : HCall E me_X4_add (d + 1) [.ref 34, .int 4, .int x, .int w] I (fun v9 J => HGo E (mF E (d + 2) Q) me_X2_putIn 13 [(0, .ref 32), (2, .int y), (3, .int z), (4, .int w)] (v9.toList ++ []) J))
    : HGo E (mF E (d + 2) Q) me_X2_putIn 0 [(0, .ref 32), (1, .int x), (2, .int y), (3, .int z), (4, .int w)] [] I := by
  refine h_aload_n dX2_putIn_0 rfl 0 rfl ?_
  refine gf_1_1 dX2_putIn_1 hl_X2_13 nl_32 zk_32 zp_32_1 ?_
  refine h_iconst (v := 0) dX2_putIn_4 (by decide) ?_
  refine h_aald13z dX2_putIn_5 nl_33 zk_33 (vp_lit (by rw [zn_33]; decide)) zp_33_0 ?_
  refine h_iconst (v := 4) dX2_putIn_6 (by decide) ?_
  refine h_iload_n dX2_putIn_7 rfl 1 rfl ?_
  refine h_iload dX2_putIn_8 4 rfl ?_
  refine h_pick [0, 2, 3, 4] [(0, .ref 32), (2, .int y), (3, .int z), (4, .int w)] rfl ?_
  refine h_invV (As := [.int 4, .int x, .int w]) (st := []) dX2_putIn_10 lk_X2_155 (h_room (by decide)) nl_34 zk_34 (by decide) rfl rfl rfl (Nat.le_of_ble_eq_true rfl) ?_
  exact k1
set_option maxHeartbeats 1000000 in
set_option maxRecDepth 4000 in
theorem sg_X2_putIn_13 {E : HEn} {d : Nat} {Q : Option Value → HIh → Prop} {I : HIh} {x2 : Int32} {x3 : Int32} {x4 : Int32}
    (k1 : HCall E me_X4_add (d + 1) [.ref 34, .int 4, .int x2, .int x4] I (fun v9 J => HGo E (mF E (d + 2) Q) me_X2_putIn 26 [(0, .ref 32), (3, .int x3), (4, .int x4)] (v9.toList ++ []) J))
    : HGo E (mF E (d + 2) Q) me_X2_putIn 13 [(0, .ref 32), (2, .int x2), (3, .int x3), (4, .int x4)] [] I := by
  refine h_aload_n dX2_putIn_13 rfl 0 rfl ?_
  refine gf_1_1 dX2_putIn_14 hl_X2_13 nl_32 zk_32 zp_32_1 ?_
  refine h_iconst (v := 0) dX2_putIn_17 (by decide) ?_
  refine h_aald13z dX2_putIn_18 nl_33 zk_33 (vp_lit (by rw [zn_33]; decide)) zp_33_0 ?_
  refine h_iconst (v := 4) dX2_putIn_19 (by decide) ?_
  refine h_iload_n dX2_putIn_20 rfl 1 rfl ?_
  refine h_iload dX2_putIn_21 3 rfl ?_
  refine h_pick [0, 2, 3] [(0, .ref 32), (3, .int x3), (4, .int x4)] rfl ?_
  refine h_invV (As := [.int 4, .int x2, .int x4]) (st := []) dX2_putIn_23 lk_X2_155 (h_room (by decide)) nl_34 zk_34 (by decide) rfl rfl rfl (Nat.le_of_ble_eq_true rfl) ?_
  exact k1
set_option maxHeartbeats 1000000 in
set_option maxRecDepth 4000 in
theorem sg_X2_putIn_26 {E : HEn} {d : Nat} {Q : Option Value → HIh → Prop} {I : HIh} {x3 : Int32} {x4 : Int32}
    (k1 : HCall E me_X4_add (d + 1) [.ref 34, .int 4, .int x3, .int x4] I (fun v9 J => HGo E (mF E (d + 2) Q) me_X2_putIn 39 [] (v9.toList ++ []) J))
    : HGo E (mF E (d + 2) Q) me_X2_putIn 26 [(0, .ref 32), (3, .int x3), (4, .int x4)] [] I := by
  refine h_aload_n dX2_putIn_26 rfl 0 rfl ?_
  refine gf_1_1 dX2_putIn_27 hl_X2_13 nl_32 zk_32 zp_32_1 ?_
  refine h_iconst (v := 0) dX2_putIn_30 (by decide) ?_
  refine h_aald13z dX2_putIn_31 nl_33 zk_33 (vp_lit (by rw [zn_33]; decide)) zp_33_0 ?_
  refine h_iconst (v := 4) dX2_putIn_32 (by decide) ?_
  refine h_iload_n dX2_putIn_33 rfl 1 rfl ?_
  refine h_iload dX2_putIn_34 2 rfl ?_
  refine h_pick [] [] rfl ?_
  refine h_invV (As := [.int 4, .int x3, .int x4]) (st := []) dX2_putIn_36 lk_X2_155 (h_room (by decide)) nl_34 zk_34 (by decide) rfl rfl rfl (Nat.le_of_ble_eq_true rfl) ?_
  exact k1
set_option maxHeartbeats 1000000 in
set_option maxRecDepth 4000 in
theorem sg_X2_putIn_39 {E : HEn} {d : Nat} {Q : Option Value → HIh → Prop} {I : HIh} 
    (k1 : Q none I)
    : HGo E (mF E (d + 2) Q) me_X2_putIn 39 [] [] I := by
  exact h_vret dX2_putIn_39 rfl (k1)
