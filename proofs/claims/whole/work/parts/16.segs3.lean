set_option maxHeartbeats 1000000 in
set_option maxRecDepth 20000 in
theorem sg_X9_letVisit_0 {E : HEn} {d : Nat} {Q : Option Value → HIh → Prop} {I : HIh} {h : Nat} {k : Int32} (a_h : h < NL) (b_h : Zk h = 3)
    (k1 : k = (-1) → Q none (setI I h (upd (I h) 1 ((I h 1) + 1))))
    (k2 : ¬ k = (-1) → HCall E me_X9_throwCoin (d + 2) [.ref 1, .ref h, .int (fVis (I 1 10) (I 9) (I h 1)), .int k] I (fun v9 J => HGo E (mF E (d + 3) Q) me_X9_letVisit 19 [(1, .ref h)] (v9.toList ++ []) J))
    : HGo E (mF E (d + 3) Q) me_X9_letVisit 0 [(0, .ref 1), (1, .ref h), (2, .int k)] [] I := by
  refine h_iload_n dX9_letVisit_0 rfl 2 rfl ?_
  refine h_iconst (v := (-1)) dX9_letVisit_1 (by decide) ?_
  refine h_icmp_eq (tgt := 19) dX9_letVisit_2 (by decide) (fun c1 => ?_) (fun c1 => ?_)
  ·
    refine h_aload_n dX9_letVisit_19 rfl 1 rfl ?_
    refine h_dup dX9_letVisit_20 rfl ?_
    refine gf_3_1 dX9_letVisit_21 hl_X9_80 a_h b_h ?_
    refine h_iconst (v := 1) dX9_letVisit_24 (by decide) ?_
    refine h_iadd dX9_letVisit_25 ?_
    refine pf_3_1 dX9_letVisit_26 hl_X9_80 a_h b_h ?_
    exact h_vret dX9_letVisit_29 rfl (k1 c1)
  ·
    refine h_aload_n dX9_letVisit_5 rfl 0 rfl ?_
    refine h_aload_n dX9_letVisit_6 rfl 1 rfl ?_
    refine h_aload_n dX9_letVisit_7 rfl 0 rfl ?_
    refine h_aload_n dX9_letVisit_8 rfl 1 rfl ?_
    refine gf_3_1 dX9_letVisit_9 hl_X9_80 a_h b_h ?_
    refine h_invV (As := [.int (I h 1)]) (st := [.ref h, .ref 1]) dX9_letVisit_12 lk_X9_83 (h_room (by decide)) nl_1 zk_1 (by decide) rfl rfl rfl (Nat.le_of_ble_eq_true rfl) ?_
    refine c_X9_visitor ?_
    refine h_iload_n dX9_letVisit_15 rfl 2 rfl ?_
    refine h_pick [1] [(1, .ref h)] rfl ?_
    refine h_invV (As := [.ref h, .int (fVis (I 1 10) (I 9) (I h 1)), .int k]) (st := []) dX9_letVisit_16 lk_X9_125 (h_room (by decide)) nl_1 zk_1 (by decide) rfl rfl rfl (Nat.le_of_ble_eq_true rfl) ?_
    exact k2 c1
set_option maxHeartbeats 1000000 in
set_option maxRecDepth 20000 in
theorem sg_X9_letVisit_19 {E : HEn} {d : Nat} {Q : Option Value → HIh → Prop} {I : HIh} {h : Nat} (a_h : h < NL) (b_h : Zk h = 3)
    (k1 : Q none (setI I h (upd (I h) 1 ((I h 1) + 1))))
    : HGo E (mF E (d + 3) Q) me_X9_letVisit 19 [(1, .ref h)] [] I := by
  refine h_aload_n dX9_letVisit_19 rfl 0 rfl ?_
  refine h_dup dX9_letVisit_20 rfl ?_
  refine gf_3_1 dX9_letVisit_21 hl_X9_80 a_h b_h ?_
  refine h_iconst (v := 1) dX9_letVisit_24 (by decide) ?_
  refine h_iadd dX9_letVisit_25 ?_
  refine pf_3_1 dX9_letVisit_26 hl_X9_80 a_h b_h ?_
  exact h_vret dX9_letVisit_29 rfl (k1)
set_option maxHeartbeats 1000000 in
set_option maxRecDepth 20000 in
theorem sg_X8_wouldThrow_G_0 {E : HEn} {d : Nat} {Q : Option Value → HIh → Prop} {I : HIh} {h : Nat} {p : Int32} (a_h : h < NL) (b_h : Zk h = 3)
    (k1 : HGo E (mF E (d + 3) Q) me_X8_wouldThrow 14 [(0, .ref 3), (1, .ref 1), (2, .ref h), (3, .int p), (4, .int (-1)), (5, .int 1), (6, .int 0)] [] I)
    : HGo E (mF E (d + 3) Q) me_X8_wouldThrow 0 [(0, .ref 3), (1, .ref 1), (2, .ref h), (3, .int p)] [] I := by
  refine h_iconst (v := (-1)) dX8_wouldThrow_0 (by decide) ?_
  refine h_istore (L' := [(4, .int (-1)), (0, .ref 3), (1, .ref 1), (2, .ref h), (3, .int p)]) dX8_wouldThrow_1 (by decide) rfl ?_
  refine h_aload_n dX8_wouldThrow_3 rfl 1 rfl ?_
  refine h_aload_n dX8_wouldThrow_4 rfl 2 rfl ?_
  refine h_iload_n dX8_wouldThrow_5 rfl 4 rfl ?_
  refine h_invU (As := [.ref 1, .int p]) (st := []) dX8_wouldThrow_6 lk_X8_9_X3 (h_room (by decide)) nl_3 zk_3 (by decide) rfl rfl rfl (Nat.le_of_ble_eq_true rfl) ?_
  refine c_X8_leastGain_G ?_
  refine h_istore (L' := [(5, .int 1), (4, .int (-1)), (0, .ref 3), (1, .ref 1), (2, .ref h), (3, .int p)]) dX8_wouldThrow_9 (by decide) rfl ?_
  refine h_iconst (v := 0) dX8_wouldThrow_11 (by decide) ?_
  refine h_istore (L' := [(6, .int 0), (5, .int 1), (4, .int (-1)), (0, .ref 3), (1, .ref 1), (2, .ref h), (3, .int p)]) dX8_wouldThrow_12 (by decide) rfl ?_
  refine h_pick [3, 4, 5, 6, 2, 1, 0] [(0, .ref 3), (1, .ref 1), (2, .ref h), (3, .int p), (4, .int (-1)), (5, .int 1), (6, .int 0)] rfl ?_
  exact k1
set_option maxHeartbeats 1000000 in
set_option maxRecDepth 20000 in
theorem sg_X8_wouldThrow_G_14 {E : HEn} {d : Nat} {Q : Option Value → HIh → Prop} {I : HIh} {h c : Nat} {x3 : Int32} {x4 : Int32} {x5 : Int32} {x6 : Int32} (a_h : h < NL) (b_h : Zk h = 3) (p_h : Zp h 0 = c) (a_c : c < NL) (b_c : Zk c = 11) (n_c : Zn c = 30)
    (k1 : (I 1 9) ≤ x6 → Q (some (.int x4)) I)
    (k2 : ¬ (I 1 9) ≤ x6 → (fOf (I c) x3 x6) ≤ 0 → 0 < x5 → HGo E (mF E (d + 3) Q) me_X8_wouldThrow 14 [(0, .ref 3), (1, .ref 1), (2, .ref h), (3, .int x3), (4, .int x4), (5, .int x5), (6, .int (x6 + 1))] [] I)
    (k3 : ¬ (I 1 9) ≤ x6 → (fOf (I c) x3 x6) ≤ 0 → ¬ 0 < x5 → HGo E (mF E (d + 3) Q) me_X8_wouldThrow 14 [(0, .ref 3), (1, .ref 1), (2, .ref h), (3, .int x3), (4, .int x6), (5, .int (0 + 1)), (6, .int (x6 + 1))] [] I)
    (k4 : ¬ (I 1 9) ≤ x6 → ¬ (fOf (I c) x3 x6) ≤ 0 → HCall E me_X9_gainOf (d + 2) [.ref 1, .ref h, .int x6] I (fun v9 J => HGo E (mF E (d + 3) Q) me_X8_wouldThrow 40 [(0, .ref 3), (1, .ref 1), (2, .ref h), (3, .int x3), (4, .int x4), (5, .int x5), (6, .int x6)] (v9.toList ++ []) J))
    : HGo E (mF E (d + 3) Q) me_X8_wouldThrow 14 [(0, .ref 3), (1, .ref 1), (2, .ref h), (3, .int x3), (4, .int x4), (5, .int x5), (6, .int x6)] [] I := by
  refine h_iload dX8_wouldThrow_14 6 rfl ?_
  refine h_aload_n dX8_wouldThrow_16 rfl 1 rfl ?_
  refine gf_7_9 dX8_wouldThrow_17 hl_X8_15 nl_1 zk_1 ?_
  refine h_icmp_ge (tgt := 79) dX8_wouldThrow_20 (by decide) (fun c1 => ?_) (fun c1 => ?_)
  ·
    refine h_iload dX8_wouldThrow_79 4 rfl ?_
    exact h_iret dX8_wouldThrow_81 rfl (k1 c1)
  ·
    refine h_aload_n dX8_wouldThrow_23 rfl 2 rfl ?_
    refine h_iload_n dX8_wouldThrow_24 rfl 3 rfl ?_
    refine h_iload dX8_wouldThrow_25 6 rfl ?_
    refine h_invV (As := [.int x3, .int x6]) (st := []) dX8_wouldThrow_27 lk_X8_21 (h_room (by decide)) a_h b_h (by decide) rfl rfl rfl (Nat.le_of_ble_eq_true rfl) ?_
    refine c_X4_of a_h b_h p_h a_c b_c n_c ?_
    refine h_if_le (tgt := 43) dX8_wouldThrow_30 (by decide) (fun c2 => ?_) (fun c2 => ?_)
    ·
      refine h_iconst (v := 0) dX8_wouldThrow_43 (by decide) ?_
      refine h_istore (L' := [(7, .int 0), (0, .ref 3), (1, .ref 1), (2, .ref h), (3, .int x3), (4, .int x4), (5, .int x5), (6, .int x6)]) dX8_wouldThrow_44 (by decide) rfl ?_
      refine h_iload dX8_wouldThrow_46 0 rfl ?_
      refine h_iload dX8_wouldThrow_48 6 rfl ?_
      refine h_icmp_lt (tgt := 73) dX8_wouldThrow_50 (by decide) (fun c3 => ?_) (fun c3 => ?_)
      ·
        refine h_iinc (v := (x6 + 1)) (L' := [(6, .int (x6 + 1)), (7, .int 0), (0, .ref 3), (1, .ref 1), (2, .ref h), (3, .int x3), (4, .int x4), (5, .int x5)]) dX8_wouldThrow_73 7 rfl rfl (by decide) rfl ?_
        refine h_goto (tgt := 14) dX8_wouldThrow_76 (by decide) ?_
        refine h_pick [2, 3, 4, 5, 6, 7, 0] [(0, .ref 3), (1, .ref 1), (2, .ref h), (3, .int x3), (4, .int x4), (5, .int x5), (6, .int (x6 + 1))] rfl ?_
        exact k2 c1 c2 c3
      ·
        refine h_iload dX8_wouldThrow_53 7 rfl ?_
        refine h_istore (L' := [(4, .int x6), (7, .int 0), (0, .ref 3), (1, .ref 1), (2, .ref h), (3, .int x3), (5, .int x5), (6, .int x6)]) dX8_wouldThrow_55 (by decide) rfl ?_
        refine h_iload dX8_wouldThrow_57 1 rfl ?_
        refine h_iconst (v := 1) dX8_wouldThrow_59 (by decide) ?_
        refine h_iadd dX8_wouldThrow_60 ?_
        refine h_istore (L' := [(5, .int (0 + 1)), (4, .int x6), (7, .int 0), (0, .ref 3), (1, .ref 1), (2, .ref h), (3, .int x3), (6, .int x6)]) dX8_wouldThrow_61 (by decide) rfl ?_
        refine h_aload_n dX8_wouldThrow_63 rfl 3 rfl ?_
        refine h_invU (As := []) (st := []) dX8_wouldThrow_64 lk_X8_31_X3 (h_room (by decide)) nl_3 zk_3 (by decide) rfl rfl rfl (Nat.le_of_ble_eq_true rfl) ?_
        refine c_X3_comparesAll ?_
        refine h_if_ne (tgt := 73) dX8_wouldThrow_67 (by decide) (fun _ => ?_) (fun c => absurd c (by decide))
        refine h_iinc (v := (x6 + 1)) (L' := [(6, .int (x6 + 1)), (5, .int (0 + 1)), (4, .int x6), (7, .int 0), (0, .ref 3), (1, .ref 1), (2, .ref h), (3, .int x3)]) dX8_wouldThrow_73 7 rfl rfl (by decide) rfl ?_
        refine h_goto (tgt := 14) dX8_wouldThrow_76 (by decide) ?_
        refine h_pick [4, 5, 6, 7, 2, 1, 0] [(0, .ref 3), (1, .ref 1), (2, .ref h), (3, .int x3), (4, .int x6), (5, .int (0 + 1)), (6, .int (x6 + 1))] rfl ?_
        exact k3 c1 c2 c3
    ·
      refine h_aload_n dX8_wouldThrow_33 rfl 1 rfl ?_
      refine h_aload_n dX8_wouldThrow_34 rfl 2 rfl ?_
      refine h_iload dX8_wouldThrow_35 6 rfl ?_
      refine h_invV (As := [.ref h, .int x6]) (st := []) dX8_wouldThrow_37 lk_X8_27 (h_room (by decide)) nl_1 zk_1 (by decide) rfl rfl rfl (Nat.le_of_ble_eq_true rfl) ?_
      exact k4 c1 c2
set_option maxHeartbeats 1000000 in
set_option maxRecDepth 20000 in
theorem sg_X8_wouldThrow_G_40 {E : HEn} {d : Nat} {Q : Option Value → HIh → Prop} {I : HIh} {h : Nat} {x3 : Int32} {x4 : Int32} {x5 : Int32} {x6 : Int32} {s0 : Int32} (a_h : h < NL) (b_h : Zk h = 3)
    (k1 : s0 < x5 → HGo E (mF E (d + 3) Q) me_X8_wouldThrow 14 [(0, .ref 3), (1, .ref 1), (2, .ref h), (3, .int x3), (4, .int x4), (5, .int x5), (6, .int (x6 + 1))] [] I)
    (k2 : ¬ s0 < x5 → HGo E (mF E (d + 3) Q) me_X8_wouldThrow 14 [(0, .ref 3), (1, .ref 1), (2, .ref h), (3, .int x3), (4, .int x6), (5, .int (s0 + 1)), (6, .int (x6 + 1))] [] I)
    : HGo E (mF E (d + 3) Q) me_X8_wouldThrow 40 [(0, .ref 3), (1, .ref 1), (2, .ref h), (3, .int x3), (4, .int x4), (5, .int x5), (6, .int x6)] [.int s0] I := by
  refine h_goto (tgt := 44) dX8_wouldThrow_40 (by decide) ?_
  refine h_istore (L' := [(7, .int s0), (0, .ref 3), (1, .ref 1), (2, .ref h), (3, .int x3), (4, .int x4), (5, .int x5), (6, .int x6)]) dX8_wouldThrow_44 (by decide) rfl ?_
  refine h_iload dX8_wouldThrow_46 0 rfl ?_
  refine h_iload dX8_wouldThrow_48 6 rfl ?_
  refine h_icmp_lt (tgt := 73) dX8_wouldThrow_50 (by decide) (fun c1 => ?_) (fun c1 => ?_)
  ·
    refine h_iinc (v := (x6 + 1)) (L' := [(6, .int (x6 + 1)), (7, .int s0), (0, .ref 3), (1, .ref 1), (2, .ref h), (3, .int x3), (4, .int x4), (5, .int x5)]) dX8_wouldThrow_73 7 rfl rfl (by decide) rfl ?_
    refine h_goto (tgt := 14) dX8_wouldThrow_76 (by decide) ?_
    refine h_pick [2, 3, 4, 5, 6, 7, 0] [(0, .ref 3), (1, .ref 1), (2, .ref h), (3, .int x3), (4, .int x4), (5, .int x5), (6, .int (x6 + 1))] rfl ?_
    exact k1 c1
  ·
    refine h_iload dX8_wouldThrow_53 7 rfl ?_
    refine h_istore (L' := [(4, .int x6), (7, .int s0), (0, .ref 3), (1, .ref 1), (2, .ref h), (3, .int x3), (5, .int x5), (6, .int x6)]) dX8_wouldThrow_55 (by decide) rfl ?_
    refine h_iload dX8_wouldThrow_57 1 rfl ?_
    refine h_iconst (v := 1) dX8_wouldThrow_59 (by decide) ?_
    refine h_iadd dX8_wouldThrow_60 ?_
    refine h_istore (L' := [(5, .int (s0 + 1)), (4, .int x6), (7, .int s0), (0, .ref 3), (1, .ref 1), (2, .ref h), (3, .int x3), (6, .int x6)]) dX8_wouldThrow_61 (by decide) rfl ?_
    refine h_aload_n dX8_wouldThrow_63 rfl 3 rfl ?_
    refine h_invU (As := []) (st := []) dX8_wouldThrow_64 lk_X8_31_X3 (h_room (by decide)) nl_3 zk_3 (by decide) rfl rfl rfl (Nat.le_of_ble_eq_true rfl) ?_
    refine c_X3_comparesAll ?_
    refine h_if_ne (tgt := 73) dX8_wouldThrow_67 (by decide) (fun _ => ?_) (fun c => absurd c (by decide))
    refine h_iinc (v := (x6 + 1)) (L' := [(6, .int (x6 + 1)), (5, .int (s0 + 1)), (4, .int x6), (7, .int s0), (0, .ref 3), (1, .ref 1), (2, .ref h), (3, .int x3)]) dX8_wouldThrow_73 7 rfl rfl (by decide) rfl ?_
    refine h_goto (tgt := 14) dX8_wouldThrow_76 (by decide) ?_
    refine h_pick [4, 5, 6, 7, 2, 1, 0] [(0, .ref 3), (1, .ref 1), (2, .ref h), (3, .int x3), (4, .int x6), (5, .int (s0 + 1)), (6, .int (x6 + 1))] rfl ?_
    exact k2 c1
set_option maxHeartbeats 1000000 in
set_option maxRecDepth 20000 in
theorem sg_X8_wouldThrow_W_0 {E : HEn} {d : Nat} {Q : Option Value → HIh → Prop} {I : HIh} {h : Nat} {p : Int32} (a_h : h < NL) (b_h : Zk h = 3)
    (k1 : HGo E (mF E (d + 3) Q) me_X8_wouldThrow 14 [(0, .ref 4), (1, .ref 1), (2, .ref h), (3, .int p), (4, .int (-1)), (5, .int (fMax 1 (fBnd (I 8) p))), (6, .int 0)] [] I)
    : HGo E (mF E (d + 3) Q) me_X8_wouldThrow 0 [(0, .ref 4), (1, .ref 1), (2, .ref h), (3, .int p)] [] I := by
  refine h_iconst (v := (-1)) dX8_wouldThrow_0 (by decide) ?_
  refine h_istore (L' := [(4, .int (-1)), (0, .ref 4), (1, .ref 1), (2, .ref h), (3, .int p)]) dX8_wouldThrow_1 (by decide) rfl ?_
  refine h_aload_n dX8_wouldThrow_3 rfl 1 rfl ?_
  refine h_aload_n dX8_wouldThrow_4 rfl 2 rfl ?_
  refine h_iload_n dX8_wouldThrow_5 rfl 4 rfl ?_
  refine h_invU (As := [.ref 1, .int p]) (st := []) dX8_wouldThrow_6 lk_X8_9_X10 (h_room (by decide)) nl_4 zk_4 (by decide) rfl rfl rfl (Nat.le_of_ble_eq_true rfl) ?_
  refine c_X10_leastGain ?_
  refine h_istore (L' := [(5, .int (fMax 1 (fBnd (I 8) p))), (4, .int (-1)), (0, .ref 4), (1, .ref 1), (2, .ref h), (3, .int p)]) dX8_wouldThrow_9 (by decide) rfl ?_
  refine h_iconst (v := 0) dX8_wouldThrow_11 (by decide) ?_
  refine h_istore (L' := [(6, .int 0), (5, .int (fMax 1 (fBnd (I 8) p))), (4, .int (-1)), (0, .ref 4), (1, .ref 1), (2, .ref h), (3, .int p)]) dX8_wouldThrow_12 (by decide) rfl ?_
  refine h_pick [3, 4, 5, 6, 2, 1, 0] [(0, .ref 4), (1, .ref 1), (2, .ref h), (3, .int p), (4, .int (-1)), (5, .int (fMax 1 (fBnd (I 8) p))), (6, .int 0)] rfl ?_
  exact k1
set_option maxHeartbeats 1000000 in
set_option maxRecDepth 20000 in
theorem sg_X8_wouldThrow_W_14 {E : HEn} {d : Nat} {Q : Option Value → HIh → Prop} {I : HIh} {h c : Nat} {x3 : Int32} {x4 : Int32} {x5 : Int32} {x6 : Int32} (a_h : h < NL) (b_h : Zk h = 3) (p_h : Zp h 0 = c) (a_c : c < NL) (b_c : Zk c = 11) (n_c : Zn c = 30)
    (k1 : (I 1 9) ≤ x6 → Q (some (.int x4)) I)
    (k2 : ¬ (I 1 9) ≤ x6 → (fOf (I c) x3 x6) ≤ 0 → 0 < x5 → HGo E (mF E (d + 3) Q) me_X8_wouldThrow 14 [(0, .ref 4), (1, .ref 1), (2, .ref h), (3, .int x3), (4, .int x4), (5, .int x5), (6, .int (x6 + 1))] [] I)
    (k3 : ¬ (I 1 9) ≤ x6 → (fOf (I c) x3 x6) ≤ 0 → ¬ 0 < x5 → HGo E (mF E (d + 3) Q) me_X8_wouldThrow 14 [(0, .ref 4), (1, .ref 1), (2, .ref h), (3, .int x3), (4, .int x6), (5, .int (0 + 1)), (6, .int (x6 + 1))] [] I)
    (k4 : ¬ (I 1 9) ≤ x6 → ¬ (fOf (I c) x3 x6) ≤ 0 → HCall E me_X9_gainOf (d + 2) [.ref 1, .ref h, .int x6] I (fun v9 J => HGo E (mF E (d + 3) Q) me_X8_wouldThrow 40 [(0, .ref 4), (1, .ref 1), (2, .ref h), (3, .int x3), (4, .int x4), (5, .int x5), (6, .int x6)] (v9.toList ++ []) J))
    : HGo E (mF E (d + 3) Q) me_X8_wouldThrow 14 [(0, .ref 4), (1, .ref 1), (2, .ref h), (3, .int x3), (4, .int x4), (5, .int x5), (6, .int x6)] [] I := by
  refine h_iload dX8_wouldThrow_14 6 rfl ?_
  refine h_aload_n dX8_wouldThrow_16 rfl 1 rfl ?_
  refine gf_7_9 dX8_wouldThrow_17 hl_X8_15 nl_1 zk_1 ?_
  refine h_icmp_ge (tgt := 79) dX8_wouldThrow_20 (by decide) (fun c1 => ?_) (fun c1 => ?_)
  ·
    refine h_iload dX8_wouldThrow_79 4 rfl ?_
    exact h_iret dX8_wouldThrow_81 rfl (k1 c1)
  ·
    refine h_aload_n dX8_wouldThrow_23 rfl 2 rfl ?_
    refine h_iload_n dX8_wouldThrow_24 rfl 3 rfl ?_
    refine h_iload dX8_wouldThrow_25 6 rfl ?_
    refine h_invV (As := [.int x3, .int x6]) (st := []) dX8_wouldThrow_27 lk_X8_21 (h_room (by decide)) a_h b_h (by decide) rfl rfl rfl (Nat.le_of_ble_eq_true rfl) ?_
    refine c_X4_of a_h b_h p_h a_c b_c n_c ?_
    refine h_if_le (tgt := 43) dX8_wouldThrow_30 (by decide) (fun c2 => ?_) (fun c2 => ?_)
    ·
      refine h_iconst (v := 0) dX8_wouldThrow_43 (by decide) ?_
      refine h_istore (L' := [(7, .int 0), (0, .ref 4), (1, .ref 1), (2, .ref h), (3, .int x3), (4, .int x4), (5, .int x5), (6, .int x6)]) dX8_wouldThrow_44 (by decide) rfl ?_
      refine h_iload dX8_wouldThrow_46 0 rfl ?_
      refine h_iload dX8_wouldThrow_48 6 rfl ?_
      refine h_icmp_lt (tgt := 73) dX8_wouldThrow_50 (by decide) (fun c3 => ?_) (fun c3 => ?_)
      ·
        refine h_iinc (v := (x6 + 1)) (L' := [(6, .int (x6 + 1)), (7, .int 0), (0, .ref 4), (1, .ref 1), (2, .ref h), (3, .int x3), (4, .int x4), (5, .int x5)]) dX8_wouldThrow_73 7 rfl rfl (by decide) rfl ?_
        refine h_goto (tgt := 14) dX8_wouldThrow_76 (by decide) ?_
        refine h_pick [2, 3, 4, 5, 6, 7, 0] [(0, .ref 4), (1, .ref 1), (2, .ref h), (3, .int x3), (4, .int x4), (5, .int x5), (6, .int (x6 + 1))] rfl ?_
        exact k2 c1 c2 c3
      ·
        refine h_iload dX8_wouldThrow_53 7 rfl ?_
        refine h_istore (L' := [(4, .int x6), (7, .int 0), (0, .ref 4), (1, .ref 1), (2, .ref h), (3, .int x3), (5, .int x5), (6, .int x6)]) dX8_wouldThrow_55 (by decide) rfl ?_
        refine h_iload dX8_wouldThrow_57 1 rfl ?_
        refine h_iconst (v := 1) dX8_wouldThrow_59 (by decide) ?_
        refine h_iadd dX8_wouldThrow_60 ?_
        refine h_istore (L' := [(5, .int (0 + 1)), (4, .int x6), (7, .int 0), (0, .ref 4), (1, .ref 1), (2, .ref h), (3, .int x3), (6, .int x6)]) dX8_wouldThrow_61 (by decide) rfl ?_
        refine h_aload_n dX8_wouldThrow_63 rfl 3 rfl ?_
        refine h_invU (As := []) (st := []) dX8_wouldThrow_64 lk_X8_31_X10 (h_room (by decide)) nl_4 zk_4 (by decide) rfl rfl rfl (Nat.le_of_ble_eq_true rfl) ?_
        refine c_X3_comparesAll_W ?_
        refine h_if_ne (tgt := 73) dX8_wouldThrow_67 (by decide) (fun _ => ?_) (fun c => absurd c (by decide))
        refine h_iinc (v := (x6 + 1)) (L' := [(6, .int (x6 + 1)), (5, .int (0 + 1)), (4, .int x6), (7, .int 0), (0, .ref 4), (1, .ref 1), (2, .ref h), (3, .int x3)]) dX8_wouldThrow_73 7 rfl rfl (by decide) rfl ?_
        refine h_goto (tgt := 14) dX8_wouldThrow_76 (by decide) ?_
        refine h_pick [4, 5, 6, 7, 2, 1, 0] [(0, .ref 4), (1, .ref 1), (2, .ref h), (3, .int x3), (4, .int x6), (5, .int (0 + 1)), (6, .int (x6 + 1))] rfl ?_
        exact k3 c1 c2 c3
    ·
      refine h_aload_n dX8_wouldThrow_33 rfl 1 rfl ?_
      refine h_aload_n dX8_wouldThrow_34 rfl 2 rfl ?_
      refine h_iload dX8_wouldThrow_35 6 rfl ?_
      refine h_invV (As := [.ref h, .int x6]) (st := []) dX8_wouldThrow_37 lk_X8_27 (h_room (by decide)) nl_1 zk_1 (by decide) rfl rfl rfl (Nat.le_of_ble_eq_true rfl) ?_
      exact k4 c1 c2
set_option maxHeartbeats 1000000 in
set_option maxRecDepth 20000 in
theorem sg_X8_wouldThrow_W_40 {E : HEn} {d : Nat} {Q : Option Value → HIh → Prop} {I : HIh} {h : Nat} {x3 : Int32} {x4 : Int32} {x5 : Int32} {x6 : Int32} {s0 : Int32} (a_h : h < NL) (b_h : Zk h = 3)
    (k1 : s0 < x5 → HGo E (mF E (d + 3) Q) me_X8_wouldThrow 14 [(0, .ref 4), (1, .ref 1), (2, .ref h), (3, .int x3), (4, .int x4), (5, .int x5), (6, .int (x6 + 1))] [] I)
    (k2 : ¬ s0 < x5 → HGo E (mF E (d + 3) Q) me_X8_wouldThrow 14 [(0, .ref 4), (1, .ref 1), (2, .ref h), (3, .int x3), (4, .int x6), (5, .int (s0 + 1)), (6, .int (x6 + 1))] [] I)
    : HGo E (mF E (d + 3) Q) me_X8_wouldThrow 40 [(0, .ref 4), (1, .ref 1), (2, .ref h), (3, .int x3), (4, .int x4), (5, .int x5), (6, .int x6)] [.int s0] I := by
  refine h_goto (tgt := 44) dX8_wouldThrow_40 (by decide) ?_
  refine h_istore (L' := [(7, .int s0), (0, .ref 4), (1, .ref 1), (2, .ref h), (3, .int x3), (4, .int x4), (5, .int x5), (6, .int x6)]) dX8_wouldThrow_44 (by decide) rfl ?_
  refine h_iload dX8_wouldThrow_46 0 rfl ?_
  refine h_iload dX8_wouldThrow_48 6 rfl ?_
  refine h_icmp_lt (tgt := 73) dX8_wouldThrow_50 (by decide) (fun c1 => ?_) (fun c1 => ?_)
  ·
    refine h_iinc (v := (x6 + 1)) (L' := [(6, .int (x6 + 1)), (7, .int s0), (0, .ref 4), (1, .ref 1), (2, .ref h), (3, .int x3), (4, .int x4), (5, .int x5)]) dX8_wouldThrow_73 7 rfl rfl (by decide) rfl ?_
    refine h_goto (tgt := 14) dX8_wouldThrow_76 (by decide) ?_
    refine h_pick [2, 3, 4, 5, 6, 7, 0] [(0, .ref 4), (1, .ref 1), (2, .ref h), (3, .int x3), (4, .int x4), (5, .int x5), (6, .int (x6 + 1))] rfl ?_
    exact k1 c1
  ·
    refine h_iload dX8_wouldThrow_53 7 rfl ?_
    refine h_istore (L' := [(4, .int x6), (7, .int s0), (0, .ref 4), (1, .ref 1), (2, .ref h), (3, .int x3), (5, .int x5), (6, .int x6)]) dX8_wouldThrow_55 (by decide) rfl ?_
    refine h_iload dX8_wouldThrow_57 1 rfl ?_
    refine h_iconst (v := 1) dX8_wouldThrow_59 (by decide) ?_
    refine h_iadd dX8_wouldThrow_60 ?_
    refine h_istore (L' := [(5, .int (s0 + 1)), (4, .int x6), (7, .int s0), (0, .ref 4), (1, .ref 1), (2, .ref h), (3, .int x3), (6, .int x6)]) dX8_wouldThrow_61 (by decide) rfl ?_
    refine h_aload_n dX8_wouldThrow_63 rfl 3 rfl ?_
    refine h_invU (As := []) (st := []) dX8_wouldThrow_64 lk_X8_31_X10 (h_room (by decide)) nl_4 zk_4 (by decide) rfl rfl rfl (Nat.le_of_ble_eq_true rfl) ?_
    refine c_X3_comparesAll_W ?_
    refine h_if_ne (tgt := 73) dX8_wouldThrow_67 (by decide) (fun _ => ?_) (fun c => absurd c (by decide))
    refine h_iinc (v := (x6 + 1)) (L' := [(6, .int (x6 + 1)), (5, .int (s0 + 1)), (4, .int x6), (7, .int s0), (0, .ref 4), (1, .ref 1), (2, .ref h), (3, .int x3)]) dX8_wouldThrow_73 7 rfl rfl (by decide) rfl ?_
    refine h_goto (tgt := 14) dX8_wouldThrow_76 (by decide) ?_
    refine h_pick [4, 5, 6, 7, 2, 1, 0] [(0, .ref 4), (1, .ref 1), (2, .ref h), (3, .int x3), (4, .int x6), (5, .int (s0 + 1)), (6, .int (x6 + 1))] rfl ?_
    exact k2 c1
set_option maxHeartbeats 1000000 in
set_option maxRecDepth 20000 in
theorem sg_X8_wouldThrow_C_0 {E : HEn} {d : Nat} {Q : Option Value → HIh → Prop} {I : HIh} {h : Nat} {p : Int32} (a_h : h < NL) (b_h : Zk h = 3)
    (k1 : HGo E (mF E (d + 3) Q) me_X8_wouldThrow 14 [(0, .ref 5), (1, .ref 1), (2, .ref h), (3, .int p), (4, .int (-1)), (5, .int 1), (6, .int 0)] [] I)
    : HGo E (mF E (d + 3) Q) me_X8_wouldThrow 0 [(0, .ref 5), (1, .ref 1), (2, .ref h), (3, .int p)] [] I := by
  refine h_iconst (v := (-1)) dX8_wouldThrow_0 (by decide) ?_
  refine h_istore (L' := [(4, .int (-1)), (0, .ref 5), (1, .ref 1), (2, .ref h), (3, .int p)]) dX8_wouldThrow_1 (by decide) rfl ?_
  refine h_aload_n dX8_wouldThrow_3 rfl 1 rfl ?_
  refine h_aload_n dX8_wouldThrow_4 rfl 2 rfl ?_
  refine h_iload_n dX8_wouldThrow_5 rfl 4 rfl ?_
  refine h_invU (As := [.ref 1, .int p]) (st := []) dX8_wouldThrow_6 lk_X8_9_X0 (h_room (by decide)) nl_5 zk_5 (by decide) rfl rfl rfl (Nat.le_of_ble_eq_true rfl) ?_
  refine c_X8_leastGain_C ?_
  refine h_istore (L' := [(5, .int 1), (4, .int (-1)), (0, .ref 5), (1, .ref 1), (2, .ref h), (3, .int p)]) dX8_wouldThrow_9 (by decide) rfl ?_
  refine h_iconst (v := 0) dX8_wouldThrow_11 (by decide) ?_
  refine h_istore (L' := [(6, .int 0), (5, .int 1), (4, .int (-1)), (0, .ref 5), (1, .ref 1), (2, .ref h), (3, .int p)]) dX8_wouldThrow_12 (by decide) rfl ?_
  refine h_pick [3, 4, 5, 6, 2, 1, 0] [(0, .ref 5), (1, .ref 1), (2, .ref h), (3, .int p), (4, .int (-1)), (5, .int 1), (6, .int 0)] rfl ?_
  exact k1
set_option maxHeartbeats 1000000 in
set_option maxRecDepth 20000 in
theorem sg_X8_wouldThrow_C_14 {E : HEn} {d : Nat} {Q : Option Value → HIh → Prop} {I : HIh} {h c : Nat} {x3 : Int32} {x4 : Int32} {x5 : Int32} {x6 : Int32} (a_h : h < NL) (b_h : Zk h = 3) (p_h : Zp h 0 = c) (a_c : c < NL) (b_c : Zk c = 11) (n_c : Zn c = 30)
    (k1 : (I 1 9) ≤ x6 → Q (some (.int x4)) I)
    (k2 : ¬ (I 1 9) ≤ x6 → (fOf (I c) x3 x6) ≤ 0 → 0 < x5 → HGo E (mF E (d + 3) Q) me_X8_wouldThrow 14 [(0, .ref 5), (1, .ref 1), (2, .ref h), (3, .int x3), (4, .int x4), (5, .int x5), (6, .int (x6 + 1))] [] I)
    (k3 : ¬ (I 1 9) ≤ x6 → (fOf (I c) x3 x6) ≤ 0 → ¬ 0 < x5 → Q (some (.int x6)) I)
    (k4 : ¬ (I 1 9) ≤ x6 → ¬ (fOf (I c) x3 x6) ≤ 0 → HCall E me_X9_gainOf (d + 2) [.ref 1, .ref h, .int x6] I (fun v9 J => HGo E (mF E (d + 3) Q) me_X8_wouldThrow 40 [(0, .ref 5), (1, .ref 1), (2, .ref h), (3, .int x3), (4, .int x4), (5, .int x5), (6, .int x6)] (v9.toList ++ []) J))
    : HGo E (mF E (d + 3) Q) me_X8_wouldThrow 14 [(0, .ref 5), (1, .ref 1), (2, .ref h), (3, .int x3), (4, .int x4), (5, .int x5), (6, .int x6)] [] I := by
  refine h_iload dX8_wouldThrow_14 6 rfl ?_
  refine h_aload_n dX8_wouldThrow_16 rfl 1 rfl ?_
  refine gf_7_9 dX8_wouldThrow_17 hl_X8_15 nl_1 zk_1 ?_
  refine h_icmp_ge (tgt := 79) dX8_wouldThrow_20 (by decide) (fun c1 => ?_) (fun c1 => ?_)
  ·
    refine h_iload dX8_wouldThrow_79 4 rfl ?_
    exact h_iret dX8_wouldThrow_81 rfl (k1 c1)
  ·
    refine h_aload_n dX8_wouldThrow_23 rfl 2 rfl ?_
    refine h_iload_n dX8_wouldThrow_24 rfl 3 rfl ?_
    refine h_iload dX8_wouldThrow_25 6 rfl ?_
    refine h_invV (As := [.int x3, .int x6]) (st := []) dX8_wouldThrow_27 lk_X8_21 (h_room (by decide)) a_h b_h (by decide) rfl rfl rfl (Nat.le_of_ble_eq_true rfl) ?_
    refine c_X4_of a_h b_h p_h a_c b_c n_c ?_
    refine h_if_le (tgt := 43) dX8_wouldThrow_30 (by decide) (fun c2 => ?_) (fun c2 => ?_)
    ·
      refine h_iconst (v := 0) dX8_wouldThrow_43 (by decide) ?_
      refine h_istore (L' := [(7, .int 0), (0, .ref 5), (1, .ref 1), (2, .ref h), (3, .int x3), (4, .int x4), (5, .int x5), (6, .int x6)]) dX8_wouldThrow_44 (by decide) rfl ?_
      refine h_iload dX8_wouldThrow_46 0 rfl ?_
      refine h_iload dX8_wouldThrow_48 6 rfl ?_
      refine h_icmp_lt (tgt := 73) dX8_wouldThrow_50 (by decide) (fun c3 => ?_) (fun c3 => ?_)
      ·
        refine h_iinc (v := (x6 + 1)) (L' := [(6, .int (x6 + 1)), (7, .int 0), (0, .ref 5), (1, .ref 1), (2, .ref h), (3, .int x3), (4, .int x4), (5, .int x5)]) dX8_wouldThrow_73 7 rfl rfl (by decide) rfl ?_
        refine h_goto (tgt := 14) dX8_wouldThrow_76 (by decide) ?_
        refine h_pick [2, 3, 4, 5, 6, 7, 0] [(0, .ref 5), (1, .ref 1), (2, .ref h), (3, .int x3), (4, .int x4), (5, .int x5), (6, .int (x6 + 1))] rfl ?_
        exact k2 c1 c2 c3
      ·
        refine h_iload dX8_wouldThrow_53 7 rfl ?_
        refine h_istore (L' := [(4, .int x6), (7, .int 0), (0, .ref 5), (1, .ref 1), (2, .ref h), (3, .int x3), (5, .int x5), (6, .int x6)]) dX8_wouldThrow_55 (by decide) rfl ?_
        refine h_iload dX8_wouldThrow_57 1 rfl ?_
        refine h_iconst (v := 1) dX8_wouldThrow_59 (by decide) ?_
        refine h_iadd dX8_wouldThrow_60 ?_
        refine h_istore (L' := [(5, .int (0 + 1)), (4, .int x6), (7, .int 0), (0, .ref 5), (1, .ref 1), (2, .ref h), (3, .int x3), (6, .int x6)]) dX8_wouldThrow_61 (by decide) rfl ?_
        refine h_aload_n dX8_wouldThrow_63 rfl 3 rfl ?_
        refine h_invU (As := []) (st := []) dX8_wouldThrow_64 lk_X8_31_X0 (h_room (by decide)) nl_5 zk_5 (by decide) rfl rfl rfl (Nat.le_of_ble_eq_true rfl) ?_
        refine c_X0_comparesAll ?_
        refine h_if_ne (tgt := 73) dX8_wouldThrow_67 (by decide) (fun c => absurd c (by decide)) (fun _ => ?_)
        refine h_iload dX8_wouldThrow_70 1 rfl ?_
        exact h_iret dX8_wouldThrow_72 rfl (k3 c1 c2 c3)
    ·
      refine h_aload_n dX8_wouldThrow_33 rfl 1 rfl ?_
      refine h_aload_n dX8_wouldThrow_34 rfl 2 rfl ?_
      refine h_iload dX8_wouldThrow_35 6 rfl ?_
      refine h_invV (As := [.ref h, .int x6]) (st := []) dX8_wouldThrow_37 lk_X8_27 (h_room (by decide)) nl_1 zk_1 (by decide) rfl rfl rfl (Nat.le_of_ble_eq_true rfl) ?_
      exact k4 c1 c2
set_option maxHeartbeats 1000000 in
set_option maxRecDepth 20000 in
theorem sg_X8_wouldThrow_C_40 {E : HEn} {d : Nat} {Q : Option Value → HIh → Prop} {I : HIh} {h : Nat} {x3 : Int32} {x4 : Int32} {x5 : Int32} {x6 : Int32} {s0 : Int32} (a_h : h < NL) (b_h : Zk h = 3)
    (k1 : s0 < x5 → HGo E (mF E (d + 3) Q) me_X8_wouldThrow 14 [(0, .ref 5), (1, .ref 1), (2, .ref h), (3, .int x3), (4, .int x4), (5, .int x5), (6, .int (x6 + 1))] [] I)
    (k2 : ¬ s0 < x5 → Q (some (.int x6)) I)
    : HGo E (mF E (d + 3) Q) me_X8_wouldThrow 40 [(0, .ref 5), (1, .ref 1), (2, .ref h), (3, .int x3), (4, .int x4), (5, .int x5), (6, .int x6)] [.int s0] I := by
  refine h_goto (tgt := 44) dX8_wouldThrow_40 (by decide) ?_
  refine h_istore (L' := [(7, .int s0), (0, .ref 5), (1, .ref 1), (2, .ref h), (3, .int x3), (4, .int x4), (5, .int x5), (6, .int x6)]) dX8_wouldThrow_44 (by decide) rfl ?_
  refine h_iload dX8_wouldThrow_46 0 rfl ?_
  refine h_iload dX8_wouldThrow_48 6 rfl ?_
  refine h_icmp_lt (tgt := 73) dX8_wouldThrow_50 (by decide) (fun c1 => ?_) (fun c1 => ?_)
  ·
    refine h_iinc (v := (x6 + 1)) (L' := [(6, .int (x6 + 1)), (7, .int s0), (0, .ref 5), (1, .ref 1), (2, .ref h), (3, .int x3), (4, .int x4), (5, .int x5)]) dX8_wouldThrow_73 7 rfl rfl (by decide) rfl ?_
    refine h_goto (tgt := 14) dX8_wouldThrow_76 (by decide) ?_
    refine h_pick [2, 3, 4, 5, 6, 7, 0] [(0, .ref 5), (1, .ref 1), (2, .ref h), (3, .int x3), (4, .int x4), (5, .int x5), (6, .int (x6 + 1))] rfl ?_
    exact k1 c1
  ·
    refine h_iload dX8_wouldThrow_53 7 rfl ?_
    refine h_istore (L' := [(4, .int x6), (7, .int s0), (0, .ref 5), (1, .ref 1), (2, .ref h), (3, .int x3), (5, .int x5), (6, .int x6)]) dX8_wouldThrow_55 (by decide) rfl ?_
    refine h_iload dX8_wouldThrow_57 1 rfl ?_
    refine h_iconst (v := 1) dX8_wouldThrow_59 (by decide) ?_
    refine h_iadd dX8_wouldThrow_60 ?_
    refine h_istore (L' := [(5, .int (s0 + 1)), (4, .int x6), (7, .int s0), (0, .ref 5), (1, .ref 1), (2, .ref h), (3, .int x3), (6, .int x6)]) dX8_wouldThrow_61 (by decide) rfl ?_
    refine h_aload_n dX8_wouldThrow_63 rfl 3 rfl ?_
    refine h_invU (As := []) (st := []) dX8_wouldThrow_64 lk_X8_31_X0 (h_room (by decide)) nl_5 zk_5 (by decide) rfl rfl rfl (Nat.le_of_ble_eq_true rfl) ?_
    refine c_X0_comparesAll ?_
    refine h_if_ne (tgt := 73) dX8_wouldThrow_67 (by decide) (fun c => absurd c (by decide)) (fun _ => ?_)
    refine h_iload dX8_wouldThrow_70 1 rfl ?_
    exact h_iret dX8_wouldThrow_72 rfl (k2 c1)
set_option maxHeartbeats 1000000 in
set_option maxRecDepth 20000 in
theorem sg_X6_fits_0 {E : HEn} {d : Nat} {Q : Option Value → HIh → Prop} {I : HIh} {v : Int32}
    (k1 : HGo E (mF E (d + 3) Q) me_X6_fits 9 [(0, .ref 80), (1, .int v), (2, .int 0)] [] (setI I 82 (fEmp (I 82))))
    : HGo E (mF E (d + 3) Q) me_X6_fits 0 [(0, .ref 80), (1, .int v)] [] I := by
  refine h_aload_n dX6_fits_0 rfl 0 rfl ?_
  refine gf_5_1 dX6_fits_1 hl_X6_12 nl_80 zk_80 zp_80_1 ?_
  refine h_invV (As := []) (st := []) dX6_fits_4 lk_X6_64 (h_room (by decide)) nl_81 zk_81 (by decide) rfl rfl rfl (Nat.le_of_ble_eq_true rfl) ?_
  refine c_X4_empty nl_81 zk_81 zp_81_0 nl_82 zk_82 zn_82 ?_
  refine h_iconst (v := 0) dX6_fits_7 (by decide) ?_
  refine h_istore_n (L' := [(2, .int 0), (0, .ref 80), (1, .int v)]) dX6_fits_8 rfl (by decide) rfl ?_
  refine h_pick [1, 2, 0] [(0, .ref 80), (1, .int v), (2, .int 0)] rfl ?_
  exact k1
set_option maxHeartbeats 1000000 in
set_option maxRecDepth 20000 in
theorem sg_X6_fits_9 {E : HEn} {d : Nat} {Q : Option Value → HIh → Prop} {I : HIh} {x1 : Int32} {x2 : Int32}
    (k1 : (I 1 9) ≤ x2 → HGo E (mF E (d + 3) Q) me_X6_fits 43 [(0, .ref 80), (2, .int 0)] [] I)
    (k2 : ¬ (I 1 9) ≤ x2 → HGo E (mF E (d + 3) Q) me_X6_fits 9 [(0, .ref 80), (1, .int x1), (2, .int (x2 + 1))] [] (setI I 82 (fAdd (I 82) 4 x2 ((x1 >>> ((2 * (((I 1 9) - 1) - x2)) &&& 31)) &&& 3))))
    : HGo E (mF E (d + 3) Q) me_X6_fits 9 [(0, .ref 80), (1, .int x1), (2, .int x2)] [] I := by
  refine h_iload_n dX6_fits_9 rfl 2 rfl ?_
  refine h_aload_n dX6_fits_10 rfl 0 rfl ?_
  refine gf_5_0 dX6_fits_11 hl_X6_31 nl_80 zk_80 zp_80_0 ?_
  refine gf_7_9 dX6_fits_14 hl_X6_45 nl_1 zk_1 ?_
  refine h_icmp_ge (tgt := 41) dX6_fits_17 (by decide) (fun c1 => ?_) (fun c1 => ?_)
  ·
    refine h_iconst (v := 0) dX6_fits_41 (by decide) ?_
    refine h_istore_n (L' := [(2, .int 0), (0, .ref 80), (1, .int x1)]) dX6_fits_42 rfl (by decide) rfl ?_
    refine h_pick [1, 0] [(0, .ref 80), (2, .int 0)] rfl ?_
    exact k1 c1
  ·
    refine h_aload_n dX6_fits_20 rfl 0 rfl ?_
    refine gf_5_1 dX6_fits_21 hl_X6_12 nl_80 zk_80 zp_80_1 ?_
    refine h_iconst (v := 4) dX6_fits_24 (by decide) ?_
    refine h_iload_n dX6_fits_25 rfl 2 rfl ?_
    refine h_aload_n dX6_fits_26 rfl 0 rfl ?_
    refine h_iload_n dX6_fits_27 rfl 1 rfl ?_
    refine h_iload_n dX6_fits_28 rfl 2 rfl ?_
    refine h_invV (As := [.int x1, .int x2]) (st := [.int x2, .int 4, .ref 81]) dX6_fits_29 lk_X6_67 (h_room (by decide)) nl_80 zk_80 (by decide) rfl rfl rfl (Nat.le_of_ble_eq_true rfl) ?_
    refine c_X6_figureOf ?_
    refine h_invV (As := [.int 4, .int x2, .int ((x1 >>> ((2 * (((I 1 9) - 1) - x2)) &&& 31)) &&& 3)]) (st := []) dX6_fits_32 lk_X6_70 (h_room (by decide)) nl_81 zk_81 (by decide) rfl rfl rfl (Nat.le_of_ble_eq_true rfl) ?_
    refine c_X4_add nl_81 zk_81 zp_81_0 nl_82 zk_82 zn_82 ?_
    refine h_iinc (v := (x2 + 1)) (L' := [(2, .int (x2 + 1)), (0, .ref 80), (1, .int x1)]) dX6_fits_35 2 rfl rfl (by decide) rfl ?_
    refine h_goto (tgt := 9) dX6_fits_38 (by decide) ?_
    refine h_pick [1, 2, 0] [(0, .ref 80), (1, .int x1), (2, .int (x2 + 1))] rfl ?_
    exact k2 c1
set_option maxHeartbeats 1000000 in
set_option maxRecDepth 20000 in
theorem sg_X6_fits_43 {E : HEn} {d : Nat} {Q : Option Value → HIh → Prop} {I : HIh} {x2 : Int32}
    (k1 : (I 80 6) ≤ x2 → Q (some (.int 1)) I)
    (k2 : ¬ (I 80 6) ≤ x2 → 6 ≤ x2 → Q (some (.int 1)) I)
    (k3 : ¬ (I 80 6) ≤ x2 → ¬ 6 ≤ x2 → vp_in x2 6)
    (k4 : ¬ (I 80 6) ≤ x2 → ¬ 6 ≤ x2 → HCall E me_X9_gainOf (d + 2) [.ref 1, .ref 81, .int (I 83 x2.toNatClampNeg)] I (fun v9 J => HGo E (mF E (d + 3) Q) me_X6_fits 74 [(0, .ref 80), (2, .int x2)] (v9.toList ++ []) J))
    : HGo E (mF E (d + 3) Q) me_X6_fits 43 [(0, .ref 80), (2, .int x2)] [] I := by
  refine h_iload_n dX6_fits_43 rfl 1 rfl ?_
  refine h_aload_n dX6_fits_44 rfl 0 rfl ?_
  refine gf_5_6 dX6_fits_45 hl_X6_35 nl_80 zk_80 ?_
  refine h_icmp_ge (tgt := 123) dX6_fits_48 (by decide) (fun c1 => ?_) (fun c1 => ?_)
  ·
    refine h_iconst (v := 1) dX6_fits_123 (by decide) ?_
    exact h_zret dX6_fits_124 rfl rfl (k1 c1)
  ·
    refine h_iload_n dX6_fits_51 rfl 1 rfl ?_
    refine h_bipush (v := 6) dX6_fits_52 (by decide) ?_
    refine h_icmp_ge (tgt := 123) dX6_fits_54 (by decide) (fun c2 => ?_) (fun c2 => ?_)
    ·
      refine h_iconst (v := 1) dX6_fits_123 (by decide) ?_
      exact h_zret dX6_fits_124 rfl rfl (k2 c1 c2)
    ·
      refine h_aload_n dX6_fits_57 rfl 0 rfl ?_
      refine gf_5_0 dX6_fits_58 hl_X6_31 nl_80 zk_80 zp_80_0 ?_
      refine h_aload_n dX6_fits_61 rfl 0 rfl ?_
      refine gf_5_1 dX6_fits_62 hl_X6_12 nl_80 zk_80 zp_80_1 ?_
      refine h_aload_n dX6_fits_65 rfl 0 rfl ?_
      refine gf_5_2 dX6_fits_66 hl_X6_18 nl_80 zk_80 zp_80_2 ?_
      refine h_iload_n dX6_fits_69 rfl 1 rfl ?_
      refine h_iald dX6_fits_70 nl_83 zk_83 (by rw [zn_83]; exact k3 c1 c2) ?_
      refine h_invV (As := [.ref 81, .int (I 83 x2.toNatClampNeg)]) (st := []) dX6_fits_71 lk_X6_74 (h_room (by decide)) nl_1 zk_1 (by decide) rfl rfl rfl (Nat.le_of_ble_eq_true rfl) ?_
      exact k4 c1 c2
set_option maxHeartbeats 1000000 in
set_option maxRecDepth 20000 in
theorem sg_X6_fits_74 {E : HEn} {d : Nat} {Q : Option Value → HIh → Prop} {I : HIh} {x2 : Int32} {s0 : Int32}
    (k1 : vp_in x2 6)
    (k2 : (s0 + (fWor (I 6) (I 83 x2.toNatClampNeg))) = (I 84 x2.toNatClampNeg) → vp_in x2 6)
    (k3 : (s0 + (fWor (I 6) (I 83 x2.toNatClampNeg))) = (I 84 x2.toNatClampNeg) → HCall E me_X9_throwCoin (d + 2) [.ref 1, .ref 81, .int 0, .int (I 83 x2.toNatClampNeg)] I (fun v9 J => HGo E (mF E (d + 3) Q) me_X6_fits 117 [(0, .ref 80), (2, .int x2)] (v9.toList ++ []) J))
    (k4 : ¬ (s0 + (fWor (I 6) (I 83 x2.toNatClampNeg))) = (I 84 x2.toNatClampNeg) → Q (some (.int 0)) I)
    : HGo E (mF E (d + 3) Q) me_X6_fits 74 [(0, .ref 80), (2, .int x2)] [.int s0] I := by
  refine h_aload_n dX6_fits_74 rfl 0 rfl ?_
  refine gf_5_0 dX6_fits_75 hl_X6_31 nl_80 zk_80 zp_80_0 ?_
  refine h_aload_n dX6_fits_78 rfl 0 rfl ?_
  refine gf_5_2 dX6_fits_79 hl_X6_18 nl_80 zk_80 zp_80_2 ?_
  refine h_iload_n dX6_fits_82 rfl 1 rfl ?_
  refine h_iald dX6_fits_83 nl_83 zk_83 (by rw [zn_83]; exact k1) ?_
  refine h_invV (As := [.int (I 83 x2.toNatClampNeg)]) (st := [.int s0]) dX6_fits_84 lk_X6_78 (h_room (by decide)) nl_1 zk_1 (by decide) rfl rfl rfl (Nat.le_of_ble_eq_true rfl) ?_
  refine c_X9_worthOf ?_
  refine h_iadd dX6_fits_87 ?_
  refine h_aload_n dX6_fits_88 rfl 0 rfl ?_
  refine gf_5_3 dX6_fits_89 hl_X6_22 nl_80 zk_80 zp_80_3 ?_
  refine h_iload_n dX6_fits_92 rfl 1 rfl ?_
  refine h_iald dX6_fits_93 nl_84 zk_84 (by rw [zn_84]; exact k1) ?_
  refine h_icmp_eq (tgt := 99) dX6_fits_94 (by decide) (fun c1 => ?_) (fun c1 => ?_)
  ·
    refine h_aload_n dX6_fits_99 rfl 0 rfl ?_
    refine gf_5_0 dX6_fits_100 hl_X6_31 nl_80 zk_80 zp_80_0 ?_
    refine h_aload_n dX6_fits_103 rfl 0 rfl ?_
    refine gf_5_1 dX6_fits_104 hl_X6_12 nl_80 zk_80 zp_80_1 ?_
    refine h_iconst (v := 0) dX6_fits_107 (by decide) ?_
    refine h_aload_n dX6_fits_108 rfl 0 rfl ?_
    refine gf_5_2 dX6_fits_109 hl_X6_18 nl_80 zk_80 zp_80_2 ?_
    refine h_iload_n dX6_fits_112 rfl 1 rfl ?_
    refine h_iald dX6_fits_113 nl_83 zk_83 (by rw [zn_83]; exact k2 c1) ?_
    refine h_invV (As := [.ref 81, .int 0, .int (I 83 x2.toNatClampNeg)]) (st := []) dX6_fits_114 lk_X6_82 (h_room (by decide)) nl_1 zk_1 (by decide) rfl rfl rfl (Nat.le_of_ble_eq_true rfl) ?_
    exact k3 c1
  ·
    refine h_iconst (v := 0) dX6_fits_97 (by decide) ?_
    exact h_zret dX6_fits_98 rfl rfl (k4 c1)
set_option maxHeartbeats 1000000 in
set_option maxRecDepth 20000 in
theorem sg_X6_fits_117 {E : HEn} {d : Nat} {Q : Option Value → HIh → Prop} {I : HIh} {x2 : Int32}
    (k1 : HGo E (mF E (d + 3) Q) me_X6_fits 43 [(0, .ref 80), (2, .int (x2 + 1))] [] I)
    : HGo E (mF E (d + 3) Q) me_X6_fits 117 [(0, .ref 80), (2, .int x2)] [] I := by
  refine h_iinc (v := (x2 + 1)) (L' := [(2, .int (x2 + 1)), (0, .ref 80)]) dX6_fits_117 1 rfl rfl (by decide) rfl ?_
  refine h_goto (tgt := 43) dX6_fits_120 (by decide) ?_
  refine h_pick [1, 0] [(0, .ref 80), (2, .int (x2 + 1))] rfl ?_
  exact k1
set_option maxHeartbeats 1000000 in
set_option maxRecDepth 20000 in
theorem sg_X7_readNumber_0 {E : HEn} {d : Nat} {Q : Option Value → HIh → Prop} {I : HIh} {l : Int32} {m : Int32}
    (k1 : ¬ (I 19 6) = 2 → Q (some (.int 0)) I)
    (k2 : (I 19 6) = 2 → ((I 19 5) - (I 19 4)) ≤ 3 → HGo E (mF E (d + 3) Q) me_X7_readNumber 33 [(0, .ref 19), (1, .int l), (2, .int m), (3, .int (I 19 4))] [] (setI I 19 (upd (I 19) 7 0)))
    (k3 : (I 19 6) = 2 → ¬ ((I 19 5) - (I 19 4)) ≤ 3 → Q (some (.int 0)) I)
    : HGo E (mF E (d + 3) Q) me_X7_readNumber 0 [(0, .ref 19), (1, .int l), (2, .int m)] [] I := by
  refine h_aload_n dX7_readNumber_0 rfl 0 rfl ?_
  refine gf_6_6 dX7_readNumber_1 hl_X7_46 nl_19 zk_19 ?_
  refine h_iconst (v := 2) dX7_readNumber_4 (by decide) ?_
  refine h_icmp_ne (tgt := 21) dX7_readNumber_5 (by decide) (fun c1 => ?_) (fun c1 => ?_)
  ·
    refine h_iconst (v := 0) dX7_readNumber_21 (by decide) ?_
    exact h_zret dX7_readNumber_22 rfl rfl (k1 c1)
  ·
    refine h_aload_n dX7_readNumber_8 rfl 0 rfl ?_
    refine gf_6_5 dX7_readNumber_9 hl_X7_30 nl_19 zk_19 ?_
    refine h_aload_n dX7_readNumber_12 rfl 0 rfl ?_
    refine gf_6_4 dX7_readNumber_13 hl_X7_43 nl_19 zk_19 ?_
    refine h_isub dX7_readNumber_16 ?_
    refine h_iconst (v := 3) dX7_readNumber_17 (by decide) ?_
    refine h_icmp_le (tgt := 23) dX7_readNumber_18 (by decide) (fun c2 => ?_) (fun c2 => ?_)
    ·
      refine h_aload_n dX7_readNumber_23 rfl 0 rfl ?_
      refine h_iconst (v := 0) dX7_readNumber_24 (by decide) ?_
      refine pf_6_7 dX7_readNumber_25 hl_X7_86 nl_19 zk_19 ?_
      refine h_aload_n dX7_readNumber_28 rfl 0 rfl ?_
      refine gf_6_4 dX7_readNumber_29 hl_X7_43 nl_19 zk_19 ?_
      refine h_istore_n (L' := [(3, .int (I 19 4)), (0, .ref 19), (1, .int l), (2, .int m)]) dX7_readNumber_32 rfl (by decide) rfl ?_
      refine h_pick [1, 2, 3, 0] [(0, .ref 19), (1, .int l), (2, .int m), (3, .int (I 19 4))] rfl ?_
      exact k2 c1 c2
    ·
      refine h_iconst (v := 0) dX7_readNumber_21 (by decide) ?_
      exact h_zret dX7_readNumber_22 rfl rfl (k3 c1 c2)
set_option maxHeartbeats 1000000 in
set_option maxRecDepth 20000 in
theorem sg_X7_readNumber_33 {E : HEn} {d : Nat} {Q : Option Value → HIh → Prop} {I : HIh} {x1 : Int32} {x2 : Int32} {x3 : Int32}
    (k1 : (I 19 5) ≤ x3 → (I 19 7) < x1 → Q (some (.int 0)) I)
    (k2 : (I 19 5) ≤ x3 → ¬ (I 19 7) < x1 → (I 19 7) ≤ x2 → HCall E me_X7_nextToken (d + 2) [.ref 19] I (fun v9 J => HGo E (mF E (d + 3) Q) me_X7_readNumber 89 [] (v9.toList ++ []) J))
    (k3 : (I 19 5) ≤ x3 → ¬ (I 19 7) < x1 → ¬ (I 19 7) ≤ x2 → Q (some (.int 0)) I)
    (k4 : ¬ (I 19 5) ≤ x3 → HGo E (mF E (d + 3) Q) me_X7_readNumber 33 [(0, .ref 19), (1, .int x1), (2, .int x2), (3, .int (x3 + 1))] [] (setI I 19 (upd (I 19) 7 (((10 * (I 19 7)) + (fByte (I 19 2) (I 20) x3)) - 48))))
    : HGo E (mF E (d + 3) Q) me_X7_readNumber 33 [(0, .ref 19), (1, .int x1), (2, .int x2), (3, .int x3)] [] I := by
  refine h_iload_n dX7_readNumber_33 rfl 3 rfl ?_
  refine h_aload_n dX7_readNumber_34 rfl 0 rfl ?_
  refine gf_6_5 dX7_readNumber_35 hl_X7_30 nl_19 zk_19 ?_
  refine h_icmp_ge (tgt := 67) dX7_readNumber_38 (by decide) (fun c1 => ?_) (fun c1 => ?_)
  ·
    refine h_aload_n dX7_readNumber_67 rfl 0 rfl ?_
    refine gf_6_7 dX7_readNumber_68 hl_X7_86 nl_19 zk_19 ?_
    refine h_iload_n dX7_readNumber_71 rfl 1 rfl ?_
    refine h_icmp_lt (tgt := 83) dX7_readNumber_72 (by decide) (fun c2 => ?_) (fun c2 => ?_)
    ·
      refine h_iconst (v := 0) dX7_readNumber_83 (by decide) ?_
      exact h_zret dX7_readNumber_84 rfl rfl (k1 c1 c2)
    ·
      refine h_aload_n dX7_readNumber_75 rfl 0 rfl ?_
      refine gf_6_7 dX7_readNumber_76 hl_X7_86 nl_19 zk_19 ?_
      refine h_iload_n dX7_readNumber_79 rfl 2 rfl ?_
      refine h_icmp_le (tgt := 85) dX7_readNumber_80 (by decide) (fun c3 => ?_) (fun c3 => ?_)
      ·
        refine h_aload_n dX7_readNumber_85 rfl 0 rfl ?_
        refine h_pick [] [] rfl ?_
        refine h_invV (As := []) (st := []) dX7_readNumber_86 lk_X7_33 (h_room (by decide)) nl_19 zk_19 (by decide) rfl rfl rfl (Nat.le_of_ble_eq_true rfl) ?_
        exact k2 c1 c2 c3
      ·
        refine h_iconst (v := 0) dX7_readNumber_83 (by decide) ?_
        exact h_zret dX7_readNumber_84 rfl rfl (k3 c1 c2 c3)
  ·
    refine h_aload_n dX7_readNumber_41 rfl 0 rfl ?_
    refine h_bipush (v := 10) dX7_readNumber_42 (by decide) ?_
    refine h_aload_n dX7_readNumber_44 rfl 0 rfl ?_
    refine gf_6_7 dX7_readNumber_45 hl_X7_86 nl_19 zk_19 ?_
    refine h_imul dX7_readNumber_48 ?_
    refine h_aload_n dX7_readNumber_49 rfl 0 rfl ?_
    refine h_iload_n dX7_readNumber_50 rfl 3 rfl ?_
    refine h_invV (As := [.int x3]) (st := [.int (10 * (I 19 7)), .ref 19]) dX7_readNumber_51 lk_X7_52 (h_room (by decide)) nl_19 zk_19 (by decide) rfl rfl rfl (Nat.le_of_ble_eq_true rfl) ?_
    refine c_X7_byteAt ?_
    refine h_iadd dX7_readNumber_54 ?_
    refine h_bipush (v := 48) dX7_readNumber_55 (by decide) ?_
    refine h_isub dX7_readNumber_57 ?_
    refine pf_6_7 dX7_readNumber_58 hl_X7_86 nl_19 zk_19 ?_
    refine h_iinc (v := (x3 + 1)) (L' := [(3, .int (x3 + 1)), (0, .ref 19), (1, .int x1), (2, .int x2)]) dX7_readNumber_61 3 rfl rfl (by decide) rfl ?_
    refine h_goto (tgt := 33) dX7_readNumber_64 (by decide) ?_
    refine h_pick [1, 2, 3, 0] [(0, .ref 19), (1, .int x1), (2, .int x2), (3, .int (x3 + 1))] rfl ?_
    exact k4 c1
set_option maxHeartbeats 1000000 in
set_option maxRecDepth 20000 in
theorem sg_X7_readNumber_89 {E : HEn} {d : Nat} {Q : Option Value → HIh → Prop} {I : HIh} 
    (k1 : Q (some (.int 1)) I)
    : HGo E (mF E (d + 3) Q) me_X7_readNumber 89 [] [] I := by
  refine h_iconst (v := 1) dX7_readNumber_89 (by decide) ?_
  exact h_zret dX7_readNumber_90 rfl rfl (k1)
set_option maxHeartbeats 1000000 in
set_option maxRecDepth 20000 in
theorem sg_X2_settle_0 {E : HEn} {d : Nat} {Q : Option Value → HIh → Prop} {I : HIh} {v : Int32}
    (k1 : HGo E (mF E (d + 3) Q) me_X2_settle 2 [(0, .ref 32), (1, .int v), (2, .int 0)] [] I)
    : HGo E (mF E (d + 3) Q) me_X2_settle 0 [(0, .ref 32), (1, .int v)] [] I := by
  refine h_iconst (v := 0) dX2_settle_0 (by decide) ?_
  refine h_istore_n (L' := [(2, .int 0), (0, .ref 32), (1, .int v)]) dX2_settle_1 rfl (by decide) rfl ?_
  refine h_pick [1, 2, 0] [(0, .ref 32), (1, .int v), (2, .int 0)] rfl ?_
  exact k1
set_option maxHeartbeats 1000000 in
set_option maxRecDepth 20000 in
theorem sg_X2_settle_2 {E : HEn} {d : Nat} {Q : Option Value → HIh → Prop} {I : HIh} {h e : Nat} {x1 : Int32} {x2 : Int32} (a_h : h < NL) (b_h : Zk h = 3) (a_e : e < NL) (b_e : Zk e = 11) (n_e : Zn e = 4) (hs_e : Zp 56 x1.toNatClampNeg = e) (hs_h : Zp 33 x1.toNatClampNeg = h)
    (k1 : 4 ≤ x2 → Q none I)
    (k2 : ¬ 4 ≤ x2 → vp_in x1 11)
    (k3 : ¬ 4 ≤ x2 → HCall E me_X9_wealth (d + 2) [.ref 1, .ref h, .int x2] I (fun v9 J => HGo E (mF E (d + 3) Q) me_X2_settle 28 [(0, .ref 32), (1, .int x1), (2, .int x2)] (v9.toList ++ [.int x2, .ref e]) J))
    : HGo E (mF E (d + 3) Q) me_X2_settle 2 [(0, .ref 32), (1, .int x1), (2, .int x2)] [] I := by
  refine h_iload_n dX2_settle_2 rfl 2 rfl ?_
  refine h_iconst (v := 4) dX2_settle_3 (by decide) ?_
  refine h_icmp_ge (tgt := 35) dX2_settle_4 (by decide) (fun c1 => ?_) (fun c1 => ?_)
  ·
    exact h_vret dX2_settle_35 rfl (k1 c1)
  ·
    refine h_aload_n dX2_settle_7 rfl 0 rfl ?_
    refine gf_1_2 dX2_settle_8 hl_X2_19 nl_32 zk_32 zp_32_2 ?_
    refine h_iload_n dX2_settle_11 rfl 1 rfl ?_
    refine h_aald14z dX2_settle_12 nl_56 zk_56 (by rw [zn_56]; exact k2 c1) hs_e ?_
    refine h_iload_n dX2_settle_13 rfl 2 rfl ?_
    refine h_aload_n dX2_settle_14 rfl 0 rfl ?_
    refine gf_1_0 dX2_settle_15 hl_X2_29 nl_32 zk_32 zp_32_0 ?_
    refine h_aload_n dX2_settle_18 rfl 0 rfl ?_
    refine gf_1_1 dX2_settle_19 hl_X2_13 nl_32 zk_32 zp_32_1 ?_
    refine h_iload_n dX2_settle_22 rfl 1 rfl ?_
    refine h_aald13z dX2_settle_23 nl_33 zk_33 (by rw [zn_33]; exact k2 c1) hs_h ?_
    refine h_iload_n dX2_settle_24 rfl 2 rfl ?_
    refine h_invV (As := [.ref h, .int x2]) (st := [.int x2, .ref e]) dX2_settle_25 lk_X2_107 (h_room (by decide)) nl_1 zk_1 (by decide) rfl rfl rfl (Nat.le_of_ble_eq_true rfl) ?_
    exact k3 c1
set_option maxHeartbeats 1000000 in
set_option maxRecDepth 20000 in
theorem sg_X2_settle_28 {E : HEn} {d : Nat} {Q : Option Value → HIh → Prop} {I : HIh} {e : Nat} {x1 : Int32} {x2 : Int32} {s0 : Int32} {s1 : Int32} (a_e : e < NL) (b_e : Zk e = 11) (n_e : Zn e = 4)
    (k1 : vp_in s1 4)
    (k2 : HGo E (mF E (d + 3) Q) me_X2_settle 2 [(0, .ref 32), (1, .int x1), (2, .int (x2 + 1))] [] (setI I e (upd (I e) s1.toNatClampNeg s0)))
    : HGo E (mF E (d + 3) Q) me_X2_settle 28 [(0, .ref 32), (1, .int x1), (2, .int x2)] [.int s0, .int s1, .ref e] I := by
  refine h_iast dX2_settle_28 a_e b_e (by rw [n_e]; exact k1) ?_
  refine h_iinc (v := (x2 + 1)) (L' := [(2, .int (x2 + 1)), (0, .ref 32), (1, .int x1)]) dX2_settle_29 2 rfl rfl (by decide) rfl ?_
  refine h_goto (tgt := 2) dX2_settle_32 (by decide) ?_
  refine h_pick [1, 2, 0] [(0, .ref 32), (1, .int x1), (2, .int (x2 + 1))] rfl ?_
  exact k2
set_option maxHeartbeats 1000000 in
set_option maxRecDepth 20000 in
theorem sg_X11_gain_0 {E : HEn} {d : Nat} {Q : Option Value → HIh → Prop} {I : HIh} {a : Int32} {b : Int32}
    (k1 : (0 : Int32) ≤ a → a < 4 → (0 : Int32) ≤ b → b < (I 1 9) → ¬ (fOf (I 13) a b) = 0 → HCall E me_X9_gainOf (d + 2) [.ref 1, .ref 12, .int b] I (fun v9 J => HGo E (mF E (d + 3) Q) me_X11_gain 48 [] (v9.toList ++ []) J))
    (k2 : (0 : Int32) ≤ a → a < 4 → (0 : Int32) ≤ b → b < (I 1 9) → (fOf (I 13) a b) = 0 → Q (some (.int (-4))) I)
    (k3 : (0 : Int32) ≤ a → a < 4 → ¬ ((0 : Int32) ≤ b ∧ b < (I 1 9)) → Q (some (.int (-2))) I)
    (k4 : ¬ ((0 : Int32) ≤ a ∧ a < 4) → Q (some (.int (-2))) I)
    : HGo E (mF E (d + 3) Q) me_X11_gain 0 [(0, .ref 0), (1, .int a), (2, .int b)] [] I := by
  refine h_iload_n dX11_gain_0 rfl 1 rfl ?_
  refine h_invS (As := [.int a]) (st := []) dX11_gain_1 lk_X11_100 (h_room (by decide)) rfl rfl (Nat.le_of_ble_eq_true rfl) ?_
  refine c_X11_isPerson (fun c1 c2 => ?_) (fun c3 => ?_)
  ·
    refine h_if_eq (tgt := 18) dX11_gain_4 (by decide) (fun c => absurd c (by decide)) (fun _ => ?_)
    refine h_aload_n dX11_gain_7 rfl 0 rfl ?_
    refine gf_9_0 dX11_gain_8 hl_X11_10 nl_0 zk_0 zp_0_0 ?_
    refine h_iload_n dX11_gain_11 rfl 2 rfl ?_
    refine h_invV (As := [.int b]) (st := []) dX11_gain_12 lk_X11_88 (h_room (by decide)) nl_1 zk_1 (by decide) rfl rfl rfl (Nat.le_of_ble_eq_true rfl) ?_
    refine c_X9_hasKind (fun c4 c5 => ?_) (fun c6 => ?_)
    ·
      refine h_if_ne (tgt := 21) dX11_gain_15 (by decide) (fun _ => ?_) (fun c => absurd c (by decide))
      refine h_aload_n dX11_gain_21 rfl 0 rfl ?_
      refine gf_9_1 dX11_gain_22 hl_X11_19 nl_0 zk_0 zp_0_1 ?_
      refine h_iload_n dX11_gain_25 rfl 1 rfl ?_
      refine h_iload_n dX11_gain_26 rfl 2 rfl ?_
      refine h_invV (As := [.int a, .int b]) (st := []) dX11_gain_27 lk_X11_96 (h_room (by decide)) nl_12 zk_12 (by decide) rfl rfl rfl (Nat.le_of_ble_eq_true rfl) ?_
      refine c_X4_of nl_12 zk_12 zp_12_0 nl_13 zk_13 zn_13 ?_
      refine h_if_ne (tgt := 36) dX11_gain_30 (by decide) (fun c7 => ?_) (fun c7 => ?_)
      ·
        refine h_aload_n dX11_gain_36 rfl 0 rfl ?_
        refine gf_9_0 dX11_gain_37 hl_X11_10 nl_0 zk_0 zp_0_0 ?_
        refine h_aload_n dX11_gain_40 rfl 0 rfl ?_
        refine gf_9_1 dX11_gain_41 hl_X11_19 nl_0 zk_0 zp_0_1 ?_
        refine h_iload_n dX11_gain_44 rfl 2 rfl ?_
        refine h_pick [] [] rfl ?_
        refine h_invV (As := [.ref 12, .int b]) (st := []) dX11_gain_45 lk_X11_135 (h_room (by decide)) nl_1 zk_1 (by decide) rfl rfl rfl (Nat.le_of_ble_eq_true rfl) ?_
        exact k1 c1 c2 c4 c5 c7
      ·
        refine h_bipush (v := (-4)) dX11_gain_33 (by decide) ?_
        exact h_iret dX11_gain_35 rfl (k2 c1 c2 c4 c5 c7)
    ·
      refine h_if_ne (tgt := 21) dX11_gain_15 (by decide) (fun c => absurd c (by decide)) (fun _ => ?_)
      refine h_bipush (v := (-2)) dX11_gain_18 (by decide) ?_
      exact h_iret dX11_gain_20 rfl (k3 c1 c2 c6)
  ·
    refine h_if_eq (tgt := 18) dX11_gain_4 (by decide) (fun _ => ?_) (fun c => absurd c (by decide))
    refine h_bipush (v := (-2)) dX11_gain_18 (by decide) ?_
    exact h_iret dX11_gain_20 rfl (k4 c3)
set_option maxHeartbeats 1000000 in
set_option maxRecDepth 20000 in
theorem sg_X11_gain_48 {E : HEn} {d : Nat} {Q : Option Value → HIh → Prop} {I : HIh} {s0 : Int32}
    (k1 : Q (some (.int (s0 + 100000))) I)
    : HGo E (mF E (d + 3) Q) me_X11_gain 48 [] [.int s0] I := by
  refine h_ldc dX11_gain_48 wt_600 rfl ?_
  refine h_iadd dX11_gain_50 ?_
  exact h_iret dX11_gain_51 rfl (k1)
set_option maxHeartbeats 1000000 in
set_option maxRecDepth 20000 in
theorem sg_X11_wealthOfAll_0 {E : HEn} {d : Nat} {Q : Option Value → HIh → Prop} {I : HIh} 
    (k1 : HGo E (mF E (d + 3) Q) me_X11_wealthOfAll 4 [(0, .ref 0), (1, .int 0), (2, .int 0)] [] I)
    : HGo E (mF E (d + 3) Q) me_X11_wealthOfAll 0 [(0, .ref 0)] [] I := by
  refine h_iconst (v := 0) dX11_wealthOfAll_0 (by decide) ?_
  refine h_istore_n (L' := [(1, .int 0), (0, .ref 0)]) dX11_wealthOfAll_1 rfl (by decide) rfl ?_
  refine h_iconst (v := 0) dX11_wealthOfAll_2 (by decide) ?_
  refine h_istore_n (L' := [(2, .int 0), (1, .int 0), (0, .ref 0)]) dX11_wealthOfAll_3 rfl (by decide) rfl ?_
  refine h_pick [2, 1, 0] [(0, .ref 0), (1, .int 0), (2, .int 0)] rfl ?_
  exact k1
set_option maxHeartbeats 1000000 in
set_option maxRecDepth 20000 in
theorem sg_X11_wealthOfAll_4 {E : HEn} {d : Nat} {Q : Option Value → HIh → Prop} {I : HIh} {x1 : Int32} {x2 : Int32}
    (k1 : 5 ≤ x2 → Q (some (.int x1)) I)
    (k2 : ¬ 5 ≤ x2 → HCall E me_X9_wealth (d + 2) [.ref 1, .ref 12, .int x2] I (fun v9 J => HGo E (mF E (d + 3) Q) me_X11_wealthOfAll 22 [(0, .ref 0), (2, .int x2)] (v9.toList ++ [.int x1]) J))
    : HGo E (mF E (d + 3) Q) me_X11_wealthOfAll 4 [(0, .ref 0), (1, .int x1), (2, .int x2)] [] I := by
  refine h_iload_n dX11_wealthOfAll_4 rfl 2 rfl ?_
  refine h_iconst (v := 5) dX11_wealthOfAll_5 (by decide) ?_
  refine h_icmp_ge (tgt := 30) dX11_wealthOfAll_6 (by decide) (fun c1 => ?_) (fun c1 => ?_)
  ·
    refine h_iload_n dX11_wealthOfAll_30 rfl 1 rfl ?_
    exact h_iret dX11_wealthOfAll_31 rfl (k1 c1)
  ·
    refine h_iload_n dX11_wealthOfAll_9 rfl 1 rfl ?_
    refine h_aload_n dX11_wealthOfAll_10 rfl 0 rfl ?_
    refine gf_9_0 dX11_wealthOfAll_11 hl_X11_10 nl_0 zk_0 zp_0_0 ?_
    refine h_aload_n dX11_wealthOfAll_14 rfl 0 rfl ?_
    refine gf_9_1 dX11_wealthOfAll_15 hl_X11_19 nl_0 zk_0 zp_0_1 ?_
    refine h_iload_n dX11_wealthOfAll_18 rfl 2 rfl ?_
    refine h_pick [0, 2] [(0, .ref 0), (2, .int x2)] rfl ?_
    refine h_invV (As := [.ref 12, .int x2]) (st := [.int x1]) dX11_wealthOfAll_19 lk_X11_103 (h_room (by decide)) nl_1 zk_1 (by decide) rfl rfl rfl (Nat.le_of_ble_eq_true rfl) ?_
    exact k2 c1
set_option maxHeartbeats 1000000 in
set_option maxRecDepth 20000 in
theorem sg_X11_wealthOfAll_22 {E : HEn} {d : Nat} {Q : Option Value → HIh → Prop} {I : HIh} {x2 : Int32} {s0 : Int32} {s1 : Int32}
    (k1 : HGo E (mF E (d + 3) Q) me_X11_wealthOfAll 4 [(0, .ref 0), (1, .int (s1 + s0)), (2, .int (x2 + 1))] [] I)
    : HGo E (mF E (d + 3) Q) me_X11_wealthOfAll 22 [(0, .ref 0), (2, .int x2)] [.int s0, .int s1] I := by
  refine h_iadd dX11_wealthOfAll_22 ?_
  refine h_istore_n (L' := [(1, .int (s1 + s0)), (0, .ref 0), (2, .int x2)]) dX11_wealthOfAll_23 rfl (by decide) rfl ?_
  refine h_iinc (v := (x2 + 1)) (L' := [(2, .int (x2 + 1)), (1, .int (s1 + s0)), (0, .ref 0)]) dX11_wealthOfAll_24 2 rfl rfl (by decide) rfl ?_
  refine h_goto (tgt := 4) dX11_wealthOfAll_27 (by decide) ?_
  refine h_pick [2, 1, 0] [(0, .ref 0), (1, .int (s1 + s0)), (2, .int (x2 + 1))] rfl ?_
  exact k1
set_option maxHeartbeats 1000000 in
set_option maxRecDepth 20000 in
theorem sg_X11_person_N_0 {E : HEn} {d : Nat} {Q : Option Value → HIh → Prop} {I : HIh} {a : Int32} {b : Int32}
    (k1 : (0 : Int32) ≤ a → a < 4 → b = 0 → HCall E me_X9_wealth (d + 2) [.ref 1, .ref 12, .int a] I (fun v9 J => HGo E (mF E (d + 3) Q) me_X11_person 52 [] (v9.toList ++ []) J))
    (k2 : (0 : Int32) ≤ a → a < 4 → ¬ b = 0 → b = 1 → HCall E me_X9_folkOf (d + 2) [.ref 1, .int a] I (fun v9 J => HGo E (mF E (d + 3) Q) me_X11_person 61 [] (v9.toList ++ []) J))
    (k3 : (0 : Int32) ≤ a → a < 4 → ¬ b = 0 → ¬ b = 1 → b = 2 → HCall E me_X9_folkOf (d + 2) [.ref 1, .int a] I (fun v9 J => HGo E (mF E (d + 3) Q) me_X11_person 73 [(0, .ref 0), (1, .int a)] (v9.toList ++ []) J))
    (k4 : (0 : Int32) ≤ a → a < 4 → ¬ b = 0 → ¬ b = 1 → ¬ b = 2 → b = 3 → HCall E me_X9_visitsLeft (d + 2) [.ref 1, .ref 12, .int ((1 : Int32) <<< (a &&& 31))] I (fun v9 J => HGo E (mF E (d + 3) Q) me_X11_person 96 [] (v9.toList ++ []) J))
    (k5 : (0 : Int32) ≤ a → a < 4 → ¬ b = 0 → ¬ b = 1 → ¬ b = 2 → ¬ b = 3 → Q (some (.int (-3))) I)
    (k6 : ¬ ((0 : Int32) ≤ a ∧ a < 4) → Q (some (.int (-2))) I)
    : HGo E (mF E (d + 3) Q) me_X11_person 0 [(0, .ref 0), (1, .int a), (2, .int b)] [] I := by
  refine h_iload_n dX11_person_0 rfl 1 rfl ?_
  refine h_invS (As := [.int a]) (st := []) dX11_person_1 lk_X11_100 (h_room (by decide)) rfl rfl (Nat.le_of_ble_eq_true rfl) ?_
  refine c_X11_isPerson (fun c1 c2 => ?_) (fun c3 => ?_)
  ·
    refine h_if_ne (tgt := 10) dX11_person_4 (by decide) (fun _ => ?_) (fun c => absurd c (by decide))
    refine h_iload_n dX11_person_10 rfl 2 rfl ?_
    by_cases c4 : b = 0
    · refine h_tswIn (off := 29) (tgt := 40) 0 dX11_person_11 (by rw [c4]; rfl) (by decide) (by decide) (by decide) (by decide) ?_
      refine h_aload_n dX11_person_40 rfl 0 rfl ?_
      refine gf_9_0 dX11_person_41 hl_X11_10 nl_0 zk_0 zp_0_0 ?_
      refine h_aload_n dX11_person_44 rfl 0 rfl ?_
      refine gf_9_1 dX11_person_45 hl_X11_19 nl_0 zk_0 zp_0_1 ?_
      refine h_iload_n dX11_person_48 rfl 1 rfl ?_
      refine h_pick [] [] rfl ?_
      refine h_invV (As := [.ref 12, .int a]) (st := []) dX11_person_49 lk_X11_103 (h_room (by decide)) nl_1 zk_1 (by decide) rfl rfl rfl (Nat.le_of_ble_eq_true rfl) ?_
      exact k1 c1 c2 c4
    by_cases c5 : b = 1
    · refine h_tswIn (off := 42) (tgt := 53) 1 dX11_person_11 (by rw [c5]; rfl) (by decide) (by decide) (by decide) (by decide) ?_
      refine h_aload_n dX11_person_53 rfl 0 rfl ?_
      refine gf_9_0 dX11_person_54 hl_X11_10 nl_0 zk_0 zp_0_0 ?_
      refine h_iload_n dX11_person_57 rfl 1 rfl ?_
      refine h_pick [] [] rfl ?_
      refine h_invV (As := [.int a]) (st := []) dX11_person_58 lk_X11_107 (h_room (by decide)) nl_1 zk_1 (by decide) rfl rfl rfl (Nat.le_of_ble_eq_true rfl) ?_
      exact k2 c1 c2 c4 c5
    by_cases c6 : b = 2
    · refine h_tswIn (off := 54) (tgt := 65) 2 dX11_person_11 (by rw [c6]; rfl) (by decide) (by decide) (by decide) (by decide) ?_
      refine h_aload_n dX11_person_65 rfl 0 rfl ?_
      refine gf_9_0 dX11_person_66 hl_X11_10 nl_0 zk_0 zp_0_0 ?_
      refine h_iload_n dX11_person_69 rfl 1 rfl ?_
      refine h_pick [0, 1] [(0, .ref 0), (1, .int a)] rfl ?_
      refine h_invV (As := [.int a]) (st := []) dX11_person_70 lk_X11_107 (h_room (by decide)) nl_1 zk_1 (by decide) rfl rfl rfl (Nat.le_of_ble_eq_true rfl) ?_
      exact k3 c1 c2 c4 c5 c6
    by_cases c7 : b = 3
    · refine h_tswIn (off := 71) (tgt := 82) 3 dX11_person_11 (by rw [c7]; rfl) (by decide) (by decide) (by decide) (by decide) ?_
      refine h_aload_n dX11_person_82 rfl 0 rfl ?_
      refine gf_9_0 dX11_person_83 hl_X11_10 nl_0 zk_0 zp_0_0 ?_
      refine h_aload_n dX11_person_86 rfl 0 rfl ?_
      refine gf_9_1 dX11_person_87 hl_X11_19 nl_0 zk_0 zp_0_1 ?_
      refine h_iconst (v := 1) dX11_person_90 (by decide) ?_
      refine h_iload_n dX11_person_91 rfl 1 rfl ?_
      refine h_ishl dX11_person_92 ?_
      refine h_pick [] [] rfl ?_
      refine h_invV (As := [.ref 12, .int ((1 : Int32) <<< (a &&& 31))]) (st := []) dX11_person_93 lk_X11_121 (h_room (by decide)) nl_1 zk_1 (by decide) rfl rfl rfl (Nat.le_of_ble_eq_true rfl) ?_
      exact k4 c1 c2 c4 c5 c6 c7
    refine h_tswOut (tgt := 97) dX11_person_11 (tsw_out4 c4 c5 c6 c7) (by decide) ?_
    refine h_bipush (v := (-3)) dX11_person_97 (by decide) ?_
    exact h_iret dX11_person_99 rfl (k5 c1 c2 c4 c5 c6 c7)
  ·
    refine h_if_ne (tgt := 10) dX11_person_4 (by decide) (fun c => absurd c (by decide)) (fun _ => ?_)
    refine h_bipush (v := (-2)) dX11_person_7 (by decide) ?_
    exact h_iret dX11_person_9 rfl (k6 c3)
set_option maxHeartbeats 1000000 in
set_option maxRecDepth 20000 in
theorem sg_X11_person_N_52 {E : HEn} {d : Nat} {Q : Option Value → HIh → Prop} {I : HIh} {s0 : Int32}
    (k1 : Q (some (.int s0)) I)
    : HGo E (mF E (d + 3) Q) me_X11_person 52 [] [.int s0] I := by
  exact h_iret dX11_person_52 rfl (k1)
set_option maxHeartbeats 1000000 in
set_option maxRecDepth 20000 in
theorem sg_X11_person_N_61 {E : HEn} {d : Nat} {Q : Option Value → HIh → Prop} {I : HIh} 
    (k1 : Q (some (.int 0)) I)
    : HGo E (mF E (d + 3) Q) me_X11_person 61 [] [.ref 2] I := by
  refine h_invU (As := []) (st := []) dX11_person_61 lk_X11_111_X5 (h_room (by decide)) nl_2 zk_2 (by decide) rfl rfl rfl (Nat.le_of_ble_eq_true rfl) ?_
  refine c_X5_habit ?_
  exact h_iret dX11_person_64 rfl (k1)
set_option maxHeartbeats 1000000 in
set_option maxRecDepth 20000 in
theorem sg_X11_person_N_73 {E : HEn} {d : Nat} {Q : Option Value → HIh → Prop} {I : HIh} {x1 : Int32}
    (k1 : Q (some (.int (-1))) I)
    : HGo E (mF E (d + 3) Q) me_X11_person 73 [(0, .ref 0), (1, .int x1)] [.ref 2] I := by
  refine h_aload_n dX11_person_73 rfl 0 rfl ?_
  refine gf_9_0 dX11_person_74 hl_X11_10 nl_0 zk_0 zp_0_0 ?_
  refine h_iload_n dX11_person_77 rfl 1 rfl ?_
  refine h_invU (As := [.ref 1, .int x1]) (st := []) dX11_person_78 lk_X11_117_X5 (h_room (by decide)) nl_2 zk_2 (by decide) rfl rfl rfl (Nat.le_of_ble_eq_true rfl) ?_
  refine c_X1_waitsFor_N ?_
  exact h_iret dX11_person_81 rfl (k1)
set_option maxHeartbeats 1000000 in
set_option maxRecDepth 20000 in
theorem sg_X11_person_N_96 {E : HEn} {d : Nat} {Q : Option Value → HIh → Prop} {I : HIh} {s0 : Int32}
    (k1 : Q (some (.int s0)) I)
    : HGo E (mF E (d + 3) Q) me_X11_person 96 [] [.int s0] I := by
  exact h_iret dX11_person_96 rfl (k1)
set_option maxHeartbeats 1000000 in
set_option maxRecDepth 20000 in
theorem sg_X11_person_G_0 {E : HEn} {d : Nat} {Q : Option Value → HIh → Prop} {I : HIh} {a : Int32} {b : Int32}
    (k1 : (0 : Int32) ≤ a → a < 4 → b = 0 → HCall E me_X9_wealth (d + 2) [.ref 1, .ref 12, .int a] I (fun v9 J => HGo E (mF E (d + 3) Q) me_X11_person 52 [] (v9.toList ++ []) J))
    (k2 : (0 : Int32) ≤ a → a < 4 → ¬ b = 0 → b = 1 → HCall E me_X9_folkOf (d + 2) [.ref 1, .int a] I (fun v9 J => HGo E (mF E (d + 3) Q) me_X11_person 61 [] (v9.toList ++ []) J))
    (k3 : (0 : Int32) ≤ a → a < 4 → ¬ b = 0 → ¬ b = 1 → b = 2 → HCall E me_X9_folkOf (d + 2) [.ref 1, .int a] I (fun v9 J => HGo E (mF E (d + 3) Q) me_X11_person 73 [(0, .ref 0), (1, .int a)] (v9.toList ++ []) J))
    (k4 : (0 : Int32) ≤ a → a < 4 → ¬ b = 0 → ¬ b = 1 → ¬ b = 2 → b = 3 → HCall E me_X9_visitsLeft (d + 2) [.ref 1, .ref 12, .int ((1 : Int32) <<< (a &&& 31))] I (fun v9 J => HGo E (mF E (d + 3) Q) me_X11_person 96 [] (v9.toList ++ []) J))
    (k5 : (0 : Int32) ≤ a → a < 4 → ¬ b = 0 → ¬ b = 1 → ¬ b = 2 → ¬ b = 3 → Q (some (.int (-3))) I)
    (k6 : ¬ ((0 : Int32) ≤ a ∧ a < 4) → Q (some (.int (-2))) I)
    : HGo E (mF E (d + 3) Q) me_X11_person 0 [(0, .ref 0), (1, .int a), (2, .int b)] [] I := by
  refine h_iload_n dX11_person_0 rfl 1 rfl ?_
  refine h_invS (As := [.int a]) (st := []) dX11_person_1 lk_X11_100 (h_room (by decide)) rfl rfl (Nat.le_of_ble_eq_true rfl) ?_
  refine c_X11_isPerson (fun c1 c2 => ?_) (fun c3 => ?_)
  ·
    refine h_if_ne (tgt := 10) dX11_person_4 (by decide) (fun _ => ?_) (fun c => absurd c (by decide))
    refine h_iload_n dX11_person_10 rfl 2 rfl ?_
    by_cases c4 : b = 0
    · refine h_tswIn (off := 29) (tgt := 40) 0 dX11_person_11 (by rw [c4]; rfl) (by decide) (by decide) (by decide) (by decide) ?_
      refine h_aload_n dX11_person_40 rfl 0 rfl ?_
      refine gf_9_0 dX11_person_41 hl_X11_10 nl_0 zk_0 zp_0_0 ?_
      refine h_aload_n dX11_person_44 rfl 0 rfl ?_
      refine gf_9_1 dX11_person_45 hl_X11_19 nl_0 zk_0 zp_0_1 ?_
      refine h_iload_n dX11_person_48 rfl 1 rfl ?_
      refine h_pick [] [] rfl ?_
      refine h_invV (As := [.ref 12, .int a]) (st := []) dX11_person_49 lk_X11_103 (h_room (by decide)) nl_1 zk_1 (by decide) rfl rfl rfl (Nat.le_of_ble_eq_true rfl) ?_
      exact k1 c1 c2 c4
    by_cases c5 : b = 1
    · refine h_tswIn (off := 42) (tgt := 53) 1 dX11_person_11 (by rw [c5]; rfl) (by decide) (by decide) (by decide) (by decide) ?_
      refine h_aload_n dX11_person_53 rfl 0 rfl ?_
      refine gf_9_0 dX11_person_54 hl_X11_10 nl_0 zk_0 zp_0_0 ?_
      refine h_iload_n dX11_person_57 rfl 1 rfl ?_
      refine h_pick [] [] rfl ?_
      refine h_invV (As := [.int a]) (st := []) dX11_person_58 lk_X11_107 (h_room (by decide)) nl_1 zk_1 (by decide) rfl rfl rfl (Nat.le_of_ble_eq_true rfl) ?_
      exact k2 c1 c2 c4 c5
    by_cases c6 : b = 2
    · refine h_tswIn (off := 54) (tgt := 65) 2 dX11_person_11 (by rw [c6]; rfl) (by decide) (by decide) (by decide) (by decide) ?_
      refine h_aload_n dX11_person_65 rfl 0 rfl ?_
      refine gf_9_0 dX11_person_66 hl_X11_10 nl_0 zk_0 zp_0_0 ?_
      refine h_iload_n dX11_person_69 rfl 1 rfl ?_
      refine h_pick [0, 1] [(0, .ref 0), (1, .int a)] rfl ?_
      refine h_invV (As := [.int a]) (st := []) dX11_person_70 lk_X11_107 (h_room (by decide)) nl_1 zk_1 (by decide) rfl rfl rfl (Nat.le_of_ble_eq_true rfl) ?_
      exact k3 c1 c2 c4 c5 c6
    by_cases c7 : b = 3
    · refine h_tswIn (off := 71) (tgt := 82) 3 dX11_person_11 (by rw [c7]; rfl) (by decide) (by decide) (by decide) (by decide) ?_
      refine h_aload_n dX11_person_82 rfl 0 rfl ?_
      refine gf_9_0 dX11_person_83 hl_X11_10 nl_0 zk_0 zp_0_0 ?_
      refine h_aload_n dX11_person_86 rfl 0 rfl ?_
      refine gf_9_1 dX11_person_87 hl_X11_19 nl_0 zk_0 zp_0_1 ?_
      refine h_iconst (v := 1) dX11_person_90 (by decide) ?_
      refine h_iload_n dX11_person_91 rfl 1 rfl ?_
      refine h_ishl dX11_person_92 ?_
      refine h_pick [] [] rfl ?_
      refine h_invV (As := [.ref 12, .int ((1 : Int32) <<< (a &&& 31))]) (st := []) dX11_person_93 lk_X11_121 (h_room (by decide)) nl_1 zk_1 (by decide) rfl rfl rfl (Nat.le_of_ble_eq_true rfl) ?_
      exact k4 c1 c2 c4 c5 c6 c7
    refine h_tswOut (tgt := 97) dX11_person_11 (tsw_out4 c4 c5 c6 c7) (by decide) ?_
    refine h_bipush (v := (-3)) dX11_person_97 (by decide) ?_
    exact h_iret dX11_person_99 rfl (k5 c1 c2 c4 c5 c6 c7)
  ·
    refine h_if_ne (tgt := 10) dX11_person_4 (by decide) (fun c => absurd c (by decide)) (fun _ => ?_)
    refine h_bipush (v := (-2)) dX11_person_7 (by decide) ?_
    exact h_iret dX11_person_9 rfl (k6 c3)
set_option maxHeartbeats 1000000 in
set_option maxRecDepth 20000 in
theorem sg_X11_person_G_52 {E : HEn} {d : Nat} {Q : Option Value → HIh → Prop} {I : HIh} {s0 : Int32}
    (k1 : Q (some (.int s0)) I)
    : HGo E (mF E (d + 3) Q) me_X11_person 52 [] [.int s0] I := by
  exact h_iret dX11_person_52 rfl (k1)
set_option maxHeartbeats 1000000 in
set_option maxRecDepth 20000 in
theorem sg_X11_person_G_61 {E : HEn} {d : Nat} {Q : Option Value → HIh → Prop} {I : HIh} 
    (k1 : Q (some (.int 1)) I)
    : HGo E (mF E (d + 3) Q) me_X11_person 61 [] [.ref 3] I := by
  refine h_invU (As := []) (st := []) dX11_person_61 lk_X11_111_X3 (h_room (by decide)) nl_3 zk_3 (by decide) rfl rfl rfl (Nat.le_of_ble_eq_true rfl) ?_
  refine c_X3_habit ?_
  exact h_iret dX11_person_64 rfl (k1)
set_option maxHeartbeats 1000000 in
set_option maxRecDepth 20000 in
theorem sg_X11_person_G_73 {E : HEn} {d : Nat} {Q : Option Value → HIh → Prop} {I : HIh} {x1 : Int32}
    (k1 : Q (some (.int (-1))) I)
    : HGo E (mF E (d + 3) Q) me_X11_person 73 [(0, .ref 0), (1, .int x1)] [.ref 3] I := by
  refine h_aload_n dX11_person_73 rfl 0 rfl ?_
  refine gf_9_0 dX11_person_74 hl_X11_10 nl_0 zk_0 zp_0_0 ?_
  refine h_iload_n dX11_person_77 rfl 1 rfl ?_
  refine h_invU (As := [.ref 1, .int x1]) (st := []) dX11_person_78 lk_X11_117_X3 (h_room (by decide)) nl_3 zk_3 (by decide) rfl rfl rfl (Nat.le_of_ble_eq_true rfl) ?_
  refine c_X1_waitsFor_G ?_
  exact h_iret dX11_person_81 rfl (k1)
set_option maxHeartbeats 1000000 in
set_option maxRecDepth 20000 in
theorem sg_X11_person_G_96 {E : HEn} {d : Nat} {Q : Option Value → HIh → Prop} {I : HIh} {s0 : Int32}
    (k1 : Q (some (.int s0)) I)
    : HGo E (mF E (d + 3) Q) me_X11_person 96 [] [.int s0] I := by
  exact h_iret dX11_person_96 rfl (k1)
set_option maxHeartbeats 1000000 in
set_option maxRecDepth 20000 in
theorem sg_X11_person_W_0 {E : HEn} {d : Nat} {Q : Option Value → HIh → Prop} {I : HIh} {a : Int32} {b : Int32}
    (k1 : (0 : Int32) ≤ a → a < 4 → b = 0 → HCall E me_X9_wealth (d + 2) [.ref 1, .ref 12, .int a] I (fun v9 J => HGo E (mF E (d + 3) Q) me_X11_person 52 [] (v9.toList ++ []) J))
    (k2 : (0 : Int32) ≤ a → a < 4 → ¬ b = 0 → b = 1 → HCall E me_X9_folkOf (d + 2) [.ref 1, .int a] I (fun v9 J => HGo E (mF E (d + 3) Q) me_X11_person 61 [] (v9.toList ++ []) J))
    (k3 : (0 : Int32) ≤ a → a < 4 → ¬ b = 0 → ¬ b = 1 → b = 2 → HCall E me_X9_folkOf (d + 2) [.ref 1, .int a] I (fun v9 J => HGo E (mF E (d + 3) Q) me_X11_person 73 [(0, .ref 0), (1, .int a)] (v9.toList ++ []) J))
    (k4 : (0 : Int32) ≤ a → a < 4 → ¬ b = 0 → ¬ b = 1 → ¬ b = 2 → b = 3 → HCall E me_X9_visitsLeft (d + 2) [.ref 1, .ref 12, .int ((1 : Int32) <<< (a &&& 31))] I (fun v9 J => HGo E (mF E (d + 3) Q) me_X11_person 96 [] (v9.toList ++ []) J))
    (k5 : (0 : Int32) ≤ a → a < 4 → ¬ b = 0 → ¬ b = 1 → ¬ b = 2 → ¬ b = 3 → Q (some (.int (-3))) I)
    (k6 : ¬ ((0 : Int32) ≤ a ∧ a < 4) → Q (some (.int (-2))) I)
    : HGo E (mF E (d + 3) Q) me_X11_person 0 [(0, .ref 0), (1, .int a), (2, .int b)] [] I := by
  refine h_iload_n dX11_person_0 rfl 1 rfl ?_
  refine h_invS (As := [.int a]) (st := []) dX11_person_1 lk_X11_100 (h_room (by decide)) rfl rfl (Nat.le_of_ble_eq_true rfl) ?_
  refine c_X11_isPerson (fun c1 c2 => ?_) (fun c3 => ?_)
  ·
    refine h_if_ne (tgt := 10) dX11_person_4 (by decide) (fun _ => ?_) (fun c => absurd c (by decide))
    refine h_iload_n dX11_person_10 rfl 2 rfl ?_
    by_cases c4 : b = 0
    · refine h_tswIn (off := 29) (tgt := 40) 0 dX11_person_11 (by rw [c4]; rfl) (by decide) (by decide) (by decide) (by decide) ?_
      refine h_aload_n dX11_person_40 rfl 0 rfl ?_
      refine gf_9_0 dX11_person_41 hl_X11_10 nl_0 zk_0 zp_0_0 ?_
      refine h_aload_n dX11_person_44 rfl 0 rfl ?_
      refine gf_9_1 dX11_person_45 hl_X11_19 nl_0 zk_0 zp_0_1 ?_
      refine h_iload_n dX11_person_48 rfl 1 rfl ?_
      refine h_pick [] [] rfl ?_
      refine h_invV (As := [.ref 12, .int a]) (st := []) dX11_person_49 lk_X11_103 (h_room (by decide)) nl_1 zk_1 (by decide) rfl rfl rfl (Nat.le_of_ble_eq_true rfl) ?_
      exact k1 c1 c2 c4
    by_cases c5 : b = 1
    · refine h_tswIn (off := 42) (tgt := 53) 1 dX11_person_11 (by rw [c5]; rfl) (by decide) (by decide) (by decide) (by decide) ?_
      refine h_aload_n dX11_person_53 rfl 0 rfl ?_
      refine gf_9_0 dX11_person_54 hl_X11_10 nl_0 zk_0 zp_0_0 ?_
      refine h_iload_n dX11_person_57 rfl 1 rfl ?_
      refine h_pick [] [] rfl ?_
      refine h_invV (As := [.int a]) (st := []) dX11_person_58 lk_X11_107 (h_room (by decide)) nl_1 zk_1 (by decide) rfl rfl rfl (Nat.le_of_ble_eq_true rfl) ?_
      exact k2 c1 c2 c4 c5
    by_cases c6 : b = 2
    · refine h_tswIn (off := 54) (tgt := 65) 2 dX11_person_11 (by rw [c6]; rfl) (by decide) (by decide) (by decide) (by decide) ?_
      refine h_aload_n dX11_person_65 rfl 0 rfl ?_
      refine gf_9_0 dX11_person_66 hl_X11_10 nl_0 zk_0 zp_0_0 ?_
      refine h_iload_n dX11_person_69 rfl 1 rfl ?_
      refine h_pick [0, 1] [(0, .ref 0), (1, .int a)] rfl ?_
      refine h_invV (As := [.int a]) (st := []) dX11_person_70 lk_X11_107 (h_room (by decide)) nl_1 zk_1 (by decide) rfl rfl rfl (Nat.le_of_ble_eq_true rfl) ?_
      exact k3 c1 c2 c4 c5 c6
    by_cases c7 : b = 3
    · refine h_tswIn (off := 71) (tgt := 82) 3 dX11_person_11 (by rw [c7]; rfl) (by decide) (by decide) (by decide) (by decide) ?_
      refine h_aload_n dX11_person_82 rfl 0 rfl ?_
      refine gf_9_0 dX11_person_83 hl_X11_10 nl_0 zk_0 zp_0_0 ?_
      refine h_aload_n dX11_person_86 rfl 0 rfl ?_
      refine gf_9_1 dX11_person_87 hl_X11_19 nl_0 zk_0 zp_0_1 ?_
      refine h_iconst (v := 1) dX11_person_90 (by decide) ?_
      refine h_iload_n dX11_person_91 rfl 1 rfl ?_
      refine h_ishl dX11_person_92 ?_
      refine h_pick [] [] rfl ?_
      refine h_invV (As := [.ref 12, .int ((1 : Int32) <<< (a &&& 31))]) (st := []) dX11_person_93 lk_X11_121 (h_room (by decide)) nl_1 zk_1 (by decide) rfl rfl rfl (Nat.le_of_ble_eq_true rfl) ?_
      exact k4 c1 c2 c4 c5 c6 c7
    refine h_tswOut (tgt := 97) dX11_person_11 (tsw_out4 c4 c5 c6 c7) (by decide) ?_
    refine h_bipush (v := (-3)) dX11_person_97 (by decide) ?_
    exact h_iret dX11_person_99 rfl (k5 c1 c2 c4 c5 c6 c7)
  ·
    refine h_if_ne (tgt := 10) dX11_person_4 (by decide) (fun c => absurd c (by decide)) (fun _ => ?_)
    refine h_bipush (v := (-2)) dX11_person_7 (by decide) ?_
    exact h_iret dX11_person_9 rfl (k6 c3)
set_option maxHeartbeats 1000000 in
set_option maxRecDepth 20000 in
theorem sg_X11_person_W_52 {E : HEn} {d : Nat} {Q : Option Value → HIh → Prop} {I : HIh} {s0 : Int32}
    (k1 : Q (some (.int s0)) I)
    : HGo E (mF E (d + 3) Q) me_X11_person 52 [] [.int s0] I := by
  exact h_iret dX11_person_52 rfl (k1)
set_option maxHeartbeats 1000000 in
set_option maxRecDepth 20000 in
theorem sg_X11_person_W_61 {E : HEn} {d : Nat} {Q : Option Value → HIh → Prop} {I : HIh} 
    (k1 : Q (some (.int 2)) I)
    : HGo E (mF E (d + 3) Q) me_X11_person 61 [] [.ref 4] I := by
  refine h_invU (As := []) (st := []) dX11_person_61 lk_X11_111_X10 (h_room (by decide)) nl_4 zk_4 (by decide) rfl rfl rfl (Nat.le_of_ble_eq_true rfl) ?_
  refine c_X10_habit ?_
  exact h_iret dX11_person_64 rfl (k1)
set_option maxHeartbeats 1000000 in
set_option maxRecDepth 20000 in
theorem sg_X11_person_W_73 {E : HEn} {d : Nat} {Q : Option Value → HIh → Prop} {I : HIh} {x1 : Int32}
    (k1 : Q (some (.int (fBnd (I 8) x1))) I)
    : HGo E (mF E (d + 3) Q) me_X11_person 73 [(0, .ref 0), (1, .int x1)] [.ref 4] I := by
  refine h_aload_n dX11_person_73 rfl 0 rfl ?_
  refine gf_9_0 dX11_person_74 hl_X11_10 nl_0 zk_0 zp_0_0 ?_
  refine h_iload_n dX11_person_77 rfl 1 rfl ?_
  refine h_invU (As := [.ref 1, .int x1]) (st := []) dX11_person_78 lk_X11_117_X10 (h_room (by decide)) nl_4 zk_4 (by decide) rfl rfl rfl (Nat.le_of_ble_eq_true rfl) ?_
  refine c_X10_waitsFor ?_
  exact h_iret dX11_person_81 rfl (k1)
set_option maxHeartbeats 1000000 in
set_option maxRecDepth 20000 in
theorem sg_X11_person_W_96 {E : HEn} {d : Nat} {Q : Option Value → HIh → Prop} {I : HIh} {s0 : Int32}
    (k1 : Q (some (.int s0)) I)
    : HGo E (mF E (d + 3) Q) me_X11_person 96 [] [.int s0] I := by
  exact h_iret dX11_person_96 rfl (k1)
set_option maxHeartbeats 1000000 in
set_option maxRecDepth 20000 in
theorem sg_X11_person_C_0 {E : HEn} {d : Nat} {Q : Option Value → HIh → Prop} {I : HIh} {a : Int32} {b : Int32}
    (k1 : (0 : Int32) ≤ a → a < 4 → b = 0 → HCall E me_X9_wealth (d + 2) [.ref 1, .ref 12, .int a] I (fun v9 J => HGo E (mF E (d + 3) Q) me_X11_person 52 [] (v9.toList ++ []) J))
    (k2 : (0 : Int32) ≤ a → a < 4 → ¬ b = 0 → b = 1 → HCall E me_X9_folkOf (d + 2) [.ref 1, .int a] I (fun v9 J => HGo E (mF E (d + 3) Q) me_X11_person 61 [] (v9.toList ++ []) J))
    (k3 : (0 : Int32) ≤ a → a < 4 → ¬ b = 0 → ¬ b = 1 → b = 2 → HCall E me_X9_folkOf (d + 2) [.ref 1, .int a] I (fun v9 J => HGo E (mF E (d + 3) Q) me_X11_person 73 [(0, .ref 0), (1, .int a)] (v9.toList ++ []) J))
    (k4 : (0 : Int32) ≤ a → a < 4 → ¬ b = 0 → ¬ b = 1 → ¬ b = 2 → b = 3 → HCall E me_X9_visitsLeft (d + 2) [.ref 1, .ref 12, .int ((1 : Int32) <<< (a &&& 31))] I (fun v9 J => HGo E (mF E (d + 3) Q) me_X11_person 96 [] (v9.toList ++ []) J))
    (k5 : (0 : Int32) ≤ a → a < 4 → ¬ b = 0 → ¬ b = 1 → ¬ b = 2 → ¬ b = 3 → Q (some (.int (-3))) I)
    (k6 : ¬ ((0 : Int32) ≤ a ∧ a < 4) → Q (some (.int (-2))) I)
    : HGo E (mF E (d + 3) Q) me_X11_person 0 [(0, .ref 0), (1, .int a), (2, .int b)] [] I := by
  refine h_iload_n dX11_person_0 rfl 1 rfl ?_
  refine h_invS (As := [.int a]) (st := []) dX11_person_1 lk_X11_100 (h_room (by decide)) rfl rfl (Nat.le_of_ble_eq_true rfl) ?_
  refine c_X11_isPerson (fun c1 c2 => ?_) (fun c3 => ?_)
  ·
    refine h_if_ne (tgt := 10) dX11_person_4 (by decide) (fun _ => ?_) (fun c => absurd c (by decide))
    refine h_iload_n dX11_person_10 rfl 2 rfl ?_
    by_cases c4 : b = 0
    · refine h_tswIn (off := 29) (tgt := 40) 0 dX11_person_11 (by rw [c4]; rfl) (by decide) (by decide) (by decide) (by decide) ?_
      refine h_aload_n dX11_person_40 rfl 0 rfl ?_
      refine gf_9_0 dX11_person_41 hl_X11_10 nl_0 zk_0 zp_0_0 ?_
      refine h_aload_n dX11_person_44 rfl 0 rfl ?_
      refine gf_9_1 dX11_person_45 hl_X11_19 nl_0 zk_0 zp_0_1 ?_
      refine h_iload_n dX11_person_48 rfl 1 rfl ?_
      refine h_pick [] [] rfl ?_
      refine h_invV (As := [.ref 12, .int a]) (st := []) dX11_person_49 lk_X11_103 (h_room (by decide)) nl_1 zk_1 (by decide) rfl rfl rfl (Nat.le_of_ble_eq_true rfl) ?_
      exact k1 c1 c2 c4
    by_cases c5 : b = 1
    · refine h_tswIn (off := 42) (tgt := 53) 1 dX11_person_11 (by rw [c5]; rfl) (by decide) (by decide) (by decide) (by decide) ?_
      refine h_aload_n dX11_person_53 rfl 0 rfl ?_
      refine gf_9_0 dX11_person_54 hl_X11_10 nl_0 zk_0 zp_0_0 ?_
      refine h_iload_n dX11_person_57 rfl 1 rfl ?_
      refine h_pick [] [] rfl ?_
      refine h_invV (As := [.int a]) (st := []) dX11_person_58 lk_X11_107 (h_room (by decide)) nl_1 zk_1 (by decide) rfl rfl rfl (Nat.le_of_ble_eq_true rfl) ?_
      exact k2 c1 c2 c4 c5
    by_cases c6 : b = 2
    · refine h_tswIn (off := 54) (tgt := 65) 2 dX11_person_11 (by rw [c6]; rfl) (by decide) (by decide) (by decide) (by decide) ?_
      refine h_aload_n dX11_person_65 rfl 0 rfl ?_
      refine gf_9_0 dX11_person_66 hl_X11_10 nl_0 zk_0 zp_0_0 ?_
      refine h_iload_n dX11_person_69 rfl 1 rfl ?_
      refine h_pick [0, 1] [(0, .ref 0), (1, .int a)] rfl ?_
      refine h_invV (As := [.int a]) (st := []) dX11_person_70 lk_X11_107 (h_room (by decide)) nl_1 zk_1 (by decide) rfl rfl rfl (Nat.le_of_ble_eq_true rfl) ?_
      exact k3 c1 c2 c4 c5 c6
    by_cases c7 : b = 3
    · refine h_tswIn (off := 71) (tgt := 82) 3 dX11_person_11 (by rw [c7]; rfl) (by decide) (by decide) (by decide) (by decide) ?_
      refine h_aload_n dX11_person_82 rfl 0 rfl ?_
      refine gf_9_0 dX11_person_83 hl_X11_10 nl_0 zk_0 zp_0_0 ?_
      refine h_aload_n dX11_person_86 rfl 0 rfl ?_
      refine gf_9_1 dX11_person_87 hl_X11_19 nl_0 zk_0 zp_0_1 ?_
      refine h_iconst (v := 1) dX11_person_90 (by decide) ?_
      refine h_iload_n dX11_person_91 rfl 1 rfl ?_
      refine h_ishl dX11_person_92 ?_
      refine h_pick [] [] rfl ?_
      refine h_invV (As := [.ref 12, .int ((1 : Int32) <<< (a &&& 31))]) (st := []) dX11_person_93 lk_X11_121 (h_room (by decide)) nl_1 zk_1 (by decide) rfl rfl rfl (Nat.le_of_ble_eq_true rfl) ?_
      exact k4 c1 c2 c4 c5 c6 c7
    refine h_tswOut (tgt := 97) dX11_person_11 (tsw_out4 c4 c5 c6 c7) (by decide) ?_
    refine h_bipush (v := (-3)) dX11_person_97 (by decide) ?_
    exact h_iret dX11_person_99 rfl (k5 c1 c2 c4 c5 c6 c7)
  ·
    refine h_if_ne (tgt := 10) dX11_person_4 (by decide) (fun c => absurd c (by decide)) (fun _ => ?_)
    refine h_bipush (v := (-2)) dX11_person_7 (by decide) ?_
    exact h_iret dX11_person_9 rfl (k6 c3)
set_option maxHeartbeats 1000000 in
set_option maxRecDepth 20000 in
theorem sg_X11_person_C_52 {E : HEn} {d : Nat} {Q : Option Value → HIh → Prop} {I : HIh} {s0 : Int32}
    (k1 : Q (some (.int s0)) I)
    : HGo E (mF E (d + 3) Q) me_X11_person 52 [] [.int s0] I := by
  exact h_iret dX11_person_52 rfl (k1)
set_option maxHeartbeats 1000000 in
set_option maxRecDepth 20000 in
theorem sg_X11_person_C_61 {E : HEn} {d : Nat} {Q : Option Value → HIh → Prop} {I : HIh} 
    (k1 : Q (some (.int 3)) I)
    : HGo E (mF E (d + 3) Q) me_X11_person 61 [] [.ref 5] I := by
  refine h_invU (As := []) (st := []) dX11_person_61 lk_X11_111_X0 (h_room (by decide)) nl_5 zk_5 (by decide) rfl rfl rfl (Nat.le_of_ble_eq_true rfl) ?_
  refine c_X0_habit ?_
  exact h_iret dX11_person_64 rfl (k1)
set_option maxHeartbeats 1000000 in
set_option maxRecDepth 20000 in
theorem sg_X11_person_C_73 {E : HEn} {d : Nat} {Q : Option Value → HIh → Prop} {I : HIh} {x1 : Int32}
    (k1 : Q (some (.int (-1))) I)
    : HGo E (mF E (d + 3) Q) me_X11_person 73 [(0, .ref 0), (1, .int x1)] [.ref 5] I := by
  refine h_aload_n dX11_person_73 rfl 0 rfl ?_
  refine gf_9_0 dX11_person_74 hl_X11_10 nl_0 zk_0 zp_0_0 ?_
  refine h_iload_n dX11_person_77 rfl 1 rfl ?_
  refine h_invU (As := [.ref 1, .int x1]) (st := []) dX11_person_78 lk_X11_117_X0 (h_room (by decide)) nl_5 zk_5 (by decide) rfl rfl rfl (Nat.le_of_ble_eq_true rfl) ?_
  refine c_X1_waitsFor_C ?_
  exact h_iret dX11_person_81 rfl (k1)
set_option maxHeartbeats 1000000 in
set_option maxRecDepth 20000 in
theorem sg_X11_person_C_96 {E : HEn} {d : Nat} {Q : Option Value → HIh → Prop} {I : HIh} {s0 : Int32}
    (k1 : Q (some (.int s0)) I)
    : HGo E (mF E (d + 3) Q) me_X11_person 96 [] [.int s0] I := by
  exact h_iret dX11_person_96 rfl (k1)
set_option maxHeartbeats 1000000 in
set_option maxRecDepth 20000 in
theorem sg_X12_wordOf_0 {E : HEn} {d : Nat} {Q : Option Value → HIh → Prop} {I : HIh} 
    (k1 : HCall E me_X12_habitWord (d + 2) [.ref 87] I (fun v9 J => HGo E (mF E (d + 3) Q) me_X12_wordOf 4 [(0, .ref 87)] (v9.toList ++ []) J))
    : HGo E (mF E (d + 3) Q) me_X12_wordOf 0 [(0, .ref 87)] [] I := by
  refine h_aload_n dX12_wordOf_0 rfl 0 rfl ?_
  refine h_invV (As := []) (st := []) dX12_wordOf_1 lk_X12_98 (h_room (by decide)) nl_87 zk_87 (by decide) rfl rfl rfl (Nat.le_of_ble_eq_true rfl) ?_
  exact k1
set_option maxHeartbeats 1000000 in
set_option maxRecDepth 20000 in
theorem sg_X12_wordOf_4 {E : HEn} {d : Nat} {Q : Option Value → HIh → Prop} {I : HIh} {s0 : Int32}
    (k1 : s0 = (-1) → HCall E me_X12_isWord (d + 2) [.ref 87, .long 20391395, .int 5] I (fun v9 J => HGo E (mF E (d + 3) Q) me_X12_wordOf 22 [(0, .ref 87)] (v9.toList ++ []) J))
    (k2 : ¬ s0 = (-1) → Q (some (.int s0)) I)
    : HGo E (mF E (d + 3) Q) me_X12_wordOf 4 [(0, .ref 87)] [.int s0] I := by
  refine h_istore_n (L' := [(1, .int s0), (0, .ref 87)]) dX12_wordOf_4 rfl (by decide) rfl ?_
  refine h_iload_n dX12_wordOf_5 rfl 0 rfl ?_
  refine h_iconst (v := (-1)) dX12_wordOf_6 (by decide) ?_
  refine h_icmp_eq (tgt := 14) dX12_wordOf_7 (by decide) (fun c1 => ?_) (fun c1 => ?_)
  ·
    refine h_aload_n dX12_wordOf_14 rfl 1 rfl ?_
    refine h_ldc2 dX12_wordOf_15 wt_944 rfl ?_
    refine h_iconst (v := 5) dX12_wordOf_18 (by decide) ?_
    refine h_pick [1] [(0, .ref 87)] rfl ?_
    refine h_invV (As := [.long 20391395, .int 5]) (st := []) dX12_wordOf_19 lk_X12_88 (h_room (by decide)) nl_87 zk_87 (by decide) rfl rfl rfl (Nat.le_of_ble_eq_true rfl) ?_
    exact k1 c1
  ·
    refine h_iload_n dX12_wordOf_10 rfl 0 rfl ?_
    refine h_goto (tgt := 108) dX12_wordOf_11 (by decide) ?_
    exact h_iret dX12_wordOf_108 rfl (k2 c1)
set_option maxHeartbeats 1000000 in
set_option maxRecDepth 20000 in
theorem sg_X12_wordOf_22 {E : HEn} {d : Nat} {Q : Option Value → HIh → Prop} {I : HIh} {s0 : Int32}
    (k1 : s0 = 0 → HCall E me_X12_isWord (d + 2) [.ref 87, .long 628012, .int 4] I (fun v9 J => HGo E (mF E (d + 3) Q) me_X12_wordOf 37 [(0, .ref 87)] (v9.toList ++ []) J))
    (k2 : ¬ s0 = 0 → Q (some (.int 0)) I)
    : HGo E (mF E (d + 3) Q) me_X12_wordOf 22 [(0, .ref 87)] [.int s0] I := by
  refine h_if_eq (tgt := 29) dX12_wordOf_22 (by decide) (fun c1 => ?_) (fun c1 => ?_)
  ·
    refine h_aload_n dX12_wordOf_29 rfl 0 rfl ?_
    refine h_ldc2 dX12_wordOf_30 wt_945 rfl ?_
    refine h_iconst (v := 4) dX12_wordOf_33 (by decide) ?_
    refine h_invV (As := [.long 628012, .int 4]) (st := []) dX12_wordOf_34 lk_X12_88 (h_room (by decide)) nl_87 zk_87 (by decide) rfl rfl rfl (Nat.le_of_ble_eq_true rfl) ?_
    exact k1 c1
  ·
    refine h_iconst (v := 0) dX12_wordOf_25 (by decide) ?_
    refine h_goto (tgt := 108) dX12_wordOf_26 (by decide) ?_
    exact h_iret dX12_wordOf_108 rfl (k2 c1)
set_option maxHeartbeats 1000000 in
set_option maxRecDepth 20000 in
theorem sg_X12_wordOf_37 {E : HEn} {d : Nat} {Q : Option Value → HIh → Prop} {I : HIh} {s0 : Int32}
    (k1 : s0 = 0 → HCall E me_X12_isWord (d + 2) [.ref 87, .long 5884592, .int 5] I (fun v9 J => HGo E (mF E (d + 3) Q) me_X12_wordOf 52 [(0, .ref 87)] (v9.toList ++ []) J))
    (k2 : ¬ s0 = 0 → Q (some (.int 1)) I)
    : HGo E (mF E (d + 3) Q) me_X12_wordOf 37 [(0, .ref 87)] [.int s0] I := by
  refine h_if_eq (tgt := 44) dX12_wordOf_37 (by decide) (fun c1 => ?_) (fun c1 => ?_)
  ·
    refine h_aload_n dX12_wordOf_44 rfl 0 rfl ?_
    refine h_ldc2 dX12_wordOf_45 wt_946 rfl ?_
    refine h_iconst (v := 5) dX12_wordOf_48 (by decide) ?_
    refine h_invV (As := [.long 5884592, .int 5]) (st := []) dX12_wordOf_49 lk_X12_88 (h_room (by decide)) nl_87 zk_87 (by decide) rfl rfl rfl (Nat.le_of_ble_eq_true rfl) ?_
    exact k1 c1
  ·
    refine h_iconst (v := 1) dX12_wordOf_40 (by decide) ?_
    refine h_goto (tgt := 108) dX12_wordOf_41 (by decide) ?_
    exact h_iret dX12_wordOf_108 rfl (k2 c1)
set_option maxHeartbeats 1000000 in
set_option maxRecDepth 20000 in
theorem sg_X12_wordOf_52 {E : HEn} {d : Nat} {Q : Option Value → HIh → Prop} {I : HIh} {s0 : Int32}
    (k1 : s0 = 0 → HCall E me_X12_isWord (d + 2) [.ref 87, .long 177635, .int 4] I (fun v9 J => HGo E (mF E (d + 3) Q) me_X12_wordOf 67 [(0, .ref 87)] (v9.toList ++ []) J))
    (k2 : ¬ s0 = 0 → Q (some (.int 2)) I)
    : HGo E (mF E (d + 3) Q) me_X12_wordOf 52 [(0, .ref 87)] [.int s0] I := by
  refine h_if_eq (tgt := 59) dX12_wordOf_52 (by decide) (fun c1 => ?_) (fun c1 => ?_)
  ·
    refine h_aload_n dX12_wordOf_59 rfl 0 rfl ?_
    refine h_ldc2 dX12_wordOf_60 wt_947 rfl ?_
    refine h_iconst (v := 4) dX12_wordOf_63 (by decide) ?_
    refine h_invV (As := [.long 177635, .int 4]) (st := []) dX12_wordOf_64 lk_X12_88 (h_room (by decide)) nl_87 zk_87 (by decide) rfl rfl rfl (Nat.le_of_ble_eq_true rfl) ?_
    exact k1 c1
  ·
    refine h_iconst (v := 2) dX12_wordOf_55 (by decide) ?_
    refine h_goto (tgt := 108) dX12_wordOf_56 (by decide) ?_
    exact h_iret dX12_wordOf_108 rfl (k2 c1)
set_option maxHeartbeats 1000000 in
set_option maxRecDepth 20000 in
theorem sg_X12_wordOf_67 {E : HEn} {d : Nat} {Q : Option Value → HIh → Prop} {I : HIh} {s0 : Int32}
    (k1 : s0 = 0 → HCall E me_X12_isWord (d + 2) [.ref 87, .long 23596, .int 3] I (fun v9 J => HGo E (mF E (d + 3) Q) me_X12_wordOf 83 [(0, .ref 87)] (v9.toList ++ []) J))
    (k2 : ¬ s0 = 0 → Q (some (.int 7)) I)
    : HGo E (mF E (d + 3) Q) me_X12_wordOf 67 [(0, .ref 87)] [.int s0] I := by
  refine h_if_eq (tgt := 75) dX12_wordOf_67 (by decide) (fun c1 => ?_) (fun c1 => ?_)
  ·
    refine h_aload_n dX12_wordOf_75 rfl 0 rfl ?_
    refine h_ldc2 dX12_wordOf_76 wt_948 rfl ?_
    refine h_iconst (v := 3) dX12_wordOf_79 (by decide) ?_
    refine h_invV (As := [.long 23596, .int 3]) (st := []) dX12_wordOf_80 lk_X12_88 (h_room (by decide)) nl_87 zk_87 (by decide) rfl rfl rfl (Nat.le_of_ble_eq_true rfl) ?_
    exact k1 c1
  ·
    refine h_bipush (v := 7) dX12_wordOf_70 (by decide) ?_
    refine h_goto (tgt := 108) dX12_wordOf_72 (by decide) ?_
    exact h_iret dX12_wordOf_108 rfl (k2 c1)
set_option maxHeartbeats 1000000 in
set_option maxRecDepth 20000 in
theorem sg_X12_wordOf_83 {E : HEn} {d : Nat} {Q : Option Value → HIh → Prop} {I : HIh} {s0 : Int32}
    (k1 : s0 = 0 → HCall E me_X12_isWord (d + 2) [.ref 87, .long 5717377, .int 5] I (fun v9 J => HGo E (mF E (d + 3) Q) me_X12_wordOf 99 [] (v9.toList ++ []) J))
    (k2 : ¬ s0 = 0 → Q (some (.int 8)) I)
    : HGo E (mF E (d + 3) Q) me_X12_wordOf 83 [(0, .ref 87)] [.int s0] I := by
  refine h_if_eq (tgt := 91) dX12_wordOf_83 (by decide) (fun c1 => ?_) (fun c1 => ?_)
  ·
    refine h_aload_n dX12_wordOf_91 rfl 0 rfl ?_
    refine h_ldc2 dX12_wordOf_92 wt_949 rfl ?_
    refine h_iconst (v := 5) dX12_wordOf_95 (by decide) ?_
    refine h_pick [] [] rfl ?_
    refine h_invV (As := [.long 5717377, .int 5]) (st := []) dX12_wordOf_96 lk_X12_88 (h_room (by decide)) nl_87 zk_87 (by decide) rfl rfl rfl (Nat.le_of_ble_eq_true rfl) ?_
    exact k1 c1
  ·
    refine h_bipush (v := 8) dX12_wordOf_86 (by decide) ?_
    refine h_goto (tgt := 108) dX12_wordOf_88 (by decide) ?_
    exact h_iret dX12_wordOf_108 rfl (k2 c1)
set_option maxHeartbeats 1000000 in
set_option maxRecDepth 20000 in
theorem sg_X12_wordOf_99 {E : HEn} {d : Nat} {Q : Option Value → HIh → Prop} {I : HIh} {s0 : Int32}
    (k1 : s0 = 0 → Q (some (.int (-1))) I)
    (k2 : ¬ s0 = 0 → Q (some (.int 9)) I)
    : HGo E (mF E (d + 3) Q) me_X12_wordOf 99 [] [.int s0] I := by
  refine h_if_eq (tgt := 107) dX12_wordOf_99 (by decide) (fun c1 => ?_) (fun c1 => ?_)
  ·
    refine h_iconst (v := (-1)) dX12_wordOf_107 (by decide) ?_
    exact h_iret dX12_wordOf_108 rfl (k1 c1)
  ·
    refine h_bipush (v := 9) dX12_wordOf_102 (by decide) ?_
    refine h_goto (tgt := 108) dX12_wordOf_104 (by decide) ?_
    exact h_iret dX12_wordOf_108 rfl (k2 c1)
set_option maxHeartbeats 1000000 in
set_option maxRecDepth 20000 in
theorem sg_X12_readsCoins_0 {E : HEn} {d : Nat} {Q : Option Value → HIh → Prop} {I : HIh} 
    (k1 : HGo E (mF E (d + 4) Q) me_X12_readsCoins 10 [(0, .ref 87), (1, .int (12 * (I 87 5))), (2, .int 1)] [] I)
    : HGo E (mF E (d + 4) Q) me_X12_readsCoins 0 [(0, .ref 87)] [] I := by
  refine h_bipush (v := 12) dX12_readsCoins_0 (by decide) ?_
  refine h_aload_n dX12_readsCoins_2 rfl 0 rfl ?_
  refine gf_10_5 dX12_readsCoins_3 hl_X12_118 nl_87 zk_87 ?_
  refine h_imul dX12_readsCoins_6 ?_
  refine h_istore_n (L' := [(1, .int (12 * (I 87 5))), (0, .ref 87)]) dX12_readsCoins_7 rfl (by decide) rfl ?_
  refine h_iconst (v := 1) dX12_readsCoins_8 (by decide) ?_
  refine h_istore_n (L' := [(2, .int 1), (1, .int (12 * (I 87 5))), (0, .ref 87)]) dX12_readsCoins_9 rfl (by decide) rfl ?_
  refine h_pick [2, 1, 0] [(0, .ref 87), (1, .int (12 * (I 87 5))), (2, .int 1)] rfl ?_
  exact k1
set_option maxHeartbeats 1000000 in
set_option maxRecDepth 20000 in
theorem sg_X12_readsCoins_10 {E : HEn} {d : Nat} {Q : Option Value → HIh → Prop} {I : HIh} {x1 : Int32} {x2 : Int32}
    (k1 : vp_in (x1 + 1) 120)
    (k2 : (I 91 ((x1 + 1).toNatClampNeg)) = 0 → HCall E me_X12_reads (d + 3) [.ref 87, .int x2, .int 999] I (fun v9 J => HGo E (mF E (d + 4) Q) me_X12_readsCoins 49 [(0, .ref 87), (1, .int x1)] (v9.toList ++ []) J))
    (k3 : ¬ (I 91 ((x1 + 1).toNatClampNeg)) = 0 → HCall E me_X12_isNumber (d + 3) [.ref 87] I (fun v9 J => HGo E (mF E (d + 4) Q) me_X12_readsCoins 25 [(0, .ref 87), (1, .int x1), (2, .int x2)] (v9.toList ++ []) J))
    : HGo E (mF E (d + 4) Q) me_X12_readsCoins 10 [(0, .ref 87), (1, .int x1), (2, .int x2)] [] I := by
  refine h_aload_n dX12_readsCoins_10 rfl 0 rfl ?_
  refine gf_10_4 dX12_readsCoins_11 hl_X12_20 nl_87 zk_87 zp_87_4 ?_
  refine h_iload_n dX12_readsCoins_14 rfl 1 rfl ?_
  refine h_iconst (v := 1) dX12_readsCoins_15 (by decide) ?_
  refine h_iadd dX12_readsCoins_16 ?_
  refine h_iald dX12_readsCoins_17 nl_91 zk_91 (by rw [zn_91]; exact k1) ?_
  refine h_if_eq (tgt := 41) dX12_readsCoins_18 (by decide) (fun c1 => ?_) (fun c1 => ?_)
  ·
    refine h_aload_n dX12_readsCoins_41 rfl 0 rfl ?_
    refine h_iload_n dX12_readsCoins_42 rfl 2 rfl ?_
    refine h_sipush (v := 999) dX12_readsCoins_43 (by decide) ?_
    refine h_pick [0, 1] [(0, .ref 87), (1, .int x1)] rfl ?_
    refine h_invV (As := [.int x2, .int 999]) (st := []) dX12_readsCoins_46 lk_X12_124 (h_room (by decide)) nl_87 zk_87 (by decide) rfl rfl rfl (Nat.le_of_ble_eq_true rfl) ?_
    exact k2 c1
  ·
    refine h_aload_n dX12_readsCoins_21 rfl 0 rfl ?_
    refine h_invV (As := []) (st := []) dX12_readsCoins_22 lk_X12_114 (h_room (by decide)) nl_87 zk_87 (by decide) rfl rfl rfl (Nat.le_of_ble_eq_true rfl) ?_
    exact k3 c1
set_option maxHeartbeats 1000000 in
set_option maxRecDepth 20000 in
theorem sg_X12_readsCoins_49 {E : HEn} {d : Nat} {Q : Option Value → HIh → Prop} {I : HIh} {x1 : Int32} {s0 : Int32}
    (k1 : ¬ s0 = 0 → vp_in (x1 + 1) 120)
    (k2 : ¬ s0 = 0 → vp_in ((x1 + 1) + (I 91 ((x1 + 1).toNatClampNeg))) 120)
    (k3 : ¬ s0 = 0 → HGo E (mF E (d + 4) Q) me_X12_readsCoins 10 [(0, .ref 87), (1, .int x1), (2, .int ((I 91 (((x1 + 1) + (I 91 ((x1 + 1).toNatClampNeg))).toNatClampNeg)) + 1))] [] I)
    (k4 : s0 = 0 → Q (some (.int 0)) I)
    : HGo E (mF E (d + 4) Q) me_X12_readsCoins 49 [(0, .ref 87), (1, .int x1)] [.int s0] I := by
  refine h_if_ne (tgt := 54) dX12_readsCoins_49 (by decide) (fun c1 => ?_) (fun c1 => ?_)
  ·
    refine h_aload_n dX12_readsCoins_54 rfl 0 rfl ?_
    refine gf_10_4 dX12_readsCoins_55 hl_X12_20 nl_87 zk_87 zp_87_4 ?_
    refine h_iload_n dX12_readsCoins_58 rfl 1 rfl ?_
    refine h_iconst (v := 1) dX12_readsCoins_59 (by decide) ?_
    refine h_iadd dX12_readsCoins_60 ?_
    refine h_aload_n dX12_readsCoins_61 rfl 0 rfl ?_
    refine gf_10_4 dX12_readsCoins_62 hl_X12_20 nl_87 zk_87 zp_87_4 ?_
    refine h_iload_n dX12_readsCoins_65 rfl 1 rfl ?_
    refine h_iconst (v := 1) dX12_readsCoins_66 (by decide) ?_
    refine h_iadd dX12_readsCoins_67 ?_
    refine h_iald dX12_readsCoins_68 nl_91 zk_91 (by rw [zn_91]; exact k1 c1) ?_
    refine h_iadd dX12_readsCoins_69 ?_
    refine h_iald dX12_readsCoins_70 nl_91 zk_91 (by rw [zn_91]; exact k2 c1) ?_
    refine h_iconst (v := 1) dX12_readsCoins_71 (by decide) ?_
    refine h_iadd dX12_readsCoins_72 ?_
    refine h_istore_n (L' := [(2, .int ((I 91 (((x1 + 1) + (I 91 ((x1 + 1).toNatClampNeg))).toNatClampNeg)) + 1)), (0, .ref 87), (1, .int x1)]) dX12_readsCoins_73 rfl (by decide) rfl ?_
    refine h_goto (tgt := 10) dX12_readsCoins_74 (by decide) ?_
    refine h_pick [1, 2, 0] [(0, .ref 87), (1, .int x1), (2, .int ((I 91 (((x1 + 1) + (I 91 ((x1 + 1).toNatClampNeg))).toNatClampNeg)) + 1))] rfl ?_
    exact k3 c1
  ·
    refine h_iconst (v := 0) dX12_readsCoins_52 (by decide) ?_
    exact h_zret dX12_readsCoins_53 rfl rfl (k4 c1)
set_option maxHeartbeats 1000000 in
set_option maxRecDepth 20000 in
theorem sg_X12_readsCoins_25 {E : HEn} {d : Nat} {Q : Option Value → HIh → Prop} {I : HIh} {x1 : Int32} {x2 : Int32} {s0 : Int32}
    (k1 : s0 = 0 → Q (some (.int 1)) I)
    (k2 : ¬ s0 = 0 → vp_in (x1 + 1) 120)
    (k3 : ¬ s0 = 0 → 6 ≤ (I 91 ((x1 + 1).toNatClampNeg)) → Q (some (.int 1)) I)
    (k4 : ¬ s0 = 0 → ¬ 6 ≤ (I 91 ((x1 + 1).toNatClampNeg)) → HCall E me_X12_reads (d + 3) [.ref 87, .int x2, .int 999] I (fun v9 J => HGo E (mF E (d + 4) Q) me_X12_readsCoins 49 [(0, .ref 87), (1, .int x1)] (v9.toList ++ []) J))
    : HGo E (mF E (d + 4) Q) me_X12_readsCoins 25 [(0, .ref 87), (1, .int x1), (2, .int x2)] [.int s0] I := by
  refine h_if_eq (tgt := 77) dX12_readsCoins_25 (by decide) (fun c1 => ?_) (fun c1 => ?_)
  ·
    refine h_iconst (v := 1) dX12_readsCoins_77 (by decide) ?_
    exact h_zret dX12_readsCoins_78 rfl rfl (k1 c1)
  ·
    refine h_aload_n dX12_readsCoins_28 rfl 0 rfl ?_
    refine gf_10_4 dX12_readsCoins_29 hl_X12_20 nl_87 zk_87 zp_87_4 ?_
    refine h_iload_n dX12_readsCoins_32 rfl 1 rfl ?_
    refine h_iconst (v := 1) dX12_readsCoins_33 (by decide) ?_
    refine h_iadd dX12_readsCoins_34 ?_
    refine h_iald dX12_readsCoins_35 nl_91 zk_91 (by rw [zn_91]; exact k2 c1) ?_
    refine h_bipush (v := 6) dX12_readsCoins_36 (by decide) ?_
    refine h_icmp_ge (tgt := 77) dX12_readsCoins_38 (by decide) (fun c2 => ?_) (fun c2 => ?_)
    ·
      refine h_iconst (v := 1) dX12_readsCoins_77 (by decide) ?_
      exact h_zret dX12_readsCoins_78 rfl rfl (k3 c1 c2)
    ·
      refine h_aload_n dX12_readsCoins_41 rfl 0 rfl ?_
      refine h_iload_n dX12_readsCoins_42 rfl 2 rfl ?_
      refine h_sipush (v := 999) dX12_readsCoins_43 (by decide) ?_
      refine h_pick [0, 1] [(0, .ref 87), (1, .int x1)] rfl ?_
      refine h_invV (As := [.int x2, .int 999]) (st := []) dX12_readsCoins_46 lk_X12_124 (h_room (by decide)) nl_87 zk_87 (by decide) rfl rfl rfl (Nat.le_of_ble_eq_true rfl) ?_
      exact k4 c1 c2
set_option maxHeartbeats 1000000 in
set_option maxRecDepth 20000 in
theorem sg_X12_readsCome_0 {E : HEn} {d : Nat} {Q : Option Value → HIh → Prop} {I : HIh} 
    (k1 : HGo E (mF E (d + 4) Q) me_X12_readsCome 8 [(0, .ref 87), (1, .int (12 * (I 87 5)))] [] I)
    : HGo E (mF E (d + 4) Q) me_X12_readsCome 0 [(0, .ref 87)] [] I := by
  refine h_bipush (v := 12) dX12_readsCome_0 (by decide) ?_
  refine h_aload_n dX12_readsCome_2 rfl 0 rfl ?_
  refine gf_10_5 dX12_readsCome_3 hl_X12_118 nl_87 zk_87 ?_
  refine h_imul dX12_readsCome_6 ?_
  refine h_istore_n (L' := [(1, .int (12 * (I 87 5))), (0, .ref 87)]) dX12_readsCome_7 rfl (by decide) rfl ?_
  refine h_pick [1, 0] [(0, .ref 87), (1, .int (12 * (I 87 5)))] rfl ?_
  exact k1
set_option maxHeartbeats 1000000 in
set_option maxRecDepth 20000 in
theorem sg_X12_readsCome_8 {E : HEn} {d : Nat} {Q : Option Value → HIh → Prop} {I : HIh} {x1 : Int32}
    (k1 : vp_in (x1 + 1) 120)
    (k2 : (I 91 ((x1 + 1).toNatClampNeg)) = 0 → vp_in (x1 + 1) 120)
    (k3 : (I 91 ((x1 + 1).toNatClampNeg)) = 0 → ((I 87 18) + (I 91 ((x1 + 1).toNatClampNeg))) = 24 → Q (some (.int 0)) I)
    (k4 : (I 91 ((x1 + 1).toNatClampNeg)) = 0 → ¬ ((I 87 18) + (I 91 ((x1 + 1).toNatClampNeg))) = 24 → HCall E me_X12_reads (d + 3) [.ref 87, .int 0, .int 3] I (fun v9 J => HGo E (mF E (d + 4) Q) me_X12_readsCome 63 [(0, .ref 87), (1, .int x1)] (v9.toList ++ []) J))
    (k5 : ¬ (I 91 ((x1 + 1).toNatClampNeg)) = 0 → HCall E me_X12_isNumber (d + 3) [.ref 87] I (fun v9 J => HGo E (mF E (d + 4) Q) me_X12_readsCome 23 [(0, .ref 87), (1, .int x1)] (v9.toList ++ []) J))
    : HGo E (mF E (d + 4) Q) me_X12_readsCome 8 [(0, .ref 87), (1, .int x1)] [] I := by
  refine h_aload_n dX12_readsCome_8 rfl 0 rfl ?_
  refine gf_10_4 dX12_readsCome_9 hl_X12_20 nl_87 zk_87 zp_87_4 ?_
  refine h_iload_n dX12_readsCome_12 rfl 1 rfl ?_
  refine h_iconst (v := 1) dX12_readsCome_13 (by decide) ?_
  refine h_iadd dX12_readsCome_14 ?_
  refine h_iald dX12_readsCome_15 nl_91 zk_91 (by rw [zn_91]; exact k1) ?_
  refine h_if_eq (tgt := 39) dX12_readsCome_16 (by decide) (fun c1 => ?_) (fun c1 => ?_)
  ·
    refine h_aload_n dX12_readsCome_39 rfl 0 rfl ?_
    refine gf_10_18 dX12_readsCome_40 hl_X12_128 nl_87 zk_87 ?_
    refine h_aload_n dX12_readsCome_43 rfl 0 rfl ?_
    refine gf_10_4 dX12_readsCome_44 hl_X12_20 nl_87 zk_87 zp_87_4 ?_
    refine h_iload_n dX12_readsCome_47 rfl 1 rfl ?_
    refine h_iconst (v := 1) dX12_readsCome_48 (by decide) ?_
    refine h_iadd dX12_readsCome_49 ?_
    refine h_iald dX12_readsCome_50 nl_91 zk_91 (by rw [zn_91]; exact k2 c1) ?_
    refine h_iadd dX12_readsCome_51 ?_
    refine h_bipush (v := 24) dX12_readsCome_52 (by decide) ?_
    refine h_icmp_eq (tgt := 66) dX12_readsCome_54 (by decide) (fun c2 => ?_) (fun c2 => ?_)
    ·
      refine h_iconst (v := 0) dX12_readsCome_66 (by decide) ?_
      exact h_zret dX12_readsCome_67 rfl rfl (k3 c1 c2)
    ·
      refine h_aload_n dX12_readsCome_57 rfl 0 rfl ?_
      refine h_iconst (v := 0) dX12_readsCome_58 (by decide) ?_
      refine h_iconst (v := 3) dX12_readsCome_59 (by decide) ?_
      refine h_invV (As := [.int 0, .int 3]) (st := []) dX12_readsCome_60 lk_X12_124 (h_room (by decide)) nl_87 zk_87 (by decide) rfl rfl rfl (Nat.le_of_ble_eq_true rfl) ?_
      exact k4 c1 c2
  ·
    refine h_aload_n dX12_readsCome_19 rfl 0 rfl ?_
    refine h_invV (As := []) (st := []) dX12_readsCome_20 lk_X12_114 (h_room (by decide)) nl_87 zk_87 (by decide) rfl rfl rfl (Nat.le_of_ble_eq_true rfl) ?_
    exact k5 c1
set_option maxHeartbeats 1000000 in
set_option maxRecDepth 20000 in
theorem sg_X12_readsCome_63 {E : HEn} {d : Nat} {Q : Option Value → HIh → Prop} {I : HIh} {x1 : Int32} {s0 : Int32}
    (k1 : ¬ s0 = 0 → HGo E (mF E (d + 4) Q) me_X12_readsCome 8 [(0, .ref 87), (1, .int x1)] [] I)
    (k2 : s0 = 0 → Q (some (.int 0)) I)
    : HGo E (mF E (d + 4) Q) me_X12_readsCome 63 [(0, .ref 87), (1, .int x1)] [.int s0] I := by
  refine h_if_ne (tgt := 8) dX12_readsCome_63 (by decide) (fun c1 => ?_) (fun c1 => ?_)
  ·
    exact k1 c1
  ·
    refine h_iconst (v := 0) dX12_readsCome_66 (by decide) ?_
    exact h_zret dX12_readsCome_67 rfl rfl (k2 c1)
set_option maxHeartbeats 1000000 in
set_option maxRecDepth 20000 in
theorem sg_X12_readsCome_23 {E : HEn} {d : Nat} {Q : Option Value → HIh → Prop} {I : HIh} {x1 : Int32} {s0 : Int32}
    (k1 : s0 = 0 → Q (some (.int 1)) I)
    (k2 : ¬ s0 = 0 → vp_in (x1 + 1) 120)
    (k3 : ¬ s0 = 0 → 9 ≤ (I 91 ((x1 + 1).toNatClampNeg)) → Q (some (.int 1)) I)
    (k4 : ¬ s0 = 0 → ¬ 9 ≤ (I 91 ((x1 + 1).toNatClampNeg)) → vp_in (x1 + 1) 120)
    (k5 : ¬ s0 = 0 → ¬ 9 ≤ (I 91 ((x1 + 1).toNatClampNeg)) → ((I 87 18) + (I 91 ((x1 + 1).toNatClampNeg))) = 24 → Q (some (.int 0)) I)
    (k6 : ¬ s0 = 0 → ¬ 9 ≤ (I 91 ((x1 + 1).toNatClampNeg)) → ¬ ((I 87 18) + (I 91 ((x1 + 1).toNatClampNeg))) = 24 → HCall E me_X12_reads (d + 3) [.ref 87, .int 0, .int 3] I (fun v9 J => HGo E (mF E (d + 4) Q) me_X12_readsCome 63 [(0, .ref 87), (1, .int x1)] (v9.toList ++ []) J))
    : HGo E (mF E (d + 4) Q) me_X12_readsCome 23 [(0, .ref 87), (1, .int x1)] [.int s0] I := by
  refine h_if_eq (tgt := 68) dX12_readsCome_23 (by decide) (fun c1 => ?_) (fun c1 => ?_)
  ·
    refine h_iconst (v := 1) dX12_readsCome_68 (by decide) ?_
    exact h_zret dX12_readsCome_69 rfl rfl (k1 c1)
  ·
    refine h_aload_n dX12_readsCome_26 rfl 0 rfl ?_
    refine gf_10_4 dX12_readsCome_27 hl_X12_20 nl_87 zk_87 zp_87_4 ?_
    refine h_iload_n dX12_readsCome_30 rfl 1 rfl ?_
    refine h_iconst (v := 1) dX12_readsCome_31 (by decide) ?_
    refine h_iadd dX12_readsCome_32 ?_
    refine h_iald dX12_readsCome_33 nl_91 zk_91 (by rw [zn_91]; exact k2 c1) ?_
    refine h_bipush (v := 9) dX12_readsCome_34 (by decide) ?_
    refine h_icmp_ge (tgt := 68) dX12_readsCome_36 (by decide) (fun c2 => ?_) (fun c2 => ?_)
    ·
      refine h_iconst (v := 1) dX12_readsCome_68 (by decide) ?_
      exact h_zret dX12_readsCome_69 rfl rfl (k3 c1 c2)
    ·
      refine h_aload_n dX12_readsCome_39 rfl 0 rfl ?_
      refine gf_10_18 dX12_readsCome_40 hl_X12_128 nl_87 zk_87 ?_
      refine h_aload_n dX12_readsCome_43 rfl 0 rfl ?_
      refine gf_10_4 dX12_readsCome_44 hl_X12_20 nl_87 zk_87 zp_87_4 ?_
      refine h_iload_n dX12_readsCome_47 rfl 1 rfl ?_
      refine h_iconst (v := 1) dX12_readsCome_48 (by decide) ?_
      refine h_iadd dX12_readsCome_49 ?_
      refine h_iald dX12_readsCome_50 nl_91 zk_91 (by rw [zn_91]; exact k4 c1 c2) ?_
      refine h_iadd dX12_readsCome_51 ?_
      refine h_bipush (v := 24) dX12_readsCome_52 (by decide) ?_
      refine h_icmp_eq (tgt := 66) dX12_readsCome_54 (by decide) (fun c3 => ?_) (fun c3 => ?_)
      ·
        refine h_iconst (v := 0) dX12_readsCome_66 (by decide) ?_
        exact h_zret dX12_readsCome_67 rfl rfl (k5 c1 c2 c3)
      ·
        refine h_aload_n dX12_readsCome_57 rfl 0 rfl ?_
        refine h_iconst (v := 0) dX12_readsCome_58 (by decide) ?_
        refine h_iconst (v := 3) dX12_readsCome_59 (by decide) ?_
        refine h_invV (As := [.int 0, .int 3]) (st := []) dX12_readsCome_60 lk_X12_124 (h_room (by decide)) nl_87 zk_87 (by decide) rfl rfl rfl (Nat.le_of_ble_eq_true rfl) ?_
        exact k6 c1 c2 c3
set_option maxHeartbeats 1000000 in
set_option maxRecDepth 20000 in
theorem sg_X12_byHabit_0 {E : HEn} {d : Nat} {Q : Option Value → HIh → Prop} {I : HIh} {a : Int32} {b : Int32}
    (k1 : HGo E (mF E (d + 3) Q) me_X12_byHabit 8 [(0, .ref 87), (1, .int a), (2, .int b), (3, .int (-1)), (4, .int 0), (5, .int 0)] [] I)
    : HGo E (mF E (d + 3) Q) me_X12_byHabit 0 [(0, .ref 87), (1, .int a), (2, .int b)] [] I := by
  refine h_iconst (v := (-1)) dX12_byHabit_0 (by decide) ?_
  refine h_istore_n (L' := [(3, .int (-1)), (0, .ref 87), (1, .int a), (2, .int b)]) dX12_byHabit_1 rfl (by decide) rfl ?_
  refine h_iconst (v := 0) dX12_byHabit_2 (by decide) ?_
  refine h_istore (L' := [(4, .int 0), (3, .int (-1)), (0, .ref 87), (1, .int a), (2, .int b)]) dX12_byHabit_3 (by decide) rfl ?_
  refine h_iconst (v := 0) dX12_byHabit_5 (by decide) ?_
  refine h_istore (L' := [(5, .int 0), (4, .int 0), (3, .int (-1)), (0, .ref 87), (1, .int a), (2, .int b)]) dX12_byHabit_6 (by decide) rfl ?_
  refine h_pick [3, 4, 5, 2, 1, 0] [(0, .ref 87), (1, .int a), (2, .int b), (3, .int (-1)), (4, .int 0), (5, .int 0)] rfl ?_
  exact k1
set_option maxHeartbeats 1000000 in
set_option maxRecDepth 20000 in
theorem sg_X12_byHabit_8 {E : HEn} {d : Nat} {Q : Option Value → HIh → Prop} {I : HIh} {x1 : Int32} {x2 : Int32} {x3 : Int32} {x4 : Int32} {x5 : Int32}
    (k1 : (I 87 6) ≤ x5 → vp_in x2 4)
    (k2 : (I 87 6) ≤ x5 → (I 94 x2.toNatClampNeg) = 0 → Q (some (.int (-1))) I)
    (k3 : (I 87 6) ≤ x5 → ¬ (I 94 x2.toNatClampNeg) = 0 → vp_in x2 4)
    (k4 : (I 87 6) ≤ x5 → ¬ (I 94 x2.toNatClampNeg) = 0 → ¬ (I 94 x2.toNatClampNeg) = 2 → Q (some (.int x3)) I)
    (k5 : (I 87 6) ≤ x5 → ¬ (I 94 x2.toNatClampNeg) = 0 → (I 94 x2.toNatClampNeg) = 2 → vp_in x2 4)
    (k6 : (I 87 6) ≤ x5 → ¬ (I 94 x2.toNatClampNeg) = 0 → (I 94 x2.toNatClampNeg) = 2 → (I 95 x2.toNatClampNeg) ≤ x4 → Q (some (.int x3)) I)
    (k7 : (I 87 6) ≤ x5 → ¬ (I 94 x2.toNatClampNeg) = 0 → (I 94 x2.toNatClampNeg) = 2 → ¬ (I 95 x2.toNatClampNeg) ≤ x4 → Q (some (.int (-1))) I)
    (k8 : ¬ (I 87 6) ≤ x5 → HCall E me_X12_isHad (d + 2) [.ref 87, .int x1, .int x2, .int x5] I (fun v9 J => HGo E (mF E (d + 3) Q) me_X12_byHabit 25 [(0, .ref 87), (1, .int x1), (2, .int x2), (3, .int x3), (4, .int x4), (5, .int x5)] (v9.toList ++ []) J))
    : HGo E (mF E (d + 3) Q) me_X12_byHabit 8 [(0, .ref 87), (1, .int x1), (2, .int x2), (3, .int x3), (4, .int x4), (5, .int x5)] [] I := by
  refine h_iload dX12_byHabit_8 5 rfl ?_
  refine h_aload_n dX12_byHabit_10 rfl 0 rfl ?_
  refine gf_10_6 dX12_byHabit_11 hl_X12_23 nl_87 zk_87 ?_
  refine h_icmp_ge (tgt := 102) dX12_byHabit_14 (by decide) (fun c1 => ?_) (fun c1 => ?_)
  ·
    refine h_aload_n dX12_byHabit_102 rfl 0 rfl ?_
    refine gf_10_9 dX12_byHabit_103 hl_X12_33 nl_87 zk_87 zp_87_9 ?_
    refine h_iload_n dX12_byHabit_106 rfl 2 rfl ?_
    refine h_iald dX12_byHabit_107 nl_94 zk_94 (by rw [zn_94]; exact k1 c1) ?_
    refine h_if_eq (tgt := 132) dX12_byHabit_108 (by decide) (fun c2 => ?_) (fun c2 => ?_)
    ·
      refine h_iconst (v := (-1)) dX12_byHabit_132 (by decide) ?_
      refine h_goto (tgt := 137) dX12_byHabit_133 (by decide) ?_
      exact h_iret dX12_byHabit_137 rfl (k2 c1 c2)
    ·
      refine h_aload_n dX12_byHabit_111 rfl 0 rfl ?_
      refine gf_10_9 dX12_byHabit_112 hl_X12_33 nl_87 zk_87 zp_87_9 ?_
      refine h_iload_n dX12_byHabit_115 rfl 2 rfl ?_
      refine h_iald dX12_byHabit_116 nl_94 zk_94 (by rw [zn_94]; exact k3 c1 c2) ?_
      refine h_iconst (v := 2) dX12_byHabit_117 (by decide) ?_
      refine h_icmp_ne (tgt := 136) dX12_byHabit_118 (by decide) (fun c3 => ?_) (fun c3 => ?_)
      ·
        refine h_iload_n dX12_byHabit_136 rfl 3 rfl ?_
        exact h_iret dX12_byHabit_137 rfl (k4 c1 c2 c3)
      ·
        refine h_iload dX12_byHabit_121 4 rfl ?_
        refine h_aload_n dX12_byHabit_123 rfl 0 rfl ?_
        refine gf_10_10 dX12_byHabit_124 hl_X12_36 nl_87 zk_87 zp_87_10 ?_
        refine h_iload_n dX12_byHabit_127 rfl 2 rfl ?_
        refine h_iald dX12_byHabit_128 nl_95 zk_95 (by rw [zn_95]; exact k5 c1 c2 c3) ?_
        refine h_icmp_ge (tgt := 136) dX12_byHabit_129 (by decide) (fun c4 => ?_) (fun c4 => ?_)
        ·
          refine h_iload_n dX12_byHabit_136 rfl 3 rfl ?_
          exact h_iret dX12_byHabit_137 rfl (k6 c1 c2 c3 c4)
        ·
          refine h_iconst (v := (-1)) dX12_byHabit_132 (by decide) ?_
          refine h_goto (tgt := 137) dX12_byHabit_133 (by decide) ?_
          exact h_iret dX12_byHabit_137 rfl (k7 c1 c2 c3 c4)
  ·
    refine h_aload_n dX12_byHabit_17 rfl 0 rfl ?_
    refine h_iload_n dX12_byHabit_18 rfl 1 rfl ?_
    refine h_iload_n dX12_byHabit_19 rfl 2 rfl ?_
    refine h_iload dX12_byHabit_20 5 rfl ?_
    refine h_invV (As := [.int x1, .int x2, .int x5]) (st := []) dX12_byHabit_22 lk_X12_196 (h_room (by decide)) nl_87 zk_87 (by decide) rfl rfl rfl (Nat.le_of_ble_eq_true rfl) ?_
    exact k8 c1
set_option maxHeartbeats 1000000 in
set_option maxRecDepth 20000 in
theorem sg_X12_byHabit_25 {E : HEn} {d : Nat} {Q : Option Value → HIh → Prop} {I : HIh} {x1 : Int32} {x2 : Int32} {x3 : Int32} {x4 : Int32} {x5 : Int32} {s0 : Int32}
    (k1 : s0 = 0 → 0 ≤ x4 → HGo E (mF E (d + 3) Q) me_X12_byHabit 8 [(0, .ref 87), (1, .int x1), (2, .int x2), (3, .int x3), (4, .int x4), (5, .int (x5 + 1))] [] I)
    (k2 : s0 = 0 → ¬ 0 ≤ x4 → vp_in x2 4)
    (k3 : s0 = 0 → ¬ 0 ≤ x4 → ¬ (I 94 x2.toNatClampNeg) = 3 → HGo E (mF E (d + 3) Q) me_X12_byHabit 8 [(0, .ref 87), (1, .int x1), (2, .int x2), (3, .int x5), (4, .int 0), (5, .int (x5 + 1))] [] I)
    (k4 : s0 = 0 → ¬ 0 ≤ x4 → (I 94 x2.toNatClampNeg) = 3 → ¬ x3 = (-1) → HGo E (mF E (d + 3) Q) me_X12_byHabit 8 [(0, .ref 87), (1, .int x1), (2, .int x2), (3, .int x3), (4, .int x4), (5, .int (x5 + 1))] [] I)
    (k5 : s0 = 0 → ¬ 0 ≤ x4 → (I 94 x2.toNatClampNeg) = 3 → x3 = (-1) → HGo E (mF E (d + 3) Q) me_X12_byHabit 8 [(0, .ref 87), (1, .int x1), (2, .int x2), (3, .int x5), (4, .int 0), (5, .int (x5 + 1))] [] I)
    (k6 : ¬ s0 = 0 → HCall E me_X12_gainOf (d + 2) [.ref 87, .int x1, .int x5] I (fun v9 J => HGo E (mF E (d + 3) Q) me_X12_byHabit 35 [(0, .ref 87), (1, .int x1), (2, .int x2), (3, .int x3), (4, .int x4), (5, .int x5)] (v9.toList ++ []) J))
    : HGo E (mF E (d + 3) Q) me_X12_byHabit 25 [(0, .ref 87), (1, .int x1), (2, .int x2), (3, .int x3), (4, .int x4), (5, .int x5)] [.int s0] I := by
  refine h_if_eq (tgt := 38) dX12_byHabit_25 (by decide) (fun c1 => ?_) (fun c1 => ?_)
  ·
    refine h_iconst (v := 0) dX12_byHabit_38 (by decide) ?_
    refine h_istore (L' := [(6, .int 0), (0, .ref 87), (1, .int x1), (2, .int x2), (3, .int x3), (4, .int x4), (5, .int x5)]) dX12_byHabit_39 (by decide) rfl ?_
    refine h_iload dX12_byHabit_41 0 rfl ?_
    refine h_iload dX12_byHabit_43 5 rfl ?_
    refine h_icmp_le (tgt := 67) dX12_byHabit_45 (by decide) (fun c2 => ?_) (fun c2 => ?_)
    ·
      refine h_iconst (v := 0) dX12_byHabit_67 (by decide) ?_
      refine h_istore (L' := [(7, .int 0), (6, .int 0), (0, .ref 87), (1, .int x1), (2, .int x2), (3, .int x3), (4, .int x4), (5, .int x5)]) dX12_byHabit_68 (by decide) rfl ?_
      refine h_iload dX12_byHabit_70 0 rfl ?_
      refine h_if_eq (tgt := 80) dX12_byHabit_72 (by decide) (fun _ => ?_) (fun c => absurd c (by decide))
      refine h_iload_n dX12_byHabit_80 rfl 5 rfl ?_
      refine h_istore_n (L' := [(3, .int x3), (7, .int 0), (6, .int 0), (0, .ref 87), (1, .int x1), (2, .int x2), (4, .int x4), (5, .int x5)]) dX12_byHabit_81 rfl (by decide) rfl ?_
      refine h_iload dX12_byHabit_82 1 rfl ?_
      refine h_if_eq (tgt := 92) dX12_byHabit_84 (by decide) (fun _ => ?_) (fun c => absurd c (by decide))
      refine h_iload dX12_byHabit_92 6 rfl ?_
      refine h_istore (L' := [(4, .int x4), (3, .int x3), (7, .int 0), (6, .int 0), (0, .ref 87), (1, .int x1), (2, .int x2), (5, .int x5)]) dX12_byHabit_94 (by decide) rfl ?_
      refine h_iinc (v := (x5 + 1)) (L' := [(5, .int (x5 + 1)), (4, .int x4), (3, .int x3), (7, .int 0), (6, .int 0), (0, .ref 87), (1, .int x1), (2, .int x2)]) dX12_byHabit_96 7 rfl rfl (by decide) rfl ?_
      refine h_goto (tgt := 8) dX12_byHabit_99 (by decide) ?_
      refine h_pick [5, 6, 7, 2, 1, 0] [(0, .ref 87), (1, .int x1), (2, .int x2), (3, .int x3), (4, .int x4), (5, .int (x5 + 1))] rfl ?_
      exact k1 c1 c2
    ·
      refine h_aload_n dX12_byHabit_48 rfl 1 rfl ?_
      refine gf_10_9 dX12_byHabit_49 hl_X12_33 nl_87 zk_87 zp_87_9 ?_
      refine h_iload_n dX12_byHabit_52 rfl 3 rfl ?_
      refine h_iald dX12_byHabit_53 nl_94 zk_94 (by rw [zn_94]; exact k2 c1 c2) ?_
      refine h_iconst (v := 3) dX12_byHabit_54 (by decide) ?_
      refine h_icmp_ne (tgt := 63) dX12_byHabit_55 (by decide) (fun c3 => ?_) (fun c3 => ?_)
      ·
        refine h_iconst (v := 1) dX12_byHabit_63 (by decide) ?_
        refine h_goto (tgt := 68) dX12_byHabit_64 (by decide) ?_
        refine h_istore (L' := [(7, .int 1), (6, .int 0), (0, .ref 87), (1, .int x1), (2, .int x2), (3, .int x3), (4, .int x4), (5, .int x5)]) dX12_byHabit_68 (by decide) rfl ?_
        refine h_iload dX12_byHabit_70 0 rfl ?_
        refine h_if_eq (tgt := 80) dX12_byHabit_72 (by decide) (fun c => absurd c (by decide)) (fun _ => ?_)
        refine h_iload dX12_byHabit_75 7 rfl ?_
        refine h_goto (tgt := 81) dX12_byHabit_77 (by decide) ?_
        refine h_istore_n (L' := [(3, .int x5), (7, .int 1), (6, .int 0), (0, .ref 87), (1, .int x1), (2, .int x2), (4, .int x4), (5, .int x5)]) dX12_byHabit_81 rfl (by decide) rfl ?_
        refine h_iload dX12_byHabit_82 1 rfl ?_
        refine h_if_eq (tgt := 92) dX12_byHabit_84 (by decide) (fun c => absurd c (by decide)) (fun _ => ?_)
        refine h_iload dX12_byHabit_87 2 rfl ?_
        refine h_goto (tgt := 94) dX12_byHabit_89 (by decide) ?_
        refine h_istore (L' := [(4, .int 0), (3, .int x5), (7, .int 1), (6, .int 0), (0, .ref 87), (1, .int x1), (2, .int x2), (5, .int x5)]) dX12_byHabit_94 (by decide) rfl ?_
        refine h_iinc (v := (x5 + 1)) (L' := [(5, .int (x5 + 1)), (4, .int 0), (3, .int x5), (7, .int 1), (6, .int 0), (0, .ref 87), (1, .int x1), (2, .int x2)]) dX12_byHabit_96 7 rfl rfl (by decide) rfl ?_
        refine h_goto (tgt := 8) dX12_byHabit_99 (by decide) ?_
        refine h_pick [5, 6, 7, 2, 1, 0] [(0, .ref 87), (1, .int x1), (2, .int x2), (3, .int x5), (4, .int 0), (5, .int (x5 + 1))] rfl ?_
        exact k3 c1 c2 c3
      ·
        refine h_iload_n dX12_byHabit_58 rfl 4 rfl ?_
        refine h_iconst (v := (-1)) dX12_byHabit_59 (by decide) ?_
        refine h_icmp_ne (tgt := 67) dX12_byHabit_60 (by decide) (fun c4 => ?_) (fun c4 => ?_)
        ·
          refine h_iconst (v := 0) dX12_byHabit_67 (by decide) ?_
          refine h_istore (L' := [(7, .int 0), (6, .int 0), (0, .ref 87), (1, .int x1), (2, .int x2), (3, .int x3), (4, .int x4), (5, .int x5)]) dX12_byHabit_68 (by decide) rfl ?_
          refine h_iload dX12_byHabit_70 0 rfl ?_
          refine h_if_eq (tgt := 80) dX12_byHabit_72 (by decide) (fun _ => ?_) (fun c => absurd c (by decide))
          refine h_iload_n dX12_byHabit_80 rfl 5 rfl ?_
          refine h_istore_n (L' := [(3, .int x3), (7, .int 0), (6, .int 0), (0, .ref 87), (1, .int x1), (2, .int x2), (4, .int x4), (5, .int x5)]) dX12_byHabit_81 rfl (by decide) rfl ?_
          refine h_iload dX12_byHabit_82 1 rfl ?_
          refine h_if_eq (tgt := 92) dX12_byHabit_84 (by decide) (fun _ => ?_) (fun c => absurd c (by decide))
          refine h_iload dX12_byHabit_92 6 rfl ?_
          refine h_istore (L' := [(4, .int x4), (3, .int x3), (7, .int 0), (6, .int 0), (0, .ref 87), (1, .int x1), (2, .int x2), (5, .int x5)]) dX12_byHabit_94 (by decide) rfl ?_
          refine h_iinc (v := (x5 + 1)) (L' := [(5, .int (x5 + 1)), (4, .int x4), (3, .int x3), (7, .int 0), (6, .int 0), (0, .ref 87), (1, .int x1), (2, .int x2)]) dX12_byHabit_96 7 rfl rfl (by decide) rfl ?_
          refine h_goto (tgt := 8) dX12_byHabit_99 (by decide) ?_
          refine h_pick [5, 6, 7, 2, 1, 0] [(0, .ref 87), (1, .int x1), (2, .int x2), (3, .int x3), (4, .int x4), (5, .int (x5 + 1))] rfl ?_
          exact k4 c1 c2 c3 c4
        ·
          refine h_iconst (v := 1) dX12_byHabit_63 (by decide) ?_
          refine h_goto (tgt := 68) dX12_byHabit_64 (by decide) ?_
          refine h_istore (L' := [(7, .int 1), (6, .int 0), (0, .ref 87), (1, .int x1), (2, .int x2), (3, .int x3), (4, .int x4), (5, .int x5)]) dX12_byHabit_68 (by decide) rfl ?_
          refine h_iload dX12_byHabit_70 0 rfl ?_
          refine h_if_eq (tgt := 80) dX12_byHabit_72 (by decide) (fun c => absurd c (by decide)) (fun _ => ?_)
          refine h_iload dX12_byHabit_75 7 rfl ?_
          refine h_goto (tgt := 81) dX12_byHabit_77 (by decide) ?_
          refine h_istore_n (L' := [(3, .int x5), (7, .int 1), (6, .int 0), (0, .ref 87), (1, .int x1), (2, .int x2), (4, .int x4), (5, .int x5)]) dX12_byHabit_81 rfl (by decide) rfl ?_
          refine h_iload dX12_byHabit_82 1 rfl ?_
          refine h_if_eq (tgt := 92) dX12_byHabit_84 (by decide) (fun c => absurd c (by decide)) (fun _ => ?_)
          refine h_iload dX12_byHabit_87 2 rfl ?_
          refine h_goto (tgt := 94) dX12_byHabit_89 (by decide) ?_
          refine h_istore (L' := [(4, .int 0), (3, .int x5), (7, .int 1), (6, .int 0), (0, .ref 87), (1, .int x1), (2, .int x2), (5, .int x5)]) dX12_byHabit_94 (by decide) rfl ?_
          refine h_iinc (v := (x5 + 1)) (L' := [(5, .int (x5 + 1)), (4, .int 0), (3, .int x5), (7, .int 1), (6, .int 0), (0, .ref 87), (1, .int x1), (2, .int x2)]) dX12_byHabit_96 7 rfl rfl (by decide) rfl ?_
          refine h_goto (tgt := 8) dX12_byHabit_99 (by decide) ?_
          refine h_pick [5, 6, 7, 2, 1, 0] [(0, .ref 87), (1, .int x1), (2, .int x2), (3, .int x5), (4, .int 0), (5, .int (x5 + 1))] rfl ?_
          exact k5 c1 c2 c3 c4
  ·
    refine h_aload_n dX12_byHabit_28 rfl 0 rfl ?_
    refine h_iload_n dX12_byHabit_29 rfl 1 rfl ?_
    refine h_iload dX12_byHabit_30 5 rfl ?_
    refine h_invV (As := [.int x1, .int x5]) (st := []) dX12_byHabit_32 lk_X12_200 (h_room (by decide)) nl_87 zk_87 (by decide) rfl rfl rfl (Nat.le_of_ble_eq_true rfl) ?_
    exact k6 c1
set_option maxHeartbeats 1000000 in
set_option maxRecDepth 20000 in
theorem sg_X12_byHabit_35 {E : HEn} {d : Nat} {Q : Option Value → HIh → Prop} {I : HIh} {x1 : Int32} {x2 : Int32} {x3 : Int32} {x4 : Int32} {x5 : Int32} {s0 : Int32}
    (k1 : s0 ≤ x4 → HGo E (mF E (d + 3) Q) me_X12_byHabit 8 [(0, .ref 87), (1, .int x1), (2, .int x2), (3, .int x3), (4, .int x4), (5, .int (x5 + 1))] [] I)
    (k2 : ¬ s0 ≤ x4 → vp_in x2 4)
    (k3 : ¬ s0 ≤ x4 → ¬ (I 94 x2.toNatClampNeg) = 3 → HGo E (mF E (d + 3) Q) me_X12_byHabit 8 [(0, .ref 87), (1, .int x1), (2, .int x2), (3, .int x5), (4, .int s0), (5, .int (x5 + 1))] [] I)
    (k4 : ¬ s0 ≤ x4 → (I 94 x2.toNatClampNeg) = 3 → ¬ x3 = (-1) → HGo E (mF E (d + 3) Q) me_X12_byHabit 8 [(0, .ref 87), (1, .int x1), (2, .int x2), (3, .int x3), (4, .int x4), (5, .int (x5 + 1))] [] I)
    (k5 : ¬ s0 ≤ x4 → (I 94 x2.toNatClampNeg) = 3 → x3 = (-1) → HGo E (mF E (d + 3) Q) me_X12_byHabit 8 [(0, .ref 87), (1, .int x1), (2, .int x2), (3, .int x5), (4, .int s0), (5, .int (x5 + 1))] [] I)
    : HGo E (mF E (d + 3) Q) me_X12_byHabit 35 [(0, .ref 87), (1, .int x1), (2, .int x2), (3, .int x3), (4, .int x4), (5, .int x5)] [.int s0] I := by
  refine h_goto (tgt := 39) dX12_byHabit_35 (by decide) ?_
  refine h_istore (L' := [(6, .int s0), (0, .ref 87), (1, .int x1), (2, .int x2), (3, .int x3), (4, .int x4), (5, .int x5)]) dX12_byHabit_39 (by decide) rfl ?_
  refine h_iload dX12_byHabit_41 0 rfl ?_
  refine h_iload dX12_byHabit_43 5 rfl ?_
  refine h_icmp_le (tgt := 67) dX12_byHabit_45 (by decide) (fun c1 => ?_) (fun c1 => ?_)
  ·
    refine h_iconst (v := 0) dX12_byHabit_67 (by decide) ?_
    refine h_istore (L' := [(7, .int 0), (6, .int s0), (0, .ref 87), (1, .int x1), (2, .int x2), (3, .int x3), (4, .int x4), (5, .int x5)]) dX12_byHabit_68 (by decide) rfl ?_
    refine h_iload dX12_byHabit_70 0 rfl ?_
    refine h_if_eq (tgt := 80) dX12_byHabit_72 (by decide) (fun _ => ?_) (fun c => absurd c (by decide))
    refine h_iload_n dX12_byHabit_80 rfl 5 rfl ?_
    refine h_istore_n (L' := [(3, .int x3), (7, .int 0), (6, .int s0), (0, .ref 87), (1, .int x1), (2, .int x2), (4, .int x4), (5, .int x5)]) dX12_byHabit_81 rfl (by decide) rfl ?_
    refine h_iload dX12_byHabit_82 1 rfl ?_
    refine h_if_eq (tgt := 92) dX12_byHabit_84 (by decide) (fun _ => ?_) (fun c => absurd c (by decide))
    refine h_iload dX12_byHabit_92 6 rfl ?_
    refine h_istore (L' := [(4, .int x4), (3, .int x3), (7, .int 0), (6, .int s0), (0, .ref 87), (1, .int x1), (2, .int x2), (5, .int x5)]) dX12_byHabit_94 (by decide) rfl ?_
    refine h_iinc (v := (x5 + 1)) (L' := [(5, .int (x5 + 1)), (4, .int x4), (3, .int x3), (7, .int 0), (6, .int s0), (0, .ref 87), (1, .int x1), (2, .int x2)]) dX12_byHabit_96 7 rfl rfl (by decide) rfl ?_
    refine h_goto (tgt := 8) dX12_byHabit_99 (by decide) ?_
    refine h_pick [5, 6, 7, 2, 1, 0] [(0, .ref 87), (1, .int x1), (2, .int x2), (3, .int x3), (4, .int x4), (5, .int (x5 + 1))] rfl ?_
    exact k1 c1
  ·
    refine h_aload_n dX12_byHabit_48 rfl 1 rfl ?_
    refine gf_10_9 dX12_byHabit_49 hl_X12_33 nl_87 zk_87 zp_87_9 ?_
    refine h_iload_n dX12_byHabit_52 rfl 3 rfl ?_
    refine h_iald dX12_byHabit_53 nl_94 zk_94 (by rw [zn_94]; exact k2 c1) ?_
    refine h_iconst (v := 3) dX12_byHabit_54 (by decide) ?_
    refine h_icmp_ne (tgt := 63) dX12_byHabit_55 (by decide) (fun c2 => ?_) (fun c2 => ?_)
    ·
      refine h_iconst (v := 1) dX12_byHabit_63 (by decide) ?_
      refine h_goto (tgt := 68) dX12_byHabit_64 (by decide) ?_
      refine h_istore (L' := [(7, .int 1), (6, .int s0), (0, .ref 87), (1, .int x1), (2, .int x2), (3, .int x3), (4, .int x4), (5, .int x5)]) dX12_byHabit_68 (by decide) rfl ?_
      refine h_iload dX12_byHabit_70 0 rfl ?_
      refine h_if_eq (tgt := 80) dX12_byHabit_72 (by decide) (fun c => absurd c (by decide)) (fun _ => ?_)
      refine h_iload dX12_byHabit_75 7 rfl ?_
      refine h_goto (tgt := 81) dX12_byHabit_77 (by decide) ?_
      refine h_istore_n (L' := [(3, .int x5), (7, .int 1), (6, .int s0), (0, .ref 87), (1, .int x1), (2, .int x2), (4, .int x4), (5, .int x5)]) dX12_byHabit_81 rfl (by decide) rfl ?_
      refine h_iload dX12_byHabit_82 1 rfl ?_
      refine h_if_eq (tgt := 92) dX12_byHabit_84 (by decide) (fun c => absurd c (by decide)) (fun _ => ?_)
      refine h_iload dX12_byHabit_87 2 rfl ?_
      refine h_goto (tgt := 94) dX12_byHabit_89 (by decide) ?_
      refine h_istore (L' := [(4, .int s0), (3, .int x5), (7, .int 1), (6, .int s0), (0, .ref 87), (1, .int x1), (2, .int x2), (5, .int x5)]) dX12_byHabit_94 (by decide) rfl ?_
      refine h_iinc (v := (x5 + 1)) (L' := [(5, .int (x5 + 1)), (4, .int s0), (3, .int x5), (7, .int 1), (6, .int s0), (0, .ref 87), (1, .int x1), (2, .int x2)]) dX12_byHabit_96 7 rfl rfl (by decide) rfl ?_
      refine h_goto (tgt := 8) dX12_byHabit_99 (by decide) ?_
      refine h_pick [5, 6, 7, 2, 1, 0] [(0, .ref 87), (1, .int x1), (2, .int x2), (3, .int x5), (4, .int s0), (5, .int (x5 + 1))] rfl ?_
      exact k3 c1 c2
    ·
      refine h_iload_n dX12_byHabit_58 rfl 4 rfl ?_
      refine h_iconst (v := (-1)) dX12_byHabit_59 (by decide) ?_
      refine h_icmp_ne (tgt := 67) dX12_byHabit_60 (by decide) (fun c3 => ?_) (fun c3 => ?_)
      ·
        refine h_iconst (v := 0) dX12_byHabit_67 (by decide) ?_
        refine h_istore (L' := [(7, .int 0), (6, .int s0), (0, .ref 87), (1, .int x1), (2, .int x2), (3, .int x3), (4, .int x4), (5, .int x5)]) dX12_byHabit_68 (by decide) rfl ?_
        refine h_iload dX12_byHabit_70 0 rfl ?_
        refine h_if_eq (tgt := 80) dX12_byHabit_72 (by decide) (fun _ => ?_) (fun c => absurd c (by decide))
        refine h_iload_n dX12_byHabit_80 rfl 5 rfl ?_
        refine h_istore_n (L' := [(3, .int x3), (7, .int 0), (6, .int s0), (0, .ref 87), (1, .int x1), (2, .int x2), (4, .int x4), (5, .int x5)]) dX12_byHabit_81 rfl (by decide) rfl ?_
        refine h_iload dX12_byHabit_82 1 rfl ?_
        refine h_if_eq (tgt := 92) dX12_byHabit_84 (by decide) (fun _ => ?_) (fun c => absurd c (by decide))
        refine h_iload dX12_byHabit_92 6 rfl ?_
        refine h_istore (L' := [(4, .int x4), (3, .int x3), (7, .int 0), (6, .int s0), (0, .ref 87), (1, .int x1), (2, .int x2), (5, .int x5)]) dX12_byHabit_94 (by decide) rfl ?_
        refine h_iinc (v := (x5 + 1)) (L' := [(5, .int (x5 + 1)), (4, .int x4), (3, .int x3), (7, .int 0), (6, .int s0), (0, .ref 87), (1, .int x1), (2, .int x2)]) dX12_byHabit_96 7 rfl rfl (by decide) rfl ?_
        refine h_goto (tgt := 8) dX12_byHabit_99 (by decide) ?_
        refine h_pick [5, 6, 7, 2, 1, 0] [(0, .ref 87), (1, .int x1), (2, .int x2), (3, .int x3), (4, .int x4), (5, .int (x5 + 1))] rfl ?_
        exact k4 c1 c2 c3
      ·
        refine h_iconst (v := 1) dX12_byHabit_63 (by decide) ?_
        refine h_goto (tgt := 68) dX12_byHabit_64 (by decide) ?_
        refine h_istore (L' := [(7, .int 1), (6, .int s0), (0, .ref 87), (1, .int x1), (2, .int x2), (3, .int x3), (4, .int x4), (5, .int x5)]) dX12_byHabit_68 (by decide) rfl ?_
        refine h_iload dX12_byHabit_70 0 rfl ?_
        refine h_if_eq (tgt := 80) dX12_byHabit_72 (by decide) (fun c => absurd c (by decide)) (fun _ => ?_)
        refine h_iload dX12_byHabit_75 7 rfl ?_
        refine h_goto (tgt := 81) dX12_byHabit_77 (by decide) ?_
        refine h_istore_n (L' := [(3, .int x5), (7, .int 1), (6, .int s0), (0, .ref 87), (1, .int x1), (2, .int x2), (4, .int x4), (5, .int x5)]) dX12_byHabit_81 rfl (by decide) rfl ?_
        refine h_iload dX12_byHabit_82 1 rfl ?_
        refine h_if_eq (tgt := 92) dX12_byHabit_84 (by decide) (fun c => absurd c (by decide)) (fun _ => ?_)
        refine h_iload dX12_byHabit_87 2 rfl ?_
        refine h_goto (tgt := 94) dX12_byHabit_89 (by decide) ?_
        refine h_istore (L' := [(4, .int s0), (3, .int x5), (7, .int 1), (6, .int s0), (0, .ref 87), (1, .int x1), (2, .int x2), (5, .int x5)]) dX12_byHabit_94 (by decide) rfl ?_
        refine h_iinc (v := (x5 + 1)) (L' := [(5, .int (x5 + 1)), (4, .int s0), (3, .int x5), (7, .int 1), (6, .int s0), (0, .ref 87), (1, .int x1), (2, .int x2)]) dX12_byHabit_96 7 rfl rfl (by decide) rfl ?_
        refine h_goto (tgt := 8) dX12_byHabit_99 (by decide) ?_
        refine h_pick [5, 6, 7, 2, 1, 0] [(0, .ref 87), (1, .int x1), (2, .int x2), (3, .int x5), (4, .int s0), (5, .int (x5 + 1))] rfl ?_
        exact k5 c1 c2 c3
set_option maxHeartbeats 1000000 in
set_option maxRecDepth 20000 in
theorem sg_X12_gain_0 {E : HEn} {d : Nat} {Q : Option Value → HIh → Prop} {I : HIh} {a : Int32} {b : Int32}
    (k1 : (0 : Int32) ≤ a → a < 4 → (0 : Int32) ≤ b → b ≤ (I 87 6) - 1 → HCall E me_X12_isHad (d + 2) [.ref 87, .int 0, .int a, .int b] I (fun v9 J => HGo E (mF E (d + 3) Q) me_X12_gain 25 [(0, .ref 87), (2, .int b)] (v9.toList ++ []) J))
    (k2 : (0 : Int32) ≤ a → a < 4 → ¬ ((0 : Int32) ≤ b ∧ b ≤ (I 87 6) - 1) → Q (some (.int (-2))) I)
    (k3 : ¬ ((0 : Int32) ≤ a ∧ a < 4) → Q (some (.int (-2))) I)
    : HGo E (mF E (d + 3) Q) me_X12_gain 0 [(0, .ref 87), (1, .int a), (2, .int b)] [] I := by
  refine h_iload_n dX12_gain_0 rfl 1 rfl ?_
  refine h_invS (As := [.int a]) (st := []) dX12_gain_1 lk_X12_180 (h_room (by decide)) rfl rfl (Nat.le_of_ble_eq_true rfl) ?_
  refine c_X12_isPerson (fun c1 c2 => ?_) (fun c3 => ?_)
  ·
    refine h_if_eq (tgt := 15) dX12_gain_4 (by decide) (fun c => absurd c (by decide)) (fun _ => ?_)
    refine h_aload_n dX12_gain_7 rfl 0 rfl ?_
    refine h_iload_n dX12_gain_8 rfl 2 rfl ?_
    refine h_invV (As := [.int b]) (st := []) dX12_gain_9 lk_X12_177 (h_room (by decide)) nl_87 zk_87 (by decide) rfl rfl rfl (Nat.le_of_ble_eq_true rfl) ?_
    refine c_X12_isKind (fun c4 c5 => ?_) (fun c6 => ?_)
    ·
      refine h_if_ne (tgt := 18) dX12_gain_12 (by decide) (fun _ => ?_) (fun c => absurd c (by decide))
      refine h_aload_n dX12_gain_18 rfl 0 rfl ?_
      refine h_iconst (v := 0) dX12_gain_19 (by decide) ?_
      refine h_iload_n dX12_gain_20 rfl 1 rfl ?_
      refine h_iload_n dX12_gain_21 rfl 2 rfl ?_
      refine h_pick [0, 2] [(0, .ref 87), (2, .int b)] rfl ?_
      refine h_invV (As := [.int 0, .int a, .int b]) (st := []) dX12_gain_22 lk_X12_196 (h_room (by decide)) nl_87 zk_87 (by decide) rfl rfl rfl (Nat.le_of_ble_eq_true rfl) ?_
      exact k1 c1 c2 c4 c5
    ·
      refine h_if_ne (tgt := 18) dX12_gain_12 (by decide) (fun c => absurd c (by decide)) (fun _ => ?_)
      refine h_bipush (v := (-2)) dX12_gain_15 (by decide) ?_
      exact h_iret dX12_gain_17 rfl (k2 c1 c2 c6)
  ·
    refine h_if_eq (tgt := 15) dX12_gain_4 (by decide) (fun _ => ?_) (fun c => absurd c (by decide))
    refine h_bipush (v := (-2)) dX12_gain_15 (by decide) ?_
    exact h_iret dX12_gain_17 rfl (k3 c3)
set_option maxHeartbeats 1000000 in
set_option maxRecDepth 20000 in
theorem sg_X12_gain_25 {E : HEn} {d : Nat} {Q : Option Value → HIh → Prop} {I : HIh} {x2 : Int32} {s0 : Int32}
    (k1 : s0 = 0 → Q (some (.int (-4))) I)
    (k2 : ¬ s0 = 0 → HCall E me_X12_gainOf (d + 2) [.ref 87, .int 0, .int x2] I (fun v9 J => HGo E (mF E (d + 3) Q) me_X12_gain 36 [] (v9.toList ++ [.int 100000]) J))
    : HGo E (mF E (d + 3) Q) me_X12_gain 25 [(0, .ref 87), (2, .int x2)] [.int s0] I := by
  refine h_if_eq (tgt := 40) dX12_gain_25 (by decide) (fun c1 => ?_) (fun c1 => ?_)
  ·
    refine h_bipush (v := (-4)) dX12_gain_40 (by decide) ?_
    exact h_iret dX12_gain_42 rfl (k1 c1)
  ·
    refine h_ldc dX12_gain_28 wt_1051 rfl ?_
    refine h_aload_n dX12_gain_30 rfl 0 rfl ?_
    refine h_iconst (v := 0) dX12_gain_31 (by decide) ?_
    refine h_iload_n dX12_gain_32 rfl 1 rfl ?_
    refine h_pick [] [] rfl ?_
    refine h_invV (As := [.int 0, .int x2]) (st := [.int 100000]) dX12_gain_33 lk_X12_200 (h_room (by decide)) nl_87 zk_87 (by decide) rfl rfl rfl (Nat.le_of_ble_eq_true rfl) ?_
    exact k2 c1
set_option maxHeartbeats 1000000 in
set_option maxRecDepth 20000 in
theorem sg_X12_gain_36 {E : HEn} {d : Nat} {Q : Option Value → HIh → Prop} {I : HIh} {s0 : Int32} {s1 : Int32}
    (k1 : Q (some (.int (s1 + s0))) I)
    : HGo E (mF E (d + 3) Q) me_X12_gain 36 [] [.int s0, .int s1] I := by
  refine h_iadd dX12_gain_36 ?_
  refine h_goto (tgt := 42) dX12_gain_37 (by decide) ?_
  exact h_iret dX12_gain_42 rfl (k1)
set_option maxHeartbeats 1000000 in
set_option maxRecDepth 20000 in
theorem sg_X12_visit_0 {E : HEn} {d : Nat} {Q : Option Value → HIh → Prop} {I : HIh} {a : Int32}
    (k1 : a = (-1) → ¬ ((I 87 13) - (I 88 30)) = 0 → vp_in (I 88 30) 24)
    (k2 : a = (-1) → ¬ ((I 87 13) - (I 88 30)) = 0 → a = (-1) → ¬ a = (-1) → HCall E me_X12_gainOf (d + 2) [.ref 87, .int 0, .int a] I (fun v9 J => HGo E (mF E (d + 3) Q) me_X12_visit 72 [(0, .ref 87), (1, .int a), (2, .int (I 96 ((I 88 30).toNatClampNeg)))] (v9.toList ++ []) J))
    (k3 : a = (-1) → ¬ ((I 87 13) - (I 88 30)) = 0 → a = (-1) → a = (-1) → a = (-1) → Q (some (.int (100000 + 0))) (setI I 88 (upd (I 88) 30 ((I 88 30) + 1))))
    (k4 : a = (-1) → ¬ ((I 87 13) - (I 88 30)) = 0 → a = (-1) → a = (-1) → ¬ a = (-1) → HCall E me_X12_throwsOne (d + 2) [.ref 87, .int 0, .int (I 96 ((I 88 30).toNatClampNeg)), .int a] I (fun v9 J => HGo E (mF E (d + 3) Q) me_X12_visit 85 [(0, .ref 87), (3, .int 0)] (v9.toList ++ []) J))
    (k5 : a = (-1) → ¬ ((I 87 13) - (I 88 30)) = 0 → ¬ a = (-1) → HCall E me_X12_isHad (d + 2) [.ref 87, .int 0, .int (I 96 ((I 88 30).toNatClampNeg)), .int a] I (fun v9 J => HGo E (mF E (d + 3) Q) me_X12_visit 51 [(0, .ref 87), (1, .int a), (2, .int (I 96 ((I 88 30).toNatClampNeg)))] (v9.toList ++ []) J))
    (k6 : a = (-1) → ((I 87 13) - (I 88 30)) = 0 → Q (some (.int (-4))) I)
    (k7 : ¬ a = (-1) → (0 : Int32) ≤ a → a ≤ (I 87 6) - 1 → ¬ ((I 87 13) - (I 88 30)) = 0 → vp_in (I 88 30) 24)
    (k8 : ¬ a = (-1) → (0 : Int32) ≤ a → a ≤ (I 87 6) - 1 → ¬ ((I 87 13) - (I 88 30)) = 0 → a = (-1) → ¬ a = (-1) → HCall E me_X12_gainOf (d + 2) [.ref 87, .int 0, .int a] I (fun v9 J => HGo E (mF E (d + 3) Q) me_X12_visit 72 [(0, .ref 87), (1, .int a), (2, .int (I 96 ((I 88 30).toNatClampNeg)))] (v9.toList ++ []) J))
    (k9 : ¬ a = (-1) → (0 : Int32) ≤ a → a ≤ (I 87 6) - 1 → ¬ ((I 87 13) - (I 88 30)) = 0 → a = (-1) → a = (-1) → a = (-1) → Q (some (.int (100000 + 0))) (setI I 88 (upd (I 88) 30 ((I 88 30) + 1))))
    (k10 : ¬ a = (-1) → (0 : Int32) ≤ a → a ≤ (I 87 6) - 1 → ¬ ((I 87 13) - (I 88 30)) = 0 → a = (-1) → a = (-1) → ¬ a = (-1) → HCall E me_X12_throwsOne (d + 2) [.ref 87, .int 0, .int (I 96 ((I 88 30).toNatClampNeg)), .int a] I (fun v9 J => HGo E (mF E (d + 3) Q) me_X12_visit 85 [(0, .ref 87), (3, .int 0)] (v9.toList ++ []) J))
    (k11 : ¬ a = (-1) → (0 : Int32) ≤ a → a ≤ (I 87 6) - 1 → ¬ ((I 87 13) - (I 88 30)) = 0 → ¬ a = (-1) → HCall E me_X12_isHad (d + 2) [.ref 87, .int 0, .int (I 96 ((I 88 30).toNatClampNeg)), .int a] I (fun v9 J => HGo E (mF E (d + 3) Q) me_X12_visit 51 [(0, .ref 87), (1, .int a), (2, .int (I 96 ((I 88 30).toNatClampNeg)))] (v9.toList ++ []) J))
    (k12 : ¬ a = (-1) → (0 : Int32) ≤ a → a ≤ (I 87 6) - 1 → ((I 87 13) - (I 88 30)) = 0 → Q (some (.int (-4))) I)
    (k13 : ¬ a = (-1) → ¬ ((0 : Int32) ≤ a ∧ a ≤ (I 87 6) - 1) → Q (some (.int (-2))) I)
    : HGo E (mF E (d + 3) Q) me_X12_visit 0 [(0, .ref 87), (1, .int a)] [] I := by
  refine h_iload_n dX12_visit_0 rfl 1 rfl ?_
  refine h_iconst (v := (-1)) dX12_visit_1 (by decide) ?_
  refine h_icmp_eq (tgt := 16) dX12_visit_2 (by decide) (fun c1 => ?_) (fun c1 => ?_)
  ·
    refine h_aload_n dX12_visit_16 rfl 0 rfl ?_
    refine h_invV (As := []) (st := []) dX12_visit_17 lk_X12_213 (h_room (by decide)) nl_87 zk_87 (by decide) rfl rfl rfl (Nat.le_of_ble_eq_true rfl) ?_
    refine c_X12_visitsLeft ?_
    refine h_if_ne (tgt := 26) dX12_visit_20 (by decide) (fun c2 => ?_) (fun c2 => ?_)
    ·
      refine h_aload_n dX12_visit_26 rfl 0 rfl ?_
      refine gf_10_12 dX12_visit_27 hl_X12_39 nl_87 zk_87 zp_87_12 ?_
      refine h_aload_n dX12_visit_30 rfl 0 rfl ?_
      refine gf_10_0 dX12_visit_31 hl_X12_7 nl_87 zk_87 zp_87_0 ?_
      refine h_bipush (v := 30) dX12_visit_34 (by decide) ?_
      refine h_iald dX12_visit_36 nl_88 zk_88 (vp_lit (by rw [zn_88]; decide)) ?_
      refine h_iald dX12_visit_37 nl_96 zk_96 (by rw [zn_96]; exact k1 c1 c2) ?_
      refine h_istore_n (L' := [(2, .int (I 96 ((I 88 30).toNatClampNeg))), (0, .ref 87), (1, .int a)]) dX12_visit_38 rfl (by decide) rfl ?_
      refine h_iload_n dX12_visit_39 rfl 2 rfl ?_
      refine h_iconst (v := (-1)) dX12_visit_40 (by decide) ?_
      refine h_icmp_eq (tgt := 57) dX12_visit_41 (by decide) (fun c3 => ?_) (fun c3 => ?_)
      ·
        refine h_iload_n dX12_visit_57 rfl 2 rfl ?_
        refine h_iconst (v := (-1)) dX12_visit_58 (by decide) ?_
        refine h_icmp_ne (tgt := 66) dX12_visit_59 (by decide) (fun c4 => ?_) (fun c4 => ?_)
        ·
          refine h_aload_n dX12_visit_66 rfl 1 rfl ?_
          refine h_iconst (v := 0) dX12_visit_67 (by decide) ?_
          refine h_iload_n dX12_visit_68 rfl 2 rfl ?_
          refine h_pick [1, 2, 0] [(0, .ref 87), (1, .int a), (2, .int (I 96 ((I 88 30).toNatClampNeg)))] rfl ?_
          refine h_invV (As := [.int 0, .int a]) (st := []) dX12_visit_69 lk_X12_200 (h_room (by decide)) nl_87 zk_87 (by decide) rfl rfl rfl (Nat.le_of_ble_eq_true rfl) ?_
          exact k2 c1 c2 c3 c4
        ·
          refine h_iconst (v := 0) dX12_visit_62 (by decide) ?_
          refine h_goto (tgt := 72) dX12_visit_63 (by decide) ?_
          refine h_istore_n (L' := [(3, .int 0), (2, .int (I 96 ((I 88 30).toNatClampNeg))), (0, .ref 87), (1, .int a)]) dX12_visit_72 rfl (by decide) rfl ?_
          refine h_iload_n dX12_visit_73 rfl 3 rfl ?_
          refine h_iconst (v := (-1)) dX12_visit_74 (by decide) ?_
          refine h_icmp_eq (tgt := 85) dX12_visit_75 (by decide) (fun c5 => ?_) (fun c5 => ?_)
          ·
            refine h_aload_n dX12_visit_85 rfl 2 rfl ?_
            refine gf_10_0 dX12_visit_86 hl_X12_7 nl_87 zk_87 zp_87_0 ?_
            refine h_bipush (v := 30) dX12_visit_89 (by decide) ?_
            refine h_dup2 dX12_visit_91 rfl rfl ?_
            refine h_iald dX12_visit_92 nl_88 zk_88 (vp_lit (by rw [zn_88]; decide)) ?_
            refine h_iconst (v := 1) dX12_visit_93 (by decide) ?_
            refine h_iadd dX12_visit_94 ?_
            refine h_iast dX12_visit_95 nl_88 zk_88 (vp_lit (by rw [zn_88]; decide)) ?_
            refine h_ldc dX12_visit_96 wt_1051 rfl ?_
            refine h_iload_n dX12_visit_98 rfl 0 rfl ?_
            refine h_iadd dX12_visit_99 ?_
            exact h_iret dX12_visit_100 rfl (k3 c1 c2 c3 c4 c5)
          ·
            refine h_aload_n dX12_visit_78 rfl 2 rfl ?_
            refine h_iconst (v := 0) dX12_visit_79 (by decide) ?_
            refine h_iload_n dX12_visit_80 rfl 1 rfl ?_
            refine h_iload_n dX12_visit_81 rfl 3 rfl ?_
            refine h_pick [2, 0] [(0, .ref 87), (3, .int 0)] rfl ?_
            refine h_invV (As := [.int 0, .int (I 96 ((I 88 30).toNatClampNeg)), .int a]) (st := []) dX12_visit_82 lk_X12_206 (h_room (by decide)) nl_87 zk_87 (by decide) rfl rfl rfl (Nat.le_of_ble_eq_true rfl) ?_
            exact k4 c1 c2 c3 c4 c5
      ·
        refine h_aload_n dX12_visit_44 rfl 1 rfl ?_
        refine h_iconst (v := 0) dX12_visit_45 (by decide) ?_
        refine h_iload_n dX12_visit_46 rfl 0 rfl ?_
        refine h_iload_n dX12_visit_47 rfl 2 rfl ?_
        refine h_pick [1, 2, 0] [(0, .ref 87), (1, .int a), (2, .int (I 96 ((I 88 30).toNatClampNeg)))] rfl ?_
        refine h_invV (As := [.int 0, .int (I 96 ((I 88 30).toNatClampNeg)), .int a]) (st := []) dX12_visit_48 lk_X12_196 (h_room (by decide)) nl_87 zk_87 (by decide) rfl rfl rfl (Nat.le_of_ble_eq_true rfl) ?_
        exact k5 c1 c2 c3
    ·
      refine h_bipush (v := (-4)) dX12_visit_23 (by decide) ?_
      exact h_iret dX12_visit_25 rfl (k6 c1 c2)
  ·
    refine h_aload_n dX12_visit_5 rfl 0 rfl ?_
    refine h_iload_n dX12_visit_6 rfl 1 rfl ?_
    refine h_invV (As := [.int a]) (st := []) dX12_visit_7 lk_X12_177 (h_room (by decide)) nl_87 zk_87 (by decide) rfl rfl rfl (Nat.le_of_ble_eq_true rfl) ?_
    refine c_X12_isKind (fun c6 c7 => ?_) (fun c8 => ?_)
    ·
      refine h_if_ne (tgt := 16) dX12_visit_10 (by decide) (fun _ => ?_) (fun c => absurd c (by decide))
      refine h_aload_n dX12_visit_16 rfl 0 rfl ?_
      refine h_invV (As := []) (st := []) dX12_visit_17 lk_X12_213 (h_room (by decide)) nl_87 zk_87 (by decide) rfl rfl rfl (Nat.le_of_ble_eq_true rfl) ?_
      refine c_X12_visitsLeft ?_
      refine h_if_ne (tgt := 26) dX12_visit_20 (by decide) (fun c9 => ?_) (fun c9 => ?_)
      ·
        refine h_aload_n dX12_visit_26 rfl 0 rfl ?_
        refine gf_10_12 dX12_visit_27 hl_X12_39 nl_87 zk_87 zp_87_12 ?_
        refine h_aload_n dX12_visit_30 rfl 0 rfl ?_
        refine gf_10_0 dX12_visit_31 hl_X12_7 nl_87 zk_87 zp_87_0 ?_
        refine h_bipush (v := 30) dX12_visit_34 (by decide) ?_
        refine h_iald dX12_visit_36 nl_88 zk_88 (vp_lit (by rw [zn_88]; decide)) ?_
        refine h_iald dX12_visit_37 nl_96 zk_96 (by rw [zn_96]; exact k7 c1 c6 c7 c9) ?_
        refine h_istore_n (L' := [(2, .int (I 96 ((I 88 30).toNatClampNeg))), (0, .ref 87), (1, .int a)]) dX12_visit_38 rfl (by decide) rfl ?_
        refine h_iload_n dX12_visit_39 rfl 2 rfl ?_
        refine h_iconst (v := (-1)) dX12_visit_40 (by decide) ?_
        refine h_icmp_eq (tgt := 57) dX12_visit_41 (by decide) (fun c10 => ?_) (fun c10 => ?_)
        ·
          refine h_iload_n dX12_visit_57 rfl 2 rfl ?_
          refine h_iconst (v := (-1)) dX12_visit_58 (by decide) ?_
          refine h_icmp_ne (tgt := 66) dX12_visit_59 (by decide) (fun c11 => ?_) (fun c11 => ?_)
          ·
            refine h_aload_n dX12_visit_66 rfl 1 rfl ?_
            refine h_iconst (v := 0) dX12_visit_67 (by decide) ?_
            refine h_iload_n dX12_visit_68 rfl 2 rfl ?_
            refine h_pick [1, 2, 0] [(0, .ref 87), (1, .int a), (2, .int (I 96 ((I 88 30).toNatClampNeg)))] rfl ?_
            refine h_invV (As := [.int 0, .int a]) (st := []) dX12_visit_69 lk_X12_200 (h_room (by decide)) nl_87 zk_87 (by decide) rfl rfl rfl (Nat.le_of_ble_eq_true rfl) ?_
            exact k8 c1 c6 c7 c9 c10 c11
          ·
            refine h_iconst (v := 0) dX12_visit_62 (by decide) ?_
            refine h_goto (tgt := 72) dX12_visit_63 (by decide) ?_
            refine h_istore_n (L' := [(3, .int 0), (2, .int (I 96 ((I 88 30).toNatClampNeg))), (0, .ref 87), (1, .int a)]) dX12_visit_72 rfl (by decide) rfl ?_
            refine h_iload_n dX12_visit_73 rfl 3 rfl ?_
            refine h_iconst (v := (-1)) dX12_visit_74 (by decide) ?_
            refine h_icmp_eq (tgt := 85) dX12_visit_75 (by decide) (fun c12 => ?_) (fun c12 => ?_)
            ·
              refine h_aload_n dX12_visit_85 rfl 2 rfl ?_
              refine gf_10_0 dX12_visit_86 hl_X12_7 nl_87 zk_87 zp_87_0 ?_
              refine h_bipush (v := 30) dX12_visit_89 (by decide) ?_
              refine h_dup2 dX12_visit_91 rfl rfl ?_
              refine h_iald dX12_visit_92 nl_88 zk_88 (vp_lit (by rw [zn_88]; decide)) ?_
              refine h_iconst (v := 1) dX12_visit_93 (by decide) ?_
              refine h_iadd dX12_visit_94 ?_
              refine h_iast dX12_visit_95 nl_88 zk_88 (vp_lit (by rw [zn_88]; decide)) ?_
              refine h_ldc dX12_visit_96 wt_1051 rfl ?_
              refine h_iload_n dX12_visit_98 rfl 0 rfl ?_
              refine h_iadd dX12_visit_99 ?_
              exact h_iret dX12_visit_100 rfl (k9 c1 c6 c7 c9 c10 c11 c12)
            ·
              refine h_aload_n dX12_visit_78 rfl 2 rfl ?_
              refine h_iconst (v := 0) dX12_visit_79 (by decide) ?_
              refine h_iload_n dX12_visit_80 rfl 1 rfl ?_
              refine h_iload_n dX12_visit_81 rfl 3 rfl ?_
              refine h_pick [2, 0] [(0, .ref 87), (3, .int 0)] rfl ?_
              refine h_invV (As := [.int 0, .int (I 96 ((I 88 30).toNatClampNeg)), .int a]) (st := []) dX12_visit_82 lk_X12_206 (h_room (by decide)) nl_87 zk_87 (by decide) rfl rfl rfl (Nat.le_of_ble_eq_true rfl) ?_
              exact k10 c1 c6 c7 c9 c10 c11 c12
        ·
          refine h_aload_n dX12_visit_44 rfl 1 rfl ?_
          refine h_iconst (v := 0) dX12_visit_45 (by decide) ?_
          refine h_iload_n dX12_visit_46 rfl 0 rfl ?_
          refine h_iload_n dX12_visit_47 rfl 2 rfl ?_
          refine h_pick [1, 2, 0] [(0, .ref 87), (1, .int a), (2, .int (I 96 ((I 88 30).toNatClampNeg)))] rfl ?_
          refine h_invV (As := [.int 0, .int (I 96 ((I 88 30).toNatClampNeg)), .int a]) (st := []) dX12_visit_48 lk_X12_196 (h_room (by decide)) nl_87 zk_87 (by decide) rfl rfl rfl (Nat.le_of_ble_eq_true rfl) ?_
          exact k11 c1 c6 c7 c9 c10
      ·
        refine h_bipush (v := (-4)) dX12_visit_23 (by decide) ?_
        exact h_iret dX12_visit_25 rfl (k12 c1 c6 c7 c9)
    ·
      refine h_if_ne (tgt := 16) dX12_visit_10 (by decide) (fun c => absurd c (by decide)) (fun _ => ?_)
      refine h_bipush (v := (-2)) dX12_visit_13 (by decide) ?_
      exact h_iret dX12_visit_15 rfl (k13 c1 c8)
set_option maxHeartbeats 1000000 in
set_option maxRecDepth 20000 in
theorem sg_X12_visit_72 {E : HEn} {d : Nat} {Q : Option Value → HIh → Prop} {I : HIh} {x1 : Int32} {x2 : Int32} {s0 : Int32}
    (k1 : x1 = (-1) → Q (some (.int (100000 + s0))) (setI I 88 (upd (I 88) 30 ((I 88 30) + 1))))
    (k2 : ¬ x1 = (-1) → HCall E me_X12_throwsOne (d + 2) [.ref 87, .int 0, .int x2, .int x1] I (fun v9 J => HGo E (mF E (d + 3) Q) me_X12_visit 85 [(0, .ref 87), (3, .int s0)] (v9.toList ++ []) J))
    : HGo E (mF E (d + 3) Q) me_X12_visit 72 [(0, .ref 87), (1, .int x1), (2, .int x2)] [.int s0] I := by
  refine h_istore_n (L' := [(3, .int s0), (0, .ref 87), (1, .int x1), (2, .int x2)]) dX12_visit_72 rfl (by decide) rfl ?_
  refine h_iload_n dX12_visit_73 rfl 2 rfl ?_
  refine h_iconst (v := (-1)) dX12_visit_74 (by decide) ?_
  refine h_icmp_eq (tgt := 85) dX12_visit_75 (by decide) (fun c1 => ?_) (fun c1 => ?_)
  ·
    refine h_aload_n dX12_visit_85 rfl 1 rfl ?_
    refine gf_10_0 dX12_visit_86 hl_X12_7 nl_87 zk_87 zp_87_0 ?_
    refine h_bipush (v := 30) dX12_visit_89 (by decide) ?_
    refine h_dup2 dX12_visit_91 rfl rfl ?_
    refine h_iald dX12_visit_92 nl_88 zk_88 (vp_lit (by rw [zn_88]; decide)) ?_
    refine h_iconst (v := 1) dX12_visit_93 (by decide) ?_
    refine h_iadd dX12_visit_94 ?_
    refine h_iast dX12_visit_95 nl_88 zk_88 (vp_lit (by rw [zn_88]; decide)) ?_
    refine h_ldc dX12_visit_96 wt_1051 rfl ?_
    refine h_iload_n dX12_visit_98 rfl 0 rfl ?_
    refine h_iadd dX12_visit_99 ?_
    exact h_iret dX12_visit_100 rfl (k1 c1)
  ·
    refine h_aload_n dX12_visit_78 rfl 1 rfl ?_
    refine h_iconst (v := 0) dX12_visit_79 (by decide) ?_
    refine h_iload_n dX12_visit_80 rfl 3 rfl ?_
    refine h_iload_n dX12_visit_81 rfl 2 rfl ?_
    refine h_pick [1, 0] [(0, .ref 87), (3, .int s0)] rfl ?_
    refine h_invV (As := [.int 0, .int x2, .int x1]) (st := []) dX12_visit_82 lk_X12_206 (h_room (by decide)) nl_87 zk_87 (by decide) rfl rfl rfl (Nat.le_of_ble_eq_true rfl) ?_
    exact k2 c1
set_option maxHeartbeats 1000000 in
set_option maxRecDepth 20000 in
theorem sg_X12_visit_85 {E : HEn} {d : Nat} {Q : Option Value → HIh → Prop} {I : HIh} {x3 : Int32}
    (k1 : Q (some (.int (100000 + x3))) (setI I 88 (upd (I 88) 30 ((I 88 30) + 1))))
    : HGo E (mF E (d + 3) Q) me_X12_visit 85 [(0, .ref 87), (3, .int x3)] [] I := by
  refine h_aload_n dX12_visit_85 rfl 0 rfl ?_
  refine gf_10_0 dX12_visit_86 hl_X12_7 nl_87 zk_87 zp_87_0 ?_
  refine h_bipush (v := 30) dX12_visit_89 (by decide) ?_
  refine h_dup2 dX12_visit_91 rfl rfl ?_
  refine h_iald dX12_visit_92 nl_88 zk_88 (vp_lit (by rw [zn_88]; decide)) ?_
  refine h_iconst (v := 1) dX12_visit_93 (by decide) ?_
  refine h_iadd dX12_visit_94 ?_
  refine h_iast dX12_visit_95 nl_88 zk_88 (vp_lit (by rw [zn_88]; decide)) ?_
  refine h_ldc dX12_visit_96 wt_1051 rfl ?_
  refine h_iload_n dX12_visit_98 rfl 1 rfl ?_
  refine h_iadd dX12_visit_99 ?_
  exact h_iret dX12_visit_100 rfl (k1)
set_option maxHeartbeats 1000000 in
set_option maxRecDepth 20000 in
theorem sg_X12_visit_51 {E : HEn} {d : Nat} {Q : Option Value → HIh → Prop} {I : HIh} {x1 : Int32} {x2 : Int32} {s0 : Int32}
    (k1 : ¬ s0 = 0 → ¬ x1 = (-1) → HCall E me_X12_gainOf (d + 2) [.ref 87, .int 0, .int x1] I (fun v9 J => HGo E (mF E (d + 3) Q) me_X12_visit 72 [(0, .ref 87), (1, .int x1), (2, .int x2)] (v9.toList ++ []) J))
    (k2 : ¬ s0 = 0 → x1 = (-1) → x1 = (-1) → Q (some (.int (100000 + 0))) (setI I 88 (upd (I 88) 30 ((I 88 30) + 1))))
    (k3 : ¬ s0 = 0 → x1 = (-1) → ¬ x1 = (-1) → HCall E me_X12_throwsOne (d + 2) [.ref 87, .int 0, .int x2, .int x1] I (fun v9 J => HGo E (mF E (d + 3) Q) me_X12_visit 85 [(0, .ref 87), (3, .int 0)] (v9.toList ++ []) J))
    (k4 : s0 = 0 → Q (some (.int (-4))) I)
    : HGo E (mF E (d + 3) Q) me_X12_visit 51 [(0, .ref 87), (1, .int x1), (2, .int x2)] [.int s0] I := by
  refine h_if_ne (tgt := 57) dX12_visit_51 (by decide) (fun c1 => ?_) (fun c1 => ?_)
  ·
    refine h_iload_n dX12_visit_57 rfl 1 rfl ?_
    refine h_iconst (v := (-1)) dX12_visit_58 (by decide) ?_
    refine h_icmp_ne (tgt := 66) dX12_visit_59 (by decide) (fun c2 => ?_) (fun c2 => ?_)
    ·
      refine h_aload_n dX12_visit_66 rfl 0 rfl ?_
      refine h_iconst (v := 0) dX12_visit_67 (by decide) ?_
      refine h_iload_n dX12_visit_68 rfl 1 rfl ?_
      refine h_invV (As := [.int 0, .int x1]) (st := []) dX12_visit_69 lk_X12_200 (h_room (by decide)) nl_87 zk_87 (by decide) rfl rfl rfl (Nat.le_of_ble_eq_true rfl) ?_
      exact k1 c1 c2
    ·
      refine h_iconst (v := 0) dX12_visit_62 (by decide) ?_
      refine h_goto (tgt := 72) dX12_visit_63 (by decide) ?_
      refine h_istore_n (L' := [(3, .int 0), (0, .ref 87), (1, .int x1), (2, .int x2)]) dX12_visit_72 rfl (by decide) rfl ?_
      refine h_iload_n dX12_visit_73 rfl 2 rfl ?_
      refine h_iconst (v := (-1)) dX12_visit_74 (by decide) ?_
      refine h_icmp_eq (tgt := 85) dX12_visit_75 (by decide) (fun c3 => ?_) (fun c3 => ?_)
      ·
        refine h_aload_n dX12_visit_85 rfl 1 rfl ?_
        refine gf_10_0 dX12_visit_86 hl_X12_7 nl_87 zk_87 zp_87_0 ?_
        refine h_bipush (v := 30) dX12_visit_89 (by decide) ?_
        refine h_dup2 dX12_visit_91 rfl rfl ?_
        refine h_iald dX12_visit_92 nl_88 zk_88 (vp_lit (by rw [zn_88]; decide)) ?_
        refine h_iconst (v := 1) dX12_visit_93 (by decide) ?_
        refine h_iadd dX12_visit_94 ?_
        refine h_iast dX12_visit_95 nl_88 zk_88 (vp_lit (by rw [zn_88]; decide)) ?_
        refine h_ldc dX12_visit_96 wt_1051 rfl ?_
        refine h_iload_n dX12_visit_98 rfl 0 rfl ?_
        refine h_iadd dX12_visit_99 ?_
        exact h_iret dX12_visit_100 rfl (k2 c1 c2 c3)
      ·
        refine h_aload_n dX12_visit_78 rfl 1 rfl ?_
        refine h_iconst (v := 0) dX12_visit_79 (by decide) ?_
        refine h_iload_n dX12_visit_80 rfl 3 rfl ?_
        refine h_iload_n dX12_visit_81 rfl 2 rfl ?_
        refine h_pick [1, 0] [(0, .ref 87), (3, .int 0)] rfl ?_
        refine h_invV (As := [.int 0, .int x2, .int x1]) (st := []) dX12_visit_82 lk_X12_206 (h_room (by decide)) nl_87 zk_87 (by decide) rfl rfl rfl (Nat.le_of_ble_eq_true rfl) ?_
        exact k3 c1 c2 c3
  ·
    refine h_bipush (v := (-4)) dX12_visit_54 (by decide) ?_
    exact h_iret dX12_visit_56 rfl (k4 c1)
set_option maxHeartbeats 1000000 in
set_option maxRecDepth 20000 in
theorem sg_X12_opens_0 {E : HEn} {d : Nat} {Q : Option Value → HIh → Prop} {I : HIh} {a : Int32} {b : Int32}
    (k1 : vp_in a 8)
    (k2 : ((I 98 a.toNatClampNeg) - 1) = (-1) → HCall E me_X12_copy (d + 2) [.ref 87, .int (3 + a), .int ((3 + a) + 1)] I (fun v9 J => HGo E (mF E (d + 3) Q) me_X12_opens 48 [(0, .ref 87), (1, .int a), (2, .int b), (3, .int (31 * (3 + a))), (4, .int ((I 98 a.toNatClampNeg) - 1))] (v9.toList ++ []) J))
    (k3 : ¬ ((I 98 a.toNatClampNeg) - 1) = (-1) → HCall E me_X12_isHad (d + 2) [.ref 87, .int (31 * (3 + a)), .int b, .int ((I 98 a.toNatClampNeg) - 1)] I (fun v9 J => HGo E (mF E (d + 3) Q) me_X12_opens 31 [(0, .ref 87), (1, .int a), (2, .int b), (3, .int (31 * (3 + a))), (4, .int ((I 98 a.toNatClampNeg) - 1))] (v9.toList ++ []) J))
    : HGo E (mF E (d + 3) Q) me_X12_opens 0 [(0, .ref 87), (1, .int a), (2, .int b)] [] I := by
  refine h_bipush (v := 31) dX12_opens_0 (by decide) ?_
  refine h_iconst (v := 3) dX12_opens_2 (by decide) ?_
  refine h_iload_n dX12_opens_3 rfl 1 rfl ?_
  refine h_iadd dX12_opens_4 ?_
  refine h_imul dX12_opens_5 ?_
  refine h_istore_n (L' := [(3, .int (31 * (3 + a))), (0, .ref 87), (1, .int a), (2, .int b)]) dX12_opens_6 rfl (by decide) rfl ?_
  refine h_aload_n dX12_opens_7 rfl 1 rfl ?_
  refine gf_10_22 dX12_opens_8 hl_X12_45 nl_87 zk_87 zp_87_22 ?_
  refine h_iload_n dX12_opens_11 rfl 2 rfl ?_
  refine h_iald dX12_opens_12 nl_98 zk_98 (by rw [zn_98]; exact k1) ?_
  refine h_iconst (v := 1) dX12_opens_13 (by decide) ?_
  refine h_isub dX12_opens_14 ?_
  refine h_istore (L' := [(4, .int ((I 98 a.toNatClampNeg) - 1)), (3, .int (31 * (3 + a))), (0, .ref 87), (1, .int a), (2, .int b)]) dX12_opens_15 (by decide) rfl ?_
  refine h_iload dX12_opens_17 0 rfl ?_
  refine h_iconst (v := (-1)) dX12_opens_19 (by decide) ?_
  refine h_icmp_eq (tgt := 36) dX12_opens_20 (by decide) (fun c1 => ?_) (fun c1 => ?_)
  ·
    refine h_aload_n dX12_opens_36 rfl 2 rfl ?_
    refine h_iconst (v := 3) dX12_opens_37 (by decide) ?_
    refine h_iload_n dX12_opens_38 rfl 3 rfl ?_
    refine h_iadd dX12_opens_39 ?_
    refine h_iconst (v := 3) dX12_opens_40 (by decide) ?_
    refine h_iload_n dX12_opens_41 rfl 3 rfl ?_
    refine h_iadd dX12_opens_42 ?_
    refine h_iconst (v := 1) dX12_opens_43 (by decide) ?_
    refine h_iadd dX12_opens_44 ?_
    refine h_pick [2, 3, 4, 1, 0] [(0, .ref 87), (1, .int a), (2, .int b), (3, .int (31 * (3 + a))), (4, .int ((I 98 a.toNatClampNeg) - 1))] rfl ?_
    refine h_invV (As := [.int (3 + a), .int ((3 + a) + 1)]) (st := []) dX12_opens_45 lk_X12_221 (h_room (by decide)) nl_87 zk_87 (by decide) rfl rfl rfl (Nat.le_of_ble_eq_true rfl) ?_
    exact k2 c1
  ·
    refine h_aload_n dX12_opens_23 rfl 2 rfl ?_
    refine h_iload_n dX12_opens_24 rfl 1 rfl ?_
    refine h_iload_n dX12_opens_25 rfl 4 rfl ?_
    refine h_iload dX12_opens_26 0 rfl ?_
    refine h_pick [2, 3, 4, 1, 0] [(0, .ref 87), (1, .int a), (2, .int b), (3, .int (31 * (3 + a))), (4, .int ((I 98 a.toNatClampNeg) - 1))] rfl ?_
    refine h_invV (As := [.int (31 * (3 + a)), .int b, .int ((I 98 a.toNatClampNeg) - 1)]) (st := []) dX12_opens_28 lk_X12_196 (h_room (by decide)) nl_87 zk_87 (by decide) rfl rfl rfl (Nat.le_of_ble_eq_true rfl) ?_
    exact k3 c1
set_option maxHeartbeats 1000000 in
set_option maxRecDepth 20000 in
theorem sg_X12_opens_48 {E : HEn} {d : Nat} {Q : Option Value → HIh → Prop} {I : HIh} {x1 : Int32} {x2 : Int32} {x3 : Int32} {x4 : Int32}
    (k1 : x4 = (-1) → vp_in (x1 + 1) 8)
    (k2 : x4 = (-1) → Q (some (.int 1)) (setI I 98 (upd (I 98) (x1 + 1).toNatClampNeg 0)))
    (k3 : ¬ x4 = (-1) → HCall E me_X12_throwsOne (d + 2) [.ref 87, .int (x3 + 31), .int x2, .int x4] I (fun v9 J => HGo E (mF E (d + 3) Q) me_X12_opens 65 [(0, .ref 87), (1, .int x1)] (v9.toList ++ []) J))
    : HGo E (mF E (d + 3) Q) me_X12_opens 48 [(0, .ref 87), (1, .int x1), (2, .int x2), (3, .int x3), (4, .int x4)] [] I := by
  refine h_iload dX12_opens_48 4 rfl ?_
  refine h_iconst (v := (-1)) dX12_opens_50 (by decide) ?_
  refine h_icmp_eq (tgt := 65) dX12_opens_51 (by decide) (fun c1 => ?_) (fun c1 => ?_)
  ·
    refine h_aload_n dX12_opens_65 rfl 0 rfl ?_
    refine gf_10_22 dX12_opens_66 hl_X12_45 nl_87 zk_87 zp_87_22 ?_
    refine h_iload_n dX12_opens_69 rfl 1 rfl ?_
    refine h_iconst (v := 1) dX12_opens_70 (by decide) ?_
    refine h_iadd dX12_opens_71 ?_
    refine h_iconst (v := 0) dX12_opens_72 (by decide) ?_
    refine h_iast dX12_opens_73 nl_98 zk_98 (by rw [zn_98]; exact k1 c1) ?_
    refine h_iconst (v := 1) dX12_opens_74 (by decide) ?_
    exact h_zret dX12_opens_75 rfl rfl (k2 c1)
  ·
    refine h_aload_n dX12_opens_54 rfl 0 rfl ?_
    refine h_iload_n dX12_opens_55 rfl 3 rfl ?_
    refine h_bipush (v := 31) dX12_opens_56 (by decide) ?_
    refine h_iadd dX12_opens_58 ?_
    refine h_iload_n dX12_opens_59 rfl 2 rfl ?_
    refine h_iload dX12_opens_60 4 rfl ?_
    refine h_pick [0, 1] [(0, .ref 87), (1, .int x1)] rfl ?_
    refine h_invV (As := [.int (x3 + 31), .int x2, .int x4]) (st := []) dX12_opens_62 lk_X12_206 (h_room (by decide)) nl_87 zk_87 (by decide) rfl rfl rfl (Nat.le_of_ble_eq_true rfl) ?_
    exact k3 c1
set_option maxHeartbeats 1000000 in
set_option maxRecDepth 20000 in
theorem sg_X12_opens_31 {E : HEn} {d : Nat} {Q : Option Value → HIh → Prop} {I : HIh} {x1 : Int32} {x2 : Int32} {x3 : Int32} {x4 : Int32} {s0 : Int32}
    (k1 : ¬ s0 = 0 → HCall E me_X12_copy (d + 2) [.ref 87, .int (3 + x1), .int ((3 + x1) + 1)] I (fun v9 J => HGo E (mF E (d + 3) Q) me_X12_opens 48 [(0, .ref 87), (1, .int x1), (2, .int x2), (3, .int x3), (4, .int x4)] (v9.toList ++ []) J))
    (k2 : s0 = 0 → Q (some (.int 0)) I)
    : HGo E (mF E (d + 3) Q) me_X12_opens 31 [(0, .ref 87), (1, .int x1), (2, .int x2), (3, .int x3), (4, .int x4)] [.int s0] I := by
  refine h_if_ne (tgt := 36) dX12_opens_31 (by decide) (fun c1 => ?_) (fun c1 => ?_)
  ·
    refine h_aload_n dX12_opens_36 rfl 0 rfl ?_
    refine h_iconst (v := 3) dX12_opens_37 (by decide) ?_
    refine h_iload_n dX12_opens_38 rfl 1 rfl ?_
    refine h_iadd dX12_opens_39 ?_
    refine h_iconst (v := 3) dX12_opens_40 (by decide) ?_
    refine h_iload_n dX12_opens_41 rfl 1 rfl ?_
    refine h_iadd dX12_opens_42 ?_
    refine h_iconst (v := 1) dX12_opens_43 (by decide) ?_
    refine h_iadd dX12_opens_44 ?_
    refine h_invV (As := [.int (3 + x1), .int ((3 + x1) + 1)]) (st := []) dX12_opens_45 lk_X12_221 (h_room (by decide)) nl_87 zk_87 (by decide) rfl rfl rfl (Nat.le_of_ble_eq_true rfl) ?_
    exact k1 c1
  ·
    refine h_iconst (v := 0) dX12_opens_34 (by decide) ?_
    exact h_zret dX12_opens_35 rfl rfl (k2 c1)
set_option maxHeartbeats 1000000 in
set_option maxRecDepth 20000 in
theorem sg_X12_opens_65 {E : HEn} {d : Nat} {Q : Option Value → HIh → Prop} {I : HIh} {x1 : Int32}
    (k1 : vp_in (x1 + 1) 8)
    (k2 : Q (some (.int 1)) (setI I 98 (upd (I 98) (x1 + 1).toNatClampNeg 0)))
    : HGo E (mF E (d + 3) Q) me_X12_opens 65 [(0, .ref 87), (1, .int x1)] [] I := by
  refine h_aload_n dX12_opens_65 rfl 0 rfl ?_
  refine gf_10_22 dX12_opens_66 hl_X12_45 nl_87 zk_87 zp_87_22 ?_
  refine h_iload_n dX12_opens_69 rfl 1 rfl ?_
  refine h_iconst (v := 1) dX12_opens_70 (by decide) ?_
  refine h_iadd dX12_opens_71 ?_
  refine h_iconst (v := 0) dX12_opens_72 (by decide) ?_
  refine h_iast dX12_opens_73 nl_98 zk_98 (by rw [zn_98]; exact k1) ?_
  refine h_iconst (v := 1) dX12_opens_74 (by decide) ?_
  exact h_zret dX12_opens_75 rfl rfl (k2)
set_option maxHeartbeats 1000000 in
set_option maxRecDepth 20000 in
theorem sg_X12_lay_0 {E : HEn} {d : Nat} {Q : Option Value → HIh → Prop} {I : HIh} {a : Int32}
    (k1 : (0 : Int64) ≤ a.toInt64 → (a.toInt64 : Int64) ≤ 1 → (I 87 6) ≤ 4 → HGo E (mF E (d + 3) Q) me_X12_lay 75 [(0, .ref 87), (1, .int a), (2, .int 0), (3, .int (-1)), (4, .int (-1)), (5, .int (-1)), (6, .int 0)] [] I)
    (k2 : (0 : Int64) ≤ a.toInt64 → (a.toInt64 : Int64) ≤ 1 → ¬ (I 87 6) ≤ 4 → Q (some (.int (-4))) I)
    (k3 : ¬ ((0 : Int64) ≤ a.toInt64 ∧ (a.toInt64 : Int64) ≤ 1) → (10 : Int64) ≤ a.toInt64 → (a.toInt64 : Int64) ≤ (9 + (I 87 6)).toInt64 → (I 87 6) ≤ 4 → HGo E (mF E (d + 3) Q) me_X12_lay 75 [(0, .ref 87), (1, .int a), (2, .int 0), (3, .int (-1)), (4, .int (-1)), (5, .int (-1)), (6, .int 0)] [] I)
    (k4 : ¬ ((0 : Int64) ≤ a.toInt64 ∧ (a.toInt64 : Int64) ≤ 1) → (10 : Int64) ≤ a.toInt64 → (a.toInt64 : Int64) ≤ (9 + (I 87 6)).toInt64 → ¬ (I 87 6) ≤ 4 → Q (some (.int (-4))) I)
    (k5 : ¬ ((0 : Int64) ≤ a.toInt64 ∧ (a.toInt64 : Int64) ≤ 1) → ¬ ((10 : Int64) ≤ a.toInt64 ∧ (a.toInt64 : Int64) ≤ (9 + (I 87 6)).toInt64) → (20 : Int64) ≤ a.toInt64 → (a.toInt64 : Int64) ≤ (19 + (I 87 6)).toInt64 → (I 87 6) ≤ 4 → HGo E (mF E (d + 3) Q) me_X12_lay 75 [(0, .ref 87), (1, .int a), (2, .int 0), (3, .int (-1)), (4, .int (-1)), (5, .int (-1)), (6, .int 0)] [] I)
    (k6 : ¬ ((0 : Int64) ≤ a.toInt64 ∧ (a.toInt64 : Int64) ≤ 1) → ¬ ((10 : Int64) ≤ a.toInt64 ∧ (a.toInt64 : Int64) ≤ (9 + (I 87 6)).toInt64) → (20 : Int64) ≤ a.toInt64 → (a.toInt64 : Int64) ≤ (19 + (I 87 6)).toInt64 → ¬ (I 87 6) ≤ 4 → Q (some (.int (-4))) I)
    (k7 : ¬ ((0 : Int64) ≤ a.toInt64 ∧ (a.toInt64 : Int64) ≤ 1) → ¬ ((10 : Int64) ≤ a.toInt64 ∧ (a.toInt64 : Int64) ≤ (9 + (I 87 6)).toInt64) → ¬ ((20 : Int64) ≤ a.toInt64 ∧ (a.toInt64 : Int64) ≤ (19 + (I 87 6)).toInt64) → Q (some (.int (-3))) I)
    : HGo E (mF E (d + 3) Q) me_X12_lay 0 [(0, .ref 87), (1, .int a)] [] I := by
  refine h_iload_n dX12_lay_0 rfl 1 rfl ?_
  refine h_i2l dX12_lay_1 ?_
  refine h_lconst (v := 0) dX12_lay_2 (by decide) ?_
  refine h_lconst (v := 1) dX12_lay_3 (by decide) ?_
  refine h_invS (As := [.long a.toInt64, .long 0, .long 1]) (st := []) dX12_lay_4 lk_X12_62 (h_room (by decide)) rfl rfl (Nat.le_of_ble_eq_true rfl) ?_
  refine c_X12_in (fun c1 c2 => ?_) (fun c3 => ?_)
  ·
    refine h_if_ne (tgt := 51) dX12_lay_7 (by decide) (fun _ => ?_) (fun c => absurd c (by decide))
    refine h_aload_n dX12_lay_51 rfl 0 rfl ?_
    refine gf_10_6 dX12_lay_52 hl_X12_23 nl_87 zk_87 ?_
    refine h_iconst (v := 4) dX12_lay_55 (by decide) ?_
    refine h_icmp_le (tgt := 62) dX12_lay_56 (by decide) (fun c4 => ?_) (fun c4 => ?_)
    ·
      refine h_iconst (v := 0) dX12_lay_62 (by decide) ?_
      refine h_istore_n (L' := [(2, .int 0), (0, .ref 87), (1, .int a)]) dX12_lay_63 rfl (by decide) rfl ?_
      refine h_iconst (v := (-1)) dX12_lay_64 (by decide) ?_
      refine h_istore_n (L' := [(3, .int (-1)), (2, .int 0), (0, .ref 87), (1, .int a)]) dX12_lay_65 rfl (by decide) rfl ?_
      refine h_iconst (v := (-1)) dX12_lay_66 (by decide) ?_
      refine h_istore (L' := [(4, .int (-1)), (3, .int (-1)), (2, .int 0), (0, .ref 87), (1, .int a)]) dX12_lay_67 (by decide) rfl ?_
      refine h_iconst (v := (-1)) dX12_lay_69 (by decide) ?_
      refine h_istore (L' := [(5, .int (-1)), (4, .int (-1)), (3, .int (-1)), (2, .int 0), (0, .ref 87), (1, .int a)]) dX12_lay_70 (by decide) rfl ?_
      refine h_iconst (v := 0) dX12_lay_72 (by decide) ?_
      refine h_istore (L' := [(6, .int 0), (5, .int (-1)), (4, .int (-1)), (3, .int (-1)), (2, .int 0), (0, .ref 87), (1, .int a)]) dX12_lay_73 (by decide) rfl ?_
      refine h_pick [5, 6, 4, 3, 2, 1, 0] [(0, .ref 87), (1, .int a), (2, .int 0), (3, .int (-1)), (4, .int (-1)), (5, .int (-1)), (6, .int 0)] rfl ?_
      exact k1 c1 c2 c4
    ·
      refine h_bipush (v := (-4)) dX12_lay_59 (by decide) ?_
      exact h_iret dX12_lay_61 rfl (k2 c1 c2 c4)
  ·
    refine h_if_ne (tgt := 51) dX12_lay_7 (by decide) (fun c => absurd c (by decide)) (fun _ => ?_)
    refine h_iload_n dX12_lay_10 rfl 1 rfl ?_
    refine h_i2l dX12_lay_11 ?_
    refine h_ldc2 dX12_lay_12 wt_1121 rfl ?_
    refine h_bipush (v := 9) dX12_lay_15 (by decide) ?_
    refine h_aload_n dX12_lay_17 rfl 0 rfl ?_
    refine gf_10_6 dX12_lay_18 hl_X12_23 nl_87 zk_87 ?_
    refine h_iadd dX12_lay_21 ?_
    refine h_i2l dX12_lay_22 ?_
    refine h_invS (As := [.long a.toInt64, .long 10, .long ((9 + (I 87 6)).toInt64)]) (st := []) dX12_lay_23 lk_X12_62 (h_room (by decide)) rfl rfl (Nat.le_of_ble_eq_true rfl) ?_
    refine c_X12_in (fun c5 c6 => ?_) (fun c7 => ?_)
    ·
      refine h_if_ne (tgt := 51) dX12_lay_26 (by decide) (fun _ => ?_) (fun c => absurd c (by decide))
      refine h_aload_n dX12_lay_51 rfl 0 rfl ?_
      refine gf_10_6 dX12_lay_52 hl_X12_23 nl_87 zk_87 ?_
      refine h_iconst (v := 4) dX12_lay_55 (by decide) ?_
      refine h_icmp_le (tgt := 62) dX12_lay_56 (by decide) (fun c8 => ?_) (fun c8 => ?_)
      ·
        refine h_iconst (v := 0) dX12_lay_62 (by decide) ?_
        refine h_istore_n (L' := [(2, .int 0), (0, .ref 87), (1, .int a)]) dX12_lay_63 rfl (by decide) rfl ?_
        refine h_iconst (v := (-1)) dX12_lay_64 (by decide) ?_
        refine h_istore_n (L' := [(3, .int (-1)), (2, .int 0), (0, .ref 87), (1, .int a)]) dX12_lay_65 rfl (by decide) rfl ?_
        refine h_iconst (v := (-1)) dX12_lay_66 (by decide) ?_
        refine h_istore (L' := [(4, .int (-1)), (3, .int (-1)), (2, .int 0), (0, .ref 87), (1, .int a)]) dX12_lay_67 (by decide) rfl ?_
        refine h_iconst (v := (-1)) dX12_lay_69 (by decide) ?_
        refine h_istore (L' := [(5, .int (-1)), (4, .int (-1)), (3, .int (-1)), (2, .int 0), (0, .ref 87), (1, .int a)]) dX12_lay_70 (by decide) rfl ?_
        refine h_iconst (v := 0) dX12_lay_72 (by decide) ?_
        refine h_istore (L' := [(6, .int 0), (5, .int (-1)), (4, .int (-1)), (3, .int (-1)), (2, .int 0), (0, .ref 87), (1, .int a)]) dX12_lay_73 (by decide) rfl ?_
        refine h_pick [5, 6, 4, 3, 2, 1, 0] [(0, .ref 87), (1, .int a), (2, .int 0), (3, .int (-1)), (4, .int (-1)), (5, .int (-1)), (6, .int 0)] rfl ?_
        exact k3 c3 c5 c6 c8
      ·
        refine h_bipush (v := (-4)) dX12_lay_59 (by decide) ?_
        exact h_iret dX12_lay_61 rfl (k4 c3 c5 c6 c8)
    ·
      refine h_if_ne (tgt := 51) dX12_lay_26 (by decide) (fun c => absurd c (by decide)) (fun _ => ?_)
      refine h_iload_n dX12_lay_29 rfl 1 rfl ?_
      refine h_i2l dX12_lay_30 ?_
      refine h_ldc2 dX12_lay_31 wt_1152 rfl ?_
      refine h_bipush (v := 19) dX12_lay_34 (by decide) ?_
      refine h_aload_n dX12_lay_36 rfl 0 rfl ?_
      refine gf_10_6 dX12_lay_37 hl_X12_23 nl_87 zk_87 ?_
      refine h_iadd dX12_lay_40 ?_
      refine h_i2l dX12_lay_41 ?_
      refine h_invS (As := [.long a.toInt64, .long 20, .long ((19 + (I 87 6)).toInt64)]) (st := []) dX12_lay_42 lk_X12_62 (h_room (by decide)) rfl rfl (Nat.le_of_ble_eq_true rfl) ?_
      refine c_X12_in (fun c9 c10 => ?_) (fun c11 => ?_)
      ·
        refine h_if_ne (tgt := 51) dX12_lay_45 (by decide) (fun _ => ?_) (fun c => absurd c (by decide))
        refine h_aload_n dX12_lay_51 rfl 0 rfl ?_
        refine gf_10_6 dX12_lay_52 hl_X12_23 nl_87 zk_87 ?_
        refine h_iconst (v := 4) dX12_lay_55 (by decide) ?_
        refine h_icmp_le (tgt := 62) dX12_lay_56 (by decide) (fun c12 => ?_) (fun c12 => ?_)
        ·
          refine h_iconst (v := 0) dX12_lay_62 (by decide) ?_
          refine h_istore_n (L' := [(2, .int 0), (0, .ref 87), (1, .int a)]) dX12_lay_63 rfl (by decide) rfl ?_
          refine h_iconst (v := (-1)) dX12_lay_64 (by decide) ?_
          refine h_istore_n (L' := [(3, .int (-1)), (2, .int 0), (0, .ref 87), (1, .int a)]) dX12_lay_65 rfl (by decide) rfl ?_
          refine h_iconst (v := (-1)) dX12_lay_66 (by decide) ?_
          refine h_istore (L' := [(4, .int (-1)), (3, .int (-1)), (2, .int 0), (0, .ref 87), (1, .int a)]) dX12_lay_67 (by decide) rfl ?_
          refine h_iconst (v := (-1)) dX12_lay_69 (by decide) ?_
          refine h_istore (L' := [(5, .int (-1)), (4, .int (-1)), (3, .int (-1)), (2, .int 0), (0, .ref 87), (1, .int a)]) dX12_lay_70 (by decide) rfl ?_
          refine h_iconst (v := 0) dX12_lay_72 (by decide) ?_
          refine h_istore (L' := [(6, .int 0), (5, .int (-1)), (4, .int (-1)), (3, .int (-1)), (2, .int 0), (0, .ref 87), (1, .int a)]) dX12_lay_73 (by decide) rfl ?_
          refine h_pick [5, 6, 4, 3, 2, 1, 0] [(0, .ref 87), (1, .int a), (2, .int 0), (3, .int (-1)), (4, .int (-1)), (5, .int (-1)), (6, .int 0)] rfl ?_
          exact k5 c3 c7 c9 c10 c12
        ·
          refine h_bipush (v := (-4)) dX12_lay_59 (by decide) ?_
          exact h_iret dX12_lay_61 rfl (k6 c3 c7 c9 c10 c12)
      ·
        refine h_if_ne (tgt := 51) dX12_lay_45 (by decide) (fun c => absurd c (by decide)) (fun _ => ?_)
        refine h_bipush (v := (-3)) dX12_lay_48 (by decide) ?_
        exact h_iret dX12_lay_50 rfl (k7 c3 c7 c11)
set_option maxHeartbeats 1000000 in
set_option maxRecDepth 20000 in
theorem sg_X12_lay_75 {E : HEn} {d : Nat} {Q : Option Value → HIh → Prop} {I : HIh} {x1 : Int32} {x2 : Int32} {x3 : Int32} {x4 : Int32} {x5 : Int32} {x6 : Int32}
    (k1 : ((1 : Int32) <<< ((2 * (I 87 6)) &&& 31)) ≤ x6 → ¬ x1 = 0 → ¬ x1 = 1 → 20 ≤ x1 → Q (some (.int x5)) I)
    (k2 : ((1 : Int32) <<< ((2 * (I 87 6)) &&& 31)) ≤ x6 → ¬ x1 = 0 → ¬ x1 = 1 → ¬ 20 ≤ x1 → Q (some (.int x4)) I)
    (k3 : ((1 : Int32) <<< ((2 * (I 87 6)) &&& 31)) ≤ x6 → ¬ x1 = 0 → x1 = 1 → Q (some (.int x3)) I)
    (k4 : ((1 : Int32) <<< ((2 * (I 87 6)) &&& 31)) ≤ x6 → x1 = 0 → Q (some (.int x2)) I)
    (k5 : ¬ ((1 : Int32) <<< ((2 * (I 87 6)) &&& 31)) ≤ x6 → HCall E me_X12_isSo (d + 2) [.ref 87, .int x6] I (fun v9 J => HGo E (mF E (d + 3) Q) me_X12_lay 94 [(0, .ref 87), (1, .int x1), (2, .int x2), (3, .int x3), (4, .int x4), (5, .int x5), (6, .int x6)] (v9.toList ++ []) J))
    : HGo E (mF E (d + 3) Q) me_X12_lay 75 [(0, .ref 87), (1, .int x1), (2, .int x2), (3, .int x3), (4, .int x4), (5, .int x5), (6, .int x6)] [] I := by
  refine h_iload dX12_lay_75 6 rfl ?_
  refine h_iconst (v := 1) dX12_lay_77 (by decide) ?_
  refine h_iconst (v := 2) dX12_lay_78 (by decide) ?_
  refine h_aload_n dX12_lay_79 rfl 0 rfl ?_
  refine gf_10_6 dX12_lay_80 hl_X12_23 nl_87 zk_87 ?_
  refine h_imul dX12_lay_83 ?_
  refine h_ishl dX12_lay_84 ?_
  refine h_icmp_ge (tgt := 175) dX12_lay_85 (by decide) (fun c1 => ?_) (fun c1 => ?_)
  ·
    refine h_iload_n dX12_lay_175 rfl 1 rfl ?_
    refine h_if_ne (tgt := 183) dX12_lay_176 (by decide) (fun c2 => ?_) (fun c2 => ?_)
    ·
      refine h_iload_n dX12_lay_183 rfl 1 rfl ?_
      refine h_iconst (v := 1) dX12_lay_184 (by decide) ?_
      refine h_icmp_ne (tgt := 192) dX12_lay_185 (by decide) (fun c3 => ?_) (fun c3 => ?_)
      ·
        refine h_iload_n dX12_lay_192 rfl 1 rfl ?_
        refine h_bipush (v := 20) dX12_lay_193 (by decide) ?_
        refine h_icmp_ge (tgt := 203) dX12_lay_195 (by decide) (fun c4 => ?_) (fun c4 => ?_)
        ·
          refine h_iload dX12_lay_203 5 rfl ?_
          exact h_iret dX12_lay_205 rfl (k1 c1 c2 c3 c4)
        ·
          refine h_iload dX12_lay_198 4 rfl ?_
          refine h_goto (tgt := 205) dX12_lay_200 (by decide) ?_
          exact h_iret dX12_lay_205 rfl (k2 c1 c2 c3 c4)
      ·
        refine h_iload_n dX12_lay_188 rfl 3 rfl ?_
        refine h_goto (tgt := 205) dX12_lay_189 (by decide) ?_
        exact h_iret dX12_lay_205 rfl (k3 c1 c2 c3)
    ·
      refine h_iload_n dX12_lay_179 rfl 2 rfl ?_
      refine h_goto (tgt := 205) dX12_lay_180 (by decide) ?_
      exact h_iret dX12_lay_205 rfl (k4 c1 c2)
  ·
    refine h_aload_n dX12_lay_88 rfl 0 rfl ?_
    refine h_iload dX12_lay_89 6 rfl ?_
    refine h_invV (As := [.int x6]) (st := []) dX12_lay_91 lk_X12_272 (h_room (by decide)) nl_87 zk_87 (by decide) rfl rfl rfl (Nat.le_of_ble_eq_true rfl) ?_
    exact k5 c1
set_option maxHeartbeats 1000000 in
set_option maxRecDepth 20000 in
theorem sg_X12_lay_94 {E : HEn} {d : Nat} {Q : Option Value → HIh → Prop} {I : HIh} {x1 : Int32} {x2 : Int32} {x3 : Int32} {x4 : Int32} {x5 : Int32} {x6 : Int32} {s0 : Int32}
    (k1 : s0 = 0 → HGo E (mF E (d + 3) Q) me_X12_lay 75 [(0, .ref 87), (1, .int x1), (2, .int x2), (3, .int x3), (4, .int x4), (5, .int x5), (6, .int (x6 + 1))] [] I)
    (k2 : ¬ s0 = 0 → 10 ≤ x1 → ¬ x2 = 0 → x2 = 0 → ((x6 >>> ((2 * (((I 87 6) - 1) - (x1 - x1 / 10 * 10))) &&& 31)) &&& 3) ≤ x5 → HGo E (mF E (d + 3) Q) me_X12_lay 75 [(0, .ref 87), (1, .int x1), (2, .int (x2 + 1)), (3, .int x3), (4, .int ((x6 >>> ((2 * (((I 87 6) - 1) - (x1 - x1 / 10 * 10))) &&& 31)) &&& 3)), (5, .int x5), (6, .int (x6 + 1))] [] I)
    (k3 : ¬ s0 = 0 → 10 ≤ x1 → ¬ x2 = 0 → x2 = 0 → ¬ ((x6 >>> ((2 * (((I 87 6) - 1) - (x1 - x1 / 10 * 10))) &&& 31)) &&& 3) ≤ x5 → HGo E (mF E (d + 3) Q) me_X12_lay 75 [(0, .ref 87), (1, .int x1), (2, .int (x2 + 1)), (3, .int x3), (4, .int ((x6 >>> ((2 * (((I 87 6) - 1) - (x1 - x1 / 10 * 10))) &&& 31)) &&& 3)), (5, .int ((x6 >>> ((2 * (((I 87 6) - 1) - (x1 - x1 / 10 * 10))) &&& 31)) &&& 3)), (6, .int (x6 + 1))] [] I)
    (k4 : ¬ s0 = 0 → 10 ≤ x1 → ¬ x2 = 0 → ¬ x2 = 0 → x4 ≤ ((x6 >>> ((2 * (((I 87 6) - 1) - (x1 - x1 / 10 * 10))) &&& 31)) &&& 3) → ((x6 >>> ((2 * (((I 87 6) - 1) - (x1 - x1 / 10 * 10))) &&& 31)) &&& 3) ≤ x5 → HGo E (mF E (d + 3) Q) me_X12_lay 75 [(0, .ref 87), (1, .int x1), (2, .int (x2 + 1)), (3, .int x3), (4, .int x4), (5, .int x5), (6, .int (x6 + 1))] [] I)
    (k5 : ¬ s0 = 0 → 10 ≤ x1 → ¬ x2 = 0 → ¬ x2 = 0 → x4 ≤ ((x6 >>> ((2 * (((I 87 6) - 1) - (x1 - x1 / 10 * 10))) &&& 31)) &&& 3) → ¬ ((x6 >>> ((2 * (((I 87 6) - 1) - (x1 - x1 / 10 * 10))) &&& 31)) &&& 3) ≤ x5 → HGo E (mF E (d + 3) Q) me_X12_lay 75 [(0, .ref 87), (1, .int x1), (2, .int (x2 + 1)), (3, .int x3), (4, .int x4), (5, .int ((x6 >>> ((2 * (((I 87 6) - 1) - (x1 - x1 / 10 * 10))) &&& 31)) &&& 3)), (6, .int (x6 + 1))] [] I)
    (k6 : ¬ s0 = 0 → 10 ≤ x1 → ¬ x2 = 0 → ¬ x2 = 0 → ¬ x4 ≤ ((x6 >>> ((2 * (((I 87 6) - 1) - (x1 - x1 / 10 * 10))) &&& 31)) &&& 3) → ((x6 >>> ((2 * (((I 87 6) - 1) - (x1 - x1 / 10 * 10))) &&& 31)) &&& 3) ≤ x5 → HGo E (mF E (d + 3) Q) me_X12_lay 75 [(0, .ref 87), (1, .int x1), (2, .int (x2 + 1)), (3, .int x3), (4, .int ((x6 >>> ((2 * (((I 87 6) - 1) - (x1 - x1 / 10 * 10))) &&& 31)) &&& 3)), (5, .int x5), (6, .int (x6 + 1))] [] I)
    (k7 : ¬ s0 = 0 → 10 ≤ x1 → ¬ x2 = 0 → ¬ x2 = 0 → ¬ x4 ≤ ((x6 >>> ((2 * (((I 87 6) - 1) - (x1 - x1 / 10 * 10))) &&& 31)) &&& 3) → ¬ ((x6 >>> ((2 * (((I 87 6) - 1) - (x1 - x1 / 10 * 10))) &&& 31)) &&& 3) ≤ x5 → HGo E (mF E (d + 3) Q) me_X12_lay 75 [(0, .ref 87), (1, .int x1), (2, .int (x2 + 1)), (3, .int x3), (4, .int ((x6 >>> ((2 * (((I 87 6) - 1) - (x1 - x1 / 10 * 10))) &&& 31)) &&& 3)), (5, .int ((x6 >>> ((2 * (((I 87 6) - 1) - (x1 - x1 / 10 * 10))) &&& 31)) &&& 3)), (6, .int (x6 + 1))] [] I)
    (k8 : ¬ s0 = 0 → 10 ≤ x1 → x2 = 0 → x2 = 0 → ((x6 >>> ((2 * (((I 87 6) - 1) - (x1 - x1 / 10 * 10))) &&& 31)) &&& 3) ≤ x5 → HGo E (mF E (d + 3) Q) me_X12_lay 75 [(0, .ref 87), (1, .int x1), (2, .int (x2 + 1)), (3, .int x6), (4, .int ((x6 >>> ((2 * (((I 87 6) - 1) - (x1 - x1 / 10 * 10))) &&& 31)) &&& 3)), (5, .int x5), (6, .int (x6 + 1))] [] I)
    (k9 : ¬ s0 = 0 → 10 ≤ x1 → x2 = 0 → x2 = 0 → ¬ ((x6 >>> ((2 * (((I 87 6) - 1) - (x1 - x1 / 10 * 10))) &&& 31)) &&& 3) ≤ x5 → HGo E (mF E (d + 3) Q) me_X12_lay 75 [(0, .ref 87), (1, .int x1), (2, .int (x2 + 1)), (3, .int x6), (4, .int ((x6 >>> ((2 * (((I 87 6) - 1) - (x1 - x1 / 10 * 10))) &&& 31)) &&& 3)), (5, .int ((x6 >>> ((2 * (((I 87 6) - 1) - (x1 - x1 / 10 * 10))) &&& 31)) &&& 3)), (6, .int (x6 + 1))] [] I)
    (k10 : ¬ s0 = 0 → 10 ≤ x1 → x2 = 0 → ¬ x2 = 0 → x4 ≤ ((x6 >>> ((2 * (((I 87 6) - 1) - (x1 - x1 / 10 * 10))) &&& 31)) &&& 3) → ((x6 >>> ((2 * (((I 87 6) - 1) - (x1 - x1 / 10 * 10))) &&& 31)) &&& 3) ≤ x5 → HGo E (mF E (d + 3) Q) me_X12_lay 75 [(0, .ref 87), (1, .int x1), (2, .int (x2 + 1)), (3, .int x6), (4, .int x4), (5, .int x5), (6, .int (x6 + 1))] [] I)
    (k11 : ¬ s0 = 0 → 10 ≤ x1 → x2 = 0 → ¬ x2 = 0 → x4 ≤ ((x6 >>> ((2 * (((I 87 6) - 1) - (x1 - x1 / 10 * 10))) &&& 31)) &&& 3) → ¬ ((x6 >>> ((2 * (((I 87 6) - 1) - (x1 - x1 / 10 * 10))) &&& 31)) &&& 3) ≤ x5 → HGo E (mF E (d + 3) Q) me_X12_lay 75 [(0, .ref 87), (1, .int x1), (2, .int (x2 + 1)), (3, .int x6), (4, .int x4), (5, .int ((x6 >>> ((2 * (((I 87 6) - 1) - (x1 - x1 / 10 * 10))) &&& 31)) &&& 3)), (6, .int (x6 + 1))] [] I)
    (k12 : ¬ s0 = 0 → 10 ≤ x1 → x2 = 0 → ¬ x2 = 0 → ¬ x4 ≤ ((x6 >>> ((2 * (((I 87 6) - 1) - (x1 - x1 / 10 * 10))) &&& 31)) &&& 3) → ((x6 >>> ((2 * (((I 87 6) - 1) - (x1 - x1 / 10 * 10))) &&& 31)) &&& 3) ≤ x5 → HGo E (mF E (d + 3) Q) me_X12_lay 75 [(0, .ref 87), (1, .int x1), (2, .int (x2 + 1)), (3, .int x6), (4, .int ((x6 >>> ((2 * (((I 87 6) - 1) - (x1 - x1 / 10 * 10))) &&& 31)) &&& 3)), (5, .int x5), (6, .int (x6 + 1))] [] I)
    (k13 : ¬ s0 = 0 → 10 ≤ x1 → x2 = 0 → ¬ x2 = 0 → ¬ x4 ≤ ((x6 >>> ((2 * (((I 87 6) - 1) - (x1 - x1 / 10 * 10))) &&& 31)) &&& 3) → ¬ ((x6 >>> ((2 * (((I 87 6) - 1) - (x1 - x1 / 10 * 10))) &&& 31)) &&& 3) ≤ x5 → HGo E (mF E (d + 3) Q) me_X12_lay 75 [(0, .ref 87), (1, .int x1), (2, .int (x2 + 1)), (3, .int x6), (4, .int ((x6 >>> ((2 * (((I 87 6) - 1) - (x1 - x1 / 10 * 10))) &&& 31)) &&& 3)), (5, .int ((x6 >>> ((2 * (((I 87 6) - 1) - (x1 - x1 / 10 * 10))) &&& 31)) &&& 3)), (6, .int (x6 + 1))] [] I)
    (k14 : ¬ s0 = 0 → ¬ 10 ≤ x1 → ¬ x2 = 0 → x2 = 0 → 0 ≤ x5 → HGo E (mF E (d + 3) Q) me_X12_lay 75 [(0, .ref 87), (1, .int x1), (2, .int (x2 + 1)), (3, .int x3), (4, .int 0), (5, .int x5), (6, .int (x6 + 1))] [] I)
    (k15 : ¬ s0 = 0 → ¬ 10 ≤ x1 → ¬ x2 = 0 → x2 = 0 → ¬ 0 ≤ x5 → HGo E (mF E (d + 3) Q) me_X12_lay 75 [(0, .ref 87), (1, .int x1), (2, .int (x2 + 1)), (3, .int x3), (4, .int 0), (5, .int 0), (6, .int (x6 + 1))] [] I)
    (k16 : ¬ s0 = 0 → ¬ 10 ≤ x1 → ¬ x2 = 0 → ¬ x2 = 0 → x4 ≤ 0 → 0 ≤ x5 → HGo E (mF E (d + 3) Q) me_X12_lay 75 [(0, .ref 87), (1, .int x1), (2, .int (x2 + 1)), (3, .int x3), (4, .int x4), (5, .int x5), (6, .int (x6 + 1))] [] I)
    (k17 : ¬ s0 = 0 → ¬ 10 ≤ x1 → ¬ x2 = 0 → ¬ x2 = 0 → x4 ≤ 0 → ¬ 0 ≤ x5 → HGo E (mF E (d + 3) Q) me_X12_lay 75 [(0, .ref 87), (1, .int x1), (2, .int (x2 + 1)), (3, .int x3), (4, .int x4), (5, .int 0), (6, .int (x6 + 1))] [] I)
    (k18 : ¬ s0 = 0 → ¬ 10 ≤ x1 → ¬ x2 = 0 → ¬ x2 = 0 → ¬ x4 ≤ 0 → 0 ≤ x5 → HGo E (mF E (d + 3) Q) me_X12_lay 75 [(0, .ref 87), (1, .int x1), (2, .int (x2 + 1)), (3, .int x3), (4, .int 0), (5, .int x5), (6, .int (x6 + 1))] [] I)
    (k19 : ¬ s0 = 0 → ¬ 10 ≤ x1 → ¬ x2 = 0 → ¬ x2 = 0 → ¬ x4 ≤ 0 → ¬ 0 ≤ x5 → HGo E (mF E (d + 3) Q) me_X12_lay 75 [(0, .ref 87), (1, .int x1), (2, .int (x2 + 1)), (3, .int x3), (4, .int 0), (5, .int 0), (6, .int (x6 + 1))] [] I)
    (k20 : ¬ s0 = 0 → ¬ 10 ≤ x1 → x2 = 0 → x2 = 0 → 0 ≤ x5 → HGo E (mF E (d + 3) Q) me_X12_lay 75 [(0, .ref 87), (1, .int x1), (2, .int (x2 + 1)), (3, .int x6), (4, .int 0), (5, .int x5), (6, .int (x6 + 1))] [] I)
    (k21 : ¬ s0 = 0 → ¬ 10 ≤ x1 → x2 = 0 → x2 = 0 → ¬ 0 ≤ x5 → HGo E (mF E (d + 3) Q) me_X12_lay 75 [(0, .ref 87), (1, .int x1), (2, .int (x2 + 1)), (3, .int x6), (4, .int 0), (5, .int 0), (6, .int (x6 + 1))] [] I)
    (k22 : ¬ s0 = 0 → ¬ 10 ≤ x1 → x2 = 0 → ¬ x2 = 0 → x4 ≤ 0 → 0 ≤ x5 → HGo E (mF E (d + 3) Q) me_X12_lay 75 [(0, .ref 87), (1, .int x1), (2, .int (x2 + 1)), (3, .int x6), (4, .int x4), (5, .int x5), (6, .int (x6 + 1))] [] I)
    (k23 : ¬ s0 = 0 → ¬ 10 ≤ x1 → x2 = 0 → ¬ x2 = 0 → x4 ≤ 0 → ¬ 0 ≤ x5 → HGo E (mF E (d + 3) Q) me_X12_lay 75 [(0, .ref 87), (1, .int x1), (2, .int (x2 + 1)), (3, .int x6), (4, .int x4), (5, .int 0), (6, .int (x6 + 1))] [] I)
    (k24 : ¬ s0 = 0 → ¬ 10 ≤ x1 → x2 = 0 → ¬ x2 = 0 → ¬ x4 ≤ 0 → 0 ≤ x5 → HGo E (mF E (d + 3) Q) me_X12_lay 75 [(0, .ref 87), (1, .int x1), (2, .int (x2 + 1)), (3, .int x6), (4, .int 0), (5, .int x5), (6, .int (x6 + 1))] [] I)
    (k25 : ¬ s0 = 0 → ¬ 10 ≤ x1 → x2 = 0 → ¬ x2 = 0 → ¬ x4 ≤ 0 → ¬ 0 ≤ x5 → HGo E (mF E (d + 3) Q) me_X12_lay 75 [(0, .ref 87), (1, .int x1), (2, .int (x2 + 1)), (3, .int x6), (4, .int 0), (5, .int 0), (6, .int (x6 + 1))] [] I)
    : HGo E (mF E (d + 3) Q) me_X12_lay 94 [(0, .ref 87), (1, .int x1), (2, .int x2), (3, .int x3), (4, .int x4), (5, .int x5), (6, .int x6)] [.int s0] I := by
  refine h_if_eq (tgt := 169) dX12_lay_94 (by decide) (fun c1 => ?_) (fun c1 => ?_)
  ·
    refine h_iinc (v := (x6 + 1)) (L' := [(6, .int (x6 + 1)), (0, .ref 87), (1, .int x1), (2, .int x2), (3, .int x3), (4, .int x4), (5, .int x5)]) dX12_lay_169 6 rfl rfl (by decide) rfl ?_
    refine h_goto (tgt := 75) dX12_lay_172 (by decide) ?_
    refine h_pick [1, 2, 3, 4, 5, 6, 0] [(0, .ref 87), (1, .int x1), (2, .int x2), (3, .int x3), (4, .int x4), (5, .int x5), (6, .int (x6 + 1))] rfl ?_
    exact k1 c1
  ·
    refine h_iload_n dX12_lay_97 rfl 1 rfl ?_
    refine h_bipush (v := 10) dX12_lay_98 (by decide) ?_
    refine h_icmp_ge (tgt := 107) dX12_lay_100 (by decide) (fun c2 => ?_) (fun c2 => ?_)
    ·
      refine h_aload_n dX12_lay_107 rfl 0 rfl ?_
      refine h_iload dX12_lay_108 6 rfl ?_
      refine h_iload_n dX12_lay_110 rfl 1 rfl ?_
      refine h_bipush (v := 10) dX12_lay_111 (by decide) ?_
      refine h_irem dX12_lay_113 (by decide) ?_
      refine h_invV (As := [.int x6, .int (x1 - x1 / 10 * 10)]) (st := []) dX12_lay_114 lk_X12_267 (h_room (by decide)) nl_87 zk_87 (by decide) rfl rfl rfl (Nat.le_of_ble_eq_true rfl) ?_
      refine c_X12_layOf ?_
      refine h_istore (L' := [(7, .int ((x6 >>> ((2 * (((I 87 6) - 1) - (x1 - x1 / 10 * 10))) &&& 31)) &&& 3)), (0, .ref 87), (1, .int x1), (2, .int x2), (3, .int x3), (4, .int x4), (5, .int x5), (6, .int x6)]) dX12_lay_117 (by decide) rfl ?_
      refine h_iload_n dX12_lay_119 rfl 3 rfl ?_
      refine h_if_ne (tgt := 128) dX12_lay_120 (by decide) (fun c3 => ?_) (fun c3 => ?_)
      ·
        refine h_iload_n dX12_lay_128 rfl 4 rfl ?_
        refine h_istore_n (L' := [(3, .int x3), (7, .int ((x6 >>> ((2 * (((I 87 6) - 1) - (x1 - x1 / 10 * 10))) &&& 31)) &&& 3)), (0, .ref 87), (1, .int x1), (2, .int x2), (4, .int x4), (5, .int x5), (6, .int x6)]) dX12_lay_129 rfl (by decide) rfl ?_
        refine h_iload_n dX12_lay_130 rfl 4 rfl ?_
        refine h_if_eq (tgt := 141) dX12_lay_131 (by decide) (fun c4 => ?_) (fun c4 => ?_)
        ·
          refine h_iload dX12_lay_141 1 rfl ?_
          refine h_goto (tgt := 148) dX12_lay_143 (by decide) ?_
          refine h_istore (L' := [(4, .int ((x6 >>> ((2 * (((I 87 6) - 1) - (x1 - x1 / 10 * 10))) &&& 31)) &&& 3)), (3, .int x3), (7, .int ((x6 >>> ((2 * (((I 87 6) - 1) - (x1 - x1 / 10 * 10))) &&& 31)) &&& 3)), (0, .ref 87), (1, .int x1), (2, .int x2), (5, .int x5), (6, .int x6)]) dX12_lay_148 (by decide) rfl ?_
          refine h_iload dX12_lay_150 2 rfl ?_
          refine h_iload dX12_lay_152 6 rfl ?_
          refine h_icmp_le (tgt := 162) dX12_lay_154 (by decide) (fun c5 => ?_) (fun c5 => ?_)
          ·
            refine h_iload dX12_lay_162 6 rfl ?_
            refine h_istore (L' := [(5, .int x5), (4, .int ((x6 >>> ((2 * (((I 87 6) - 1) - (x1 - x1 / 10 * 10))) &&& 31)) &&& 3)), (3, .int x3), (7, .int ((x6 >>> ((2 * (((I 87 6) - 1) - (x1 - x1 / 10 * 10))) &&& 31)) &&& 3)), (0, .ref 87), (1, .int x1), (2, .int x2), (6, .int x6)]) dX12_lay_164 (by decide) rfl ?_
            refine h_iinc (v := (x2 + 1)) (L' := [(2, .int (x2 + 1)), (5, .int x5), (4, .int ((x6 >>> ((2 * (((I 87 6) - 1) - (x1 - x1 / 10 * 10))) &&& 31)) &&& 3)), (3, .int x3), (7, .int ((x6 >>> ((2 * (((I 87 6) - 1) - (x1 - x1 / 10 * 10))) &&& 31)) &&& 3)), (0, .ref 87), (1, .int x1), (6, .int x6)]) dX12_lay_166 6 rfl rfl (by decide) rfl ?_
            refine h_iinc (v := (x6 + 1)) (L' := [(6, .int (x6 + 1)), (2, .int (x2 + 1)), (5, .int x5), (4, .int ((x6 >>> ((2 * (((I 87 6) - 1) - (x1 - x1 / 10 * 10))) &&& 31)) &&& 3)), (3, .int x3), (7, .int ((x6 >>> ((2 * (((I 87 6) - 1) - (x1 - x1 / 10 * 10))) &&& 31)) &&& 3)), (0, .ref 87), (1, .int x1)]) dX12_lay_169 7 rfl rfl (by decide) rfl ?_
            refine h_goto (tgt := 75) dX12_lay_172 (by decide) ?_
            refine h_pick [6, 7, 1, 4, 3, 2, 0] [(0, .ref 87), (1, .int x1), (2, .int (x2 + 1)), (3, .int x3), (4, .int ((x6 >>> ((2 * (((I 87 6) - 1) - (x1 - x1 / 10 * 10))) &&& 31)) &&& 3)), (5, .int x5), (6, .int (x6 + 1))] rfl ?_
            exact k2 c1 c2 c3 c4 c5
          ·
            refine h_iload dX12_lay_157 2 rfl ?_
            refine h_goto (tgt := 164) dX12_lay_159 (by decide) ?_
            refine h_istore (L' := [(5, .int ((x6 >>> ((2 * (((I 87 6) - 1) - (x1 - x1 / 10 * 10))) &&& 31)) &&& 3)), (4, .int ((x6 >>> ((2 * (((I 87 6) - 1) - (x1 - x1 / 10 * 10))) &&& 31)) &&& 3)), (3, .int x3), (7, .int ((x6 >>> ((2 * (((I 87 6) - 1) - (x1 - x1 / 10 * 10))) &&& 31)) &&& 3)), (0, .ref 87), (1, .int x1), (2, .int x2), (6, .int x6)]) dX12_lay_164 (by decide) rfl ?_
            refine h_iinc (v := (x2 + 1)) (L' := [(2, .int (x2 + 1)), (5, .int ((x6 >>> ((2 * (((I 87 6) - 1) - (x1 - x1 / 10 * 10))) &&& 31)) &&& 3)), (4, .int ((x6 >>> ((2 * (((I 87 6) - 1) - (x1 - x1 / 10 * 10))) &&& 31)) &&& 3)), (3, .int x3), (7, .int ((x6 >>> ((2 * (((I 87 6) - 1) - (x1 - x1 / 10 * 10))) &&& 31)) &&& 3)), (0, .ref 87), (1, .int x1), (6, .int x6)]) dX12_lay_166 6 rfl rfl (by decide) rfl ?_
            refine h_iinc (v := (x6 + 1)) (L' := [(6, .int (x6 + 1)), (2, .int (x2 + 1)), (5, .int ((x6 >>> ((2 * (((I 87 6) - 1) - (x1 - x1 / 10 * 10))) &&& 31)) &&& 3)), (4, .int ((x6 >>> ((2 * (((I 87 6) - 1) - (x1 - x1 / 10 * 10))) &&& 31)) &&& 3)), (3, .int x3), (7, .int ((x6 >>> ((2 * (((I 87 6) - 1) - (x1 - x1 / 10 * 10))) &&& 31)) &&& 3)), (0, .ref 87), (1, .int x1)]) dX12_lay_169 7 rfl rfl (by decide) rfl ?_
            refine h_goto (tgt := 75) dX12_lay_172 (by decide) ?_
            refine h_pick [6, 7, 1, 4, 3, 2, 0] [(0, .ref 87), (1, .int x1), (2, .int (x2 + 1)), (3, .int x3), (4, .int ((x6 >>> ((2 * (((I 87 6) - 1) - (x1 - x1 / 10 * 10))) &&& 31)) &&& 3)), (5, .int ((x6 >>> ((2 * (((I 87 6) - 1) - (x1 - x1 / 10 * 10))) &&& 31)) &&& 3)), (6, .int (x6 + 1))] rfl ?_
            exact k3 c1 c2 c3 c4 c5
        ·
          refine h_iload dX12_lay_134 1 rfl ?_
          refine h_iload dX12_lay_136 5 rfl ?_
          refine h_icmp_ge (tgt := 146) dX12_lay_138 (by decide) (fun c6 => ?_) (fun c6 => ?_)
          ·
            refine h_iload dX12_lay_146 5 rfl ?_
            refine h_istore (L' := [(4, .int x4), (3, .int x3), (7, .int ((x6 >>> ((2 * (((I 87 6) - 1) - (x1 - x1 / 10 * 10))) &&& 31)) &&& 3)), (0, .ref 87), (1, .int x1), (2, .int x2), (5, .int x5), (6, .int x6)]) dX12_lay_148 (by decide) rfl ?_
            refine h_iload dX12_lay_150 2 rfl ?_
            refine h_iload dX12_lay_152 6 rfl ?_
            refine h_icmp_le (tgt := 162) dX12_lay_154 (by decide) (fun c7 => ?_) (fun c7 => ?_)
            ·
              refine h_iload dX12_lay_162 6 rfl ?_
              refine h_istore (L' := [(5, .int x5), (4, .int x4), (3, .int x3), (7, .int ((x6 >>> ((2 * (((I 87 6) - 1) - (x1 - x1 / 10 * 10))) &&& 31)) &&& 3)), (0, .ref 87), (1, .int x1), (2, .int x2), (6, .int x6)]) dX12_lay_164 (by decide) rfl ?_
              refine h_iinc (v := (x2 + 1)) (L' := [(2, .int (x2 + 1)), (5, .int x5), (4, .int x4), (3, .int x3), (7, .int ((x6 >>> ((2 * (((I 87 6) - 1) - (x1 - x1 / 10 * 10))) &&& 31)) &&& 3)), (0, .ref 87), (1, .int x1), (6, .int x6)]) dX12_lay_166 6 rfl rfl (by decide) rfl ?_
              refine h_iinc (v := (x6 + 1)) (L' := [(6, .int (x6 + 1)), (2, .int (x2 + 1)), (5, .int x5), (4, .int x4), (3, .int x3), (7, .int ((x6 >>> ((2 * (((I 87 6) - 1) - (x1 - x1 / 10 * 10))) &&& 31)) &&& 3)), (0, .ref 87), (1, .int x1)]) dX12_lay_169 7 rfl rfl (by decide) rfl ?_
              refine h_goto (tgt := 75) dX12_lay_172 (by decide) ?_
              refine h_pick [6, 7, 1, 4, 3, 2, 0] [(0, .ref 87), (1, .int x1), (2, .int (x2 + 1)), (3, .int x3), (4, .int x4), (5, .int x5), (6, .int (x6 + 1))] rfl ?_
              exact k4 c1 c2 c3 c4 c6 c7
            ·
              refine h_iload dX12_lay_157 2 rfl ?_
              refine h_goto (tgt := 164) dX12_lay_159 (by decide) ?_
              refine h_istore (L' := [(5, .int ((x6 >>> ((2 * (((I 87 6) - 1) - (x1 - x1 / 10 * 10))) &&& 31)) &&& 3)), (4, .int x4), (3, .int x3), (7, .int ((x6 >>> ((2 * (((I 87 6) - 1) - (x1 - x1 / 10 * 10))) &&& 31)) &&& 3)), (0, .ref 87), (1, .int x1), (2, .int x2), (6, .int x6)]) dX12_lay_164 (by decide) rfl ?_
              refine h_iinc (v := (x2 + 1)) (L' := [(2, .int (x2 + 1)), (5, .int ((x6 >>> ((2 * (((I 87 6) - 1) - (x1 - x1 / 10 * 10))) &&& 31)) &&& 3)), (4, .int x4), (3, .int x3), (7, .int ((x6 >>> ((2 * (((I 87 6) - 1) - (x1 - x1 / 10 * 10))) &&& 31)) &&& 3)), (0, .ref 87), (1, .int x1), (6, .int x6)]) dX12_lay_166 6 rfl rfl (by decide) rfl ?_
              refine h_iinc (v := (x6 + 1)) (L' := [(6, .int (x6 + 1)), (2, .int (x2 + 1)), (5, .int ((x6 >>> ((2 * (((I 87 6) - 1) - (x1 - x1 / 10 * 10))) &&& 31)) &&& 3)), (4, .int x4), (3, .int x3), (7, .int ((x6 >>> ((2 * (((I 87 6) - 1) - (x1 - x1 / 10 * 10))) &&& 31)) &&& 3)), (0, .ref 87), (1, .int x1)]) dX12_lay_169 7 rfl rfl (by decide) rfl ?_
              refine h_goto (tgt := 75) dX12_lay_172 (by decide) ?_
              refine h_pick [6, 7, 1, 4, 3, 2, 0] [(0, .ref 87), (1, .int x1), (2, .int (x2 + 1)), (3, .int x3), (4, .int x4), (5, .int ((x6 >>> ((2 * (((I 87 6) - 1) - (x1 - x1 / 10 * 10))) &&& 31)) &&& 3)), (6, .int (x6 + 1))] rfl ?_
              exact k5 c1 c2 c3 c4 c6 c7
          ·
            refine h_iload dX12_lay_141 1 rfl ?_
            refine h_goto (tgt := 148) dX12_lay_143 (by decide) ?_
            refine h_istore (L' := [(4, .int ((x6 >>> ((2 * (((I 87 6) - 1) - (x1 - x1 / 10 * 10))) &&& 31)) &&& 3)), (3, .int x3), (7, .int ((x6 >>> ((2 * (((I 87 6) - 1) - (x1 - x1 / 10 * 10))) &&& 31)) &&& 3)), (0, .ref 87), (1, .int x1), (2, .int x2), (5, .int x5), (6, .int x6)]) dX12_lay_148 (by decide) rfl ?_
            refine h_iload dX12_lay_150 2 rfl ?_
            refine h_iload dX12_lay_152 6 rfl ?_
            refine h_icmp_le (tgt := 162) dX12_lay_154 (by decide) (fun c8 => ?_) (fun c8 => ?_)
            ·
              refine h_iload dX12_lay_162 6 rfl ?_
              refine h_istore (L' := [(5, .int x5), (4, .int ((x6 >>> ((2 * (((I 87 6) - 1) - (x1 - x1 / 10 * 10))) &&& 31)) &&& 3)), (3, .int x3), (7, .int ((x6 >>> ((2 * (((I 87 6) - 1) - (x1 - x1 / 10 * 10))) &&& 31)) &&& 3)), (0, .ref 87), (1, .int x1), (2, .int x2), (6, .int x6)]) dX12_lay_164 (by decide) rfl ?_
              refine h_iinc (v := (x2 + 1)) (L' := [(2, .int (x2 + 1)), (5, .int x5), (4, .int ((x6 >>> ((2 * (((I 87 6) - 1) - (x1 - x1 / 10 * 10))) &&& 31)) &&& 3)), (3, .int x3), (7, .int ((x6 >>> ((2 * (((I 87 6) - 1) - (x1 - x1 / 10 * 10))) &&& 31)) &&& 3)), (0, .ref 87), (1, .int x1), (6, .int x6)]) dX12_lay_166 6 rfl rfl (by decide) rfl ?_
              refine h_iinc (v := (x6 + 1)) (L' := [(6, .int (x6 + 1)), (2, .int (x2 + 1)), (5, .int x5), (4, .int ((x6 >>> ((2 * (((I 87 6) - 1) - (x1 - x1 / 10 * 10))) &&& 31)) &&& 3)), (3, .int x3), (7, .int ((x6 >>> ((2 * (((I 87 6) - 1) - (x1 - x1 / 10 * 10))) &&& 31)) &&& 3)), (0, .ref 87), (1, .int x1)]) dX12_lay_169 7 rfl rfl (by decide) rfl ?_
              refine h_goto (tgt := 75) dX12_lay_172 (by decide) ?_
              refine h_pick [6, 7, 1, 4, 3, 2, 0] [(0, .ref 87), (1, .int x1), (2, .int (x2 + 1)), (3, .int x3), (4, .int ((x6 >>> ((2 * (((I 87 6) - 1) - (x1 - x1 / 10 * 10))) &&& 31)) &&& 3)), (5, .int x5), (6, .int (x6 + 1))] rfl ?_
              exact k6 c1 c2 c3 c4 c6 c8
            ·
              refine h_iload dX12_lay_157 2 rfl ?_
              refine h_goto (tgt := 164) dX12_lay_159 (by decide) ?_
              refine h_istore (L' := [(5, .int ((x6 >>> ((2 * (((I 87 6) - 1) - (x1 - x1 / 10 * 10))) &&& 31)) &&& 3)), (4, .int ((x6 >>> ((2 * (((I 87 6) - 1) - (x1 - x1 / 10 * 10))) &&& 31)) &&& 3)), (3, .int x3), (7, .int ((x6 >>> ((2 * (((I 87 6) - 1) - (x1 - x1 / 10 * 10))) &&& 31)) &&& 3)), (0, .ref 87), (1, .int x1), (2, .int x2), (6, .int x6)]) dX12_lay_164 (by decide) rfl ?_
              refine h_iinc (v := (x2 + 1)) (L' := [(2, .int (x2 + 1)), (5, .int ((x6 >>> ((2 * (((I 87 6) - 1) - (x1 - x1 / 10 * 10))) &&& 31)) &&& 3)), (4, .int ((x6 >>> ((2 * (((I 87 6) - 1) - (x1 - x1 / 10 * 10))) &&& 31)) &&& 3)), (3, .int x3), (7, .int ((x6 >>> ((2 * (((I 87 6) - 1) - (x1 - x1 / 10 * 10))) &&& 31)) &&& 3)), (0, .ref 87), (1, .int x1), (6, .int x6)]) dX12_lay_166 6 rfl rfl (by decide) rfl ?_
              refine h_iinc (v := (x6 + 1)) (L' := [(6, .int (x6 + 1)), (2, .int (x2 + 1)), (5, .int ((x6 >>> ((2 * (((I 87 6) - 1) - (x1 - x1 / 10 * 10))) &&& 31)) &&& 3)), (4, .int ((x6 >>> ((2 * (((I 87 6) - 1) - (x1 - x1 / 10 * 10))) &&& 31)) &&& 3)), (3, .int x3), (7, .int ((x6 >>> ((2 * (((I 87 6) - 1) - (x1 - x1 / 10 * 10))) &&& 31)) &&& 3)), (0, .ref 87), (1, .int x1)]) dX12_lay_169 7 rfl rfl (by decide) rfl ?_
              refine h_goto (tgt := 75) dX12_lay_172 (by decide) ?_
              refine h_pick [6, 7, 1, 4, 3, 2, 0] [(0, .ref 87), (1, .int x1), (2, .int (x2 + 1)), (3, .int x3), (4, .int ((x6 >>> ((2 * (((I 87 6) - 1) - (x1 - x1 / 10 * 10))) &&& 31)) &&& 3)), (5, .int ((x6 >>> ((2 * (((I 87 6) - 1) - (x1 - x1 / 10 * 10))) &&& 31)) &&& 3)), (6, .int (x6 + 1))] rfl ?_
              exact k7 c1 c2 c3 c4 c6 c8
      ·
        refine h_iload dX12_lay_123 7 rfl ?_
        refine h_goto (tgt := 129) dX12_lay_125 (by decide) ?_
        refine h_istore_n (L' := [(3, .int x6), (7, .int ((x6 >>> ((2 * (((I 87 6) - 1) - (x1 - x1 / 10 * 10))) &&& 31)) &&& 3)), (0, .ref 87), (1, .int x1), (2, .int x2), (4, .int x4), (5, .int x5), (6, .int x6)]) dX12_lay_129 rfl (by decide) rfl ?_
        refine h_iload_n dX12_lay_130 rfl 4 rfl ?_
        refine h_if_eq (tgt := 141) dX12_lay_131 (by decide) (fun c9 => ?_) (fun c9 => ?_)
        ·
          refine h_iload dX12_lay_141 1 rfl ?_
          refine h_goto (tgt := 148) dX12_lay_143 (by decide) ?_
          refine h_istore (L' := [(4, .int ((x6 >>> ((2 * (((I 87 6) - 1) - (x1 - x1 / 10 * 10))) &&& 31)) &&& 3)), (3, .int x6), (7, .int ((x6 >>> ((2 * (((I 87 6) - 1) - (x1 - x1 / 10 * 10))) &&& 31)) &&& 3)), (0, .ref 87), (1, .int x1), (2, .int x2), (5, .int x5), (6, .int x6)]) dX12_lay_148 (by decide) rfl ?_
          refine h_iload dX12_lay_150 2 rfl ?_
          refine h_iload dX12_lay_152 6 rfl ?_
          refine h_icmp_le (tgt := 162) dX12_lay_154 (by decide) (fun c10 => ?_) (fun c10 => ?_)
          ·
            refine h_iload dX12_lay_162 6 rfl ?_
            refine h_istore (L' := [(5, .int x5), (4, .int ((x6 >>> ((2 * (((I 87 6) - 1) - (x1 - x1 / 10 * 10))) &&& 31)) &&& 3)), (3, .int x6), (7, .int ((x6 >>> ((2 * (((I 87 6) - 1) - (x1 - x1 / 10 * 10))) &&& 31)) &&& 3)), (0, .ref 87), (1, .int x1), (2, .int x2), (6, .int x6)]) dX12_lay_164 (by decide) rfl ?_
            refine h_iinc (v := (x2 + 1)) (L' := [(2, .int (x2 + 1)), (5, .int x5), (4, .int ((x6 >>> ((2 * (((I 87 6) - 1) - (x1 - x1 / 10 * 10))) &&& 31)) &&& 3)), (3, .int x6), (7, .int ((x6 >>> ((2 * (((I 87 6) - 1) - (x1 - x1 / 10 * 10))) &&& 31)) &&& 3)), (0, .ref 87), (1, .int x1), (6, .int x6)]) dX12_lay_166 6 rfl rfl (by decide) rfl ?_
            refine h_iinc (v := (x6 + 1)) (L' := [(6, .int (x6 + 1)), (2, .int (x2 + 1)), (5, .int x5), (4, .int ((x6 >>> ((2 * (((I 87 6) - 1) - (x1 - x1 / 10 * 10))) &&& 31)) &&& 3)), (3, .int x6), (7, .int ((x6 >>> ((2 * (((I 87 6) - 1) - (x1 - x1 / 10 * 10))) &&& 31)) &&& 3)), (0, .ref 87), (1, .int x1)]) dX12_lay_169 7 rfl rfl (by decide) rfl ?_
            refine h_goto (tgt := 75) dX12_lay_172 (by decide) ?_
            refine h_pick [6, 7, 1, 4, 3, 2, 0] [(0, .ref 87), (1, .int x1), (2, .int (x2 + 1)), (3, .int x6), (4, .int ((x6 >>> ((2 * (((I 87 6) - 1) - (x1 - x1 / 10 * 10))) &&& 31)) &&& 3)), (5, .int x5), (6, .int (x6 + 1))] rfl ?_
            exact k8 c1 c2 c3 c9 c10
          ·
            refine h_iload dX12_lay_157 2 rfl ?_
            refine h_goto (tgt := 164) dX12_lay_159 (by decide) ?_
            refine h_istore (L' := [(5, .int ((x6 >>> ((2 * (((I 87 6) - 1) - (x1 - x1 / 10 * 10))) &&& 31)) &&& 3)), (4, .int ((x6 >>> ((2 * (((I 87 6) - 1) - (x1 - x1 / 10 * 10))) &&& 31)) &&& 3)), (3, .int x6), (7, .int ((x6 >>> ((2 * (((I 87 6) - 1) - (x1 - x1 / 10 * 10))) &&& 31)) &&& 3)), (0, .ref 87), (1, .int x1), (2, .int x2), (6, .int x6)]) dX12_lay_164 (by decide) rfl ?_
            refine h_iinc (v := (x2 + 1)) (L' := [(2, .int (x2 + 1)), (5, .int ((x6 >>> ((2 * (((I 87 6) - 1) - (x1 - x1 / 10 * 10))) &&& 31)) &&& 3)), (4, .int ((x6 >>> ((2 * (((I 87 6) - 1) - (x1 - x1 / 10 * 10))) &&& 31)) &&& 3)), (3, .int x6), (7, .int ((x6 >>> ((2 * (((I 87 6) - 1) - (x1 - x1 / 10 * 10))) &&& 31)) &&& 3)), (0, .ref 87), (1, .int x1), (6, .int x6)]) dX12_lay_166 6 rfl rfl (by decide) rfl ?_
            refine h_iinc (v := (x6 + 1)) (L' := [(6, .int (x6 + 1)), (2, .int (x2 + 1)), (5, .int ((x6 >>> ((2 * (((I 87 6) - 1) - (x1 - x1 / 10 * 10))) &&& 31)) &&& 3)), (4, .int ((x6 >>> ((2 * (((I 87 6) - 1) - (x1 - x1 / 10 * 10))) &&& 31)) &&& 3)), (3, .int x6), (7, .int ((x6 >>> ((2 * (((I 87 6) - 1) - (x1 - x1 / 10 * 10))) &&& 31)) &&& 3)), (0, .ref 87), (1, .int x1)]) dX12_lay_169 7 rfl rfl (by decide) rfl ?_
            refine h_goto (tgt := 75) dX12_lay_172 (by decide) ?_
            refine h_pick [6, 7, 1, 4, 3, 2, 0] [(0, .ref 87), (1, .int x1), (2, .int (x2 + 1)), (3, .int x6), (4, .int ((x6 >>> ((2 * (((I 87 6) - 1) - (x1 - x1 / 10 * 10))) &&& 31)) &&& 3)), (5, .int ((x6 >>> ((2 * (((I 87 6) - 1) - (x1 - x1 / 10 * 10))) &&& 31)) &&& 3)), (6, .int (x6 + 1))] rfl ?_
            exact k9 c1 c2 c3 c9 c10
        ·
          refine h_iload dX12_lay_134 1 rfl ?_
          refine h_iload dX12_lay_136 5 rfl ?_
          refine h_icmp_ge (tgt := 146) dX12_lay_138 (by decide) (fun c11 => ?_) (fun c11 => ?_)
          ·
            refine h_iload dX12_lay_146 5 rfl ?_
            refine h_istore (L' := [(4, .int x4), (3, .int x6), (7, .int ((x6 >>> ((2 * (((I 87 6) - 1) - (x1 - x1 / 10 * 10))) &&& 31)) &&& 3)), (0, .ref 87), (1, .int x1), (2, .int x2), (5, .int x5), (6, .int x6)]) dX12_lay_148 (by decide) rfl ?_
            refine h_iload dX12_lay_150 2 rfl ?_
            refine h_iload dX12_lay_152 6 rfl ?_
            refine h_icmp_le (tgt := 162) dX12_lay_154 (by decide) (fun c12 => ?_) (fun c12 => ?_)
            ·
              refine h_iload dX12_lay_162 6 rfl ?_
              refine h_istore (L' := [(5, .int x5), (4, .int x4), (3, .int x6), (7, .int ((x6 >>> ((2 * (((I 87 6) - 1) - (x1 - x1 / 10 * 10))) &&& 31)) &&& 3)), (0, .ref 87), (1, .int x1), (2, .int x2), (6, .int x6)]) dX12_lay_164 (by decide) rfl ?_
              refine h_iinc (v := (x2 + 1)) (L' := [(2, .int (x2 + 1)), (5, .int x5), (4, .int x4), (3, .int x6), (7, .int ((x6 >>> ((2 * (((I 87 6) - 1) - (x1 - x1 / 10 * 10))) &&& 31)) &&& 3)), (0, .ref 87), (1, .int x1), (6, .int x6)]) dX12_lay_166 6 rfl rfl (by decide) rfl ?_
              refine h_iinc (v := (x6 + 1)) (L' := [(6, .int (x6 + 1)), (2, .int (x2 + 1)), (5, .int x5), (4, .int x4), (3, .int x6), (7, .int ((x6 >>> ((2 * (((I 87 6) - 1) - (x1 - x1 / 10 * 10))) &&& 31)) &&& 3)), (0, .ref 87), (1, .int x1)]) dX12_lay_169 7 rfl rfl (by decide) rfl ?_
              refine h_goto (tgt := 75) dX12_lay_172 (by decide) ?_
              refine h_pick [6, 7, 1, 4, 3, 2, 0] [(0, .ref 87), (1, .int x1), (2, .int (x2 + 1)), (3, .int x6), (4, .int x4), (5, .int x5), (6, .int (x6 + 1))] rfl ?_
              exact k10 c1 c2 c3 c9 c11 c12
            ·
              refine h_iload dX12_lay_157 2 rfl ?_
              refine h_goto (tgt := 164) dX12_lay_159 (by decide) ?_
              refine h_istore (L' := [(5, .int ((x6 >>> ((2 * (((I 87 6) - 1) - (x1 - x1 / 10 * 10))) &&& 31)) &&& 3)), (4, .int x4), (3, .int x6), (7, .int ((x6 >>> ((2 * (((I 87 6) - 1) - (x1 - x1 / 10 * 10))) &&& 31)) &&& 3)), (0, .ref 87), (1, .int x1), (2, .int x2), (6, .int x6)]) dX12_lay_164 (by decide) rfl ?_
              refine h_iinc (v := (x2 + 1)) (L' := [(2, .int (x2 + 1)), (5, .int ((x6 >>> ((2 * (((I 87 6) - 1) - (x1 - x1 / 10 * 10))) &&& 31)) &&& 3)), (4, .int x4), (3, .int x6), (7, .int ((x6 >>> ((2 * (((I 87 6) - 1) - (x1 - x1 / 10 * 10))) &&& 31)) &&& 3)), (0, .ref 87), (1, .int x1), (6, .int x6)]) dX12_lay_166 6 rfl rfl (by decide) rfl ?_
              refine h_iinc (v := (x6 + 1)) (L' := [(6, .int (x6 + 1)), (2, .int (x2 + 1)), (5, .int ((x6 >>> ((2 * (((I 87 6) - 1) - (x1 - x1 / 10 * 10))) &&& 31)) &&& 3)), (4, .int x4), (3, .int x6), (7, .int ((x6 >>> ((2 * (((I 87 6) - 1) - (x1 - x1 / 10 * 10))) &&& 31)) &&& 3)), (0, .ref 87), (1, .int x1)]) dX12_lay_169 7 rfl rfl (by decide) rfl ?_
              refine h_goto (tgt := 75) dX12_lay_172 (by decide) ?_
              refine h_pick [6, 7, 1, 4, 3, 2, 0] [(0, .ref 87), (1, .int x1), (2, .int (x2 + 1)), (3, .int x6), (4, .int x4), (5, .int ((x6 >>> ((2 * (((I 87 6) - 1) - (x1 - x1 / 10 * 10))) &&& 31)) &&& 3)), (6, .int (x6 + 1))] rfl ?_
              exact k11 c1 c2 c3 c9 c11 c12
          ·
            refine h_iload dX12_lay_141 1 rfl ?_
            refine h_goto (tgt := 148) dX12_lay_143 (by decide) ?_
            refine h_istore (L' := [(4, .int ((x6 >>> ((2 * (((I 87 6) - 1) - (x1 - x1 / 10 * 10))) &&& 31)) &&& 3)), (3, .int x6), (7, .int ((x6 >>> ((2 * (((I 87 6) - 1) - (x1 - x1 / 10 * 10))) &&& 31)) &&& 3)), (0, .ref 87), (1, .int x1), (2, .int x2), (5, .int x5), (6, .int x6)]) dX12_lay_148 (by decide) rfl ?_
            refine h_iload dX12_lay_150 2 rfl ?_
            refine h_iload dX12_lay_152 6 rfl ?_
            refine h_icmp_le (tgt := 162) dX12_lay_154 (by decide) (fun c13 => ?_) (fun c13 => ?_)
            ·
              refine h_iload dX12_lay_162 6 rfl ?_
              refine h_istore (L' := [(5, .int x5), (4, .int ((x6 >>> ((2 * (((I 87 6) - 1) - (x1 - x1 / 10 * 10))) &&& 31)) &&& 3)), (3, .int x6), (7, .int ((x6 >>> ((2 * (((I 87 6) - 1) - (x1 - x1 / 10 * 10))) &&& 31)) &&& 3)), (0, .ref 87), (1, .int x1), (2, .int x2), (6, .int x6)]) dX12_lay_164 (by decide) rfl ?_
              refine h_iinc (v := (x2 + 1)) (L' := [(2, .int (x2 + 1)), (5, .int x5), (4, .int ((x6 >>> ((2 * (((I 87 6) - 1) - (x1 - x1 / 10 * 10))) &&& 31)) &&& 3)), (3, .int x6), (7, .int ((x6 >>> ((2 * (((I 87 6) - 1) - (x1 - x1 / 10 * 10))) &&& 31)) &&& 3)), (0, .ref 87), (1, .int x1), (6, .int x6)]) dX12_lay_166 6 rfl rfl (by decide) rfl ?_
              refine h_iinc (v := (x6 + 1)) (L' := [(6, .int (x6 + 1)), (2, .int (x2 + 1)), (5, .int x5), (4, .int ((x6 >>> ((2 * (((I 87 6) - 1) - (x1 - x1 / 10 * 10))) &&& 31)) &&& 3)), (3, .int x6), (7, .int ((x6 >>> ((2 * (((I 87 6) - 1) - (x1 - x1 / 10 * 10))) &&& 31)) &&& 3)), (0, .ref 87), (1, .int x1)]) dX12_lay_169 7 rfl rfl (by decide) rfl ?_
              refine h_goto (tgt := 75) dX12_lay_172 (by decide) ?_
              refine h_pick [6, 7, 1, 4, 3, 2, 0] [(0, .ref 87), (1, .int x1), (2, .int (x2 + 1)), (3, .int x6), (4, .int ((x6 >>> ((2 * (((I 87 6) - 1) - (x1 - x1 / 10 * 10))) &&& 31)) &&& 3)), (5, .int x5), (6, .int (x6 + 1))] rfl ?_
              exact k12 c1 c2 c3 c9 c11 c13
            ·
              refine h_iload dX12_lay_157 2 rfl ?_
              refine h_goto (tgt := 164) dX12_lay_159 (by decide) ?_
              refine h_istore (L' := [(5, .int ((x6 >>> ((2 * (((I 87 6) - 1) - (x1 - x1 / 10 * 10))) &&& 31)) &&& 3)), (4, .int ((x6 >>> ((2 * (((I 87 6) - 1) - (x1 - x1 / 10 * 10))) &&& 31)) &&& 3)), (3, .int x6), (7, .int ((x6 >>> ((2 * (((I 87 6) - 1) - (x1 - x1 / 10 * 10))) &&& 31)) &&& 3)), (0, .ref 87), (1, .int x1), (2, .int x2), (6, .int x6)]) dX12_lay_164 (by decide) rfl ?_
              refine h_iinc (v := (x2 + 1)) (L' := [(2, .int (x2 + 1)), (5, .int ((x6 >>> ((2 * (((I 87 6) - 1) - (x1 - x1 / 10 * 10))) &&& 31)) &&& 3)), (4, .int ((x6 >>> ((2 * (((I 87 6) - 1) - (x1 - x1 / 10 * 10))) &&& 31)) &&& 3)), (3, .int x6), (7, .int ((x6 >>> ((2 * (((I 87 6) - 1) - (x1 - x1 / 10 * 10))) &&& 31)) &&& 3)), (0, .ref 87), (1, .int x1), (6, .int x6)]) dX12_lay_166 6 rfl rfl (by decide) rfl ?_
              refine h_iinc (v := (x6 + 1)) (L' := [(6, .int (x6 + 1)), (2, .int (x2 + 1)), (5, .int ((x6 >>> ((2 * (((I 87 6) - 1) - (x1 - x1 / 10 * 10))) &&& 31)) &&& 3)), (4, .int ((x6 >>> ((2 * (((I 87 6) - 1) - (x1 - x1 / 10 * 10))) &&& 31)) &&& 3)), (3, .int x6), (7, .int ((x6 >>> ((2 * (((I 87 6) - 1) - (x1 - x1 / 10 * 10))) &&& 31)) &&& 3)), (0, .ref 87), (1, .int x1)]) dX12_lay_169 7 rfl rfl (by decide) rfl ?_
              refine h_goto (tgt := 75) dX12_lay_172 (by decide) ?_
              refine h_pick [6, 7, 1, 4, 3, 2, 0] [(0, .ref 87), (1, .int x1), (2, .int (x2 + 1)), (3, .int x6), (4, .int ((x6 >>> ((2 * (((I 87 6) - 1) - (x1 - x1 / 10 * 10))) &&& 31)) &&& 3)), (5, .int ((x6 >>> ((2 * (((I 87 6) - 1) - (x1 - x1 / 10 * 10))) &&& 31)) &&& 3)), (6, .int (x6 + 1))] rfl ?_
              exact k13 c1 c2 c3 c9 c11 c13
    ·
      refine h_iconst (v := 0) dX12_lay_103 (by decide) ?_
      refine h_goto (tgt := 117) dX12_lay_104 (by decide) ?_
      refine h_istore (L' := [(7, .int 0), (0, .ref 87), (1, .int x1), (2, .int x2), (3, .int x3), (4, .int x4), (5, .int x5), (6, .int x6)]) dX12_lay_117 (by decide) rfl ?_
      refine h_iload_n dX12_lay_119 rfl 3 rfl ?_
      refine h_if_ne (tgt := 128) dX12_lay_120 (by decide) (fun c14 => ?_) (fun c14 => ?_)
      ·
        refine h_iload_n dX12_lay_128 rfl 4 rfl ?_
        refine h_istore_n (L' := [(3, .int x3), (7, .int 0), (0, .ref 87), (1, .int x1), (2, .int x2), (4, .int x4), (5, .int x5), (6, .int x6)]) dX12_lay_129 rfl (by decide) rfl ?_
        refine h_iload_n dX12_lay_130 rfl 4 rfl ?_
        refine h_if_eq (tgt := 141) dX12_lay_131 (by decide) (fun c15 => ?_) (fun c15 => ?_)
        ·
          refine h_iload dX12_lay_141 1 rfl ?_
          refine h_goto (tgt := 148) dX12_lay_143 (by decide) ?_
          refine h_istore (L' := [(4, .int 0), (3, .int x3), (7, .int 0), (0, .ref 87), (1, .int x1), (2, .int x2), (5, .int x5), (6, .int x6)]) dX12_lay_148 (by decide) rfl ?_
          refine h_iload dX12_lay_150 2 rfl ?_
          refine h_iload dX12_lay_152 6 rfl ?_
          refine h_icmp_le (tgt := 162) dX12_lay_154 (by decide) (fun c16 => ?_) (fun c16 => ?_)
          ·
            refine h_iload dX12_lay_162 6 rfl ?_
            refine h_istore (L' := [(5, .int x5), (4, .int 0), (3, .int x3), (7, .int 0), (0, .ref 87), (1, .int x1), (2, .int x2), (6, .int x6)]) dX12_lay_164 (by decide) rfl ?_
            refine h_iinc (v := (x2 + 1)) (L' := [(2, .int (x2 + 1)), (5, .int x5), (4, .int 0), (3, .int x3), (7, .int 0), (0, .ref 87), (1, .int x1), (6, .int x6)]) dX12_lay_166 6 rfl rfl (by decide) rfl ?_
            refine h_iinc (v := (x6 + 1)) (L' := [(6, .int (x6 + 1)), (2, .int (x2 + 1)), (5, .int x5), (4, .int 0), (3, .int x3), (7, .int 0), (0, .ref 87), (1, .int x1)]) dX12_lay_169 7 rfl rfl (by decide) rfl ?_
            refine h_goto (tgt := 75) dX12_lay_172 (by decide) ?_
            refine h_pick [6, 7, 1, 4, 3, 2, 0] [(0, .ref 87), (1, .int x1), (2, .int (x2 + 1)), (3, .int x3), (4, .int 0), (5, .int x5), (6, .int (x6 + 1))] rfl ?_
            exact k14 c1 c2 c14 c15 c16
          ·
            refine h_iload dX12_lay_157 2 rfl ?_
            refine h_goto (tgt := 164) dX12_lay_159 (by decide) ?_
            refine h_istore (L' := [(5, .int 0), (4, .int 0), (3, .int x3), (7, .int 0), (0, .ref 87), (1, .int x1), (2, .int x2), (6, .int x6)]) dX12_lay_164 (by decide) rfl ?_
            refine h_iinc (v := (x2 + 1)) (L' := [(2, .int (x2 + 1)), (5, .int 0), (4, .int 0), (3, .int x3), (7, .int 0), (0, .ref 87), (1, .int x1), (6, .int x6)]) dX12_lay_166 6 rfl rfl (by decide) rfl ?_
            refine h_iinc (v := (x6 + 1)) (L' := [(6, .int (x6 + 1)), (2, .int (x2 + 1)), (5, .int 0), (4, .int 0), (3, .int x3), (7, .int 0), (0, .ref 87), (1, .int x1)]) dX12_lay_169 7 rfl rfl (by decide) rfl ?_
            refine h_goto (tgt := 75) dX12_lay_172 (by decide) ?_
            refine h_pick [6, 7, 1, 4, 3, 2, 0] [(0, .ref 87), (1, .int x1), (2, .int (x2 + 1)), (3, .int x3), (4, .int 0), (5, .int 0), (6, .int (x6 + 1))] rfl ?_
            exact k15 c1 c2 c14 c15 c16
        ·
          refine h_iload dX12_lay_134 1 rfl ?_
          refine h_iload dX12_lay_136 5 rfl ?_
          refine h_icmp_ge (tgt := 146) dX12_lay_138 (by decide) (fun c17 => ?_) (fun c17 => ?_)
          ·
            refine h_iload dX12_lay_146 5 rfl ?_
            refine h_istore (L' := [(4, .int x4), (3, .int x3), (7, .int 0), (0, .ref 87), (1, .int x1), (2, .int x2), (5, .int x5), (6, .int x6)]) dX12_lay_148 (by decide) rfl ?_
            refine h_iload dX12_lay_150 2 rfl ?_
            refine h_iload dX12_lay_152 6 rfl ?_
            refine h_icmp_le (tgt := 162) dX12_lay_154 (by decide) (fun c18 => ?_) (fun c18 => ?_)
            ·
              refine h_iload dX12_lay_162 6 rfl ?_
              refine h_istore (L' := [(5, .int x5), (4, .int x4), (3, .int x3), (7, .int 0), (0, .ref 87), (1, .int x1), (2, .int x2), (6, .int x6)]) dX12_lay_164 (by decide) rfl ?_
              refine h_iinc (v := (x2 + 1)) (L' := [(2, .int (x2 + 1)), (5, .int x5), (4, .int x4), (3, .int x3), (7, .int 0), (0, .ref 87), (1, .int x1), (6, .int x6)]) dX12_lay_166 6 rfl rfl (by decide) rfl ?_
              refine h_iinc (v := (x6 + 1)) (L' := [(6, .int (x6 + 1)), (2, .int (x2 + 1)), (5, .int x5), (4, .int x4), (3, .int x3), (7, .int 0), (0, .ref 87), (1, .int x1)]) dX12_lay_169 7 rfl rfl (by decide) rfl ?_
              refine h_goto (tgt := 75) dX12_lay_172 (by decide) ?_
              refine h_pick [6, 7, 1, 4, 3, 2, 0] [(0, .ref 87), (1, .int x1), (2, .int (x2 + 1)), (3, .int x3), (4, .int x4), (5, .int x5), (6, .int (x6 + 1))] rfl ?_
              exact k16 c1 c2 c14 c15 c17 c18
            ·
              refine h_iload dX12_lay_157 2 rfl ?_
              refine h_goto (tgt := 164) dX12_lay_159 (by decide) ?_
              refine h_istore (L' := [(5, .int 0), (4, .int x4), (3, .int x3), (7, .int 0), (0, .ref 87), (1, .int x1), (2, .int x2), (6, .int x6)]) dX12_lay_164 (by decide) rfl ?_
              refine h_iinc (v := (x2 + 1)) (L' := [(2, .int (x2 + 1)), (5, .int 0), (4, .int x4), (3, .int x3), (7, .int 0), (0, .ref 87), (1, .int x1), (6, .int x6)]) dX12_lay_166 6 rfl rfl (by decide) rfl ?_
              refine h_iinc (v := (x6 + 1)) (L' := [(6, .int (x6 + 1)), (2, .int (x2 + 1)), (5, .int 0), (4, .int x4), (3, .int x3), (7, .int 0), (0, .ref 87), (1, .int x1)]) dX12_lay_169 7 rfl rfl (by decide) rfl ?_
              refine h_goto (tgt := 75) dX12_lay_172 (by decide) ?_
              refine h_pick [6, 7, 1, 4, 3, 2, 0] [(0, .ref 87), (1, .int x1), (2, .int (x2 + 1)), (3, .int x3), (4, .int x4), (5, .int 0), (6, .int (x6 + 1))] rfl ?_
              exact k17 c1 c2 c14 c15 c17 c18
          ·
            refine h_iload dX12_lay_141 1 rfl ?_
            refine h_goto (tgt := 148) dX12_lay_143 (by decide) ?_
            refine h_istore (L' := [(4, .int 0), (3, .int x3), (7, .int 0), (0, .ref 87), (1, .int x1), (2, .int x2), (5, .int x5), (6, .int x6)]) dX12_lay_148 (by decide) rfl ?_
            refine h_iload dX12_lay_150 2 rfl ?_
            refine h_iload dX12_lay_152 6 rfl ?_
            refine h_icmp_le (tgt := 162) dX12_lay_154 (by decide) (fun c19 => ?_) (fun c19 => ?_)
            ·
              refine h_iload dX12_lay_162 6 rfl ?_
              refine h_istore (L' := [(5, .int x5), (4, .int 0), (3, .int x3), (7, .int 0), (0, .ref 87), (1, .int x1), (2, .int x2), (6, .int x6)]) dX12_lay_164 (by decide) rfl ?_
              refine h_iinc (v := (x2 + 1)) (L' := [(2, .int (x2 + 1)), (5, .int x5), (4, .int 0), (3, .int x3), (7, .int 0), (0, .ref 87), (1, .int x1), (6, .int x6)]) dX12_lay_166 6 rfl rfl (by decide) rfl ?_
              refine h_iinc (v := (x6 + 1)) (L' := [(6, .int (x6 + 1)), (2, .int (x2 + 1)), (5, .int x5), (4, .int 0), (3, .int x3), (7, .int 0), (0, .ref 87), (1, .int x1)]) dX12_lay_169 7 rfl rfl (by decide) rfl ?_
              refine h_goto (tgt := 75) dX12_lay_172 (by decide) ?_
              refine h_pick [6, 7, 1, 4, 3, 2, 0] [(0, .ref 87), (1, .int x1), (2, .int (x2 + 1)), (3, .int x3), (4, .int 0), (5, .int x5), (6, .int (x6 + 1))] rfl ?_
              exact k18 c1 c2 c14 c15 c17 c19
            ·
              refine h_iload dX12_lay_157 2 rfl ?_
              refine h_goto (tgt := 164) dX12_lay_159 (by decide) ?_
              refine h_istore (L' := [(5, .int 0), (4, .int 0), (3, .int x3), (7, .int 0), (0, .ref 87), (1, .int x1), (2, .int x2), (6, .int x6)]) dX12_lay_164 (by decide) rfl ?_
              refine h_iinc (v := (x2 + 1)) (L' := [(2, .int (x2 + 1)), (5, .int 0), (4, .int 0), (3, .int x3), (7, .int 0), (0, .ref 87), (1, .int x1), (6, .int x6)]) dX12_lay_166 6 rfl rfl (by decide) rfl ?_
              refine h_iinc (v := (x6 + 1)) (L' := [(6, .int (x6 + 1)), (2, .int (x2 + 1)), (5, .int 0), (4, .int 0), (3, .int x3), (7, .int 0), (0, .ref 87), (1, .int x1)]) dX12_lay_169 7 rfl rfl (by decide) rfl ?_
              refine h_goto (tgt := 75) dX12_lay_172 (by decide) ?_
              refine h_pick [6, 7, 1, 4, 3, 2, 0] [(0, .ref 87), (1, .int x1), (2, .int (x2 + 1)), (3, .int x3), (4, .int 0), (5, .int 0), (6, .int (x6 + 1))] rfl ?_
              exact k19 c1 c2 c14 c15 c17 c19
      ·
        refine h_iload dX12_lay_123 7 rfl ?_
        refine h_goto (tgt := 129) dX12_lay_125 (by decide) ?_
        refine h_istore_n (L' := [(3, .int x6), (7, .int 0), (0, .ref 87), (1, .int x1), (2, .int x2), (4, .int x4), (5, .int x5), (6, .int x6)]) dX12_lay_129 rfl (by decide) rfl ?_
        refine h_iload_n dX12_lay_130 rfl 4 rfl ?_
        refine h_if_eq (tgt := 141) dX12_lay_131 (by decide) (fun c20 => ?_) (fun c20 => ?_)
        ·
          refine h_iload dX12_lay_141 1 rfl ?_
          refine h_goto (tgt := 148) dX12_lay_143 (by decide) ?_
          refine h_istore (L' := [(4, .int 0), (3, .int x6), (7, .int 0), (0, .ref 87), (1, .int x1), (2, .int x2), (5, .int x5), (6, .int x6)]) dX12_lay_148 (by decide) rfl ?_
          refine h_iload dX12_lay_150 2 rfl ?_
          refine h_iload dX12_lay_152 6 rfl ?_
          refine h_icmp_le (tgt := 162) dX12_lay_154 (by decide) (fun c21 => ?_) (fun c21 => ?_)
          ·
            refine h_iload dX12_lay_162 6 rfl ?_
            refine h_istore (L' := [(5, .int x5), (4, .int 0), (3, .int x6), (7, .int 0), (0, .ref 87), (1, .int x1), (2, .int x2), (6, .int x6)]) dX12_lay_164 (by decide) rfl ?_
            refine h_iinc (v := (x2 + 1)) (L' := [(2, .int (x2 + 1)), (5, .int x5), (4, .int 0), (3, .int x6), (7, .int 0), (0, .ref 87), (1, .int x1), (6, .int x6)]) dX12_lay_166 6 rfl rfl (by decide) rfl ?_
            refine h_iinc (v := (x6 + 1)) (L' := [(6, .int (x6 + 1)), (2, .int (x2 + 1)), (5, .int x5), (4, .int 0), (3, .int x6), (7, .int 0), (0, .ref 87), (1, .int x1)]) dX12_lay_169 7 rfl rfl (by decide) rfl ?_
            refine h_goto (tgt := 75) dX12_lay_172 (by decide) ?_
            refine h_pick [6, 7, 1, 4, 3, 2, 0] [(0, .ref 87), (1, .int x1), (2, .int (x2 + 1)), (3, .int x6), (4, .int 0), (5, .int x5), (6, .int (x6 + 1))] rfl ?_
            exact k20 c1 c2 c14 c20 c21
          ·
            refine h_iload dX12_lay_157 2 rfl ?_
            refine h_goto (tgt := 164) dX12_lay_159 (by decide) ?_
            refine h_istore (L' := [(5, .int 0), (4, .int 0), (3, .int x6), (7, .int 0), (0, .ref 87), (1, .int x1), (2, .int x2), (6, .int x6)]) dX12_lay_164 (by decide) rfl ?_
            refine h_iinc (v := (x2 + 1)) (L' := [(2, .int (x2 + 1)), (5, .int 0), (4, .int 0), (3, .int x6), (7, .int 0), (0, .ref 87), (1, .int x1), (6, .int x6)]) dX12_lay_166 6 rfl rfl (by decide) rfl ?_
            refine h_iinc (v := (x6 + 1)) (L' := [(6, .int (x6 + 1)), (2, .int (x2 + 1)), (5, .int 0), (4, .int 0), (3, .int x6), (7, .int 0), (0, .ref 87), (1, .int x1)]) dX12_lay_169 7 rfl rfl (by decide) rfl ?_
            refine h_goto (tgt := 75) dX12_lay_172 (by decide) ?_
            refine h_pick [6, 7, 1, 4, 3, 2, 0] [(0, .ref 87), (1, .int x1), (2, .int (x2 + 1)), (3, .int x6), (4, .int 0), (5, .int 0), (6, .int (x6 + 1))] rfl ?_
            exact k21 c1 c2 c14 c20 c21
        ·
          refine h_iload dX12_lay_134 1 rfl ?_
          refine h_iload dX12_lay_136 5 rfl ?_
          refine h_icmp_ge (tgt := 146) dX12_lay_138 (by decide) (fun c22 => ?_) (fun c22 => ?_)
          ·
            refine h_iload dX12_lay_146 5 rfl ?_
            refine h_istore (L' := [(4, .int x4), (3, .int x6), (7, .int 0), (0, .ref 87), (1, .int x1), (2, .int x2), (5, .int x5), (6, .int x6)]) dX12_lay_148 (by decide) rfl ?_
            refine h_iload dX12_lay_150 2 rfl ?_
            refine h_iload dX12_lay_152 6 rfl ?_
            refine h_icmp_le (tgt := 162) dX12_lay_154 (by decide) (fun c23 => ?_) (fun c23 => ?_)
            ·
              refine h_iload dX12_lay_162 6 rfl ?_
              refine h_istore (L' := [(5, .int x5), (4, .int x4), (3, .int x6), (7, .int 0), (0, .ref 87), (1, .int x1), (2, .int x2), (6, .int x6)]) dX12_lay_164 (by decide) rfl ?_
              refine h_iinc (v := (x2 + 1)) (L' := [(2, .int (x2 + 1)), (5, .int x5), (4, .int x4), (3, .int x6), (7, .int 0), (0, .ref 87), (1, .int x1), (6, .int x6)]) dX12_lay_166 6 rfl rfl (by decide) rfl ?_
              refine h_iinc (v := (x6 + 1)) (L' := [(6, .int (x6 + 1)), (2, .int (x2 + 1)), (5, .int x5), (4, .int x4), (3, .int x6), (7, .int 0), (0, .ref 87), (1, .int x1)]) dX12_lay_169 7 rfl rfl (by decide) rfl ?_
              refine h_goto (tgt := 75) dX12_lay_172 (by decide) ?_
              refine h_pick [6, 7, 1, 4, 3, 2, 0] [(0, .ref 87), (1, .int x1), (2, .int (x2 + 1)), (3, .int x6), (4, .int x4), (5, .int x5), (6, .int (x6 + 1))] rfl ?_
              exact k22 c1 c2 c14 c20 c22 c23
            ·
              refine h_iload dX12_lay_157 2 rfl ?_
              refine h_goto (tgt := 164) dX12_lay_159 (by decide) ?_
              refine h_istore (L' := [(5, .int 0), (4, .int x4), (3, .int x6), (7, .int 0), (0, .ref 87), (1, .int x1), (2, .int x2), (6, .int x6)]) dX12_lay_164 (by decide) rfl ?_
              refine h_iinc (v := (x2 + 1)) (L' := [(2, .int (x2 + 1)), (5, .int 0), (4, .int x4), (3, .int x6), (7, .int 0), (0, .ref 87), (1, .int x1), (6, .int x6)]) dX12_lay_166 6 rfl rfl (by decide) rfl ?_
              refine h_iinc (v := (x6 + 1)) (L' := [(6, .int (x6 + 1)), (2, .int (x2 + 1)), (5, .int 0), (4, .int x4), (3, .int x6), (7, .int 0), (0, .ref 87), (1, .int x1)]) dX12_lay_169 7 rfl rfl (by decide) rfl ?_
              refine h_goto (tgt := 75) dX12_lay_172 (by decide) ?_
              refine h_pick [6, 7, 1, 4, 3, 2, 0] [(0, .ref 87), (1, .int x1), (2, .int (x2 + 1)), (3, .int x6), (4, .int x4), (5, .int 0), (6, .int (x6 + 1))] rfl ?_
              exact k23 c1 c2 c14 c20 c22 c23
          ·
            refine h_iload dX12_lay_141 1 rfl ?_
            refine h_goto (tgt := 148) dX12_lay_143 (by decide) ?_
            refine h_istore (L' := [(4, .int 0), (3, .int x6), (7, .int 0), (0, .ref 87), (1, .int x1), (2, .int x2), (5, .int x5), (6, .int x6)]) dX12_lay_148 (by decide) rfl ?_
            refine h_iload dX12_lay_150 2 rfl ?_
            refine h_iload dX12_lay_152 6 rfl ?_
            refine h_icmp_le (tgt := 162) dX12_lay_154 (by decide) (fun c24 => ?_) (fun c24 => ?_)
            ·
              refine h_iload dX12_lay_162 6 rfl ?_
              refine h_istore (L' := [(5, .int x5), (4, .int 0), (3, .int x6), (7, .int 0), (0, .ref 87), (1, .int x1), (2, .int x2), (6, .int x6)]) dX12_lay_164 (by decide) rfl ?_
              refine h_iinc (v := (x2 + 1)) (L' := [(2, .int (x2 + 1)), (5, .int x5), (4, .int 0), (3, .int x6), (7, .int 0), (0, .ref 87), (1, .int x1), (6, .int x6)]) dX12_lay_166 6 rfl rfl (by decide) rfl ?_
              refine h_iinc (v := (x6 + 1)) (L' := [(6, .int (x6 + 1)), (2, .int (x2 + 1)), (5, .int x5), (4, .int 0), (3, .int x6), (7, .int 0), (0, .ref 87), (1, .int x1)]) dX12_lay_169 7 rfl rfl (by decide) rfl ?_
              refine h_goto (tgt := 75) dX12_lay_172 (by decide) ?_
              refine h_pick [6, 7, 1, 4, 3, 2, 0] [(0, .ref 87), (1, .int x1), (2, .int (x2 + 1)), (3, .int x6), (4, .int 0), (5, .int x5), (6, .int (x6 + 1))] rfl ?_
              exact k24 c1 c2 c14 c20 c22 c24
            ·
              refine h_iload dX12_lay_157 2 rfl ?_
              refine h_goto (tgt := 164) dX12_lay_159 (by decide) ?_
              refine h_istore (L' := [(5, .int 0), (4, .int 0), (3, .int x6), (7, .int 0), (0, .ref 87), (1, .int x1), (2, .int x2), (6, .int x6)]) dX12_lay_164 (by decide) rfl ?_
              refine h_iinc (v := (x2 + 1)) (L' := [(2, .int (x2 + 1)), (5, .int 0), (4, .int 0), (3, .int x6), (7, .int 0), (0, .ref 87), (1, .int x1), (6, .int x6)]) dX12_lay_166 6 rfl rfl (by decide) rfl ?_
              refine h_iinc (v := (x6 + 1)) (L' := [(6, .int (x6 + 1)), (2, .int (x2 + 1)), (5, .int 0), (4, .int 0), (3, .int x6), (7, .int 0), (0, .ref 87), (1, .int x1)]) dX12_lay_169 7 rfl rfl (by decide) rfl ?_
              refine h_goto (tgt := 75) dX12_lay_172 (by decide) ?_
              refine h_pick [6, 7, 1, 4, 3, 2, 0] [(0, .ref 87), (1, .int x1), (2, .int (x2 + 1)), (3, .int x6), (4, .int 0), (5, .int 0), (6, .int (x6 + 1))] rfl ?_
              exact k25 c1 c2 c14 c20 c22 c24
