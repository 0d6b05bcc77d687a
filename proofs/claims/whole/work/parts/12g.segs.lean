set_option maxHeartbeats 1000000 in
set_option maxRecDepth 4000 in
theorem sg_X12_goRow_0 {E : HEn} {d : Nat} {Q : Option Value → HIh → Prop} {I : HIh} {a : Int32} {b : Int32} {e : Int32}
    (k1 : HCall E me_X12_copy (d + 4) [.ref 87, .int 0, .int 3] I (fun v9 J => HGo E (mF E (d + 5) Q) me_X12_goRow 6 [(0, .ref 87), (1, .int a), (2, .int b), (3, .int e)] (v9.toList ++ []) J))
    : HGo E (mF E (d + 5) Q) me_X12_goRow 0 [(0, .ref 87), (1, .int a), (2, .int b), (3, .int e)] [] I := by
  refine h_aload_n dX12_goRow_0 rfl 0 rfl ?_
  refine h_iconst (v := 0) dX12_goRow_1 (by decide) ?_
  refine h_iconst (v := 3) dX12_goRow_2 (by decide) ?_
  refine h_invV (As := [.int 0, .int 3]) (st := []) dX12_goRow_3 lk_X12_221 (h_room (by decide)) nl_87 zk_87 (by decide) rfl rfl rfl (Nat.le_of_ble_eq_true rfl) ?_
  exact k1
set_option maxHeartbeats 1000000 in
set_option maxRecDepth 4000 in
theorem sg_X12_goRow_6 {E : HEn} {d : Nat} {Q : Option Value → HIh → Prop} {I : HIh} {x1 : Int32} {x2 : Int32} {x3 : Int32}
    (k1 : HCall E me_X12_powerOf (d + 4) [.int x3] I (fun v9 J => HGo E (mF E (d + 5) Q) me_X12_goRow 14 [(0, .ref 87), (1, .int x1), (2, .int x2), (4, .int 93)] (v9.toList ++ []) J))
    : HGo E (mF E (d + 5) Q) me_X12_goRow 6 [(0, .ref 87), (1, .int x1), (2, .int x2), (3, .int x3)] [] I := by
  refine h_bipush (v := 93) dX12_goRow_6 (by decide) ?_
  refine h_istore (L' := [(4, .int 93), (0, .ref 87), (1, .int x1), (2, .int x2), (3, .int x3)]) dX12_goRow_8 (by decide) rfl ?_
  refine h_iload_n dX12_goRow_10 rfl 4 rfl ?_
  refine h_pick [1, 2, 3, 0] [(0, .ref 87), (1, .int x1), (2, .int x2), (4, .int 93)] rfl ?_
  refine h_invS (As := [.int x3]) (st := []) dX12_goRow_11 lk_X12_225 (h_room (by decide)) rfl rfl (Nat.le_of_ble_eq_true rfl) ?_
  exact k1
set_option maxHeartbeats 1000000 in
set_option maxRecDepth 4000 in
theorem sg_X12_goRow_14 {E : HEn} {d : Nat} {Q : Option Value → HIh → Prop} {I : HIh} {x1 : Int32} {x2 : Int32} {x4 : Int32} {s0 : Int32}
    (k1 : HGo E (mF E (d + 5) Q) me_X12_goRow 25 [(0, .ref 87), (1, .int x1), (2, .int x2), (4, .int x4), (5, .int s0), (6, .int (I 88 30))] [] I)
    : HGo E (mF E (d + 5) Q) me_X12_goRow 14 [(0, .ref 87), (1, .int x1), (2, .int x2), (4, .int x4)] [.int s0] I := by
  refine h_istore (L' := [(5, .int s0), (0, .ref 87), (1, .int x1), (2, .int x2), (4, .int x4)]) dX12_goRow_14 (by decide) rfl ?_
  refine h_aload_n dX12_goRow_16 rfl 1 rfl ?_
  refine gf_10_0 dX12_goRow_17 hl_X12_7 nl_87 zk_87 zp_87_0 ?_
  refine h_bipush (v := 30) dX12_goRow_20 (by decide) ?_
  refine h_iald dX12_goRow_22 nl_88 zk_88 (vp_lit (by rw [zn_88]; decide)) ?_
  refine h_istore (L' := [(6, .int (I 88 30)), (5, .int s0), (0, .ref 87), (1, .int x1), (2, .int x2), (4, .int x4)]) dX12_goRow_23 (by decide) rfl ?_
  refine h_pick [2, 3, 4, 5, 1, 0] [(0, .ref 87), (1, .int x1), (2, .int x2), (4, .int x4), (5, .int s0), (6, .int (I 88 30))] rfl ?_
  exact k1
set_option maxHeartbeats 1000000 in
set_option maxRecDepth 4000 in
theorem sg_X12_goRow_25 {E : HEn} {d : Nat} {Q : Option Value → HIh → Prop} {I : HIh} {x1 : Int32} {x2 : Int32} {x4 : Int32} {x5 : Int32} {x6 : Int32}
    (k1 : (I 87 13) ≤ x6 → HGo E (mF E (d + 5) Q) me_X12_goRow 140 [(0, .ref 87), (1, .int x1), (4, .int x4), (6, .int 0), (7, .int 0)] [] I)
    (k2 : ¬ (I 87 13) ≤ x6 → vp_in x6 24)
    (k3 : ¬ (I 87 13) ≤ x6 → (x1 >>> ((I 96 x6.toNatClampNeg) &&& 31)) &&& 1 = 1 → ¬ (x5 / 7) = 0)
    (k4 : ¬ (I 87 13) ≤ x6 → (x1 >>> ((I 96 x6.toNatClampNeg) &&& 31)) &&& 1 = 1 → (I 87 6) ≤ (((x2 / (x5 / 7)) - (x2 / (x5 / 7)) / 7 * 7) - 1) → Q (some (.int (-1))) I)
    (k5 : ¬ (I 87 13) ≤ x6 → (x1 >>> ((I 96 x6.toNatClampNeg) &&& 31)) &&& 1 = 1 → ¬ (I 87 6) ≤ (((x2 / (x5 / 7)) - (x2 / (x5 / 7)) / 7 * 7) - 1) → (((x2 / (x5 / 7)) - (x2 / (x5 / 7)) / 7 * 7) - 1) = (-1) → (((x2 / (x5 / 7)) - (x2 / (x5 / 7)) / 7 * 7) - 1) = (-1) → HGo E (mF E (d + 5) Q) me_X12_goRow 25 [(0, .ref 87), (1, .int x1), (2, .int x2), (4, .int x4), (5, .int (x5 / 7)), (6, .int (x6 + 1))] [] I)
    (k6 : ¬ (I 87 13) ≤ x6 → (x1 >>> ((I 96 x6.toNatClampNeg) &&& 31)) &&& 1 = 1 → ¬ (I 87 6) ≤ (((x2 / (x5 / 7)) - (x2 / (x5 / 7)) / 7 * 7) - 1) → (((x2 / (x5 / 7)) - (x2 / (x5 / 7)) / 7 * 7) - 1) = (-1) → ¬ (((x2 / (x5 / 7)) - (x2 / (x5 / 7)) / 7 * 7) - 1) = (-1) → HCall E me_X12_throwsOne (d + 4) [.ref 87, .int x4, .int (I 96 x6.toNatClampNeg), .int (((x2 / (x5 / 7)) - (x2 / (x5 / 7)) / 7 * 7) - 1)] I (fun v9 J => HGo E (mF E (d + 5) Q) me_X12_goRow 116 [(0, .ref 87), (1, .int x1), (2, .int x2), (4, .int x4), (5, .int (x5 / 7)), (6, .int x6)] (v9.toList ++ []) J))
    (k7 : ¬ (I 87 13) ≤ x6 → (x1 >>> ((I 96 x6.toNatClampNeg) &&& 31)) &&& 1 = 1 → ¬ (I 87 6) ≤ (((x2 / (x5 / 7)) - (x2 / (x5 / 7)) / 7 * 7) - 1) → ¬ (((x2 / (x5 / 7)) - (x2 / (x5 / 7)) / 7 * 7) - 1) = (-1) → HCall E me_X12_isHad (d + 4) [.ref 87, .int x4, .int (I 96 x6.toNatClampNeg), .int (((x2 / (x5 / 7)) - (x2 / (x5 / 7)) / 7 * 7) - 1)] I (fun v9 J => HGo E (mF E (d + 5) Q) me_X12_goRow 95 [(0, .ref 87), (1, .int x1), (2, .int x2), (4, .int x4), (5, .int (x5 / 7)), (6, .int x6), (7, .int (I 96 x6.toNatClampNeg)), (8, .int (((x2 / (x5 / 7)) - (x2 / (x5 / 7)) / 7 * 7) - 1))] (v9.toList ++ []) J))
    (k8 : ¬ (I 87 13) ≤ x6 → ¬ (x1 >>> ((I 96 x6.toNatClampNeg) &&& 31)) &&& 1 = 1 → HCall E me_X12_visitsBy (d + 4) [.ref 87, .int x4, .int (I 96 x6.toNatClampNeg)] I (fun v9 J => HGo E (mF E (d + 5) Q) me_X12_goRow 127 [(0, .ref 87), (1, .int x1), (2, .int x2), (4, .int x4), (5, .int x5), (6, .int x6)] (v9.toList ++ []) J))
    : HGo E (mF E (d + 5) Q) me_X12_goRow 25 [(0, .ref 87), (1, .int x1), (2, .int x2), (4, .int x4), (5, .int x5), (6, .int x6)] [] I := by
  refine h_iload dX12_goRow_25 5 rfl ?_
  refine h_aload_n dX12_goRow_27 rfl 0 rfl ?_
  refine gf_10_13 dX12_goRow_28 hl_X12_147 nl_87 zk_87 ?_
  refine h_icmp_ge (tgt := 134) dX12_goRow_31 (by decide) (fun c1 => ?_) (fun c1 => ?_)
  ·
    refine h_iconst (v := 0) dX12_goRow_134 (by decide) ?_
    refine h_istore (L' := [(6, .int 0), (0, .ref 87), (1, .int x1), (2, .int x2), (4, .int x4), (5, .int x5)]) dX12_goRow_135 (by decide) rfl ?_
    refine h_iconst (v := 0) dX12_goRow_137 (by decide) ?_
    refine h_istore (L' := [(7, .int 0), (6, .int 0), (0, .ref 87), (1, .int x1), (2, .int x2), (4, .int x4), (5, .int x5)]) dX12_goRow_138 (by decide) rfl ?_
    refine h_pick [2, 3, 5, 1, 0] [(0, .ref 87), (1, .int x1), (4, .int x4), (6, .int 0), (7, .int 0)] rfl ?_
    exact k1 c1
  ·
    refine h_aload_n dX12_goRow_34 rfl 0 rfl ?_
    refine gf_10_12 dX12_goRow_35 hl_X12_39 nl_87 zk_87 zp_87_12 ?_
    refine h_iload dX12_goRow_38 5 rfl ?_
    refine h_iald dX12_goRow_40 nl_96 zk_96 (by rw [zn_96]; exact k2 c1) ?_
    refine h_istore (L' := [(7, .int (I 96 x6.toNatClampNeg)), (0, .ref 87), (1, .int x1), (2, .int x2), (4, .int x4), (5, .int x5), (6, .int x6)]) dX12_goRow_41 (by decide) rfl ?_
    refine h_iload_n dX12_goRow_43 rfl 2 rfl ?_
    refine h_iload dX12_goRow_44 0 rfl ?_
    refine h_invS (As := [.int x1, .int (I 96 x6.toNatClampNeg)]) (st := []) dX12_goRow_46 lk_X12_183 (h_room (by decide)) rfl rfl (Nat.le_of_ble_eq_true rfl) ?_
    refine c_X12_has (fun c2 => ?_) (fun c3 => ?_)
    ·
      refine h_if_eq (tgt := 119) dX12_goRow_49 (by decide) (fun c => absurd c (by decide)) (fun _ => ?_)
      refine h_iload dX12_goRow_52 5 rfl ?_
      refine h_bipush (v := 7) dX12_goRow_54 (by decide) ?_
      refine h_idiv dX12_goRow_56 (by decide) ?_
      refine h_istore (L' := [(5, .int (x5 / 7)), (7, .int (I 96 x6.toNatClampNeg)), (0, .ref 87), (1, .int x1), (2, .int x2), (4, .int x4), (6, .int x6)]) dX12_goRow_57 (by decide) rfl ?_
      refine h_iload_n dX12_goRow_59 rfl 4 rfl ?_
      refine h_iload dX12_goRow_60 0 rfl ?_
      refine h_idiv dX12_goRow_62 (k3 c1 c2) ?_
      refine h_bipush (v := 7) dX12_goRow_63 (by decide) ?_
      refine h_irem dX12_goRow_65 (by decide) ?_
      refine h_iconst (v := 1) dX12_goRow_66 (by decide) ?_
      refine h_isub dX12_goRow_67 ?_
      refine h_istore (L' := [(8, .int (((x2 / (x5 / 7)) - (x2 / (x5 / 7)) / 7 * 7) - 1)), (5, .int (x5 / 7)), (7, .int (I 96 x6.toNatClampNeg)), (0, .ref 87), (1, .int x1), (2, .int x2), (4, .int x4), (6, .int x6)]) dX12_goRow_68 (by decide) rfl ?_
      refine h_iload dX12_goRow_70 0 rfl ?_
      refine h_aload_n dX12_goRow_72 rfl 3 rfl ?_
      refine gf_10_6 dX12_goRow_73 hl_X12_23 nl_87 zk_87 ?_
      refine h_icmp_ge (tgt := 98) dX12_goRow_76 (by decide) (fun c4 => ?_) (fun c4 => ?_)
      ·
        refine h_iconst (v := (-1)) dX12_goRow_98 (by decide) ?_
        exact h_iret dX12_goRow_99 rfl (k4 c1 c2 c4)
      ·
        refine h_iload dX12_goRow_79 0 rfl ?_
        refine h_iconst (v := (-1)) dX12_goRow_81 (by decide) ?_
        refine h_icmp_eq (tgt := 100) dX12_goRow_82 (by decide) (fun c5 => ?_) (fun c5 => ?_)
        ·
          refine h_iload dX12_goRow_100 0 rfl ?_
          refine h_iconst (v := (-1)) dX12_goRow_102 (by decide) ?_
          refine h_icmp_eq (tgt := 116) dX12_goRow_103 (by decide) (fun c6 => ?_) (fun c6 => ?_)
          ·
            refine h_goto (tgt := 128) dX12_goRow_116 (by decide) ?_
            refine h_iinc (v := (x6 + 1)) (L' := [(6, .int (x6 + 1)), (8, .int (((x2 / (x5 / 7)) - (x2 / (x5 / 7)) / 7 * 7) - 1)), (5, .int (x5 / 7)), (7, .int (I 96 x6.toNatClampNeg)), (0, .ref 87), (1, .int x1), (2, .int x2), (4, .int x4)]) dX12_goRow_128 7 rfl rfl (by decide) rfl ?_
            refine h_goto (tgt := 25) dX12_goRow_131 (by decide) ?_
            refine h_pick [4, 5, 6, 7, 2, 0] [(0, .ref 87), (1, .int x1), (2, .int x2), (4, .int x4), (5, .int (x5 / 7)), (6, .int (x6 + 1))] rfl ?_
            exact k5 c1 c2 c4 c5 c6
          ·
            refine h_aload_n dX12_goRow_106 rfl 3 rfl ?_
            refine h_iload dX12_goRow_107 6 rfl ?_
            refine h_iload dX12_goRow_109 2 rfl ?_
            refine h_iload dX12_goRow_111 0 rfl ?_
            refine h_pick [3, 4, 5, 6, 1, 7] [(0, .ref 87), (1, .int x1), (2, .int x2), (4, .int x4), (5, .int (x5 / 7)), (6, .int x6)] rfl ?_
            refine h_invV (As := [.int x4, .int (I 96 x6.toNatClampNeg), .int (((x2 / (x5 / 7)) - (x2 / (x5 / 7)) / 7 * 7) - 1)]) (st := []) dX12_goRow_113 lk_X12_206 (h_room (by decide)) nl_87 zk_87 (by decide) rfl rfl rfl (Nat.le_of_ble_eq_true rfl) ?_
            exact k6 c1 c2 c4 c5 c6
        ·
          refine h_aload_n dX12_goRow_85 rfl 3 rfl ?_
          refine h_iload dX12_goRow_86 6 rfl ?_
          refine h_iload dX12_goRow_88 2 rfl ?_
          refine h_iload dX12_goRow_90 0 rfl ?_
          refine h_pick [3, 4, 5, 6, 1, 7, 2, 0] [(0, .ref 87), (1, .int x1), (2, .int x2), (4, .int x4), (5, .int (x5 / 7)), (6, .int x6), (7, .int (I 96 x6.toNatClampNeg)), (8, .int (((x2 / (x5 / 7)) - (x2 / (x5 / 7)) / 7 * 7) - 1))] rfl ?_
          refine h_invV (As := [.int x4, .int (I 96 x6.toNatClampNeg), .int (((x2 / (x5 / 7)) - (x2 / (x5 / 7)) / 7 * 7) - 1)]) (st := []) dX12_goRow_92 lk_X12_196 (h_room (by decide)) nl_87 zk_87 (by decide) rfl rfl rfl (Nat.le_of_ble_eq_true rfl) ?_
          exact k7 c1 c2 c4 c5
    ·
      refine h_if_eq (tgt := 119) dX12_goRow_49 (by decide) (fun _ => ?_) (fun c => absurd c (by decide))
      refine h_aload_n dX12_goRow_119 rfl 1 rfl ?_
      refine h_iload dX12_goRow_120 4 rfl ?_
      refine h_iload dX12_goRow_122 0 rfl ?_
      refine h_pick [1, 2, 3, 4, 5, 6] [(0, .ref 87), (1, .int x1), (2, .int x2), (4, .int x4), (5, .int x5), (6, .int x6)] rfl ?_
      refine h_invV (As := [.int x4, .int (I 96 x6.toNatClampNeg)]) (st := []) dX12_goRow_124 lk_X12_218 (h_room (by decide)) nl_87 zk_87 (by decide) rfl rfl rfl (Nat.le_of_ble_eq_true rfl) ?_
      exact k8 c1 c3
set_option maxHeartbeats 1000000 in
set_option maxRecDepth 4000 in
theorem sg_X12_goRow_140 {E : HEn} {d : Nat} {Q : Option Value → HIh → Prop} {I : HIh} {x1 : Int32} {x4 : Int32} {x6 : Int32} {x7 : Int32}
    (k1 : 4 ≤ x7 → Q (some (.int x6)) I)
    (k2 : ¬ 4 ≤ x7 → (x1 >>> (x7 &&& 31)) &&& 1 = 1 → HCall E me_X12_worthOf (d + 4) [.ref 87, .int x4, .int x7] I (fun v9 J => HGo E (mF E (d + 5) Q) me_X12_goRow 165 [(0, .ref 87), (1, .int x1), (4, .int x4), (7, .int x7)] (v9.toList ++ [.int x6]) J))
    (k3 : ¬ 4 ≤ x7 → ¬ (x1 >>> (x7 &&& 31)) &&& 1 = 1 → HGo E (mF E (d + 5) Q) me_X12_goRow 140 [(0, .ref 87), (1, .int x1), (4, .int x4), (6, .int (x6 + 0)), (7, .int (x7 + 1))] [] I)
    : HGo E (mF E (d + 5) Q) me_X12_goRow 140 [(0, .ref 87), (1, .int x1), (4, .int x4), (6, .int x6), (7, .int x7)] [] I := by
  refine h_iload dX12_goRow_140 4 rfl ?_
  refine h_iconst (v := 4) dX12_goRow_142 (by decide) ?_
  refine h_icmp_ge (tgt := 178) dX12_goRow_143 (by decide) (fun c1 => ?_) (fun c1 => ?_)
  ·
    refine h_iload dX12_goRow_178 3 rfl ?_
    exact h_iret dX12_goRow_180 rfl (k1 c1)
  ·
    refine h_iload dX12_goRow_146 3 rfl ?_
    refine h_iload_n dX12_goRow_148 rfl 1 rfl ?_
    refine h_iload dX12_goRow_149 4 rfl ?_
    refine h_invS (As := [.int x1, .int x7]) (st := [.int x6]) dX12_goRow_151 lk_X12_183 (h_room (by decide)) rfl rfl (Nat.le_of_ble_eq_true rfl) ?_
    refine c_X12_has (fun c2 => ?_) (fun c3 => ?_)
    ·
      refine h_if_eq (tgt := 168) dX12_goRow_154 (by decide) (fun c => absurd c (by decide)) (fun _ => ?_)
      refine h_aload_n dX12_goRow_157 rfl 0 rfl ?_
      refine h_iload dX12_goRow_158 2 rfl ?_
      refine h_iload dX12_goRow_160 4 rfl ?_
      refine h_pick [0, 1, 2, 4] [(0, .ref 87), (1, .int x1), (4, .int x4), (7, .int x7)] rfl ?_
      refine h_invV (As := [.int x4, .int x7]) (st := [.int x6]) dX12_goRow_162 lk_X12_186 (h_room (by decide)) nl_87 zk_87 (by decide) rfl rfl rfl (Nat.le_of_ble_eq_true rfl) ?_
      exact k2 c1 c2
    ·
      refine h_if_eq (tgt := 168) dX12_goRow_154 (by decide) (fun _ => ?_) (fun c => absurd c (by decide))
      refine h_iconst (v := 0) dX12_goRow_168 (by decide) ?_
      refine h_iadd dX12_goRow_169 ?_
      refine h_istore (L' := [(6, .int (x6 + 0)), (0, .ref 87), (1, .int x1), (4, .int x4), (7, .int x7)]) dX12_goRow_170 (by decide) rfl ?_
      refine h_iinc (v := (x7 + 1)) (L' := [(7, .int (x7 + 1)), (6, .int (x6 + 0)), (0, .ref 87), (1, .int x1), (4, .int x4)]) dX12_goRow_172 4 rfl rfl (by decide) rfl ?_
      refine h_goto (tgt := 140) dX12_goRow_175 (by decide) ?_
      refine h_pick [2, 3, 4, 1, 0] [(0, .ref 87), (1, .int x1), (4, .int x4), (6, .int (x6 + 0)), (7, .int (x7 + 1))] rfl ?_
      exact k3 c1 c3
set_option maxHeartbeats 1000000 in
set_option maxRecDepth 4000 in
theorem sg_X12_goRow_116 {E : HEn} {d : Nat} {Q : Option Value → HIh → Prop} {I : HIh} {x1 : Int32} {x2 : Int32} {x4 : Int32} {x5 : Int32} {x6 : Int32}
    (k1 : HGo E (mF E (d + 5) Q) me_X12_goRow 25 [(0, .ref 87), (1, .int x1), (2, .int x2), (4, .int x4), (5, .int x5), (6, .int (x6 + 1))] [] I)
    : HGo E (mF E (d + 5) Q) me_X12_goRow 116 [(0, .ref 87), (1, .int x1), (2, .int x2), (4, .int x4), (5, .int x5), (6, .int x6)] [] I := by
  refine h_goto (tgt := 128) dX12_goRow_116 (by decide) ?_
  refine h_iinc (v := (x6 + 1)) (L' := [(6, .int (x6 + 1)), (0, .ref 87), (1, .int x1), (2, .int x2), (4, .int x4), (5, .int x5)]) dX12_goRow_128 5 rfl rfl (by decide) rfl ?_
  refine h_goto (tgt := 25) dX12_goRow_131 (by decide) ?_
  refine h_pick [1, 2, 3, 4, 5, 0] [(0, .ref 87), (1, .int x1), (2, .int x2), (4, .int x4), (5, .int x5), (6, .int (x6 + 1))] rfl ?_
  exact k1
set_option maxHeartbeats 1000000 in
set_option maxRecDepth 4000 in
theorem sg_X12_goRow_95 {E : HEn} {d : Nat} {Q : Option Value → HIh → Prop} {I : HIh} {x1 : Int32} {x2 : Int32} {x4 : Int32} {x5 : Int32} {x6 : Int32} {x7 : Int32} {x8 : Int32} {s0 : Int32}
    (k1 : ¬ s0 = 0 → x8 = (-1) → HGo E (mF E (d + 5) Q) me_X12_goRow 25 [(0, .ref 87), (1, .int x1), (2, .int x2), (4, .int x4), (5, .int x5), (6, .int (x6 + 1))] [] I)
    (k2 : ¬ s0 = 0 → ¬ x8 = (-1) → HCall E me_X12_throwsOne (d + 4) [.ref 87, .int x4, .int x7, .int x8] I (fun v9 J => HGo E (mF E (d + 5) Q) me_X12_goRow 116 [(0, .ref 87), (1, .int x1), (2, .int x2), (4, .int x4), (5, .int x5), (6, .int x6)] (v9.toList ++ []) J))
    (k3 : s0 = 0 → Q (some (.int (-1))) I)
    : HGo E (mF E (d + 5) Q) me_X12_goRow 95 [(0, .ref 87), (1, .int x1), (2, .int x2), (4, .int x4), (5, .int x5), (6, .int x6), (7, .int x7), (8, .int x8)] [.int s0] I := by
  refine h_if_ne (tgt := 100) dX12_goRow_95 (by decide) (fun c1 => ?_) (fun c1 => ?_)
  ·
    refine h_iload dX12_goRow_100 7 rfl ?_
    refine h_iconst (v := (-1)) dX12_goRow_102 (by decide) ?_
    refine h_icmp_eq (tgt := 116) dX12_goRow_103 (by decide) (fun c2 => ?_) (fun c2 => ?_)
    ·
      refine h_goto (tgt := 128) dX12_goRow_116 (by decide) ?_
      refine h_iinc (v := (x6 + 1)) (L' := [(6, .int (x6 + 1)), (0, .ref 87), (1, .int x1), (2, .int x2), (4, .int x4), (5, .int x5), (7, .int x7), (8, .int x8)]) dX12_goRow_128 5 rfl rfl (by decide) rfl ?_
      refine h_goto (tgt := 25) dX12_goRow_131 (by decide) ?_
      refine h_pick [1, 2, 3, 4, 5, 0] [(0, .ref 87), (1, .int x1), (2, .int x2), (4, .int x4), (5, .int x5), (6, .int (x6 + 1))] rfl ?_
      exact k1 c1 c2
    ·
      refine h_aload_n dX12_goRow_106 rfl 0 rfl ?_
      refine h_iload dX12_goRow_107 3 rfl ?_
      refine h_iload dX12_goRow_109 6 rfl ?_
      refine h_iload dX12_goRow_111 7 rfl ?_
      refine h_pick [0, 1, 2, 3, 4, 5] [(0, .ref 87), (1, .int x1), (2, .int x2), (4, .int x4), (5, .int x5), (6, .int x6)] rfl ?_
      refine h_invV (As := [.int x4, .int x7, .int x8]) (st := []) dX12_goRow_113 lk_X12_206 (h_room (by decide)) nl_87 zk_87 (by decide) rfl rfl rfl (Nat.le_of_ble_eq_true rfl) ?_
      exact k2 c1 c2
  ·
    refine h_iconst (v := (-1)) dX12_goRow_98 (by decide) ?_
    exact h_iret dX12_goRow_99 rfl (k3 c1)
set_option maxHeartbeats 1000000 in
set_option maxRecDepth 4000 in
theorem sg_X12_goRow_127 {E : HEn} {d : Nat} {Q : Option Value → HIh → Prop} {I : HIh} {x1 : Int32} {x2 : Int32} {x4 : Int32} {x5 : Int32} {x6 : Int32} {s0 : Int32}
    (k1 : HGo E (mF E (d + 5) Q) me_X12_goRow 25 [(0, .ref 87), (1, .int x1), (2, .int x2), (4, .int x4), (5, .int x5), (6, .int (x6 + 1))] [] I)
    : HGo E (mF E (d + 5) Q) me_X12_goRow 127 [(0, .ref 87), (1, .int x1), (2, .int x2), (4, .int x4), (5, .int x5), (6, .int x6)] [.int s0] I := by
  refine h_pop dX12_goRow_127 rfl ?_
  refine h_iinc (v := (x6 + 1)) (L' := [(6, .int (x6 + 1)), (0, .ref 87), (1, .int x1), (2, .int x2), (4, .int x4), (5, .int x5)]) dX12_goRow_128 5 rfl rfl (by decide) rfl ?_
  refine h_goto (tgt := 25) dX12_goRow_131 (by decide) ?_
  refine h_pick [1, 2, 3, 4, 5, 0] [(0, .ref 87), (1, .int x1), (2, .int x2), (4, .int x4), (5, .int x5), (6, .int (x6 + 1))] rfl ?_
  exact k1
set_option maxHeartbeats 1000000 in
set_option maxRecDepth 4000 in
theorem sg_X12_goRow_165 {E : HEn} {d : Nat} {Q : Option Value → HIh → Prop} {I : HIh} {x1 : Int32} {x4 : Int32} {x7 : Int32} {s0 : Int32} {s1 : Int32}
    (k1 : HGo E (mF E (d + 5) Q) me_X12_goRow 140 [(0, .ref 87), (1, .int x1), (4, .int x4), (6, .int (s1 + s0)), (7, .int (x7 + 1))] [] I)
    : HGo E (mF E (d + 5) Q) me_X12_goRow 165 [(0, .ref 87), (1, .int x1), (4, .int x4), (7, .int x7)] [.int s0, .int s1] I := by
  refine h_goto (tgt := 169) dX12_goRow_165 (by decide) ?_
  refine h_iadd dX12_goRow_169 ?_
  refine h_istore (L' := [(6, .int (s1 + s0)), (0, .ref 87), (1, .int x1), (4, .int x4), (7, .int x7)]) dX12_goRow_170 (by decide) rfl ?_
  refine h_iinc (v := (x7 + 1)) (L' := [(7, .int (x7 + 1)), (6, .int (s1 + s0)), (0, .ref 87), (1, .int x1), (4, .int x4)]) dX12_goRow_172 4 rfl rfl (by decide) rfl ?_
  refine h_goto (tgt := 140) dX12_goRow_175 (by decide) ?_
  refine h_pick [2, 3, 4, 1, 0] [(0, .ref 87), (1, .int x1), (4, .int x4), (6, .int (s1 + s0)), (7, .int (x7 + 1))] rfl ?_
  exact k1
set_option maxHeartbeats 1000000 in
set_option maxRecDepth 4000 in
theorem sg_X12_layPlan_0 {E : HEn} {d : Nat} {Q : Option Value → HIh → Prop} {I : HIh} {a : Int32} {b : Int32}
    (k1 : HGo E (mF E (d + 6) Q) me_X12_layPlan 12 [(0, .ref 87), (1, .int a), (2, .int b), (3, .int 0)] [] (setI (setI I 87 (upd (I 87) 20 (-1))) 87 (upd ((setI I 87 (upd (I 87) 20 (-1))) 87) 21 0)))
    : HGo E (mF E (d + 6) Q) me_X12_layPlan 0 [(0, .ref 87), (1, .int a), (2, .int b)] [] I := by
  refine h_aload_n dX12_layPlan_0 rfl 0 rfl ?_
  refine h_iconst (v := (-1)) dX12_layPlan_1 (by decide) ?_
  refine pf_10_20 dX12_layPlan_2 hl_X12_228 nl_87 zk_87 ?_
  refine h_aload_n dX12_layPlan_5 rfl 0 rfl ?_
  refine h_iconst (v := 0) dX12_layPlan_6 (by decide) ?_
  refine pf_10_21 dX12_layPlan_7 hl_X12_231 nl_87 zk_87 ?_
  refine h_iconst (v := 0) dX12_layPlan_10 (by decide) ?_
  refine h_istore_n (L' := [(3, .int 0), (0, .ref 87), (1, .int a), (2, .int b)]) dX12_layPlan_11 rfl (by decide) rfl ?_
  refine h_pick [1, 2, 3, 0] [(0, .ref 87), (1, .int a), (2, .int b), (3, .int 0)] rfl ?_
  exact k1
set_option maxHeartbeats 1000000 in
set_option maxRecDepth 4000 in
theorem sg_X12_layPlan_12 {E : HEn} {d : Nat} {Q : Option Value → HIh → Prop} {I : HIh} {x1 : Int32} {x2 : Int32} {x3 : Int32}
    (k1 : HCall E me_X12_powerOf (d + 5) [.int x2] I (fun v9 J => HGo E (mF E (d + 6) Q) me_X12_layPlan 17 [(0, .ref 87), (1, .int x1), (2, .int x2), (3, .int x3)] (v9.toList ++ [.int x3]) J))
    : HGo E (mF E (d + 6) Q) me_X12_layPlan 12 [(0, .ref 87), (1, .int x1), (2, .int x2), (3, .int x3)] [] I := by
  refine h_iload_n dX12_layPlan_12 rfl 3 rfl ?_
  refine h_iload_n dX12_layPlan_13 rfl 2 rfl ?_
  refine h_invS (As := [.int x2]) (st := [.int x3]) dX12_layPlan_14 lk_X12_225 (h_room (by decide)) rfl rfl (Nat.le_of_ble_eq_true rfl) ?_
  exact k1
set_option maxHeartbeats 1000000 in
set_option maxRecDepth 4000 in
theorem sg_X12_layPlan_17 {E : HEn} {d : Nat} {Q : Option Value → HIh → Prop} {I : HIh} {x1 : Int32} {x2 : Int32} {x3 : Int32} {s0 : Int32} {s1 : Int32}
    (k1 : s0 ≤ s1 → Q none I)
    (k2 : ¬ s0 ≤ s1 → HCall E me_X12_goRow (d + 5) [.ref 87, .int x1, .int x3, .int x2] I (fun v9 J => HGo E (mF E (d + 6) Q) me_X12_layPlan 27 [(0, .ref 87), (1, .int x1), (2, .int x2), (3, .int x3)] (v9.toList ++ []) J))
    : HGo E (mF E (d + 6) Q) me_X12_layPlan 17 [(0, .ref 87), (1, .int x1), (2, .int x2), (3, .int x3)] [.int s0, .int s1] I := by
  refine h_icmp_ge (tgt := 55) dX12_layPlan_17 (by decide) (fun c1 => ?_) (fun c1 => ?_)
  ·
    exact h_vret dX12_layPlan_55 rfl (k1 c1)
  ·
    refine h_aload_n dX12_layPlan_20 rfl 0 rfl ?_
    refine h_iload_n dX12_layPlan_21 rfl 1 rfl ?_
    refine h_iload_n dX12_layPlan_22 rfl 3 rfl ?_
    refine h_iload_n dX12_layPlan_23 rfl 2 rfl ?_
    refine h_invV (As := [.int x1, .int x3, .int x2]) (st := []) dX12_layPlan_24 lk_X12_234 (h_room (by decide)) nl_87 zk_87 (by decide) rfl rfl rfl (Nat.le_of_ble_eq_true rfl) ?_
    exact k2 c1
set_option maxHeartbeats 1000000 in
set_option maxRecDepth 4000 in
theorem sg_X12_layPlan_27 {E : HEn} {d : Nat} {Q : Option Value → HIh → Prop} {I : HIh} {x1 : Int32} {x2 : Int32} {x3 : Int32} {s0 : Int32}
    (k1 : s0 ≤ (I 87 20) → HGo E (mF E (d + 6) Q) me_X12_layPlan 12 [(0, .ref 87), (1, .int x1), (2, .int x2), (3, .int (x3 + 1))] [] I)
    (k2 : ¬ s0 ≤ (I 87 20) → HGo E (mF E (d + 6) Q) me_X12_layPlan 12 [(0, .ref 87), (1, .int x1), (2, .int x2), (3, .int (x3 + 1))] [] (setI (setI I 87 (upd (I 87) 20 s0)) 87 (upd ((setI I 87 (upd (I 87) 20 s0)) 87) 21 x3)))
    : HGo E (mF E (d + 6) Q) me_X12_layPlan 27 [(0, .ref 87), (1, .int x1), (2, .int x2), (3, .int x3)] [.int s0] I := by
  refine h_istore (L' := [(4, .int s0), (0, .ref 87), (1, .int x1), (2, .int x2), (3, .int x3)]) dX12_layPlan_27 (by decide) rfl ?_
  refine h_iload dX12_layPlan_29 0 rfl ?_
  refine h_aload_n dX12_layPlan_31 rfl 1 rfl ?_
  refine gf_10_20 dX12_layPlan_32 hl_X12_228 nl_87 zk_87 ?_
  refine h_icmp_le (tgt := 49) dX12_layPlan_35 (by decide) (fun c1 => ?_) (fun c1 => ?_)
  ·
    refine h_iinc (v := (x3 + 1)) (L' := [(3, .int (x3 + 1)), (4, .int s0), (0, .ref 87), (1, .int x1), (2, .int x2)]) dX12_layPlan_49 4 rfl rfl (by decide) rfl ?_
    refine h_goto (tgt := 12) dX12_layPlan_52 (by decide) ?_
    refine h_pick [2, 3, 4, 0] [(0, .ref 87), (1, .int x1), (2, .int x2), (3, .int (x3 + 1))] rfl ?_
    exact k1 c1
  ·
    refine h_aload_n dX12_layPlan_38 rfl 1 rfl ?_
    refine h_iload dX12_layPlan_39 0 rfl ?_
    refine pf_10_20 dX12_layPlan_41 hl_X12_228 nl_87 zk_87 ?_
    refine h_aload_n dX12_layPlan_44 rfl 1 rfl ?_
    refine h_iload_n dX12_layPlan_45 rfl 4 rfl ?_
    refine pf_10_21 dX12_layPlan_46 hl_X12_231 nl_87 zk_87 ?_
    refine h_iinc (v := (x3 + 1)) (L' := [(3, .int (x3 + 1)), (4, .int s0), (0, .ref 87), (1, .int x1), (2, .int x2)]) dX12_layPlan_49 4 rfl rfl (by decide) rfl ?_
    refine h_goto (tgt := 12) dX12_layPlan_52 (by decide) ?_
    refine h_pick [2, 3, 4, 0] [(0, .ref 87), (1, .int x1), (2, .int x2), (3, .int (x3 + 1))] rfl ?_
    exact k2 c1
set_option maxHeartbeats 1000000 in
set_option maxRecDepth 4000 in
theorem sg_X12_plan_0 {E : HEn} {d : Nat} {Q : Option Value → HIh → Prop} {I : HIh} {a : Int32} {b : Int32}
    (k1 : (0 : Int32) ≤ a → a < 4 → (-1) ≤ b → HCall E me_X12_leftOf (d + 6) [.ref 87, .int ((1 : Int32) <<< (a &&& 31))] I (fun v9 J => HGo E (mF E (d + 7) Q) me_X12_plan 25 [(0, .ref 87), (1, .int a), (2, .int b)] (v9.toList ++ []) J))
    (k2 : (0 : Int32) ≤ a → a < 4 → ¬ (-1) ≤ b → Q (some (.int (-3))) I)
    (k3 : ¬ ((0 : Int32) ≤ a ∧ a < 4) → Q (some (.int (-2))) I)
    : HGo E (mF E (d + 7) Q) me_X12_plan 0 [(0, .ref 87), (1, .int a), (2, .int b)] [] I := by
  refine h_iload_n dX12_plan_0 rfl 1 rfl ?_
  refine h_invS (As := [.int a]) (st := []) dX12_plan_1 lk_X12_180 (h_room (by decide)) rfl rfl (Nat.le_of_ble_eq_true rfl) ?_
  refine c_X12_isPerson (fun c1 c2 => ?_) (fun c3 => ?_)
  ·
    refine h_if_ne (tgt := 10) dX12_plan_4 (by decide) (fun _ => ?_) (fun c => absurd c (by decide))
    refine h_iload_n dX12_plan_10 rfl 2 rfl ?_
    refine h_iconst (v := (-1)) dX12_plan_11 (by decide) ?_
    refine h_icmp_ge (tgt := 18) dX12_plan_12 (by decide) (fun c4 => ?_) (fun c4 => ?_)
    ·
      refine h_aload_n dX12_plan_18 rfl 0 rfl ?_
      refine h_iconst (v := 1) dX12_plan_19 (by decide) ?_
      refine h_iload_n dX12_plan_20 rfl 1 rfl ?_
      refine h_ishl dX12_plan_21 ?_
      refine h_invV (As := [.int ((1 : Int32) <<< (a &&& 31))]) (st := []) dX12_plan_22 lk_X12_190 (h_room (by decide)) nl_87 zk_87 (by decide) rfl rfl rfl (Nat.le_of_ble_eq_true rfl) ?_
      exact k1 c1 c2 c4
    ·
      refine h_bipush (v := (-3)) dX12_plan_15 (by decide) ?_
      exact h_iret dX12_plan_17 rfl (k2 c1 c2 c4)
  ·
    refine h_if_ne (tgt := 10) dX12_plan_4 (by decide) (fun c => absurd c (by decide)) (fun _ => ?_)
    refine h_bipush (v := (-2)) dX12_plan_7 (by decide) ?_
    exact h_iret dX12_plan_9 rfl (k3 c3)
set_option maxHeartbeats 1000000 in
set_option maxRecDepth 4000 in
theorem sg_X12_plan_25 {E : HEn} {d : Nat} {Q : Option Value → HIh → Prop} {I : HIh} {x1 : Int32} {x2 : Int32} {s0 : Int32}
    (k1 : s0 ≤ 5 → HCall E me_X12_layPlan (d + 6) [.ref 87, .int ((1 : Int32) <<< (x1 &&& 31)), .int s0] I (fun v9 J => HGo E (mF E (d + 7) Q) me_X12_plan 42 [(0, .ref 87), (2, .int x2), (3, .int s0)] (v9.toList ++ []) J))
    (k2 : ¬ s0 ≤ 5 → Q (some (.int (-4))) I)
    : HGo E (mF E (d + 7) Q) me_X12_plan 25 [(0, .ref 87), (1, .int x1), (2, .int x2)] [.int s0] I := by
  refine h_istore_n (L' := [(3, .int s0), (0, .ref 87), (1, .int x1), (2, .int x2)]) dX12_plan_25 rfl (by decide) rfl ?_
  refine h_iload_n dX12_plan_26 rfl 0 rfl ?_
  refine h_iconst (v := 5) dX12_plan_27 (by decide) ?_
  refine h_icmp_le (tgt := 34) dX12_plan_28 (by decide) (fun c1 => ?_) (fun c1 => ?_)
  ·
    refine h_aload_n dX12_plan_34 rfl 1 rfl ?_
    refine h_iconst (v := 1) dX12_plan_35 (by decide) ?_
    refine h_iload_n dX12_plan_36 rfl 2 rfl ?_
    refine h_ishl dX12_plan_37 ?_
    refine h_iload_n dX12_plan_38 rfl 0 rfl ?_
    refine h_pick [1, 3, 0] [(0, .ref 87), (2, .int x2), (3, .int s0)] rfl ?_
    refine h_invV (As := [.int ((1 : Int32) <<< (x1 &&& 31)), .int s0]) (st := []) dX12_plan_39 lk_X12_238 (h_room (by decide)) nl_87 zk_87 (by decide) rfl rfl rfl (Nat.le_of_ble_eq_true rfl) ?_
    exact k1 c1
  ·
    refine h_bipush (v := (-4)) dX12_plan_31 (by decide) ?_
    exact h_iret dX12_plan_33 rfl (k2 c1)
set_option maxHeartbeats 1000000 in
set_option maxRecDepth 4000 in
theorem sg_X12_plan_42 {E : HEn} {d : Nat} {Q : Option Value → HIh → Prop} {I : HIh} {x2 : Int32} {x3 : Int32}
    (k1 : ¬ x2 = (-1) → x3 ≤ x2 → Q (some (.int (-1))) I)
    (k2 : ¬ x2 = (-1) → ¬ x3 ≤ x2 → HCall E me_X12_powerOf (d + 6) [.int ((x3 - 1) - x2)] I (fun v9 J => HGo E (mF E (d + 7) Q) me_X12_plan 71 [] (v9.toList ++ [.int (I 87 21)]) J))
    (k3 : x2 = (-1) → Q (some (.int (I 87 20))) I)
    : HGo E (mF E (d + 7) Q) me_X12_plan 42 [(0, .ref 87), (2, .int x2), (3, .int x3)] [] I := by
  refine h_iload_n dX12_plan_42 rfl 1 rfl ?_
  refine h_iconst (v := (-1)) dX12_plan_43 (by decide) ?_
  refine h_icmp_ne (tgt := 54) dX12_plan_44 (by decide) (fun c1 => ?_) (fun c1 => ?_)
  ·
    refine h_iload_n dX12_plan_54 rfl 1 rfl ?_
    refine h_iload_n dX12_plan_55 rfl 2 rfl ?_
    refine h_icmp_ge (tgt := 78) dX12_plan_56 (by decide) (fun c2 => ?_) (fun c2 => ?_)
    ·
      refine h_iconst (v := (-1)) dX12_plan_78 (by decide) ?_
      exact h_iret dX12_plan_79 rfl (k1 c1 c2)
    ·
      refine h_aload_n dX12_plan_59 rfl 0 rfl ?_
      refine gf_10_21 dX12_plan_60 hl_X12_231 nl_87 zk_87 ?_
      refine h_iload_n dX12_plan_63 rfl 2 rfl ?_
      refine h_iconst (v := 1) dX12_plan_64 (by decide) ?_
      refine h_isub dX12_plan_65 ?_
      refine h_iload_n dX12_plan_66 rfl 1 rfl ?_
      refine h_isub dX12_plan_67 ?_
      refine h_pick [] [] rfl ?_
      refine h_invS (As := [.int ((x3 - 1) - x2)]) (st := [.int (I 87 21)]) dX12_plan_68 lk_X12_225 (h_room (by decide)) rfl rfl (Nat.le_of_ble_eq_true rfl) ?_
      exact k2 c1 c2
  ·
    refine h_aload_n dX12_plan_47 rfl 0 rfl ?_
    refine gf_10_20 dX12_plan_48 hl_X12_228 nl_87 zk_87 ?_
    refine h_goto (tgt := 79) dX12_plan_51 (by decide) ?_
    exact h_iret dX12_plan_79 rfl (k3 c1)
set_option maxHeartbeats 1000000 in
set_option maxRecDepth 4000 in
theorem sg_X12_plan_71 {E : HEn} {d : Nat} {Q : Option Value → HIh → Prop} {I : HIh} {s0 : Int32} {s1 : Int32}
    (k1 : ¬ s0 = 0)
    (k2 : Q (some (.int ((s1 / s0) - (s1 / s0) / 7 * 7))) I)
    : HGo E (mF E (d + 7) Q) me_X12_plan 71 [] [.int s0, .int s1] I := by
  refine h_idiv dX12_plan_71 (k1) ?_
  refine h_bipush (v := 7) dX12_plan_72 (by decide) ?_
  refine h_irem dX12_plan_74 (by decide) ?_
  refine h_goto (tgt := 79) dX12_plan_75 (by decide) ?_
  exact h_iret dX12_plan_79 rfl (k2)
set_option maxHeartbeats 1000000 in
set_option maxRecDepth 4000 in
theorem sg_X12_league_0 {E : HEn} {d : Nat} {Q : Option Value → HIh → Prop} {I : HIh} {a : Int32} {b : Int32}
    (k1 : (0 : Int32) ≤ a → a < 4 → (0 : Int32) ≤ b → b < 4 → ¬ a = b → HCall E me_X12_leftOf (d + 6) [.ref 87, .int (((1 : Int32) <<< (a &&& 31)) ||| ((1 : Int32) <<< (b &&& 31)))] I (fun v9 J => HGo E (mF E (d + 7) Q) me_X12_league 38 [(0, .ref 87), (3, .int (((1 : Int32) <<< (a &&& 31)) ||| ((1 : Int32) <<< (b &&& 31))))] (v9.toList ++ []) J))
    (k2 : (0 : Int32) ≤ a → a < 4 → (0 : Int32) ≤ b → b < 4 → a = b → Q (some (.int (-3))) I)
    (k3 : (0 : Int32) ≤ a → a < 4 → ¬ ((0 : Int32) ≤ b ∧ b < 4) → Q (some (.int (-2))) I)
    (k4 : ¬ ((0 : Int32) ≤ a ∧ a < 4) → Q (some (.int (-2))) I)
    : HGo E (mF E (d + 7) Q) me_X12_league 0 [(0, .ref 87), (1, .int a), (2, .int b)] [] I := by
  refine h_iload_n dX12_league_0 rfl 1 rfl ?_
  refine h_invS (As := [.int a]) (st := []) dX12_league_1 lk_X12_180 (h_room (by decide)) rfl rfl (Nat.le_of_ble_eq_true rfl) ?_
  refine c_X12_isPerson (fun c1 c2 => ?_) (fun c3 => ?_)
  ·
    refine h_if_eq (tgt := 14) dX12_league_4 (by decide) (fun c => absurd c (by decide)) (fun _ => ?_)
    refine h_iload_n dX12_league_7 rfl 2 rfl ?_
    refine h_invS (As := [.int b]) (st := []) dX12_league_8 lk_X12_180 (h_room (by decide)) rfl rfl (Nat.le_of_ble_eq_true rfl) ?_
    refine c_X12_isPerson (fun c4 c5 => ?_) (fun c6 => ?_)
    ·
      refine h_if_ne (tgt := 17) dX12_league_11 (by decide) (fun _ => ?_) (fun c => absurd c (by decide))
      refine h_iload_n dX12_league_17 rfl 1 rfl ?_
      refine h_iload_n dX12_league_18 rfl 2 rfl ?_
      refine h_icmp_ne (tgt := 25) dX12_league_19 (by decide) (fun c7 => ?_) (fun c7 => ?_)
      ·
        refine h_iconst (v := 1) dX12_league_25 (by decide) ?_
        refine h_iload_n dX12_league_26 rfl 1 rfl ?_
        refine h_ishl dX12_league_27 ?_
        refine h_iconst (v := 1) dX12_league_28 (by decide) ?_
        refine h_iload_n dX12_league_29 rfl 2 rfl ?_
        refine h_ishl dX12_league_30 ?_
        refine h_ior dX12_league_31 ?_
        refine h_istore_n (L' := [(3, .int (((1 : Int32) <<< (a &&& 31)) ||| ((1 : Int32) <<< (b &&& 31)))), (0, .ref 87), (1, .int a), (2, .int b)]) dX12_league_32 rfl (by decide) rfl ?_
        refine h_aload_n dX12_league_33 rfl 1 rfl ?_
        refine h_iload_n dX12_league_34 rfl 0 rfl ?_
        refine h_pick [1, 0] [(0, .ref 87), (3, .int (((1 : Int32) <<< (a &&& 31)) ||| ((1 : Int32) <<< (b &&& 31))))] rfl ?_
        refine h_invV (As := [.int (((1 : Int32) <<< (a &&& 31)) ||| ((1 : Int32) <<< (b &&& 31)))]) (st := []) dX12_league_35 lk_X12_190 (h_room (by decide)) nl_87 zk_87 (by decide) rfl rfl rfl (Nat.le_of_ble_eq_true rfl) ?_
        exact k1 c1 c2 c4 c5 c7
      ·
        refine h_bipush (v := (-3)) dX12_league_22 (by decide) ?_
        exact h_iret dX12_league_24 rfl (k2 c1 c2 c4 c5 c7)
    ·
      refine h_if_ne (tgt := 17) dX12_league_11 (by decide) (fun c => absurd c (by decide)) (fun _ => ?_)
      refine h_bipush (v := (-2)) dX12_league_14 (by decide) ?_
      exact h_iret dX12_league_16 rfl (k3 c1 c2 c6)
  ·
    refine h_if_eq (tgt := 14) dX12_league_4 (by decide) (fun _ => ?_) (fun c => absurd c (by decide))
    refine h_bipush (v := (-2)) dX12_league_14 (by decide) ?_
    exact h_iret dX12_league_16 rfl (k4 c3)
set_option maxHeartbeats 1000000 in
set_option maxRecDepth 4000 in
theorem sg_X12_league_38 {E : HEn} {d : Nat} {Q : Option Value → HIh → Prop} {I : HIh} {x3 : Int32} {s0 : Int32}
    (k1 : s0 ≤ 5 → HCall E me_X12_layPlan (d + 6) [.ref 87, .int x3, .int s0] I (fun v9 J => HGo E (mF E (d + 7) Q) me_X12_league 56 [(0, .ref 87)] (v9.toList ++ []) J))
    (k2 : ¬ s0 ≤ 5 → Q (some (.int (-4))) I)
    : HGo E (mF E (d + 7) Q) me_X12_league 38 [(0, .ref 87), (3, .int x3)] [.int s0] I := by
  refine h_istore (L' := [(4, .int s0), (0, .ref 87), (3, .int x3)]) dX12_league_38 (by decide) rfl ?_
  refine h_iload dX12_league_40 0 rfl ?_
  refine h_iconst (v := 5) dX12_league_42 (by decide) ?_
  refine h_icmp_le (tgt := 49) dX12_league_43 (by decide) (fun c1 => ?_) (fun c1 => ?_)
  ·
    refine h_aload_n dX12_league_49 rfl 1 rfl ?_
    refine h_iload_n dX12_league_50 rfl 2 rfl ?_
    refine h_iload dX12_league_51 0 rfl ?_
    refine h_pick [1] [(0, .ref 87)] rfl ?_
    refine h_invV (As := [.int x3, .int s0]) (st := []) dX12_league_53 lk_X12_238 (h_room (by decide)) nl_87 zk_87 (by decide) rfl rfl rfl (Nat.le_of_ble_eq_true rfl) ?_
    exact k1 c1
  ·
    refine h_bipush (v := (-4)) dX12_league_46 (by decide) ?_
    exact h_iret dX12_league_48 rfl (k2 c1)
set_option maxHeartbeats 1000000 in
set_option maxRecDepth 4000 in
theorem sg_X12_league_56 {E : HEn} {d : Nat} {Q : Option Value → HIh → Prop} {I : HIh} 
    (k1 : Q (some (.int (I 87 20))) I)
    : HGo E (mF E (d + 7) Q) me_X12_league 56 [(0, .ref 87)] [] I := by
  refine h_aload_n dX12_league_56 rfl 0 rfl ?_
  refine gf_10_20 dX12_league_57 hl_X12_228 nl_87 zk_87 ?_
  exact h_iret dX12_league_60 rfl (k1)
set_option maxHeartbeats 1000000 in
set_option maxRecDepth 4000 in
theorem sg_X12_takeUp_0 {E : HEn} {d : Nat} {Q : Option Value → HIh → Prop} {I : HIh} {a : Int32} {b : Int32}
    (k1 : vp_in a 8)
    (k2 : (I 98 a.toNatClampNeg) = 0 → HGo E (mF E (d + 1) Q) me_X12_takeUp 36 [(0, .ref 87), (1, .int a), (3, .int 0)] [] I)
    (k3 : ¬ (I 98 a.toNatClampNeg) = 0 → vp_in (((4 * a) + 4) + b) 32)
    (k4 : ¬ (I 98 a.toNatClampNeg) = 0 → vp_in ((4 * a) + b) 32)
    (k5 : ¬ (I 98 a.toNatClampNeg) = 0 → (I 99 (((4 * a) + 4) + b).toNatClampNeg) ≤ (I 99 ((4 * a) + b).toNatClampNeg) → Q none I)
    (k6 : ¬ (I 98 a.toNatClampNeg) = 0 → ¬ (I 99 (((4 * a) + 4) + b).toNatClampNeg) ≤ (I 99 ((4 * a) + b).toNatClampNeg) → HGo E (mF E (d + 1) Q) me_X12_takeUp 36 [(0, .ref 87), (1, .int a), (3, .int 0)] [] I)
    : HGo E (mF E (d + 1) Q) me_X12_takeUp 0 [(0, .ref 87), (1, .int a), (2, .int b)] [] I := by
  refine h_aload_n dX12_takeUp_0 rfl 0 rfl ?_
  refine gf_10_22 dX12_takeUp_1 hl_X12_45 nl_87 zk_87 zp_87_22 ?_
  refine h_iload_n dX12_takeUp_4 rfl 1 rfl ?_
  refine h_iald dX12_takeUp_5 nl_98 zk_98 (by rw [zn_98]; exact k1) ?_
  refine h_if_eq (tgt := 34) dX12_takeUp_6 (by decide) (fun c1 => ?_) (fun c1 => ?_)
  ·
    refine h_iconst (v := 0) dX12_takeUp_34 (by decide) ?_
    refine h_istore_n (L' := [(3, .int 0), (0, .ref 87), (1, .int a), (2, .int b)]) dX12_takeUp_35 rfl (by decide) rfl ?_
    refine h_pick [1, 2, 0] [(0, .ref 87), (1, .int a), (3, .int 0)] rfl ?_
    exact k2 c1
  ·
    refine h_aload_n dX12_takeUp_9 rfl 0 rfl ?_
    refine gf_10_23 dX12_takeUp_10 hl_X12_48 nl_87 zk_87 zp_87_23 ?_
    refine h_iconst (v := 4) dX12_takeUp_13 (by decide) ?_
    refine h_iload_n dX12_takeUp_14 rfl 1 rfl ?_
    refine h_imul dX12_takeUp_15 ?_
    refine h_iconst (v := 4) dX12_takeUp_16 (by decide) ?_
    refine h_iadd dX12_takeUp_17 ?_
    refine h_iload_n dX12_takeUp_18 rfl 2 rfl ?_
    refine h_iadd dX12_takeUp_19 ?_
    refine h_iald dX12_takeUp_20 nl_99 zk_99 (by rw [zn_99]; exact k3 c1) ?_
    refine h_aload_n dX12_takeUp_21 rfl 0 rfl ?_
    refine gf_10_23 dX12_takeUp_22 hl_X12_48 nl_87 zk_87 zp_87_23 ?_
    refine h_iconst (v := 4) dX12_takeUp_25 (by decide) ?_
    refine h_iload_n dX12_takeUp_26 rfl 1 rfl ?_
    refine h_imul dX12_takeUp_27 ?_
    refine h_iload_n dX12_takeUp_28 rfl 2 rfl ?_
    refine h_iadd dX12_takeUp_29 ?_
    refine h_iald dX12_takeUp_30 nl_99 zk_99 (by rw [zn_99]; exact k4 c1) ?_
    refine h_icmp_le (tgt := 125) dX12_takeUp_31 (by decide) (fun c2 => ?_) (fun c2 => ?_)
    ·
      exact h_vret dX12_takeUp_125 rfl (k5 c1 c2)
    ·
      refine h_iconst (v := 0) dX12_takeUp_34 (by decide) ?_
      refine h_istore_n (L' := [(3, .int 0), (0, .ref 87), (1, .int a), (2, .int b)]) dX12_takeUp_35 rfl (by decide) rfl ?_
      refine h_pick [1, 2, 0] [(0, .ref 87), (1, .int a), (3, .int 0)] rfl ?_
      exact k6 c1 c2
set_option maxHeartbeats 1000000 in
set_option maxRecDepth 4000 in
theorem sg_X12_takeUp_36 {E : HEn} {d : Nat} {Q : Option Value → HIh → Prop} {I : HIh} {x1 : Int32} {x3 : Int32}
    (k1 : 4 ≤ x3 → vp_in x1 8)
    (k2 : 4 ≤ x3 → vp_in (7 * x1) 56)
    (k3 : 4 ≤ x3 → HGo E (mF E (d + 1) Q) me_X12_takeUp 86 [(0, .ref 87), (1, .int x1), (3, .int 0)] [] (setI I 100 (upd (I 100) (7 * x1).toNatClampNeg (I 98 x1.toNatClampNeg))))
    (k4 : ¬ 4 ≤ x3 → vp_in (((4 * x1) + 4) + x3) 32)
    (k5 : ¬ 4 ≤ x3 → vp_in ((4 * x1) + x3) 32)
    (k6 : ¬ 4 ≤ x3 → HGo E (mF E (d + 1) Q) me_X12_takeUp 36 [(0, .ref 87), (1, .int x1), (3, .int (x3 + 1))] [] (setI I 99 (upd (I 99) ((4 * x1) + x3).toNatClampNeg (I 99 (((4 * x1) + 4) + x3).toNatClampNeg))))
    : HGo E (mF E (d + 1) Q) me_X12_takeUp 36 [(0, .ref 87), (1, .int x1), (3, .int x3)] [] I := by
  refine h_iload_n dX12_takeUp_36 rfl 2 rfl ?_
  refine h_iconst (v := 4) dX12_takeUp_37 (by decide) ?_
  refine h_icmp_ge (tgt := 69) dX12_takeUp_38 (by decide) (fun c1 => ?_) (fun c1 => ?_)
  ·
    refine h_aload_n dX12_takeUp_69 rfl 0 rfl ?_
    refine gf_10_24 dX12_takeUp_70 hl_X12_51 nl_87 zk_87 zp_87_24 ?_
    refine h_bipush (v := 7) dX12_takeUp_73 (by decide) ?_
    refine h_iload_n dX12_takeUp_75 rfl 1 rfl ?_
    refine h_imul dX12_takeUp_76 ?_
    refine h_aload_n dX12_takeUp_77 rfl 0 rfl ?_
    refine gf_10_22 dX12_takeUp_78 hl_X12_45 nl_87 zk_87 zp_87_22 ?_
    refine h_iload_n dX12_takeUp_81 rfl 1 rfl ?_
    refine h_iald dX12_takeUp_82 nl_98 zk_98 (by rw [zn_98]; exact k1 c1) ?_
    refine h_iast dX12_takeUp_83 nl_100 zk_100 (by rw [zn_100]; exact k2 c1) ?_
    refine h_iconst (v := 0) dX12_takeUp_84 (by decide) ?_
    refine h_istore_n (L' := [(3, .int 0), (0, .ref 87), (1, .int x1)]) dX12_takeUp_85 rfl (by decide) rfl ?_
    refine h_pick [1, 2, 0] [(0, .ref 87), (1, .int x1), (3, .int 0)] rfl ?_
    exact k3 c1
  ·
    refine h_aload_n dX12_takeUp_41 rfl 0 rfl ?_
    refine gf_10_23 dX12_takeUp_42 hl_X12_48 nl_87 zk_87 zp_87_23 ?_
    refine h_iconst (v := 4) dX12_takeUp_45 (by decide) ?_
    refine h_iload_n dX12_takeUp_46 rfl 1 rfl ?_
    refine h_imul dX12_takeUp_47 ?_
    refine h_iload_n dX12_takeUp_48 rfl 2 rfl ?_
    refine h_iadd dX12_takeUp_49 ?_
    refine h_aload_n dX12_takeUp_50 rfl 0 rfl ?_
    refine gf_10_23 dX12_takeUp_51 hl_X12_48 nl_87 zk_87 zp_87_23 ?_
    refine h_iconst (v := 4) dX12_takeUp_54 (by decide) ?_
    refine h_iload_n dX12_takeUp_55 rfl 1 rfl ?_
    refine h_imul dX12_takeUp_56 ?_
    refine h_iconst (v := 4) dX12_takeUp_57 (by decide) ?_
    refine h_iadd dX12_takeUp_58 ?_
    refine h_iload_n dX12_takeUp_59 rfl 2 rfl ?_
    refine h_iadd dX12_takeUp_60 ?_
    refine h_iald dX12_takeUp_61 nl_99 zk_99 (by rw [zn_99]; exact k4 c1) ?_
    refine h_iast dX12_takeUp_62 nl_99 zk_99 (by rw [zn_99]; exact k5 c1) ?_
    refine h_iinc (v := (x3 + 1)) (L' := [(3, .int (x3 + 1)), (0, .ref 87), (1, .int x1)]) dX12_takeUp_63 2 rfl rfl (by decide) rfl ?_
    refine h_goto (tgt := 36) dX12_takeUp_66 (by decide) ?_
    refine h_pick [1, 2, 0] [(0, .ref 87), (1, .int x1), (3, .int (x3 + 1))] rfl ?_
    exact k6 c1
set_option maxHeartbeats 1000000 in
set_option maxRecDepth 4000 in
theorem sg_X12_takeUp_86 {E : HEn} {d : Nat} {Q : Option Value → HIh → Prop} {I : HIh} {x1 : Int32} {x3 : Int32}
    (k1 : 6 ≤ x3 → Q none I)
    (k2 : ¬ 6 ≤ x3 → vp_in (((7 * x1) + 7) + x3) 56)
    (k3 : ¬ 6 ≤ x3 → vp_in (((7 * x1) + 1) + x3) 56)
    (k4 : ¬ 6 ≤ x3 → HGo E (mF E (d + 1) Q) me_X12_takeUp 86 [(0, .ref 87), (1, .int x1), (3, .int (x3 + 1))] [] (setI I 100 (upd (I 100) (((7 * x1) + 1) + x3).toNatClampNeg (I 100 (((7 * x1) + 7) + x3).toNatClampNeg))))
    : HGo E (mF E (d + 1) Q) me_X12_takeUp 86 [(0, .ref 87), (1, .int x1), (3, .int x3)] [] I := by
  refine h_iload_n dX12_takeUp_86 rfl 2 rfl ?_
  refine h_bipush (v := 6) dX12_takeUp_87 (by decide) ?_
  refine h_icmp_ge (tgt := 125) dX12_takeUp_89 (by decide) (fun c1 => ?_) (fun c1 => ?_)
  ·
    exact h_vret dX12_takeUp_125 rfl (k1 c1)
  ·
    refine h_aload_n dX12_takeUp_92 rfl 0 rfl ?_
    refine gf_10_24 dX12_takeUp_93 hl_X12_51 nl_87 zk_87 zp_87_24 ?_
    refine h_bipush (v := 7) dX12_takeUp_96 (by decide) ?_
    refine h_iload_n dX12_takeUp_98 rfl 1 rfl ?_
    refine h_imul dX12_takeUp_99 ?_
    refine h_iconst (v := 1) dX12_takeUp_100 (by decide) ?_
    refine h_iadd dX12_takeUp_101 ?_
    refine h_iload_n dX12_takeUp_102 rfl 2 rfl ?_
    refine h_iadd dX12_takeUp_103 ?_
    refine h_aload_n dX12_takeUp_104 rfl 0 rfl ?_
    refine gf_10_24 dX12_takeUp_105 hl_X12_51 nl_87 zk_87 zp_87_24 ?_
    refine h_bipush (v := 7) dX12_takeUp_108 (by decide) ?_
    refine h_iload_n dX12_takeUp_110 rfl 1 rfl ?_
    refine h_imul dX12_takeUp_111 ?_
    refine h_bipush (v := 7) dX12_takeUp_112 (by decide) ?_
    refine h_iadd dX12_takeUp_114 ?_
    refine h_iload_n dX12_takeUp_115 rfl 2 rfl ?_
    refine h_iadd dX12_takeUp_116 ?_
    refine h_iald dX12_takeUp_117 nl_100 zk_100 (by rw [zn_100]; exact k2 c1) ?_
    refine h_iast dX12_takeUp_118 nl_100 zk_100 (by rw [zn_100]; exact k3 c1) ?_
    refine h_iinc (v := (x3 + 1)) (L' := [(3, .int (x3 + 1)), (0, .ref 87), (1, .int x1)]) dX12_takeUp_119 2 rfl rfl (by decide) rfl ?_
    refine h_goto (tgt := 86) dX12_takeUp_122 (by decide) ?_
    refine h_pick [1, 2, 0] [(0, .ref 87), (1, .int x1), (3, .int (x3 + 1))] rfl ?_
    exact k4 c1
set_option maxHeartbeats 1000000 in
set_option maxRecDepth 4000 in
theorem sg_X12_opens_0 {E : HEn} {d : Nat} {Q : Option Value → HIh → Prop} {I : HIh} {a : Int32} {b : Int32}
    (k1 : vp_in a 8)
    (k2 : ((I 98 a.toNatClampNeg) - 1) = (-1) → HCall E me_X12_copy (d + 2) [.ref 87, .int (3 + a), .int ((3 + a) + 1)] I (fun v9 J => HGo E (mF E (d + 3) Q) me_X12_opens 48 [(0, .ref 87), (1, .int a), (2, .int b), (3, .int (31 * (3 + a))), (4, .int ((I 98 a.toNatClampNeg) - 1))] (v9.toList ++ []) J))
    (k3 : ¬ ((I 98 a.toNatClampNeg) - 1) = (-1) → HCall E me_X12_isHad (d + 2) [.ref 87, .int (31 * (3 + a)), .int b, .int ((I 98 a.toNatClampNeg) - 1)] I (fun v9 J => HGo E (mF E (d + 3) Q) me_X12_opens 31 [(0, .ref 87), (1, .int a), (2, .int b), (3, .int (31 * (3 + a))), (4, .int ((I 98 a.toNatClampNeg) - 1))] (v9.toList ++ []) J))
    : HGo E (mF E (d + 3) Q) me_X12_opens 0 [(0, .ref 87), (1, .int a), (2, .int b)] [] I := by
  refine h_bipush (v := 31) dX12_opens_0 (by decide) ?_
  refine h_iconst (v := 3) dX12_opens_2 (by decide) ?_
  refine h_iload_n dX12_opens_3 rfl 1 rfl ?_
  refine h_iadd dX12_opens_4 ?_
  refine h_imul dX12_opens_5 ?_
  refine h_istore_n (L' := [(3, .int (31 * (3 + a))), (0, .ref 87), (1, .int a), (2, .int b)]) dX12_opens_6 rfl (by decide) rfl ?_
  refine h_aload_n dX12_opens_7 rfl 1 rfl ?_
  refine gf_10_22 dX12_opens_8 hl_X12_45 nl_87 zk_87 zp_87_22 ?_
  refine h_iload_n dX12_opens_11 rfl 2 rfl ?_
  refine h_iald dX12_opens_12 nl_98 zk_98 (by rw [zn_98]; exact k1) ?_
  refine h_iconst (v := 1) dX12_opens_13 (by decide) ?_
  refine h_isub dX12_opens_14 ?_
  refine h_istore (L' := [(4, .int ((I 98 a.toNatClampNeg) - 1)), (3, .int (31 * (3 + a))), (0, .ref 87), (1, .int a), (2, .int b)]) dX12_opens_15 (by decide) rfl ?_
  refine h_iload dX12_opens_17 0 rfl ?_
  refine h_iconst (v := (-1)) dX12_opens_19 (by decide) ?_
  refine h_icmp_eq (tgt := 36) dX12_opens_20 (by decide) (fun c1 => ?_) (fun c1 => ?_)
  ·
    refine h_aload_n dX12_opens_36 rfl 2 rfl ?_
    refine h_iconst (v := 3) dX12_opens_37 (by decide) ?_
    refine h_iload_n dX12_opens_38 rfl 3 rfl ?_
    refine h_iadd dX12_opens_39 ?_
    refine h_iconst (v := 3) dX12_opens_40 (by decide) ?_
    refine h_iload_n dX12_opens_41 rfl 3 rfl ?_
    refine h_iadd dX12_opens_42 ?_
    refine h_iconst (v := 1) dX12_opens_43 (by decide) ?_
    refine h_iadd dX12_opens_44 ?_
    refine h_pick [2, 3, 4, 1, 0] [(0, .ref 87), (1, .int a), (2, .int b), (3, .int (31 * (3 + a))), (4, .int ((I 98 a.toNatClampNeg) - 1))] rfl ?_
    refine h_invV (As := [.int (3 + a), .int ((3 + a) + 1)]) (st := []) dX12_opens_45 lk_X12_221 (h_room (by decide)) nl_87 zk_87 (by decide) rfl rfl rfl (Nat.le_of_ble_eq_true rfl) ?_
    exact k2 c1
  ·
    refine h_aload_n dX12_opens_23 rfl 2 rfl ?_
    refine h_iload_n dX12_opens_24 rfl 1 rfl ?_
    refine h_iload_n dX12_opens_25 rfl 4 rfl ?_
    refine h_iload dX12_opens_26 0 rfl ?_
    refine h_pick [2, 3, 4, 1, 0] [(0, .ref 87), (1, .int a), (2, .int b), (3, .int (31 * (3 + a))), (4, .int ((I 98 a.toNatClampNeg) - 1))] rfl ?_
    refine h_invV (As := [.int (31 * (3 + a)), .int b, .int ((I 98 a.toNatClampNeg) - 1)]) (st := []) dX12_opens_28 lk_X12_196 (h_room (by decide)) nl_87 zk_87 (by decide) rfl rfl rfl (Nat.le_of_ble_eq_true rfl) ?_
    exact k3 c1
set_option maxHeartbeats 1000000 in
set_option maxRecDepth 4000 in
theorem sg_X12_opens_48 {E : HEn} {d : Nat} {Q : Option Value → HIh → Prop} {I : HIh} {x1 : Int32} {x2 : Int32} {x3 : Int32} {x4 : Int32}
    (k1 : x4 = (-1) → vp_in (x1 + 1) 8)
    (k2 : x4 = (-1) → Q (some (.int 1)) (setI I 98 (upd (I 98) (x1 + 1).toNatClampNeg 0)))
    (k3 : ¬ x4 = (-1) → HCall E me_X12_throwsOne (d + 2) [.ref 87, .int (x3 + 31), .int x2, .int x4] I (fun v9 J => HGo E (mF E (d + 3) Q) me_X12_opens 65 [(0, .ref 87), (1, .int x1)] (v9.toList ++ []) J))
    : HGo E (mF E (d + 3) Q) me_X12_opens 48 [(0, .ref 87), (1, .int x1), (2, .int x2), (3, .int x3), (4, .int x4)] [] I := by
  refine h_iload dX12_opens_48 4 rfl ?_
  refine h_iconst (v := (-1)) dX12_opens_50 (by decide) ?_
  refine h_icmp_eq (tgt := 65) dX12_opens_51 (by decide) (fun c1 => ?_) (fun c1 => ?_)
  ·
    refine h_aload_n dX12_opens_65 rfl 0 rfl ?_
    refine gf_10_22 dX12_opens_66 hl_X12_45 nl_87 zk_87 zp_87_22 ?_
    refine h_iload_n dX12_opens_69 rfl 1 rfl ?_
    refine h_iconst (v := 1) dX12_opens_70 (by decide) ?_
    refine h_iadd dX12_opens_71 ?_
    refine h_iconst (v := 0) dX12_opens_72 (by decide) ?_
    refine h_iast dX12_opens_73 nl_98 zk_98 (by rw [zn_98]; exact k1 c1) ?_
    refine h_iconst (v := 1) dX12_opens_74 (by decide) ?_
    exact h_zret dX12_opens_75 rfl rfl (k2 c1)
  ·
    refine h_aload_n dX12_opens_54 rfl 0 rfl ?_
    refine h_iload_n dX12_opens_55 rfl 3 rfl ?_
    refine h_bipush (v := 31) dX12_opens_56 (by decide) ?_
    refine h_iadd dX12_opens_58 ?_
    refine h_iload_n dX12_opens_59 rfl 2 rfl ?_
    refine h_iload dX12_opens_60 4 rfl ?_
    refine h_pick [0, 1] [(0, .ref 87), (1, .int x1)] rfl ?_
    refine h_invV (As := [.int (x3 + 31), .int x2, .int x4]) (st := []) dX12_opens_62 lk_X12_206 (h_room (by decide)) nl_87 zk_87 (by decide) rfl rfl rfl (Nat.le_of_ble_eq_true rfl) ?_
    exact k3 c1
set_option maxHeartbeats 1000000 in
set_option maxRecDepth 4000 in
theorem sg_X12_opens_31 {E : HEn} {d : Nat} {Q : Option Value → HIh → Prop} {I : HIh} {x1 : Int32} {x2 : Int32} {x3 : Int32} {x4 : Int32} {s0 : Int32}
    (k1 : ¬ s0 = 0 → HCall E me_X12_copy (d + 2) [.ref 87, .int (3 + x1), .int ((3 + x1) + 1)] I (fun v9 J => HGo E (mF E (d + 3) Q) me_X12_opens 48 [(0, .ref 87), (1, .int x1), (2, .int x2), (3, .int x3), (4, .int x4)] (v9.toList ++ []) J))
    (k2 : s0 = 0 → Q (some (.int 0)) I)
    : HGo E (mF E (d + 3) Q) me_X12_opens 31 [(0, .ref 87), (1, .int x1), (2, .int x2), (3, .int x3), (4, .int x4)] [.int s0] I := by
  refine h_if_ne (tgt := 36) dX12_opens_31 (by decide) (fun c1 => ?_) (fun c1 => ?_)
  ·
    refine h_aload_n dX12_opens_36 rfl 0 rfl ?_
    refine h_iconst (v := 3) dX12_opens_37 (by decide) ?_
    refine h_iload_n dX12_opens_38 rfl 1 rfl ?_
    refine h_iadd dX12_opens_39 ?_
    refine h_iconst (v := 3) dX12_opens_40 (by decide) ?_
    refine h_iload_n dX12_opens_41 rfl 1 rfl ?_
    refine h_iadd dX12_opens_42 ?_
    refine h_iconst (v := 1) dX12_opens_43 (by decide) ?_
    refine h_iadd dX12_opens_44 ?_
    refine h_invV (As := [.int (3 + x1), .int ((3 + x1) + 1)]) (st := []) dX12_opens_45 lk_X12_221 (h_room (by decide)) nl_87 zk_87 (by decide) rfl rfl rfl (Nat.le_of_ble_eq_true rfl) ?_
    exact k1 c1
  ·
    refine h_iconst (v := 0) dX12_opens_34 (by decide) ?_
    exact h_zret dX12_opens_35 rfl rfl (k2 c1)
set_option maxHeartbeats 1000000 in
set_option maxRecDepth 4000 in
theorem sg_X12_opens_65 {E : HEn} {d : Nat} {Q : Option Value → HIh → Prop} {I : HIh} {x1 : Int32}
    (k1 : vp_in (x1 + 1) 8)
    (k2 : Q (some (.int 1)) (setI I 98 (upd (I 98) (x1 + 1).toNatClampNeg 0)))
    : HGo E (mF E (d + 3) Q) me_X12_opens 65 [(0, .ref 87), (1, .int x1)] [] I := by
  refine h_aload_n dX12_opens_65 rfl 0 rfl ?_
  refine gf_10_22 dX12_opens_66 hl_X12_45 nl_87 zk_87 zp_87_22 ?_
  refine h_iload_n dX12_opens_69 rfl 1 rfl ?_
  refine h_iconst (v := 1) dX12_opens_70 (by decide) ?_
  refine h_iadd dX12_opens_71 ?_
  refine h_iconst (v := 0) dX12_opens_72 (by decide) ?_
  refine h_iast dX12_opens_73 nl_98 zk_98 (by rw [zn_98]; exact k1) ?_
  refine h_iconst (v := 1) dX12_opens_74 (by decide) ?_
  exact h_zret dX12_opens_75 rfl rfl (k2)
set_option maxHeartbeats 1000000 in
set_option maxRecDepth 4000 in
theorem sg_X12_layGame_0 {E : HEn} {d : Nat} {Q : Option Value → HIh → Prop} {I : HIh} 
    (k1 : HCall E me_X12_copy (d + 3) [.ref 87, .int 0, .int 3] I (fun v9 J => HGo E (mF E (d + 4) Q) me_X12_layGame 11 [(0, .ref 87), (1, .int ((I 87 13) - (I 88 30)))] (v9.toList ++ []) J))
    : HGo E (mF E (d + 4) Q) me_X12_layGame 0 [(0, .ref 87)] [] I := by
  refine h_aload_n dX12_layGame_0 rfl 0 rfl ?_
  refine h_invV (As := []) (st := []) dX12_layGame_1 lk_X12_213 (h_room (by decide)) nl_87 zk_87 (by decide) rfl rfl rfl (Nat.le_of_ble_eq_true rfl) ?_
  refine c_X12_visitsLeft ?_
  refine h_istore_n (L' := [(1, .int ((I 87 13) - (I 88 30))), (0, .ref 87)]) dX12_layGame_4 rfl (by decide) rfl ?_
  refine h_aload_n dX12_layGame_5 rfl 1 rfl ?_
  refine h_iconst (v := 0) dX12_layGame_6 (by decide) ?_
  refine h_iconst (v := 3) dX12_layGame_7 (by decide) ?_
  refine h_pick [1, 0] [(0, .ref 87), (1, .int ((I 87 13) - (I 88 30)))] rfl ?_
  refine h_invV (As := [.int 0, .int 3]) (st := []) dX12_layGame_8 lk_X12_221 (h_room (by decide)) nl_87 zk_87 (by decide) rfl rfl rfl (Nat.le_of_ble_eq_true rfl) ?_
  exact k1
set_option maxHeartbeats 1000000 in
set_option maxRecDepth 4000 in
theorem sg_X12_layGame_11 {E : HEn} {d : Nat} {Q : Option Value → HIh → Prop} {I : HIh} {x1 : Int32}
    (k1 : HGo E (mF E (d + 4) Q) me_X12_layGame 20 [(0, .ref 87), (1, .int x1), (2, .int 0)] [] (setI I 98 (upd (I 98) 0 0)))
    : HGo E (mF E (d + 4) Q) me_X12_layGame 11 [(0, .ref 87), (1, .int x1)] [] I := by
  refine h_aload_n dX12_layGame_11 rfl 0 rfl ?_
  refine gf_10_22 dX12_layGame_12 hl_X12_45 nl_87 zk_87 zp_87_22 ?_
  refine h_iconst (v := 0) dX12_layGame_15 (by decide) ?_
  refine h_iconst (v := 0) dX12_layGame_16 (by decide) ?_
  refine h_iast dX12_layGame_17 nl_98 zk_98 (vp_lit (by rw [zn_98]; decide)) ?_
  refine h_iconst (v := 0) dX12_layGame_18 (by decide) ?_
  refine h_istore_n (L' := [(2, .int 0), (0, .ref 87), (1, .int x1)]) dX12_layGame_19 rfl (by decide) rfl ?_
  refine h_pick [1, 2, 0] [(0, .ref 87), (1, .int x1), (2, .int 0)] rfl ?_
  exact k1
set_option maxHeartbeats 1000000 in
set_option maxRecDepth 4000 in
theorem sg_X12_layGame_20 {E : HEn} {d : Nat} {Q : Option Value → HIh → Prop} {I : HIh} {x1 : Int32} {x2 : Int32}
    (k1 : x2 < 0 → Q none I)
    (k2 : ¬ x2 < 0 → x1 ≤ x2 → ¬ x2 = x1 → vp_in x2 8)
    (k3 : ¬ x2 < 0 → x1 ≤ x2 → ¬ x2 = x1 → (I 87 6) < (I 98 x2.toNatClampNeg) → (x2 + (-1)) < 0 → HGo E (mF E (d + 4) Q) me_X12_layGame 20 [(0, .ref 87), (1, .int x1), (2, .int (x2 + (-1)))] [] I)
    (k4 : ¬ x2 < 0 → x1 ≤ x2 → ¬ x2 = x1 → (I 87 6) < (I 98 x2.toNatClampNeg) → ¬ (x2 + (-1)) < 0 → vp_in ((I 88 30) + (x2 + (-1))) 24)
    (k5 : ¬ x2 < 0 → x1 ≤ x2 → ¬ x2 = x1 → (I 87 6) < (I 98 x2.toNatClampNeg) → ¬ (x2 + (-1)) < 0 → HCall E me_X12_takeUp (d + 3) [.ref 87, .int (x2 + (-1)), .int (I 96 ((I 88 30) + (x2 + (-1))).toNatClampNeg)] I (fun v9 J => HGo E (mF E (d + 4) Q) me_X12_layGame 161 [(0, .ref 87), (1, .int x1), (2, .int (x2 + (-1)))] (v9.toList ++ []) J))
    (k6 : ¬ x2 < 0 → x1 ≤ x2 → ¬ x2 = x1 → ¬ (I 87 6) < (I 98 x2.toNatClampNeg) → HCall E me_X12_opens (d + 3) [.ref 87, .int x2, .int 0] I (fun v9 J => HGo E (mF E (d + 4) Q) me_X12_layGame 113 [(0, .ref 87), (1, .int x1), (2, .int x2)] (v9.toList ++ []) J))
    (k7 : ¬ x2 < 0 → x1 ≤ x2 → x2 = x1 → HGo E (mF E (d + 4) Q) me_X12_layGame 56 [(0, .ref 87), (1, .int x1), (2, .int x2), (4, .int 0)] [] I)
    (k8 : ¬ x2 < 0 → ¬ x1 ≤ x2 → vp_in ((I 88 30) + x2) 24)
    (k9 : ¬ x2 < 0 → ¬ x1 ≤ x2 → ¬ x2 = x1 → vp_in x2 8)
    (k10 : ¬ x2 < 0 → ¬ x1 ≤ x2 → ¬ x2 = x1 → (I 87 6) < (I 98 x2.toNatClampNeg) → (x2 + (-1)) < 0 → HGo E (mF E (d + 4) Q) me_X12_layGame 20 [(0, .ref 87), (1, .int x1), (2, .int (x2 + (-1)))] [] I)
    (k11 : ¬ x2 < 0 → ¬ x1 ≤ x2 → ¬ x2 = x1 → (I 87 6) < (I 98 x2.toNatClampNeg) → ¬ (x2 + (-1)) < 0 → vp_in ((I 88 30) + (x2 + (-1))) 24)
    (k12 : ¬ x2 < 0 → ¬ x1 ≤ x2 → ¬ x2 = x1 → (I 87 6) < (I 98 x2.toNatClampNeg) → ¬ (x2 + (-1)) < 0 → HCall E me_X12_takeUp (d + 3) [.ref 87, .int (x2 + (-1)), .int (I 96 ((I 88 30) + (x2 + (-1))).toNatClampNeg)] I (fun v9 J => HGo E (mF E (d + 4) Q) me_X12_layGame 161 [(0, .ref 87), (1, .int x1), (2, .int (x2 + (-1)))] (v9.toList ++ []) J))
    (k13 : ¬ x2 < 0 → ¬ x1 ≤ x2 → ¬ x2 = x1 → ¬ (I 87 6) < (I 98 x2.toNatClampNeg) → HCall E me_X12_opens (d + 3) [.ref 87, .int x2, .int (I 96 ((I 88 30) + x2).toNatClampNeg)] I (fun v9 J => HGo E (mF E (d + 4) Q) me_X12_layGame 113 [(0, .ref 87), (1, .int x1), (2, .int x2)] (v9.toList ++ []) J))
    (k14 : ¬ x2 < 0 → ¬ x1 ≤ x2 → x2 = x1 → HGo E (mF E (d + 4) Q) me_X12_layGame 56 [(0, .ref 87), (1, .int x1), (2, .int x2), (4, .int 0)] [] I)
    : HGo E (mF E (d + 4) Q) me_X12_layGame 20 [(0, .ref 87), (1, .int x1), (2, .int x2)] [] I := by
  refine h_iload_n dX12_layGame_20 rfl 2 rfl ?_
  refine h_if_lt (tgt := 174) dX12_layGame_21 (by decide) (fun c1 => ?_) (fun c1 => ?_)
  ·
    exact h_vret dX12_layGame_174 rfl (k1 c1)
  ·
    refine h_iload_n dX12_layGame_24 rfl 2 rfl ?_
    refine h_iload_n dX12_layGame_25 rfl 1 rfl ?_
    refine h_icmp_ge (tgt := 46) dX12_layGame_26 (by decide) (fun c2 => ?_) (fun c2 => ?_)
    ·
      refine h_iconst (v := 0) dX12_layGame_46 (by decide) ?_
      refine h_istore_n (L' := [(3, .int 0), (0, .ref 87), (1, .int x1), (2, .int x2)]) dX12_layGame_47 rfl (by decide) rfl ?_
      refine h_iload_n dX12_layGame_48 rfl 3 rfl ?_
      refine h_iload_n dX12_layGame_49 rfl 2 rfl ?_
      refine h_icmp_ne (tgt := 94) dX12_layGame_50 (by decide) (fun c3 => ?_) (fun c3 => ?_)
      ·
        refine h_aload_n dX12_layGame_94 rfl 1 rfl ?_
        refine gf_10_22 dX12_layGame_95 hl_X12_45 nl_87 zk_87 zp_87_22 ?_
        refine h_iload_n dX12_layGame_98 rfl 3 rfl ?_
        refine h_iald dX12_layGame_99 nl_98 zk_98 (by rw [zn_98]; exact k2 c1 c2 c3) ?_
        refine h_aload_n dX12_layGame_100 rfl 1 rfl ?_
        refine gf_10_6 dX12_layGame_101 hl_X12_23 nl_87 zk_87 ?_
        refine h_icmp_gt (tgt := 135) dX12_layGame_104 (by decide) (fun c4 => ?_) (fun c4 => ?_)
        ·
          refine h_iinc (v := (x2 + (-1))) (L' := [(2, .int (x2 + (-1))), (3, .int 0), (0, .ref 87), (1, .int x1)]) dX12_layGame_135 3 rfl rfl (by decide) rfl ?_
          refine h_iload_n dX12_layGame_138 rfl 0 rfl ?_
          refine h_if_lt (tgt := 171) dX12_layGame_139 (by decide) (fun c5 => ?_) (fun c5 => ?_)
          ·
            refine h_goto (tgt := 20) dX12_layGame_171 (by decide) ?_
            refine h_pick [2, 3, 0] [(0, .ref 87), (1, .int x1), (2, .int (x2 + (-1)))] rfl ?_
            exact k3 c1 c2 c3 c4 c5
          ·
            refine h_aload_n dX12_layGame_142 rfl 2 rfl ?_
            refine h_iload_n dX12_layGame_143 rfl 0 rfl ?_
            refine h_aload_n dX12_layGame_144 rfl 2 rfl ?_
            refine gf_10_12 dX12_layGame_145 hl_X12_39 nl_87 zk_87 zp_87_12 ?_
            refine h_aload_n dX12_layGame_148 rfl 2 rfl ?_
            refine gf_10_0 dX12_layGame_149 hl_X12_7 nl_87 zk_87 zp_87_0 ?_
            refine h_bipush (v := 30) dX12_layGame_152 (by decide) ?_
            refine h_iald dX12_layGame_154 nl_88 zk_88 (vp_lit (by rw [zn_88]; decide)) ?_
            refine h_iload_n dX12_layGame_155 rfl 0 rfl ?_
            refine h_iadd dX12_layGame_156 ?_
            refine h_iald dX12_layGame_157 nl_96 zk_96 (by rw [zn_96]; exact k4 c1 c2 c3 c4 c5) ?_
            refine h_pick [2, 3, 0] [(0, .ref 87), (1, .int x1), (2, .int (x2 + (-1)))] rfl ?_
            refine h_invV (As := [.int (x2 + (-1)), .int (I 96 ((I 88 30) + (x2 + (-1))).toNatClampNeg)]) (st := []) dX12_layGame_158 lk_X12_244 (h_room (by decide)) nl_87 zk_87 (by decide) rfl rfl rfl (Nat.le_of_ble_eq_true rfl) ?_
            exact k5 c1 c2 c3 c4 c5
        ·
          refine h_aload_n dX12_layGame_107 rfl 1 rfl ?_
          refine h_iload_n dX12_layGame_108 rfl 3 rfl ?_
          refine h_iload_n dX12_layGame_109 rfl 0 rfl ?_
          refine h_pick [1, 2, 3] [(0, .ref 87), (1, .int x1), (2, .int x2)] rfl ?_
          refine h_invV (As := [.int x2, .int 0]) (st := []) dX12_layGame_110 lk_X12_241 (h_room (by decide)) nl_87 zk_87 (by decide) rfl rfl rfl (Nat.le_of_ble_eq_true rfl) ?_
          exact k6 c1 c2 c3 c4
      ·
        refine h_iconst (v := 0) dX12_layGame_53 (by decide) ?_
        refine h_istore (L' := [(4, .int 0), (3, .int 0), (0, .ref 87), (1, .int x1), (2, .int x2)]) dX12_layGame_54 (by decide) rfl ?_
        refine h_pick [2, 3, 4, 0] [(0, .ref 87), (1, .int x1), (2, .int x2), (4, .int 0)] rfl ?_
        exact k7 c1 c2 c3
    ·
      refine h_aload_n dX12_layGame_29 rfl 0 rfl ?_
      refine gf_10_12 dX12_layGame_30 hl_X12_39 nl_87 zk_87 zp_87_12 ?_
      refine h_aload_n dX12_layGame_33 rfl 0 rfl ?_
      refine gf_10_0 dX12_layGame_34 hl_X12_7 nl_87 zk_87 zp_87_0 ?_
      refine h_bipush (v := 30) dX12_layGame_37 (by decide) ?_
      refine h_iald dX12_layGame_39 nl_88 zk_88 (vp_lit (by rw [zn_88]; decide)) ?_
      refine h_iload_n dX12_layGame_40 rfl 2 rfl ?_
      refine h_iadd dX12_layGame_41 ?_
      refine h_iald dX12_layGame_42 nl_96 zk_96 (by rw [zn_96]; exact k8 c1 c2) ?_
      refine h_goto (tgt := 47) dX12_layGame_43 (by decide) ?_
      refine h_istore_n (L' := [(3, .int (I 96 ((I 88 30) + x2).toNatClampNeg)), (0, .ref 87), (1, .int x1), (2, .int x2)]) dX12_layGame_47 rfl (by decide) rfl ?_
      refine h_iload_n dX12_layGame_48 rfl 3 rfl ?_
      refine h_iload_n dX12_layGame_49 rfl 2 rfl ?_
      refine h_icmp_ne (tgt := 94) dX12_layGame_50 (by decide) (fun c6 => ?_) (fun c6 => ?_)
      ·
        refine h_aload_n dX12_layGame_94 rfl 1 rfl ?_
        refine gf_10_22 dX12_layGame_95 hl_X12_45 nl_87 zk_87 zp_87_22 ?_
        refine h_iload_n dX12_layGame_98 rfl 3 rfl ?_
        refine h_iald dX12_layGame_99 nl_98 zk_98 (by rw [zn_98]; exact k9 c1 c2 c6) ?_
        refine h_aload_n dX12_layGame_100 rfl 1 rfl ?_
        refine gf_10_6 dX12_layGame_101 hl_X12_23 nl_87 zk_87 ?_
        refine h_icmp_gt (tgt := 135) dX12_layGame_104 (by decide) (fun c7 => ?_) (fun c7 => ?_)
        ·
          refine h_iinc (v := (x2 + (-1))) (L' := [(2, .int (x2 + (-1))), (3, .int (I 96 ((I 88 30) + x2).toNatClampNeg)), (0, .ref 87), (1, .int x1)]) dX12_layGame_135 3 rfl rfl (by decide) rfl ?_
          refine h_iload_n dX12_layGame_138 rfl 0 rfl ?_
          refine h_if_lt (tgt := 171) dX12_layGame_139 (by decide) (fun c8 => ?_) (fun c8 => ?_)
          ·
            refine h_goto (tgt := 20) dX12_layGame_171 (by decide) ?_
            refine h_pick [2, 3, 0] [(0, .ref 87), (1, .int x1), (2, .int (x2 + (-1)))] rfl ?_
            exact k10 c1 c2 c6 c7 c8
          ·
            refine h_aload_n dX12_layGame_142 rfl 2 rfl ?_
            refine h_iload_n dX12_layGame_143 rfl 0 rfl ?_
            refine h_aload_n dX12_layGame_144 rfl 2 rfl ?_
            refine gf_10_12 dX12_layGame_145 hl_X12_39 nl_87 zk_87 zp_87_12 ?_
            refine h_aload_n dX12_layGame_148 rfl 2 rfl ?_
            refine gf_10_0 dX12_layGame_149 hl_X12_7 nl_87 zk_87 zp_87_0 ?_
            refine h_bipush (v := 30) dX12_layGame_152 (by decide) ?_
            refine h_iald dX12_layGame_154 nl_88 zk_88 (vp_lit (by rw [zn_88]; decide)) ?_
            refine h_iload_n dX12_layGame_155 rfl 0 rfl ?_
            refine h_iadd dX12_layGame_156 ?_
            refine h_iald dX12_layGame_157 nl_96 zk_96 (by rw [zn_96]; exact k11 c1 c2 c6 c7 c8) ?_
            refine h_pick [2, 3, 0] [(0, .ref 87), (1, .int x1), (2, .int (x2 + (-1)))] rfl ?_
            refine h_invV (As := [.int (x2 + (-1)), .int (I 96 ((I 88 30) + (x2 + (-1))).toNatClampNeg)]) (st := []) dX12_layGame_158 lk_X12_244 (h_room (by decide)) nl_87 zk_87 (by decide) rfl rfl rfl (Nat.le_of_ble_eq_true rfl) ?_
            exact k12 c1 c2 c6 c7 c8
        ·
          refine h_aload_n dX12_layGame_107 rfl 1 rfl ?_
          refine h_iload_n dX12_layGame_108 rfl 3 rfl ?_
          refine h_iload_n dX12_layGame_109 rfl 0 rfl ?_
          refine h_pick [1, 2, 3] [(0, .ref 87), (1, .int x1), (2, .int x2)] rfl ?_
          refine h_invV (As := [.int x2, .int (I 96 ((I 88 30) + x2).toNatClampNeg)]) (st := []) dX12_layGame_110 lk_X12_241 (h_room (by decide)) nl_87 zk_87 (by decide) rfl rfl rfl (Nat.le_of_ble_eq_true rfl) ?_
          exact k13 c1 c2 c6 c7
      ·
        refine h_iconst (v := 0) dX12_layGame_53 (by decide) ?_
        refine h_istore (L' := [(4, .int 0), (3, .int (I 96 ((I 88 30) + x2).toNatClampNeg)), (0, .ref 87), (1, .int x1), (2, .int x2)]) dX12_layGame_54 (by decide) rfl ?_
        refine h_pick [2, 3, 4, 0] [(0, .ref 87), (1, .int x1), (2, .int x2), (4, .int 0)] rfl ?_
        exact k14 c1 c2 c6
set_option maxHeartbeats 1000000 in
set_option maxRecDepth 4000 in
theorem sg_X12_layGame_161 {E : HEn} {d : Nat} {Q : Option Value → HIh → Prop} {I : HIh} {x1 : Int32} {x2 : Int32}
    (k1 : vp_in x2 8)
    (k2 : HGo E (mF E (d + 4) Q) me_X12_layGame 20 [(0, .ref 87), (1, .int x1), (2, .int x2)] [] (setI I 98 (upd (I 98) x2.toNatClampNeg ((I 98 x2.toNatClampNeg) + 1))))
    : HGo E (mF E (d + 4) Q) me_X12_layGame 161 [(0, .ref 87), (1, .int x1), (2, .int x2)] [] I := by
  refine h_aload_n dX12_layGame_161 rfl 0 rfl ?_
  refine gf_10_22 dX12_layGame_162 hl_X12_45 nl_87 zk_87 zp_87_22 ?_
  refine h_iload_n dX12_layGame_165 rfl 2 rfl ?_
  refine h_dup2 dX12_layGame_166 rfl rfl ?_
  refine h_iald dX12_layGame_167 nl_98 zk_98 (by rw [zn_98]; exact k1) ?_
  refine h_iconst (v := 1) dX12_layGame_168 (by decide) ?_
  refine h_iadd dX12_layGame_169 ?_
  refine h_iast dX12_layGame_170 nl_98 zk_98 (by rw [zn_98]; exact k1) ?_
  refine h_goto (tgt := 20) dX12_layGame_171 (by decide) ?_
  exact k2
set_option maxHeartbeats 1000000 in
set_option maxRecDepth 4000 in
theorem sg_X12_layGame_113 {E : HEn} {d : Nat} {Q : Option Value → HIh → Prop} {I : HIh} {x1 : Int32} {x2 : Int32} {s0 : Int32}
    (k1 : s0 = 0 → vp_in x2 8)
    (k2 : s0 = 0 → HGo E (mF E (d + 4) Q) me_X12_layGame 20 [(0, .ref 87), (1, .int x1), (2, .int x2)] [] (setI I 98 (upd (I 98) x2.toNatClampNeg ((I 98 x2.toNatClampNeg) + 1))))
    (k3 : ¬ s0 = 0 → HGo E (mF E (d + 4) Q) me_X12_layGame 20 [(0, .ref 87), (1, .int x1), (2, .int (x2 + 1))] [] I)
    : HGo E (mF E (d + 4) Q) me_X12_layGame 113 [(0, .ref 87), (1, .int x1), (2, .int x2)] [.int s0] I := by
  refine h_if_eq (tgt := 122) dX12_layGame_113 (by decide) (fun c1 => ?_) (fun c1 => ?_)
  ·
    refine h_aload_n dX12_layGame_122 rfl 0 rfl ?_
    refine gf_10_22 dX12_layGame_123 hl_X12_45 nl_87 zk_87 zp_87_22 ?_
    refine h_iload_n dX12_layGame_126 rfl 2 rfl ?_
    refine h_dup2 dX12_layGame_127 rfl rfl ?_
    refine h_iald dX12_layGame_128 nl_98 zk_98 (by rw [zn_98]; exact k1 c1) ?_
    refine h_iconst (v := 1) dX12_layGame_129 (by decide) ?_
    refine h_iadd dX12_layGame_130 ?_
    refine h_iast dX12_layGame_131 nl_98 zk_98 (by rw [zn_98]; exact k1 c1) ?_
    refine h_goto (tgt := 20) dX12_layGame_132 (by decide) ?_
    exact k2 c1
  ·
    refine h_iinc (v := (x2 + 1)) (L' := [(2, .int (x2 + 1)), (0, .ref 87), (1, .int x1)]) dX12_layGame_116 2 rfl rfl (by decide) rfl ?_
    refine h_goto (tgt := 20) dX12_layGame_119 (by decide) ?_
    refine h_pick [1, 2, 0] [(0, .ref 87), (1, .int x1), (2, .int (x2 + 1))] rfl ?_
    exact k3 c1
set_option maxHeartbeats 1000000 in
set_option maxRecDepth 4000 in
theorem sg_X12_layGame_56 {E : HEn} {d : Nat} {Q : Option Value → HIh → Prop} {I : HIh} {x1 : Int32} {x2 : Int32} {x4 : Int32}
    (k1 : 4 ≤ x4 → (x2 + (-1)) < 0 → HGo E (mF E (d + 4) Q) me_X12_layGame 20 [(0, .ref 87), (1, .int x1), (2, .int (x2 + (-1)))] [] I)
    (k2 : 4 ≤ x4 → ¬ (x2 + (-1)) < 0 → vp_in ((I 88 30) + (x2 + (-1))) 24)
    (k3 : 4 ≤ x4 → ¬ (x2 + (-1)) < 0 → HCall E me_X12_takeUp (d + 3) [.ref 87, .int (x2 + (-1)), .int (I 96 ((I 88 30) + (x2 + (-1))).toNatClampNeg)] I (fun v9 J => HGo E (mF E (d + 4) Q) me_X12_layGame 161 [(0, .ref 87), (1, .int x1), (2, .int (x2 + (-1)))] (v9.toList ++ []) J))
    (k4 : ¬ 4 ≤ x4 → HCall E me_X12_worthOf (d + 3) [.ref 87, .int (31 * (3 + x2)), .int x4] I (fun v9 J => HGo E (mF E (d + 4) Q) me_X12_layGame 84 [(0, .ref 87), (1, .int x1), (2, .int x2), (4, .int x4)] (v9.toList ++ [.int ((4 * x2) + x4), .ref 99]) J))
    : HGo E (mF E (d + 4) Q) me_X12_layGame 56 [(0, .ref 87), (1, .int x1), (2, .int x2), (4, .int x4)] [] I := by
  refine h_iload dX12_layGame_56 3 rfl ?_
  refine h_iconst (v := 4) dX12_layGame_58 (by decide) ?_
  refine h_icmp_ge (tgt := 91) dX12_layGame_59 (by decide) (fun c1 => ?_) (fun c1 => ?_)
  ·
    refine h_goto (tgt := 135) dX12_layGame_91 (by decide) ?_
    refine h_iinc (v := (x2 + (-1))) (L' := [(2, .int (x2 + (-1))), (0, .ref 87), (1, .int x1), (4, .int x4)]) dX12_layGame_135 2 rfl rfl (by decide) rfl ?_
    refine h_iload_n dX12_layGame_138 rfl 0 rfl ?_
    refine h_if_lt (tgt := 171) dX12_layGame_139 (by decide) (fun c2 => ?_) (fun c2 => ?_)
    ·
      refine h_goto (tgt := 20) dX12_layGame_171 (by decide) ?_
      refine h_pick [1, 2, 0] [(0, .ref 87), (1, .int x1), (2, .int (x2 + (-1)))] rfl ?_
      exact k1 c1 c2
    ·
      refine h_aload_n dX12_layGame_142 rfl 1 rfl ?_
      refine h_iload_n dX12_layGame_143 rfl 0 rfl ?_
      refine h_aload_n dX12_layGame_144 rfl 1 rfl ?_
      refine gf_10_12 dX12_layGame_145 hl_X12_39 nl_87 zk_87 zp_87_12 ?_
      refine h_aload_n dX12_layGame_148 rfl 1 rfl ?_
      refine gf_10_0 dX12_layGame_149 hl_X12_7 nl_87 zk_87 zp_87_0 ?_
      refine h_bipush (v := 30) dX12_layGame_152 (by decide) ?_
      refine h_iald dX12_layGame_154 nl_88 zk_88 (vp_lit (by rw [zn_88]; decide)) ?_
      refine h_iload_n dX12_layGame_155 rfl 0 rfl ?_
      refine h_iadd dX12_layGame_156 ?_
      refine h_iald dX12_layGame_157 nl_96 zk_96 (by rw [zn_96]; exact k2 c1 c2) ?_
      refine h_pick [1, 2, 0] [(0, .ref 87), (1, .int x1), (2, .int (x2 + (-1)))] rfl ?_
      refine h_invV (As := [.int (x2 + (-1)), .int (I 96 ((I 88 30) + (x2 + (-1))).toNatClampNeg)]) (st := []) dX12_layGame_158 lk_X12_244 (h_room (by decide)) nl_87 zk_87 (by decide) rfl rfl rfl (Nat.le_of_ble_eq_true rfl) ?_
      exact k3 c1 c2
  ·
    refine h_aload_n dX12_layGame_62 rfl 0 rfl ?_
    refine gf_10_23 dX12_layGame_63 hl_X12_48 nl_87 zk_87 zp_87_23 ?_
    refine h_iconst (v := 4) dX12_layGame_66 (by decide) ?_
    refine h_iload_n dX12_layGame_67 rfl 2 rfl ?_
    refine h_imul dX12_layGame_68 ?_
    refine h_iload dX12_layGame_69 3 rfl ?_
    refine h_iadd dX12_layGame_71 ?_
    refine h_aload_n dX12_layGame_72 rfl 0 rfl ?_
    refine h_bipush (v := 31) dX12_layGame_73 (by decide) ?_
    refine h_iconst (v := 3) dX12_layGame_75 (by decide) ?_
    refine h_iload_n dX12_layGame_76 rfl 2 rfl ?_
    refine h_iadd dX12_layGame_77 ?_
    refine h_imul dX12_layGame_78 ?_
    refine h_iload dX12_layGame_79 3 rfl ?_
    refine h_invV (As := [.int (31 * (3 + x2)), .int x4]) (st := [.int ((4 * x2) + x4), .ref 99]) dX12_layGame_81 lk_X12_186 (h_room (by decide)) nl_87 zk_87 (by decide) rfl rfl rfl (Nat.le_of_ble_eq_true rfl) ?_
    exact k4 c1
set_option maxHeartbeats 1000000 in
set_option maxRecDepth 4000 in
theorem sg_X12_layGame_84 {E : HEn} {d : Nat} {Q : Option Value → HIh → Prop} {I : HIh} {x1 : Int32} {x2 : Int32} {x4 : Int32} {s0 : Int32} {s1 : Int32}
    (k1 : vp_in s1 32)
    (k2 : HGo E (mF E (d + 4) Q) me_X12_layGame 56 [(0, .ref 87), (1, .int x1), (2, .int x2), (4, .int (x4 + 1))] [] (setI I 99 (upd (I 99) s1.toNatClampNeg s0)))
    : HGo E (mF E (d + 4) Q) me_X12_layGame 84 [(0, .ref 87), (1, .int x1), (2, .int x2), (4, .int x4)] [.int s0, .int s1, .ref 99] I := by
  refine h_iast dX12_layGame_84 nl_99 zk_99 (by rw [zn_99]; exact k1) ?_
  refine h_iinc (v := (x4 + 1)) (L' := [(4, .int (x4 + 1)), (0, .ref 87), (1, .int x1), (2, .int x2)]) dX12_layGame_85 3 rfl rfl (by decide) rfl ?_
  refine h_goto (tgt := 56) dX12_layGame_88 (by decide) ?_
  refine h_pick [1, 2, 3, 0] [(0, .ref 87), (1, .int x1), (2, .int x2), (4, .int (x4 + 1))] rfl ?_
  exact k2
set_option maxHeartbeats 1000000 in
set_option maxRecDepth 4000 in
theorem sg_X12_game_0 {E : HEn} {d : Nat} {Q : Option Value → HIh → Prop} {I : HIh} {a : Int32}
    (k1 : (0 : Int32) ≤ a → a < 4 → ((I 87 13) - (I 88 30)) ≤ 6 → HCall E me_X12_layGame (d + 4) [.ref 87] I (fun v9 J => HGo E (mF E (d + 5) Q) me_X12_game 26 [(0, .ref 87), (1, .int a)] (v9.toList ++ []) J))
    (k2 : (0 : Int32) ≤ a → a < 4 → ¬ ((I 87 13) - (I 88 30)) ≤ 6 → Q (some (.int (-4))) I)
    (k3 : ¬ ((0 : Int32) ≤ a ∧ a < 4) → Q (some (.int (-2))) I)
    : HGo E (mF E (d + 5) Q) me_X12_game 0 [(0, .ref 87), (1, .int a)] [] I := by
  refine h_iload_n dX12_game_0 rfl 1 rfl ?_
  refine h_invS (As := [.int a]) (st := []) dX12_game_1 lk_X12_180 (h_room (by decide)) rfl rfl (Nat.le_of_ble_eq_true rfl) ?_
  refine c_X12_isPerson (fun c1 c2 => ?_) (fun c3 => ?_)
  ·
    refine h_if_ne (tgt := 10) dX12_game_4 (by decide) (fun _ => ?_) (fun c => absurd c (by decide))
    refine h_aload_n dX12_game_10 rfl 0 rfl ?_
    refine h_invV (As := []) (st := []) dX12_game_11 lk_X12_213 (h_room (by decide)) nl_87 zk_87 (by decide) rfl rfl rfl (Nat.le_of_ble_eq_true rfl) ?_
    refine c_X12_visitsLeft ?_
    refine h_bipush (v := 6) dX12_game_14 (by decide) ?_
    refine h_icmp_le (tgt := 22) dX12_game_16 (by decide) (fun c4 => ?_) (fun c4 => ?_)
    ·
      refine h_aload_n dX12_game_22 rfl 0 rfl ?_
      refine h_invV (As := []) (st := []) dX12_game_23 lk_X12_247 (h_room (by decide)) nl_87 zk_87 (by decide) rfl rfl rfl (Nat.le_of_ble_eq_true rfl) ?_
      exact k1 c1 c2 c4
    ·
      refine h_bipush (v := (-4)) dX12_game_19 (by decide) ?_
      exact h_iret dX12_game_21 rfl (k2 c1 c2 c4)
  ·
    refine h_if_ne (tgt := 10) dX12_game_4 (by decide) (fun c => absurd c (by decide)) (fun _ => ?_)
    refine h_bipush (v := (-2)) dX12_game_7 (by decide) ?_
    exact h_iret dX12_game_9 rfl (k3 c3)
set_option maxHeartbeats 1000000 in
set_option maxRecDepth 4000 in
theorem sg_X12_game_26 {E : HEn} {d : Nat} {Q : Option Value → HIh → Prop} {I : HIh} {x1 : Int32}
    (k1 : vp_in x1 32)
    (k2 : Q (some (.int (I 99 x1.toNatClampNeg))) I)
    : HGo E (mF E (d + 5) Q) me_X12_game 26 [(0, .ref 87), (1, .int x1)] [] I := by
  refine h_aload_n dX12_game_26 rfl 0 rfl ?_
  refine gf_10_23 dX12_game_27 hl_X12_48 nl_87 zk_87 zp_87_23 ?_
  refine h_iload_n dX12_game_30 rfl 1 rfl ?_
  refine h_iald dX12_game_31 nl_99 zk_99 (by rw [zn_99]; exact k1) ?_
  exact h_iret dX12_game_32 rfl (k2)
set_option maxHeartbeats 1000000 in
set_option maxRecDepth 4000 in
theorem sg_X12_choice_0 {E : HEn} {d : Nat} {Q : Option Value → HIh → Prop} {I : HIh} {a : Int32}
    (k1 : 0 ≤ a → ((I 87 13) - (I 88 30)) ≤ 6 → HCall E me_X12_layGame (d + 4) [.ref 87] I (fun v9 J => HGo E (mF E (d + 5) Q) me_X12_choice 23 [(0, .ref 87), (1, .int a)] (v9.toList ++ []) J))
    (k2 : 0 ≤ a → ¬ ((I 87 13) - (I 88 30)) ≤ 6 → Q (some (.int (-4))) I)
    (k3 : ¬ 0 ≤ a → Q (some (.int (-3))) I)
    : HGo E (mF E (d + 5) Q) me_X12_choice 0 [(0, .ref 87), (1, .int a)] [] I := by
  refine h_iload_n dX12_choice_0 rfl 1 rfl ?_
  refine h_if_ge (tgt := 7) dX12_choice_1 (by decide) (fun c1 => ?_) (fun c1 => ?_)
  ·
    refine h_aload_n dX12_choice_7 rfl 0 rfl ?_
    refine h_invV (As := []) (st := []) dX12_choice_8 lk_X12_213 (h_room (by decide)) nl_87 zk_87 (by decide) rfl rfl rfl (Nat.le_of_ble_eq_true rfl) ?_
    refine c_X12_visitsLeft ?_
    refine h_bipush (v := 6) dX12_choice_11 (by decide) ?_
    refine h_icmp_le (tgt := 19) dX12_choice_13 (by decide) (fun c2 => ?_) (fun c2 => ?_)
    ·
      refine h_aload_n dX12_choice_19 rfl 0 rfl ?_
      refine h_invV (As := []) (st := []) dX12_choice_20 lk_X12_247 (h_room (by decide)) nl_87 zk_87 (by decide) rfl rfl rfl (Nat.le_of_ble_eq_true rfl) ?_
      exact k1 c1 c2
    ·
      refine h_bipush (v := (-4)) dX12_choice_16 (by decide) ?_
      exact h_iret dX12_choice_18 rfl (k2 c1 c2)
  ·
    refine h_bipush (v := (-3)) dX12_choice_4 (by decide) ?_
    exact h_iret dX12_choice_6 rfl (k3 c1)
set_option maxHeartbeats 1000000 in
set_option maxRecDepth 4000 in
theorem sg_X12_choice_23 {E : HEn} {d : Nat} {Q : Option Value → HIh → Prop} {I : HIh} {x1 : Int32}
    (k1 : ((I 87 13) - (I 88 30)) ≤ x1 → Q (some (.int (-1))) I)
    (k2 : ¬ ((I 87 13) - (I 88 30)) ≤ x1 → vp_in x1 56)
    (k3 : ¬ ((I 87 13) - (I 88 30)) ≤ x1 → Q (some (.int (I 100 x1.toNatClampNeg))) I)
    : HGo E (mF E (d + 5) Q) me_X12_choice 23 [(0, .ref 87), (1, .int x1)] [] I := by
  refine h_iload_n dX12_choice_23 rfl 1 rfl ?_
  refine h_aload_n dX12_choice_24 rfl 0 rfl ?_
  refine h_invV (As := []) (st := [.int x1]) dX12_choice_25 lk_X12_213 (h_room (by decide)) nl_87 zk_87 (by decide) rfl rfl rfl (Nat.le_of_ble_eq_true rfl) ?_
  refine c_X12_visitsLeft ?_
  refine h_icmp_ge (tgt := 40) dX12_choice_28 (by decide) (fun c1 => ?_) (fun c1 => ?_)
  ·
    refine h_iconst (v := (-1)) dX12_choice_40 (by decide) ?_
    exact h_iret dX12_choice_41 rfl (k1 c1)
  ·
    refine h_aload_n dX12_choice_31 rfl 0 rfl ?_
    refine gf_10_24 dX12_choice_32 hl_X12_51 nl_87 zk_87 zp_87_24 ?_
    refine h_iload_n dX12_choice_35 rfl 1 rfl ?_
    refine h_iald dX12_choice_36 nl_100 zk_100 (by rw [zn_100]; exact k2 c1) ?_
    refine h_goto (tgt := 41) dX12_choice_37 (by decide) ?_
    exact h_iret dX12_choice_41 rfl (k3 c1)
set_option maxHeartbeats 1000000 in
set_option maxRecDepth 4000 in
theorem sg_X12_divisor_0 {E : HEn} {d : Nat} {Q : Option Value → HIh → Prop} {I : HIh} {a : Int64} {b : Int64}
    (k1 : HGo E (mF E (d + 1) Q) me_X12_divisor 6 [(4, .long a), (6, .long b)] [] I)
    : HGo E (mF E (d + 1) Q) me_X12_divisor 0 [(0, .long a), (2, .long b)] [] I := by
  refine h_lload_n dX12_divisor_0 rfl 0 rfl ?_
  refine h_lstore (L' := [(4, .long a), (0, .long a), (2, .long b)]) dX12_divisor_1 (by decide) rfl ?_
  refine h_lload_n dX12_divisor_3 rfl 2 rfl ?_
  refine h_lstore (L' := [(6, .long b), (4, .long a), (0, .long a), (2, .long b)]) dX12_divisor_4 (by decide) rfl ?_
  refine h_pick [1, 0] [(4, .long a), (6, .long b)] rfl ?_
  exact k1
set_option maxHeartbeats 1000000 in
set_option maxRecDepth 4000 in
theorem sg_X12_divisor_6 {E : HEn} {d : Nat} {Q : Option Value → HIh → Prop} {I : HIh} {x4 : Int64} {x6 : Int64}
    (k1 : (lg_cmp x6 0) = 0 → Q (some (.long x4)) I)
    (k2 : ¬ (lg_cmp x6 0) = 0 → ¬ x6 = 0)
    (k3 : ¬ (lg_cmp x6 0) = 0 → HGo E (mF E (d + 1) Q) me_X12_divisor 6 [(4, .long x6), (6, .long (x4 - x4 / x6 * x6))] [] I)
    : HGo E (mF E (d + 1) Q) me_X12_divisor 6 [(4, .long x4), (6, .long x6)] [] I := by
  refine h_lload dX12_divisor_6 1 rfl ?_
  refine h_lconst (v := 0) dX12_divisor_8 (by decide) ?_
  refine h_lcmp dX12_divisor_9 ?_
  refine h_if_eq (tgt := 31) dX12_divisor_10 (by decide) (fun c1 => ?_) (fun c1 => ?_)
  ·
    refine h_lload dX12_divisor_31 0 rfl ?_
    exact h_lret dX12_divisor_33 rfl (k1 c1)
  ·
    refine h_lload dX12_divisor_13 0 rfl ?_
    refine h_lload dX12_divisor_15 1 rfl ?_
    refine h_lrem dX12_divisor_17 (k2 c1) ?_
    refine h_lstore (L' := [(8, .long (x4 - x4 / x6 * x6)), (4, .long x4), (6, .long x6)]) dX12_divisor_18 (by decide) rfl ?_
    refine h_lload dX12_divisor_20 2 rfl ?_
    refine h_lstore (L' := [(4, .long x6), (8, .long (x4 - x4 / x6 * x6)), (6, .long x6)]) dX12_divisor_22 (by decide) rfl ?_
    refine h_lload dX12_divisor_24 1 rfl ?_
    refine h_lstore (L' := [(6, .long (x4 - x4 / x6 * x6)), (4, .long x6), (8, .long (x4 - x4 / x6 * x6))]) dX12_divisor_26 (by decide) rfl ?_
    refine h_goto (tgt := 6) dX12_divisor_28 (by decide) ?_
    refine h_pick [1, 0] [(4, .long x6), (6, .long (x4 - x4 / x6 * x6))] rfl ?_
    exact k3 c1
set_option maxHeartbeats 1000000 in
set_option maxRecDepth 4000 in
theorem sg_X12_worthBy_0 {E : HEn} {d : Nat} {Q : Option Value → HIh → Prop} {I : HIh} {a : Int32} {b : Int32}
    (k1 : HCall E me_X12_copy (d + 4) [.ref 87, .int 0, .int 3] I (fun v9 J => HGo E (mF E (d + 5) Q) me_X12_worthBy 6 [(0, .ref 87), (1, .int a), (2, .int b)] (v9.toList ++ []) J))
    : HGo E (mF E (d + 5) Q) me_X12_worthBy 0 [(0, .ref 87), (1, .int a), (2, .int b)] [] I := by
  refine h_aload_n dX12_worthBy_0 rfl 0 rfl ?_
  refine h_iconst (v := 0) dX12_worthBy_1 (by decide) ?_
  refine h_iconst (v := 3) dX12_worthBy_2 (by decide) ?_
  refine h_invV (As := [.int 0, .int 3]) (st := []) dX12_worthBy_3 lk_X12_221 (h_room (by decide)) nl_87 zk_87 (by decide) rfl rfl rfl (Nat.le_of_ble_eq_true rfl) ?_
  exact k1
set_option maxHeartbeats 1000000 in
set_option maxRecDepth 4000 in
theorem sg_X12_worthBy_6 {E : HEn} {d : Nat} {Q : Option Value → HIh → Prop} {I : HIh} {x1 : Int32} {x2 : Int32}
    (k1 : HGo E (mF E (d + 5) Q) me_X12_worthBy 17 [(0, .ref 87), (1, .int x1), (2, .int x2), (3, .int 0), (4, .int (I 88 30))] [] I)
    : HGo E (mF E (d + 5) Q) me_X12_worthBy 6 [(0, .ref 87), (1, .int x1), (2, .int x2)] [] I := by
  refine h_iconst (v := 0) dX12_worthBy_6 (by decide) ?_
  refine h_istore_n (L' := [(3, .int 0), (0, .ref 87), (1, .int x1), (2, .int x2)]) dX12_worthBy_7 rfl (by decide) rfl ?_
  refine h_aload_n dX12_worthBy_8 rfl 1 rfl ?_
  refine gf_10_0 dX12_worthBy_9 hl_X12_7 nl_87 zk_87 zp_87_0 ?_
  refine h_bipush (v := 30) dX12_worthBy_12 (by decide) ?_
  refine h_iald dX12_worthBy_14 nl_88 zk_88 (vp_lit (by rw [zn_88]; decide)) ?_
  refine h_istore (L' := [(4, .int (I 88 30)), (3, .int 0), (0, .ref 87), (1, .int x1), (2, .int x2)]) dX12_worthBy_15 (by decide) rfl ?_
  refine h_pick [2, 3, 4, 1, 0] [(0, .ref 87), (1, .int x1), (2, .int x2), (3, .int 0), (4, .int (I 88 30))] rfl ?_
  exact k1
set_option maxHeartbeats 1000000 in
set_option maxRecDepth 4000 in
theorem sg_X12_worthBy_17 {E : HEn} {d : Nat} {Q : Option Value → HIh → Prop} {I : HIh} {x1 : Int32} {x2 : Int32} {x3 : Int32} {x4 : Int32}
    (k1 : (I 87 13) ≤ x4 → HCall E me_X12_worthOf (d + 4) [.ref 87, .int 93, .int x1] I (fun v9 J => HGo E (mF E (d + 5) Q) me_X12_worthBy 97 [] (v9.toList ++ []) J))
    (k2 : ¬ (I 87 13) ≤ x4 → vp_in x4 24)
    (k3 : ¬ (I 87 13) ≤ x4 → ¬ (I 96 x4.toNatClampNeg) = x1 → (x2 >>> (x3 &&& 31)) &&& 1 = 1 → vp_in x4 24)
    (k4 : ¬ (I 87 13) ≤ x4 → ¬ (I 96 x4.toNatClampNeg) = x1 → (x2 >>> (x3 &&& 31)) &&& 1 = 1 → HCall E me_X12_visitsBy (d + 4) [.ref 87, .int 93, .int (I 96 x4.toNatClampNeg)] I (fun v9 J => HGo E (mF E (d + 5) Q) me_X12_worthBy 70 [(0, .ref 87), (1, .int x1), (2, .int x2), (3, .int x3), (4, .int x4), (5, .int 0)] (v9.toList ++ []) J))
    (k5 : ¬ (I 87 13) ≤ x4 → ¬ (I 96 x4.toNatClampNeg) = x1 → ¬ (x2 >>> (x3 &&& 31)) &&& 1 = 1 → HGo E (mF E (d + 5) Q) me_X12_worthBy 17 [(0, .ref 87), (1, .int x1), (2, .int x2), (3, .int (x3 + 1)), (4, .int (x4 + 1))] [] I)
    (k6 : ¬ (I 87 13) ≤ x4 → (I 96 x4.toNatClampNeg) = x1 → vp_in x4 24)
    (k7 : ¬ (I 87 13) ≤ x4 → (I 96 x4.toNatClampNeg) = x1 → HCall E me_X12_visitsBy (d + 4) [.ref 87, .int 93, .int (I 96 x4.toNatClampNeg)] I (fun v9 J => HGo E (mF E (d + 5) Q) me_X12_worthBy 70 [(0, .ref 87), (1, .int x1), (2, .int x2), (3, .int x3), (4, .int x4), (5, .int 1)] (v9.toList ++ []) J))
    : HGo E (mF E (d + 5) Q) me_X12_worthBy 17 [(0, .ref 87), (1, .int x1), (2, .int x2), (3, .int x3), (4, .int x4)] [] I := by
  refine h_iload dX12_worthBy_17 4 rfl ?_
  refine h_aload_n dX12_worthBy_19 rfl 0 rfl ?_
  refine gf_10_13 dX12_worthBy_20 hl_X12_147 nl_87 zk_87 ?_
  refine h_icmp_ge (tgt := 90) dX12_worthBy_23 (by decide) (fun c1 => ?_) (fun c1 => ?_)
  ·
    refine h_aload_n dX12_worthBy_90 rfl 0 rfl ?_
    refine h_bipush (v := 93) dX12_worthBy_91 (by decide) ?_
    refine h_iload_n dX12_worthBy_93 rfl 1 rfl ?_
    refine h_pick [] [] rfl ?_
    refine h_invV (As := [.int 93, .int x1]) (st := []) dX12_worthBy_94 lk_X12_186 (h_room (by decide)) nl_87 zk_87 (by decide) rfl rfl rfl (Nat.le_of_ble_eq_true rfl) ?_
    exact k1 c1
  ·
    refine h_aload_n dX12_worthBy_26 rfl 0 rfl ?_
    refine gf_10_12 dX12_worthBy_27 hl_X12_39 nl_87 zk_87 zp_87_12 ?_
    refine h_iload dX12_worthBy_30 4 rfl ?_
    refine h_iald dX12_worthBy_32 nl_96 zk_96 (by rw [zn_96]; exact k2 c1) ?_
    refine h_iload_n dX12_worthBy_33 rfl 1 rfl ?_
    refine h_icmp_ne (tgt := 41) dX12_worthBy_34 (by decide) (fun c2 => ?_) (fun c2 => ?_)
    ·
      refine h_iconst (v := 0) dX12_worthBy_41 (by decide) ?_
      refine h_istore (L' := [(5, .int 0), (0, .ref 87), (1, .int x1), (2, .int x2), (3, .int x3), (4, .int x4)]) dX12_worthBy_42 (by decide) rfl ?_
      refine h_iload dX12_worthBy_44 0 rfl ?_
      refine h_if_ne (tgt := 57) dX12_worthBy_46 (by decide) (fun c => absurd c (by decide)) (fun _ => ?_)
      refine h_iload_n dX12_worthBy_49 rfl 3 rfl ?_
      refine h_iload_n dX12_worthBy_50 rfl 4 rfl ?_
      refine h_invS (As := [.int x2, .int x3]) (st := []) dX12_worthBy_51 lk_X12_183 (h_room (by decide)) rfl rfl (Nat.le_of_ble_eq_true rfl) ?_
      refine c_X12_has (fun c3 => ?_) (fun c4 => ?_)
      ·
        refine h_if_eq (tgt := 71) dX12_worthBy_54 (by decide) (fun c => absurd c (by decide)) (fun _ => ?_)
        refine h_aload_n dX12_worthBy_57 rfl 1 rfl ?_
        refine h_bipush (v := 93) dX12_worthBy_58 (by decide) ?_
        refine h_aload_n dX12_worthBy_60 rfl 1 rfl ?_
        refine gf_10_12 dX12_worthBy_61 hl_X12_39 nl_87 zk_87 zp_87_12 ?_
        refine h_iload dX12_worthBy_64 5 rfl ?_
        refine h_iald dX12_worthBy_66 nl_96 zk_96 (by rw [zn_96]; exact k3 c1 c2 c3) ?_
        refine h_pick [1, 2, 3, 4, 5, 0] [(0, .ref 87), (1, .int x1), (2, .int x2), (3, .int x3), (4, .int x4), (5, .int 0)] rfl ?_
        refine h_invV (As := [.int 93, .int (I 96 x4.toNatClampNeg)]) (st := []) dX12_worthBy_67 lk_X12_218 (h_room (by decide)) nl_87 zk_87 (by decide) rfl rfl rfl (Nat.le_of_ble_eq_true rfl) ?_
        exact k4 c1 c2 c3
      ·
        refine h_if_eq (tgt := 71) dX12_worthBy_54 (by decide) (fun _ => ?_) (fun c => absurd c (by decide))
        refine h_iload_n dX12_worthBy_71 rfl 4 rfl ?_
        refine h_iload dX12_worthBy_72 0 rfl ?_
        refine h_if_eq (tgt := 81) dX12_worthBy_74 (by decide) (fun _ => ?_) (fun c => absurd c (by decide))
        refine h_iconst (v := 1) dX12_worthBy_81 (by decide) ?_
        refine h_iadd dX12_worthBy_82 ?_
        refine h_istore_n (L' := [(3, .int (x3 + 1)), (5, .int 0), (0, .ref 87), (1, .int x1), (2, .int x2), (4, .int x4)]) dX12_worthBy_83 rfl (by decide) rfl ?_
        refine h_iinc (v := (x4 + 1)) (L' := [(4, .int (x4 + 1)), (3, .int (x3 + 1)), (5, .int 0), (0, .ref 87), (1, .int x1), (2, .int x2)]) dX12_worthBy_84 5 rfl rfl (by decide) rfl ?_
        refine h_goto (tgt := 17) dX12_worthBy_87 (by decide) ?_
        refine h_pick [3, 4, 5, 1, 0] [(0, .ref 87), (1, .int x1), (2, .int x2), (3, .int (x3 + 1)), (4, .int (x4 + 1))] rfl ?_
        exact k5 c1 c2 c4
    ·
      refine h_iconst (v := 1) dX12_worthBy_37 (by decide) ?_
      refine h_goto (tgt := 42) dX12_worthBy_38 (by decide) ?_
      refine h_istore (L' := [(5, .int 1), (0, .ref 87), (1, .int x1), (2, .int x2), (3, .int x3), (4, .int x4)]) dX12_worthBy_42 (by decide) rfl ?_
      refine h_iload dX12_worthBy_44 0 rfl ?_
      refine h_if_ne (tgt := 57) dX12_worthBy_46 (by decide) (fun _ => ?_) (fun c => absurd c (by decide))
      refine h_aload_n dX12_worthBy_57 rfl 1 rfl ?_
      refine h_bipush (v := 93) dX12_worthBy_58 (by decide) ?_
      refine h_aload_n dX12_worthBy_60 rfl 1 rfl ?_
      refine gf_10_12 dX12_worthBy_61 hl_X12_39 nl_87 zk_87 zp_87_12 ?_
      refine h_iload dX12_worthBy_64 5 rfl ?_
      refine h_iald dX12_worthBy_66 nl_96 zk_96 (by rw [zn_96]; exact k6 c1 c2) ?_
      refine h_pick [1, 2, 3, 4, 5, 0] [(0, .ref 87), (1, .int x1), (2, .int x2), (3, .int x3), (4, .int x4), (5, .int 1)] rfl ?_
      refine h_invV (As := [.int 93, .int (I 96 x4.toNatClampNeg)]) (st := []) dX12_worthBy_67 lk_X12_218 (h_room (by decide)) nl_87 zk_87 (by decide) rfl rfl rfl (Nat.le_of_ble_eq_true rfl) ?_
      exact k7 c1 c2
set_option maxHeartbeats 1000000 in
set_option maxRecDepth 4000 in
theorem sg_X12_worthBy_97 {E : HEn} {d : Nat} {Q : Option Value → HIh → Prop} {I : HIh} {s0 : Int32}
    (k1 : Q (some (.int s0)) I)
    : HGo E (mF E (d + 5) Q) me_X12_worthBy 97 [] [.int s0] I := by
  exact h_iret dX12_worthBy_97 rfl (k1)
set_option maxHeartbeats 1000000 in
set_option maxRecDepth 4000 in
theorem sg_X12_worthBy_70 {E : HEn} {d : Nat} {Q : Option Value → HIh → Prop} {I : HIh} {x1 : Int32} {x2 : Int32} {x3 : Int32} {x4 : Int32} {x5 : Int32} {s0 : Int32}
    (k1 : x5 = 0 → HGo E (mF E (d + 5) Q) me_X12_worthBy 17 [(0, .ref 87), (1, .int x1), (2, .int x2), (3, .int (x3 + 1)), (4, .int (x4 + 1))] [] I)
    (k2 : ¬ x5 = 0 → HGo E (mF E (d + 5) Q) me_X12_worthBy 17 [(0, .ref 87), (1, .int x1), (2, .int x2), (3, .int (x3 + 0)), (4, .int (x4 + 1))] [] I)
    : HGo E (mF E (d + 5) Q) me_X12_worthBy 70 [(0, .ref 87), (1, .int x1), (2, .int x2), (3, .int x3), (4, .int x4), (5, .int x5)] [.int s0] I := by
  refine h_pop dX12_worthBy_70 rfl ?_
  refine h_iload_n dX12_worthBy_71 rfl 3 rfl ?_
  refine h_iload dX12_worthBy_72 5 rfl ?_
  refine h_if_eq (tgt := 81) dX12_worthBy_74 (by decide) (fun c1 => ?_) (fun c1 => ?_)
  ·
    refine h_iconst (v := 1) dX12_worthBy_81 (by decide) ?_
    refine h_iadd dX12_worthBy_82 ?_
    refine h_istore_n (L' := [(3, .int (x3 + 1)), (0, .ref 87), (1, .int x1), (2, .int x2), (4, .int x4), (5, .int x5)]) dX12_worthBy_83 rfl (by decide) rfl ?_
    refine h_iinc (v := (x4 + 1)) (L' := [(4, .int (x4 + 1)), (3, .int (x3 + 1)), (0, .ref 87), (1, .int x1), (2, .int x2), (5, .int x5)]) dX12_worthBy_84 4 rfl rfl (by decide) rfl ?_
    refine h_goto (tgt := 17) dX12_worthBy_87 (by decide) ?_
    refine h_pick [2, 3, 4, 1, 0] [(0, .ref 87), (1, .int x1), (2, .int x2), (3, .int (x3 + 1)), (4, .int (x4 + 1))] rfl ?_
    exact k1 c1
  ·
    refine h_iconst (v := 0) dX12_worthBy_77 (by decide) ?_
    refine h_goto (tgt := 82) dX12_worthBy_78 (by decide) ?_
    refine h_iadd dX12_worthBy_82 ?_
    refine h_istore_n (L' := [(3, .int (x3 + 0)), (0, .ref 87), (1, .int x1), (2, .int x2), (4, .int x4), (5, .int x5)]) dX12_worthBy_83 rfl (by decide) rfl ?_
    refine h_iinc (v := (x4 + 1)) (L' := [(4, .int (x4 + 1)), (3, .int (x3 + 0)), (0, .ref 87), (1, .int x1), (2, .int x2), (5, .int x5)]) dX12_worthBy_84 4 rfl rfl (by decide) rfl ?_
    refine h_goto (tgt := 17) dX12_worthBy_87 (by decide) ?_
    refine h_pick [2, 3, 4, 1, 0] [(0, .ref 87), (1, .int x1), (2, .int x2), (3, .int (x3 + 0)), (4, .int (x4 + 1))] rfl ?_
    exact k2 c1
set_option maxHeartbeats 1000000 in
set_option maxRecDepth 4000 in
theorem sg_X12_mean_0 {E : HEn} {d : Nat} {Q : Option Value → HIh → Prop} {I : HIh} {a : Int32} {b : Int32} {e : Int32}
    (k1 : (0 : Int32) ≤ a → a < 4 → (0 : Int64) ≤ b.toInt64 → (b.toInt64 : Int64) ≤ 10 → (0 : Int64) ≤ e.toInt64 → (e.toInt64 : Int64) ≤ 1 → ((I 87 13) - (I 88 30)) ≤ 10 → HCall E me_X12_leftOf (d + 5) [.ref 87, .int ((1 : Int32) <<< (a &&& 31))] I (fun v9 J => HGo E (mF E (d + 6) Q) me_X12_mean 61 [(0, .ref 87), (1, .int a), (2, .int b), (3, .int e)] (v9.toList ++ [.int ((I 87 13) - (I 88 30))]) J))
    (k2 : (0 : Int32) ≤ a → a < 4 → (0 : Int64) ≤ b.toInt64 → (b.toInt64 : Int64) ≤ 10 → (0 : Int64) ≤ e.toInt64 → (e.toInt64 : Int64) ≤ 1 → ¬ ((I 87 13) - (I 88 30)) ≤ 10 → Q (some (.long (-4))) I)
    (k3 : (0 : Int32) ≤ a → a < 4 → (0 : Int64) ≤ b.toInt64 → (b.toInt64 : Int64) ≤ 10 → ¬ ((0 : Int64) ≤ e.toInt64 ∧ (e.toInt64 : Int64) ≤ 1) → Q (some (.long (-3))) I)
    (k4 : (0 : Int32) ≤ a → a < 4 → ¬ ((0 : Int64) ≤ b.toInt64 ∧ (b.toInt64 : Int64) ≤ 10) → Q (some (.long (-3))) I)
    (k5 : ¬ ((0 : Int32) ≤ a ∧ a < 4) → Q (some (.long (-2))) I)
    : HGo E (mF E (d + 6) Q) me_X12_mean 0 [(0, .ref 87), (1, .int a), (2, .int b), (3, .int e)] [] I := by
  refine h_iload_n dX12_mean_0 rfl 1 rfl ?_
  refine h_invS (As := [.int a]) (st := []) dX12_mean_1 lk_X12_180 (h_room (by decide)) rfl rfl (Nat.le_of_ble_eq_true rfl) ?_
  refine c_X12_isPerson (fun c1 c2 => ?_) (fun c3 => ?_)
  ·
    refine h_if_ne (tgt := 11) dX12_mean_4 (by decide) (fun _ => ?_) (fun c => absurd c (by decide))
    refine h_iload_n dX12_mean_11 rfl 2 rfl ?_
    refine h_i2l dX12_mean_12 ?_
    refine h_lconst (v := 0) dX12_mean_13 (by decide) ?_
    refine h_ldc2 dX12_mean_14 wt_1121 rfl ?_
    refine h_invS (As := [.long b.toInt64, .long 0, .long 10]) (st := []) dX12_mean_17 lk_X12_62 (h_room (by decide)) rfl rfl (Nat.le_of_ble_eq_true rfl) ?_
    refine c_X12_in (fun c4 c5 => ?_) (fun c6 => ?_)
    ·
      refine h_if_eq (tgt := 33) dX12_mean_20 (by decide) (fun c => absurd c (by decide)) (fun _ => ?_)
      refine h_iload_n dX12_mean_23 rfl 3 rfl ?_
      refine h_i2l dX12_mean_24 ?_
      refine h_lconst (v := 0) dX12_mean_25 (by decide) ?_
      refine h_lconst (v := 1) dX12_mean_26 (by decide) ?_
      refine h_invS (As := [.long e.toInt64, .long 0, .long 1]) (st := []) dX12_mean_27 lk_X12_62 (h_room (by decide)) rfl rfl (Nat.le_of_ble_eq_true rfl) ?_
      refine c_X12_in (fun c7 c8 => ?_) (fun c9 => ?_)
      ·
        refine h_if_ne (tgt := 37) dX12_mean_30 (by decide) (fun _ => ?_) (fun c => absurd c (by decide))
        refine h_aload_n dX12_mean_37 rfl 0 rfl ?_
        refine h_invV (As := []) (st := []) dX12_mean_38 lk_X12_213 (h_room (by decide)) nl_87 zk_87 (by decide) rfl rfl rfl (Nat.le_of_ble_eq_true rfl) ?_
        refine c_X12_visitsLeft ?_
        refine h_bipush (v := 10) dX12_mean_41 (by decide) ?_
        refine h_icmp_le (tgt := 50) dX12_mean_43 (by decide) (fun c10 => ?_) (fun c10 => ?_)
        ·
          refine h_aload_n dX12_mean_50 rfl 0 rfl ?_
          refine h_invV (As := []) (st := []) dX12_mean_51 lk_X12_213 (h_room (by decide)) nl_87 zk_87 (by decide) rfl rfl rfl (Nat.le_of_ble_eq_true rfl) ?_
          refine c_X12_visitsLeft ?_
          refine h_aload_n dX12_mean_54 rfl 0 rfl ?_
          refine h_iconst (v := 1) dX12_mean_55 (by decide) ?_
          refine h_iload_n dX12_mean_56 rfl 1 rfl ?_
          refine h_ishl dX12_mean_57 ?_
          refine h_invV (As := [.int ((1 : Int32) <<< (a &&& 31))]) (st := [.int ((I 87 13) - (I 88 30))]) dX12_mean_58 lk_X12_190 (h_room (by decide)) nl_87 zk_87 (by decide) rfl rfl rfl (Nat.le_of_ble_eq_true rfl) ?_
          exact k1 c1 c2 c4 c5 c7 c8 c10
        ·
          refine h_ldc2 dX12_mean_46 wt_1123 rfl ?_
          exact h_lret dX12_mean_49 rfl (k2 c1 c2 c4 c5 c7 c8 c10)
      ·
        refine h_if_ne (tgt := 37) dX12_mean_30 (by decide) (fun c => absurd c (by decide)) (fun _ => ?_)
        refine h_ldc2 dX12_mean_33 wt_1122 rfl ?_
        exact h_lret dX12_mean_36 rfl (k3 c1 c2 c4 c5 c9)
    ·
      refine h_if_eq (tgt := 33) dX12_mean_20 (by decide) (fun _ => ?_) (fun c => absurd c (by decide))
      refine h_ldc2 dX12_mean_33 wt_1122 rfl ?_
      exact h_lret dX12_mean_36 rfl (k4 c1 c2 c6)
  ·
    refine h_if_ne (tgt := 11) dX12_mean_4 (by decide) (fun c => absurd c (by decide)) (fun _ => ?_)
    refine h_ldc2 dX12_mean_7 wt_1120 rfl ?_
    exact h_lret dX12_mean_10 rfl (k5 c3)
set_option maxHeartbeats 1000000 in
set_option maxRecDepth 4000 in
theorem sg_X12_mean_61 {E : HEn} {d : Nat} {Q : Option Value → HIh → Prop} {I : HIh} {x1 : Int32} {x2 : Int32} {x3 : Int32} {s0 : Int32} {s1 : Int32}
    (k1 : HGo E (mF E (d + 6) Q) me_X12_mean 73 [(0, .ref 87), (1, .int x1), (2, .int x2), (3, .int x3), (4, .int (s1 - s0)), (5, .long 0), (7, .long 1), (9, .int 0)] [] I)
    : HGo E (mF E (d + 6) Q) me_X12_mean 61 [(0, .ref 87), (1, .int x1), (2, .int x2), (3, .int x3)] [.int s0, .int s1] I := by
  refine h_isub dX12_mean_61 ?_
  refine h_istore (L' := [(4, .int (s1 - s0)), (0, .ref 87), (1, .int x1), (2, .int x2), (3, .int x3)]) dX12_mean_62 (by decide) rfl ?_
  refine h_lconst (v := 0) dX12_mean_64 (by decide) ?_
  refine h_lstore (L' := [(5, .long 0), (4, .int (s1 - s0)), (0, .ref 87), (1, .int x1), (2, .int x2), (3, .int x3)]) dX12_mean_65 (by decide) rfl ?_
  refine h_lconst (v := 1) dX12_mean_67 (by decide) ?_
  refine h_lstore (L' := [(7, .long 1), (5, .long 0), (4, .int (s1 - s0)), (0, .ref 87), (1, .int x1), (2, .int x2), (3, .int x3)]) dX12_mean_68 (by decide) rfl ?_
  refine h_iconst (v := 0) dX12_mean_70 (by decide) ?_
  refine h_istore (L' := [(9, .int 0), (7, .long 1), (5, .long 0), (4, .int (s1 - s0)), (0, .ref 87), (1, .int x1), (2, .int x2), (3, .int x3)]) dX12_mean_71 (by decide) rfl ?_
  refine h_pick [4, 5, 6, 7, 3, 2, 1, 0] [(0, .ref 87), (1, .int x1), (2, .int x2), (3, .int x3), (4, .int (s1 - s0)), (5, .long 0), (7, .long 1), (9, .int 0)] rfl ?_
  exact k1
set_option maxHeartbeats 1000000 in
set_option maxRecDepth 4000 in
theorem sg_X12_mean_73 {E : HEn} {d : Nat} {Q : Option Value → HIh → Prop} {I : HIh} {x1 : Int32} {x2 : Int32} {x3 : Int32} {x4 : Int32} {x5 : Int64} {x7 : Int64} {x9 : Int32}
    (k1 : x4 ≤ x9 → HGo E (mF E (d + 6) Q) me_X12_mean 97 [(0, .ref 87), (1, .int x1), (2, .int x2), (3, .int x3), (4, .int x4), (5, .long x5), (7, .long x7), (9, .int 0)] [] I)
    (k2 : ¬ x4 ≤ x9 → HGo E (mF E (d + 6) Q) me_X12_mean 73 [(0, .ref 87), (1, .int x1), (2, .int x2), (3, .int x3), (4, .int x4), (5, .long x5), (7, .long (x7 * 10)), (9, .int (x9 + 1))] [] I)
    : HGo E (mF E (d + 6) Q) me_X12_mean 73 [(0, .ref 87), (1, .int x1), (2, .int x2), (3, .int x3), (4, .int x4), (5, .long x5), (7, .long x7), (9, .int x9)] [] I := by
  refine h_iload dX12_mean_73 7 rfl ?_
  refine h_iload dX12_mean_75 4 rfl ?_
  refine h_icmp_ge (tgt := 94) dX12_mean_77 (by decide) (fun c1 => ?_) (fun c1 => ?_)
  ·
    refine h_iconst (v := 0) dX12_mean_94 (by decide) ?_
    refine h_istore (L' := [(9, .int 0), (0, .ref 87), (1, .int x1), (2, .int x2), (3, .int x3), (4, .int x4), (5, .long x5), (7, .long x7)]) dX12_mean_95 (by decide) rfl ?_
    refine h_pick [1, 2, 3, 4, 5, 6, 7, 0] [(0, .ref 87), (1, .int x1), (2, .int x2), (3, .int x3), (4, .int x4), (5, .long x5), (7, .long x7), (9, .int 0)] rfl ?_
    exact k1 c1
  ·
    refine h_lload dX12_mean_80 6 rfl ?_
    refine h_ldc2 dX12_mean_82 wt_1121 rfl ?_
    refine h_lmul dX12_mean_85 ?_
    refine h_lstore (L' := [(7, .long (x7 * 10)), (0, .ref 87), (1, .int x1), (2, .int x2), (3, .int x3), (4, .int x4), (5, .long x5), (9, .int x9)]) dX12_mean_86 (by decide) rfl ?_
    refine h_iinc (v := (x9 + 1)) (L' := [(9, .int (x9 + 1)), (7, .long (x7 * 10)), (0, .ref 87), (1, .int x1), (2, .int x2), (3, .int x3), (4, .int x4), (5, .long x5)]) dX12_mean_88 7 rfl rfl (by decide) rfl ?_
    refine h_goto (tgt := 73) dX12_mean_91 (by decide) ?_
    refine h_pick [2, 3, 4, 5, 6, 7, 1, 0] [(0, .ref 87), (1, .int x1), (2, .int x2), (3, .int x3), (4, .int x4), (5, .long x5), (7, .long (x7 * 10)), (9, .int (x9 + 1))] rfl ?_
    exact k2 c1
set_option maxHeartbeats 1000000 in
set_option maxRecDepth 4000 in
theorem sg_X12_mean_97 {E : HEn} {d : Nat} {Q : Option Value → HIh → Prop} {I : HIh} {x1 : Int32} {x2 : Int32} {x3 : Int32} {x4 : Int32} {x5 : Int64} {x7 : Int64} {x9 : Int32}
    (k1 : ((1 : Int32) <<< (x4 &&& 31)) ≤ x9 → HCall E me_X12_divisor (d + 5) [.long x5, .long x7] I (fun v9 J => HGo E (mF E (d + 6) Q) me_X12_mean 177 [(3, .int x3), (5, .long x5), (7, .long x7)] (v9.toList ++ []) J))
    (k2 : ¬ ((1 : Int32) <<< (x4 &&& 31)) ≤ x9 → HCall E me_X12_worthBy (d + 5) [.ref 87, .int x1, .int x9] I (fun v9 J => HGo E (mF E (d + 6) Q) me_X12_mean 113 [(0, .ref 87), (1, .int x1), (2, .int x2), (3, .int x3), (4, .int x4), (5, .long x5), (7, .long x7), (9, .int x9)] (v9.toList ++ []) J))
    : HGo E (mF E (d + 6) Q) me_X12_mean 97 [(0, .ref 87), (1, .int x1), (2, .int x2), (3, .int x3), (4, .int x4), (5, .long x5), (7, .long x7), (9, .int x9)] [] I := by
  refine h_iload dX12_mean_97 7 rfl ?_
  refine h_iconst (v := 1) dX12_mean_99 (by decide) ?_
  refine h_iload dX12_mean_100 4 rfl ?_
  refine h_ishl dX12_mean_102 ?_
  refine h_icmp_ge (tgt := 170) dX12_mean_103 (by decide) (fun c1 => ?_) (fun c1 => ?_)
  ·
    refine h_lload dX12_mean_170 5 rfl ?_
    refine h_lload dX12_mean_172 6 rfl ?_
    refine h_pick [3, 5, 6] [(3, .int x3), (5, .long x5), (7, .long x7)] rfl ?_
    refine h_invS (As := [.long x5, .long x7]) (st := []) dX12_mean_174 lk_X12_261 (h_room (by decide)) rfl rfl (Nat.le_of_ble_eq_true rfl) ?_
    exact k1 c1
  ·
    refine h_aload_n dX12_mean_106 rfl 0 rfl ?_
    refine h_iload_n dX12_mean_107 rfl 1 rfl ?_
    refine h_iload dX12_mean_108 7 rfl ?_
    refine h_invV (As := [.int x1, .int x9]) (st := []) dX12_mean_110 lk_X12_258 (h_room (by decide)) nl_87 zk_87 (by decide) rfl rfl rfl (Nat.le_of_ble_eq_true rfl) ?_
    exact k2 c1
set_option maxHeartbeats 1000000 in
set_option maxRecDepth 4000 in
theorem sg_X12_mean_177 {E : HEn} {d : Nat} {Q : Option Value → HIh → Prop} {I : HIh} {x3 : Int32} {x5 : Int64} {x7 : Int64} {s0 : Int64}
    (k1 : ¬ x3 = 0 → ¬ s0 = 0)
    (k2 : ¬ x3 = 0 → Q (some (.long (x7 / s0))) I)
    (k3 : x3 = 0 → ¬ s0 = 0)
    (k4 : x3 = 0 → Q (some (.long (x5 / s0))) I)
    : HGo E (mF E (d + 6) Q) me_X12_mean 177 [(3, .int x3), (5, .long x5), (7, .long x7)] [.long s0] I := by
  refine h_lstore (L' := [(9, .long s0), (3, .int x3), (5, .long x5), (7, .long x7)]) dX12_mean_177 (by decide) rfl ?_
  refine h_iload_n dX12_mean_179 rfl 1 rfl ?_
  refine h_if_ne (tgt := 191) dX12_mean_180 (by decide) (fun c1 => ?_) (fun c1 => ?_)
  ·
    refine h_lload dX12_mean_191 3 rfl ?_
    refine h_lload dX12_mean_193 0 rfl ?_
    refine h_ldiv dX12_mean_195 (k1 c1) ?_
    exact h_lret dX12_mean_196 rfl (k2 c1)
  ·
    refine h_lload dX12_mean_183 2 rfl ?_
    refine h_lload dX12_mean_185 0 rfl ?_
    refine h_ldiv dX12_mean_187 (k3 c1) ?_
    refine h_goto (tgt := 196) dX12_mean_188 (by decide) ?_
    exact h_lret dX12_mean_196 rfl (k4 c1)
set_option maxHeartbeats 1000000 in
set_option maxRecDepth 4000 in
theorem sg_X12_mean_113 {E : HEn} {d : Nat} {Q : Option Value → HIh → Prop} {I : HIh} {x1 : Int32} {x2 : Int32} {x3 : Int32} {x4 : Int32} {x5 : Int64} {x7 : Int64} {x9 : Int32} {s0 : Int32}
    (k1 : HGo E (mF E (d + 6) Q) me_X12_mean 119 [(0, .ref 87), (1, .int x1), (2, .int x2), (3, .int x3), (4, .int x4), (5, .long x5), (7, .long x7), (9, .int x9), (10, .long s0.toInt64), (12, .int 0)] [] I)
    : HGo E (mF E (d + 6) Q) me_X12_mean 113 [(0, .ref 87), (1, .int x1), (2, .int x2), (3, .int x3), (4, .int x4), (5, .long x5), (7, .long x7), (9, .int x9)] [.int s0] I := by
  refine h_i2l dX12_mean_113 ?_
  refine h_lstore (L' := [(10, .long s0.toInt64), (0, .ref 87), (1, .int x1), (2, .int x2), (3, .int x3), (4, .int x4), (5, .long x5), (7, .long x7), (9, .int x9)]) dX12_mean_114 (by decide) rfl ?_
  refine h_iconst (v := 0) dX12_mean_116 (by decide) ?_
  refine h_istore (L' := [(12, .int 0), (10, .long s0.toInt64), (0, .ref 87), (1, .int x1), (2, .int x2), (3, .int x3), (4, .int x4), (5, .long x5), (7, .long x7), (9, .int x9)]) dX12_mean_117 (by decide) rfl ?_
  refine h_pick [2, 3, 4, 5, 6, 7, 8, 9, 1, 0] [(0, .ref 87), (1, .int x1), (2, .int x2), (3, .int x3), (4, .int x4), (5, .long x5), (7, .long x7), (9, .int x9), (10, .long s0.toInt64), (12, .int 0)] rfl ?_
  exact k1
set_option maxHeartbeats 1000000 in
set_option maxRecDepth 4000 in
theorem sg_X12_mean_119 {E : HEn} {d : Nat} {Q : Option Value → HIh → Prop} {I : HIh} {x1 : Int32} {x2 : Int32} {x3 : Int32} {x4 : Int32} {x5 : Int64} {x7 : Int64} {x9 : Int32} {x10 : Int64} {x12 : Int32}
    (k1 : x4 ≤ x12 → HGo E (mF E (d + 6) Q) me_X12_mean 97 [(0, .ref 87), (1, .int x1), (2, .int x2), (3, .int x3), (4, .int x4), (5, .long (x5 + x10)), (7, .long x7), (9, .int (x9 + 1))] [] I)
    (k2 : ¬ x4 ≤ x12 → (x9 >>> (x12 &&& 31)) &&& 1 = 1 → HGo E (mF E (d + 6) Q) me_X12_mean 119 [(0, .ref 87), (1, .int x1), (2, .int x2), (3, .int x3), (4, .int x4), (5, .long x5), (7, .long x7), (9, .int x9), (10, .long (x10 * x2.toInt64)), (12, .int (x12 + 1))] [] I)
    (k3 : ¬ x4 ≤ x12 → ¬ (x9 >>> (x12 &&& 31)) &&& 1 = 1 → HGo E (mF E (d + 6) Q) me_X12_mean 119 [(0, .ref 87), (1, .int x1), (2, .int x2), (3, .int x3), (4, .int x4), (5, .long x5), (7, .long x7), (9, .int x9), (10, .long (x10 * (10 - x2).toInt64)), (12, .int (x12 + 1))] [] I)
    : HGo E (mF E (d + 6) Q) me_X12_mean 119 [(0, .ref 87), (1, .int x1), (2, .int x2), (3, .int x3), (4, .int x4), (5, .long x5), (7, .long x7), (9, .int x9), (10, .long x10), (12, .int x12)] [] I := by
  refine h_iload dX12_mean_119 9 rfl ?_
  refine h_iload dX12_mean_121 4 rfl ?_
  refine h_icmp_ge (tgt := 157) dX12_mean_123 (by decide) (fun c1 => ?_) (fun c1 => ?_)
  ·
    refine h_lload dX12_mean_157 5 rfl ?_
    refine h_lload dX12_mean_159 8 rfl ?_
    refine h_ladd dX12_mean_161 ?_
    refine h_lstore (L' := [(5, .long (x5 + x10)), (0, .ref 87), (1, .int x1), (2, .int x2), (3, .int x3), (4, .int x4), (7, .long x7), (9, .int x9), (10, .long x10), (12, .int x12)]) dX12_mean_162 (by decide) rfl ?_
    refine h_iinc (v := (x9 + 1)) (L' := [(9, .int (x9 + 1)), (5, .long (x5 + x10)), (0, .ref 87), (1, .int x1), (2, .int x2), (3, .int x3), (4, .int x4), (7, .long x7), (10, .long x10), (12, .int x12)]) dX12_mean_164 7 rfl rfl (by decide) rfl ?_
    refine h_goto (tgt := 97) dX12_mean_167 (by decide) ?_
    refine h_pick [2, 3, 4, 5, 6, 1, 7, 0] [(0, .ref 87), (1, .int x1), (2, .int x2), (3, .int x3), (4, .int x4), (5, .long (x5 + x10)), (7, .long x7), (9, .int (x9 + 1))] rfl ?_
    exact k1 c1
  ·
    refine h_lload dX12_mean_126 8 rfl ?_
    refine h_iload dX12_mean_128 7 rfl ?_
    refine h_iload dX12_mean_130 9 rfl ?_
    refine h_invS (As := [.int x9, .int x12]) (st := [.long x10]) dX12_mean_132 lk_X12_183 (h_room (by decide)) rfl rfl (Nat.le_of_ble_eq_true rfl) ?_
    refine c_X12_has (fun c2 => ?_) (fun c3 => ?_)
    ·
      refine h_if_eq (tgt := 143) dX12_mean_135 (by decide) (fun c => absurd c (by decide)) (fun _ => ?_)
      refine h_iload_n dX12_mean_138 rfl 2 rfl ?_
      refine h_i2l dX12_mean_139 ?_
      refine h_goto (tgt := 148) dX12_mean_140 (by decide) ?_
      refine h_lmul dX12_mean_148 ?_
      refine h_lstore (L' := [(10, .long (x10 * x2.toInt64)), (0, .ref 87), (1, .int x1), (2, .int x2), (3, .int x3), (4, .int x4), (5, .long x5), (7, .long x7), (9, .int x9), (12, .int x12)]) dX12_mean_149 (by decide) rfl ?_
      refine h_iinc (v := (x12 + 1)) (L' := [(12, .int (x12 + 1)), (10, .long (x10 * x2.toInt64)), (0, .ref 87), (1, .int x1), (2, .int x2), (3, .int x3), (4, .int x4), (5, .long x5), (7, .long x7), (9, .int x9)]) dX12_mean_151 9 rfl rfl (by decide) rfl ?_
      refine h_goto (tgt := 119) dX12_mean_154 (by decide) ?_
      refine h_pick [2, 3, 4, 5, 6, 7, 8, 9, 1, 0] [(0, .ref 87), (1, .int x1), (2, .int x2), (3, .int x3), (4, .int x4), (5, .long x5), (7, .long x7), (9, .int x9), (10, .long (x10 * x2.toInt64)), (12, .int (x12 + 1))] rfl ?_
      exact k2 c1 c2
    ·
      refine h_if_eq (tgt := 143) dX12_mean_135 (by decide) (fun _ => ?_) (fun c => absurd c (by decide))
      refine h_bipush (v := 10) dX12_mean_143 (by decide) ?_
      refine h_iload_n dX12_mean_145 rfl 2 rfl ?_
      refine h_isub dX12_mean_146 ?_
      refine h_i2l dX12_mean_147 ?_
      refine h_lmul dX12_mean_148 ?_
      refine h_lstore (L' := [(10, .long (x10 * (10 - x2).toInt64)), (0, .ref 87), (1, .int x1), (2, .int x2), (3, .int x3), (4, .int x4), (5, .long x5), (7, .long x7), (9, .int x9), (12, .int x12)]) dX12_mean_149 (by decide) rfl ?_
      refine h_iinc (v := (x12 + 1)) (L' := [(12, .int (x12 + 1)), (10, .long (x10 * (10 - x2).toInt64)), (0, .ref 87), (1, .int x1), (2, .int x2), (3, .int x3), (4, .int x4), (5, .long x5), (7, .long x7), (9, .int x9)]) dX12_mean_151 9 rfl rfl (by decide) rfl ?_
      refine h_goto (tgt := 119) dX12_mean_154 (by decide) ?_
      refine h_pick [2, 3, 4, 5, 6, 7, 8, 9, 1, 0] [(0, .ref 87), (1, .int x1), (2, .int x2), (3, .int x3), (4, .int x4), (5, .long x5), (7, .long x7), (9, .int x9), (10, .long (x10 * (10 - x2).toInt64)), (12, .int (x12 + 1))] rfl ?_
      exact k3 c1 c3
set_option maxHeartbeats 1000000 in
set_option maxRecDepth 4000 in
theorem sg_X12_dry_0 {E : HEn} {d : Nat} {Q : Option Value → HIh → Prop} {I : HIh} 
    (k1 : ¬ (I 87 13) = 0 → HCall E me_X12_copy (d + 4) [.ref 87, .int 0, .int 3] I (fun v9 J => HGo E (mF E (d + 5) Q) me_X12_dry 15 [(0, .ref 87)] (v9.toList ++ []) J))
    (k2 : (I 87 13) = 0 → Q (some (.int (-1))) I)
    : HGo E (mF E (d + 5) Q) me_X12_dry 0 [(0, .ref 87)] [] I := by
  refine h_aload_n dX12_dry_0 rfl 0 rfl ?_
  refine gf_10_13 dX12_dry_1 hl_X12_147 nl_87 zk_87 ?_
  refine h_if_ne (tgt := 9) dX12_dry_4 (by decide) (fun c1 => ?_) (fun c1 => ?_)
  ·
    refine h_aload_n dX12_dry_9 rfl 0 rfl ?_
    refine h_iconst (v := 0) dX12_dry_10 (by decide) ?_
    refine h_iconst (v := 3) dX12_dry_11 (by decide) ?_
    refine h_invV (As := [.int 0, .int 3]) (st := []) dX12_dry_12 lk_X12_221 (h_room (by decide)) nl_87 zk_87 (by decide) rfl rfl rfl (Nat.le_of_ble_eq_true rfl) ?_
    exact k1 c1
  ·
    refine h_iconst (v := (-1)) dX12_dry_7 (by decide) ?_
    exact h_iret dX12_dry_8 rfl (k2 c1)
set_option maxHeartbeats 1000000 in
set_option maxRecDepth 4000 in
theorem sg_X12_dry_15 {E : HEn} {d : Nat} {Q : Option Value → HIh → Prop} {I : HIh} 
    (k1 : HGo E (mF E (d + 5) Q) me_X12_dry 19 [(0, .ref 87), (1, .int 0), (2, .int 0)] [] I)
    : HGo E (mF E (d + 5) Q) me_X12_dry 15 [(0, .ref 87)] [] I := by
  refine h_iconst (v := 0) dX12_dry_15 (by decide) ?_
  refine h_istore_n (L' := [(1, .int 0), (0, .ref 87)]) dX12_dry_16 rfl (by decide) rfl ?_
  refine h_iconst (v := 0) dX12_dry_17 (by decide) ?_
  refine h_istore_n (L' := [(2, .int 0), (1, .int 0), (0, .ref 87)]) dX12_dry_18 rfl (by decide) rfl ?_
  refine h_pick [2, 1, 0] [(0, .ref 87), (1, .int 0), (2, .int 0)] rfl ?_
  exact k1
set_option maxHeartbeats 1000000 in
set_option maxRecDepth 4000 in
theorem sg_X12_dry_19 {E : HEn} {d : Nat} {Q : Option Value → HIh → Prop} {I : HIh} {x1 : Int32} {x2 : Int32}
    (k1 : 200 ≤ x2 → Q (some (.int (-1))) I)
    (k2 : ¬ 200 ≤ x2 → ¬ (I 87 13) = 0)
    (k3 : ¬ 200 ≤ x2 → vp_in (((I 88 30) + x2) - ((I 88 30) + x2) / (I 87 13) * (I 87 13)) 24)
    (k4 : ¬ 200 ≤ x2 → HCall E me_X12_visitsBy (d + 4) [.ref 87, .int 93, .int (I 96 (((I 88 30) + x2) - ((I 88 30) + x2) / (I 87 13) * (I 87 13)).toNatClampNeg)] I (fun v9 J => HGo E (mF E (d + 5) Q) me_X12_dry 51 [(0, .ref 87), (1, .int x1), (2, .int x2)] (v9.toList ++ []) J))
    : HGo E (mF E (d + 5) Q) me_X12_dry 19 [(0, .ref 87), (1, .int x1), (2, .int x2)] [] I := by
  refine h_iload_n dX12_dry_19 rfl 2 rfl ?_
  refine h_sipush (v := 200) dX12_dry_20 (by decide) ?_
  refine h_icmp_ge (tgt := 80) dX12_dry_23 (by decide) (fun c1 => ?_) (fun c1 => ?_)
  ·
    refine h_iconst (v := (-1)) dX12_dry_80 (by decide) ?_
    exact h_iret dX12_dry_81 rfl (k1 c1)
  ·
    refine h_aload_n dX12_dry_26 rfl 0 rfl ?_
    refine h_bipush (v := 93) dX12_dry_27 (by decide) ?_
    refine h_aload_n dX12_dry_29 rfl 0 rfl ?_
    refine gf_10_12 dX12_dry_30 hl_X12_39 nl_87 zk_87 zp_87_12 ?_
    refine h_aload_n dX12_dry_33 rfl 0 rfl ?_
    refine gf_10_0 dX12_dry_34 hl_X12_7 nl_87 zk_87 zp_87_0 ?_
    refine h_bipush (v := 30) dX12_dry_37 (by decide) ?_
    refine h_iald dX12_dry_39 nl_88 zk_88 (vp_lit (by rw [zn_88]; decide)) ?_
    refine h_iload_n dX12_dry_40 rfl 2 rfl ?_
    refine h_iadd dX12_dry_41 ?_
    refine h_aload_n dX12_dry_42 rfl 0 rfl ?_
    refine gf_10_13 dX12_dry_43 hl_X12_147 nl_87 zk_87 ?_
    refine h_irem dX12_dry_46 (k2 c1) ?_
    refine h_iald dX12_dry_47 nl_96 zk_96 (by rw [zn_96]; exact k3 c1) ?_
    refine h_invV (As := [.int 93, .int (I 96 (((I 88 30) + x2) - ((I 88 30) + x2) / (I 87 13) * (I 87 13)).toNatClampNeg)]) (st := []) dX12_dry_48 lk_X12_218 (h_room (by decide)) nl_87 zk_87 (by decide) rfl rfl rfl (Nat.le_of_ble_eq_true rfl) ?_
    exact k4 c1
set_option maxHeartbeats 1000000 in
set_option maxRecDepth 4000 in
theorem sg_X12_dry_51 {E : HEn} {d : Nat} {Q : Option Value → HIh → Prop} {I : HIh} {x1 : Int32} {x2 : Int32} {s0 : Int32}
    (k1 : s0 = 0 → ¬ (x1 + 1) = (I 87 13) → HGo E (mF E (d + 5) Q) me_X12_dry 19 [(0, .ref 87), (1, .int (x1 + 1)), (2, .int (x2 + 1))] [] I)
    (k2 : s0 = 0 → (x1 + 1) = (I 87 13) → Q (some (.int (x2 + 1))) I)
    (k3 : ¬ s0 = 0 → ¬ 0 = (I 87 13) → HGo E (mF E (d + 5) Q) me_X12_dry 19 [(0, .ref 87), (1, .int 0), (2, .int (x2 + 1))] [] I)
    (k4 : ¬ s0 = 0 → 0 = (I 87 13) → Q (some (.int (x2 + 1))) I)
    : HGo E (mF E (d + 5) Q) me_X12_dry 51 [(0, .ref 87), (1, .int x1), (2, .int x2)] [.int s0] I := by
  refine h_if_eq (tgt := 58) dX12_dry_51 (by decide) (fun c1 => ?_) (fun c1 => ?_)
  ·
    refine h_iload_n dX12_dry_58 rfl 1 rfl ?_
    refine h_iconst (v := 1) dX12_dry_59 (by decide) ?_
    refine h_iadd dX12_dry_60 ?_
    refine h_istore_n (L' := [(1, .int (x1 + 1)), (0, .ref 87), (2, .int x2)]) dX12_dry_61 rfl (by decide) rfl ?_
    refine h_iload_n dX12_dry_62 rfl 0 rfl ?_
    refine h_aload_n dX12_dry_63 rfl 1 rfl ?_
    refine gf_10_13 dX12_dry_64 hl_X12_147 nl_87 zk_87 ?_
    refine h_icmp_ne (tgt := 74) dX12_dry_67 (by decide) (fun c2 => ?_) (fun c2 => ?_)
    ·
      refine h_iinc (v := (x2 + 1)) (L' := [(2, .int (x2 + 1)), (1, .int (x1 + 1)), (0, .ref 87)]) dX12_dry_74 2 rfl rfl (by decide) rfl ?_
      refine h_goto (tgt := 19) dX12_dry_77 (by decide) ?_
      refine h_pick [2, 1, 0] [(0, .ref 87), (1, .int (x1 + 1)), (2, .int (x2 + 1))] rfl ?_
      exact k1 c1 c2
    ·
      refine h_iload_n dX12_dry_70 rfl 2 rfl ?_
      refine h_iconst (v := 1) dX12_dry_71 (by decide) ?_
      refine h_iadd dX12_dry_72 ?_
      exact h_iret dX12_dry_73 rfl (k2 c1 c2)
  ·
    refine h_iconst (v := 0) dX12_dry_54 (by decide) ?_
    refine h_goto (tgt := 61) dX12_dry_55 (by decide) ?_
    refine h_istore_n (L' := [(1, .int 0), (0, .ref 87), (2, .int x2)]) dX12_dry_61 rfl (by decide) rfl ?_
    refine h_iload_n dX12_dry_62 rfl 0 rfl ?_
    refine h_aload_n dX12_dry_63 rfl 1 rfl ?_
    refine gf_10_13 dX12_dry_64 hl_X12_147 nl_87 zk_87 ?_
    refine h_icmp_ne (tgt := 74) dX12_dry_67 (by decide) (fun c3 => ?_) (fun c3 => ?_)
    ·
      refine h_iinc (v := (x2 + 1)) (L' := [(2, .int (x2 + 1)), (1, .int 0), (0, .ref 87)]) dX12_dry_74 2 rfl rfl (by decide) rfl ?_
      refine h_goto (tgt := 19) dX12_dry_77 (by decide) ?_
      refine h_pick [2, 1, 0] [(0, .ref 87), (1, .int 0), (2, .int (x2 + 1))] rfl ?_
      exact k3 c1 c3
    ·
      refine h_iload_n dX12_dry_70 rfl 2 rfl ?_
      refine h_iconst (v := 1) dX12_dry_71 (by decide) ?_
      refine h_iadd dX12_dry_72 ?_
      exact h_iret dX12_dry_73 rfl (k4 c1 c3)
set_option maxHeartbeats 1000000 in
set_option maxRecDepth 4000 in
theorem sg_X12_bait_0 {E : HEn} {d : Nat} {Q : Option Value → HIh → Prop} {I : HIh} {a : Int32}
    (k1 : (0 : Int32) ≤ a → a < 4 → HGo E (mF E (d + 4) Q) me_X12_bait 14 [(0, .ref 87), (1, .int a), (2, .int (-1)), (3, .int 0)] [] I)
    (k2 : ¬ ((0 : Int32) ≤ a ∧ a < 4) → Q (some (.int (-2))) I)
    : HGo E (mF E (d + 4) Q) me_X12_bait 0 [(0, .ref 87), (1, .int a)] [] I := by
  refine h_iload_n dX12_bait_0 rfl 1 rfl ?_
  refine h_invS (As := [.int a]) (st := []) dX12_bait_1 lk_X12_180 (h_room (by decide)) rfl rfl (Nat.le_of_ble_eq_true rfl) ?_
  refine c_X12_isPerson (fun c1 c2 => ?_) (fun c3 => ?_)
  ·
    refine h_if_ne (tgt := 10) dX12_bait_4 (by decide) (fun _ => ?_) (fun c => absurd c (by decide))
    refine h_iconst (v := (-1)) dX12_bait_10 (by decide) ?_
    refine h_istore_n (L' := [(2, .int (-1)), (0, .ref 87), (1, .int a)]) dX12_bait_11 rfl (by decide) rfl ?_
    refine h_iconst (v := 0) dX12_bait_12 (by decide) ?_
    refine h_istore_n (L' := [(3, .int 0), (2, .int (-1)), (0, .ref 87), (1, .int a)]) dX12_bait_13 rfl (by decide) rfl ?_
    refine h_pick [2, 3, 1, 0] [(0, .ref 87), (1, .int a), (2, .int (-1)), (3, .int 0)] rfl ?_
    exact k1 c1 c2
  ·
    refine h_if_ne (tgt := 10) dX12_bait_4 (by decide) (fun c => absurd c (by decide)) (fun _ => ?_)
    refine h_bipush (v := (-2)) dX12_bait_7 (by decide) ?_
    exact h_iret dX12_bait_9 rfl (k2 c3)
set_option maxHeartbeats 1000000 in
set_option maxRecDepth 4000 in
theorem sg_X12_bait_14 {E : HEn} {d : Nat} {Q : Option Value → HIh → Prop} {I : HIh} {x1 : Int32} {x2 : Int32} {x3 : Int32}
    (k1 : 343 ≤ x3 → Q (some (.int x2)) I)
    (k2 : ¬ 343 ≤ x3 → HCall E me_X12_copy (d + 3) [.ref 87, .int 0, .int 3] I (fun v9 J => HGo E (mF E (d + 4) Q) me_X12_bait 36 [(0, .ref 87), (1, .int x1), (2, .int x2), (3, .int x3), (4, .int 0), (5, .int 1), (6, .int x3)] (v9.toList ++ []) J))
    : HGo E (mF E (d + 4) Q) me_X12_bait 14 [(0, .ref 87), (1, .int x1), (2, .int x2), (3, .int x3)] [] I := by
  refine h_iload_n dX12_bait_14 rfl 3 rfl ?_
  refine h_sipush (v := 343) dX12_bait_15 (by decide) ?_
  refine h_icmp_ge (tgt := 198) dX12_bait_18 (by decide) (fun c1 => ?_) (fun c1 => ?_)
  ·
    refine h_iload_n dX12_bait_198 rfl 2 rfl ?_
    exact h_iret dX12_bait_199 rfl (k1 c1)
  ·
    refine h_iconst (v := 0) dX12_bait_21 (by decide) ?_
    refine h_istore (L' := [(4, .int 0), (0, .ref 87), (1, .int x1), (2, .int x2), (3, .int x3)]) dX12_bait_22 (by decide) rfl ?_
    refine h_iconst (v := 1) dX12_bait_24 (by decide) ?_
    refine h_istore (L' := [(5, .int 1), (4, .int 0), (0, .ref 87), (1, .int x1), (2, .int x2), (3, .int x3)]) dX12_bait_25 (by decide) rfl ?_
    refine h_iload_n dX12_bait_27 rfl 5 rfl ?_
    refine h_istore (L' := [(6, .int x3), (5, .int 1), (4, .int 0), (0, .ref 87), (1, .int x1), (2, .int x2), (3, .int x3)]) dX12_bait_28 (by decide) rfl ?_
    refine h_aload_n dX12_bait_30 rfl 3 rfl ?_
    refine h_iconst (v := 0) dX12_bait_31 (by decide) ?_
    refine h_iconst (v := 3) dX12_bait_32 (by decide) ?_
    refine h_pick [3, 4, 5, 6, 2, 1, 0] [(0, .ref 87), (1, .int x1), (2, .int x2), (3, .int x3), (4, .int 0), (5, .int 1), (6, .int x3)] rfl ?_
    refine h_invV (As := [.int 0, .int 3]) (st := []) dX12_bait_33 lk_X12_221 (h_room (by decide)) nl_87 zk_87 (by decide) rfl rfl rfl (Nat.le_of_ble_eq_true rfl) ?_
    exact k2 c1
set_option maxHeartbeats 1000000 in
set_option maxRecDepth 4000 in
theorem sg_X12_bait_36 {E : HEn} {d : Nat} {Q : Option Value → HIh → Prop} {I : HIh} {x1 : Int32} {x2 : Int32} {x3 : Int32} {x4 : Int32} {x5 : Int32} {x6 : Int32}
    (k1 : HGo E (mF E (d + 4) Q) me_X12_bait 39 [(0, .ref 87), (1, .int x1), (2, .int x2), (3, .int x3), (4, .int x4), (5, .int x5), (6, .int x6), (7, .int 0)] [] I)
    : HGo E (mF E (d + 4) Q) me_X12_bait 36 [(0, .ref 87), (1, .int x1), (2, .int x2), (3, .int x3), (4, .int x4), (5, .int x5), (6, .int x6)] [] I := by
  refine h_iconst (v := 0) dX12_bait_36 (by decide) ?_
  refine h_istore (L' := [(7, .int 0), (0, .ref 87), (1, .int x1), (2, .int x2), (3, .int x3), (4, .int x4), (5, .int x5), (6, .int x6)]) dX12_bait_37 (by decide) rfl ?_
  refine h_pick [1, 2, 3, 4, 5, 6, 7, 0] [(0, .ref 87), (1, .int x1), (2, .int x2), (3, .int x3), (4, .int x4), (5, .int x5), (6, .int x6), (7, .int 0)] rfl ?_
  exact k1
set_option maxHeartbeats 1000000 in
set_option maxRecDepth 4000 in
theorem sg_X12_bait_39 {E : HEn} {d : Nat} {Q : Option Value → HIh → Prop} {I : HIh} {x1 : Int32} {x2 : Int32} {x3 : Int32} {x4 : Int32} {x5 : Int32} {x6 : Int32} {x7 : Int32}
    (k1 : 3 ≤ x7 → x5 = 0 → HGo E (mF E (d + 4) Q) me_X12_bait 14 [(0, .ref 87), (1, .int x1), (2, .int x2), (3, .int (x3 + 1))] [] I)
    (k2 : 3 ≤ x7 → ¬ x5 = 0 → HCall E me_X12_byHabit (d + 3) [.ref 87, .int 93, .int x1] I (fun v9 J => HGo E (mF E (d + 4) Q) me_X12_bait 170 [(0, .ref 87), (1, .int x1), (2, .int x2), (3, .int x3), (4, .int x4)] (v9.toList ++ []) J))
    (k3 : ¬ 3 ≤ x7 → x5 = 0 → HGo E (mF E (d + 4) Q) me_X12_bait 87 [(0, .ref 87), (1, .int x1), (2, .int x2), (3, .int x3), (4, .int x4), (5, .int 0), (6, .int (x6 / 7)), (7, .int x7), (8, .int (x6 - x6 / 7 * 7))] [] I)
    (k4 : ¬ 3 ≤ x7 → ¬ x5 = 0 → (x6 - x6 / 7 * 7) < (I 87 6) → HGo E (mF E (d + 4) Q) me_X12_bait 87 [(0, .ref 87), (1, .int x1), (2, .int x2), (3, .int x3), (4, .int x4), (5, .int 1), (6, .int (x6 / 7)), (7, .int x7), (8, .int (x6 - x6 / 7 * 7))] [] I)
    (k5 : ¬ 3 ≤ x7 → ¬ x5 = 0 → ¬ (x6 - x6 / 7 * 7) < (I 87 6) → ¬ (x6 - x6 / 7 * 7) = 6 → HGo E (mF E (d + 4) Q) me_X12_bait 87 [(0, .ref 87), (1, .int x1), (2, .int x2), (3, .int x3), (4, .int x4), (5, .int 0), (6, .int (x6 / 7)), (7, .int x7), (8, .int (x6 - x6 / 7 * 7))] [] I)
    (k6 : ¬ 3 ≤ x7 → ¬ x5 = 0 → ¬ (x6 - x6 / 7 * 7) < (I 87 6) → (x6 - x6 / 7 * 7) = 6 → HGo E (mF E (d + 4) Q) me_X12_bait 87 [(0, .ref 87), (1, .int x1), (2, .int x2), (3, .int x3), (4, .int x4), (5, .int 1), (6, .int (x6 / 7)), (7, .int x7), (8, .int (x6 - x6 / 7 * 7))] [] I)
    : HGo E (mF E (d + 4) Q) me_X12_bait 39 [(0, .ref 87), (1, .int x1), (2, .int x2), (3, .int x3), (4, .int x4), (5, .int x5), (6, .int x6), (7, .int x7)] [] I := by
  refine h_iload dX12_bait_39 7 rfl ?_
  refine h_iconst (v := 3) dX12_bait_41 (by decide) ?_
  refine h_icmp_ge (tgt := 158) dX12_bait_42 (by decide) (fun c1 => ?_) (fun c1 => ?_)
  ·
    refine h_iload dX12_bait_158 5 rfl ?_
    refine h_if_eq (tgt := 190) dX12_bait_160 (by decide) (fun c2 => ?_) (fun c2 => ?_)
    ·
      refine h_iload_n dX12_bait_190 rfl 2 rfl ?_
      refine h_istore_n (L' := [(2, .int x2), (0, .ref 87), (1, .int x1), (3, .int x3), (4, .int x4), (5, .int x5), (6, .int x6), (7, .int x7)]) dX12_bait_191 rfl (by decide) rfl ?_
      refine h_iinc (v := (x3 + 1)) (L' := [(3, .int (x3 + 1)), (2, .int x2), (0, .ref 87), (1, .int x1), (4, .int x4), (5, .int x5), (6, .int x6), (7, .int x7)]) dX12_bait_192 3 rfl rfl (by decide) rfl ?_
      refine h_goto (tgt := 14) dX12_bait_195 (by decide) ?_
      refine h_pick [2, 3, 1, 0] [(0, .ref 87), (1, .int x1), (2, .int x2), (3, .int (x3 + 1))] rfl ?_
      exact k1 c1 c2
    ·
      refine h_aload_n dX12_bait_163 rfl 0 rfl ?_
      refine h_bipush (v := 93) dX12_bait_164 (by decide) ?_
      refine h_iload_n dX12_bait_166 rfl 1 rfl ?_
      refine h_pick [0, 1, 2, 3, 4] [(0, .ref 87), (1, .int x1), (2, .int x2), (3, .int x3), (4, .int x4)] rfl ?_
      refine h_invV (As := [.int 93, .int x1]) (st := []) dX12_bait_167 lk_X12_203 (h_room (by decide)) nl_87 zk_87 (by decide) rfl rfl rfl (Nat.le_of_ble_eq_true rfl) ?_
      exact k2 c1 c2
  ·
    refine h_iload dX12_bait_45 6 rfl ?_
    refine h_bipush (v := 7) dX12_bait_47 (by decide) ?_
    refine h_irem dX12_bait_49 (by decide) ?_
    refine h_istore (L' := [(8, .int (x6 - x6 / 7 * 7)), (0, .ref 87), (1, .int x1), (2, .int x2), (3, .int x3), (4, .int x4), (5, .int x5), (6, .int x6), (7, .int x7)]) dX12_bait_50 (by decide) rfl ?_
    refine h_iload dX12_bait_52 7 rfl ?_
    refine h_bipush (v := 7) dX12_bait_54 (by decide) ?_
    refine h_idiv dX12_bait_56 (by decide) ?_
    refine h_istore (L' := [(6, .int (x6 / 7)), (8, .int (x6 - x6 / 7 * 7)), (0, .ref 87), (1, .int x1), (2, .int x2), (3, .int x3), (4, .int x4), (5, .int x5), (7, .int x7)]) dX12_bait_57 (by decide) rfl ?_
    refine h_iload dX12_bait_59 7 rfl ?_
    refine h_if_eq (tgt := 84) dX12_bait_61 (by decide) (fun c3 => ?_) (fun c3 => ?_)
    ·
      refine h_iconst (v := 0) dX12_bait_84 (by decide) ?_
      refine h_istore (L' := [(5, .int 0), (6, .int (x6 / 7)), (8, .int (x6 - x6 / 7 * 7)), (0, .ref 87), (1, .int x1), (2, .int x2), (3, .int x3), (4, .int x4), (7, .int x7)]) dX12_bait_85 (by decide) rfl ?_
      refine h_pick [3, 4, 5, 6, 7, 0, 1, 8, 2] [(0, .ref 87), (1, .int x1), (2, .int x2), (3, .int x3), (4, .int x4), (5, .int 0), (6, .int (x6 / 7)), (7, .int x7), (8, .int (x6 - x6 / 7 * 7))] rfl ?_
      exact k3 c1 c3
    ·
      refine h_iload dX12_bait_64 1 rfl ?_
      refine h_aload_n dX12_bait_66 rfl 2 rfl ?_
      refine gf_10_6 dX12_bait_67 hl_X12_23 nl_87 zk_87 ?_
      refine h_icmp_lt (tgt := 80) dX12_bait_70 (by decide) (fun c4 => ?_) (fun c4 => ?_)
      ·
        refine h_iconst (v := 1) dX12_bait_80 (by decide) ?_
        refine h_goto (tgt := 85) dX12_bait_81 (by decide) ?_
        refine h_istore (L' := [(5, .int 1), (6, .int (x6 / 7)), (8, .int (x6 - x6 / 7 * 7)), (0, .ref 87), (1, .int x1), (2, .int x2), (3, .int x3), (4, .int x4), (7, .int x7)]) dX12_bait_85 (by decide) rfl ?_
        refine h_pick [3, 4, 5, 6, 7, 0, 1, 8, 2] [(0, .ref 87), (1, .int x1), (2, .int x2), (3, .int x3), (4, .int x4), (5, .int 1), (6, .int (x6 / 7)), (7, .int x7), (8, .int (x6 - x6 / 7 * 7))] rfl ?_
        exact k4 c1 c3 c4
      ·
        refine h_iload dX12_bait_73 1 rfl ?_
        refine h_bipush (v := 6) dX12_bait_75 (by decide) ?_
        refine h_icmp_ne (tgt := 84) dX12_bait_77 (by decide) (fun c5 => ?_) (fun c5 => ?_)
        ·
          refine h_iconst (v := 0) dX12_bait_84 (by decide) ?_
          refine h_istore (L' := [(5, .int 0), (6, .int (x6 / 7)), (8, .int (x6 - x6 / 7 * 7)), (0, .ref 87), (1, .int x1), (2, .int x2), (3, .int x3), (4, .int x4), (7, .int x7)]) dX12_bait_85 (by decide) rfl ?_
          refine h_pick [3, 4, 5, 6, 7, 0, 1, 8, 2] [(0, .ref 87), (1, .int x1), (2, .int x2), (3, .int x3), (4, .int x4), (5, .int 0), (6, .int (x6 / 7)), (7, .int x7), (8, .int (x6 - x6 / 7 * 7))] rfl ?_
          exact k5 c1 c3 c4 c5
        ·
          refine h_iconst (v := 1) dX12_bait_80 (by decide) ?_
          refine h_goto (tgt := 85) dX12_bait_81 (by decide) ?_
          refine h_istore (L' := [(5, .int 1), (6, .int (x6 / 7)), (8, .int (x6 - x6 / 7 * 7)), (0, .ref 87), (1, .int x1), (2, .int x2), (3, .int x3), (4, .int x4), (7, .int x7)]) dX12_bait_85 (by decide) rfl ?_
          refine h_pick [3, 4, 5, 6, 7, 0, 1, 8, 2] [(0, .ref 87), (1, .int x1), (2, .int x2), (3, .int x3), (4, .int x4), (5, .int 1), (6, .int (x6 / 7)), (7, .int x7), (8, .int (x6 - x6 / 7 * 7))] rfl ?_
          exact k6 c1 c3 c4 c5
set_option maxHeartbeats 1000000 in
set_option maxRecDepth 4000 in
theorem sg_X12_bait_170 {E : HEn} {d : Nat} {Q : Option Value → HIh → Prop} {I : HIh} {x1 : Int32} {x2 : Int32} {x3 : Int32} {x4 : Int32} {s0 : Int32}
    (k1 : s0 = (-1) → HGo E (mF E (d + 4) Q) me_X12_bait 14 [(0, .ref 87), (1, .int x1), (2, .int x2), (3, .int (x3 + 1))] [] I)
    (k2 : ¬ s0 = (-1) → x2 = (-1) → HGo E (mF E (d + 4) Q) me_X12_bait 14 [(0, .ref 87), (1, .int x1), (2, .int x4), (3, .int (x3 + 1))] [] I)
    (k3 : ¬ s0 = (-1) → ¬ x2 = (-1) → x2 ≤ x4 → HGo E (mF E (d + 4) Q) me_X12_bait 14 [(0, .ref 87), (1, .int x1), (2, .int x2), (3, .int (x3 + 1))] [] I)
    (k4 : ¬ s0 = (-1) → ¬ x2 = (-1) → ¬ x2 ≤ x4 → HGo E (mF E (d + 4) Q) me_X12_bait 14 [(0, .ref 87), (1, .int x1), (2, .int x4), (3, .int (x3 + 1))] [] I)
    : HGo E (mF E (d + 4) Q) me_X12_bait 170 [(0, .ref 87), (1, .int x1), (2, .int x2), (3, .int x3), (4, .int x4)] [.int s0] I := by
  refine h_iconst (v := (-1)) dX12_bait_170 (by decide) ?_
  refine h_icmp_eq (tgt := 190) dX12_bait_171 (by decide) (fun c1 => ?_) (fun c1 => ?_)
  ·
    refine h_iload_n dX12_bait_190 rfl 2 rfl ?_
    refine h_istore_n (L' := [(2, .int x2), (0, .ref 87), (1, .int x1), (3, .int x3), (4, .int x4)]) dX12_bait_191 rfl (by decide) rfl ?_
    refine h_iinc (v := (x3 + 1)) (L' := [(3, .int (x3 + 1)), (2, .int x2), (0, .ref 87), (1, .int x1), (4, .int x4)]) dX12_bait_192 3 rfl rfl (by decide) rfl ?_
    refine h_goto (tgt := 14) dX12_bait_195 (by decide) ?_
    refine h_pick [2, 3, 1, 0] [(0, .ref 87), (1, .int x1), (2, .int x2), (3, .int (x3 + 1))] rfl ?_
    exact k1 c1
  ·
    refine h_iload_n dX12_bait_174 rfl 2 rfl ?_
    refine h_iconst (v := (-1)) dX12_bait_175 (by decide) ?_
    refine h_icmp_eq (tgt := 185) dX12_bait_176 (by decide) (fun c2 => ?_) (fun c2 => ?_)
    ·
      refine h_iload dX12_bait_185 4 rfl ?_
      refine h_goto (tgt := 191) dX12_bait_187 (by decide) ?_
      refine h_istore_n (L' := [(2, .int x4), (0, .ref 87), (1, .int x1), (3, .int x3), (4, .int x4)]) dX12_bait_191 rfl (by decide) rfl ?_
      refine h_iinc (v := (x3 + 1)) (L' := [(3, .int (x3 + 1)), (2, .int x4), (0, .ref 87), (1, .int x1), (4, .int x4)]) dX12_bait_192 3 rfl rfl (by decide) rfl ?_
      refine h_goto (tgt := 14) dX12_bait_195 (by decide) ?_
      refine h_pick [2, 3, 1, 0] [(0, .ref 87), (1, .int x1), (2, .int x4), (3, .int (x3 + 1))] rfl ?_
      exact k2 c1 c2
    ·
      refine h_iload dX12_bait_179 4 rfl ?_
      refine h_iload_n dX12_bait_181 rfl 2 rfl ?_
      refine h_icmp_ge (tgt := 190) dX12_bait_182 (by decide) (fun c3 => ?_) (fun c3 => ?_)
      ·
        refine h_iload_n dX12_bait_190 rfl 2 rfl ?_
        refine h_istore_n (L' := [(2, .int x2), (0, .ref 87), (1, .int x1), (3, .int x3), (4, .int x4)]) dX12_bait_191 rfl (by decide) rfl ?_
        refine h_iinc (v := (x3 + 1)) (L' := [(3, .int (x3 + 1)), (2, .int x2), (0, .ref 87), (1, .int x1), (4, .int x4)]) dX12_bait_192 3 rfl rfl (by decide) rfl ?_
        refine h_goto (tgt := 14) dX12_bait_195 (by decide) ?_
        refine h_pick [2, 3, 1, 0] [(0, .ref 87), (1, .int x1), (2, .int x2), (3, .int (x3 + 1))] rfl ?_
        exact k3 c1 c2 c3
      ·
        refine h_iload dX12_bait_185 4 rfl ?_
        refine h_goto (tgt := 191) dX12_bait_187 (by decide) ?_
        refine h_istore_n (L' := [(2, .int x4), (0, .ref 87), (1, .int x1), (3, .int x3), (4, .int x4)]) dX12_bait_191 rfl (by decide) rfl ?_
        refine h_iinc (v := (x3 + 1)) (L' := [(3, .int (x3 + 1)), (2, .int x4), (0, .ref 87), (1, .int x1), (4, .int x4)]) dX12_bait_192 3 rfl rfl (by decide) rfl ?_
        refine h_goto (tgt := 14) dX12_bait_195 (by decide) ?_
        refine h_pick [2, 3, 1, 0] [(0, .ref 87), (1, .int x1), (2, .int x4), (3, .int (x3 + 1))] rfl ?_
        exact k4 c1 c2 c3
set_option maxHeartbeats 1000000 in
set_option maxRecDepth 4000 in
theorem sg_X12_bait_87 {E : HEn} {d : Nat} {Q : Option Value → HIh → Prop} {I : HIh} {x1 : Int32} {x2 : Int32} {x3 : Int32} {x4 : Int32} {x5 : Int32} {x6 : Int32} {x7 : Int32} {x8 : Int32}
    (k1 : (I 87 6) ≤ x8 → HGo E (mF E (d + 4) Q) me_X12_bait 112 [(0, .ref 87), (1, .int x1), (2, .int x2), (3, .int x3), (4, .int (x4 + 0)), (5, .int x5), (6, .int x6), (7, .int x7), (8, .int x8)] [] I)
    (k2 : ¬ (I 87 6) ≤ x8 → vp_in x8 6)
    (k3 : ¬ (I 87 6) ≤ x8 → HGo E (mF E (d + 4) Q) me_X12_bait 112 [(0, .ref 87), (1, .int x1), (2, .int x2), (3, .int x3), (4, .int (x4 + (I 92 x8.toNatClampNeg))), (5, .int x5), (6, .int x6), (7, .int x7), (8, .int x8)] [] I)
    : HGo E (mF E (d + 4) Q) me_X12_bait 87 [(0, .ref 87), (1, .int x1), (2, .int x2), (3, .int x3), (4, .int x4), (5, .int x5), (6, .int x6), (7, .int x7), (8, .int x8)] [] I := by
  refine h_iload dX12_bait_87 4 rfl ?_
  refine h_iload dX12_bait_89 8 rfl ?_
  refine h_aload_n dX12_bait_91 rfl 0 rfl ?_
  refine gf_10_6 dX12_bait_92 hl_X12_23 nl_87 zk_87 ?_
  refine h_icmp_ge (tgt := 108) dX12_bait_95 (by decide) (fun c1 => ?_) (fun c1 => ?_)
  ·
    refine h_iconst (v := 0) dX12_bait_108 (by decide) ?_
    refine h_iadd dX12_bait_109 ?_
    refine h_istore (L' := [(4, .int (x4 + 0)), (0, .ref 87), (1, .int x1), (2, .int x2), (3, .int x3), (5, .int x5), (6, .int x6), (7, .int x7), (8, .int x8)]) dX12_bait_110 (by decide) rfl ?_
    refine h_pick [1, 2, 3, 4, 0, 5, 6, 7, 8] [(0, .ref 87), (1, .int x1), (2, .int x2), (3, .int x3), (4, .int (x4 + 0)), (5, .int x5), (6, .int x6), (7, .int x7), (8, .int x8)] rfl ?_
    exact k1 c1
  ·
    refine h_aload_n dX12_bait_98 rfl 0 rfl ?_
    refine gf_10_7 dX12_bait_99 hl_X12_27 nl_87 zk_87 zp_87_7 ?_
    refine h_iload dX12_bait_102 8 rfl ?_
    refine h_iald dX12_bait_104 nl_92 zk_92 (by rw [zn_92]; exact k2 c1) ?_
    refine h_goto (tgt := 109) dX12_bait_105 (by decide) ?_
    refine h_iadd dX12_bait_109 ?_
    refine h_istore (L' := [(4, .int (x4 + (I 92 x8.toNatClampNeg))), (0, .ref 87), (1, .int x1), (2, .int x2), (3, .int x3), (5, .int x5), (6, .int x6), (7, .int x7), (8, .int x8)]) dX12_bait_110 (by decide) rfl ?_
    refine h_pick [1, 2, 3, 4, 0, 5, 6, 7, 8] [(0, .ref 87), (1, .int x1), (2, .int x2), (3, .int x3), (4, .int (x4 + (I 92 x8.toNatClampNeg))), (5, .int x5), (6, .int x6), (7, .int x7), (8, .int x8)] rfl ?_
    exact k3 c1
set_option maxHeartbeats 1000000 in
set_option maxRecDepth 4000 in
theorem sg_X12_bait_112 {E : HEn} {d : Nat} {Q : Option Value → HIh → Prop} {I : HIh} {x1 : Int32} {x2 : Int32} {x3 : Int32} {x4 : Int32} {x5 : Int32} {x6 : Int32} {x7 : Int32} {x8 : Int32}
    (k1 : (I 87 6) ≤ x8 → vp_in (93 + 0) 341)
    (k2 : (I 87 6) ≤ x8 → (I 87 6) ≤ x8 → vp_in (93 + 0) 341)
    (k3 : (I 87 6) ≤ x8 → (I 87 6) ≤ x8 → HGo E (mF E (d + 4) Q) me_X12_bait 39 [(0, .ref 87), (1, .int x1), (2, .int x2), (3, .int x3), (4, .int x4), (5, .int x5), (6, .int x6), (7, .int (x7 + 1))] [] (setI I 88 (upd (I 88) ((93 + 0) : Int32).toNatClampNeg ((I 88 ((93 + 0) : Int32).toNatClampNeg) + 0))))
    (k4 : (I 87 6) ≤ x8 → ¬ (I 87 6) ≤ x8 → vp_in (93 + 0) 341)
    (k5 : (I 87 6) ≤ x8 → ¬ (I 87 6) ≤ x8 → HGo E (mF E (d + 4) Q) me_X12_bait 39 [(0, .ref 87), (1, .int x1), (2, .int x2), (3, .int x3), (4, .int x4), (5, .int x5), (6, .int x6), (7, .int (x7 + 1))] [] (setI I 88 (upd (I 88) ((93 + 0) : Int32).toNatClampNeg ((I 88 ((93 + 0) : Int32).toNatClampNeg) + 1))))
    (k6 : ¬ (I 87 6) ≤ x8 → vp_in (93 + x8) 341)
    (k7 : ¬ (I 87 6) ≤ x8 → (I 87 6) ≤ x8 → vp_in (93 + x8) 341)
    (k8 : ¬ (I 87 6) ≤ x8 → (I 87 6) ≤ x8 → HGo E (mF E (d + 4) Q) me_X12_bait 39 [(0, .ref 87), (1, .int x1), (2, .int x2), (3, .int x3), (4, .int x4), (5, .int x5), (6, .int x6), (7, .int (x7 + 1))] [] (setI I 88 (upd (I 88) (93 + x8).toNatClampNeg ((I 88 (93 + x8).toNatClampNeg) + 0))))
    (k9 : ¬ (I 87 6) ≤ x8 → ¬ (I 87 6) ≤ x8 → vp_in (93 + x8) 341)
    (k10 : ¬ (I 87 6) ≤ x8 → ¬ (I 87 6) ≤ x8 → HGo E (mF E (d + 4) Q) me_X12_bait 39 [(0, .ref 87), (1, .int x1), (2, .int x2), (3, .int x3), (4, .int x4), (5, .int x5), (6, .int x6), (7, .int (x7 + 1))] [] (setI I 88 (upd (I 88) (93 + x8).toNatClampNeg ((I 88 (93 + x8).toNatClampNeg) + 1))))
    : HGo E (mF E (d + 4) Q) me_X12_bait 112 [(0, .ref 87), (1, .int x1), (2, .int x2), (3, .int x3), (4, .int x4), (5, .int x5), (6, .int x6), (7, .int x7), (8, .int x8)] [] I := by
  refine h_aload_n dX12_bait_112 rfl 0 rfl ?_
  refine gf_10_0 dX12_bait_113 hl_X12_7 nl_87 zk_87 zp_87_0 ?_
  refine h_bipush (v := 93) dX12_bait_116 (by decide) ?_
  refine h_iload dX12_bait_118 8 rfl ?_
  refine h_aload_n dX12_bait_120 rfl 0 rfl ?_
  refine gf_10_6 dX12_bait_121 hl_X12_23 nl_87 zk_87 ?_
  refine h_icmp_ge (tgt := 132) dX12_bait_124 (by decide) (fun c1 => ?_) (fun c1 => ?_)
  ·
    refine h_iconst (v := 0) dX12_bait_132 (by decide) ?_
    refine h_iadd dX12_bait_133 ?_
    refine h_dup2 dX12_bait_134 rfl rfl ?_
    refine h_iald dX12_bait_135 nl_88 zk_88 (by rw [zn_88]; exact k1 c1) ?_
    refine h_iload dX12_bait_136 8 rfl ?_
    refine h_aload_n dX12_bait_138 rfl 0 rfl ?_
    refine gf_10_6 dX12_bait_139 hl_X12_23 nl_87 zk_87 ?_
    refine h_icmp_ge (tgt := 149) dX12_bait_142 (by decide) (fun c2 => ?_) (fun c2 => ?_)
    ·
      refine h_iconst (v := 0) dX12_bait_149 (by decide) ?_
      refine h_iadd dX12_bait_150 ?_
      refine h_iast dX12_bait_151 nl_88 zk_88 (by rw [zn_88]; exact k2 c1 c2) ?_
      refine h_iinc (v := (x7 + 1)) (L' := [(7, .int (x7 + 1)), (0, .ref 87), (1, .int x1), (2, .int x2), (3, .int x3), (4, .int x4), (5, .int x5), (6, .int x6), (8, .int x8)]) dX12_bait_152 7 rfl rfl (by decide) rfl ?_
      refine h_goto (tgt := 39) dX12_bait_155 (by decide) ?_
      refine h_pick [1, 2, 3, 4, 5, 6, 7, 0] [(0, .ref 87), (1, .int x1), (2, .int x2), (3, .int x3), (4, .int x4), (5, .int x5), (6, .int x6), (7, .int (x7 + 1))] rfl ?_
      exact k3 c1 c2
    ·
      refine h_iconst (v := 1) dX12_bait_145 (by decide) ?_
      refine h_goto (tgt := 150) dX12_bait_146 (by decide) ?_
      refine h_iadd dX12_bait_150 ?_
      refine h_iast dX12_bait_151 nl_88 zk_88 (by rw [zn_88]; exact k4 c1 c2) ?_
      refine h_iinc (v := (x7 + 1)) (L' := [(7, .int (x7 + 1)), (0, .ref 87), (1, .int x1), (2, .int x2), (3, .int x3), (4, .int x4), (5, .int x5), (6, .int x6), (8, .int x8)]) dX12_bait_152 7 rfl rfl (by decide) rfl ?_
      refine h_goto (tgt := 39) dX12_bait_155 (by decide) ?_
      refine h_pick [1, 2, 3, 4, 5, 6, 7, 0] [(0, .ref 87), (1, .int x1), (2, .int x2), (3, .int x3), (4, .int x4), (5, .int x5), (6, .int x6), (7, .int (x7 + 1))] rfl ?_
      exact k5 c1 c2
  ·
    refine h_iload dX12_bait_127 8 rfl ?_
    refine h_goto (tgt := 133) dX12_bait_129 (by decide) ?_
    refine h_iadd dX12_bait_133 ?_
    refine h_dup2 dX12_bait_134 rfl rfl ?_
    refine h_iald dX12_bait_135 nl_88 zk_88 (by rw [zn_88]; exact k6 c1) ?_
    refine h_iload dX12_bait_136 8 rfl ?_
    refine h_aload_n dX12_bait_138 rfl 0 rfl ?_
    refine gf_10_6 dX12_bait_139 hl_X12_23 nl_87 zk_87 ?_
    refine h_icmp_ge (tgt := 149) dX12_bait_142 (by decide) (fun c3 => ?_) (fun c3 => ?_)
    ·
      refine h_iconst (v := 0) dX12_bait_149 (by decide) ?_
      refine h_iadd dX12_bait_150 ?_
      refine h_iast dX12_bait_151 nl_88 zk_88 (by rw [zn_88]; exact k7 c1 c3) ?_
      refine h_iinc (v := (x7 + 1)) (L' := [(7, .int (x7 + 1)), (0, .ref 87), (1, .int x1), (2, .int x2), (3, .int x3), (4, .int x4), (5, .int x5), (6, .int x6), (8, .int x8)]) dX12_bait_152 7 rfl rfl (by decide) rfl ?_
      refine h_goto (tgt := 39) dX12_bait_155 (by decide) ?_
      refine h_pick [1, 2, 3, 4, 5, 6, 7, 0] [(0, .ref 87), (1, .int x1), (2, .int x2), (3, .int x3), (4, .int x4), (5, .int x5), (6, .int x6), (7, .int (x7 + 1))] rfl ?_
      exact k8 c1 c3
    ·
      refine h_iconst (v := 1) dX12_bait_145 (by decide) ?_
      refine h_goto (tgt := 150) dX12_bait_146 (by decide) ?_
      refine h_iadd dX12_bait_150 ?_
      refine h_iast dX12_bait_151 nl_88 zk_88 (by rw [zn_88]; exact k9 c1 c3) ?_
      refine h_iinc (v := (x7 + 1)) (L' := [(7, .int (x7 + 1)), (0, .ref 87), (1, .int x1), (2, .int x2), (3, .int x3), (4, .int x4), (5, .int x5), (6, .int x6), (8, .int x8)]) dX12_bait_152 7 rfl rfl (by decide) rfl ?_
      refine h_goto (tgt := 39) dX12_bait_155 (by decide) ?_
      refine h_pick [1, 2, 3, 4, 5, 6, 7, 0] [(0, .ref 87), (1, .int x1), (2, .int x2), (3, .int x3), (4, .int x4), (5, .int x5), (6, .int x6), (7, .int (x7 + 1))] rfl ?_
      exact k10 c1 c3
set_option maxHeartbeats 1000000 in
set_option maxRecDepth 4000 in
theorem sg_X12_note_0 {E : HEn} {d : Nat} {Q : Option Value → HIh → Prop} {I : HIh} {a : Int32} {b : Int32}
    (k1 : (0 : Int32) ≤ a → a ≤ I 87 6 - 1 → (0 : Int64) ≤ b.toInt64 → (b.toInt64 : Int64) ≤ 9999 → ¬ (I 87 27) = 6 → vp_in (I 87 27) 6)
    (k2 : (0 : Int32) ≤ a → a ≤ I 87 6 - 1 → (0 : Int64) ≤ b.toInt64 → (b.toInt64 : Int64) ≤ 9999 → ¬ (I 87 27) = 6 → vp_in ((setI I 101 (upd (I 101) (I 87 27).toNatClampNeg a)) 87 27) 6)
    (k3 : (0 : Int32) ≤ a → a ≤ I 87 6 - 1 → (0 : Int64) ≤ b.toInt64 → (b.toInt64 : Int64) ≤ 9999 → ¬ (I 87 27) = 6 → Q (some (.int ((setI (setI (setI I 101 (upd (I 101) (I 87 27).toNatClampNeg a)) 102 (upd ((setI I 101 (upd (I 101) (I 87 27).toNatClampNeg a)) 102) ((setI I 101 (upd (I 101) (I 87 27).toNatClampNeg a)) 87 27).toNatClampNeg b)) 87 (upd ((setI (setI I 101 (upd (I 101) (I 87 27).toNatClampNeg a)) 102 (upd ((setI I 101 (upd (I 101) (I 87 27).toNatClampNeg a)) 102) ((setI I 101 (upd (I 101) (I 87 27).toNatClampNeg a)) 87 27).toNatClampNeg b)) 87) 27 (((setI (setI I 101 (upd (I 101) (I 87 27).toNatClampNeg a)) 102 (upd ((setI I 101 (upd (I 101) (I 87 27).toNatClampNeg a)) 102) ((setI I 101 (upd (I 101) (I 87 27).toNatClampNeg a)) 87 27).toNatClampNeg b)) 87 27) + 1))) 87 27))) (setI (setI (setI I 101 (upd (I 101) (I 87 27).toNatClampNeg a)) 102 (upd ((setI I 101 (upd (I 101) (I 87 27).toNatClampNeg a)) 102) ((setI I 101 (upd (I 101) (I 87 27).toNatClampNeg a)) 87 27).toNatClampNeg b)) 87 (upd ((setI (setI I 101 (upd (I 101) (I 87 27).toNatClampNeg a)) 102 (upd ((setI I 101 (upd (I 101) (I 87 27).toNatClampNeg a)) 102) ((setI I 101 (upd (I 101) (I 87 27).toNatClampNeg a)) 87 27).toNatClampNeg b)) 87) 27 (((setI (setI I 101 (upd (I 101) (I 87 27).toNatClampNeg a)) 102 (upd ((setI I 101 (upd (I 101) (I 87 27).toNatClampNeg a)) 102) ((setI I 101 (upd (I 101) (I 87 27).toNatClampNeg a)) 87 27).toNatClampNeg b)) 87 27) + 1))))
    (k4 : (0 : Int32) ≤ a → a ≤ I 87 6 - 1 → (0 : Int64) ≤ b.toInt64 → (b.toInt64 : Int64) ≤ 9999 → (I 87 27) = 6 → Q (some (.int (-5))) I)
    (k5 : (0 : Int32) ≤ a → a ≤ I 87 6 - 1 → ¬ ((0 : Int64) ≤ b.toInt64 ∧ (b.toInt64 : Int64) ≤ 9999) → Q (some (.int (-3))) I)
    (k6 : ¬ ((0 : Int32) ≤ a ∧ a ≤ I 87 6 - 1) → Q (some (.int (-2))) I)
    : HGo E (mF E (d + 3) Q) me_X12_note 0 [(0, .ref 87), (1, .int a), (2, .int b)] [] I := by
  refine h_aload_n dX12_note_0 rfl 0 rfl ?_
  refine h_iload_n dX12_note_1 rfl 1 rfl ?_
  refine h_invV (As := [.int a]) (st := []) dX12_note_2 lk_X12_177 (h_room (by decide)) nl_87 zk_87 (by decide) rfl rfl rfl (Nat.le_of_ble_eq_true rfl) ?_
  refine c_X12_isKind (fun c1 c2 => ?_) (fun c3 => ?_)
  ·
    refine h_if_ne (tgt := 11) dX12_note_5 (by decide) (fun _ => ?_) (fun c => absurd c (by decide))
    refine h_iload_n dX12_note_11 rfl 2 rfl ?_
    refine h_i2l dX12_note_12 ?_
    refine h_lconst (v := 0) dX12_note_13 (by decide) ?_
    refine h_ldc2 dX12_note_14 wt_1143 rfl ?_
    refine h_invS (As := [.long b.toInt64, .long 0, .long 9999]) (st := []) dX12_note_17 lk_X12_62 (h_room (by decide)) rfl rfl (Nat.le_of_ble_eq_true rfl) ?_
    refine c_X12_in (fun c4 c5 => ?_) (fun c6 => ?_)
    ·
      refine h_if_ne (tgt := 26) dX12_note_20 (by decide) (fun _ => ?_) (fun c => absurd c (by decide))
      refine h_aload_n dX12_note_26 rfl 0 rfl ?_
      refine gf_10_27 dX12_note_27 hl_X12_172 nl_87 zk_87 ?_
      refine h_bipush (v := 6) dX12_note_30 (by decide) ?_
      refine h_icmp_ne (tgt := 38) dX12_note_32 (by decide) (fun c7 => ?_) (fun c7 => ?_)
      ·
        refine h_aload_n dX12_note_38 rfl 0 rfl ?_
        refine gf_10_25 dX12_note_39 hl_X12_54 nl_87 zk_87 zp_87_25 ?_
        refine h_aload_n dX12_note_42 rfl 0 rfl ?_
        refine gf_10_27 dX12_note_43 hl_X12_172 nl_87 zk_87 ?_
        refine h_iload_n dX12_note_46 rfl 1 rfl ?_
        refine h_iast dX12_note_47 nl_101 zk_101 (by rw [zn_101]; exact k1 c1 c2 c4 c5 c7) ?_
        refine h_aload_n dX12_note_48 rfl 0 rfl ?_
        refine gf_10_26 dX12_note_49 hl_X12_57 nl_87 zk_87 zp_87_26 ?_
        refine h_aload_n dX12_note_52 rfl 0 rfl ?_
        refine gf_10_27 dX12_note_53 hl_X12_172 nl_87 zk_87 ?_
        refine h_iload_n dX12_note_56 rfl 2 rfl ?_
        refine h_iast dX12_note_57 nl_102 zk_102 (by rw [zn_102]; exact k2 c1 c2 c4 c5 c7) ?_
        refine h_aload_n dX12_note_58 rfl 0 rfl ?_
        refine h_dup dX12_note_59 rfl ?_
        refine gf_10_27 dX12_note_60 hl_X12_172 nl_87 zk_87 ?_
        refine h_iconst (v := 1) dX12_note_63 (by decide) ?_
        refine h_iadd dX12_note_64 ?_
        refine pf_10_27 dX12_note_65 hl_X12_172 nl_87 zk_87 ?_
        refine h_aload_n dX12_note_68 rfl 0 rfl ?_
        refine gf_10_27 dX12_note_69 hl_X12_172 nl_87 zk_87 ?_
        exact h_iret dX12_note_72 rfl (k3 c1 c2 c4 c5 c7)
      ·
        refine h_bipush (v := (-5)) dX12_note_35 (by decide) ?_
        exact h_iret dX12_note_37 rfl (k4 c1 c2 c4 c5 c7)
    ·
      refine h_if_ne (tgt := 26) dX12_note_20 (by decide) (fun c => absurd c (by decide)) (fun _ => ?_)
      refine h_bipush (v := (-3)) dX12_note_23 (by decide) ?_
      exact h_iret dX12_note_25 rfl (k5 c1 c2 c6)
  ·
    refine h_if_ne (tgt := 11) dX12_note_5 (by decide) (fun c => absurd c (by decide)) (fun _ => ?_)
    refine h_bipush (v := (-2)) dX12_note_8 (by decide) ?_
    exact h_iret dX12_note_10 rfl (k6 c3)
set_option maxHeartbeats 1000000 in
set_option maxRecDepth 4000 in
theorem sg_X12_forget_0 {E : HEn} {d : Nat} {Q : Option Value → HIh → Prop} {I : HIh} 
    (k1 : Q (some (.int (I 87 27))) (setI I 87 (upd (I 87) 27 0)))
    : HGo E (mF E (d + 1) Q) me_X12_forget 0 [(0, .ref 87)] [] I := by
  refine h_aload_n dX12_forget_0 rfl 0 rfl ?_
  refine gf_10_27 dX12_forget_1 hl_X12_172 nl_87 zk_87 ?_
  refine h_istore_n (L' := [(1, .int (I 87 27)), (0, .ref 87)]) dX12_forget_4 rfl (by decide) rfl ?_
  refine h_aload_n dX12_forget_5 rfl 1 rfl ?_
  refine h_iconst (v := 0) dX12_forget_6 (by decide) ?_
  refine pf_10_27 dX12_forget_7 hl_X12_172 nl_87 zk_87 ?_
  refine h_iload_n dX12_forget_10 rfl 0 rfl ?_
  exact h_iret dX12_forget_11 rfl (k1)
set_option maxHeartbeats 1000000 in
set_option maxRecDepth 4000 in
theorem sg_X12_layOf_0 {E : HEn} {d : Nat} {Q : Option Value → HIh → Prop} {I : HIh} {a : Int32} {b : Int32}
    (k1 : Q (some (.int ((a >>> ((2 * (((I 87 6) - 1) - b)) &&& 31)) &&& 3))) I)
    : HGo E (mF E (d + 1) Q) me_X12_layOf 0 [(0, .ref 87), (1, .int a), (2, .int b)] [] I := by
  refine h_iload_n dX12_layOf_0 rfl 1 rfl ?_
  refine h_iconst (v := 2) dX12_layOf_1 (by decide) ?_
  refine h_aload_n dX12_layOf_2 rfl 0 rfl ?_
  refine gf_10_6 dX12_layOf_3 hl_X12_23 nl_87 zk_87 ?_
  refine h_iconst (v := 1) dX12_layOf_6 (by decide) ?_
  refine h_isub dX12_layOf_7 ?_
  refine h_iload_n dX12_layOf_8 rfl 2 rfl ?_
  refine h_isub dX12_layOf_9 ?_
  refine h_imul dX12_layOf_10 ?_
  refine h_ishr dX12_layOf_11 ?_
  refine h_iconst (v := 3) dX12_layOf_12 (by decide) ?_
  refine h_iand dX12_layOf_13 ?_
  exact h_iret dX12_layOf_14 rfl (k1)
set_option maxHeartbeats 1000000 in
set_option maxRecDepth 4000 in
theorem sg_X12_isSo_0 {E : HEn} {d : Nat} {Q : Option Value → HIh → Prop} {I : HIh} {a : Int32}
    (k1 : HGo E (mF E (d + 2) Q) me_X12_isSo 5 [(0, .ref 87), (1, .int a), (2, .int 93), (3, .int 0)] [] I)
    : HGo E (mF E (d + 2) Q) me_X12_isSo 0 [(0, .ref 87), (1, .int a)] [] I := by
  refine h_bipush (v := 93) dX12_isSo_0 (by decide) ?_
  refine h_istore_n (L' := [(2, .int 93), (0, .ref 87), (1, .int a)]) dX12_isSo_2 rfl (by decide) rfl ?_
  refine h_iconst (v := 0) dX12_isSo_3 (by decide) ?_
  refine h_istore_n (L' := [(3, .int 0), (2, .int 93), (0, .ref 87), (1, .int a)]) dX12_isSo_4 rfl (by decide) rfl ?_
  refine h_pick [2, 3, 1, 0] [(0, .ref 87), (1, .int a), (2, .int 93), (3, .int 0)] rfl ?_
  exact k1
set_option maxHeartbeats 1000000 in
set_option maxRecDepth 4000 in
theorem sg_X12_isSo_5 {E : HEn} {d : Nat} {Q : Option Value → HIh → Prop} {I : HIh} {x1 : Int32} {x2 : Int32} {x3 : Int32}
    (k1 : (I 87 6) ≤ x3 → HGo E (mF E (d + 2) Q) me_X12_isSo 40 [(0, .ref 87), (2, .int x2), (3, .int 1), (4, .int 0)] [] I)
    (k2 : ¬ (I 87 6) ≤ x3 → HCall E me_X12_layOf (d + 1) [.ref 87, .int x1, .int x3] I (fun v9 J => HGo E (mF E (d + 2) Q) me_X12_isSo 28 [(0, .ref 87), (1, .int x1), (2, .int x2), (3, .int x3)] (v9.toList ++ [.int ((x2 + 0) + x3), .ref 88]) J))
    : HGo E (mF E (d + 2) Q) me_X12_isSo 5 [(0, .ref 87), (1, .int x1), (2, .int x2), (3, .int x3)] [] I := by
  refine h_iload_n dX12_isSo_5 rfl 3 rfl ?_
  refine h_aload_n dX12_isSo_6 rfl 0 rfl ?_
  refine gf_10_6 dX12_isSo_7 hl_X12_23 nl_87 zk_87 ?_
  refine h_icmp_ge (tgt := 35) dX12_isSo_10 (by decide) (fun c1 => ?_) (fun c1 => ?_)
  ·
    refine h_iconst (v := 1) dX12_isSo_35 (by decide) ?_
    refine h_istore_n (L' := [(3, .int 1), (0, .ref 87), (1, .int x1), (2, .int x2)]) dX12_isSo_36 rfl (by decide) rfl ?_
    refine h_iconst (v := 0) dX12_isSo_37 (by decide) ?_
    refine h_istore (L' := [(4, .int 0), (3, .int 1), (0, .ref 87), (1, .int x1), (2, .int x2)]) dX12_isSo_38 (by decide) rfl ?_
    refine h_pick [2, 4, 1, 0] [(0, .ref 87), (2, .int x2), (3, .int 1), (4, .int 0)] rfl ?_
    exact k1 c1
  ·
    refine h_aload_n dX12_isSo_13 rfl 0 rfl ?_
    refine gf_10_0 dX12_isSo_14 hl_X12_7 nl_87 zk_87 zp_87_0 ?_
    refine h_iload_n dX12_isSo_17 rfl 2 rfl ?_
    refine h_iconst (v := 0) dX12_isSo_18 (by decide) ?_
    refine h_iadd dX12_isSo_19 ?_
    refine h_iload_n dX12_isSo_20 rfl 3 rfl ?_
    refine h_iadd dX12_isSo_21 ?_
    refine h_aload_n dX12_isSo_22 rfl 0 rfl ?_
    refine h_iload_n dX12_isSo_23 rfl 1 rfl ?_
    refine h_iload_n dX12_isSo_24 rfl 3 rfl ?_
    refine h_invV (As := [.int x1, .int x3]) (st := [.int ((x2 + 0) + x3), .ref 88]) dX12_isSo_25 lk_X12_267 (h_room (by decide)) nl_87 zk_87 (by decide) rfl rfl rfl (Nat.le_of_ble_eq_true rfl) ?_
    exact k2 c1
set_option maxHeartbeats 1000000 in
set_option maxRecDepth 4000 in
theorem sg_X12_isSo_40 {E : HEn} {d : Nat} {Q : Option Value → HIh → Prop} {I : HIh} {x2 : Int32} {x3 : Int32} {x4 : Int32}
    (k1 : (I 87 27) ≤ x4 → vp_nar .boolean x3 = x3)
    (k2 : (I 87 27) ≤ x4 → Q (some (.int x3)) I)
    (k3 : ¬ (I 87 27) ≤ x4 → x3 = 0 → vp_nar .boolean x3 = x3)
    (k4 : ¬ (I 87 27) ≤ x4 → x3 = 0 → Q (some (.int x3)) I)
    (k5 : ¬ (I 87 27) ≤ x4 → ¬ x3 = 0 → vp_in x4 6)
    (k6 : ¬ (I 87 27) ≤ x4 → ¬ x3 = 0 → HCall E me_X12_layTakes (d + 1) [.ref 87, .int x2, .int (I 101 x4.toNatClampNeg)] I (fun v9 J => HGo E (mF E (d + 2) Q) me_X12_isSo 65 [(0, .ref 87), (2, .int x2), (4, .int x4)] (v9.toList ++ []) J))
    : HGo E (mF E (d + 2) Q) me_X12_isSo 40 [(0, .ref 87), (2, .int x2), (3, .int x3), (4, .int x4)] [] I := by
  refine h_iload dX12_isSo_40 3 rfl ?_
  refine h_aload_n dX12_isSo_42 rfl 0 rfl ?_
  refine gf_10_27 dX12_isSo_43 hl_X12_172 nl_87 zk_87 ?_
  refine h_icmp_ge (tgt := 146) dX12_isSo_46 (by decide) (fun c1 => ?_) (fun c1 => ?_)
  ·
    refine h_iload_n dX12_isSo_146 rfl 2 rfl ?_
    exact h_zret dX12_isSo_147 rfl (k1 c1) (k2 c1)
  ·
    refine h_iload_n dX12_isSo_49 rfl 2 rfl ?_
    refine h_if_eq (tgt := 146) dX12_isSo_50 (by decide) (fun c2 => ?_) (fun c2 => ?_)
    ·
      refine h_iload_n dX12_isSo_146 rfl 2 rfl ?_
      exact h_zret dX12_isSo_147 rfl (k3 c1 c2) (k4 c1 c2)
    ·
      refine h_aload_n dX12_isSo_53 rfl 0 rfl ?_
      refine h_iload_n dX12_isSo_54 rfl 1 rfl ?_
      refine h_aload_n dX12_isSo_55 rfl 0 rfl ?_
      refine gf_10_25 dX12_isSo_56 hl_X12_54 nl_87 zk_87 zp_87_25 ?_
      refine h_iload dX12_isSo_59 3 rfl ?_
      refine h_iald dX12_isSo_61 nl_101 zk_101 (by rw [zn_101]; exact k5 c1 c2) ?_
      refine h_pick [0, 1, 3] [(0, .ref 87), (2, .int x2), (4, .int x4)] rfl ?_
      refine h_invV (As := [.int x2, .int (I 101 x4.toNatClampNeg)]) (st := []) dX12_isSo_62 lk_X12_193 (h_room (by decide)) nl_87 zk_87 (by decide) rfl rfl rfl (Nat.le_of_ble_eq_true rfl) ?_
      exact k6 c1 c2
set_option maxHeartbeats 1000000 in
set_option maxRecDepth 4000 in
theorem sg_X12_isSo_28 {E : HEn} {d : Nat} {Q : Option Value → HIh → Prop} {I : HIh} {x1 : Int32} {x2 : Int32} {x3 : Int32} {s0 : Int32} {s1 : Int32}
    (k1 : vp_in s1 341)
    (k2 : HGo E (mF E (d + 2) Q) me_X12_isSo 5 [(0, .ref 87), (1, .int x1), (2, .int x2), (3, .int (x3 + 1))] [] (setI I 88 (upd (I 88) s1.toNatClampNeg s0)))
    : HGo E (mF E (d + 2) Q) me_X12_isSo 28 [(0, .ref 87), (1, .int x1), (2, .int x2), (3, .int x3)] [.int s0, .int s1, .ref 88] I := by
  refine h_iast dX12_isSo_28 nl_88 zk_88 (by rw [zn_88]; exact k1) ?_
  refine h_iinc (v := (x3 + 1)) (L' := [(3, .int (x3 + 1)), (0, .ref 87), (1, .int x1), (2, .int x2)]) dX12_isSo_29 3 rfl rfl (by decide) rfl ?_
  refine h_goto (tgt := 5) dX12_isSo_32 (by decide) ?_
  refine h_pick [1, 2, 3, 0] [(0, .ref 87), (1, .int x1), (2, .int x2), (3, .int (x3 + 1))] rfl ?_
  exact k2
set_option maxHeartbeats 1000000 in
set_option maxRecDepth 4000 in
theorem sg_X12_isSo_65 {E : HEn} {d : Nat} {Q : Option Value → HIh → Prop} {I : HIh} {x2 : Int32} {x4 : Int32} {s0 : Int32}
    (k1 : vp_in x4 6)
    (k2 : ¬ s0 = (I 102 x4.toNatClampNeg) → HGo E (mF E (d + 2) Q) me_X12_isSo 84 [(0, .ref 87), (2, .int x2), (3, .int 0), (4, .int x4), (5, .int 0)] [] I)
    (k3 : s0 = (I 102 x4.toNatClampNeg) → HGo E (mF E (d + 2) Q) me_X12_isSo 84 [(0, .ref 87), (2, .int x2), (3, .int 1), (4, .int x4), (5, .int 0)] [] I)
    : HGo E (mF E (d + 2) Q) me_X12_isSo 65 [(0, .ref 87), (2, .int x2), (4, .int x4)] [.int s0] I := by
  refine h_aload_n dX12_isSo_65 rfl 0 rfl ?_
  refine gf_10_26 dX12_isSo_66 hl_X12_57 nl_87 zk_87 zp_87_26 ?_
  refine h_iload dX12_isSo_69 2 rfl ?_
  refine h_iald dX12_isSo_71 nl_102 zk_102 (by rw [zn_102]; exact k1) ?_
  refine h_icmp_ne (tgt := 79) dX12_isSo_72 (by decide) (fun c1 => ?_) (fun c1 => ?_)
  ·
    refine h_iconst (v := 0) dX12_isSo_79 (by decide) ?_
    refine h_istore_n (L' := [(3, .int 0), (0, .ref 87), (2, .int x2), (4, .int x4)]) dX12_isSo_80 rfl (by decide) rfl ?_
    refine h_iconst (v := 0) dX12_isSo_81 (by decide) ?_
    refine h_istore (L' := [(5, .int 0), (3, .int 0), (0, .ref 87), (2, .int x2), (4, .int x4)]) dX12_isSo_82 (by decide) rfl ?_
    refine h_pick [2, 3, 1, 4, 0] [(0, .ref 87), (2, .int x2), (3, .int 0), (4, .int x4), (5, .int 0)] rfl ?_
    exact k2 c1
  ·
    refine h_iconst (v := 1) dX12_isSo_75 (by decide) ?_
    refine h_goto (tgt := 80) dX12_isSo_76 (by decide) ?_
    refine h_istore_n (L' := [(3, .int 1), (0, .ref 87), (2, .int x2), (4, .int x4)]) dX12_isSo_80 rfl (by decide) rfl ?_
    refine h_iconst (v := 0) dX12_isSo_81 (by decide) ?_
    refine h_istore (L' := [(5, .int 0), (3, .int 1), (0, .ref 87), (2, .int x2), (4, .int x4)]) dX12_isSo_82 (by decide) rfl ?_
    refine h_pick [2, 3, 1, 4, 0] [(0, .ref 87), (2, .int x2), (3, .int 1), (4, .int x4), (5, .int 0)] rfl ?_
    exact k3 c1
set_option maxHeartbeats 1000000 in
set_option maxRecDepth 4000 in
theorem sg_X12_isSo_84 {E : HEn} {d : Nat} {Q : Option Value → HIh → Prop} {I : HIh} {x2 : Int32} {x3 : Int32} {x4 : Int32} {x5 : Int32}
    (k1 : (I 87 6) ≤ x5 → vp_in x4 6)
    (k2 : (I 87 6) ≤ x5 → vp_in ((x2 + 0) + (I 101 x4.toNatClampNeg)) 341)
    (k3 : (I 87 6) ≤ x5 → HGo E (mF E (d + 2) Q) me_X12_isSo 40 [(0, .ref 87), (2, .int x2), (3, .int x3), (4, .int (x4 + 1))] [] (setI I 88 (upd (I 88) ((x2 + 0) + (I 101 x4.toNatClampNeg)).toNatClampNeg ((I 88 ((x2 + 0) + (I 101 x4.toNatClampNeg)).toNatClampNeg) + 1))))
    (k4 : ¬ (I 87 6) ≤ x5 → vp_in ((x2 + 0) + x5) 341)
    (k5 : ¬ (I 87 6) ≤ x5 → vp_in x5 6)
    (k6 : ¬ (I 87 6) ≤ x5 → HGo E (mF E (d + 2) Q) me_X12_isSo 84 [(0, .ref 87), (2, .int x2), (3, .int x3), (4, .int x4), (5, .int (x5 + 1))] [] (setI I 88 (upd (I 88) ((x2 + 0) + x5).toNatClampNeg ((I 88 ((x2 + 0) + x5).toNatClampNeg) - (I 97 x5.toNatClampNeg)))))
    : HGo E (mF E (d + 2) Q) me_X12_isSo 84 [(0, .ref 87), (2, .int x2), (3, .int x3), (4, .int x4), (5, .int x5)] [] I := by
  refine h_iload dX12_isSo_84 4 rfl ?_
  refine h_aload_n dX12_isSo_86 rfl 0 rfl ?_
  refine gf_10_6 dX12_isSo_87 hl_X12_23 nl_87 zk_87 ?_
  refine h_icmp_ge (tgt := 120) dX12_isSo_90 (by decide) (fun c1 => ?_) (fun c1 => ?_)
  ·
    refine h_aload_n dX12_isSo_120 rfl 0 rfl ?_
    refine gf_10_0 dX12_isSo_121 hl_X12_7 nl_87 zk_87 zp_87_0 ?_
    refine h_iload_n dX12_isSo_124 rfl 1 rfl ?_
    refine h_iconst (v := 0) dX12_isSo_125 (by decide) ?_
    refine h_iadd dX12_isSo_126 ?_
    refine h_aload_n dX12_isSo_127 rfl 0 rfl ?_
    refine gf_10_25 dX12_isSo_128 hl_X12_54 nl_87 zk_87 zp_87_25 ?_
    refine h_iload dX12_isSo_131 3 rfl ?_
    refine h_iald dX12_isSo_133 nl_101 zk_101 (by rw [zn_101]; exact k1 c1) ?_
    refine h_iadd dX12_isSo_134 ?_
    refine h_dup2 dX12_isSo_135 rfl rfl ?_
    refine h_iald dX12_isSo_136 nl_88 zk_88 (by rw [zn_88]; exact k2 c1) ?_
    refine h_iconst (v := 1) dX12_isSo_137 (by decide) ?_
    refine h_iadd dX12_isSo_138 ?_
    refine h_iast dX12_isSo_139 nl_88 zk_88 (by rw [zn_88]; exact k2 c1) ?_
    refine h_iinc (v := (x4 + 1)) (L' := [(4, .int (x4 + 1)), (0, .ref 87), (2, .int x2), (3, .int x3), (5, .int x5)]) dX12_isSo_140 3 rfl rfl (by decide) rfl ?_
    refine h_goto (tgt := 40) dX12_isSo_143 (by decide) ?_
    refine h_pick [1, 2, 3, 0] [(0, .ref 87), (2, .int x2), (3, .int x3), (4, .int (x4 + 1))] rfl ?_
    exact k3 c1
  ·
    refine h_aload_n dX12_isSo_93 rfl 0 rfl ?_
    refine gf_10_0 dX12_isSo_94 hl_X12_7 nl_87 zk_87 zp_87_0 ?_
    refine h_iload_n dX12_isSo_97 rfl 1 rfl ?_
    refine h_iconst (v := 0) dX12_isSo_98 (by decide) ?_
    refine h_iadd dX12_isSo_99 ?_
    refine h_iload dX12_isSo_100 4 rfl ?_
    refine h_iadd dX12_isSo_102 ?_
    refine h_dup2 dX12_isSo_103 rfl rfl ?_
    refine h_iald dX12_isSo_104 nl_88 zk_88 (by rw [zn_88]; exact k4 c1) ?_
    refine h_aload_n dX12_isSo_105 rfl 0 rfl ?_
    refine gf_10_19 dX12_isSo_106 hl_X12_42 nl_87 zk_87 zp_87_19 ?_
    refine h_iload dX12_isSo_109 4 rfl ?_
    refine h_iald dX12_isSo_111 nl_97 zk_97 (by rw [zn_97]; exact k5 c1) ?_
    refine h_isub dX12_isSo_112 ?_
    refine h_iast dX12_isSo_113 nl_88 zk_88 (by rw [zn_88]; exact k4 c1) ?_
    refine h_iinc (v := (x5 + 1)) (L' := [(5, .int (x5 + 1)), (0, .ref 87), (2, .int x2), (3, .int x3), (4, .int x4)]) dX12_isSo_114 4 rfl rfl (by decide) rfl ?_
    refine h_goto (tgt := 84) dX12_isSo_117 (by decide) ?_
    refine h_pick [1, 2, 3, 4, 0] [(0, .ref 87), (2, .int x2), (3, .int x3), (4, .int x4), (5, .int (x5 + 1))] rfl ?_
    exact k6 c1
set_option maxHeartbeats 1000000 in
set_option maxRecDepth 4000 in
theorem sg_X12_lay_0 {E : HEn} {d : Nat} {Q : Option Value → HIh → Prop} {I : HIh} {a : Int32}
    (k1 : (0 : Int64) ≤ a.toInt64 → (a.toInt64 : Int64) ≤ 1 → (I 87 6) ≤ 4 → HGo E (mF E (d + 3) Q) me_X12_lay 75 [(0, .ref 87), (1, .int a), (2, .int 0), (3, .int (-1)), (4, .int (-1)), (5, .int (-1)), (6, .int 0)] [] I)
    (k2 : (0 : Int64) ≤ a.toInt64 → (a.toInt64 : Int64) ≤ 1 → ¬ (I 87 6) ≤ 4 → Q (some (.int (-4))) I)
    (k3 : ¬ ((0 : Int64) ≤ a.toInt64 ∧ (a.toInt64 : Int64) ≤ 1) → (10 : Int64) ≤ a.toInt64 → (a.toInt64 : Int64) ≤ (9 + (I 87 6)).toInt64 → (I 87 6) ≤ 4 → HGo E (mF E (d + 3) Q) me_X12_lay 75 [(0, .ref 87), (1, .int a), (2, .int 0), (3, .int (-1)), (4, .int (-1)), (5, .int (-1)), (6, .int 0)] [] I)
    (k4 : ¬ ((0 : Int64) ≤ a.toInt64 ∧ (a.toInt64 : Int64) ≤ 1) → (10 : Int64) ≤ a.toInt64 → (a.toInt64 : Int64) ≤ (9 + (I 87 6)).toInt64 → ¬ (I 87 6) ≤ 4 → Q (some (.int (-4))) I)
    (k5 : ¬ ((0 : Int64) ≤ a.toInt64 ∧ (a.toInt64 : Int64) ≤ 1) → ¬ ((10 : Int64) ≤ a.toInt64 ∧ (a.toInt64 : Int64) ≤ (9 + (I 87 6)).toInt64) → (20 : Int64) ≤ a.toInt64 → (a.toInt64 : Int64) ≤ (19 + (I 87 6)).toInt64 → (I 87 6) ≤ 4 → HGo E (mF E (d + 3) Q) me_X12_lay 75 [(0, .ref 87), (1, .int a), (2, .int 0), (3, .int (-1)), (4, .int (-1)), (5, .int (-1)), (6, .int 0)] [] I)
    (k6 : ¬ ((0 : Int64) ≤ a.toInt64 ∧ (a.toInt64 : Int64) ≤ 1) → ¬ ((10 : Int64) ≤ a.toInt64 ∧ (a.toInt64 : Int64) ≤ (9 + (I 87 6)).toInt64) → (20 : Int64) ≤ a.toInt64 → (a.toInt64 : Int64) ≤ (19 + (I 87 6)).toInt64 → ¬ (I 87 6) ≤ 4 → Q (some (.int (-4))) I)
    (k7 : ¬ ((0 : Int64) ≤ a.toInt64 ∧ (a.toInt64 : Int64) ≤ 1) → ¬ ((10 : Int64) ≤ a.toInt64 ∧ (a.toInt64 : Int64) ≤ (9 + (I 87 6)).toInt64) → ¬ ((20 : Int64) ≤ a.toInt64 ∧ (a.toInt64 : Int64) ≤ (19 + (I 87 6)).toInt64) → Q (some (.int (-3))) I)
    : HGo E (mF E (d + 3) Q) me_X12_lay 0 [(0, .ref 87), (1, .int a)] [] I := by
  refine h_iload_n dX12_lay_0 rfl 1 rfl ?_
  refine h_i2l dX12_lay_1 ?_
  refine h_lconst (v := 0) dX12_lay_2 (by decide) ?_
  refine h_lconst (v := 1) dX12_lay_3 (by decide) ?_
  refine h_invS (As := [.long a.toInt64, .long 0, .long 1]) (st := []) dX12_lay_4 lk_X12_62 (h_room (by decide)) rfl rfl (Nat.le_of_ble_eq_true rfl) ?_
  refine c_X12_in (fun c1 c2 => ?_) (fun c3 => ?_)
  ·
    refine h_if_ne (tgt := 51) dX12_lay_7 (by decide) (fun _ => ?_) (fun c => absurd c (by decide))
    refine h_aload_n dX12_lay_51 rfl 0 rfl ?_
    refine gf_10_6 dX12_lay_52 hl_X12_23 nl_87 zk_87 ?_
    refine h_iconst (v := 4) dX12_lay_55 (by decide) ?_
    refine h_icmp_le (tgt := 62) dX12_lay_56 (by decide) (fun c4 => ?_) (fun c4 => ?_)
    ·
      refine h_iconst (v := 0) dX12_lay_62 (by decide) ?_
      refine h_istore_n (L' := [(2, .int 0), (0, .ref 87), (1, .int a)]) dX12_lay_63 rfl (by decide) rfl ?_
      refine h_iconst (v := (-1)) dX12_lay_64 (by decide) ?_
      refine h_istore_n (L' := [(3, .int (-1)), (2, .int 0), (0, .ref 87), (1, .int a)]) dX12_lay_65 rfl (by decide) rfl ?_
      refine h_iconst (v := (-1)) dX12_lay_66 (by decide) ?_
      refine h_istore (L' := [(4, .int (-1)), (3, .int (-1)), (2, .int 0), (0, .ref 87), (1, .int a)]) dX12_lay_67 (by decide) rfl ?_
      refine h_iconst (v := (-1)) dX12_lay_69 (by decide) ?_
      refine h_istore (L' := [(5, .int (-1)), (4, .int (-1)), (3, .int (-1)), (2, .int 0), (0, .ref 87), (1, .int a)]) dX12_lay_70 (by decide) rfl ?_
      refine h_iconst (v := 0) dX12_lay_72 (by decide) ?_
      refine h_istore (L' := [(6, .int 0), (5, .int (-1)), (4, .int (-1)), (3, .int (-1)), (2, .int 0), (0, .ref 87), (1, .int a)]) dX12_lay_73 (by decide) rfl ?_
      refine h_pick [5, 6, 4, 3, 2, 1, 0] [(0, .ref 87), (1, .int a), (2, .int 0), (3, .int (-1)), (4, .int (-1)), (5, .int (-1)), (6, .int 0)] rfl ?_
      exact k1 c1 c2 c4
    ·
      refine h_bipush (v := (-4)) dX12_lay_59 (by decide) ?_
      exact h_iret dX12_lay_61 rfl (k2 c1 c2 c4)
  ·
    refine h_if_ne (tgt := 51) dX12_lay_7 (by decide) (fun c => absurd c (by decide)) (fun _ => ?_)
    refine h_iload_n dX12_lay_10 rfl 1 rfl ?_
    refine h_i2l dX12_lay_11 ?_
    refine h_ldc2 dX12_lay_12 wt_1121 rfl ?_
    refine h_bipush (v := 9) dX12_lay_15 (by decide) ?_
    refine h_aload_n dX12_lay_17 rfl 0 rfl ?_
    refine gf_10_6 dX12_lay_18 hl_X12_23 nl_87 zk_87 ?_
    refine h_iadd dX12_lay_21 ?_
    refine h_i2l dX12_lay_22 ?_
    refine h_invS (As := [.long a.toInt64, .long 10, .long ((9 + (I 87 6)).toInt64)]) (st := []) dX12_lay_23 lk_X12_62 (h_room (by decide)) rfl rfl (Nat.le_of_ble_eq_true rfl) ?_
    refine c_X12_in (fun c5 c6 => ?_) (fun c7 => ?_)
    ·
      refine h_if_ne (tgt := 51) dX12_lay_26 (by decide) (fun _ => ?_) (fun c => absurd c (by decide))
      refine h_aload_n dX12_lay_51 rfl 0 rfl ?_
      refine gf_10_6 dX12_lay_52 hl_X12_23 nl_87 zk_87 ?_
      refine h_iconst (v := 4) dX12_lay_55 (by decide) ?_
      refine h_icmp_le (tgt := 62) dX12_lay_56 (by decide) (fun c8 => ?_) (fun c8 => ?_)
      ·
        refine h_iconst (v := 0) dX12_lay_62 (by decide) ?_
        refine h_istore_n (L' := [(2, .int 0), (0, .ref 87), (1, .int a)]) dX12_lay_63 rfl (by decide) rfl ?_
        refine h_iconst (v := (-1)) dX12_lay_64 (by decide) ?_
        refine h_istore_n (L' := [(3, .int (-1)), (2, .int 0), (0, .ref 87), (1, .int a)]) dX12_lay_65 rfl (by decide) rfl ?_
        refine h_iconst (v := (-1)) dX12_lay_66 (by decide) ?_
        refine h_istore (L' := [(4, .int (-1)), (3, .int (-1)), (2, .int 0), (0, .ref 87), (1, .int a)]) dX12_lay_67 (by decide) rfl ?_
        refine h_iconst (v := (-1)) dX12_lay_69 (by decide) ?_
        refine h_istore (L' := [(5, .int (-1)), (4, .int (-1)), (3, .int (-1)), (2, .int 0), (0, .ref 87), (1, .int a)]) dX12_lay_70 (by decide) rfl ?_
        refine h_iconst (v := 0) dX12_lay_72 (by decide) ?_
        refine h_istore (L' := [(6, .int 0), (5, .int (-1)), (4, .int (-1)), (3, .int (-1)), (2, .int 0), (0, .ref 87), (1, .int a)]) dX12_lay_73 (by decide) rfl ?_
        refine h_pick [5, 6, 4, 3, 2, 1, 0] [(0, .ref 87), (1, .int a), (2, .int 0), (3, .int (-1)), (4, .int (-1)), (5, .int (-1)), (6, .int 0)] rfl ?_
        exact k3 c3 c5 c6 c8
      ·
        refine h_bipush (v := (-4)) dX12_lay_59 (by decide) ?_
        exact h_iret dX12_lay_61 rfl (k4 c3 c5 c6 c8)
    ·
      refine h_if_ne (tgt := 51) dX12_lay_26 (by decide) (fun c => absurd c (by decide)) (fun _ => ?_)
      refine h_iload_n dX12_lay_29 rfl 1 rfl ?_
      refine h_i2l dX12_lay_30 ?_
      refine h_ldc2 dX12_lay_31 wt_1152 rfl ?_
      refine h_bipush (v := 19) dX12_lay_34 (by decide) ?_
      refine h_aload_n dX12_lay_36 rfl 0 rfl ?_
      refine gf_10_6 dX12_lay_37 hl_X12_23 nl_87 zk_87 ?_
      refine h_iadd dX12_lay_40 ?_
      refine h_i2l dX12_lay_41 ?_
      refine h_invS (As := [.long a.toInt64, .long 20, .long ((19 + (I 87 6)).toInt64)]) (st := []) dX12_lay_42 lk_X12_62 (h_room (by decide)) rfl rfl (Nat.le_of_ble_eq_true rfl) ?_
      refine c_X12_in (fun c9 c10 => ?_) (fun c11 => ?_)
      ·
        refine h_if_ne (tgt := 51) dX12_lay_45 (by decide) (fun _ => ?_) (fun c => absurd c (by decide))
        refine h_aload_n dX12_lay_51 rfl 0 rfl ?_
        refine gf_10_6 dX12_lay_52 hl_X12_23 nl_87 zk_87 ?_
        refine h_iconst (v := 4) dX12_lay_55 (by decide) ?_
        refine h_icmp_le (tgt := 62) dX12_lay_56 (by decide) (fun c12 => ?_) (fun c12 => ?_)
        ·
          refine h_iconst (v := 0) dX12_lay_62 (by decide) ?_
          refine h_istore_n (L' := [(2, .int 0), (0, .ref 87), (1, .int a)]) dX12_lay_63 rfl (by decide) rfl ?_
          refine h_iconst (v := (-1)) dX12_lay_64 (by decide) ?_
          refine h_istore_n (L' := [(3, .int (-1)), (2, .int 0), (0, .ref 87), (1, .int a)]) dX12_lay_65 rfl (by decide) rfl ?_
          refine h_iconst (v := (-1)) dX12_lay_66 (by decide) ?_
          refine h_istore (L' := [(4, .int (-1)), (3, .int (-1)), (2, .int 0), (0, .ref 87), (1, .int a)]) dX12_lay_67 (by decide) rfl ?_
          refine h_iconst (v := (-1)) dX12_lay_69 (by decide) ?_
          refine h_istore (L' := [(5, .int (-1)), (4, .int (-1)), (3, .int (-1)), (2, .int 0), (0, .ref 87), (1, .int a)]) dX12_lay_70 (by decide) rfl ?_
          refine h_iconst (v := 0) dX12_lay_72 (by decide) ?_
          refine h_istore (L' := [(6, .int 0), (5, .int (-1)), (4, .int (-1)), (3, .int (-1)), (2, .int 0), (0, .ref 87), (1, .int a)]) dX12_lay_73 (by decide) rfl ?_
          refine h_pick [5, 6, 4, 3, 2, 1, 0] [(0, .ref 87), (1, .int a), (2, .int 0), (3, .int (-1)), (4, .int (-1)), (5, .int (-1)), (6, .int 0)] rfl ?_
          exact k5 c3 c7 c9 c10 c12
        ·
          refine h_bipush (v := (-4)) dX12_lay_59 (by decide) ?_
          exact h_iret dX12_lay_61 rfl (k6 c3 c7 c9 c10 c12)
      ·
        refine h_if_ne (tgt := 51) dX12_lay_45 (by decide) (fun c => absurd c (by decide)) (fun _ => ?_)
        refine h_bipush (v := (-3)) dX12_lay_48 (by decide) ?_
        exact h_iret dX12_lay_50 rfl (k7 c3 c7 c11)
set_option maxHeartbeats 1000000 in
set_option maxRecDepth 4000 in
theorem sg_X12_lay_75 {E : HEn} {d : Nat} {Q : Option Value → HIh → Prop} {I : HIh} {x1 : Int32} {x2 : Int32} {x3 : Int32} {x4 : Int32} {x5 : Int32} {x6 : Int32}
    (k1 : ((1 : Int32) <<< ((2 * (I 87 6)) &&& 31)) ≤ x6 → ¬ x1 = 0 → ¬ x1 = 1 → 20 ≤ x1 → Q (some (.int x5)) I)
    (k2 : ((1 : Int32) <<< ((2 * (I 87 6)) &&& 31)) ≤ x6 → ¬ x1 = 0 → ¬ x1 = 1 → ¬ 20 ≤ x1 → Q (some (.int x4)) I)
    (k3 : ((1 : Int32) <<< ((2 * (I 87 6)) &&& 31)) ≤ x6 → ¬ x1 = 0 → x1 = 1 → Q (some (.int x3)) I)
    (k4 : ((1 : Int32) <<< ((2 * (I 87 6)) &&& 31)) ≤ x6 → x1 = 0 → Q (some (.int x2)) I)
    (k5 : ¬ ((1 : Int32) <<< ((2 * (I 87 6)) &&& 31)) ≤ x6 → HCall E me_X12_isSo (d + 2) [.ref 87, .int x6] I (fun v9 J => HGo E (mF E (d + 3) Q) me_X12_lay 94 [(0, .ref 87), (1, .int x1), (2, .int x2), (3, .int x3), (4, .int x4), (5, .int x5), (6, .int x6)] (v9.toList ++ []) J))
    : HGo E (mF E (d + 3) Q) me_X12_lay 75 [(0, .ref 87), (1, .int x1), (2, .int x2), (3, .int x3), (4, .int x4), (5, .int x5), (6, .int x6)] [] I := by
  refine h_iload dX12_lay_75 6 rfl ?_
  refine h_iconst (v := 1) dX12_lay_77 (by decide) ?_
  refine h_iconst (v := 2) dX12_lay_78 (by decide) ?_
  refine h_aload_n dX12_lay_79 rfl 0 rfl ?_
  refine gf_10_6 dX12_lay_80 hl_X12_23 nl_87 zk_87 ?_
  refine h_imul dX12_lay_83 ?_
  refine h_ishl dX12_lay_84 ?_
  refine h_icmp_ge (tgt := 175) dX12_lay_85 (by decide) (fun c1 => ?_) (fun c1 => ?_)
  ·
    refine h_iload_n dX12_lay_175 rfl 1 rfl ?_
    refine h_if_ne (tgt := 183) dX12_lay_176 (by decide) (fun c2 => ?_) (fun c2 => ?_)
    ·
      refine h_iload_n dX12_lay_183 rfl 1 rfl ?_
      refine h_iconst (v := 1) dX12_lay_184 (by decide) ?_
      refine h_icmp_ne (tgt := 192) dX12_lay_185 (by decide) (fun c3 => ?_) (fun c3 => ?_)
      ·
        refine h_iload_n dX12_lay_192 rfl 1 rfl ?_
        refine h_bipush (v := 20) dX12_lay_193 (by decide) ?_
        refine h_icmp_ge (tgt := 203) dX12_lay_195 (by decide) (fun c4 => ?_) (fun c4 => ?_)
        ·
          refine h_iload dX12_lay_203 5 rfl ?_
          exact h_iret dX12_lay_205 rfl (k1 c1 c2 c3 c4)
        ·
          refine h_iload dX12_lay_198 4 rfl ?_
          refine h_goto (tgt := 205) dX12_lay_200 (by decide) ?_
          exact h_iret dX12_lay_205 rfl (k2 c1 c2 c3 c4)
      ·
        refine h_iload_n dX12_lay_188 rfl 3 rfl ?_
        refine h_goto (tgt := 205) dX12_lay_189 (by decide) ?_
        exact h_iret dX12_lay_205 rfl (k3 c1 c2 c3)
    ·
      refine h_iload_n dX12_lay_179 rfl 2 rfl ?_
      refine h_goto (tgt := 205) dX12_lay_180 (by decide) ?_
      exact h_iret dX12_lay_205 rfl (k4 c1 c2)
  ·
    refine h_aload_n dX12_lay_88 rfl 0 rfl ?_
    refine h_iload dX12_lay_89 6 rfl ?_
    refine h_invV (As := [.int x6]) (st := []) dX12_lay_91 lk_X12_272 (h_room (by decide)) nl_87 zk_87 (by decide) rfl rfl rfl (Nat.le_of_ble_eq_true rfl) ?_
    exact k5 c1
set_option maxHeartbeats 1000000 in
set_option maxRecDepth 4000 in
theorem sg_X12_lay_94 {E : HEn} {d : Nat} {Q : Option Value → HIh → Prop} {I : HIh} {x1 : Int32} {x2 : Int32} {x3 : Int32} {x4 : Int32} {x5 : Int32} {x6 : Int32} {s0 : Int32}
    (k1 : s0 = 0 → HGo E (mF E (d + 3) Q) me_X12_lay 75 [(0, .ref 87), (1, .int x1), (2, .int x2), (3, .int x3), (4, .int x4), (5, .int x5), (6, .int (x6 + 1))] [] I)
    (k2 : ¬ s0 = 0 → 10 ≤ x1 → HCall E me_X12_layOf (d + 2) [.ref 87, .int x6, .int (x1 - x1 / 10 * 10)] I (fun v9 J => HGo E (mF E (d + 3) Q) me_X12_lay 117 [(0, .ref 87), (1, .int x1), (2, .int x2), (3, .int x3), (4, .int x4), (5, .int x5), (6, .int x6)] (v9.toList ++ []) J))
    (k3 : ¬ s0 = 0 → ¬ 10 ≤ x1 → ¬ x2 = 0 → x2 = 0 → 0 ≤ x5 → HGo E (mF E (d + 3) Q) me_X12_lay 75 [(0, .ref 87), (1, .int x1), (2, .int (x2 + 1)), (3, .int x3), (4, .int 0), (5, .int x5), (6, .int (x6 + 1))] [] I)
    (k4 : ¬ s0 = 0 → ¬ 10 ≤ x1 → ¬ x2 = 0 → x2 = 0 → ¬ 0 ≤ x5 → HGo E (mF E (d + 3) Q) me_X12_lay 75 [(0, .ref 87), (1, .int x1), (2, .int (x2 + 1)), (3, .int x3), (4, .int 0), (5, .int 0), (6, .int (x6 + 1))] [] I)
    (k5 : ¬ s0 = 0 → ¬ 10 ≤ x1 → ¬ x2 = 0 → ¬ x2 = 0 → x4 ≤ 0 → 0 ≤ x5 → HGo E (mF E (d + 3) Q) me_X12_lay 75 [(0, .ref 87), (1, .int x1), (2, .int (x2 + 1)), (3, .int x3), (4, .int x4), (5, .int x5), (6, .int (x6 + 1))] [] I)
    (k6 : ¬ s0 = 0 → ¬ 10 ≤ x1 → ¬ x2 = 0 → ¬ x2 = 0 → x4 ≤ 0 → ¬ 0 ≤ x5 → HGo E (mF E (d + 3) Q) me_X12_lay 75 [(0, .ref 87), (1, .int x1), (2, .int (x2 + 1)), (3, .int x3), (4, .int x4), (5, .int 0), (6, .int (x6 + 1))] [] I)
    (k7 : ¬ s0 = 0 → ¬ 10 ≤ x1 → ¬ x2 = 0 → ¬ x2 = 0 → ¬ x4 ≤ 0 → 0 ≤ x5 → HGo E (mF E (d + 3) Q) me_X12_lay 75 [(0, .ref 87), (1, .int x1), (2, .int (x2 + 1)), (3, .int x3), (4, .int 0), (5, .int x5), (6, .int (x6 + 1))] [] I)
    (k8 : ¬ s0 = 0 → ¬ 10 ≤ x1 → ¬ x2 = 0 → ¬ x2 = 0 → ¬ x4 ≤ 0 → ¬ 0 ≤ x5 → HGo E (mF E (d + 3) Q) me_X12_lay 75 [(0, .ref 87), (1, .int x1), (2, .int (x2 + 1)), (3, .int x3), (4, .int 0), (5, .int 0), (6, .int (x6 + 1))] [] I)
    (k9 : ¬ s0 = 0 → ¬ 10 ≤ x1 → x2 = 0 → x2 = 0 → 0 ≤ x5 → HGo E (mF E (d + 3) Q) me_X12_lay 75 [(0, .ref 87), (1, .int x1), (2, .int (x2 + 1)), (3, .int x6), (4, .int 0), (5, .int x5), (6, .int (x6 + 1))] [] I)
    (k10 : ¬ s0 = 0 → ¬ 10 ≤ x1 → x2 = 0 → x2 = 0 → ¬ 0 ≤ x5 → HGo E (mF E (d + 3) Q) me_X12_lay 75 [(0, .ref 87), (1, .int x1), (2, .int (x2 + 1)), (3, .int x6), (4, .int 0), (5, .int 0), (6, .int (x6 + 1))] [] I)
    (k11 : ¬ s0 = 0 → ¬ 10 ≤ x1 → x2 = 0 → ¬ x2 = 0 → x4 ≤ 0 → 0 ≤ x5 → HGo E (mF E (d + 3) Q) me_X12_lay 75 [(0, .ref 87), (1, .int x1), (2, .int (x2 + 1)), (3, .int x6), (4, .int x4), (5, .int x5), (6, .int (x6 + 1))] [] I)
    (k12 : ¬ s0 = 0 → ¬ 10 ≤ x1 → x2 = 0 → ¬ x2 = 0 → x4 ≤ 0 → ¬ 0 ≤ x5 → HGo E (mF E (d + 3) Q) me_X12_lay 75 [(0, .ref 87), (1, .int x1), (2, .int (x2 + 1)), (3, .int x6), (4, .int x4), (5, .int 0), (6, .int (x6 + 1))] [] I)
    (k13 : ¬ s0 = 0 → ¬ 10 ≤ x1 → x2 = 0 → ¬ x2 = 0 → ¬ x4 ≤ 0 → 0 ≤ x5 → HGo E (mF E (d + 3) Q) me_X12_lay 75 [(0, .ref 87), (1, .int x1), (2, .int (x2 + 1)), (3, .int x6), (4, .int 0), (5, .int x5), (6, .int (x6 + 1))] [] I)
    (k14 : ¬ s0 = 0 → ¬ 10 ≤ x1 → x2 = 0 → ¬ x2 = 0 → ¬ x4 ≤ 0 → ¬ 0 ≤ x5 → HGo E (mF E (d + 3) Q) me_X12_lay 75 [(0, .ref 87), (1, .int x1), (2, .int (x2 + 1)), (3, .int x6), (4, .int 0), (5, .int 0), (6, .int (x6 + 1))] [] I)
    : HGo E (mF E (d + 3) Q) me_X12_lay 94 [(0, .ref 87), (1, .int x1), (2, .int x2), (3, .int x3), (4, .int x4), (5, .int x5), (6, .int x6)] [.int s0] I := by
  refine h_if_eq (tgt := 169) dX12_lay_94 (by decide) (fun c1 => ?_) (fun c1 => ?_)
  ·
    refine h_iinc (v := (x6 + 1)) (L' := [(6, .int (x6 + 1)), (0, .ref 87), (1, .int x1), (2, .int x2), (3, .int x3), (4, .int x4), (5, .int x5)]) dX12_lay_169 6 rfl rfl (by decide) rfl ?_
    refine h_goto (tgt := 75) dX12_lay_172 (by decide) ?_
    refine h_pick [1, 2, 3, 4, 5, 6, 0] [(0, .ref 87), (1, .int x1), (2, .int x2), (3, .int x3), (4, .int x4), (5, .int x5), (6, .int (x6 + 1))] rfl ?_
    exact k1 c1
  ·
    refine h_iload_n dX12_lay_97 rfl 1 rfl ?_
    refine h_bipush (v := 10) dX12_lay_98 (by decide) ?_
    refine h_icmp_ge (tgt := 107) dX12_lay_100 (by decide) (fun c2 => ?_) (fun c2 => ?_)
    ·
      refine h_aload_n dX12_lay_107 rfl 0 rfl ?_
      refine h_iload dX12_lay_108 6 rfl ?_
      refine h_iload_n dX12_lay_110 rfl 1 rfl ?_
      refine h_bipush (v := 10) dX12_lay_111 (by decide) ?_
      refine h_irem dX12_lay_113 (by decide) ?_
      refine h_invV (As := [.int x6, .int (x1 - x1 / 10 * 10)]) (st := []) dX12_lay_114 lk_X12_267 (h_room (by decide)) nl_87 zk_87 (by decide) rfl rfl rfl (Nat.le_of_ble_eq_true rfl) ?_
      exact k2 c1 c2
    ·
      refine h_iconst (v := 0) dX12_lay_103 (by decide) ?_
      refine h_goto (tgt := 117) dX12_lay_104 (by decide) ?_
      refine h_istore (L' := [(7, .int 0), (0, .ref 87), (1, .int x1), (2, .int x2), (3, .int x3), (4, .int x4), (5, .int x5), (6, .int x6)]) dX12_lay_117 (by decide) rfl ?_
      refine h_iload_n dX12_lay_119 rfl 3 rfl ?_
      refine h_if_ne (tgt := 128) dX12_lay_120 (by decide) (fun c3 => ?_) (fun c3 => ?_)
      ·
        refine h_iload_n dX12_lay_128 rfl 4 rfl ?_
        refine h_istore_n (L' := [(3, .int x3), (7, .int 0), (0, .ref 87), (1, .int x1), (2, .int x2), (4, .int x4), (5, .int x5), (6, .int x6)]) dX12_lay_129 rfl (by decide) rfl ?_
        refine h_iload_n dX12_lay_130 rfl 4 rfl ?_
        refine h_if_eq (tgt := 141) dX12_lay_131 (by decide) (fun c4 => ?_) (fun c4 => ?_)
        ·
          refine h_iload dX12_lay_141 1 rfl ?_
          refine h_goto (tgt := 148) dX12_lay_143 (by decide) ?_
          refine h_istore (L' := [(4, .int 0), (3, .int x3), (7, .int 0), (0, .ref 87), (1, .int x1), (2, .int x2), (5, .int x5), (6, .int x6)]) dX12_lay_148 (by decide) rfl ?_
          refine h_iload dX12_lay_150 2 rfl ?_
          refine h_iload dX12_lay_152 6 rfl ?_
          refine h_icmp_le (tgt := 162) dX12_lay_154 (by decide) (fun c5 => ?_) (fun c5 => ?_)
          ·
            refine h_iload dX12_lay_162 6 rfl ?_
            refine h_istore (L' := [(5, .int x5), (4, .int 0), (3, .int x3), (7, .int 0), (0, .ref 87), (1, .int x1), (2, .int x2), (6, .int x6)]) dX12_lay_164 (by decide) rfl ?_
            refine h_iinc (v := (x2 + 1)) (L' := [(2, .int (x2 + 1)), (5, .int x5), (4, .int 0), (3, .int x3), (7, .int 0), (0, .ref 87), (1, .int x1), (6, .int x6)]) dX12_lay_166 6 rfl rfl (by decide) rfl ?_
            refine h_iinc (v := (x6 + 1)) (L' := [(6, .int (x6 + 1)), (2, .int (x2 + 1)), (5, .int x5), (4, .int 0), (3, .int x3), (7, .int 0), (0, .ref 87), (1, .int x1)]) dX12_lay_169 7 rfl rfl (by decide) rfl ?_
            refine h_goto (tgt := 75) dX12_lay_172 (by decide) ?_
            refine h_pick [6, 7, 1, 4, 3, 2, 0] [(0, .ref 87), (1, .int x1), (2, .int (x2 + 1)), (3, .int x3), (4, .int 0), (5, .int x5), (6, .int (x6 + 1))] rfl ?_
            exact k3 c1 c2 c3 c4 c5
          ·
            refine h_iload dX12_lay_157 2 rfl ?_
            refine h_goto (tgt := 164) dX12_lay_159 (by decide) ?_
            refine h_istore (L' := [(5, .int 0), (4, .int 0), (3, .int x3), (7, .int 0), (0, .ref 87), (1, .int x1), (2, .int x2), (6, .int x6)]) dX12_lay_164 (by decide) rfl ?_
            refine h_iinc (v := (x2 + 1)) (L' := [(2, .int (x2 + 1)), (5, .int 0), (4, .int 0), (3, .int x3), (7, .int 0), (0, .ref 87), (1, .int x1), (6, .int x6)]) dX12_lay_166 6 rfl rfl (by decide) rfl ?_
            refine h_iinc (v := (x6 + 1)) (L' := [(6, .int (x6 + 1)), (2, .int (x2 + 1)), (5, .int 0), (4, .int 0), (3, .int x3), (7, .int 0), (0, .ref 87), (1, .int x1)]) dX12_lay_169 7 rfl rfl (by decide) rfl ?_
            refine h_goto (tgt := 75) dX12_lay_172 (by decide) ?_
            refine h_pick [6, 7, 1, 4, 3, 2, 0] [(0, .ref 87), (1, .int x1), (2, .int (x2 + 1)), (3, .int x3), (4, .int 0), (5, .int 0), (6, .int (x6 + 1))] rfl ?_
            exact k4 c1 c2 c3 c4 c5
        ·
          refine h_iload dX12_lay_134 1 rfl ?_
          refine h_iload dX12_lay_136 5 rfl ?_
          refine h_icmp_ge (tgt := 146) dX12_lay_138 (by decide) (fun c6 => ?_) (fun c6 => ?_)
          ·
            refine h_iload dX12_lay_146 5 rfl ?_
            refine h_istore (L' := [(4, .int x4), (3, .int x3), (7, .int 0), (0, .ref 87), (1, .int x1), (2, .int x2), (5, .int x5), (6, .int x6)]) dX12_lay_148 (by decide) rfl ?_
            refine h_iload dX12_lay_150 2 rfl ?_
            refine h_iload dX12_lay_152 6 rfl ?_
            refine h_icmp_le (tgt := 162) dX12_lay_154 (by decide) (fun c7 => ?_) (fun c7 => ?_)
            ·
              refine h_iload dX12_lay_162 6 rfl ?_
              refine h_istore (L' := [(5, .int x5), (4, .int x4), (3, .int x3), (7, .int 0), (0, .ref 87), (1, .int x1), (2, .int x2), (6, .int x6)]) dX12_lay_164 (by decide) rfl ?_
              refine h_iinc (v := (x2 + 1)) (L' := [(2, .int (x2 + 1)), (5, .int x5), (4, .int x4), (3, .int x3), (7, .int 0), (0, .ref 87), (1, .int x1), (6, .int x6)]) dX12_lay_166 6 rfl rfl (by decide) rfl ?_
              refine h_iinc (v := (x6 + 1)) (L' := [(6, .int (x6 + 1)), (2, .int (x2 + 1)), (5, .int x5), (4, .int x4), (3, .int x3), (7, .int 0), (0, .ref 87), (1, .int x1)]) dX12_lay_169 7 rfl rfl (by decide) rfl ?_
              refine h_goto (tgt := 75) dX12_lay_172 (by decide) ?_
              refine h_pick [6, 7, 1, 4, 3, 2, 0] [(0, .ref 87), (1, .int x1), (2, .int (x2 + 1)), (3, .int x3), (4, .int x4), (5, .int x5), (6, .int (x6 + 1))] rfl ?_
              exact k5 c1 c2 c3 c4 c6 c7
            ·
              refine h_iload dX12_lay_157 2 rfl ?_
              refine h_goto (tgt := 164) dX12_lay_159 (by decide) ?_
              refine h_istore (L' := [(5, .int 0), (4, .int x4), (3, .int x3), (7, .int 0), (0, .ref 87), (1, .int x1), (2, .int x2), (6, .int x6)]) dX12_lay_164 (by decide) rfl ?_
              refine h_iinc (v := (x2 + 1)) (L' := [(2, .int (x2 + 1)), (5, .int 0), (4, .int x4), (3, .int x3), (7, .int 0), (0, .ref 87), (1, .int x1), (6, .int x6)]) dX12_lay_166 6 rfl rfl (by decide) rfl ?_
              refine h_iinc (v := (x6 + 1)) (L' := [(6, .int (x6 + 1)), (2, .int (x2 + 1)), (5, .int 0), (4, .int x4), (3, .int x3), (7, .int 0), (0, .ref 87), (1, .int x1)]) dX12_lay_169 7 rfl rfl (by decide) rfl ?_
              refine h_goto (tgt := 75) dX12_lay_172 (by decide) ?_
              refine h_pick [6, 7, 1, 4, 3, 2, 0] [(0, .ref 87), (1, .int x1), (2, .int (x2 + 1)), (3, .int x3), (4, .int x4), (5, .int 0), (6, .int (x6 + 1))] rfl ?_
              exact k6 c1 c2 c3 c4 c6 c7
          ·
            refine h_iload dX12_lay_141 1 rfl ?_
            refine h_goto (tgt := 148) dX12_lay_143 (by decide) ?_
            refine h_istore (L' := [(4, .int 0), (3, .int x3), (7, .int 0), (0, .ref 87), (1, .int x1), (2, .int x2), (5, .int x5), (6, .int x6)]) dX12_lay_148 (by decide) rfl ?_
            refine h_iload dX12_lay_150 2 rfl ?_
            refine h_iload dX12_lay_152 6 rfl ?_
            refine h_icmp_le (tgt := 162) dX12_lay_154 (by decide) (fun c8 => ?_) (fun c8 => ?_)
            ·
              refine h_iload dX12_lay_162 6 rfl ?_
              refine h_istore (L' := [(5, .int x5), (4, .int 0), (3, .int x3), (7, .int 0), (0, .ref 87), (1, .int x1), (2, .int x2), (6, .int x6)]) dX12_lay_164 (by decide) rfl ?_
              refine h_iinc (v := (x2 + 1)) (L' := [(2, .int (x2 + 1)), (5, .int x5), (4, .int 0), (3, .int x3), (7, .int 0), (0, .ref 87), (1, .int x1), (6, .int x6)]) dX12_lay_166 6 rfl rfl (by decide) rfl ?_
              refine h_iinc (v := (x6 + 1)) (L' := [(6, .int (x6 + 1)), (2, .int (x2 + 1)), (5, .int x5), (4, .int 0), (3, .int x3), (7, .int 0), (0, .ref 87), (1, .int x1)]) dX12_lay_169 7 rfl rfl (by decide) rfl ?_
              refine h_goto (tgt := 75) dX12_lay_172 (by decide) ?_
              refine h_pick [6, 7, 1, 4, 3, 2, 0] [(0, .ref 87), (1, .int x1), (2, .int (x2 + 1)), (3, .int x3), (4, .int 0), (5, .int x5), (6, .int (x6 + 1))] rfl ?_
              exact k7 c1 c2 c3 c4 c6 c8
            ·
              refine h_iload dX12_lay_157 2 rfl ?_
              refine h_goto (tgt := 164) dX12_lay_159 (by decide) ?_
              refine h_istore (L' := [(5, .int 0), (4, .int 0), (3, .int x3), (7, .int 0), (0, .ref 87), (1, .int x1), (2, .int x2), (6, .int x6)]) dX12_lay_164 (by decide) rfl ?_
              refine h_iinc (v := (x2 + 1)) (L' := [(2, .int (x2 + 1)), (5, .int 0), (4, .int 0), (3, .int x3), (7, .int 0), (0, .ref 87), (1, .int x1), (6, .int x6)]) dX12_lay_166 6 rfl rfl (by decide) rfl ?_
              refine h_iinc (v := (x6 + 1)) (L' := [(6, .int (x6 + 1)), (2, .int (x2 + 1)), (5, .int 0), (4, .int 0), (3, .int x3), (7, .int 0), (0, .ref 87), (1, .int x1)]) dX12_lay_169 7 rfl rfl (by decide) rfl ?_
              refine h_goto (tgt := 75) dX12_lay_172 (by decide) ?_
              refine h_pick [6, 7, 1, 4, 3, 2, 0] [(0, .ref 87), (1, .int x1), (2, .int (x2 + 1)), (3, .int x3), (4, .int 0), (5, .int 0), (6, .int (x6 + 1))] rfl ?_
              exact k8 c1 c2 c3 c4 c6 c8
      ·
        refine h_iload dX12_lay_123 7 rfl ?_
        refine h_goto (tgt := 129) dX12_lay_125 (by decide) ?_
        refine h_istore_n (L' := [(3, .int x6), (7, .int 0), (0, .ref 87), (1, .int x1), (2, .int x2), (4, .int x4), (5, .int x5), (6, .int x6)]) dX12_lay_129 rfl (by decide) rfl ?_
        refine h_iload_n dX12_lay_130 rfl 4 rfl ?_
        refine h_if_eq (tgt := 141) dX12_lay_131 (by decide) (fun c9 => ?_) (fun c9 => ?_)
        ·
          refine h_iload dX12_lay_141 1 rfl ?_
          refine h_goto (tgt := 148) dX12_lay_143 (by decide) ?_
          refine h_istore (L' := [(4, .int 0), (3, .int x6), (7, .int 0), (0, .ref 87), (1, .int x1), (2, .int x2), (5, .int x5), (6, .int x6)]) dX12_lay_148 (by decide) rfl ?_
          refine h_iload dX12_lay_150 2 rfl ?_
          refine h_iload dX12_lay_152 6 rfl ?_
          refine h_icmp_le (tgt := 162) dX12_lay_154 (by decide) (fun c10 => ?_) (fun c10 => ?_)
          ·
            refine h_iload dX12_lay_162 6 rfl ?_
            refine h_istore (L' := [(5, .int x5), (4, .int 0), (3, .int x6), (7, .int 0), (0, .ref 87), (1, .int x1), (2, .int x2), (6, .int x6)]) dX12_lay_164 (by decide) rfl ?_
            refine h_iinc (v := (x2 + 1)) (L' := [(2, .int (x2 + 1)), (5, .int x5), (4, .int 0), (3, .int x6), (7, .int 0), (0, .ref 87), (1, .int x1), (6, .int x6)]) dX12_lay_166 6 rfl rfl (by decide) rfl ?_
            refine h_iinc (v := (x6 + 1)) (L' := [(6, .int (x6 + 1)), (2, .int (x2 + 1)), (5, .int x5), (4, .int 0), (3, .int x6), (7, .int 0), (0, .ref 87), (1, .int x1)]) dX12_lay_169 7 rfl rfl (by decide) rfl ?_
            refine h_goto (tgt := 75) dX12_lay_172 (by decide) ?_
            refine h_pick [6, 7, 1, 4, 3, 2, 0] [(0, .ref 87), (1, .int x1), (2, .int (x2 + 1)), (3, .int x6), (4, .int 0), (5, .int x5), (6, .int (x6 + 1))] rfl ?_
            exact k9 c1 c2 c3 c9 c10
          ·
            refine h_iload dX12_lay_157 2 rfl ?_
            refine h_goto (tgt := 164) dX12_lay_159 (by decide) ?_
            refine h_istore (L' := [(5, .int 0), (4, .int 0), (3, .int x6), (7, .int 0), (0, .ref 87), (1, .int x1), (2, .int x2), (6, .int x6)]) dX12_lay_164 (by decide) rfl ?_
            refine h_iinc (v := (x2 + 1)) (L' := [(2, .int (x2 + 1)), (5, .int 0), (4, .int 0), (3, .int x6), (7, .int 0), (0, .ref 87), (1, .int x1), (6, .int x6)]) dX12_lay_166 6 rfl rfl (by decide) rfl ?_
            refine h_iinc (v := (x6 + 1)) (L' := [(6, .int (x6 + 1)), (2, .int (x2 + 1)), (5, .int 0), (4, .int 0), (3, .int x6), (7, .int 0), (0, .ref 87), (1, .int x1)]) dX12_lay_169 7 rfl rfl (by decide) rfl ?_
            refine h_goto (tgt := 75) dX12_lay_172 (by decide) ?_
            refine h_pick [6, 7, 1, 4, 3, 2, 0] [(0, .ref 87), (1, .int x1), (2, .int (x2 + 1)), (3, .int x6), (4, .int 0), (5, .int 0), (6, .int (x6 + 1))] rfl ?_
            exact k10 c1 c2 c3 c9 c10
        ·
          refine h_iload dX12_lay_134 1 rfl ?_
          refine h_iload dX12_lay_136 5 rfl ?_
          refine h_icmp_ge (tgt := 146) dX12_lay_138 (by decide) (fun c11 => ?_) (fun c11 => ?_)
          ·
            refine h_iload dX12_lay_146 5 rfl ?_
            refine h_istore (L' := [(4, .int x4), (3, .int x6), (7, .int 0), (0, .ref 87), (1, .int x1), (2, .int x2), (5, .int x5), (6, .int x6)]) dX12_lay_148 (by decide) rfl ?_
            refine h_iload dX12_lay_150 2 rfl ?_
            refine h_iload dX12_lay_152 6 rfl ?_
            refine h_icmp_le (tgt := 162) dX12_lay_154 (by decide) (fun c12 => ?_) (fun c12 => ?_)
            ·
              refine h_iload dX12_lay_162 6 rfl ?_
              refine h_istore (L' := [(5, .int x5), (4, .int x4), (3, .int x6), (7, .int 0), (0, .ref 87), (1, .int x1), (2, .int x2), (6, .int x6)]) dX12_lay_164 (by decide) rfl ?_
              refine h_iinc (v := (x2 + 1)) (L' := [(2, .int (x2 + 1)), (5, .int x5), (4, .int x4), (3, .int x6), (7, .int 0), (0, .ref 87), (1, .int x1), (6, .int x6)]) dX12_lay_166 6 rfl rfl (by decide) rfl ?_
              refine h_iinc (v := (x6 + 1)) (L' := [(6, .int (x6 + 1)), (2, .int (x2 + 1)), (5, .int x5), (4, .int x4), (3, .int x6), (7, .int 0), (0, .ref 87), (1, .int x1)]) dX12_lay_169 7 rfl rfl (by decide) rfl ?_
              refine h_goto (tgt := 75) dX12_lay_172 (by decide) ?_
              refine h_pick [6, 7, 1, 4, 3, 2, 0] [(0, .ref 87), (1, .int x1), (2, .int (x2 + 1)), (3, .int x6), (4, .int x4), (5, .int x5), (6, .int (x6 + 1))] rfl ?_
              exact k11 c1 c2 c3 c9 c11 c12
            ·
              refine h_iload dX12_lay_157 2 rfl ?_
              refine h_goto (tgt := 164) dX12_lay_159 (by decide) ?_
              refine h_istore (L' := [(5, .int 0), (4, .int x4), (3, .int x6), (7, .int 0), (0, .ref 87), (1, .int x1), (2, .int x2), (6, .int x6)]) dX12_lay_164 (by decide) rfl ?_
              refine h_iinc (v := (x2 + 1)) (L' := [(2, .int (x2 + 1)), (5, .int 0), (4, .int x4), (3, .int x6), (7, .int 0), (0, .ref 87), (1, .int x1), (6, .int x6)]) dX12_lay_166 6 rfl rfl (by decide) rfl ?_
              refine h_iinc (v := (x6 + 1)) (L' := [(6, .int (x6 + 1)), (2, .int (x2 + 1)), (5, .int 0), (4, .int x4), (3, .int x6), (7, .int 0), (0, .ref 87), (1, .int x1)]) dX12_lay_169 7 rfl rfl (by decide) rfl ?_
              refine h_goto (tgt := 75) dX12_lay_172 (by decide) ?_
              refine h_pick [6, 7, 1, 4, 3, 2, 0] [(0, .ref 87), (1, .int x1), (2, .int (x2 + 1)), (3, .int x6), (4, .int x4), (5, .int 0), (6, .int (x6 + 1))] rfl ?_
              exact k12 c1 c2 c3 c9 c11 c12
          ·
            refine h_iload dX12_lay_141 1 rfl ?_
            refine h_goto (tgt := 148) dX12_lay_143 (by decide) ?_
            refine h_istore (L' := [(4, .int 0), (3, .int x6), (7, .int 0), (0, .ref 87), (1, .int x1), (2, .int x2), (5, .int x5), (6, .int x6)]) dX12_lay_148 (by decide) rfl ?_
            refine h_iload dX12_lay_150 2 rfl ?_
            refine h_iload dX12_lay_152 6 rfl ?_
            refine h_icmp_le (tgt := 162) dX12_lay_154 (by decide) (fun c13 => ?_) (fun c13 => ?_)
            ·
              refine h_iload dX12_lay_162 6 rfl ?_
              refine h_istore (L' := [(5, .int x5), (4, .int 0), (3, .int x6), (7, .int 0), (0, .ref 87), (1, .int x1), (2, .int x2), (6, .int x6)]) dX12_lay_164 (by decide) rfl ?_
              refine h_iinc (v := (x2 + 1)) (L' := [(2, .int (x2 + 1)), (5, .int x5), (4, .int 0), (3, .int x6), (7, .int 0), (0, .ref 87), (1, .int x1), (6, .int x6)]) dX12_lay_166 6 rfl rfl (by decide) rfl ?_
              refine h_iinc (v := (x6 + 1)) (L' := [(6, .int (x6 + 1)), (2, .int (x2 + 1)), (5, .int x5), (4, .int 0), (3, .int x6), (7, .int 0), (0, .ref 87), (1, .int x1)]) dX12_lay_169 7 rfl rfl (by decide) rfl ?_
              refine h_goto (tgt := 75) dX12_lay_172 (by decide) ?_
              refine h_pick [6, 7, 1, 4, 3, 2, 0] [(0, .ref 87), (1, .int x1), (2, .int (x2 + 1)), (3, .int x6), (4, .int 0), (5, .int x5), (6, .int (x6 + 1))] rfl ?_
              exact k13 c1 c2 c3 c9 c11 c13
            ·
              refine h_iload dX12_lay_157 2 rfl ?_
              refine h_goto (tgt := 164) dX12_lay_159 (by decide) ?_
              refine h_istore (L' := [(5, .int 0), (4, .int 0), (3, .int x6), (7, .int 0), (0, .ref 87), (1, .int x1), (2, .int x2), (6, .int x6)]) dX12_lay_164 (by decide) rfl ?_
              refine h_iinc (v := (x2 + 1)) (L' := [(2, .int (x2 + 1)), (5, .int 0), (4, .int 0), (3, .int x6), (7, .int 0), (0, .ref 87), (1, .int x1), (6, .int x6)]) dX12_lay_166 6 rfl rfl (by decide) rfl ?_
              refine h_iinc (v := (x6 + 1)) (L' := [(6, .int (x6 + 1)), (2, .int (x2 + 1)), (5, .int 0), (4, .int 0), (3, .int x6), (7, .int 0), (0, .ref 87), (1, .int x1)]) dX12_lay_169 7 rfl rfl (by decide) rfl ?_
              refine h_goto (tgt := 75) dX12_lay_172 (by decide) ?_
              refine h_pick [6, 7, 1, 4, 3, 2, 0] [(0, .ref 87), (1, .int x1), (2, .int (x2 + 1)), (3, .int x6), (4, .int 0), (5, .int 0), (6, .int (x6 + 1))] rfl ?_
              exact k14 c1 c2 c3 c9 c11 c13
set_option maxHeartbeats 1000000 in
set_option maxRecDepth 4000 in
theorem sg_X12_lay_117 {E : HEn} {d : Nat} {Q : Option Value → HIh → Prop} {I : HIh} {x1 : Int32} {x2 : Int32} {x3 : Int32} {x4 : Int32} {x5 : Int32} {x6 : Int32} {s0 : Int32}
    (k1 : ¬ x2 = 0 → x2 = 0 → s0 ≤ x5 → HGo E (mF E (d + 3) Q) me_X12_lay 75 [(0, .ref 87), (1, .int x1), (2, .int (x2 + 1)), (3, .int x3), (4, .int s0), (5, .int x5), (6, .int (x6 + 1))] [] I)
    (k2 : ¬ x2 = 0 → x2 = 0 → ¬ s0 ≤ x5 → HGo E (mF E (d + 3) Q) me_X12_lay 75 [(0, .ref 87), (1, .int x1), (2, .int (x2 + 1)), (3, .int x3), (4, .int s0), (5, .int s0), (6, .int (x6 + 1))] [] I)
    (k3 : ¬ x2 = 0 → ¬ x2 = 0 → x4 ≤ s0 → s0 ≤ x5 → HGo E (mF E (d + 3) Q) me_X12_lay 75 [(0, .ref 87), (1, .int x1), (2, .int (x2 + 1)), (3, .int x3), (4, .int x4), (5, .int x5), (6, .int (x6 + 1))] [] I)
    (k4 : ¬ x2 = 0 → ¬ x2 = 0 → x4 ≤ s0 → ¬ s0 ≤ x5 → HGo E (mF E (d + 3) Q) me_X12_lay 75 [(0, .ref 87), (1, .int x1), (2, .int (x2 + 1)), (3, .int x3), (4, .int x4), (5, .int s0), (6, .int (x6 + 1))] [] I)
    (k5 : ¬ x2 = 0 → ¬ x2 = 0 → ¬ x4 ≤ s0 → s0 ≤ x5 → HGo E (mF E (d + 3) Q) me_X12_lay 75 [(0, .ref 87), (1, .int x1), (2, .int (x2 + 1)), (3, .int x3), (4, .int s0), (5, .int x5), (6, .int (x6 + 1))] [] I)
    (k6 : ¬ x2 = 0 → ¬ x2 = 0 → ¬ x4 ≤ s0 → ¬ s0 ≤ x5 → HGo E (mF E (d + 3) Q) me_X12_lay 75 [(0, .ref 87), (1, .int x1), (2, .int (x2 + 1)), (3, .int x3), (4, .int s0), (5, .int s0), (6, .int (x6 + 1))] [] I)
    (k7 : x2 = 0 → x2 = 0 → s0 ≤ x5 → HGo E (mF E (d + 3) Q) me_X12_lay 75 [(0, .ref 87), (1, .int x1), (2, .int (x2 + 1)), (3, .int x6), (4, .int s0), (5, .int x5), (6, .int (x6 + 1))] [] I)
    (k8 : x2 = 0 → x2 = 0 → ¬ s0 ≤ x5 → HGo E (mF E (d + 3) Q) me_X12_lay 75 [(0, .ref 87), (1, .int x1), (2, .int (x2 + 1)), (3, .int x6), (4, .int s0), (5, .int s0), (6, .int (x6 + 1))] [] I)
    (k9 : x2 = 0 → ¬ x2 = 0 → x4 ≤ s0 → s0 ≤ x5 → HGo E (mF E (d + 3) Q) me_X12_lay 75 [(0, .ref 87), (1, .int x1), (2, .int (x2 + 1)), (3, .int x6), (4, .int x4), (5, .int x5), (6, .int (x6 + 1))] [] I)
    (k10 : x2 = 0 → ¬ x2 = 0 → x4 ≤ s0 → ¬ s0 ≤ x5 → HGo E (mF E (d + 3) Q) me_X12_lay 75 [(0, .ref 87), (1, .int x1), (2, .int (x2 + 1)), (3, .int x6), (4, .int x4), (5, .int s0), (6, .int (x6 + 1))] [] I)
    (k11 : x2 = 0 → ¬ x2 = 0 → ¬ x4 ≤ s0 → s0 ≤ x5 → HGo E (mF E (d + 3) Q) me_X12_lay 75 [(0, .ref 87), (1, .int x1), (2, .int (x2 + 1)), (3, .int x6), (4, .int s0), (5, .int x5), (6, .int (x6 + 1))] [] I)
    (k12 : x2 = 0 → ¬ x2 = 0 → ¬ x4 ≤ s0 → ¬ s0 ≤ x5 → HGo E (mF E (d + 3) Q) me_X12_lay 75 [(0, .ref 87), (1, .int x1), (2, .int (x2 + 1)), (3, .int x6), (4, .int s0), (5, .int s0), (6, .int (x6 + 1))] [] I)
    : HGo E (mF E (d + 3) Q) me_X12_lay 117 [(0, .ref 87), (1, .int x1), (2, .int x2), (3, .int x3), (4, .int x4), (5, .int x5), (6, .int x6)] [.int s0] I := by
  refine h_istore (L' := [(7, .int s0), (0, .ref 87), (1, .int x1), (2, .int x2), (3, .int x3), (4, .int x4), (5, .int x5), (6, .int x6)]) dX12_lay_117 (by decide) rfl ?_
  refine h_iload_n dX12_lay_119 rfl 3 rfl ?_
  refine h_if_ne (tgt := 128) dX12_lay_120 (by decide) (fun c1 => ?_) (fun c1 => ?_)
  ·
    refine h_iload_n dX12_lay_128 rfl 4 rfl ?_
    refine h_istore_n (L' := [(3, .int x3), (7, .int s0), (0, .ref 87), (1, .int x1), (2, .int x2), (4, .int x4), (5, .int x5), (6, .int x6)]) dX12_lay_129 rfl (by decide) rfl ?_
    refine h_iload_n dX12_lay_130 rfl 4 rfl ?_
    refine h_if_eq (tgt := 141) dX12_lay_131 (by decide) (fun c2 => ?_) (fun c2 => ?_)
    ·
      refine h_iload dX12_lay_141 1 rfl ?_
      refine h_goto (tgt := 148) dX12_lay_143 (by decide) ?_
      refine h_istore (L' := [(4, .int s0), (3, .int x3), (7, .int s0), (0, .ref 87), (1, .int x1), (2, .int x2), (5, .int x5), (6, .int x6)]) dX12_lay_148 (by decide) rfl ?_
      refine h_iload dX12_lay_150 2 rfl ?_
      refine h_iload dX12_lay_152 6 rfl ?_
      refine h_icmp_le (tgt := 162) dX12_lay_154 (by decide) (fun c3 => ?_) (fun c3 => ?_)
      ·
        refine h_iload dX12_lay_162 6 rfl ?_
        refine h_istore (L' := [(5, .int x5), (4, .int s0), (3, .int x3), (7, .int s0), (0, .ref 87), (1, .int x1), (2, .int x2), (6, .int x6)]) dX12_lay_164 (by decide) rfl ?_
        refine h_iinc (v := (x2 + 1)) (L' := [(2, .int (x2 + 1)), (5, .int x5), (4, .int s0), (3, .int x3), (7, .int s0), (0, .ref 87), (1, .int x1), (6, .int x6)]) dX12_lay_166 6 rfl rfl (by decide) rfl ?_
        refine h_iinc (v := (x6 + 1)) (L' := [(6, .int (x6 + 1)), (2, .int (x2 + 1)), (5, .int x5), (4, .int s0), (3, .int x3), (7, .int s0), (0, .ref 87), (1, .int x1)]) dX12_lay_169 7 rfl rfl (by decide) rfl ?_
        refine h_goto (tgt := 75) dX12_lay_172 (by decide) ?_
        refine h_pick [6, 7, 1, 4, 3, 2, 0] [(0, .ref 87), (1, .int x1), (2, .int (x2 + 1)), (3, .int x3), (4, .int s0), (5, .int x5), (6, .int (x6 + 1))] rfl ?_
        exact k1 c1 c2 c3
      ·
        refine h_iload dX12_lay_157 2 rfl ?_
        refine h_goto (tgt := 164) dX12_lay_159 (by decide) ?_
        refine h_istore (L' := [(5, .int s0), (4, .int s0), (3, .int x3), (7, .int s0), (0, .ref 87), (1, .int x1), (2, .int x2), (6, .int x6)]) dX12_lay_164 (by decide) rfl ?_
        refine h_iinc (v := (x2 + 1)) (L' := [(2, .int (x2 + 1)), (5, .int s0), (4, .int s0), (3, .int x3), (7, .int s0), (0, .ref 87), (1, .int x1), (6, .int x6)]) dX12_lay_166 6 rfl rfl (by decide) rfl ?_
        refine h_iinc (v := (x6 + 1)) (L' := [(6, .int (x6 + 1)), (2, .int (x2 + 1)), (5, .int s0), (4, .int s0), (3, .int x3), (7, .int s0), (0, .ref 87), (1, .int x1)]) dX12_lay_169 7 rfl rfl (by decide) rfl ?_
        refine h_goto (tgt := 75) dX12_lay_172 (by decide) ?_
        refine h_pick [6, 7, 1, 4, 3, 2, 0] [(0, .ref 87), (1, .int x1), (2, .int (x2 + 1)), (3, .int x3), (4, .int s0), (5, .int s0), (6, .int (x6 + 1))] rfl ?_
        exact k2 c1 c2 c3
    ·
      refine h_iload dX12_lay_134 1 rfl ?_
      refine h_iload dX12_lay_136 5 rfl ?_
      refine h_icmp_ge (tgt := 146) dX12_lay_138 (by decide) (fun c4 => ?_) (fun c4 => ?_)
      ·
        refine h_iload dX12_lay_146 5 rfl ?_
        refine h_istore (L' := [(4, .int x4), (3, .int x3), (7, .int s0), (0, .ref 87), (1, .int x1), (2, .int x2), (5, .int x5), (6, .int x6)]) dX12_lay_148 (by decide) rfl ?_
        refine h_iload dX12_lay_150 2 rfl ?_
        refine h_iload dX12_lay_152 6 rfl ?_
        refine h_icmp_le (tgt := 162) dX12_lay_154 (by decide) (fun c5 => ?_) (fun c5 => ?_)
        ·
          refine h_iload dX12_lay_162 6 rfl ?_
          refine h_istore (L' := [(5, .int x5), (4, .int x4), (3, .int x3), (7, .int s0), (0, .ref 87), (1, .int x1), (2, .int x2), (6, .int x6)]) dX12_lay_164 (by decide) rfl ?_
          refine h_iinc (v := (x2 + 1)) (L' := [(2, .int (x2 + 1)), (5, .int x5), (4, .int x4), (3, .int x3), (7, .int s0), (0, .ref 87), (1, .int x1), (6, .int x6)]) dX12_lay_166 6 rfl rfl (by decide) rfl ?_
          refine h_iinc (v := (x6 + 1)) (L' := [(6, .int (x6 + 1)), (2, .int (x2 + 1)), (5, .int x5), (4, .int x4), (3, .int x3), (7, .int s0), (0, .ref 87), (1, .int x1)]) dX12_lay_169 7 rfl rfl (by decide) rfl ?_
          refine h_goto (tgt := 75) dX12_lay_172 (by decide) ?_
          refine h_pick [6, 7, 1, 4, 3, 2, 0] [(0, .ref 87), (1, .int x1), (2, .int (x2 + 1)), (3, .int x3), (4, .int x4), (5, .int x5), (6, .int (x6 + 1))] rfl ?_
          exact k3 c1 c2 c4 c5
        ·
          refine h_iload dX12_lay_157 2 rfl ?_
          refine h_goto (tgt := 164) dX12_lay_159 (by decide) ?_
          refine h_istore (L' := [(5, .int s0), (4, .int x4), (3, .int x3), (7, .int s0), (0, .ref 87), (1, .int x1), (2, .int x2), (6, .int x6)]) dX12_lay_164 (by decide) rfl ?_
          refine h_iinc (v := (x2 + 1)) (L' := [(2, .int (x2 + 1)), (5, .int s0), (4, .int x4), (3, .int x3), (7, .int s0), (0, .ref 87), (1, .int x1), (6, .int x6)]) dX12_lay_166 6 rfl rfl (by decide) rfl ?_
          refine h_iinc (v := (x6 + 1)) (L' := [(6, .int (x6 + 1)), (2, .int (x2 + 1)), (5, .int s0), (4, .int x4), (3, .int x3), (7, .int s0), (0, .ref 87), (1, .int x1)]) dX12_lay_169 7 rfl rfl (by decide) rfl ?_
          refine h_goto (tgt := 75) dX12_lay_172 (by decide) ?_
          refine h_pick [6, 7, 1, 4, 3, 2, 0] [(0, .ref 87), (1, .int x1), (2, .int (x2 + 1)), (3, .int x3), (4, .int x4), (5, .int s0), (6, .int (x6 + 1))] rfl ?_
          exact k4 c1 c2 c4 c5
      ·
        refine h_iload dX12_lay_141 1 rfl ?_
        refine h_goto (tgt := 148) dX12_lay_143 (by decide) ?_
        refine h_istore (L' := [(4, .int s0), (3, .int x3), (7, .int s0), (0, .ref 87), (1, .int x1), (2, .int x2), (5, .int x5), (6, .int x6)]) dX12_lay_148 (by decide) rfl ?_
        refine h_iload dX12_lay_150 2 rfl ?_
        refine h_iload dX12_lay_152 6 rfl ?_
        refine h_icmp_le (tgt := 162) dX12_lay_154 (by decide) (fun c6 => ?_) (fun c6 => ?_)
        ·
          refine h_iload dX12_lay_162 6 rfl ?_
          refine h_istore (L' := [(5, .int x5), (4, .int s0), (3, .int x3), (7, .int s0), (0, .ref 87), (1, .int x1), (2, .int x2), (6, .int x6)]) dX12_lay_164 (by decide) rfl ?_
          refine h_iinc (v := (x2 + 1)) (L' := [(2, .int (x2 + 1)), (5, .int x5), (4, .int s0), (3, .int x3), (7, .int s0), (0, .ref 87), (1, .int x1), (6, .int x6)]) dX12_lay_166 6 rfl rfl (by decide) rfl ?_
          refine h_iinc (v := (x6 + 1)) (L' := [(6, .int (x6 + 1)), (2, .int (x2 + 1)), (5, .int x5), (4, .int s0), (3, .int x3), (7, .int s0), (0, .ref 87), (1, .int x1)]) dX12_lay_169 7 rfl rfl (by decide) rfl ?_
          refine h_goto (tgt := 75) dX12_lay_172 (by decide) ?_
          refine h_pick [6, 7, 1, 4, 3, 2, 0] [(0, .ref 87), (1, .int x1), (2, .int (x2 + 1)), (3, .int x3), (4, .int s0), (5, .int x5), (6, .int (x6 + 1))] rfl ?_
          exact k5 c1 c2 c4 c6
        ·
          refine h_iload dX12_lay_157 2 rfl ?_
          refine h_goto (tgt := 164) dX12_lay_159 (by decide) ?_
          refine h_istore (L' := [(5, .int s0), (4, .int s0), (3, .int x3), (7, .int s0), (0, .ref 87), (1, .int x1), (2, .int x2), (6, .int x6)]) dX12_lay_164 (by decide) rfl ?_
          refine h_iinc (v := (x2 + 1)) (L' := [(2, .int (x2 + 1)), (5, .int s0), (4, .int s0), (3, .int x3), (7, .int s0), (0, .ref 87), (1, .int x1), (6, .int x6)]) dX12_lay_166 6 rfl rfl (by decide) rfl ?_
          refine h_iinc (v := (x6 + 1)) (L' := [(6, .int (x6 + 1)), (2, .int (x2 + 1)), (5, .int s0), (4, .int s0), (3, .int x3), (7, .int s0), (0, .ref 87), (1, .int x1)]) dX12_lay_169 7 rfl rfl (by decide) rfl ?_
          refine h_goto (tgt := 75) dX12_lay_172 (by decide) ?_
          refine h_pick [6, 7, 1, 4, 3, 2, 0] [(0, .ref 87), (1, .int x1), (2, .int (x2 + 1)), (3, .int x3), (4, .int s0), (5, .int s0), (6, .int (x6 + 1))] rfl ?_
          exact k6 c1 c2 c4 c6
  ·
    refine h_iload dX12_lay_123 7 rfl ?_
    refine h_goto (tgt := 129) dX12_lay_125 (by decide) ?_
    refine h_istore_n (L' := [(3, .int x6), (7, .int s0), (0, .ref 87), (1, .int x1), (2, .int x2), (4, .int x4), (5, .int x5), (6, .int x6)]) dX12_lay_129 rfl (by decide) rfl ?_
    refine h_iload_n dX12_lay_130 rfl 4 rfl ?_
    refine h_if_eq (tgt := 141) dX12_lay_131 (by decide) (fun c7 => ?_) (fun c7 => ?_)
    ·
      refine h_iload dX12_lay_141 1 rfl ?_
      refine h_goto (tgt := 148) dX12_lay_143 (by decide) ?_
      refine h_istore (L' := [(4, .int s0), (3, .int x6), (7, .int s0), (0, .ref 87), (1, .int x1), (2, .int x2), (5, .int x5), (6, .int x6)]) dX12_lay_148 (by decide) rfl ?_
      refine h_iload dX12_lay_150 2 rfl ?_
      refine h_iload dX12_lay_152 6 rfl ?_
      refine h_icmp_le (tgt := 162) dX12_lay_154 (by decide) (fun c8 => ?_) (fun c8 => ?_)
      ·
        refine h_iload dX12_lay_162 6 rfl ?_
        refine h_istore (L' := [(5, .int x5), (4, .int s0), (3, .int x6), (7, .int s0), (0, .ref 87), (1, .int x1), (2, .int x2), (6, .int x6)]) dX12_lay_164 (by decide) rfl ?_
        refine h_iinc (v := (x2 + 1)) (L' := [(2, .int (x2 + 1)), (5, .int x5), (4, .int s0), (3, .int x6), (7, .int s0), (0, .ref 87), (1, .int x1), (6, .int x6)]) dX12_lay_166 6 rfl rfl (by decide) rfl ?_
        refine h_iinc (v := (x6 + 1)) (L' := [(6, .int (x6 + 1)), (2, .int (x2 + 1)), (5, .int x5), (4, .int s0), (3, .int x6), (7, .int s0), (0, .ref 87), (1, .int x1)]) dX12_lay_169 7 rfl rfl (by decide) rfl ?_
        refine h_goto (tgt := 75) dX12_lay_172 (by decide) ?_
        refine h_pick [6, 7, 1, 4, 3, 2, 0] [(0, .ref 87), (1, .int x1), (2, .int (x2 + 1)), (3, .int x6), (4, .int s0), (5, .int x5), (6, .int (x6 + 1))] rfl ?_
        exact k7 c1 c7 c8
      ·
        refine h_iload dX12_lay_157 2 rfl ?_
        refine h_goto (tgt := 164) dX12_lay_159 (by decide) ?_
        refine h_istore (L' := [(5, .int s0), (4, .int s0), (3, .int x6), (7, .int s0), (0, .ref 87), (1, .int x1), (2, .int x2), (6, .int x6)]) dX12_lay_164 (by decide) rfl ?_
        refine h_iinc (v := (x2 + 1)) (L' := [(2, .int (x2 + 1)), (5, .int s0), (4, .int s0), (3, .int x6), (7, .int s0), (0, .ref 87), (1, .int x1), (6, .int x6)]) dX12_lay_166 6 rfl rfl (by decide) rfl ?_
        refine h_iinc (v := (x6 + 1)) (L' := [(6, .int (x6 + 1)), (2, .int (x2 + 1)), (5, .int s0), (4, .int s0), (3, .int x6), (7, .int s0), (0, .ref 87), (1, .int x1)]) dX12_lay_169 7 rfl rfl (by decide) rfl ?_
        refine h_goto (tgt := 75) dX12_lay_172 (by decide) ?_
        refine h_pick [6, 7, 1, 4, 3, 2, 0] [(0, .ref 87), (1, .int x1), (2, .int (x2 + 1)), (3, .int x6), (4, .int s0), (5, .int s0), (6, .int (x6 + 1))] rfl ?_
        exact k8 c1 c7 c8
    ·
      refine h_iload dX12_lay_134 1 rfl ?_
      refine h_iload dX12_lay_136 5 rfl ?_
      refine h_icmp_ge (tgt := 146) dX12_lay_138 (by decide) (fun c9 => ?_) (fun c9 => ?_)
      ·
        refine h_iload dX12_lay_146 5 rfl ?_
        refine h_istore (L' := [(4, .int x4), (3, .int x6), (7, .int s0), (0, .ref 87), (1, .int x1), (2, .int x2), (5, .int x5), (6, .int x6)]) dX12_lay_148 (by decide) rfl ?_
        refine h_iload dX12_lay_150 2 rfl ?_
        refine h_iload dX12_lay_152 6 rfl ?_
        refine h_icmp_le (tgt := 162) dX12_lay_154 (by decide) (fun c10 => ?_) (fun c10 => ?_)
        ·
          refine h_iload dX12_lay_162 6 rfl ?_
          refine h_istore (L' := [(5, .int x5), (4, .int x4), (3, .int x6), (7, .int s0), (0, .ref 87), (1, .int x1), (2, .int x2), (6, .int x6)]) dX12_lay_164 (by decide) rfl ?_
          refine h_iinc (v := (x2 + 1)) (L' := [(2, .int (x2 + 1)), (5, .int x5), (4, .int x4), (3, .int x6), (7, .int s0), (0, .ref 87), (1, .int x1), (6, .int x6)]) dX12_lay_166 6 rfl rfl (by decide) rfl ?_
          refine h_iinc (v := (x6 + 1)) (L' := [(6, .int (x6 + 1)), (2, .int (x2 + 1)), (5, .int x5), (4, .int x4), (3, .int x6), (7, .int s0), (0, .ref 87), (1, .int x1)]) dX12_lay_169 7 rfl rfl (by decide) rfl ?_
          refine h_goto (tgt := 75) dX12_lay_172 (by decide) ?_
          refine h_pick [6, 7, 1, 4, 3, 2, 0] [(0, .ref 87), (1, .int x1), (2, .int (x2 + 1)), (3, .int x6), (4, .int x4), (5, .int x5), (6, .int (x6 + 1))] rfl ?_
          exact k9 c1 c7 c9 c10
        ·
          refine h_iload dX12_lay_157 2 rfl ?_
          refine h_goto (tgt := 164) dX12_lay_159 (by decide) ?_
          refine h_istore (L' := [(5, .int s0), (4, .int x4), (3, .int x6), (7, .int s0), (0, .ref 87), (1, .int x1), (2, .int x2), (6, .int x6)]) dX12_lay_164 (by decide) rfl ?_
          refine h_iinc (v := (x2 + 1)) (L' := [(2, .int (x2 + 1)), (5, .int s0), (4, .int x4), (3, .int x6), (7, .int s0), (0, .ref 87), (1, .int x1), (6, .int x6)]) dX12_lay_166 6 rfl rfl (by decide) rfl ?_
          refine h_iinc (v := (x6 + 1)) (L' := [(6, .int (x6 + 1)), (2, .int (x2 + 1)), (5, .int s0), (4, .int x4), (3, .int x6), (7, .int s0), (0, .ref 87), (1, .int x1)]) dX12_lay_169 7 rfl rfl (by decide) rfl ?_
          refine h_goto (tgt := 75) dX12_lay_172 (by decide) ?_
          refine h_pick [6, 7, 1, 4, 3, 2, 0] [(0, .ref 87), (1, .int x1), (2, .int (x2 + 1)), (3, .int x6), (4, .int x4), (5, .int s0), (6, .int (x6 + 1))] rfl ?_
          exact k10 c1 c7 c9 c10
      ·
        refine h_iload dX12_lay_141 1 rfl ?_
        refine h_goto (tgt := 148) dX12_lay_143 (by decide) ?_
        refine h_istore (L' := [(4, .int s0), (3, .int x6), (7, .int s0), (0, .ref 87), (1, .int x1), (2, .int x2), (5, .int x5), (6, .int x6)]) dX12_lay_148 (by decide) rfl ?_
        refine h_iload dX12_lay_150 2 rfl ?_
        refine h_iload dX12_lay_152 6 rfl ?_
        refine h_icmp_le (tgt := 162) dX12_lay_154 (by decide) (fun c11 => ?_) (fun c11 => ?_)
        ·
          refine h_iload dX12_lay_162 6 rfl ?_
          refine h_istore (L' := [(5, .int x5), (4, .int s0), (3, .int x6), (7, .int s0), (0, .ref 87), (1, .int x1), (2, .int x2), (6, .int x6)]) dX12_lay_164 (by decide) rfl ?_
          refine h_iinc (v := (x2 + 1)) (L' := [(2, .int (x2 + 1)), (5, .int x5), (4, .int s0), (3, .int x6), (7, .int s0), (0, .ref 87), (1, .int x1), (6, .int x6)]) dX12_lay_166 6 rfl rfl (by decide) rfl ?_
          refine h_iinc (v := (x6 + 1)) (L' := [(6, .int (x6 + 1)), (2, .int (x2 + 1)), (5, .int x5), (4, .int s0), (3, .int x6), (7, .int s0), (0, .ref 87), (1, .int x1)]) dX12_lay_169 7 rfl rfl (by decide) rfl ?_
          refine h_goto (tgt := 75) dX12_lay_172 (by decide) ?_
          refine h_pick [6, 7, 1, 4, 3, 2, 0] [(0, .ref 87), (1, .int x1), (2, .int (x2 + 1)), (3, .int x6), (4, .int s0), (5, .int x5), (6, .int (x6 + 1))] rfl ?_
          exact k11 c1 c7 c9 c11
        ·
          refine h_iload dX12_lay_157 2 rfl ?_
          refine h_goto (tgt := 164) dX12_lay_159 (by decide) ?_
          refine h_istore (L' := [(5, .int s0), (4, .int s0), (3, .int x6), (7, .int s0), (0, .ref 87), (1, .int x1), (2, .int x2), (6, .int x6)]) dX12_lay_164 (by decide) rfl ?_
          refine h_iinc (v := (x2 + 1)) (L' := [(2, .int (x2 + 1)), (5, .int s0), (4, .int s0), (3, .int x6), (7, .int s0), (0, .ref 87), (1, .int x1), (6, .int x6)]) dX12_lay_166 6 rfl rfl (by decide) rfl ?_
          refine h_iinc (v := (x6 + 1)) (L' := [(6, .int (x6 + 1)), (2, .int (x2 + 1)), (5, .int s0), (4, .int s0), (3, .int x6), (7, .int s0), (0, .ref 87), (1, .int x1)]) dX12_lay_169 7 rfl rfl (by decide) rfl ?_
          refine h_goto (tgt := 75) dX12_lay_172 (by decide) ?_
          refine h_pick [6, 7, 1, 4, 3, 2, 0] [(0, .ref 87), (1, .int x1), (2, .int (x2 + 1)), (3, .int x6), (4, .int s0), (5, .int s0), (6, .int (x6 + 1))] rfl ?_
          exact k12 c1 c7 c9 c11
set_option maxHeartbeats 1000000 in
set_option maxRecDepth 4000 in
theorem sg_X12_keep_0 {E : HEn} {d : Nat} {Q : Option Value → HIh → Prop} {I : HIh} {a : Int32}
    (k1 : (0 : Int64) ≤ a.toInt64 → (a.toInt64 : Int64) ≤ 1 → HCall E me_X12_copy (d + 1) [.ref 87, .int 0, .int (1 + a)] I (fun v9 J => HGo E (mF E (d + 2) Q) me_X12_keep 21 [(0, .ref 87), (1, .int a)] (v9.toList ++ []) J))
    (k2 : ¬ ((0 : Int64) ≤ a.toInt64 ∧ (a.toInt64 : Int64) ≤ 1) → Q (some (.int (-2))) I)
    : HGo E (mF E (d + 2) Q) me_X12_keep 0 [(0, .ref 87), (1, .int a)] [] I := by
  refine h_iload_n dX12_keep_0 rfl 1 rfl ?_
  refine h_i2l dX12_keep_1 ?_
  refine h_lconst (v := 0) dX12_keep_2 (by decide) ?_
  refine h_lconst (v := 1) dX12_keep_3 (by decide) ?_
  refine h_invS (As := [.long a.toInt64, .long 0, .long 1]) (st := []) dX12_keep_4 lk_X12_62 (h_room (by decide)) rfl rfl (Nat.le_of_ble_eq_true rfl) ?_
  refine c_X12_in (fun c1 c2 => ?_) (fun c3 => ?_)
  ·
    refine h_if_ne (tgt := 13) dX12_keep_7 (by decide) (fun _ => ?_) (fun c => absurd c (by decide))
    refine h_aload_n dX12_keep_13 rfl 0 rfl ?_
    refine h_iconst (v := 0) dX12_keep_14 (by decide) ?_
    refine h_iconst (v := 1) dX12_keep_15 (by decide) ?_
    refine h_iload_n dX12_keep_16 rfl 1 rfl ?_
    refine h_iadd dX12_keep_17 ?_
    refine h_invV (As := [.int 0, .int (1 + a)]) (st := []) dX12_keep_18 lk_X12_221 (h_room (by decide)) nl_87 zk_87 (by decide) rfl rfl rfl (Nat.le_of_ble_eq_true rfl) ?_
    exact k1 c1 c2
  ·
    refine h_if_ne (tgt := 13) dX12_keep_7 (by decide) (fun c => absurd c (by decide)) (fun _ => ?_)
    refine h_bipush (v := (-2)) dX12_keep_10 (by decide) ?_
    exact h_iret dX12_keep_12 rfl (k2 c3)
set_option maxHeartbeats 1000000 in
set_option maxRecDepth 4000 in
theorem sg_X12_keep_21 {E : HEn} {d : Nat} {Q : Option Value → HIh → Prop} {I : HIh} {x1 : Int32}
    (k1 : vp_in x1 2)
    (k2 : Q (some (.int ((setI I 89 (upd (I 89) x1.toNatClampNeg 1)) 88 30))) (setI I 89 (upd (I 89) x1.toNatClampNeg 1)))
    : HGo E (mF E (d + 2) Q) me_X12_keep 21 [(0, .ref 87), (1, .int x1)] [] I := by
  refine h_aload_n dX12_keep_21 rfl 0 rfl ?_
  refine gf_10_1 dX12_keep_22 hl_X12_13 nl_87 zk_87 zp_87_1 ?_
  refine h_iload_n dX12_keep_25 rfl 1 rfl ?_
  refine h_iconst (v := 1) dX12_keep_26 (by decide) ?_
  refine h_zast dX12_keep_27 nl_89 zk_89 (by rw [zn_89]; exact k1) rfl ?_
  refine h_aload_n dX12_keep_28 rfl 0 rfl ?_
  refine gf_10_0 dX12_keep_29 hl_X12_7 nl_87 zk_87 zp_87_0 ?_
  refine h_bipush (v := 30) dX12_keep_32 (by decide) ?_
  refine h_iald dX12_keep_34 nl_88 zk_88 (vp_lit (by rw [zn_88]; decide)) ?_
  exact h_iret dX12_keep_35 rfl (k2)
set_option maxHeartbeats 1000000 in
set_option maxRecDepth 4000 in
theorem sg_X12_back_0 {E : HEn} {d : Nat} {Q : Option Value → HIh → Prop} {I : HIh} {a : Int32}
    (k1 : (0 : Int64) ≤ a.toInt64 → (a.toInt64 : Int64) ≤ 1 → vp_in a 2)
    (k2 : (0 : Int64) ≤ a.toInt64 → (a.toInt64 : Int64) ≤ 1 → ¬ (I 89 a.toNatClampNeg) = 0 → HCall E me_X12_copy (d + 1) [.ref 87, .int (1 + a), .int 0] I (fun v9 J => HGo E (mF E (d + 2) Q) me_X12_back 33 [(0, .ref 87)] (v9.toList ++ []) J))
    (k3 : (0 : Int64) ≤ a.toInt64 → (a.toInt64 : Int64) ≤ 1 → (I 89 a.toNatClampNeg) = 0 → Q (some (.int (-4))) I)
    (k4 : ¬ ((0 : Int64) ≤ a.toInt64 ∧ (a.toInt64 : Int64) ≤ 1) → Q (some (.int (-2))) I)
    : HGo E (mF E (d + 2) Q) me_X12_back 0 [(0, .ref 87), (1, .int a)] [] I := by
  refine h_iload_n dX12_back_0 rfl 1 rfl ?_
  refine h_i2l dX12_back_1 ?_
  refine h_lconst (v := 0) dX12_back_2 (by decide) ?_
  refine h_lconst (v := 1) dX12_back_3 (by decide) ?_
  refine h_invS (As := [.long a.toInt64, .long 0, .long 1]) (st := []) dX12_back_4 lk_X12_62 (h_room (by decide)) rfl rfl (Nat.le_of_ble_eq_true rfl) ?_
  refine c_X12_in (fun c1 c2 => ?_) (fun c3 => ?_)
  ·
    refine h_if_ne (tgt := 13) dX12_back_7 (by decide) (fun _ => ?_) (fun c => absurd c (by decide))
    refine h_aload_n dX12_back_13 rfl 0 rfl ?_
    refine gf_10_1 dX12_back_14 hl_X12_13 nl_87 zk_87 zp_87_1 ?_
    refine h_iload_n dX12_back_17 rfl 1 rfl ?_
    refine h_zald dX12_back_18 nl_89 zk_89 (by rw [zn_89]; exact k1 c1 c2) ?_
    refine h_if_ne (tgt := 25) dX12_back_19 (by decide) (fun c4 => ?_) (fun c4 => ?_)
    ·
      refine h_aload_n dX12_back_25 rfl 0 rfl ?_
      refine h_iconst (v := 1) dX12_back_26 (by decide) ?_
      refine h_iload_n dX12_back_27 rfl 1 rfl ?_
      refine h_iadd dX12_back_28 ?_
      refine h_iconst (v := 0) dX12_back_29 (by decide) ?_
      refine h_pick [0] [(0, .ref 87)] rfl ?_
      refine h_invV (As := [.int (1 + a), .int 0]) (st := []) dX12_back_30 lk_X12_221 (h_room (by decide)) nl_87 zk_87 (by decide) rfl rfl rfl (Nat.le_of_ble_eq_true rfl) ?_
      exact k2 c1 c2 c4
    ·
      refine h_bipush (v := (-4)) dX12_back_22 (by decide) ?_
      exact h_iret dX12_back_24 rfl (k3 c1 c2 c4)
  ·
    refine h_if_ne (tgt := 13) dX12_back_7 (by decide) (fun c => absurd c (by decide)) (fun _ => ?_)
    refine h_bipush (v := (-2)) dX12_back_10 (by decide) ?_
    exact h_iret dX12_back_12 rfl (k4 c3)
set_option maxHeartbeats 1000000 in
set_option maxRecDepth 4000 in
theorem sg_X12_back_33 {E : HEn} {d : Nat} {Q : Option Value → HIh → Prop} {I : HIh} 
    (k1 : Q (some (.int (I 88 30))) I)
    : HGo E (mF E (d + 2) Q) me_X12_back 33 [(0, .ref 87)] [] I := by
  refine h_aload_n dX12_back_33 rfl 0 rfl ?_
  refine gf_10_0 dX12_back_34 hl_X12_7 nl_87 zk_87 zp_87_0 ?_
  refine h_bipush (v := 30) dX12_back_37 (by decide) ?_
  refine h_iald dX12_back_39 nl_88 zk_88 (vp_lit (by rw [zn_88]; decide)) ?_
  exact h_iret dX12_back_40 rfl (k1)
set_option maxHeartbeats 1000000 in
set_option maxRecDepth 4000 in
theorem sg_X12_worthThere_0 {E : HEn} {d : Nat} {Q : Option Value → HIh → Prop} {I : HIh} 
    (k1 : HGo E (mF E (d + 1) Q) me_X12_worthThere 4 [(0, .ref 87), (1, .int 0), (2, .int 0)] [] I)
    : HGo E (mF E (d + 1) Q) me_X12_worthThere 0 [(0, .ref 87)] [] I := by
  refine h_iconst (v := 0) dX12_worthThere_0 (by decide) ?_
  refine h_istore_n (L' := [(1, .int 0), (0, .ref 87)]) dX12_worthThere_1 rfl (by decide) rfl ?_
  refine h_iconst (v := 0) dX12_worthThere_2 (by decide) ?_
  refine h_istore_n (L' := [(2, .int 0), (1, .int 0), (0, .ref 87)]) dX12_worthThere_3 rfl (by decide) rfl ?_
  refine h_pick [2, 1, 0] [(0, .ref 87), (1, .int 0), (2, .int 0)] rfl ?_
  exact k1
set_option maxHeartbeats 1000000 in
set_option maxRecDepth 4000 in
theorem sg_X12_worthThere_4 {E : HEn} {d : Nat} {Q : Option Value → HIh → Prop} {I : HIh} {x1 : Int32} {x2 : Int32}
    (k1 : (I 87 6) ≤ x2 → Q (some (.int x1)) I)
    (k2 : ¬ (I 87 6) ≤ x2 → vp_in (0 + x2) 341)
    (k3 : ¬ (I 87 6) ≤ x2 → vp_in x2 6)
    (k4 : ¬ (I 87 6) ≤ x2 → HGo E (mF E (d + 1) Q) me_X12_worthThere 4 [(0, .ref 87), (1, .int (x1 + ((I 88 (0 + x2).toNatClampNeg) * (I 92 x2.toNatClampNeg)))), (2, .int (x2 + 1))] [] I)
    : HGo E (mF E (d + 1) Q) me_X12_worthThere 4 [(0, .ref 87), (1, .int x1), (2, .int x2)] [] I := by
  refine h_iload_n dX12_worthThere_4 rfl 2 rfl ?_
  refine h_aload_n dX12_worthThere_5 rfl 0 rfl ?_
  refine gf_10_6 dX12_worthThere_6 hl_X12_23 nl_87 zk_87 ?_
  refine h_icmp_ge (tgt := 36) dX12_worthThere_9 (by decide) (fun c1 => ?_) (fun c1 => ?_)
  ·
    refine h_iload_n dX12_worthThere_36 rfl 1 rfl ?_
    exact h_iret dX12_worthThere_37 rfl (k1 c1)
  ·
    refine h_iload_n dX12_worthThere_12 rfl 1 rfl ?_
    refine h_aload_n dX12_worthThere_13 rfl 0 rfl ?_
    refine gf_10_0 dX12_worthThere_14 hl_X12_7 nl_87 zk_87 zp_87_0 ?_
    refine h_iconst (v := 0) dX12_worthThere_17 (by decide) ?_
    refine h_iload_n dX12_worthThere_18 rfl 2 rfl ?_
    refine h_iadd dX12_worthThere_19 ?_
    refine h_iald dX12_worthThere_20 nl_88 zk_88 (by rw [zn_88]; exact k2 c1) ?_
    refine h_aload_n dX12_worthThere_21 rfl 0 rfl ?_
    refine gf_10_7 dX12_worthThere_22 hl_X12_27 nl_87 zk_87 zp_87_7 ?_
    refine h_iload_n dX12_worthThere_25 rfl 2 rfl ?_
    refine h_iald dX12_worthThere_26 nl_92 zk_92 (by rw [zn_92]; exact k3 c1) ?_
    refine h_imul dX12_worthThere_27 ?_
    refine h_iadd dX12_worthThere_28 ?_
    refine h_istore_n (L' := [(1, .int (x1 + ((I 88 (0 + x2).toNatClampNeg) * (I 92 x2.toNatClampNeg)))), (0, .ref 87), (2, .int x2)]) dX12_worthThere_29 rfl (by decide) rfl ?_
    refine h_iinc (v := (x2 + 1)) (L' := [(2, .int (x2 + 1)), (1, .int (x1 + ((I 88 (0 + x2).toNatClampNeg) * (I 92 x2.toNatClampNeg)))), (0, .ref 87)]) dX12_worthThere_30 2 rfl rfl (by decide) rfl ?_
    refine h_goto (tgt := 4) dX12_worthThere_33 (by decide) ?_
    refine h_pick [2, 1, 0] [(0, .ref 87), (1, .int (x1 + ((I 88 (0 + x2).toNatClampNeg) * (I 92 x2.toNatClampNeg)))), (2, .int (x2 + 1))] rfl ?_
    exact k4 c1
set_option maxHeartbeats 1000000 in
set_option maxRecDepth 4000 in
theorem sg_X12_count_0 {E : HEn} {d : Nat} {Q : Option Value → HIh → Prop} {I : HIh} {a : Int32}
    (k1 : a = 0 → Q (some (.int (I 87 6))) I)
    (k2 : ¬ a = 0 → a = 1 → HCall E me_X12_worthThere (d + 1) [.ref 87] I (fun v9 J => HGo E (mF E (d + 2) Q) me_X12_count 57 [] (v9.toList ++ []) J))
    (k3 : ¬ a = 0 → ¬ a = 1 → a = 2 → Q (some (.int (I 87 11))) I)
    (k4 : ¬ a = 0 → ¬ a = 1 → ¬ a = 2 → a = 3 → Q (some (.int (I 87 13))) I)
    (k5 : ¬ a = 0 → ¬ a = 1 → ¬ a = 2 → ¬ a = 3 → a = 4 → Q (some (.int (I 88 30))) I)
    (k6 : ¬ a = 0 → ¬ a = 1 → ¬ a = 2 → ¬ a = 3 → ¬ a = 4 → a = 5 → Q (some (.int (I 87 27))) I)
    (k7 : ¬ a = 0 → ¬ a = 1 → ¬ a = 2 → ¬ a = 3 → ¬ a = 4 → ¬ a = 5 → a = 6 → Q (some (.int (I 87 3))) I)
    (k8 : ¬ a = 0 → ¬ a = 1 → ¬ a = 2 → ¬ a = 3 → ¬ a = 4 → ¬ a = 5 → ¬ a = 6 → a = 7 → HCall E me_X12_worthThere (d + 1) [.ref 87] I (fun v9 J => HGo E (mF E (d + 2) Q) me_X12_count 90 [(0, .ref 87)] (v9.toList ++ []) J))
    (k9 : ¬ a = 0 → ¬ a = 1 → ¬ a = 2 → ¬ a = 3 → ¬ a = 4 → ¬ a = 5 → ¬ a = 6 → ¬ a = 7 → Q (some (.int (-3))) I)
    : HGo E (mF E (d + 2) Q) me_X12_count 0 [(0, .ref 87), (1, .int a)] [] I := by
  refine h_iload_n dX12_count_0 rfl 1 rfl ?_
  by_cases c1 : a = 0
  · refine h_tswIn (off := 47) (tgt := 48) 0 dX12_count_1 (by rw [c1]; rfl) (by decide) (by decide) (by decide) (by decide) ?_
    refine h_aload_n dX12_count_48 rfl 0 rfl ?_
    refine gf_10_6 dX12_count_49 hl_X12_23 nl_87 zk_87 ?_
    exact h_iret dX12_count_52 rfl (k1 c1)
  by_cases c2 : a = 1
  · refine h_tswIn (off := 52) (tgt := 53) 1 dX12_count_1 (by rw [c2]; rfl) (by decide) (by decide) (by decide) (by decide) ?_
    refine h_aload_n dX12_count_53 rfl 0 rfl ?_
    refine h_pick [] [] rfl ?_
    refine h_invV (As := []) (st := []) dX12_count_54 lk_X12_275 (h_room (by decide)) nl_87 zk_87 (by decide) rfl rfl rfl (Nat.le_of_ble_eq_true rfl) ?_
    exact k2 c1 c2
  by_cases c3 : a = 2
  · refine h_tswIn (off := 57) (tgt := 58) 2 dX12_count_1 (by rw [c3]; rfl) (by decide) (by decide) (by decide) (by decide) ?_
    refine h_aload_n dX12_count_58 rfl 0 rfl ?_
    refine gf_10_11 dX12_count_59 hl_X12_160 nl_87 zk_87 ?_
    exact h_iret dX12_count_62 rfl (k3 c1 c2 c3)
  by_cases c4 : a = 3
  · refine h_tswIn (off := 62) (tgt := 63) 3 dX12_count_1 (by rw [c4]; rfl) (by decide) (by decide) (by decide) (by decide) ?_
    refine h_aload_n dX12_count_63 rfl 0 rfl ?_
    refine gf_10_13 dX12_count_64 hl_X12_147 nl_87 zk_87 ?_
    exact h_iret dX12_count_67 rfl (k4 c1 c2 c3 c4)
  by_cases c5 : a = 4
  · refine h_tswIn (off := 67) (tgt := 68) 4 dX12_count_1 (by rw [c5]; rfl) (by decide) (by decide) (by decide) (by decide) ?_
    refine h_aload_n dX12_count_68 rfl 0 rfl ?_
    refine gf_10_0 dX12_count_69 hl_X12_7 nl_87 zk_87 zp_87_0 ?_
    refine h_bipush (v := 30) dX12_count_72 (by decide) ?_
    refine h_iald dX12_count_74 nl_88 zk_88 (vp_lit (by rw [zn_88]; decide)) ?_
    exact h_iret dX12_count_75 rfl (k5 c1 c2 c3 c4 c5)
  by_cases c6 : a = 5
  · refine h_tswIn (off := 75) (tgt := 76) 5 dX12_count_1 (by rw [c6]; rfl) (by decide) (by decide) (by decide) (by decide) ?_
    refine h_aload_n dX12_count_76 rfl 0 rfl ?_
    refine gf_10_27 dX12_count_77 hl_X12_172 nl_87 zk_87 ?_
    exact h_iret dX12_count_80 rfl (k6 c1 c2 c3 c4 c5 c6)
  by_cases c7 : a = 6
  · refine h_tswIn (off := 80) (tgt := 81) 6 dX12_count_1 (by rw [c7]; rfl) (by decide) (by decide) (by decide) (by decide) ?_
    refine h_aload_n dX12_count_81 rfl 0 rfl ?_
    refine gf_10_3 dX12_count_82 hl_X12_66 nl_87 zk_87 ?_
    exact h_iret dX12_count_85 rfl (k7 c1 c2 c3 c4 c5 c6 c7)
  by_cases c8 : a = 7
  · refine h_tswIn (off := 85) (tgt := 86) 7 dX12_count_1 (by rw [c8]; rfl) (by decide) (by decide) (by decide) (by decide) ?_
    refine h_aload_n dX12_count_86 rfl 0 rfl ?_
    refine h_pick [0] [(0, .ref 87)] rfl ?_
    refine h_invV (As := []) (st := []) dX12_count_87 lk_X12_275 (h_room (by decide)) nl_87 zk_87 (by decide) rfl rfl rfl (Nat.le_of_ble_eq_true rfl) ?_
    exact k8 c1 c2 c3 c4 c5 c6 c7 c8
  refine h_tswOut (tgt := 119) dX12_count_1 (tsw_out8 c1 c2 c3 c4 c5 c6 c7 c8) (by decide) ?_
  refine h_bipush (v := (-3)) dX12_count_119 (by decide) ?_
  exact h_iret dX12_count_121 rfl (k9 c1 c2 c3 c4 c5 c6 c7 c8)
set_option maxHeartbeats 1000000 in
set_option maxRecDepth 4000 in
theorem sg_X12_count_57 {E : HEn} {d : Nat} {Q : Option Value → HIh → Prop} {I : HIh} {s0 : Int32}
    (k1 : Q (some (.int s0)) I)
    : HGo E (mF E (d + 2) Q) me_X12_count 57 [] [.int s0] I := by
  exact h_iret dX12_count_57 rfl (k1)
set_option maxHeartbeats 1000000 in
set_option maxRecDepth 4000 in
theorem sg_X12_count_90 {E : HEn} {d : Nat} {Q : Option Value → HIh → Prop} {I : HIh} {s0 : Int32}
    (k1 : HCall E me_X12_worthOf (d + 1) [.ref 87, .int 0, .int 0] I (fun v9 J => HGo E (mF E (d + 2) Q) me_X12_count 96 [(0, .ref 87)] (v9.toList ++ [.int s0]) J))
    : HGo E (mF E (d + 2) Q) me_X12_count 90 [(0, .ref 87)] [.int s0] I := by
  refine h_aload_n dX12_count_90 rfl 0 rfl ?_
  refine h_iconst (v := 0) dX12_count_91 (by decide) ?_
  refine h_iconst (v := 0) dX12_count_92 (by decide) ?_
  refine h_invV (As := [.int 0, .int 0]) (st := [.int s0]) dX12_count_93 lk_X12_186 (h_room (by decide)) nl_87 zk_87 (by decide) rfl rfl rfl (Nat.le_of_ble_eq_true rfl) ?_
  exact k1
set_option maxHeartbeats 1000000 in
set_option maxRecDepth 4000 in
theorem sg_X12_count_96 {E : HEn} {d : Nat} {Q : Option Value → HIh → Prop} {I : HIh} {s0 : Int32} {s1 : Int32}
    (k1 : HCall E me_X12_worthOf (d + 1) [.ref 87, .int 0, .int 1] I (fun v9 J => HGo E (mF E (d + 2) Q) me_X12_count 103 [(0, .ref 87)] (v9.toList ++ [.int (s1 + s0)]) J))
    : HGo E (mF E (d + 2) Q) me_X12_count 96 [(0, .ref 87)] [.int s0, .int s1] I := by
  refine h_iadd dX12_count_96 ?_
  refine h_aload_n dX12_count_97 rfl 0 rfl ?_
  refine h_iconst (v := 0) dX12_count_98 (by decide) ?_
  refine h_iconst (v := 1) dX12_count_99 (by decide) ?_
  refine h_invV (As := [.int 0, .int 1]) (st := [.int (s1 + s0)]) dX12_count_100 lk_X12_186 (h_room (by decide)) nl_87 zk_87 (by decide) rfl rfl rfl (Nat.le_of_ble_eq_true rfl) ?_
  exact k1
set_option maxHeartbeats 1000000 in
set_option maxRecDepth 4000 in
theorem sg_X12_count_103 {E : HEn} {d : Nat} {Q : Option Value → HIh → Prop} {I : HIh} {s0 : Int32} {s1 : Int32}
    (k1 : HCall E me_X12_worthOf (d + 1) [.ref 87, .int 0, .int 2] I (fun v9 J => HGo E (mF E (d + 2) Q) me_X12_count 110 [(0, .ref 87)] (v9.toList ++ [.int (s1 + s0)]) J))
    : HGo E (mF E (d + 2) Q) me_X12_count 103 [(0, .ref 87)] [.int s0, .int s1] I := by
  refine h_iadd dX12_count_103 ?_
  refine h_aload_n dX12_count_104 rfl 0 rfl ?_
  refine h_iconst (v := 0) dX12_count_105 (by decide) ?_
  refine h_iconst (v := 2) dX12_count_106 (by decide) ?_
  refine h_invV (As := [.int 0, .int 2]) (st := [.int (s1 + s0)]) dX12_count_107 lk_X12_186 (h_room (by decide)) nl_87 zk_87 (by decide) rfl rfl rfl (Nat.le_of_ble_eq_true rfl) ?_
  exact k1
set_option maxHeartbeats 1000000 in
set_option maxRecDepth 4000 in
theorem sg_X12_count_110 {E : HEn} {d : Nat} {Q : Option Value → HIh → Prop} {I : HIh} {s0 : Int32} {s1 : Int32}
    (k1 : HCall E me_X12_worthOf (d + 1) [.ref 87, .int 0, .int 3] I (fun v9 J => HGo E (mF E (d + 2) Q) me_X12_count 117 [] (v9.toList ++ [.int (s1 + s0)]) J))
    : HGo E (mF E (d + 2) Q) me_X12_count 110 [(0, .ref 87)] [.int s0, .int s1] I := by
  refine h_iadd dX12_count_110 ?_
  refine h_aload_n dX12_count_111 rfl 0 rfl ?_
  refine h_iconst (v := 0) dX12_count_112 (by decide) ?_
  refine h_iconst (v := 3) dX12_count_113 (by decide) ?_
  refine h_pick [] [] rfl ?_
  refine h_invV (As := [.int 0, .int 3]) (st := [.int (s1 + s0)]) dX12_count_114 lk_X12_186 (h_room (by decide)) nl_87 zk_87 (by decide) rfl rfl rfl (Nat.le_of_ble_eq_true rfl) ?_
  exact k1
set_option maxHeartbeats 1000000 in
set_option maxRecDepth 4000 in
theorem sg_X12_count_117 {E : HEn} {d : Nat} {Q : Option Value → HIh → Prop} {I : HIh} {s0 : Int32} {s1 : Int32}
    (k1 : Q (some (.int (s1 + s0))) I)
    : HGo E (mF E (d + 2) Q) me_X12_count 117 [] [.int s0, .int s1] I := by
  refine h_iadd dX12_count_117 ?_
  exact h_iret dX12_count_118 rfl (k1)
