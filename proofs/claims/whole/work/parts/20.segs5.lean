set_option maxHeartbeats 1000000 in
set_option maxRecDepth 20000 in
theorem sg_X7_readLine_0 {E : HEn} {d : Nat} {Q : Option Value → HIh → Prop} {I : HIh} 
    (k1 : HCall E me_X7_readWord (d + 4) [.ref 19, .ref 1000] I (fun v9 J => HGo E (mF E (d + 5) Q) me_X7_readLine 6 [(0, .ref 19)] (v9.toList ++ []) J))
    : HGo E (mF E (d + 5) Q) me_X7_readLine 0 [(0, .ref 19)] [] I := by
  refine h_aload_n dX7_readLine_0 rfl 0 rfl ?_
  refine h_ldcS 0 dX7_readLine_1 rfl rfl (by decide) ?_
  refine h_invV (As := [.ref 1000]) (st := []) dX7_readLine_3 lk_X7_67 (h_room (by decide)) nl_19 zk_19 (by decide) rfl rfl rfl (Nat.le_of_ble_eq_true rfl) ?_
  exact k1
set_option maxHeartbeats 1000000 in
set_option maxRecDepth 20000 in
theorem sg_X7_readLine_6 {E : HEn} {d : Nat} {Q : Option Value → HIh → Prop} {I : HIh} {s0 : Int32}
    (k1 : s0 = 0 → HCall E me_X7_readWord (d + 4) [.ref 19, .ref 1001] I (fun v9 J => HGo E (mF E (d + 5) Q) me_X7_readLine 20 [(0, .ref 19)] (v9.toList ++ []) J))
    (k2 : ¬ s0 = 0 → HCall E me_X7_readCoins (d + 4) [.ref 19] I (fun v9 J => HGo E (mF E (d + 5) Q) me_X7_readLine 13 [] (v9.toList ++ []) J))
    : HGo E (mF E (d + 5) Q) me_X7_readLine 6 [(0, .ref 19)] [.int s0] I := by
  refine h_if_eq (tgt := 14) dX7_readLine_6 (by decide) (fun c1 => ?_) (fun c1 => ?_)
  ·
    refine h_aload_n dX7_readLine_14 rfl 0 rfl ?_
    refine h_ldcS 1 dX7_readLine_15 rfl rfl (by decide) ?_
    refine h_invV (As := [.ref 1001]) (st := []) dX7_readLine_17 lk_X7_67 (h_room (by decide)) nl_19 zk_19 (by decide) rfl rfl rfl (Nat.le_of_ble_eq_true rfl) ?_
    exact k1 c1
  ·
    refine h_aload_n dX7_readLine_9 rfl 0 rfl ?_
    refine h_pick [] [] rfl ?_
    refine h_invV (As := []) (st := []) dX7_readLine_10 lk_X7_71 (h_room (by decide)) nl_19 zk_19 (by decide) rfl rfl rfl (Nat.le_of_ble_eq_true rfl) ?_
    exact k2 c1
set_option maxHeartbeats 1000000 in
set_option maxRecDepth 20000 in
theorem sg_X7_readLine_20 {E : HEn} {d : Nat} {Q : Option Value → HIh → Prop} {I : HIh} {s0 : Int32}
    (k1 : s0 = 0 → HCall E me_X7_readWord (d + 4) [.ref 19, .ref 1002] I (fun v9 J => HGo E (mF E (d + 5) Q) me_X7_readLine 35 [(0, .ref 19)] (v9.toList ++ []) J))
    (k2 : ¬ s0 = 0 → HCall E me_X7_readAmount (d + 4) [.ref 19, .int 4] I (fun v9 J => HGo E (mF E (d + 5) Q) me_X7_readLine 28 [] (v9.toList ++ []) J))
    : HGo E (mF E (d + 5) Q) me_X7_readLine 20 [(0, .ref 19)] [.int s0] I := by
  refine h_if_eq (tgt := 29) dX7_readLine_20 (by decide) (fun c1 => ?_) (fun c1 => ?_)
  ·
    refine h_aload_n dX7_readLine_29 rfl 0 rfl ?_
    refine h_ldcS 2 dX7_readLine_30 rfl rfl (by decide) ?_
    refine h_invV (As := [.ref 1002]) (st := []) dX7_readLine_32 lk_X7_67 (h_room (by decide)) nl_19 zk_19 (by decide) rfl rfl rfl (Nat.le_of_ble_eq_true rfl) ?_
    exact k1 c1
  ·
    refine h_aload_n dX7_readLine_23 rfl 0 rfl ?_
    refine h_iconst (v := 4) dX7_readLine_24 (by decide) ?_
    refine h_pick [] [] rfl ?_
    refine h_invV (As := [.int 4]) (st := []) dX7_readLine_25 lk_X7_76 (h_room (by decide)) nl_19 zk_19 (by decide) rfl rfl rfl (Nat.le_of_ble_eq_true rfl) ?_
    exact k2 c1
set_option maxHeartbeats 1000000 in
set_option maxRecDepth 20000 in
theorem sg_X7_readLine_13 {E : HEn} {d : Nat} {Q : Option Value → HIh → Prop} {I : HIh} {s0 : Int32}
    (k1 : vp_nar .boolean s0 = s0)
    (k2 : Q (some (.int s0)) I)
    : HGo E (mF E (d + 5) Q) me_X7_readLine 13 [] [.int s0] I := by
  exact h_zret dX7_readLine_13 rfl (k1) (k2)
set_option maxHeartbeats 1000000 in
set_option maxRecDepth 20000 in
theorem sg_X7_readLine_35 {E : HEn} {d : Nat} {Q : Option Value → HIh → Prop} {I : HIh} {s0 : Int32}
    (k1 : s0 = 0 → HCall E me_X7_readWord (d + 4) [.ref 19, .ref 1003] I (fun v9 J => HGo E (mF E (d + 5) Q) me_X7_readLine 70 [(0, .ref 19)] (v9.toList ++ []) J))
    (k2 : ¬ s0 = 0 → HCall E me_X7_readNumber (d + 4) [.ref 19, .int 0, .int 3] I (fun v9 J => HGo E (mF E (d + 5) Q) me_X7_readLine 44 [(0, .ref 19)] (v9.toList ++ []) J))
    : HGo E (mF E (d + 5) Q) me_X7_readLine 35 [(0, .ref 19)] [.int s0] I := by
  refine h_if_eq (tgt := 64) dX7_readLine_35 (by decide) (fun c1 => ?_) (fun c1 => ?_)
  ·
    refine h_aload_n dX7_readLine_64 rfl 0 rfl ?_
    refine h_ldcS 3 dX7_readLine_65 rfl rfl (by decide) ?_
    refine h_invV (As := [.ref 1003]) (st := []) dX7_readLine_67 lk_X7_67 (h_room (by decide)) nl_19 zk_19 (by decide) rfl rfl rfl (Nat.le_of_ble_eq_true rfl) ?_
    exact k1 c1
  ·
    refine h_aload_n dX7_readLine_38 rfl 0 rfl ?_
    refine h_iconst (v := 0) dX7_readLine_39 (by decide) ?_
    refine h_iconst (v := 3) dX7_readLine_40 (by decide) ?_
    refine h_invV (As := [.int 0, .int 3]) (st := []) dX7_readLine_41 lk_X7_82 (h_room (by decide)) nl_19 zk_19 (by decide) rfl rfl rfl (Nat.le_of_ble_eq_true rfl) ?_
    exact k2 c1
set_option maxHeartbeats 1000000 in
set_option maxRecDepth 20000 in
theorem sg_X7_readLine_28 {E : HEn} {d : Nat} {Q : Option Value → HIh → Prop} {I : HIh} {s0 : Int32}
    (k1 : vp_nar .boolean s0 = s0)
    (k2 : Q (some (.int s0)) I)
    : HGo E (mF E (d + 5) Q) me_X7_readLine 28 [] [.int s0] I := by
  exact h_zret dX7_readLine_28 rfl (k1) (k2)
set_option maxHeartbeats 1000000 in
set_option maxRecDepth 20000 in
theorem sg_X7_readLine_70 {E : HEn} {d : Nat} {Q : Option Value → HIh → Prop} {I : HIh} {s0 : Int32}
    (k1 : s0 = 0 → HCall E me_X7_readWord (d + 4) [.ref 19, .ref 1004] I (fun v9 J => HGo E (mF E (d + 5) Q) me_X7_readLine 85 [(0, .ref 19)] (v9.toList ++ []) J))
    (k2 : ¬ s0 = 0 → HCall E me_X7_readHabit (d + 4) [.ref 19, .int 0] I (fun v9 J => HGo E (mF E (d + 5) Q) me_X7_readLine 78 [] (v9.toList ++ []) J))
    : HGo E (mF E (d + 5) Q) me_X7_readLine 70 [(0, .ref 19)] [.int s0] I := by
  refine h_if_eq (tgt := 79) dX7_readLine_70 (by decide) (fun c1 => ?_) (fun c1 => ?_)
  ·
    refine h_aload_n dX7_readLine_79 rfl 0 rfl ?_
    refine h_ldcS 4 dX7_readLine_80 rfl rfl (by decide) ?_
    refine h_invV (As := [.ref 1004]) (st := []) dX7_readLine_82 lk_X7_67 (h_room (by decide)) nl_19 zk_19 (by decide) rfl rfl rfl (Nat.le_of_ble_eq_true rfl) ?_
    exact k1 c1
  ·
    refine h_aload_n dX7_readLine_73 rfl 0 rfl ?_
    refine h_iconst (v := 0) dX7_readLine_74 (by decide) ?_
    refine h_pick [] [] rfl ?_
    refine h_invV (As := [.int 0]) (st := []) dX7_readLine_75 lk_X7_91 (h_room (by decide)) nl_19 zk_19 (by decide) rfl rfl rfl (Nat.le_of_ble_eq_true rfl) ?_
    exact k2 c1
set_option maxHeartbeats 1000000 in
set_option maxRecDepth 20000 in
theorem sg_X7_readLine_44 {E : HEn} {d : Nat} {Q : Option Value → HIh → Prop} {I : HIh} {s0 : Int32}
    (k1 : s0 = 0 → Q (some (.int 0)) I)
    (k2 : ¬ s0 = 0 → HCall E me_X7_readAmount (d + 4) [.ref 19, .int (I 19 7)] I (fun v9 J => HGo E (mF E (d + 5) Q) me_X7_readLine 55 [] (v9.toList ++ []) J))
    : HGo E (mF E (d + 5) Q) me_X7_readLine 44 [(0, .ref 19)] [.int s0] I := by
  refine h_if_eq (tgt := 62) dX7_readLine_44 (by decide) (fun c1 => ?_) (fun c1 => ?_)
  ·
    refine h_iconst (v := 0) dX7_readLine_62 (by decide) ?_
    exact h_zret dX7_readLine_63 rfl rfl (k1 c1)
  ·
    refine h_aload_n dX7_readLine_47 rfl 0 rfl ?_
    refine h_aload_n dX7_readLine_48 rfl 0 rfl ?_
    refine gf_6_7 dX7_readLine_49 hl_X7_86 nl_19 zk_19 ?_
    refine h_pick [] [] rfl ?_
    refine h_invV (As := [.int (I 19 7)]) (st := []) dX7_readLine_52 lk_X7_76 (h_room (by decide)) nl_19 zk_19 (by decide) rfl rfl rfl (Nat.le_of_ble_eq_true rfl) ?_
    exact k2 c1
set_option maxHeartbeats 1000000 in
set_option maxRecDepth 20000 in
theorem sg_X7_readLine_85 {E : HEn} {d : Nat} {Q : Option Value → HIh → Prop} {I : HIh} {s0 : Int32}
    (k1 : s0 = 0 → HCall E me_X7_readWord (d + 4) [.ref 19, .ref 1005] I (fun v9 J => HGo E (mF E (d + 5) Q) me_X7_readLine 100 [(0, .ref 19)] (v9.toList ++ []) J))
    (k2 : ¬ s0 = 0 → HCall E me_X7_readHabit (d + 4) [.ref 19, .int 1] I (fun v9 J => HGo E (mF E (d + 5) Q) me_X7_readLine 93 [] (v9.toList ++ []) J))
    : HGo E (mF E (d + 5) Q) me_X7_readLine 85 [(0, .ref 19)] [.int s0] I := by
  refine h_if_eq (tgt := 94) dX7_readLine_85 (by decide) (fun c1 => ?_) (fun c1 => ?_)
  ·
    refine h_aload_n dX7_readLine_94 rfl 0 rfl ?_
    refine h_ldcS 5 dX7_readLine_95 rfl rfl (by decide) ?_
    refine h_invV (As := [.ref 1005]) (st := []) dX7_readLine_97 lk_X7_67 (h_room (by decide)) nl_19 zk_19 (by decide) rfl rfl rfl (Nat.le_of_ble_eq_true rfl) ?_
    exact k1 c1
  ·
    refine h_aload_n dX7_readLine_88 rfl 0 rfl ?_
    refine h_iconst (v := 1) dX7_readLine_89 (by decide) ?_
    refine h_pick [] [] rfl ?_
    refine h_invV (As := [.int 1]) (st := []) dX7_readLine_90 lk_X7_91 (h_room (by decide)) nl_19 zk_19 (by decide) rfl rfl rfl (Nat.le_of_ble_eq_true rfl) ?_
    exact k2 c1
set_option maxHeartbeats 1000000 in
set_option maxRecDepth 20000 in
theorem sg_X7_readLine_78 {E : HEn} {d : Nat} {Q : Option Value → HIh → Prop} {I : HIh} {s0 : Int32}
    (k1 : vp_nar .boolean s0 = s0)
    (k2 : Q (some (.int s0)) I)
    : HGo E (mF E (d + 5) Q) me_X7_readLine 78 [] [.int s0] I := by
  exact h_zret dX7_readLine_78 rfl (k1) (k2)
set_option maxHeartbeats 1000000 in
set_option maxRecDepth 20000 in
theorem sg_X7_readLine_55 {E : HEn} {d : Nat} {Q : Option Value → HIh → Prop} {I : HIh} {s0 : Int32}
    (k1 : s0 = 0 → Q (some (.int 0)) I)
    (k2 : ¬ s0 = 0 → Q (some (.int 1)) I)
    : HGo E (mF E (d + 5) Q) me_X7_readLine 55 [] [.int s0] I := by
  refine h_if_eq (tgt := 62) dX7_readLine_55 (by decide) (fun c1 => ?_) (fun c1 => ?_)
  ·
    refine h_iconst (v := 0) dX7_readLine_62 (by decide) ?_
    exact h_zret dX7_readLine_63 rfl rfl (k1 c1)
  ·
    refine h_iconst (v := 1) dX7_readLine_58 (by decide) ?_
    refine h_goto (tgt := 63) dX7_readLine_59 (by decide) ?_
    exact h_zret dX7_readLine_63 rfl rfl (k2 c1)
set_option maxHeartbeats 1000000 in
set_option maxRecDepth 20000 in
theorem sg_X7_readLine_100 {E : HEn} {d : Nat} {Q : Option Value → HIh → Prop} {I : HIh} {s0 : Int32}
    (k1 : s0 = 0 → HCall E me_X7_readWord (d + 4) [.ref 19, .ref 1006] I (fun v9 J => HGo E (mF E (d + 5) Q) me_X7_readLine 114 [(0, .ref 19)] (v9.toList ++ []) J))
    (k2 : ¬ s0 = 0 → HCall E me_X7_readWaiting (d + 4) [.ref 19] I (fun v9 J => HGo E (mF E (d + 5) Q) me_X7_readLine 107 [] (v9.toList ++ []) J))
    : HGo E (mF E (d + 5) Q) me_X7_readLine 100 [(0, .ref 19)] [.int s0] I := by
  refine h_if_eq (tgt := 108) dX7_readLine_100 (by decide) (fun c1 => ?_) (fun c1 => ?_)
  ·
    refine h_aload_n dX7_readLine_108 rfl 0 rfl ?_
    refine h_ldcS 6 dX7_readLine_109 rfl rfl (by decide) ?_
    refine h_invV (As := [.ref 1006]) (st := []) dX7_readLine_111 lk_X7_67 (h_room (by decide)) nl_19 zk_19 (by decide) rfl rfl rfl (Nat.le_of_ble_eq_true rfl) ?_
    exact k1 c1
  ·
    refine h_aload_n dX7_readLine_103 rfl 0 rfl ?_
    refine h_pick [] [] rfl ?_
    refine h_invV (As := []) (st := []) dX7_readLine_104 lk_X7_98 (h_room (by decide)) nl_19 zk_19 (by decide) rfl rfl rfl (Nat.le_of_ble_eq_true rfl) ?_
    exact k2 c1
set_option maxHeartbeats 1000000 in
set_option maxRecDepth 20000 in
theorem sg_X7_readLine_93 {E : HEn} {d : Nat} {Q : Option Value → HIh → Prop} {I : HIh} {s0 : Int32}
    (k1 : vp_nar .boolean s0 = s0)
    (k2 : Q (some (.int s0)) I)
    : HGo E (mF E (d + 5) Q) me_X7_readLine 93 [] [.int s0] I := by
  exact h_zret dX7_readLine_93 rfl (k1) (k2)
set_option maxHeartbeats 1000000 in
set_option maxRecDepth 20000 in
theorem sg_X7_readLine_114 {E : HEn} {d : Nat} {Q : Option Value → HIh → Prop} {I : HIh} {s0 : Int32}
    (k1 : s0 = 0 → HCall E me_X7_readWord (d + 4) [.ref 19, .ref 1007] I (fun v9 J => HGo E (mF E (d + 5) Q) me_X7_readLine 129 [(0, .ref 19)] (v9.toList ++ []) J))
    (k2 : ¬ s0 = 0 → HCall E me_X7_readHabit (d + 4) [.ref 19, .int 3] I (fun v9 J => HGo E (mF E (d + 5) Q) me_X7_readLine 122 [] (v9.toList ++ []) J))
    : HGo E (mF E (d + 5) Q) me_X7_readLine 114 [(0, .ref 19)] [.int s0] I := by
  refine h_if_eq (tgt := 123) dX7_readLine_114 (by decide) (fun c1 => ?_) (fun c1 => ?_)
  ·
    refine h_aload_n dX7_readLine_123 rfl 0 rfl ?_
    refine h_ldcS 7 dX7_readLine_124 rfl rfl (by decide) ?_
    refine h_invV (As := [.ref 1007]) (st := []) dX7_readLine_126 lk_X7_67 (h_room (by decide)) nl_19 zk_19 (by decide) rfl rfl rfl (Nat.le_of_ble_eq_true rfl) ?_
    exact k1 c1
  ·
    refine h_aload_n dX7_readLine_117 rfl 0 rfl ?_
    refine h_iconst (v := 3) dX7_readLine_118 (by decide) ?_
    refine h_pick [] [] rfl ?_
    refine h_invV (As := [.int 3]) (st := []) dX7_readLine_119 lk_X7_91 (h_room (by decide)) nl_19 zk_19 (by decide) rfl rfl rfl (Nat.le_of_ble_eq_true rfl) ?_
    exact k2 c1
set_option maxHeartbeats 1000000 in
set_option maxRecDepth 20000 in
theorem sg_X7_readLine_107 {E : HEn} {d : Nat} {Q : Option Value → HIh → Prop} {I : HIh} {s0 : Int32}
    (k1 : vp_nar .boolean s0 = s0)
    (k2 : Q (some (.int s0)) I)
    : HGo E (mF E (d + 5) Q) me_X7_readLine 107 [] [.int s0] I := by
  exact h_zret dX7_readLine_107 rfl (k1) (k2)
set_option maxHeartbeats 1000000 in
set_option maxRecDepth 20000 in
theorem sg_X7_readLine_129 {E : HEn} {d : Nat} {Q : Option Value → HIh → Prop} {I : HIh} {s0 : Int32}
    (k1 : s0 = 0 → HCall E me_X7_readWord (d + 4) [.ref 19, .ref 1008] I (fun v9 J => HGo E (mF E (d + 5) Q) me_X7_readLine 143 [(0, .ref 19)] (v9.toList ++ []) J))
    (k2 : ¬ s0 = 0 → HCall E me_X7_readVisits (d + 4) [.ref 19] I (fun v9 J => HGo E (mF E (d + 5) Q) me_X7_readLine 136 [] (v9.toList ++ []) J))
    : HGo E (mF E (d + 5) Q) me_X7_readLine 129 [(0, .ref 19)] [.int s0] I := by
  refine h_if_eq (tgt := 137) dX7_readLine_129 (by decide) (fun c1 => ?_) (fun c1 => ?_)
  ·
    refine h_aload_n dX7_readLine_137 rfl 0 rfl ?_
    refine h_ldcS 8 dX7_readLine_138 rfl rfl (by decide) ?_
    refine h_invV (As := [.ref 1008]) (st := []) dX7_readLine_140 lk_X7_67 (h_room (by decide)) nl_19 zk_19 (by decide) rfl rfl rfl (Nat.le_of_ble_eq_true rfl) ?_
    exact k1 c1
  ·
    refine h_aload_n dX7_readLine_132 rfl 0 rfl ?_
    refine h_pick [] [] rfl ?_
    refine h_invV (As := []) (st := []) dX7_readLine_133 lk_X7_105 (h_room (by decide)) nl_19 zk_19 (by decide) rfl rfl rfl (Nat.le_of_ble_eq_true rfl) ?_
    exact k2 c1
set_option maxHeartbeats 1000000 in
set_option maxRecDepth 20000 in
theorem sg_X7_readLine_122 {E : HEn} {d : Nat} {Q : Option Value → HIh → Prop} {I : HIh} {s0 : Int32}
    (k1 : vp_nar .boolean s0 = s0)
    (k2 : Q (some (.int s0)) I)
    : HGo E (mF E (d + 5) Q) me_X7_readLine 122 [] [.int s0] I := by
  exact h_zret dX7_readLine_122 rfl (k1) (k2)
set_option maxHeartbeats 1000000 in
set_option maxRecDepth 20000 in
theorem sg_X7_readLine_143 {E : HEn} {d : Nat} {Q : Option Value → HIh → Prop} {I : HIh} {s0 : Int32}
    (k1 : s0 = 0 → HCall E me_X7_readWord (d + 4) [.ref 19, .ref 1009] I (fun v9 J => HGo E (mF E (d + 5) Q) me_X7_readLine 157 [(0, .ref 19)] (v9.toList ++ []) J))
    (k2 : ¬ s0 = 0 → HCall E me_X7_readLaw (d + 4) [.ref 19] I (fun v9 J => HGo E (mF E (d + 5) Q) me_X7_readLine 150 [] (v9.toList ++ []) J))
    : HGo E (mF E (d + 5) Q) me_X7_readLine 143 [(0, .ref 19)] [.int s0] I := by
  refine h_if_eq (tgt := 151) dX7_readLine_143 (by decide) (fun c1 => ?_) (fun c1 => ?_)
  ·
    refine h_aload_n dX7_readLine_151 rfl 0 rfl ?_
    refine h_ldcS 9 dX7_readLine_152 rfl rfl (by decide) ?_
    refine h_invV (As := [.ref 1009]) (st := []) dX7_readLine_154 lk_X7_67 (h_room (by decide)) nl_19 zk_19 (by decide) rfl rfl rfl (Nat.le_of_ble_eq_true rfl) ?_
    exact k1 c1
  ·
    refine h_aload_n dX7_readLine_146 rfl 0 rfl ?_
    refine h_pick [] [] rfl ?_
    refine h_invV (As := []) (st := []) dX7_readLine_147 lk_X7_110 (h_room (by decide)) nl_19 zk_19 (by decide) rfl rfl rfl (Nat.le_of_ble_eq_true rfl) ?_
    exact k2 c1
set_option maxHeartbeats 1000000 in
set_option maxRecDepth 20000 in
theorem sg_X7_readLine_136 {E : HEn} {d : Nat} {Q : Option Value → HIh → Prop} {I : HIh} {s0 : Int32}
    (k1 : vp_nar .boolean s0 = s0)
    (k2 : Q (some (.int s0)) I)
    : HGo E (mF E (d + 5) Q) me_X7_readLine 136 [] [.int s0] I := by
  exact h_zret dX7_readLine_136 rfl (k1) (k2)
set_option maxHeartbeats 1000000 in
set_option maxRecDepth 20000 in
theorem sg_X7_readLine_157 {E : HEn} {d : Nat} {Q : Option Value → HIh → Prop} {I : HIh} {s0 : Int32}
    (k1 : s0 = 0 → Q (some (.int 0)) I)
    (k2 : ¬ s0 = 0 → HCall E me_X7_leaveAlone (d + 4) [.ref 19] I (fun v9 J => HGo E (mF E (d + 5) Q) me_X7_readLine 164 [] (v9.toList ++ []) J))
    : HGo E (mF E (d + 5) Q) me_X7_readLine 157 [(0, .ref 19)] [.int s0] I := by
  refine h_if_eq (tgt := 171) dX7_readLine_157 (by decide) (fun c1 => ?_) (fun c1 => ?_)
  ·
    refine h_iconst (v := 0) dX7_readLine_171 (by decide) ?_
    exact h_zret dX7_readLine_172 rfl rfl (k1 c1)
  ·
    refine h_aload_n dX7_readLine_160 rfl 0 rfl ?_
    refine h_pick [] [] rfl ?_
    refine h_invV (As := []) (st := []) dX7_readLine_161 lk_X7_115 (h_room (by decide)) nl_19 zk_19 (by decide) rfl rfl rfl (Nat.le_of_ble_eq_true rfl) ?_
    exact k2 c1
set_option maxHeartbeats 1000000 in
set_option maxRecDepth 20000 in
theorem sg_X7_readLine_150 {E : HEn} {d : Nat} {Q : Option Value → HIh → Prop} {I : HIh} {s0 : Int32}
    (k1 : vp_nar .boolean s0 = s0)
    (k2 : Q (some (.int s0)) I)
    : HGo E (mF E (d + 5) Q) me_X7_readLine 150 [] [.int s0] I := by
  exact h_zret dX7_readLine_150 rfl (k1) (k2)
set_option maxHeartbeats 1000000 in
set_option maxRecDepth 20000 in
theorem sg_X7_readLine_164 {E : HEn} {d : Nat} {Q : Option Value → HIh → Prop} {I : HIh} {s0 : Int32}
    (k1 : s0 = 0 → Q (some (.int 0)) I)
    (k2 : ¬ s0 = 0 → Q (some (.int 1)) I)
    : HGo E (mF E (d + 5) Q) me_X7_readLine 164 [] [.int s0] I := by
  refine h_if_eq (tgt := 171) dX7_readLine_164 (by decide) (fun c1 => ?_) (fun c1 => ?_)
  ·
    refine h_iconst (v := 0) dX7_readLine_171 (by decide) ?_
    exact h_zret dX7_readLine_172 rfl rfl (k1 c1)
  ·
    refine h_iconst (v := 1) dX7_readLine_167 (by decide) ?_
    refine h_goto (tgt := 172) dX7_readLine_168 (by decide) ?_
    exact h_zret dX7_readLine_172 rfl rfl (k2 c1)
set_option maxHeartbeats 1000000 in
set_option maxRecDepth 20000 in
theorem sg_X2_playOn_0 {E : HEn} {d : Nat} {Q : Option Value → HIh → Prop} {I : HIh} {h : Nat} {v : Int32} (a_h : h < NL) (b_h : Zk h = 3) (hs_h : Zp 33 v.toNatClampNeg = h)
    (k1 : v < 0 → Q none I)
    (k2 : ¬ v < 0 → v < 11 → vp_in v 11)
    (k3 : ¬ v < 0 → v < 11 → HGo E (mF E (d + 10) Q) me_X2_playOn 23 [(0, .ref 32), (1, .int v), (2, .ref h), (3, .int (I h 1))] [] I)
    (k4 : ¬ v < 0 → ¬ v < 11 → Q none I)
    : HGo E (mF E (d + 10) Q) me_X2_playOn 0 [(0, .ref 32), (1, .int v)] [] I := by
  refine h_iload_n dX2_playOn_0 rfl 1 rfl ?_
  refine h_if_lt (tgt := 10) dX2_playOn_1 (by decide) (fun c1 => ?_) (fun c1 => ?_)
  ·
    exact h_vret dX2_playOn_10 rfl (k1 c1)
  ·
    refine h_iload_n dX2_playOn_4 rfl 1 rfl ?_
    refine h_bipush (v := 11) dX2_playOn_5 (by decide) ?_
    refine h_icmp_lt (tgt := 11) dX2_playOn_7 (by decide) (fun c2 => ?_) (fun c2 => ?_)
    ·
      refine h_aload_n dX2_playOn_11 rfl 0 rfl ?_
      refine gf_1_1 dX2_playOn_12 hl_X2_13 nl_32 zk_32 zp_32_1 ?_
      refine h_iload_n dX2_playOn_15 rfl 1 rfl ?_
      refine h_aald13z dX2_playOn_16 nl_33 zk_33 (by rw [zn_33]; exact k2 c1 c2) hs_h ?_
      refine h_astore_n (L' := [(2, .ref h), (0, .ref 32), (1, .int v)]) dX2_playOn_17 rfl (by decide) rfl ?_
      refine h_aload_n dX2_playOn_18 rfl 0 rfl ?_
      refine gf_3_1 dX2_playOn_19 hl_X2_37 a_h b_h ?_
      refine h_istore_n (L' := [(3, .int (I h 1)), (2, .ref h), (0, .ref 32), (1, .int v)]) dX2_playOn_22 rfl (by decide) rfl ?_
      refine h_pick [2, 3, 1, 0] [(0, .ref 32), (1, .int v), (2, .ref h), (3, .int (I h 1))] rfl ?_
      exact k3 c1 c2
    ·
      exact h_vret dX2_playOn_10 rfl (k4 c1 c2)
set_option maxHeartbeats 1000000 in
set_option maxRecDepth 20000 in
theorem sg_X2_playOn_23 {E : HEn} {d : Nat} {Q : Option Value → HIh → Prop} {I : HIh} {h : Nat} {x1 : Int32} {x3 : Int32} (a_h : h < NL) (b_h : Zk h = 3)
    (k1 : (I 1 10) ≤ x3 → (I 1 10) ≤ (I h 1) → HCall E me_X2_settle (d + 9) [.ref 32, .int x1] I (fun v9 J => HGo E (mF E (d + 10) Q) me_X2_playOn 98 [] (v9.toList ++ []) J))
    (k2 : (I 1 10) ≤ x3 → ¬ (I 1 10) ≤ (I h 1) → (x1 + 1) < 11 → HCall E me_X2_comesAgain (d + 9) [.ref 32, .int (fVis (I 1 10) (I 9) (I h 1)), .int (I h 1)] I (fun v9 J => HGo E (mF E (d + 10) Q) me_X2_playOn 120 [(0, .ref 32), (1, .int x1), (2, .ref h), (3, .int (fVis (I 1 10) (I 9) (I h 1)))] (v9.toList ++ []) J))
    (k3 : (I 1 10) ≤ x3 → ¬ (I 1 10) ≤ (I h 1) → ¬ (x1 + 1) < 11 → HCall E me_X2_settle (d + 9) [.ref 32, .int x1] I (fun v9 J => HGo E (mF E (d + 10) Q) me_X2_playOn 98 [] (v9.toList ++ []) J))
    (k4 : ¬ (I 1 10) ≤ x3 → ¬ (fFree (I 32 4) (fVis (I 1 10) (I 9) x3)) = 0 → (I 1 10) ≤ (I h 1) → HCall E me_X2_settle (d + 9) [.ref 32, .int x1] I (fun v9 J => HGo E (mF E (d + 10) Q) me_X2_playOn 98 [] (v9.toList ++ []) J))
    (k5 : ¬ (I 1 10) ≤ x3 → ¬ (fFree (I 32 4) (fVis (I 1 10) (I 9) x3)) = 0 → ¬ (I 1 10) ≤ (I h 1) → (x1 + 1) < 11 → HCall E me_X2_comesAgain (d + 9) [.ref 32, .int (fVis (I 1 10) (I 9) (I h 1)), .int (I h 1)] I (fun v9 J => HGo E (mF E (d + 10) Q) me_X2_playOn 120 [(0, .ref 32), (1, .int x1), (2, .ref h), (3, .int (fVis (I 1 10) (I 9) (I h 1)))] (v9.toList ++ []) J))
    (k6 : ¬ (I 1 10) ≤ x3 → ¬ (fFree (I 32 4) (fVis (I 1 10) (I 9) x3)) = 0 → ¬ (I 1 10) ≤ (I h 1) → ¬ (x1 + 1) < 11 → HCall E me_X2_settle (d + 9) [.ref 32, .int x1] I (fun v9 J => HGo E (mF E (d + 10) Q) me_X2_playOn 98 [] (v9.toList ++ []) J))
    (k7 : ¬ (I 1 10) ≤ x3 → (fFree (I 32 4) (fVis (I 1 10) (I 9) x3)) = 0 → HCall E me_X9_habitual (d + 9) [.ref 1, .ref h] I (fun v9 J => HGo E (mF E (d + 10) Q) me_X2_playOn 62 [(0, .ref 32), (1, .int x1), (2, .ref h), (3, .int x3)] (v9.toList ++ [.ref h, .ref 1]) J))
    : HGo E (mF E (d + 10) Q) me_X2_playOn 23 [(0, .ref 32), (1, .int x1), (2, .ref h), (3, .int x3)] [] I := by
  refine h_iload_n dX2_playOn_23 rfl 3 rfl ?_
  refine h_aload_n dX2_playOn_24 rfl 0 rfl ?_
  refine gf_1_0 dX2_playOn_25 hl_X2_29 nl_32 zk_32 zp_32_0 ?_
  refine gf_7_10 dX2_playOn_28 hl_X2_40 nl_1 zk_1 ?_
  refine h_icmp_ge (tgt := 71) dX2_playOn_31 (by decide) (fun c1 => ?_) (fun c1 => ?_)
  ·
    refine h_aload_n dX2_playOn_71 rfl 2 rfl ?_
    refine gf_3_1 dX2_playOn_72 hl_X2_37 a_h b_h ?_
    refine h_aload_n dX2_playOn_75 rfl 0 rfl ?_
    refine gf_1_0 dX2_playOn_76 hl_X2_29 nl_32 zk_32 zp_32_0 ?_
    refine gf_7_10 dX2_playOn_79 hl_X2_40 nl_1 zk_1 ?_
    refine h_icmp_ge (tgt := 93) dX2_playOn_82 (by decide) (fun c2 => ?_) (fun c2 => ?_)
    ·
      refine h_aload_n dX2_playOn_93 rfl 0 rfl ?_
      refine h_iload_n dX2_playOn_94 rfl 1 rfl ?_
      refine h_pick [] [] rfl ?_
      refine h_invV (As := [.int x1]) (st := []) dX2_playOn_95 lk_X2_75 (h_room (by decide)) nl_32 zk_32 (by decide) rfl rfl rfl (Nat.le_of_ble_eq_true rfl) ?_
      exact k1 c1 c2
    ·
      refine h_iload_n dX2_playOn_85 rfl 1 rfl ?_
      refine h_iconst (v := 1) dX2_playOn_86 (by decide) ?_
      refine h_iadd dX2_playOn_87 ?_
      refine h_bipush (v := 11) dX2_playOn_88 (by decide) ?_
      refine h_icmp_lt (tgt := 99) dX2_playOn_90 (by decide) (fun c3 => ?_) (fun c3 => ?_)
      ·
        refine h_aload_n dX2_playOn_99 rfl 0 rfl ?_
        refine gf_1_0 dX2_playOn_100 hl_X2_29 nl_32 zk_32 zp_32_0 ?_
        refine h_aload_n dX2_playOn_103 rfl 2 rfl ?_
        refine gf_3_1 dX2_playOn_104 hl_X2_37 a_h b_h ?_
        refine h_invV (As := [.int (I h 1)]) (st := []) dX2_playOn_107 lk_X2_45 (h_room (by decide)) nl_1 zk_1 (by decide) rfl rfl rfl (Nat.le_of_ble_eq_true rfl) ?_
        refine c_X9_visitor ?_
        refine h_istore_n (L' := [(3, .int (fVis (I 1 10) (I 9) (I h 1))), (0, .ref 32), (1, .int x1), (2, .ref h)]) dX2_playOn_110 rfl (by decide) rfl ?_
        refine h_aload_n dX2_playOn_111 rfl 1 rfl ?_
        refine h_iload_n dX2_playOn_112 rfl 0 rfl ?_
        refine h_aload_n dX2_playOn_113 rfl 3 rfl ?_
        refine gf_3_1 dX2_playOn_114 hl_X2_37 a_h b_h ?_
        refine h_pick [1, 2, 3, 0] [(0, .ref 32), (1, .int x1), (2, .ref h), (3, .int (fVis (I 1 10) (I 9) (I h 1)))] rfl ?_
        refine h_invV (As := [.int (fVis (I 1 10) (I 9) (I h 1)), .int (I h 1)]) (st := []) dX2_playOn_117 lk_X2_79 (h_room (by decide)) nl_32 zk_32 (by decide) rfl rfl rfl (Nat.le_of_ble_eq_true rfl) ?_
        exact k2 c1 c2 c3
      ·
        refine h_aload_n dX2_playOn_93 rfl 0 rfl ?_
        refine h_iload_n dX2_playOn_94 rfl 1 rfl ?_
        refine h_pick [] [] rfl ?_
        refine h_invV (As := [.int x1]) (st := []) dX2_playOn_95 lk_X2_75 (h_room (by decide)) nl_32 zk_32 (by decide) rfl rfl rfl (Nat.le_of_ble_eq_true rfl) ?_
        exact k3 c1 c2 c3
  ·
    refine h_aload_n dX2_playOn_34 rfl 0 rfl ?_
    refine h_aload_n dX2_playOn_35 rfl 0 rfl ?_
    refine gf_1_0 dX2_playOn_36 hl_X2_29 nl_32 zk_32 zp_32_0 ?_
    refine h_iload_n dX2_playOn_39 rfl 3 rfl ?_
    refine h_invV (As := [.int x3]) (st := [.ref 32]) dX2_playOn_40 lk_X2_45 (h_room (by decide)) nl_1 zk_1 (by decide) rfl rfl rfl (Nat.le_of_ble_eq_true rfl) ?_
    refine c_X9_visitor ?_
    refine h_invV (As := [.int (fVis (I 1 10) (I 9) x3)]) (st := []) dX2_playOn_43 lk_X2_49 (h_room (by decide)) nl_32 zk_32 (by decide) rfl rfl rfl (Nat.le_of_ble_eq_true rfl) ?_
    refine c_X2_isFree ?_
    refine h_if_ne (tgt := 71) dX2_playOn_46 (by decide) (fun c4 => ?_) (fun c4 => ?_)
    ·
      refine h_aload_n dX2_playOn_71 rfl 2 rfl ?_
      refine gf_3_1 dX2_playOn_72 hl_X2_37 a_h b_h ?_
      refine h_aload_n dX2_playOn_75 rfl 0 rfl ?_
      refine gf_1_0 dX2_playOn_76 hl_X2_29 nl_32 zk_32 zp_32_0 ?_
      refine gf_7_10 dX2_playOn_79 hl_X2_40 nl_1 zk_1 ?_
      refine h_icmp_ge (tgt := 93) dX2_playOn_82 (by decide) (fun c5 => ?_) (fun c5 => ?_)
      ·
        refine h_aload_n dX2_playOn_93 rfl 0 rfl ?_
        refine h_iload_n dX2_playOn_94 rfl 1 rfl ?_
        refine h_pick [] [] rfl ?_
        refine h_invV (As := [.int x1]) (st := []) dX2_playOn_95 lk_X2_75 (h_room (by decide)) nl_32 zk_32 (by decide) rfl rfl rfl (Nat.le_of_ble_eq_true rfl) ?_
        exact k4 c1 c4 c5
      ·
        refine h_iload_n dX2_playOn_85 rfl 1 rfl ?_
        refine h_iconst (v := 1) dX2_playOn_86 (by decide) ?_
        refine h_iadd dX2_playOn_87 ?_
        refine h_bipush (v := 11) dX2_playOn_88 (by decide) ?_
        refine h_icmp_lt (tgt := 99) dX2_playOn_90 (by decide) (fun c6 => ?_) (fun c6 => ?_)
        ·
          refine h_aload_n dX2_playOn_99 rfl 0 rfl ?_
          refine gf_1_0 dX2_playOn_100 hl_X2_29 nl_32 zk_32 zp_32_0 ?_
          refine h_aload_n dX2_playOn_103 rfl 2 rfl ?_
          refine gf_3_1 dX2_playOn_104 hl_X2_37 a_h b_h ?_
          refine h_invV (As := [.int (I h 1)]) (st := []) dX2_playOn_107 lk_X2_45 (h_room (by decide)) nl_1 zk_1 (by decide) rfl rfl rfl (Nat.le_of_ble_eq_true rfl) ?_
          refine c_X9_visitor ?_
          refine h_istore_n (L' := [(3, .int (fVis (I 1 10) (I 9) (I h 1))), (0, .ref 32), (1, .int x1), (2, .ref h)]) dX2_playOn_110 rfl (by decide) rfl ?_
          refine h_aload_n dX2_playOn_111 rfl 1 rfl ?_
          refine h_iload_n dX2_playOn_112 rfl 0 rfl ?_
          refine h_aload_n dX2_playOn_113 rfl 3 rfl ?_
          refine gf_3_1 dX2_playOn_114 hl_X2_37 a_h b_h ?_
          refine h_pick [1, 2, 3, 0] [(0, .ref 32), (1, .int x1), (2, .ref h), (3, .int (fVis (I 1 10) (I 9) (I h 1)))] rfl ?_
          refine h_invV (As := [.int (fVis (I 1 10) (I 9) (I h 1)), .int (I h 1)]) (st := []) dX2_playOn_117 lk_X2_79 (h_room (by decide)) nl_32 zk_32 (by decide) rfl rfl rfl (Nat.le_of_ble_eq_true rfl) ?_
          exact k5 c1 c4 c5 c6
        ·
          refine h_aload_n dX2_playOn_93 rfl 0 rfl ?_
          refine h_iload_n dX2_playOn_94 rfl 1 rfl ?_
          refine h_pick [] [] rfl ?_
          refine h_invV (As := [.int x1]) (st := []) dX2_playOn_95 lk_X2_75 (h_room (by decide)) nl_32 zk_32 (by decide) rfl rfl rfl (Nat.le_of_ble_eq_true rfl) ?_
          exact k6 c1 c4 c5 c6
    ·
      refine h_aload_n dX2_playOn_49 rfl 0 rfl ?_
      refine gf_1_0 dX2_playOn_50 hl_X2_29 nl_32 zk_32 zp_32_0 ?_
      refine h_aload_n dX2_playOn_53 rfl 2 rfl ?_
      refine h_aload_n dX2_playOn_54 rfl 0 rfl ?_
      refine gf_1_0 dX2_playOn_55 hl_X2_29 nl_32 zk_32 zp_32_0 ?_
      refine h_aload_n dX2_playOn_58 rfl 2 rfl ?_
      refine h_invV (As := [.ref h]) (st := [.ref h, .ref 1]) dX2_playOn_59 lk_X2_67 (h_room (by decide)) nl_1 zk_1 (by decide) rfl rfl rfl (Nat.le_of_ble_eq_true rfl) ?_
      exact k7 c1 c4
set_option maxHeartbeats 1000000 in
set_option maxRecDepth 20000 in
theorem sg_X2_playOn_98 {E : HEn} {d : Nat} {Q : Option Value → HIh → Prop} {I : HIh} 
    (k1 : Q none I)
    : HGo E (mF E (d + 10) Q) me_X2_playOn 98 [] [] I := by
  exact h_vret dX2_playOn_98 rfl (k1)
set_option maxHeartbeats 1000000 in
set_option maxRecDepth 20000 in
theorem sg_X2_playOn_120 {E : HEn} {d : Nat} {Q : Option Value → HIh → Prop} {I : HIh} {h : Nat} {x1 : Int32} {x3 : Int32} {s0 : Int32} (a_h : h < NL) (b_h : Zk h = 3)
    (k1 : ¬ s0 = 0 → HGo E (mF E (d + 10) Q) me_X2_playOn 163 [(0, .ref 32), (1, .int x1), (2, .ref h), (3, .int x3), (4, .int 0), (5, .int (-1)), (6, .int (-1)), (7, .int (-1))] [] I)
    (k2 : s0 = 0 → HCall E me_X8_wouldThrow (d + 9) [.ref 3, .ref 1, .ref h, .int x3] I (fun v9 J => HGo E (mF E (d + 10) Q) me_X2_playOn 151 [(0, .ref 32), (1, .int x1), (2, .ref h), (3, .int x3), (4, .int 1)] (v9.toList ++ []) J))
    : HGo E (mF E (d + 10) Q) me_X2_playOn 120 [(0, .ref 32), (1, .int x1), (2, .ref h), (3, .int x3)] [.int s0] I := by
  refine h_if_ne (tgt := 127) dX2_playOn_120 (by decide) (fun c1 => ?_) (fun c1 => ?_)
  ·
    refine h_iconst (v := 0) dX2_playOn_127 (by decide) ?_
    refine h_istore (L' := [(4, .int 0), (0, .ref 32), (1, .int x1), (2, .ref h), (3, .int x3)]) dX2_playOn_128 (by decide) rfl ?_
    refine h_iload dX2_playOn_130 0 rfl ?_
    refine h_if_eq (tgt := 154) dX2_playOn_132 (by decide) (fun _ => ?_) (fun c => absurd c (by decide))
    refine h_iconst (v := (-1)) dX2_playOn_154 (by decide) ?_
    refine h_istore (L' := [(5, .int (-1)), (4, .int 0), (0, .ref 32), (1, .int x1), (2, .ref h), (3, .int x3)]) dX2_playOn_155 (by decide) rfl ?_
    refine h_iconst (v := (-1)) dX2_playOn_157 (by decide) ?_
    refine h_istore (L' := [(6, .int (-1)), (5, .int (-1)), (4, .int 0), (0, .ref 32), (1, .int x1), (2, .ref h), (3, .int x3)]) dX2_playOn_158 (by decide) rfl ?_
    refine h_iconst (v := (-1)) dX2_playOn_160 (by decide) ?_
    refine h_istore (L' := [(7, .int (-1)), (6, .int (-1)), (5, .int (-1)), (4, .int 0), (0, .ref 32), (1, .int x1), (2, .ref h), (3, .int x3)]) dX2_playOn_161 (by decide) rfl ?_
    refine h_pick [4, 5, 6, 7, 3, 2, 1, 0] [(0, .ref 32), (1, .int x1), (2, .ref h), (3, .int x3), (4, .int 0), (5, .int (-1)), (6, .int (-1)), (7, .int (-1))] rfl ?_
    exact k1 c1
  ·
    refine h_iconst (v := 1) dX2_playOn_123 (by decide) ?_
    refine h_goto (tgt := 128) dX2_playOn_124 (by decide) ?_
    refine h_istore (L' := [(4, .int 1), (0, .ref 32), (1, .int x1), (2, .ref h), (3, .int x3)]) dX2_playOn_128 (by decide) rfl ?_
    refine h_iload dX2_playOn_130 0 rfl ?_
    refine h_if_eq (tgt := 154) dX2_playOn_132 (by decide) (fun c => absurd c (by decide)) (fun _ => ?_)
    refine h_aload_n dX2_playOn_135 rfl 1 rfl ?_
    refine gf_1_0 dX2_playOn_136 hl_X2_29 nl_32 zk_32 zp_32_0 ?_
    refine gf_7_1 dX2_playOn_139 hl_X2_83 nl_1 zk_1 zp_1_1 ?_
    refine h_aload_n dX2_playOn_142 rfl 1 rfl ?_
    refine gf_1_0 dX2_playOn_143 hl_X2_29 nl_32 zk_32 zp_32_0 ?_
    refine h_aload_n dX2_playOn_146 rfl 3 rfl ?_
    refine h_iload_n dX2_playOn_147 rfl 4 rfl ?_
    refine h_pick [1, 2, 3, 4, 0] [(0, .ref 32), (1, .int x1), (2, .ref h), (3, .int x3), (4, .int 1)] rfl ?_
    refine h_invU (As := [.ref 1, .ref h, .int x3]) (st := []) dX2_playOn_148 lk_X2_87_X3 (h_room (by decide)) nl_3 zk_3 (by decide) rfl rfl rfl (Nat.le_of_ble_eq_true rfl) ?_
    exact k2 c1
set_option maxHeartbeats 1000000 in
set_option maxRecDepth 20000 in
theorem sg_X2_playOn_62 {E : HEn} {d : Nat} {Q : Option Value → HIh → Prop} {I : HIh} {h : Nat} {x1 : Int32} {x3 : Int32} {s0 : Int32} (a_h : h < NL) (b_h : Zk h = 3)
    (k1 : HCall E me_X9_letVisit (d + 9) [.ref 1, .ref h, .int s0] I (fun v9 J => HGo E (mF E (d + 10) Q) me_X2_playOn 65 [(0, .ref 32), (1, .int x1), (2, .ref h), (3, .int x3)] (v9.toList ++ []) J))
    : HGo E (mF E (d + 10) Q) me_X2_playOn 62 [(0, .ref 32), (1, .int x1), (2, .ref h), (3, .int x3)] [.int s0, .ref h, .ref 1] I := by
  refine h_invV (As := [.ref h, .int s0]) (st := []) dX2_playOn_62 lk_X2_71 (h_room (by decide)) nl_1 zk_1 (by decide) rfl rfl rfl (Nat.le_of_ble_eq_true rfl) ?_
  exact k1
set_option maxHeartbeats 1000000 in
set_option maxRecDepth 20000 in
theorem sg_X2_playOn_163 {E : HEn} {d : Nat} {Q : Option Value → HIh → Prop} {I : HIh} {h c g e : Nat} {x1 : Int32} {x3 : Int32} {x4 : Int32} {x5 : Int32} {x6 : Int32} {x7 : Int32} (a_h : h < NL) (b_h : Zk h = 3) (p_h : Zp h 0 = c) (a_c : c < NL) (b_c : Zk c = 11) (n_c : Zn c = 30) (a_g : g < NL) (b_g : Zk g = 3) (p_g : Zp g 0 = e) (a_e : e < NL) (b_e : Zk e = 11) (n_e : Zn e = 30) (hs_g : Zp 33 (x1 + 1).toNatClampNeg = g)
    (k1 : (I 1 9) ≤ x7 → Q none I)
    (k2 : ¬ (I 1 9) ≤ x7 → x4 = 0 → x7 = (-1) → vp_in (x1 + 1) 11)
    (k3 : ¬ (I 1 9) ≤ x7 → x4 = 0 → x7 = (-1) → HCall E me_X9_letVisit (d + 9) [.ref 1, .ref g, .int x7] (setI (setI I e (va_cpy (I c) (I e) 0 0 30)) g (upd ((setI I e (va_cpy (I c) (I e) 0 0 30)) g) 1 ((setI I e (va_cpy (I c) (I e) 0 0 30)) h 1))) (fun v9 J => HGo E (mF E (d + 10) Q) me_X2_playOn 238 [(0, .ref 32), (1, .int x1), (2, .ref h), (3, .int x3), (4, .int x4), (5, .int x5), (6, .int x6), (7, .int x7)] (v9.toList ++ []) J))
    (k4 : ¬ (I 1 9) ≤ x7 → x4 = 0 → ¬ x7 = (-1) → ¬ (fOf (I c) x3 x7) = 0 → vp_in (x1 + 1) 11)
    (k5 : ¬ (I 1 9) ≤ x7 → x4 = 0 → ¬ x7 = (-1) → ¬ (fOf (I c) x3 x7) = 0 → HCall E me_X9_letVisit (d + 9) [.ref 1, .ref g, .int x7] (setI (setI I e (va_cpy (I c) (I e) 0 0 30)) g (upd ((setI I e (va_cpy (I c) (I e) 0 0 30)) g) 1 ((setI I e (va_cpy (I c) (I e) 0 0 30)) h 1))) (fun v9 J => HGo E (mF E (d + 10) Q) me_X2_playOn 238 [(0, .ref 32), (1, .int x1), (2, .ref h), (3, .int x3), (4, .int x4), (5, .int x5), (6, .int x6), (7, .int x7)] (v9.toList ++ []) J))
    (k6 : ¬ (I 1 9) ≤ x7 → x4 = 0 → ¬ x7 = (-1) → (fOf (I c) x3 x7) = 0 → HGo E (mF E (d + 10) Q) me_X2_playOn 163 [(0, .ref 32), (1, .int x1), (2, .ref h), (3, .int x3), (4, .int x4), (5, .int x5), (6, .int x6), (7, .int (x7 + 1))] [] I)
    (k7 : ¬ (I 1 9) ≤ x7 → ¬ x4 = 0 → x7 = x5 → vp_in (x1 + 1) 11)
    (k8 : ¬ (I 1 9) ≤ x7 → ¬ x4 = 0 → x7 = x5 → HCall E me_X9_letVisit (d + 9) [.ref 1, .ref g, .int x7] (setI (setI I e (va_cpy (I c) (I e) 0 0 30)) g (upd ((setI I e (va_cpy (I c) (I e) 0 0 30)) g) 1 ((setI I e (va_cpy (I c) (I e) 0 0 30)) h 1))) (fun v9 J => HGo E (mF E (d + 10) Q) me_X2_playOn 238 [(0, .ref 32), (1, .int x1), (2, .ref h), (3, .int x3), (4, .int x4), (5, .int x5), (6, .int x6), (7, .int x7)] (v9.toList ++ []) J))
    (k9 : ¬ (I 1 9) ≤ x7 → ¬ x4 = 0 → ¬ x7 = x5 → HGo E (mF E (d + 10) Q) me_X2_playOn 163 [(0, .ref 32), (1, .int x1), (2, .ref h), (3, .int x3), (4, .int x4), (5, .int x5), (6, .int x6), (7, .int (x7 + 1))] [] I)
    : HGo E (mF E (d + 10) Q) me_X2_playOn 163 [(0, .ref 32), (1, .int x1), (2, .ref h), (3, .int x3), (4, .int x4), (5, .int x5), (6, .int x6), (7, .int x7)] [] I := by
  refine h_iload dX2_playOn_163 7 rfl ?_
  refine h_aload_n dX2_playOn_165 rfl 0 rfl ?_
  refine gf_1_0 dX2_playOn_166 hl_X2_29 nl_32 zk_32 zp_32_0 ?_
  refine gf_7_9 dX2_playOn_169 hl_X2_93 nl_1 zk_1 ?_
  refine h_icmp_ge (tgt := 279) dX2_playOn_172 (by decide) (fun c1 => ?_) (fun c1 => ?_)
  ·
    exact h_vret dX2_playOn_279 rfl (k1 c1)
  ·
    refine h_iload dX2_playOn_175 4 rfl ?_
    refine h_if_eq (tgt := 190) dX2_playOn_177 (by decide) (fun c2 => ?_) (fun c2 => ?_)
    ·
      refine h_iload dX2_playOn_190 7 rfl ?_
      refine h_iconst (v := (-1)) dX2_playOn_192 (by decide) ?_
      refine h_icmp_eq (tgt := 209) dX2_playOn_193 (by decide) (fun c3 => ?_) (fun c3 => ?_)
      ·
        refine h_aload_n dX2_playOn_209 rfl 0 rfl ?_
        refine gf_1_1 dX2_playOn_210 hl_X2_13 nl_32 zk_32 zp_32_1 ?_
        refine h_iload_n dX2_playOn_213 rfl 1 rfl ?_
        refine h_iconst (v := 1) dX2_playOn_214 (by decide) ?_
        refine h_iadd dX2_playOn_215 ?_
        refine h_aald13z dX2_playOn_216 nl_33 zk_33 (by rw [zn_33]; exact k2 c1 c2 c3) hs_g ?_
        refine h_aload_n dX2_playOn_217 rfl 2 rfl ?_
        refine h_invV (As := [.ref h]) (st := []) dX2_playOn_218 lk_X2_53 (h_room (by decide)) a_g b_g (by decide) rfl rfl rfl (Nat.le_of_ble_eq_true rfl) ?_
        refine c_X4_copyFrom a_g b_g p_g a_e b_e n_e a_h b_h p_h a_c b_c n_c ?_
        refine h_aload_n dX2_playOn_221 rfl 0 rfl ?_
        refine gf_1_0 dX2_playOn_222 hl_X2_29 nl_32 zk_32 zp_32_0 ?_
        refine h_aload_n dX2_playOn_225 rfl 0 rfl ?_
        refine gf_1_1 dX2_playOn_226 hl_X2_13 nl_32 zk_32 zp_32_1 ?_
        refine h_iload_n dX2_playOn_229 rfl 1 rfl ?_
        refine h_iconst (v := 1) dX2_playOn_230 (by decide) ?_
        refine h_iadd dX2_playOn_231 ?_
        refine h_aald13z dX2_playOn_232 nl_33 zk_33 (by rw [zn_33]; exact k2 c1 c2 c3) hs_g ?_
        refine h_iload dX2_playOn_233 7 rfl ?_
        refine h_invV (As := [.ref g, .int x7]) (st := []) dX2_playOn_235 lk_X2_71 (h_room (by decide)) nl_1 zk_1 (by decide) rfl rfl rfl (Nat.le_of_ble_eq_true rfl) ?_
        exact k3 c1 c2 c3
      ·
        refine h_aload_n dX2_playOn_196 rfl 2 rfl ?_
        refine h_iload_n dX2_playOn_197 rfl 3 rfl ?_
        refine h_iload dX2_playOn_198 7 rfl ?_
        refine h_invV (As := [.int x3, .int x7]) (st := []) dX2_playOn_200 lk_X2_96 (h_room (by decide)) a_h b_h (by decide) rfl rfl rfl (Nat.le_of_ble_eq_true rfl) ?_
        refine c_X4_of a_h b_h p_h a_c b_c n_c ?_
        refine h_if_ne (tgt := 209) dX2_playOn_203 (by decide) (fun c4 => ?_) (fun c4 => ?_)
        ·
          refine h_aload_n dX2_playOn_209 rfl 0 rfl ?_
          refine gf_1_1 dX2_playOn_210 hl_X2_13 nl_32 zk_32 zp_32_1 ?_
          refine h_iload_n dX2_playOn_213 rfl 1 rfl ?_
          refine h_iconst (v := 1) dX2_playOn_214 (by decide) ?_
          refine h_iadd dX2_playOn_215 ?_
          refine h_aald13z dX2_playOn_216 nl_33 zk_33 (by rw [zn_33]; exact k4 c1 c2 c3 c4) hs_g ?_
          refine h_aload_n dX2_playOn_217 rfl 2 rfl ?_
          refine h_invV (As := [.ref h]) (st := []) dX2_playOn_218 lk_X2_53 (h_room (by decide)) a_g b_g (by decide) rfl rfl rfl (Nat.le_of_ble_eq_true rfl) ?_
          refine c_X4_copyFrom a_g b_g p_g a_e b_e n_e a_h b_h p_h a_c b_c n_c ?_
          refine h_aload_n dX2_playOn_221 rfl 0 rfl ?_
          refine gf_1_0 dX2_playOn_222 hl_X2_29 nl_32 zk_32 zp_32_0 ?_
          refine h_aload_n dX2_playOn_225 rfl 0 rfl ?_
          refine gf_1_1 dX2_playOn_226 hl_X2_13 nl_32 zk_32 zp_32_1 ?_
          refine h_iload_n dX2_playOn_229 rfl 1 rfl ?_
          refine h_iconst (v := 1) dX2_playOn_230 (by decide) ?_
          refine h_iadd dX2_playOn_231 ?_
          refine h_aald13z dX2_playOn_232 nl_33 zk_33 (by rw [zn_33]; exact k4 c1 c2 c3 c4) hs_g ?_
          refine h_iload dX2_playOn_233 7 rfl ?_
          refine h_invV (As := [.ref g, .int x7]) (st := []) dX2_playOn_235 lk_X2_71 (h_room (by decide)) nl_1 zk_1 (by decide) rfl rfl rfl (Nat.le_of_ble_eq_true rfl) ?_
          exact k5 c1 c2 c3 c4
        ·
          refine h_goto (tgt := 273) dX2_playOn_206 (by decide) ?_
          refine h_iinc (v := (x7 + 1)) (L' := [(7, .int (x7 + 1)), (0, .ref 32), (1, .int x1), (2, .ref h), (3, .int x3), (4, .int x4), (5, .int x5), (6, .int x6)]) dX2_playOn_273 7 rfl rfl (by decide) rfl ?_
          refine h_goto (tgt := 163) dX2_playOn_276 (by decide) ?_
          refine h_pick [1, 2, 3, 4, 5, 6, 7, 0] [(0, .ref 32), (1, .int x1), (2, .ref h), (3, .int x3), (4, .int x4), (5, .int x5), (6, .int x6), (7, .int (x7 + 1))] rfl ?_
          exact k6 c1 c2 c3 c4
    ·
      refine h_iload dX2_playOn_180 7 rfl ?_
      refine h_iload dX2_playOn_182 5 rfl ?_
      refine h_icmp_eq (tgt := 209) dX2_playOn_184 (by decide) (fun c5 => ?_) (fun c5 => ?_)
      ·
        refine h_aload_n dX2_playOn_209 rfl 0 rfl ?_
        refine gf_1_1 dX2_playOn_210 hl_X2_13 nl_32 zk_32 zp_32_1 ?_
        refine h_iload_n dX2_playOn_213 rfl 1 rfl ?_
        refine h_iconst (v := 1) dX2_playOn_214 (by decide) ?_
        refine h_iadd dX2_playOn_215 ?_
        refine h_aald13z dX2_playOn_216 nl_33 zk_33 (by rw [zn_33]; exact k7 c1 c2 c5) hs_g ?_
        refine h_aload_n dX2_playOn_217 rfl 2 rfl ?_
        refine h_invV (As := [.ref h]) (st := []) dX2_playOn_218 lk_X2_53 (h_room (by decide)) a_g b_g (by decide) rfl rfl rfl (Nat.le_of_ble_eq_true rfl) ?_
        refine c_X4_copyFrom a_g b_g p_g a_e b_e n_e a_h b_h p_h a_c b_c n_c ?_
        refine h_aload_n dX2_playOn_221 rfl 0 rfl ?_
        refine gf_1_0 dX2_playOn_222 hl_X2_29 nl_32 zk_32 zp_32_0 ?_
        refine h_aload_n dX2_playOn_225 rfl 0 rfl ?_
        refine gf_1_1 dX2_playOn_226 hl_X2_13 nl_32 zk_32 zp_32_1 ?_
        refine h_iload_n dX2_playOn_229 rfl 1 rfl ?_
        refine h_iconst (v := 1) dX2_playOn_230 (by decide) ?_
        refine h_iadd dX2_playOn_231 ?_
        refine h_aald13z dX2_playOn_232 nl_33 zk_33 (by rw [zn_33]; exact k7 c1 c2 c5) hs_g ?_
        refine h_iload dX2_playOn_233 7 rfl ?_
        refine h_invV (As := [.ref g, .int x7]) (st := []) dX2_playOn_235 lk_X2_71 (h_room (by decide)) nl_1 zk_1 (by decide) rfl rfl rfl (Nat.le_of_ble_eq_true rfl) ?_
        exact k8 c1 c2 c5
      ·
        refine h_goto (tgt := 273) dX2_playOn_187 (by decide) ?_
        refine h_iinc (v := (x7 + 1)) (L' := [(7, .int (x7 + 1)), (0, .ref 32), (1, .int x1), (2, .ref h), (3, .int x3), (4, .int x4), (5, .int x5), (6, .int x6)]) dX2_playOn_273 7 rfl rfl (by decide) rfl ?_
        refine h_goto (tgt := 163) dX2_playOn_276 (by decide) ?_
        refine h_pick [1, 2, 3, 4, 5, 6, 7, 0] [(0, .ref 32), (1, .int x1), (2, .ref h), (3, .int x3), (4, .int x4), (5, .int x5), (6, .int x6), (7, .int (x7 + 1))] rfl ?_
        exact k9 c1 c2 c5
set_option maxHeartbeats 1000000 in
set_option maxRecDepth 20000 in
theorem sg_X2_playOn_151 {E : HEn} {d : Nat} {Q : Option Value → HIh → Prop} {I : HIh} {h : Nat} {x1 : Int32} {x3 : Int32} {x4 : Int32} {s0 : Int32} (a_h : h < NL) (b_h : Zk h = 3)
    (k1 : HGo E (mF E (d + 10) Q) me_X2_playOn 163 [(0, .ref 32), (1, .int x1), (2, .ref h), (3, .int x3), (4, .int x4), (5, .int s0), (6, .int (-1)), (7, .int (-1))] [] I)
    : HGo E (mF E (d + 10) Q) me_X2_playOn 151 [(0, .ref 32), (1, .int x1), (2, .ref h), (3, .int x3), (4, .int x4)] [.int s0] I := by
  refine h_goto (tgt := 155) dX2_playOn_151 (by decide) ?_
  refine h_istore (L' := [(5, .int s0), (0, .ref 32), (1, .int x1), (2, .ref h), (3, .int x3), (4, .int x4)]) dX2_playOn_155 (by decide) rfl ?_
  refine h_iconst (v := (-1)) dX2_playOn_157 (by decide) ?_
  refine h_istore (L' := [(6, .int (-1)), (5, .int s0), (0, .ref 32), (1, .int x1), (2, .ref h), (3, .int x3), (4, .int x4)]) dX2_playOn_158 (by decide) rfl ?_
  refine h_iconst (v := (-1)) dX2_playOn_160 (by decide) ?_
  refine h_istore (L' := [(7, .int (-1)), (6, .int (-1)), (5, .int s0), (0, .ref 32), (1, .int x1), (2, .ref h), (3, .int x3), (4, .int x4)]) dX2_playOn_161 (by decide) rfl ?_
  refine h_pick [3, 4, 5, 6, 7, 2, 1, 0] [(0, .ref 32), (1, .int x1), (2, .ref h), (3, .int x3), (4, .int x4), (5, .int s0), (6, .int (-1)), (7, .int (-1))] rfl ?_
  exact k1
set_option maxHeartbeats 1000000 in
set_option maxRecDepth 20000 in
theorem sg_X2_playOn_65 {E : HEn} {d : Nat} {Q : Option Value → HIh → Prop} {I : HIh} {h : Nat} {x1 : Int32} {x3 : Int32} (a_h : h < NL) (b_h : Zk h = 3)
    (k1 : HGo E (mF E (d + 10) Q) me_X2_playOn 23 [(0, .ref 32), (1, .int x1), (2, .ref h), (3, .int (x3 + 1))] [] I)
    : HGo E (mF E (d + 10) Q) me_X2_playOn 65 [(0, .ref 32), (1, .int x1), (2, .ref h), (3, .int x3)] [] I := by
  refine h_iinc (v := (x3 + 1)) (L' := [(3, .int (x3 + 1)), (0, .ref 32), (1, .int x1), (2, .ref h)]) dX2_playOn_65 3 rfl rfl (by decide) rfl ?_
  refine h_goto (tgt := 23) dX2_playOn_68 (by decide) ?_
  refine h_pick [1, 2, 3, 0] [(0, .ref 32), (1, .int x1), (2, .ref h), (3, .int (x3 + 1))] rfl ?_
  exact k1
set_option maxHeartbeats 1000000 in
set_option maxRecDepth 20000 in
theorem sg_X2_playOn_238 {E : HEn} {d : Nat} {Q : Option Value → HIh → Prop} {I : HIh} {h : Nat} {x1 : Int32} {x3 : Int32} {x4 : Int32} {x5 : Int32} {x6 : Int32} {x7 : Int32} (a_h : h < NL) (b_h : Zk h = 3)
    (k1 : HCall E me_X2_playOn (d + 9) [.ref 32, .int (x1 + 1)] I (fun v9 J => HGo E (mF E (d + 10) Q) me_X2_playOn 245 [(0, .ref 32), (1, .int x1), (2, .ref h), (3, .int x3), (4, .int x4), (5, .int x5), (6, .int x6), (7, .int x7)] (v9.toList ++ []) J))
    : HGo E (mF E (d + 10) Q) me_X2_playOn 238 [(0, .ref 32), (1, .int x1), (2, .ref h), (3, .int x3), (4, .int x4), (5, .int x5), (6, .int x6), (7, .int x7)] [] I := by
  refine h_aload_n dX2_playOn_238 rfl 0 rfl ?_
  refine h_iload_n dX2_playOn_239 rfl 1 rfl ?_
  refine h_iconst (v := 1) dX2_playOn_240 (by decide) ?_
  refine h_iadd dX2_playOn_241 ?_
  refine h_invS (As := [.ref 32, .int (x1 + 1)]) (st := []) dX2_playOn_242 lk_X2_57 (h_room (by decide)) rfl rfl (Nat.le_of_ble_eq_true rfl) ?_
  exact k1
set_option maxHeartbeats 1000000 in
set_option maxRecDepth 20000 in
theorem sg_X2_playOn_245 {E : HEn} {d : Nat} {Q : Option Value → HIh → Prop} {I : HIh} {h : Nat} {x1 : Int32} {x3 : Int32} {x4 : Int32} {x5 : Int32} {x6 : Int32} {x7 : Int32} (a_h : h < NL) (b_h : Zk h = 3)
    (k1 : HCall E me_X2_reached (d + 9) [.ref 32, .int (x1 + 1), .int x3] I (fun v9 J => HGo E (mF E (d + 10) Q) me_X2_playOn 253 [(0, .ref 32), (1, .int x1), (2, .ref h), (3, .int x3), (4, .int x4), (5, .int x5), (6, .int x6), (7, .int x7)] (v9.toList ++ []) J))
    : HGo E (mF E (d + 10) Q) me_X2_playOn 245 [(0, .ref 32), (1, .int x1), (2, .ref h), (3, .int x3), (4, .int x4), (5, .int x5), (6, .int x6), (7, .int x7)] [] I := by
  refine h_aload_n dX2_playOn_245 rfl 0 rfl ?_
  refine h_iload_n dX2_playOn_246 rfl 1 rfl ?_
  refine h_iconst (v := 1) dX2_playOn_247 (by decide) ?_
  refine h_iadd dX2_playOn_248 ?_
  refine h_iload_n dX2_playOn_249 rfl 3 rfl ?_
  refine h_invV (As := [.int (x1 + 1), .int x3]) (st := []) dX2_playOn_250 lk_X2_100 (h_room (by decide)) nl_32 zk_32 (by decide) rfl rfl rfl (Nat.le_of_ble_eq_true rfl) ?_
  exact k1
set_option maxHeartbeats 1000000 in
set_option maxRecDepth 20000 in
theorem sg_X2_playOn_253 {E : HEn} {d : Nat} {Q : Option Value → HIh → Prop} {I : HIh} {h : Nat} {x1 : Int32} {x3 : Int32} {x4 : Int32} {x5 : Int32} {x6 : Int32} {x7 : Int32} {s0 : Int32} (a_h : h < NL) (b_h : Zk h = 3)
    (k1 : s0 ≤ x6 → HGo E (mF E (d + 10) Q) me_X2_playOn 163 [(0, .ref 32), (1, .int x1), (2, .ref h), (3, .int x3), (4, .int x4), (5, .int x5), (6, .int x6), (7, .int (x7 + 1))] [] I)
    (k2 : ¬ s0 ≤ x6 → HCall E me_X2_takeOver (d + 9) [.ref 32, .int x1, .int x7] I (fun v9 J => HGo E (mF E (d + 10) Q) me_X2_playOn 273 [(0, .ref 32), (1, .int x1), (2, .ref h), (3, .int x3), (4, .int x4), (5, .int x5), (6, .int s0), (7, .int x7)] (v9.toList ++ []) J))
    : HGo E (mF E (d + 10) Q) me_X2_playOn 253 [(0, .ref 32), (1, .int x1), (2, .ref h), (3, .int x3), (4, .int x4), (5, .int x5), (6, .int x6), (7, .int x7)] [.int s0] I := by
  refine h_istore (L' := [(8, .int s0), (0, .ref 32), (1, .int x1), (2, .ref h), (3, .int x3), (4, .int x4), (5, .int x5), (6, .int x6), (7, .int x7)]) dX2_playOn_253 (by decide) rfl ?_
  refine h_iload dX2_playOn_255 0 rfl ?_
  refine h_iload dX2_playOn_257 7 rfl ?_
  refine h_icmp_le (tgt := 273) dX2_playOn_259 (by decide) (fun c1 => ?_) (fun c1 => ?_)
  ·
    refine h_iinc (v := (x7 + 1)) (L' := [(7, .int (x7 + 1)), (8, .int s0), (0, .ref 32), (1, .int x1), (2, .ref h), (3, .int x3), (4, .int x4), (5, .int x5), (6, .int x6)]) dX2_playOn_273 8 rfl rfl (by decide) rfl ?_
    refine h_goto (tgt := 163) dX2_playOn_276 (by decide) ?_
    refine h_pick [2, 3, 4, 5, 6, 7, 8, 0] [(0, .ref 32), (1, .int x1), (2, .ref h), (3, .int x3), (4, .int x4), (5, .int x5), (6, .int x6), (7, .int (x7 + 1))] rfl ?_
    exact k1 c1
  ·
    refine h_iload dX2_playOn_262 0 rfl ?_
    refine h_istore (L' := [(6, .int s0), (8, .int s0), (0, .ref 32), (1, .int x1), (2, .ref h), (3, .int x3), (4, .int x4), (5, .int x5), (7, .int x7)]) dX2_playOn_264 (by decide) rfl ?_
    refine h_aload_n dX2_playOn_266 rfl 2 rfl ?_
    refine h_iload_n dX2_playOn_267 rfl 3 rfl ?_
    refine h_iload dX2_playOn_268 8 rfl ?_
    refine h_pick [2, 3, 4, 5, 6, 7, 0, 8] [(0, .ref 32), (1, .int x1), (2, .ref h), (3, .int x3), (4, .int x4), (5, .int x5), (6, .int s0), (7, .int x7)] rfl ?_
    refine h_invV (As := [.int x1, .int x7]) (st := []) dX2_playOn_270 lk_X2_103 (h_room (by decide)) nl_32 zk_32 (by decide) rfl rfl rfl (Nat.le_of_ble_eq_true rfl) ?_
    exact k2 c1
set_option maxHeartbeats 1000000 in
set_option maxRecDepth 20000 in
theorem sg_X2_playOn_273 {E : HEn} {d : Nat} {Q : Option Value → HIh → Prop} {I : HIh} {h : Nat} {x1 : Int32} {x3 : Int32} {x4 : Int32} {x5 : Int32} {x6 : Int32} {x7 : Int32} (a_h : h < NL) (b_h : Zk h = 3)
    (k1 : HGo E (mF E (d + 10) Q) me_X2_playOn 163 [(0, .ref 32), (1, .int x1), (2, .ref h), (3, .int x3), (4, .int x4), (5, .int x5), (6, .int x6), (7, .int (x7 + 1))] [] I)
    : HGo E (mF E (d + 10) Q) me_X2_playOn 273 [(0, .ref 32), (1, .int x1), (2, .ref h), (3, .int x3), (4, .int x4), (5, .int x5), (6, .int x6), (7, .int x7)] [] I := by
  refine h_iinc (v := (x7 + 1)) (L' := [(7, .int (x7 + 1)), (0, .ref 32), (1, .int x1), (2, .ref h), (3, .int x3), (4, .int x4), (5, .int x5), (6, .int x6)]) dX2_playOn_273 7 rfl rfl (by decide) rfl ?_
  refine h_goto (tgt := 163) dX2_playOn_276 (by decide) ?_
  refine h_pick [1, 2, 3, 4, 5, 6, 7, 0] [(0, .ref 32), (1, .int x1), (2, .ref h), (3, .int x3), (4, .int x4), (5, .int x5), (6, .int x6), (7, .int (x7 + 1))] rfl ?_
  exact k1
set_option maxHeartbeats 1000000 in
set_option maxRecDepth 20000 in
theorem sg_X2_weigh_0 {E : HEn} {d : Nat} {Q : Option Value → HIh → Prop} {I : HIh} {h : Nat} {v : Int32} (a_h : h < NL) (b_h : Zk h = 3) (hs_h : Zp 33 v.toNatClampNeg = h)
    (k1 : v < 0 → Q (some (.long 0)) I)
    (k2 : ¬ v < 0 → v < 11 → vp_in v 11)
    (k3 : ¬ v < 0 → v < 11 → HGo E (mF E (d + 10) Q) me_X2_weigh 27 [(0, .ref 32), (1, .int v), (2, .ref h), (3, .long 1), (5, .int (I h 1))] [] I)
    (k4 : ¬ v < 0 → ¬ v < 11 → Q (some (.long 0)) I)
    : HGo E (mF E (d + 10) Q) me_X2_weigh 0 [(0, .ref 32), (1, .int v)] [] I := by
  refine h_iload_n dX2_weigh_0 rfl 1 rfl ?_
  refine h_if_lt (tgt := 10) dX2_weigh_1 (by decide) (fun c1 => ?_) (fun c1 => ?_)
  ·
    refine h_lconst (v := 0) dX2_weigh_10 (by decide) ?_
    exact h_lret dX2_weigh_11 rfl (k1 c1)
  ·
    refine h_iload_n dX2_weigh_4 rfl 1 rfl ?_
    refine h_bipush (v := 11) dX2_weigh_5 (by decide) ?_
    refine h_icmp_lt (tgt := 12) dX2_weigh_7 (by decide) (fun c2 => ?_) (fun c2 => ?_)
    ·
      refine h_aload_n dX2_weigh_12 rfl 0 rfl ?_
      refine gf_1_1 dX2_weigh_13 hl_X2_13 nl_32 zk_32 zp_32_1 ?_
      refine h_iload_n dX2_weigh_16 rfl 1 rfl ?_
      refine h_aald13z dX2_weigh_17 nl_33 zk_33 (by rw [zn_33]; exact k2 c1 c2) hs_h ?_
      refine h_astore_n (L' := [(2, .ref h), (0, .ref 32), (1, .int v)]) dX2_weigh_18 rfl (by decide) rfl ?_
      refine h_lconst (v := 1) dX2_weigh_19 (by decide) ?_
      refine h_lstore_n (L' := [(3, .long 1), (2, .ref h), (0, .ref 32), (1, .int v)]) dX2_weigh_20 rfl (by decide) rfl ?_
      refine h_aload_n dX2_weigh_21 rfl 1 rfl ?_
      refine gf_3_1 dX2_weigh_22 hl_X2_37 a_h b_h ?_
      refine h_istore (L' := [(5, .int (I h 1)), (3, .long 1), (2, .ref h), (0, .ref 32), (1, .int v)]) dX2_weigh_25 (by decide) rfl ?_
      refine h_pick [3, 4, 2, 1, 0] [(0, .ref 32), (1, .int v), (2, .ref h), (3, .long 1), (5, .int (I h 1))] rfl ?_
      exact k3 c1 c2
    ·
      refine h_lconst (v := 0) dX2_weigh_10 (by decide) ?_
      exact h_lret dX2_weigh_11 rfl (k4 c1 c2)
set_option maxHeartbeats 1000000 in
set_option maxRecDepth 20000 in
theorem sg_X2_weigh_27 {E : HEn} {d : Nat} {Q : Option Value → HIh → Prop} {I : HIh} {h : Nat} {x1 : Int32} {x3 : Int64} {x5 : Int32} (a_h : h < NL) (b_h : Zk h = 3)
    (k1 : (I 1 10) ≤ x5 → HCall E me_X9_wealth (d + 9) [.ref 1, .ref h, .int (I 32 6)] I (fun v9 J => HGo E (mF E (d + 10) Q) me_X2_weigh 167 [] (v9.toList ++ [.long x3]) J))
    (k2 : ¬ (I 1 10) ≤ x5 → ¬ (fVis (I 1 10) (I 9) x5) = (I 32 6) → HCall E me_X9_habitual (d + 9) [.ref 1, .ref h] I (fun v9 J => HGo E (mF E (d + 10) Q) me_X2_weigh 70 [(0, .ref 32), (1, .int x1), (2, .ref h), (3, .long x3), (5, .int x5), (6, .int 0)] (v9.toList ++ []) J))
    (k3 : ¬ (I 1 10) ≤ x5 → (fVis (I 1 10) (I 9) x5) = (I 32 6) → HCall E me_X9_habitual (d + 9) [.ref 1, .ref h] I (fun v9 J => HGo E (mF E (d + 10) Q) me_X2_weigh 70 [(0, .ref 32), (1, .int x1), (2, .ref h), (3, .long x3), (5, .int x5), (6, .int 1)] (v9.toList ++ []) J))
    : HGo E (mF E (d + 10) Q) me_X2_weigh 27 [(0, .ref 32), (1, .int x1), (2, .ref h), (3, .long x3), (5, .int x5)] [] I := by
  refine h_iload dX2_weigh_27 4 rfl ?_
  refine h_aload_n dX2_weigh_29 rfl 0 rfl ?_
  refine gf_1_0 dX2_weigh_30 hl_X2_29 nl_32 zk_32 zp_32_0 ?_
  refine gf_7_10 dX2_weigh_33 hl_X2_40 nl_1 zk_1 ?_
  refine h_icmp_ge (tgt := 154) dX2_weigh_36 (by decide) (fun c1 => ?_) (fun c1 => ?_)
  ·
    refine h_lload_n dX2_weigh_154 rfl 3 rfl ?_
    refine h_aload_n dX2_weigh_155 rfl 0 rfl ?_
    refine gf_1_0 dX2_weigh_156 hl_X2_29 nl_32 zk_32 zp_32_0 ?_
    refine h_aload_n dX2_weigh_159 rfl 2 rfl ?_
    refine h_aload_n dX2_weigh_160 rfl 0 rfl ?_
    refine gf_1_6 dX2_weigh_161 hl_X2_117 nl_32 zk_32 ?_
    refine h_pick [] [] rfl ?_
    refine h_invV (As := [.ref h, .int (I 32 6)]) (st := [.long x3]) dX2_weigh_164 lk_X2_107 (h_room (by decide)) nl_1 zk_1 (by decide) rfl rfl rfl (Nat.le_of_ble_eq_true rfl) ?_
    exact k1 c1
  ·
    refine h_aload_n dX2_weigh_39 rfl 0 rfl ?_
    refine gf_1_0 dX2_weigh_40 hl_X2_29 nl_32 zk_32 zp_32_0 ?_
    refine h_iload dX2_weigh_43 4 rfl ?_
    refine h_invV (As := [.int x5]) (st := []) dX2_weigh_45 lk_X2_45 (h_room (by decide)) nl_1 zk_1 (by decide) rfl rfl rfl (Nat.le_of_ble_eq_true rfl) ?_
    refine c_X9_visitor ?_
    refine h_aload_n dX2_weigh_48 rfl 0 rfl ?_
    refine gf_1_6 dX2_weigh_49 hl_X2_117 nl_32 zk_32 ?_
    refine h_icmp_ne (tgt := 59) dX2_weigh_52 (by decide) (fun c2 => ?_) (fun c2 => ?_)
    ·
      refine h_iconst (v := 0) dX2_weigh_59 (by decide) ?_
      refine h_istore (L' := [(6, .int 0), (0, .ref 32), (1, .int x1), (2, .ref h), (3, .long x3), (5, .int x5)]) dX2_weigh_60 (by decide) rfl ?_
      refine h_aload_n dX2_weigh_62 rfl 1 rfl ?_
      refine gf_1_0 dX2_weigh_63 hl_X2_29 nl_32 zk_32 zp_32_0 ?_
      refine h_aload_n dX2_weigh_66 rfl 3 rfl ?_
      refine h_pick [1, 2, 3, 4, 5, 0] [(0, .ref 32), (1, .int x1), (2, .ref h), (3, .long x3), (5, .int x5), (6, .int 0)] rfl ?_
      refine h_invV (As := [.ref h]) (st := []) dX2_weigh_67 lk_X2_67 (h_room (by decide)) nl_1 zk_1 (by decide) rfl rfl rfl (Nat.le_of_ble_eq_true rfl) ?_
      exact k2 c1 c2
    ·
      refine h_iconst (v := 1) dX2_weigh_55 (by decide) ?_
      refine h_goto (tgt := 60) dX2_weigh_56 (by decide) ?_
      refine h_istore (L' := [(6, .int 1), (0, .ref 32), (1, .int x1), (2, .ref h), (3, .long x3), (5, .int x5)]) dX2_weigh_60 (by decide) rfl ?_
      refine h_aload_n dX2_weigh_62 rfl 1 rfl ?_
      refine gf_1_0 dX2_weigh_63 hl_X2_29 nl_32 zk_32 zp_32_0 ?_
      refine h_aload_n dX2_weigh_66 rfl 3 rfl ?_
      refine h_pick [1, 2, 3, 4, 5, 0] [(0, .ref 32), (1, .int x1), (2, .ref h), (3, .long x3), (5, .int x5), (6, .int 1)] rfl ?_
      refine h_invV (As := [.ref h]) (st := []) dX2_weigh_67 lk_X2_67 (h_room (by decide)) nl_1 zk_1 (by decide) rfl rfl rfl (Nat.le_of_ble_eq_true rfl) ?_
      exact k3 c1 c2
set_option maxHeartbeats 1000000 in
set_option maxRecDepth 20000 in
theorem sg_X2_weigh_167 {E : HEn} {d : Nat} {Q : Option Value → HIh → Prop} {I : HIh} {s0 : Int32} {s1 : Int64}
    (k1 : Q (some (.long (s1 * s0.toInt64))) I)
    : HGo E (mF E (d + 10) Q) me_X2_weigh 167 [] [.int s0, .long s1] I := by
  refine h_i2l dX2_weigh_167 ?_
  refine h_lmul dX2_weigh_168 ?_
  exact h_lret dX2_weigh_169 rfl (k1)
set_option maxHeartbeats 1000000 in
set_option maxRecDepth 20000 in
theorem sg_X2_weigh_70 {E : HEn} {d : Nat} {Q : Option Value → HIh → Prop} {I : HIh} {h : Nat} {x1 : Int32} {x3 : Int64} {x5 : Int32} {x6 : Int32} {s0 : Int32} (a_h : h < NL) (b_h : Zk h = 3)
    (k1 : ¬ x6 = 0 → HCall E me_X9_letVisit (d + 9) [.ref 1, .ref h, .int s0] I (fun v9 J => HGo E (mF E (d + 10) Q) me_X2_weigh 133 [(0, .ref 32), (1, .int x1), (2, .ref h), (3, .long x3), (5, .int x5), (6, .int x6)] (v9.toList ++ []) J))
    (k2 : x6 = 0 → s0 = (-1) → HCall E me_X9_letVisit (d + 9) [.ref 1, .ref h, .int s0] I (fun v9 J => HGo E (mF E (d + 10) Q) me_X2_weigh 133 [(0, .ref 32), (1, .int x1), (2, .ref h), (3, .long x3), (5, .int x5), (6, .int x6)] (v9.toList ++ []) J))
    (k3 : x6 = 0 → ¬ s0 = (-1) → HCall E me_X2_weighNext (d + 9) [.ref 32, .int x1, .int (-1)] I (fun v9 J => HGo E (mF E (d + 10) Q) me_X2_weigh 97 [(0, .ref 32), (1, .int x1), (3, .long x3), (7, .int s0)] (v9.toList ++ [.long ((10 - (I 32 7)).toInt64)]) J))
    : HGo E (mF E (d + 10) Q) me_X2_weigh 70 [(0, .ref 32), (1, .int x1), (2, .ref h), (3, .long x3), (5, .int x5), (6, .int x6)] [.int s0] I := by
  refine h_istore (L' := [(7, .int s0), (0, .ref 32), (1, .int x1), (2, .ref h), (3, .long x3), (5, .int x5), (6, .int x6)]) dX2_weigh_70 (by decide) rfl ?_
  refine h_iload dX2_weigh_72 6 rfl ?_
  refine h_if_ne (tgt := 123) dX2_weigh_74 (by decide) (fun c1 => ?_) (fun c1 => ?_)
  ·
    refine h_aload_n dX2_weigh_123 rfl 1 rfl ?_
    refine gf_1_0 dX2_weigh_124 hl_X2_29 nl_32 zk_32 zp_32_0 ?_
    refine h_aload_n dX2_weigh_127 rfl 3 rfl ?_
    refine h_iload dX2_weigh_128 0 rfl ?_
    refine h_pick [1, 2, 3, 4, 5, 6] [(0, .ref 32), (1, .int x1), (2, .ref h), (3, .long x3), (5, .int x5), (6, .int x6)] rfl ?_
    refine h_invV (As := [.ref h, .int s0]) (st := []) dX2_weigh_130 lk_X2_71 (h_room (by decide)) nl_1 zk_1 (by decide) rfl rfl rfl (Nat.le_of_ble_eq_true rfl) ?_
    exact k1 c1
  ·
    refine h_iload dX2_weigh_77 0 rfl ?_
    refine h_iconst (v := (-1)) dX2_weigh_79 (by decide) ?_
    refine h_icmp_eq (tgt := 123) dX2_weigh_80 (by decide) (fun c2 => ?_) (fun c2 => ?_)
    ·
      refine h_aload_n dX2_weigh_123 rfl 1 rfl ?_
      refine gf_1_0 dX2_weigh_124 hl_X2_29 nl_32 zk_32 zp_32_0 ?_
      refine h_aload_n dX2_weigh_127 rfl 3 rfl ?_
      refine h_iload dX2_weigh_128 0 rfl ?_
      refine h_pick [1, 2, 3, 4, 5, 6] [(0, .ref 32), (1, .int x1), (2, .ref h), (3, .long x3), (5, .int x5), (6, .int x6)] rfl ?_
      refine h_invV (As := [.ref h, .int s0]) (st := []) dX2_weigh_130 lk_X2_71 (h_room (by decide)) nl_1 zk_1 (by decide) rfl rfl rfl (Nat.le_of_ble_eq_true rfl) ?_
      exact k2 c1 c2
    ·
      refine h_bipush (v := 10) dX2_weigh_83 (by decide) ?_
      refine h_aload_n dX2_weigh_85 rfl 1 rfl ?_
      refine gf_1_7 dX2_weigh_86 hl_X2_120 nl_32 zk_32 ?_
      refine h_isub dX2_weigh_89 ?_
      refine h_i2l dX2_weigh_90 ?_
      refine h_aload_n dX2_weigh_91 rfl 1 rfl ?_
      refine h_iload_n dX2_weigh_92 rfl 2 rfl ?_
      refine h_iconst (v := (-1)) dX2_weigh_93 (by decide) ?_
      refine h_pick [1, 2, 4, 0] [(0, .ref 32), (1, .int x1), (3, .long x3), (7, .int s0)] rfl ?_
      refine h_invS (As := [.ref 32, .int x1, .int (-1)]) (st := [.long ((10 - (I 32 7)).toInt64)]) dX2_weigh_94 lk_X2_136 (h_room (by decide)) rfl rfl (Nat.le_of_ble_eq_true rfl) ?_
      exact k3 c1 c2
set_option maxHeartbeats 1000000 in
set_option maxRecDepth 20000 in
theorem sg_X2_weigh_133 {E : HEn} {d : Nat} {Q : Option Value → HIh → Prop} {I : HIh} {h : Nat} {x1 : Int32} {x3 : Int64} {x5 : Int32} {x6 : Int32} (a_h : h < NL) (b_h : Zk h = 3)
    (k1 : x6 = 0 → HGo E (mF E (d + 10) Q) me_X2_weigh 27 [(0, .ref 32), (1, .int x1), (2, .ref h), (3, .long (x3 * 10)), (5, .int (x5 + 1))] [] I)
    (k2 : ¬ x6 = 0 → HGo E (mF E (d + 10) Q) me_X2_weigh 27 [(0, .ref 32), (1, .int x1), (2, .ref h), (3, .long (x3 * 1)), (5, .int (x5 + 1))] [] I)
    : HGo E (mF E (d + 10) Q) me_X2_weigh 133 [(0, .ref 32), (1, .int x1), (2, .ref h), (3, .long x3), (5, .int x5), (6, .int x6)] [] I := by
  refine h_lload_n dX2_weigh_133 rfl 3 rfl ?_
  refine h_iload dX2_weigh_134 5 rfl ?_
  refine h_if_eq (tgt := 143) dX2_weigh_136 (by decide) (fun c1 => ?_) (fun c1 => ?_)
  ·
    refine h_ldc2 dX2_weigh_143 wt_714 rfl ?_
    refine h_lmul dX2_weigh_146 ?_
    refine h_lstore_n (L' := [(3, .long (x3 * 10)), (0, .ref 32), (1, .int x1), (2, .ref h), (5, .int x5), (6, .int x6)]) dX2_weigh_147 rfl (by decide) rfl ?_
    refine h_iinc (v := (x5 + 1)) (L' := [(5, .int (x5 + 1)), (3, .long (x3 * 10)), (0, .ref 32), (1, .int x1), (2, .ref h), (6, .int x6)]) dX2_weigh_148 4 rfl rfl (by decide) rfl ?_
    refine h_goto (tgt := 27) dX2_weigh_151 (by decide) ?_
    refine h_pick [2, 3, 4, 1, 0] [(0, .ref 32), (1, .int x1), (2, .ref h), (3, .long (x3 * 10)), (5, .int (x5 + 1))] rfl ?_
    exact k1 c1
  ·
    refine h_lconst (v := 1) dX2_weigh_139 (by decide) ?_
    refine h_goto (tgt := 146) dX2_weigh_140 (by decide) ?_
    refine h_lmul dX2_weigh_146 ?_
    refine h_lstore_n (L' := [(3, .long (x3 * 1)), (0, .ref 32), (1, .int x1), (2, .ref h), (5, .int x5), (6, .int x6)]) dX2_weigh_147 rfl (by decide) rfl ?_
    refine h_iinc (v := (x5 + 1)) (L' := [(5, .int (x5 + 1)), (3, .long (x3 * 1)), (0, .ref 32), (1, .int x1), (2, .ref h), (6, .int x6)]) dX2_weigh_148 4 rfl rfl (by decide) rfl ?_
    refine h_goto (tgt := 27) dX2_weigh_151 (by decide) ?_
    refine h_pick [2, 3, 4, 1, 0] [(0, .ref 32), (1, .int x1), (2, .ref h), (3, .long (x3 * 1)), (5, .int (x5 + 1))] rfl ?_
    exact k2 c1
set_option maxHeartbeats 1000000 in
set_option maxRecDepth 20000 in
theorem sg_X2_weigh_97 {E : HEn} {d : Nat} {Q : Option Value → HIh → Prop} {I : HIh} {x1 : Int32} {x3 : Int64} {x7 : Int32} {s0 : Int64} {s1 : Int64}
    (k1 : HCall E me_X2_weighNext (d + 9) [.ref 32, .int x1, .int x7] I (fun v9 J => HGo E (mF E (d + 10) Q) me_X2_weigh 112 [(3, .long x3), (8, .long (s1 * s0))] (v9.toList ++ [.long ((I 32 7).toInt64)]) J))
    : HGo E (mF E (d + 10) Q) me_X2_weigh 97 [(0, .ref 32), (1, .int x1), (3, .long x3), (7, .int x7)] [.long s0, .long s1] I := by
  refine h_lmul dX2_weigh_97 ?_
  refine h_lstore (L' := [(8, .long (s1 * s0)), (0, .ref 32), (1, .int x1), (3, .long x3), (7, .int x7)]) dX2_weigh_98 (by decide) rfl ?_
  refine h_aload_n dX2_weigh_100 rfl 1 rfl ?_
  refine gf_1_7 dX2_weigh_101 hl_X2_120 nl_32 zk_32 ?_
  refine h_i2l dX2_weigh_104 ?_
  refine h_aload_n dX2_weigh_105 rfl 1 rfl ?_
  refine h_iload_n dX2_weigh_106 rfl 2 rfl ?_
  refine h_iload dX2_weigh_107 4 rfl ?_
  refine h_pick [3, 0] [(3, .long x3), (8, .long (s1 * s0))] rfl ?_
  refine h_invS (As := [.ref 32, .int x1, .int x7]) (st := [.long ((I 32 7).toInt64)]) dX2_weigh_109 lk_X2_136 (h_room (by decide)) rfl rfl (Nat.le_of_ble_eq_true rfl) ?_
  exact k1
set_option maxHeartbeats 1000000 in
set_option maxRecDepth 20000 in
theorem sg_X2_weigh_112 {E : HEn} {d : Nat} {Q : Option Value → HIh → Prop} {I : HIh} {x3 : Int64} {x8 : Int64} {s0 : Int64} {s1 : Int64}
    (k1 : Q (some (.long (x3 * (x8 + (s1 * s0))))) I)
    : HGo E (mF E (d + 10) Q) me_X2_weigh 112 [(3, .long x3), (8, .long x8)] [.long s0, .long s1] I := by
  refine h_lmul dX2_weigh_112 ?_
  refine h_lstore (L' := [(10, .long (s1 * s0)), (3, .long x3), (8, .long x8)]) dX2_weigh_113 (by decide) rfl ?_
  refine h_lload_n dX2_weigh_115 rfl 1 rfl ?_
  refine h_lload dX2_weigh_116 2 rfl ?_
  refine h_lload dX2_weigh_118 0 rfl ?_
  refine h_ladd dX2_weigh_120 ?_
  refine h_lmul dX2_weigh_121 ?_
  exact h_lret dX2_weigh_122 rfl (k1)
set_option maxHeartbeats 1000000 in
set_option maxRecDepth 20000 in
theorem sg_X2_tillDry_0 {E : HEn} {d : Nat} {Q : Option Value → HIh → Prop} {I : HIh} {h c : Nat} (a_h : h < NL) (b_h : Zk h = 3) (p_h : Zp h 0 = c) (a_c : c < NL) (b_c : Zk c = 11) (n_c : Zn c = 30)
    (k1 : HGo E (mF E (d + 5) Q) me_X2_tillDry 17 [(0, .ref 32), (2, .ref 34), (3, .int 0), (4, .int 1)] [] (setI (setI I 35 (va_cpy (I c) (I 35) 0 0 30)) 34 (upd (I 34) 1 ((setI I 35 (va_cpy (I c) (I 35) 0 0 30)) h 1))))
    : HGo E (mF E (d + 5) Q) me_X2_tillDry 0 [(0, .ref 32), (1, .ref h)] [] I := by
  refine h_aload_n dX2_tillDry_0 rfl 0 rfl ?_
  refine gf_1_1 dX2_tillDry_1 hl_X2_13 nl_32 zk_32 zp_32_1 ?_
  refine h_iconst (v := 0) dX2_tillDry_4 (by decide) ?_
  refine h_aald13z dX2_tillDry_5 nl_33 zk_33 (vp_lit (by rw [zn_33]; decide)) zp_33_0 ?_
  refine h_astore_n (L' := [(2, .ref 34), (0, .ref 32), (1, .ref h)]) dX2_tillDry_6 rfl (by decide) rfl ?_
  refine h_aload_n dX2_tillDry_7 rfl 0 rfl ?_
  refine h_aload_n dX2_tillDry_8 rfl 2 rfl ?_
  refine h_invV (As := [.ref h]) (st := []) dX2_tillDry_9 lk_X2_53 (h_room (by decide)) nl_34 zk_34 (by decide) rfl rfl rfl (Nat.le_of_ble_eq_true rfl) ?_
  refine c_X4_copyFrom nl_34 zk_34 zp_34_0 nl_35 zk_35 zn_35 a_h b_h p_h a_c b_c n_c ?_
  refine h_iconst (v := 0) dX2_tillDry_12 (by decide) ?_
  refine h_istore_n (L' := [(3, .int 0), (2, .ref 34), (0, .ref 32), (1, .ref h)]) dX2_tillDry_13 rfl (by decide) rfl ?_
  refine h_iconst (v := 1) dX2_tillDry_14 (by decide) ?_
  refine h_istore (L' := [(4, .int 1), (3, .int 0), (2, .ref 34), (0, .ref 32), (1, .ref h)]) dX2_tillDry_15 (by decide) rfl ?_
  refine h_pick [3, 2, 1, 0] [(0, .ref 32), (2, .ref 34), (3, .int 0), (4, .int 1)] rfl ?_
  exact k1
set_option maxHeartbeats 1000000 in
set_option maxRecDepth 20000 in
theorem sg_X2_tillDry_17 {E : HEn} {d : Nat} {Q : Option Value → HIh → Prop} {I : HIh} {x3 : Int32} {x4 : Int32}
    (k1 : 200 < x4 → Q (some (.int (-1))) I)
    (k2 : ¬ 200 < x4 → (I 1 10) ≤ 0 → Q (some (.int (-1))) I)
    (k3 : ¬ 200 < x4 → ¬ (I 1 10) ≤ 0 → (I 34 1) < (I 1 10) → HCall E me_X9_habitual (d + 4) [.ref 1, .ref 34] I (fun v9 J => HGo E (mF E (d + 5) Q) me_X2_tillDry 62 [(0, .ref 32), (2, .ref 34), (3, .int x3), (4, .int x4)] (v9.toList ++ []) J))
    (k4 : ¬ 200 < x4 → ¬ (I 1 10) ≤ 0 → ¬ (I 34 1) < (I 1 10) → HCall E me_X9_habitual (d + 4) [.ref 1, .ref 34] (setI I 34 (upd (I 34) 1 0)) (fun v9 J => HGo E (mF E (d + 5) Q) me_X2_tillDry 62 [(0, .ref 32), (2, .ref 34), (3, .int x3), (4, .int x4)] (v9.toList ++ []) J))
    : HGo E (mF E (d + 5) Q) me_X2_tillDry 17 [(0, .ref 32), (2, .ref 34), (3, .int x3), (4, .int x4)] [] I := by
  refine h_iload dX2_tillDry_17 3 rfl ?_
  refine h_sipush (v := 200) dX2_tillDry_19 (by decide) ?_
  refine h_icmp_gt (tgt := 108) dX2_tillDry_22 (by decide) (fun c1 => ?_) (fun c1 => ?_)
  ·
    refine h_iconst (v := (-1)) dX2_tillDry_108 (by decide) ?_
    exact h_iret dX2_tillDry_109 rfl (k1 c1)
  ·
    refine h_aload_n dX2_tillDry_25 rfl 0 rfl ?_
    refine gf_1_0 dX2_tillDry_26 hl_X2_29 nl_32 zk_32 zp_32_0 ?_
    refine gf_7_10 dX2_tillDry_29 hl_X2_40 nl_1 zk_1 ?_
    refine h_if_le (tgt := 108) dX2_tillDry_32 (by decide) (fun c2 => ?_) (fun c2 => ?_)
    ·
      refine h_iconst (v := (-1)) dX2_tillDry_108 (by decide) ?_
      exact h_iret dX2_tillDry_109 rfl (k2 c1 c2)
    ·
      refine h_aload_n dX2_tillDry_35 rfl 1 rfl ?_
      refine gf_3_1 dX2_tillDry_36 hl_X2_37 nl_34 zk_34 ?_
      refine h_aload_n dX2_tillDry_39 rfl 0 rfl ?_
      refine gf_1_0 dX2_tillDry_40 hl_X2_29 nl_32 zk_32 zp_32_0 ?_
      refine gf_7_10 dX2_tillDry_43 hl_X2_40 nl_1 zk_1 ?_
      refine h_icmp_lt (tgt := 54) dX2_tillDry_46 (by decide) (fun c3 => ?_) (fun c3 => ?_)
      ·
        refine h_aload_n dX2_tillDry_54 rfl 0 rfl ?_
        refine gf_1_0 dX2_tillDry_55 hl_X2_29 nl_32 zk_32 zp_32_0 ?_
        refine h_aload_n dX2_tillDry_58 rfl 1 rfl ?_
        refine h_invV (As := [.ref 34]) (st := []) dX2_tillDry_59 lk_X2_67 (h_room (by decide)) nl_1 zk_1 (by decide) rfl rfl rfl (Nat.le_of_ble_eq_true rfl) ?_
        exact k3 c1 c2 c3
      ·
        refine h_aload_n dX2_tillDry_49 rfl 1 rfl ?_
        refine h_iconst (v := 0) dX2_tillDry_50 (by decide) ?_
        refine pf_3_1 dX2_tillDry_51 hl_X2_37 nl_34 zk_34 ?_
        refine h_aload_n dX2_tillDry_54 rfl 0 rfl ?_
        refine gf_1_0 dX2_tillDry_55 hl_X2_29 nl_32 zk_32 zp_32_0 ?_
        refine h_aload_n dX2_tillDry_58 rfl 1 rfl ?_
        refine h_invV (As := [.ref 34]) (st := []) dX2_tillDry_59 lk_X2_67 (h_room (by decide)) nl_1 zk_1 (by decide) rfl rfl rfl (Nat.le_of_ble_eq_true rfl) ?_
        exact k4 c1 c2 c3
set_option maxHeartbeats 1000000 in
set_option maxRecDepth 20000 in
theorem sg_X2_tillDry_62 {E : HEn} {d : Nat} {Q : Option Value → HIh → Prop} {I : HIh} {x3 : Int32} {x4 : Int32} {s0 : Int32}
    (k1 : HCall E me_X9_letVisit (d + 4) [.ref 1, .ref 34, .int s0] I (fun v9 J => HGo E (mF E (d + 5) Q) me_X2_tillDry 74 [(0, .ref 32), (2, .ref 34), (3, .int x3), (4, .int x4), (5, .int s0)] (v9.toList ++ []) J))
    : HGo E (mF E (d + 5) Q) me_X2_tillDry 62 [(0, .ref 32), (2, .ref 34), (3, .int x3), (4, .int x4)] [.int s0] I := by
  refine h_istore (L' := [(5, .int s0), (0, .ref 32), (2, .ref 34), (3, .int x3), (4, .int x4)]) dX2_tillDry_62 (by decide) rfl ?_
  refine h_aload_n dX2_tillDry_64 rfl 1 rfl ?_
  refine gf_1_0 dX2_tillDry_65 hl_X2_29 nl_32 zk_32 zp_32_0 ?_
  refine h_aload_n dX2_tillDry_68 rfl 2 rfl ?_
  refine h_iload dX2_tillDry_69 0 rfl ?_
  refine h_pick [1, 2, 3, 4, 0] [(0, .ref 32), (2, .ref 34), (3, .int x3), (4, .int x4), (5, .int s0)] rfl ?_
  refine h_invV (As := [.ref 34, .int s0]) (st := []) dX2_tillDry_71 lk_X2_71 (h_room (by decide)) nl_1 zk_1 (by decide) rfl rfl rfl (Nat.le_of_ble_eq_true rfl) ?_
  exact k1
set_option maxHeartbeats 1000000 in
set_option maxRecDepth 20000 in
theorem sg_X2_tillDry_74 {E : HEn} {d : Nat} {Q : Option Value → HIh → Prop} {I : HIh} {x3 : Int32} {x4 : Int32} {x5 : Int32}
    (k1 : ¬ x5 = (-1) → ¬ 0 = (I 1 10) → HGo E (mF E (d + 5) Q) me_X2_tillDry 17 [(0, .ref 32), (2, .ref 34), (3, .int 0), (4, .int (x4 + 1))] [] I)
    (k2 : ¬ x5 = (-1) → 0 = (I 1 10) → Q (some (.int x4)) I)
    (k3 : x5 = (-1) → ¬ (x3 + 1) = (I 1 10) → HGo E (mF E (d + 5) Q) me_X2_tillDry 17 [(0, .ref 32), (2, .ref 34), (3, .int (x3 + 1)), (4, .int (x4 + 1))] [] I)
    (k4 : x5 = (-1) → (x3 + 1) = (I 1 10) → Q (some (.int x4)) I)
    : HGo E (mF E (d + 5) Q) me_X2_tillDry 74 [(0, .ref 32), (2, .ref 34), (3, .int x3), (4, .int x4), (5, .int x5)] [] I := by
  refine h_iload dX2_tillDry_74 4 rfl ?_
  refine h_iconst (v := (-1)) dX2_tillDry_76 (by decide) ?_
  refine h_icmp_ne (tgt := 86) dX2_tillDry_77 (by decide) (fun c1 => ?_) (fun c1 => ?_)
  ·
    refine h_iconst (v := 0) dX2_tillDry_86 (by decide) ?_
    refine h_istore_n (L' := [(3, .int 0), (0, .ref 32), (2, .ref 34), (4, .int x4), (5, .int x5)]) dX2_tillDry_87 rfl (by decide) rfl ?_
    refine h_iload_n dX2_tillDry_88 rfl 0 rfl ?_
    refine h_aload_n dX2_tillDry_89 rfl 1 rfl ?_
    refine gf_1_0 dX2_tillDry_90 hl_X2_29 nl_32 zk_32 zp_32_0 ?_
    refine gf_7_10 dX2_tillDry_93 hl_X2_40 nl_1 zk_1 ?_
    refine h_icmp_ne (tgt := 102) dX2_tillDry_96 (by decide) (fun c2 => ?_) (fun c2 => ?_)
    ·
      refine h_iinc (v := (x4 + 1)) (L' := [(4, .int (x4 + 1)), (3, .int 0), (0, .ref 32), (2, .ref 34), (5, .int x5)]) dX2_tillDry_102 3 rfl rfl (by decide) rfl ?_
      refine h_goto (tgt := 17) dX2_tillDry_105 (by decide) ?_
      refine h_pick [2, 3, 1, 0] [(0, .ref 32), (2, .ref 34), (3, .int 0), (4, .int (x4 + 1))] rfl ?_
      exact k1 c1 c2
    ·
      refine h_iload dX2_tillDry_99 3 rfl ?_
      exact h_iret dX2_tillDry_101 rfl (k2 c1 c2)
  ·
    refine h_iload_n dX2_tillDry_80 rfl 2 rfl ?_
    refine h_iconst (v := 1) dX2_tillDry_81 (by decide) ?_
    refine h_iadd dX2_tillDry_82 ?_
    refine h_goto (tgt := 87) dX2_tillDry_83 (by decide) ?_
    refine h_istore_n (L' := [(3, .int (x3 + 1)), (0, .ref 32), (2, .ref 34), (4, .int x4), (5, .int x5)]) dX2_tillDry_87 rfl (by decide) rfl ?_
    refine h_iload_n dX2_tillDry_88 rfl 0 rfl ?_
    refine h_aload_n dX2_tillDry_89 rfl 1 rfl ?_
    refine gf_1_0 dX2_tillDry_90 hl_X2_29 nl_32 zk_32 zp_32_0 ?_
    refine gf_7_10 dX2_tillDry_93 hl_X2_40 nl_1 zk_1 ?_
    refine h_icmp_ne (tgt := 102) dX2_tillDry_96 (by decide) (fun c3 => ?_) (fun c3 => ?_)
    ·
      refine h_iinc (v := (x4 + 1)) (L' := [(4, .int (x4 + 1)), (3, .int (x3 + 1)), (0, .ref 32), (2, .ref 34), (5, .int x5)]) dX2_tillDry_102 3 rfl rfl (by decide) rfl ?_
      refine h_goto (tgt := 17) dX2_tillDry_105 (by decide) ?_
      refine h_pick [2, 3, 1, 0] [(0, .ref 32), (2, .ref 34), (3, .int (x3 + 1)), (4, .int (x4 + 1))] rfl ?_
      exact k3 c1 c3
    ·
      refine h_iload dX2_tillDry_99 3 rfl ?_
      exact h_iret dX2_tillDry_101 rfl (k4 c1 c3)
set_option maxHeartbeats 1000000 in
set_option maxRecDepth 20000 in
theorem sg_X2_leastBait_0 {E : HEn} {d : Nat} {Q : Option Value → HIh → Prop} {I : HIh} {h c : Nat} {p : Int32} (a_h : h < NL) (b_h : Zk h = 3) (p_h : Zp h 0 = c) (a_c : c < NL) (b_c : Zk c = 11) (n_c : Zn c = 30)
    (k1 : HGo E (mF E (d + 5) Q) me_X2_leastBait 15 [(0, .ref 32), (2, .int p), (3, .int (-1)), (4, .int (-1))] [] (setI (setI I 35 (va_cpy (I c) (I 35) 0 0 30)) 34 (upd (I 34) 1 ((setI I 35 (va_cpy (I c) (I 35) 0 0 30)) h 1))))
    : HGo E (mF E (d + 5) Q) me_X2_leastBait 0 [(0, .ref 32), (1, .ref h), (2, .int p)] [] I := by
  refine h_iconst (v := (-1)) dX2_leastBait_0 (by decide) ?_
  refine h_istore_n (L' := [(3, .int (-1)), (0, .ref 32), (1, .ref h), (2, .int p)]) dX2_leastBait_1 rfl (by decide) rfl ?_
  refine h_aload_n dX2_leastBait_2 rfl 1 rfl ?_
  refine gf_1_1 dX2_leastBait_3 hl_X2_13 nl_32 zk_32 zp_32_1 ?_
  refine h_iconst (v := 0) dX2_leastBait_6 (by decide) ?_
  refine h_aald13z dX2_leastBait_7 nl_33 zk_33 (vp_lit (by rw [zn_33]; decide)) zp_33_0 ?_
  refine h_aload_n dX2_leastBait_8 rfl 2 rfl ?_
  refine h_invV (As := [.ref h]) (st := []) dX2_leastBait_9 lk_X2_53 (h_room (by decide)) nl_34 zk_34 (by decide) rfl rfl rfl (Nat.le_of_ble_eq_true rfl) ?_
  refine c_X4_copyFrom nl_34 zk_34 zp_34_0 nl_35 zk_35 zn_35 a_h b_h p_h a_c b_c n_c ?_
  refine h_iconst (v := (-1)) dX2_leastBait_12 (by decide) ?_
  refine h_istore (L' := [(4, .int (-1)), (3, .int (-1)), (0, .ref 32), (1, .ref h), (2, .int p)]) dX2_leastBait_13 (by decide) rfl ?_
  refine h_pick [2, 4, 1, 0] [(0, .ref 32), (2, .int p), (3, .int (-1)), (4, .int (-1))] rfl ?_
  exact k1
set_option maxHeartbeats 1000000 in
set_option maxRecDepth 20000 in
theorem sg_X2_leastBait_15 {E : HEn} {d : Nat} {Q : Option Value → HIh → Prop} {I : HIh} {x2 : Int32} {x3 : Int32} {x4 : Int32}
    (k1 : (I 1 9) ≤ x4 → Q (some (.int x3)) I)
    (k2 : ¬ (I 1 9) ≤ x4 → HGo E (mF E (d + 5) Q) me_X2_leastBait 31 [(0, .ref 32), (2, .int x2), (3, .int x3), (4, .int x4), (5, .int x4)] [] I)
    : HGo E (mF E (d + 5) Q) me_X2_leastBait 15 [(0, .ref 32), (2, .int x2), (3, .int x3), (4, .int x4)] [] I := by
  refine h_iload dX2_leastBait_15 3 rfl ?_
  refine h_aload_n dX2_leastBait_17 rfl 0 rfl ?_
  refine gf_1_0 dX2_leastBait_18 hl_X2_29 nl_32 zk_32 zp_32_0 ?_
  refine gf_7_9 dX2_leastBait_21 hl_X2_93 nl_1 zk_1 ?_
  refine h_icmp_ge (tgt := 136) dX2_leastBait_24 (by decide) (fun c1 => ?_) (fun c1 => ?_)
  ·
    refine h_iload_n dX2_leastBait_136 rfl 2 rfl ?_
    exact h_iret dX2_leastBait_137 rfl (k1 c1)
  ·
    refine h_iload dX2_leastBait_27 3 rfl ?_
    refine h_istore (L' := [(5, .int x4), (0, .ref 32), (2, .int x2), (3, .int x3), (4, .int x4)]) dX2_leastBait_29 (by decide) rfl ?_
    refine h_pick [1, 2, 3, 4, 0] [(0, .ref 32), (2, .int x2), (3, .int x3), (4, .int x4), (5, .int x4)] rfl ?_
    exact k2 c1
set_option maxHeartbeats 1000000 in
set_option maxRecDepth 20000 in
theorem sg_X2_leastBait_31 {E : HEn} {d : Nat} {Q : Option Value → HIh → Prop} {I : HIh} {x2 : Int32} {x3 : Int32} {x4 : Int32} {x5 : Int32}
    (k1 : (I 1 9) ≤ x5 → HGo E (mF E (d + 5) Q) me_X2_leastBait 15 [(0, .ref 32), (2, .int x2), (3, .int x3), (4, .int (x4 + 1))] [] I)
    (k2 : ¬ (I 1 9) ≤ x5 → HGo E (mF E (d + 5) Q) me_X2_leastBait 47 [(0, .ref 32), (2, .int x2), (3, .int x3), (4, .int x4), (5, .int x5), (6, .int x5)] [] I)
    : HGo E (mF E (d + 5) Q) me_X2_leastBait 31 [(0, .ref 32), (2, .int x2), (3, .int x3), (4, .int x4), (5, .int x5)] [] I := by
  refine h_iload dX2_leastBait_31 4 rfl ?_
  refine h_aload_n dX2_leastBait_33 rfl 0 rfl ?_
  refine gf_1_0 dX2_leastBait_34 hl_X2_29 nl_32 zk_32 zp_32_0 ?_
  refine gf_7_9 dX2_leastBait_37 hl_X2_93 nl_1 zk_1 ?_
  refine h_icmp_ge (tgt := 130) dX2_leastBait_40 (by decide) (fun c1 => ?_) (fun c1 => ?_)
  ·
    refine h_iinc (v := (x4 + 1)) (L' := [(4, .int (x4 + 1)), (0, .ref 32), (2, .int x2), (3, .int x3), (5, .int x5)]) dX2_leastBait_130 3 rfl rfl (by decide) rfl ?_
    refine h_goto (tgt := 15) dX2_leastBait_133 (by decide) ?_
    refine h_pick [1, 2, 3, 0] [(0, .ref 32), (2, .int x2), (3, .int x3), (4, .int (x4 + 1))] rfl ?_
    exact k1 c1
  ·
    refine h_iload dX2_leastBait_43 4 rfl ?_
    refine h_istore (L' := [(6, .int x5), (0, .ref 32), (2, .int x2), (3, .int x3), (4, .int x4), (5, .int x5)]) dX2_leastBait_45 (by decide) rfl ?_
    refine h_pick [1, 2, 3, 4, 5, 0] [(0, .ref 32), (2, .int x2), (3, .int x3), (4, .int x4), (5, .int x5), (6, .int x5)] rfl ?_
    exact k2 c1
set_option maxHeartbeats 1000000 in
set_option maxRecDepth 20000 in
theorem sg_X2_leastBait_47 {E : HEn} {d : Nat} {Q : Option Value → HIh → Prop} {I : HIh} {x2 : Int32} {x3 : Int32} {x4 : Int32} {x5 : Int32} {x6 : Int32}
    (k1 : (I 1 9) ≤ x6 → HGo E (mF E (d + 5) Q) me_X2_leastBait 31 [(0, .ref 32), (2, .int x2), (3, .int x3), (4, .int x4), (5, .int (x5 + 1))] [] I)
    (k2 : ¬ (I 1 9) ≤ x6 → x3 = (-1) → HCall E me_X2_tempts (d + 4) [.ref 32, .int x2, .int x4, .int x5, .int x6] I (fun v9 J => HGo E (mF E (d + 5) Q) me_X2_leastBait 112 [(0, .ref 32), (2, .int x2), (3, .int x3), (4, .int x4), (5, .int x5), (6, .int x6), (7, .int (((fWor (I 6) x4) + (fWor (I 6) x5)) + (fWor (I 6) x6)))] (v9.toList ++ []) J))
    (k3 : ¬ (I 1 9) ≤ x6 → ¬ x3 = (-1) → x3 ≤ (((fWor (I 6) x4) + (fWor (I 6) x5)) + (fWor (I 6) x6)) → HGo E (mF E (d + 5) Q) me_X2_leastBait 47 [(0, .ref 32), (2, .int x2), (3, .int x3), (4, .int x4), (5, .int x5), (6, .int (x6 + 1))] [] I)
    (k4 : ¬ (I 1 9) ≤ x6 → ¬ x3 = (-1) → ¬ x3 ≤ (((fWor (I 6) x4) + (fWor (I 6) x5)) + (fWor (I 6) x6)) → HCall E me_X2_tempts (d + 4) [.ref 32, .int x2, .int x4, .int x5, .int x6] I (fun v9 J => HGo E (mF E (d + 5) Q) me_X2_leastBait 112 [(0, .ref 32), (2, .int x2), (3, .int x3), (4, .int x4), (5, .int x5), (6, .int x6), (7, .int (((fWor (I 6) x4) + (fWor (I 6) x5)) + (fWor (I 6) x6)))] (v9.toList ++ []) J))
    : HGo E (mF E (d + 5) Q) me_X2_leastBait 47 [(0, .ref 32), (2, .int x2), (3, .int x3), (4, .int x4), (5, .int x5), (6, .int x6)] [] I := by
  refine h_iload dX2_leastBait_47 5 rfl ?_
  refine h_aload_n dX2_leastBait_49 rfl 0 rfl ?_
  refine gf_1_0 dX2_leastBait_50 hl_X2_29 nl_32 zk_32 zp_32_0 ?_
  refine gf_7_9 dX2_leastBait_53 hl_X2_93 nl_1 zk_1 ?_
  refine h_icmp_ge (tgt := 124) dX2_leastBait_56 (by decide) (fun c1 => ?_) (fun c1 => ?_)
  ·
    refine h_iinc (v := (x5 + 1)) (L' := [(5, .int (x5 + 1)), (0, .ref 32), (2, .int x2), (3, .int x3), (4, .int x4), (6, .int x6)]) dX2_leastBait_124 4 rfl rfl (by decide) rfl ?_
    refine h_goto (tgt := 31) dX2_leastBait_127 (by decide) ?_
    refine h_pick [1, 2, 3, 4, 0] [(0, .ref 32), (2, .int x2), (3, .int x3), (4, .int x4), (5, .int (x5 + 1))] rfl ?_
    exact k1 c1
  ·
    refine h_aload_n dX2_leastBait_59 rfl 0 rfl ?_
    refine gf_1_0 dX2_leastBait_60 hl_X2_29 nl_32 zk_32 zp_32_0 ?_
    refine h_iload dX2_leastBait_63 3 rfl ?_
    refine h_invV (As := [.int x4]) (st := []) dX2_leastBait_65 lk_X2_140 (h_room (by decide)) nl_1 zk_1 (by decide) rfl rfl rfl (Nat.le_of_ble_eq_true rfl) ?_
    refine c_X9_worthOf ?_
    refine h_aload_n dX2_leastBait_68 rfl 0 rfl ?_
    refine gf_1_0 dX2_leastBait_69 hl_X2_29 nl_32 zk_32 zp_32_0 ?_
    refine h_iload dX2_leastBait_72 4 rfl ?_
    refine h_invV (As := [.int x5]) (st := [.int (fWor (I 6) x4)]) dX2_leastBait_74 lk_X2_140 (h_room (by decide)) nl_1 zk_1 (by decide) rfl rfl rfl (Nat.le_of_ble_eq_true rfl) ?_
    refine c_X9_worthOf ?_
    refine h_iadd dX2_leastBait_77 ?_
    refine h_aload_n dX2_leastBait_78 rfl 0 rfl ?_
    refine gf_1_0 dX2_leastBait_79 hl_X2_29 nl_32 zk_32 zp_32_0 ?_
    refine h_iload dX2_leastBait_82 5 rfl ?_
    refine h_invV (As := [.int x6]) (st := [.int ((fWor (I 6) x4) + (fWor (I 6) x5))]) dX2_leastBait_84 lk_X2_140 (h_room (by decide)) nl_1 zk_1 (by decide) rfl rfl rfl (Nat.le_of_ble_eq_true rfl) ?_
    refine c_X9_worthOf ?_
    refine h_iadd dX2_leastBait_87 ?_
    refine h_istore (L' := [(7, .int (((fWor (I 6) x4) + (fWor (I 6) x5)) + (fWor (I 6) x6))), (0, .ref 32), (2, .int x2), (3, .int x3), (4, .int x4), (5, .int x5), (6, .int x6)]) dX2_leastBait_88 (by decide) rfl ?_
    refine h_iload_n dX2_leastBait_90 rfl 3 rfl ?_
    refine h_iconst (v := (-1)) dX2_leastBait_91 (by decide) ?_
    refine h_icmp_eq (tgt := 101) dX2_leastBait_92 (by decide) (fun c2 => ?_) (fun c2 => ?_)
    ·
      refine h_aload_n dX2_leastBait_101 rfl 1 rfl ?_
      refine h_iload_n dX2_leastBait_102 rfl 2 rfl ?_
      refine h_iload dX2_leastBait_103 4 rfl ?_
      refine h_iload dX2_leastBait_105 5 rfl ?_
      refine h_iload dX2_leastBait_107 6 rfl ?_
      refine h_pick [1, 2, 3, 4, 5, 6, 0] [(0, .ref 32), (2, .int x2), (3, .int x3), (4, .int x4), (5, .int x5), (6, .int x6), (7, .int (((fWor (I 6) x4) + (fWor (I 6) x5)) + (fWor (I 6) x6)))] rfl ?_
      refine h_invV (As := [.int x2, .int x4, .int x5, .int x6]) (st := []) dX2_leastBait_109 lk_X2_143 (h_room (by decide)) nl_32 zk_32 (by decide) rfl rfl rfl (Nat.le_of_ble_eq_true rfl) ?_
      exact k2 c1 c2
    ·
      refine h_iload dX2_leastBait_95 0 rfl ?_
      refine h_iload_n dX2_leastBait_97 rfl 3 rfl ?_
      refine h_icmp_ge (tgt := 118) dX2_leastBait_98 (by decide) (fun c3 => ?_) (fun c3 => ?_)
      ·
        refine h_iinc (v := (x6 + 1)) (L' := [(6, .int (x6 + 1)), (7, .int (((fWor (I 6) x4) + (fWor (I 6) x5)) + (fWor (I 6) x6))), (0, .ref 32), (2, .int x2), (3, .int x3), (4, .int x4), (5, .int x5)]) dX2_leastBait_118 6 rfl rfl (by decide) rfl ?_
        refine h_goto (tgt := 47) dX2_leastBait_121 (by decide) ?_
        refine h_pick [2, 3, 4, 5, 6, 0] [(0, .ref 32), (2, .int x2), (3, .int x3), (4, .int x4), (5, .int x5), (6, .int (x6 + 1))] rfl ?_
        exact k3 c1 c2 c3
      ·
        refine h_aload_n dX2_leastBait_101 rfl 1 rfl ?_
        refine h_iload_n dX2_leastBait_102 rfl 2 rfl ?_
        refine h_iload dX2_leastBait_103 4 rfl ?_
        refine h_iload dX2_leastBait_105 5 rfl ?_
        refine h_iload dX2_leastBait_107 6 rfl ?_
        refine h_pick [1, 2, 3, 4, 5, 6, 0] [(0, .ref 32), (2, .int x2), (3, .int x3), (4, .int x4), (5, .int x5), (6, .int x6), (7, .int (((fWor (I 6) x4) + (fWor (I 6) x5)) + (fWor (I 6) x6)))] rfl ?_
        refine h_invV (As := [.int x2, .int x4, .int x5, .int x6]) (st := []) dX2_leastBait_109 lk_X2_143 (h_room (by decide)) nl_32 zk_32 (by decide) rfl rfl rfl (Nat.le_of_ble_eq_true rfl) ?_
        exact k4 c1 c2 c3
set_option maxHeartbeats 1000000 in
set_option maxRecDepth 20000 in
theorem sg_X2_leastBait_112 {E : HEn} {d : Nat} {Q : Option Value → HIh → Prop} {I : HIh} {x2 : Int32} {x3 : Int32} {x4 : Int32} {x5 : Int32} {x6 : Int32} {x7 : Int32} {s0 : Int32}
    (k1 : s0 = 0 → HGo E (mF E (d + 5) Q) me_X2_leastBait 47 [(0, .ref 32), (2, .int x2), (3, .int x3), (4, .int x4), (5, .int x5), (6, .int (x6 + 1))] [] I)
    (k2 : ¬ s0 = 0 → HGo E (mF E (d + 5) Q) me_X2_leastBait 47 [(0, .ref 32), (2, .int x2), (3, .int x7), (4, .int x4), (5, .int x5), (6, .int (x6 + 1))] [] I)
    : HGo E (mF E (d + 5) Q) me_X2_leastBait 112 [(0, .ref 32), (2, .int x2), (3, .int x3), (4, .int x4), (5, .int x5), (6, .int x6), (7, .int x7)] [.int s0] I := by
  refine h_if_eq (tgt := 118) dX2_leastBait_112 (by decide) (fun c1 => ?_) (fun c1 => ?_)
  ·
    refine h_iinc (v := (x6 + 1)) (L' := [(6, .int (x6 + 1)), (0, .ref 32), (2, .int x2), (3, .int x3), (4, .int x4), (5, .int x5), (7, .int x7)]) dX2_leastBait_118 5 rfl rfl (by decide) rfl ?_
    refine h_goto (tgt := 47) dX2_leastBait_121 (by decide) ?_
    refine h_pick [1, 2, 3, 4, 5, 0] [(0, .ref 32), (2, .int x2), (3, .int x3), (4, .int x4), (5, .int x5), (6, .int (x6 + 1))] rfl ?_
    exact k1 c1
  ·
    refine h_iload dX2_leastBait_115 6 rfl ?_
    refine h_istore_n (L' := [(3, .int x7), (0, .ref 32), (2, .int x2), (4, .int x4), (5, .int x5), (6, .int x6), (7, .int x7)]) dX2_leastBait_117 rfl (by decide) rfl ?_
    refine h_iinc (v := (x6 + 1)) (L' := [(6, .int (x6 + 1)), (3, .int x7), (0, .ref 32), (2, .int x2), (4, .int x4), (5, .int x5), (7, .int x7)]) dX2_leastBait_118 5 rfl rfl (by decide) rfl ?_
    refine h_goto (tgt := 47) dX2_leastBait_121 (by decide) ?_
    refine h_pick [2, 3, 1, 4, 5, 0] [(0, .ref 32), (2, .int x2), (3, .int x7), (4, .int x4), (5, .int x5), (6, .int (x6 + 1))] rfl ?_
    exact k2 c1
set_option maxHeartbeats 1000000 in
set_option maxRecDepth 20000 in
theorem sg_X11_go_0 {E : HEn} {d : Nat} {Q : Option Value → HIh → Prop} {I : HIh} {a : Int32}
    (k1 : a < 1 → Q (some (.int (-3))) I)
    (k2 : ¬ a < 1 → a ≤ 24 → HGo E (mF E (d + 5) Q) me_X11_go 16 [(0, .ref 0), (1, .int a), (2, .int 0)] [] I)
    (k3 : ¬ a < 1 → ¬ a ≤ 24 → Q (some (.int (-3))) I)
    : HGo E (mF E (d + 5) Q) me_X11_go 0 [(0, .ref 0), (1, .int a)] [] I := by
  refine h_iload_n dX11_go_0 rfl 1 rfl ?_
  refine h_iconst (v := 1) dX11_go_1 (by decide) ?_
  refine h_icmp_lt (tgt := 11) dX11_go_2 (by decide) (fun c1 => ?_) (fun c1 => ?_)
  ·
    refine h_bipush (v := (-3)) dX11_go_11 (by decide) ?_
    exact h_iret dX11_go_13 rfl (k1 c1)
  ·
    refine h_iload_n dX11_go_5 rfl 1 rfl ?_
    refine h_bipush (v := 24) dX11_go_6 (by decide) ?_
    refine h_icmp_le (tgt := 14) dX11_go_8 (by decide) (fun c2 => ?_) (fun c2 => ?_)
    ·
      refine h_iconst (v := 0) dX11_go_14 (by decide) ?_
      refine h_istore_n (L' := [(2, .int 0), (0, .ref 0), (1, .int a)]) dX11_go_15 rfl (by decide) rfl ?_
      refine h_pick [1, 2, 0] [(0, .ref 0), (1, .int a), (2, .int 0)] rfl ?_
      exact k2 c1 c2
    ·
      refine h_bipush (v := (-3)) dX11_go_11 (by decide) ?_
      exact h_iret dX11_go_13 rfl (k3 c1 c2)
set_option maxHeartbeats 1000000 in
set_option maxRecDepth 20000 in
theorem sg_X11_go_16 {E : HEn} {d : Nat} {Q : Option Value → HIh → Prop} {I : HIh} {x1 : Int32} {x2 : Int32}
    (k1 : x1 ≤ x2 → Q (some (.int (I 12 1))) (setI I 32 (upd (I 32) 4 (-1))))
    (k2 : ¬ x1 ≤ x2 → (I 1 10) ≤ (I 12 1) → Q (some (.int (I 12 1))) (setI I 32 (upd (I 32) 4 (-1))))
    (k3 : ¬ x1 ≤ x2 → ¬ (I 1 10) ≤ (I 12 1) → HCall E me_X9_habitual (d + 4) [.ref 1, .ref 12] I (fun v9 J => HGo E (mF E (d + 5) Q) me_X11_go 57 [(0, .ref 0), (1, .int x1), (2, .int x2)] (v9.toList ++ [.ref 12, .ref 1]) J))
    : HGo E (mF E (d + 5) Q) me_X11_go 16 [(0, .ref 0), (1, .int x1), (2, .int x2)] [] I := by
  refine h_iload_n dX11_go_16 rfl 2 rfl ?_
  refine h_iload_n dX11_go_17 rfl 1 rfl ?_
  refine h_icmp_ge (tgt := 66) dX11_go_18 (by decide) (fun c1 => ?_) (fun c1 => ?_)
  ·
    refine h_aload_n dX11_go_66 rfl 0 rfl ?_
    refine gf_9_4 dX11_go_67 hl_X11_39 nl_0 zk_0 zp_0_4 ?_
    refine h_invV (As := []) (st := []) dX11_go_70 lk_X11_82 (h_room (by decide)) nl_32 zk_32 (by decide) rfl rfl rfl (Nat.le_of_ble_eq_true rfl) ?_
    refine c_X2_becomeStale ?_
    refine h_aload_n dX11_go_73 rfl 0 rfl ?_
    refine gf_9_1 dX11_go_74 hl_X11_19 nl_0 zk_0 zp_0_1 ?_
    refine gf_3_1 dX11_go_77 hl_X11_139 nl_12 zk_12 ?_
    exact h_iret dX11_go_80 rfl (k1 c1)
  ·
    refine h_aload_n dX11_go_21 rfl 0 rfl ?_
    refine gf_9_1 dX11_go_22 hl_X11_19 nl_0 zk_0 zp_0_1 ?_
    refine gf_3_1 dX11_go_25 hl_X11_139 nl_12 zk_12 ?_
    refine h_aload_n dX11_go_28 rfl 0 rfl ?_
    refine gf_9_0 dX11_go_29 hl_X11_10 nl_0 zk_0 zp_0_0 ?_
    refine gf_7_10 dX11_go_32 hl_X11_146 nl_1 zk_1 ?_
    refine h_icmp_ge (tgt := 66) dX11_go_35 (by decide) (fun c2 => ?_) (fun c2 => ?_)
    ·
      refine h_aload_n dX11_go_66 rfl 0 rfl ?_
      refine gf_9_4 dX11_go_67 hl_X11_39 nl_0 zk_0 zp_0_4 ?_
      refine h_invV (As := []) (st := []) dX11_go_70 lk_X11_82 (h_room (by decide)) nl_32 zk_32 (by decide) rfl rfl rfl (Nat.le_of_ble_eq_true rfl) ?_
      refine c_X2_becomeStale ?_
      refine h_aload_n dX11_go_73 rfl 0 rfl ?_
      refine gf_9_1 dX11_go_74 hl_X11_19 nl_0 zk_0 zp_0_1 ?_
      refine gf_3_1 dX11_go_77 hl_X11_139 nl_12 zk_12 ?_
      exact h_iret dX11_go_80 rfl (k2 c1 c2)
    ·
      refine h_aload_n dX11_go_38 rfl 0 rfl ?_
      refine gf_9_0 dX11_go_39 hl_X11_10 nl_0 zk_0 zp_0_0 ?_
      refine h_aload_n dX11_go_42 rfl 0 rfl ?_
      refine gf_9_1 dX11_go_43 hl_X11_19 nl_0 zk_0 zp_0_1 ?_
      refine h_aload_n dX11_go_46 rfl 0 rfl ?_
      refine gf_9_0 dX11_go_47 hl_X11_10 nl_0 zk_0 zp_0_0 ?_
      refine h_aload_n dX11_go_50 rfl 0 rfl ?_
      refine gf_9_1 dX11_go_51 hl_X11_19 nl_0 zk_0 zp_0_1 ?_
      refine h_invV (As := [.ref 12]) (st := [.ref 12, .ref 1]) dX11_go_54 lk_X11_149 (h_room (by decide)) nl_1 zk_1 (by decide) rfl rfl rfl (Nat.le_of_ble_eq_true rfl) ?_
      exact k3 c1 c2
set_option maxHeartbeats 1000000 in
set_option maxRecDepth 20000 in
theorem sg_X11_go_57 {E : HEn} {d : Nat} {Q : Option Value → HIh → Prop} {I : HIh} {x1 : Int32} {x2 : Int32} {s0 : Int32}
    (k1 : HCall E me_X9_letVisit (d + 4) [.ref 1, .ref 12, .int s0] I (fun v9 J => HGo E (mF E (d + 5) Q) me_X11_go 60 [(0, .ref 0), (1, .int x1), (2, .int x2)] (v9.toList ++ []) J))
    : HGo E (mF E (d + 5) Q) me_X11_go 57 [(0, .ref 0), (1, .int x1), (2, .int x2)] [.int s0, .ref 12, .ref 1] I := by
  refine h_invV (As := [.ref 12, .int s0]) (st := []) dX11_go_57 lk_X11_142 (h_room (by decide)) nl_1 zk_1 (by decide) rfl rfl rfl (Nat.le_of_ble_eq_true rfl) ?_
  exact k1
set_option maxHeartbeats 1000000 in
set_option maxRecDepth 20000 in
theorem sg_X11_go_60 {E : HEn} {d : Nat} {Q : Option Value → HIh → Prop} {I : HIh} {x1 : Int32} {x2 : Int32}
    (k1 : HGo E (mF E (d + 5) Q) me_X11_go 16 [(0, .ref 0), (1, .int x1), (2, .int (x2 + 1))] [] I)
    : HGo E (mF E (d + 5) Q) me_X11_go 60 [(0, .ref 0), (1, .int x1), (2, .int x2)] [] I := by
  refine h_iinc (v := (x2 + 1)) (L' := [(2, .int (x2 + 1)), (0, .ref 0), (1, .int x1)]) dX11_go_60 2 rfl rfl (by decide) rfl ?_
  refine h_goto (tgt := 16) dX11_go_63 (by decide) ?_
  refine h_pick [1, 2, 0] [(0, .ref 0), (1, .int x1), (2, .int (x2 + 1))] rfl ?_
  exact k1
set_option maxHeartbeats 1000000 in
set_option maxRecDepth 20000 in
theorem sg_X11_lay_0 {E : HEn} {d : Nat} {Q : Option Value → HIh → Prop} {I : HIh} {a : Int32}
    (k1 : a < 10 → a < 20 → a = 0 → (I 1 9) ≤ 4 → HCall E me_X6_searchLayings (d + 4) [.ref 80] I (fun v9 J => HGo E (mF E (d + 5) Q) me_X11_lay 97 [(0, .ref 0), (1, .int a), (2, .int (-1)), (3, .int (-1))] (v9.toList ++ []) J))
    (k2 : a < 10 → a < 20 → a = 0 → ¬ (I 1 9) ≤ 4 → Q (some (.int (-4))) I)
    (k3 : a < 10 → a < 20 → ¬ a = 0 → a = 1 → (I 1 9) ≤ 4 → HCall E me_X6_searchLayings (d + 4) [.ref 80] I (fun v9 J => HGo E (mF E (d + 5) Q) me_X11_lay 97 [(0, .ref 0), (1, .int a), (2, .int (-1)), (3, .int (-1))] (v9.toList ++ []) J))
    (k4 : a < 10 → a < 20 → ¬ a = 0 → a = 1 → ¬ (I 1 9) ≤ 4 → Q (some (.int (-4))) I)
    (k5 : a < 10 → a < 20 → ¬ a = 0 → ¬ a = 1 → ¬ ((0 : Int32) ≤ (-1) ∧ (-1) < (I 1 9)) → ¬ ((0 : Int32) ≤ (-1) ∧ (-1) < (I 1 9)) → Q (some (.int (-3))) I)
    (k6 : a < 10 → ¬ a < 20 → 30 ≤ a → a = 0 → (I 1 9) ≤ 4 → HCall E me_X6_searchLayings (d + 4) [.ref 80] I (fun v9 J => HGo E (mF E (d + 5) Q) me_X11_lay 97 [(0, .ref 0), (1, .int a), (2, .int (-1)), (3, .int (-1))] (v9.toList ++ []) J))
    (k7 : a < 10 → ¬ a < 20 → 30 ≤ a → a = 0 → ¬ (I 1 9) ≤ 4 → Q (some (.int (-4))) I)
    (k8 : a < 10 → ¬ a < 20 → 30 ≤ a → ¬ a = 0 → a = 1 → (I 1 9) ≤ 4 → HCall E me_X6_searchLayings (d + 4) [.ref 80] I (fun v9 J => HGo E (mF E (d + 5) Q) me_X11_lay 97 [(0, .ref 0), (1, .int a), (2, .int (-1)), (3, .int (-1))] (v9.toList ++ []) J))
    (k9 : a < 10 → ¬ a < 20 → 30 ≤ a → ¬ a = 0 → a = 1 → ¬ (I 1 9) ≤ 4 → Q (some (.int (-4))) I)
    (k10 : a < 10 → ¬ a < 20 → 30 ≤ a → ¬ a = 0 → ¬ a = 1 → ¬ ((0 : Int32) ≤ (-1) ∧ (-1) < (I 1 9)) → ¬ ((0 : Int32) ≤ (-1) ∧ (-1) < (I 1 9)) → Q (some (.int (-3))) I)
    (k11 : a < 10 → ¬ a < 20 → ¬ 30 ≤ a → a = 0 → (I 1 9) ≤ 4 → HCall E me_X6_searchLayings (d + 4) [.ref 80] I (fun v9 J => HGo E (mF E (d + 5) Q) me_X11_lay 97 [(0, .ref 0), (1, .int a), (2, .int (-1)), (3, .int (a - 20))] (v9.toList ++ []) J))
    (k12 : a < 10 → ¬ a < 20 → ¬ 30 ≤ a → a = 0 → ¬ (I 1 9) ≤ 4 → Q (some (.int (-4))) I)
    (k13 : a < 10 → ¬ a < 20 → ¬ 30 ≤ a → ¬ a = 0 → a = 1 → (I 1 9) ≤ 4 → HCall E me_X6_searchLayings (d + 4) [.ref 80] I (fun v9 J => HGo E (mF E (d + 5) Q) me_X11_lay 97 [(0, .ref 0), (1, .int a), (2, .int (-1)), (3, .int (a - 20))] (v9.toList ++ []) J))
    (k14 : a < 10 → ¬ a < 20 → ¬ 30 ≤ a → ¬ a = 0 → a = 1 → ¬ (I 1 9) ≤ 4 → Q (some (.int (-4))) I)
    (k15 : a < 10 → ¬ a < 20 → ¬ 30 ≤ a → ¬ a = 0 → ¬ a = 1 → ¬ ((0 : Int32) ≤ (-1) ∧ (-1) < (I 1 9)) → (0 : Int32) ≤ (a - 20) → (a - 20) < (I 1 9) → (I 1 9) ≤ 4 → HCall E me_X6_searchLayings (d + 4) [.ref 80] I (fun v9 J => HGo E (mF E (d + 5) Q) me_X11_lay 97 [(0, .ref 0), (1, .int a), (2, .int (-1)), (3, .int (a - 20))] (v9.toList ++ []) J))
    (k16 : a < 10 → ¬ a < 20 → ¬ 30 ≤ a → ¬ a = 0 → ¬ a = 1 → ¬ ((0 : Int32) ≤ (-1) ∧ (-1) < (I 1 9)) → (0 : Int32) ≤ (a - 20) → (a - 20) < (I 1 9) → ¬ (I 1 9) ≤ 4 → Q (some (.int (-4))) I)
    (k17 : a < 10 → ¬ a < 20 → ¬ 30 ≤ a → ¬ a = 0 → ¬ a = 1 → ¬ ((0 : Int32) ≤ (-1) ∧ (-1) < (I 1 9)) → ¬ ((0 : Int32) ≤ (a - 20) ∧ (a - 20) < (I 1 9)) → Q (some (.int (-3))) I)
    (k18 : ¬ a < 10 → 20 ≤ a → a < 20 → a = 0 → (I 1 9) ≤ 4 → HCall E me_X6_searchLayings (d + 4) [.ref 80] I (fun v9 J => HGo E (mF E (d + 5) Q) me_X11_lay 97 [(0, .ref 0), (1, .int a), (2, .int (-1)), (3, .int (-1))] (v9.toList ++ []) J))
    (k19 : ¬ a < 10 → 20 ≤ a → a < 20 → a = 0 → ¬ (I 1 9) ≤ 4 → Q (some (.int (-4))) I)
    (k20 : ¬ a < 10 → 20 ≤ a → a < 20 → ¬ a = 0 → a = 1 → (I 1 9) ≤ 4 → HCall E me_X6_searchLayings (d + 4) [.ref 80] I (fun v9 J => HGo E (mF E (d + 5) Q) me_X11_lay 97 [(0, .ref 0), (1, .int a), (2, .int (-1)), (3, .int (-1))] (v9.toList ++ []) J))
    (k21 : ¬ a < 10 → 20 ≤ a → a < 20 → ¬ a = 0 → a = 1 → ¬ (I 1 9) ≤ 4 → Q (some (.int (-4))) I)
    (k22 : ¬ a < 10 → 20 ≤ a → a < 20 → ¬ a = 0 → ¬ a = 1 → ¬ ((0 : Int32) ≤ (-1) ∧ (-1) < (I 1 9)) → ¬ ((0 : Int32) ≤ (-1) ∧ (-1) < (I 1 9)) → Q (some (.int (-3))) I)
    (k23 : ¬ a < 10 → 20 ≤ a → ¬ a < 20 → 30 ≤ a → a = 0 → (I 1 9) ≤ 4 → HCall E me_X6_searchLayings (d + 4) [.ref 80] I (fun v9 J => HGo E (mF E (d + 5) Q) me_X11_lay 97 [(0, .ref 0), (1, .int a), (2, .int (-1)), (3, .int (-1))] (v9.toList ++ []) J))
    (k24 : ¬ a < 10 → 20 ≤ a → ¬ a < 20 → 30 ≤ a → a = 0 → ¬ (I 1 9) ≤ 4 → Q (some (.int (-4))) I)
    (k25 : ¬ a < 10 → 20 ≤ a → ¬ a < 20 → 30 ≤ a → ¬ a = 0 → a = 1 → (I 1 9) ≤ 4 → HCall E me_X6_searchLayings (d + 4) [.ref 80] I (fun v9 J => HGo E (mF E (d + 5) Q) me_X11_lay 97 [(0, .ref 0), (1, .int a), (2, .int (-1)), (3, .int (-1))] (v9.toList ++ []) J))
    (k26 : ¬ a < 10 → 20 ≤ a → ¬ a < 20 → 30 ≤ a → ¬ a = 0 → a = 1 → ¬ (I 1 9) ≤ 4 → Q (some (.int (-4))) I)
    (k27 : ¬ a < 10 → 20 ≤ a → ¬ a < 20 → 30 ≤ a → ¬ a = 0 → ¬ a = 1 → ¬ ((0 : Int32) ≤ (-1) ∧ (-1) < (I 1 9)) → ¬ ((0 : Int32) ≤ (-1) ∧ (-1) < (I 1 9)) → Q (some (.int (-3))) I)
    (k28 : ¬ a < 10 → 20 ≤ a → ¬ a < 20 → ¬ 30 ≤ a → a = 0 → (I 1 9) ≤ 4 → HCall E me_X6_searchLayings (d + 4) [.ref 80] I (fun v9 J => HGo E (mF E (d + 5) Q) me_X11_lay 97 [(0, .ref 0), (1, .int a), (2, .int (-1)), (3, .int (a - 20))] (v9.toList ++ []) J))
    (k29 : ¬ a < 10 → 20 ≤ a → ¬ a < 20 → ¬ 30 ≤ a → a = 0 → ¬ (I 1 9) ≤ 4 → Q (some (.int (-4))) I)
    (k30 : ¬ a < 10 → 20 ≤ a → ¬ a < 20 → ¬ 30 ≤ a → ¬ a = 0 → a = 1 → (I 1 9) ≤ 4 → HCall E me_X6_searchLayings (d + 4) [.ref 80] I (fun v9 J => HGo E (mF E (d + 5) Q) me_X11_lay 97 [(0, .ref 0), (1, .int a), (2, .int (-1)), (3, .int (a - 20))] (v9.toList ++ []) J))
    (k31 : ¬ a < 10 → 20 ≤ a → ¬ a < 20 → ¬ 30 ≤ a → ¬ a = 0 → a = 1 → ¬ (I 1 9) ≤ 4 → Q (some (.int (-4))) I)
    (k32 : ¬ a < 10 → 20 ≤ a → ¬ a < 20 → ¬ 30 ≤ a → ¬ a = 0 → ¬ a = 1 → ¬ ((0 : Int32) ≤ (-1) ∧ (-1) < (I 1 9)) → (0 : Int32) ≤ (a - 20) → (a - 20) < (I 1 9) → (I 1 9) ≤ 4 → HCall E me_X6_searchLayings (d + 4) [.ref 80] I (fun v9 J => HGo E (mF E (d + 5) Q) me_X11_lay 97 [(0, .ref 0), (1, .int a), (2, .int (-1)), (3, .int (a - 20))] (v9.toList ++ []) J))
    (k33 : ¬ a < 10 → 20 ≤ a → ¬ a < 20 → ¬ 30 ≤ a → ¬ a = 0 → ¬ a = 1 → ¬ ((0 : Int32) ≤ (-1) ∧ (-1) < (I 1 9)) → (0 : Int32) ≤ (a - 20) → (a - 20) < (I 1 9) → ¬ (I 1 9) ≤ 4 → Q (some (.int (-4))) I)
    (k34 : ¬ a < 10 → 20 ≤ a → ¬ a < 20 → ¬ 30 ≤ a → ¬ a = 0 → ¬ a = 1 → ¬ ((0 : Int32) ≤ (-1) ∧ (-1) < (I 1 9)) → ¬ ((0 : Int32) ≤ (a - 20) ∧ (a - 20) < (I 1 9)) → Q (some (.int (-3))) I)
    (k35 : ¬ a < 10 → ¬ 20 ≤ a → a < 20 → a = 0 → (I 1 9) ≤ 4 → HCall E me_X6_searchLayings (d + 4) [.ref 80] I (fun v9 J => HGo E (mF E (d + 5) Q) me_X11_lay 97 [(0, .ref 0), (1, .int a), (2, .int (a - 10)), (3, .int (-1))] (v9.toList ++ []) J))
    (k36 : ¬ a < 10 → ¬ 20 ≤ a → a < 20 → a = 0 → ¬ (I 1 9) ≤ 4 → Q (some (.int (-4))) I)
    (k37 : ¬ a < 10 → ¬ 20 ≤ a → a < 20 → ¬ a = 0 → a = 1 → (I 1 9) ≤ 4 → HCall E me_X6_searchLayings (d + 4) [.ref 80] I (fun v9 J => HGo E (mF E (d + 5) Q) me_X11_lay 97 [(0, .ref 0), (1, .int a), (2, .int (a - 10)), (3, .int (-1))] (v9.toList ++ []) J))
    (k38 : ¬ a < 10 → ¬ 20 ≤ a → a < 20 → ¬ a = 0 → a = 1 → ¬ (I 1 9) ≤ 4 → Q (some (.int (-4))) I)
    (k39 : ¬ a < 10 → ¬ 20 ≤ a → a < 20 → ¬ a = 0 → ¬ a = 1 → (0 : Int32) ≤ (a - 10) → (a - 10) < (I 1 9) → (I 1 9) ≤ 4 → HCall E me_X6_searchLayings (d + 4) [.ref 80] I (fun v9 J => HGo E (mF E (d + 5) Q) me_X11_lay 97 [(0, .ref 0), (1, .int a), (2, .int (a - 10)), (3, .int (-1))] (v9.toList ++ []) J))
    (k40 : ¬ a < 10 → ¬ 20 ≤ a → a < 20 → ¬ a = 0 → ¬ a = 1 → (0 : Int32) ≤ (a - 10) → (a - 10) < (I 1 9) → ¬ (I 1 9) ≤ 4 → Q (some (.int (-4))) I)
    (k41 : ¬ a < 10 → ¬ 20 ≤ a → a < 20 → ¬ a = 0 → ¬ a = 1 → ¬ ((0 : Int32) ≤ (a - 10) ∧ (a - 10) < (I 1 9)) → ¬ ((0 : Int32) ≤ (-1) ∧ (-1) < (I 1 9)) → Q (some (.int (-3))) I)
    (k42 : ¬ a < 10 → ¬ 20 ≤ a → ¬ a < 20 → 30 ≤ a → a = 0 → (I 1 9) ≤ 4 → HCall E me_X6_searchLayings (d + 4) [.ref 80] I (fun v9 J => HGo E (mF E (d + 5) Q) me_X11_lay 97 [(0, .ref 0), (1, .int a), (2, .int (a - 10)), (3, .int (-1))] (v9.toList ++ []) J))
    (k43 : ¬ a < 10 → ¬ 20 ≤ a → ¬ a < 20 → 30 ≤ a → a = 0 → ¬ (I 1 9) ≤ 4 → Q (some (.int (-4))) I)
    (k44 : ¬ a < 10 → ¬ 20 ≤ a → ¬ a < 20 → 30 ≤ a → ¬ a = 0 → a = 1 → (I 1 9) ≤ 4 → HCall E me_X6_searchLayings (d + 4) [.ref 80] I (fun v9 J => HGo E (mF E (d + 5) Q) me_X11_lay 97 [(0, .ref 0), (1, .int a), (2, .int (a - 10)), (3, .int (-1))] (v9.toList ++ []) J))
    (k45 : ¬ a < 10 → ¬ 20 ≤ a → ¬ a < 20 → 30 ≤ a → ¬ a = 0 → a = 1 → ¬ (I 1 9) ≤ 4 → Q (some (.int (-4))) I)
    (k46 : ¬ a < 10 → ¬ 20 ≤ a → ¬ a < 20 → 30 ≤ a → ¬ a = 0 → ¬ a = 1 → (0 : Int32) ≤ (a - 10) → (a - 10) < (I 1 9) → (I 1 9) ≤ 4 → HCall E me_X6_searchLayings (d + 4) [.ref 80] I (fun v9 J => HGo E (mF E (d + 5) Q) me_X11_lay 97 [(0, .ref 0), (1, .int a), (2, .int (a - 10)), (3, .int (-1))] (v9.toList ++ []) J))
    (k47 : ¬ a < 10 → ¬ 20 ≤ a → ¬ a < 20 → 30 ≤ a → ¬ a = 0 → ¬ a = 1 → (0 : Int32) ≤ (a - 10) → (a - 10) < (I 1 9) → ¬ (I 1 9) ≤ 4 → Q (some (.int (-4))) I)
    (k48 : ¬ a < 10 → ¬ 20 ≤ a → ¬ a < 20 → 30 ≤ a → ¬ a = 0 → ¬ a = 1 → ¬ ((0 : Int32) ≤ (a - 10) ∧ (a - 10) < (I 1 9)) → ¬ ((0 : Int32) ≤ (-1) ∧ (-1) < (I 1 9)) → Q (some (.int (-3))) I)
    (k49 : ¬ a < 10 → ¬ 20 ≤ a → ¬ a < 20 → ¬ 30 ≤ a → a = 0 → (I 1 9) ≤ 4 → HCall E me_X6_searchLayings (d + 4) [.ref 80] I (fun v9 J => HGo E (mF E (d + 5) Q) me_X11_lay 97 [(0, .ref 0), (1, .int a), (2, .int (a - 10)), (3, .int (a - 20))] (v9.toList ++ []) J))
    (k50 : ¬ a < 10 → ¬ 20 ≤ a → ¬ a < 20 → ¬ 30 ≤ a → a = 0 → ¬ (I 1 9) ≤ 4 → Q (some (.int (-4))) I)
    (k51 : ¬ a < 10 → ¬ 20 ≤ a → ¬ a < 20 → ¬ 30 ≤ a → ¬ a = 0 → a = 1 → (I 1 9) ≤ 4 → HCall E me_X6_searchLayings (d + 4) [.ref 80] I (fun v9 J => HGo E (mF E (d + 5) Q) me_X11_lay 97 [(0, .ref 0), (1, .int a), (2, .int (a - 10)), (3, .int (a - 20))] (v9.toList ++ []) J))
    (k52 : ¬ a < 10 → ¬ 20 ≤ a → ¬ a < 20 → ¬ 30 ≤ a → ¬ a = 0 → a = 1 → ¬ (I 1 9) ≤ 4 → Q (some (.int (-4))) I)
    (k53 : ¬ a < 10 → ¬ 20 ≤ a → ¬ a < 20 → ¬ 30 ≤ a → ¬ a = 0 → ¬ a = 1 → (0 : Int32) ≤ (a - 10) → (a - 10) < (I 1 9) → (I 1 9) ≤ 4 → HCall E me_X6_searchLayings (d + 4) [.ref 80] I (fun v9 J => HGo E (mF E (d + 5) Q) me_X11_lay 97 [(0, .ref 0), (1, .int a), (2, .int (a - 10)), (3, .int (a - 20))] (v9.toList ++ []) J))
    (k54 : ¬ a < 10 → ¬ 20 ≤ a → ¬ a < 20 → ¬ 30 ≤ a → ¬ a = 0 → ¬ a = 1 → (0 : Int32) ≤ (a - 10) → (a - 10) < (I 1 9) → ¬ (I 1 9) ≤ 4 → Q (some (.int (-4))) I)
    (k55 : ¬ a < 10 → ¬ 20 ≤ a → ¬ a < 20 → ¬ 30 ≤ a → ¬ a = 0 → ¬ a = 1 → ¬ ((0 : Int32) ≤ (a - 10) ∧ (a - 10) < (I 1 9)) → (0 : Int32) ≤ (a - 20) → (a - 20) < (I 1 9) → (I 1 9) ≤ 4 → HCall E me_X6_searchLayings (d + 4) [.ref 80] I (fun v9 J => HGo E (mF E (d + 5) Q) me_X11_lay 97 [(0, .ref 0), (1, .int a), (2, .int (a - 10)), (3, .int (a - 20))] (v9.toList ++ []) J))
    (k56 : ¬ a < 10 → ¬ 20 ≤ a → ¬ a < 20 → ¬ 30 ≤ a → ¬ a = 0 → ¬ a = 1 → ¬ ((0 : Int32) ≤ (a - 10) ∧ (a - 10) < (I 1 9)) → (0 : Int32) ≤ (a - 20) → (a - 20) < (I 1 9) → ¬ (I 1 9) ≤ 4 → Q (some (.int (-4))) I)
    (k57 : ¬ a < 10 → ¬ 20 ≤ a → ¬ a < 20 → ¬ 30 ≤ a → ¬ a = 0 → ¬ a = 1 → ¬ ((0 : Int32) ≤ (a - 10) ∧ (a - 10) < (I 1 9)) → ¬ ((0 : Int32) ≤ (a - 20) ∧ (a - 20) < (I 1 9)) → Q (some (.int (-3))) I)
    : HGo E (mF E (d + 5) Q) me_X11_lay 0 [(0, .ref 0), (1, .int a)] [] I := by
  refine h_iload_n dX11_lay_0 rfl 1 rfl ?_
  refine h_bipush (v := 10) dX11_lay_1 (by decide) ?_
  refine h_icmp_lt (tgt := 19) dX11_lay_3 (by decide) (fun c1 => ?_) (fun c1 => ?_)
  ·
    refine h_iconst (v := (-1)) dX11_lay_19 (by decide) ?_
    refine h_istore_n (L' := [(2, .int (-1)), (0, .ref 0), (1, .int a)]) dX11_lay_20 rfl (by decide) rfl ?_
    refine h_iload_n dX11_lay_21 rfl 2 rfl ?_
    refine h_bipush (v := 20) dX11_lay_22 (by decide) ?_
    refine h_icmp_lt (tgt := 40) dX11_lay_24 (by decide) (fun c2 => ?_) (fun c2 => ?_)
    ·
      refine h_iconst (v := (-1)) dX11_lay_40 (by decide) ?_
      refine h_istore_n (L' := [(3, .int (-1)), (2, .int (-1)), (0, .ref 0), (1, .int a)]) dX11_lay_41 rfl (by decide) rfl ?_
      refine h_iload_n dX11_lay_42 rfl 3 rfl ?_
      refine h_if_eq (tgt := 76) dX11_lay_43 (by decide) (fun c3 => ?_) (fun c3 => ?_)
      ·
        refine h_aload_n dX11_lay_76 rfl 2 rfl ?_
        refine gf_9_0 dX11_lay_77 hl_X11_10 nl_0 zk_0 zp_0_0 ?_
        refine gf_7_9 dX11_lay_80 hl_X11_190 nl_1 zk_1 ?_
        refine h_iconst (v := 4) dX11_lay_83 (by decide) ?_
        refine h_icmp_le (tgt := 90) dX11_lay_84 (by decide) (fun c4 => ?_) (fun c4 => ?_)
        ·
          refine h_aload_n dX11_lay_90 rfl 2 rfl ?_
          refine gf_9_5 dX11_lay_91 hl_X11_46 nl_0 zk_0 zp_0_5 ?_
          refine h_pick [2, 3, 1, 0] [(0, .ref 0), (1, .int a), (2, .int (-1)), (3, .int (-1))] rfl ?_
          refine h_invV (As := []) (st := []) dX11_lay_94 lk_X11_193 (h_room (by decide)) nl_80 zk_80 (by decide) rfl rfl rfl (Nat.le_of_ble_eq_true rfl) ?_
          exact k1 c1 c2 c3 c4
        ·
          refine h_bipush (v := (-4)) dX11_lay_87 (by decide) ?_
          exact h_iret dX11_lay_89 rfl (k2 c1 c2 c3 c4)
      ·
        refine h_iload_n dX11_lay_46 rfl 3 rfl ?_
        refine h_iconst (v := 1) dX11_lay_47 (by decide) ?_
        refine h_icmp_eq (tgt := 76) dX11_lay_48 (by decide) (fun c5 => ?_) (fun c5 => ?_)
        ·
          refine h_aload_n dX11_lay_76 rfl 2 rfl ?_
          refine gf_9_0 dX11_lay_77 hl_X11_10 nl_0 zk_0 zp_0_0 ?_
          refine gf_7_9 dX11_lay_80 hl_X11_190 nl_1 zk_1 ?_
          refine h_iconst (v := 4) dX11_lay_83 (by decide) ?_
          refine h_icmp_le (tgt := 90) dX11_lay_84 (by decide) (fun c6 => ?_) (fun c6 => ?_)
          ·
            refine h_aload_n dX11_lay_90 rfl 2 rfl ?_
            refine gf_9_5 dX11_lay_91 hl_X11_46 nl_0 zk_0 zp_0_5 ?_
            refine h_pick [2, 3, 1, 0] [(0, .ref 0), (1, .int a), (2, .int (-1)), (3, .int (-1))] rfl ?_
            refine h_invV (As := []) (st := []) dX11_lay_94 lk_X11_193 (h_room (by decide)) nl_80 zk_80 (by decide) rfl rfl rfl (Nat.le_of_ble_eq_true rfl) ?_
            exact k3 c1 c2 c3 c5 c6
          ·
            refine h_bipush (v := (-4)) dX11_lay_87 (by decide) ?_
            exact h_iret dX11_lay_89 rfl (k4 c1 c2 c3 c5 c6)
        ·
          refine h_aload_n dX11_lay_51 rfl 2 rfl ?_
          refine gf_9_0 dX11_lay_52 hl_X11_10 nl_0 zk_0 zp_0_0 ?_
          refine h_iload_n dX11_lay_55 rfl 1 rfl ?_
          refine h_invV (As := [.int (-1)]) (st := []) dX11_lay_56 lk_X11_88 (h_room (by decide)) nl_1 zk_1 (by decide) rfl rfl rfl (Nat.le_of_ble_eq_true rfl) ?_
          refine c_X9_hasKind (fun c7 c8 => absurd c7 (by decide)) (fun c9 => ?_)
          ·
            refine h_if_ne (tgt := 76) dX11_lay_59 (by decide) (fun c => absurd c (by decide)) (fun _ => ?_)
            refine h_aload_n dX11_lay_62 rfl 2 rfl ?_
            refine gf_9_0 dX11_lay_63 hl_X11_10 nl_0 zk_0 zp_0_0 ?_
            refine h_iload_n dX11_lay_66 rfl 0 rfl ?_
            refine h_invV (As := [.int (-1)]) (st := []) dX11_lay_67 lk_X11_88 (h_room (by decide)) nl_1 zk_1 (by decide) rfl rfl rfl (Nat.le_of_ble_eq_true rfl) ?_
            refine c_X9_hasKind (fun c10 c11 => absurd c10 (by decide)) (fun c12 => ?_)
            ·
              refine h_if_ne (tgt := 76) dX11_lay_70 (by decide) (fun c => absurd c (by decide)) (fun _ => ?_)
              refine h_bipush (v := (-3)) dX11_lay_73 (by decide) ?_
              exact h_iret dX11_lay_75 rfl (k5 c1 c2 c3 c5 c9 c12)
    ·
      refine h_iload_n dX11_lay_27 rfl 2 rfl ?_
      refine h_bipush (v := 30) dX11_lay_28 (by decide) ?_
      refine h_icmp_ge (tgt := 40) dX11_lay_30 (by decide) (fun c13 => ?_) (fun c13 => ?_)
      ·
        refine h_iconst (v := (-1)) dX11_lay_40 (by decide) ?_
        refine h_istore_n (L' := [(3, .int (-1)), (2, .int (-1)), (0, .ref 0), (1, .int a)]) dX11_lay_41 rfl (by decide) rfl ?_
        refine h_iload_n dX11_lay_42 rfl 3 rfl ?_
        refine h_if_eq (tgt := 76) dX11_lay_43 (by decide) (fun c14 => ?_) (fun c14 => ?_)
        ·
          refine h_aload_n dX11_lay_76 rfl 2 rfl ?_
          refine gf_9_0 dX11_lay_77 hl_X11_10 nl_0 zk_0 zp_0_0 ?_
          refine gf_7_9 dX11_lay_80 hl_X11_190 nl_1 zk_1 ?_
          refine h_iconst (v := 4) dX11_lay_83 (by decide) ?_
          refine h_icmp_le (tgt := 90) dX11_lay_84 (by decide) (fun c15 => ?_) (fun c15 => ?_)
          ·
            refine h_aload_n dX11_lay_90 rfl 2 rfl ?_
            refine gf_9_5 dX11_lay_91 hl_X11_46 nl_0 zk_0 zp_0_5 ?_
            refine h_pick [2, 3, 1, 0] [(0, .ref 0), (1, .int a), (2, .int (-1)), (3, .int (-1))] rfl ?_
            refine h_invV (As := []) (st := []) dX11_lay_94 lk_X11_193 (h_room (by decide)) nl_80 zk_80 (by decide) rfl rfl rfl (Nat.le_of_ble_eq_true rfl) ?_
            exact k6 c1 c2 c13 c14 c15
          ·
            refine h_bipush (v := (-4)) dX11_lay_87 (by decide) ?_
            exact h_iret dX11_lay_89 rfl (k7 c1 c2 c13 c14 c15)
        ·
          refine h_iload_n dX11_lay_46 rfl 3 rfl ?_
          refine h_iconst (v := 1) dX11_lay_47 (by decide) ?_
          refine h_icmp_eq (tgt := 76) dX11_lay_48 (by decide) (fun c16 => ?_) (fun c16 => ?_)
          ·
            refine h_aload_n dX11_lay_76 rfl 2 rfl ?_
            refine gf_9_0 dX11_lay_77 hl_X11_10 nl_0 zk_0 zp_0_0 ?_
            refine gf_7_9 dX11_lay_80 hl_X11_190 nl_1 zk_1 ?_
            refine h_iconst (v := 4) dX11_lay_83 (by decide) ?_
            refine h_icmp_le (tgt := 90) dX11_lay_84 (by decide) (fun c17 => ?_) (fun c17 => ?_)
            ·
              refine h_aload_n dX11_lay_90 rfl 2 rfl ?_
              refine gf_9_5 dX11_lay_91 hl_X11_46 nl_0 zk_0 zp_0_5 ?_
              refine h_pick [2, 3, 1, 0] [(0, .ref 0), (1, .int a), (2, .int (-1)), (3, .int (-1))] rfl ?_
              refine h_invV (As := []) (st := []) dX11_lay_94 lk_X11_193 (h_room (by decide)) nl_80 zk_80 (by decide) rfl rfl rfl (Nat.le_of_ble_eq_true rfl) ?_
              exact k8 c1 c2 c13 c14 c16 c17
            ·
              refine h_bipush (v := (-4)) dX11_lay_87 (by decide) ?_
              exact h_iret dX11_lay_89 rfl (k9 c1 c2 c13 c14 c16 c17)
          ·
            refine h_aload_n dX11_lay_51 rfl 2 rfl ?_
            refine gf_9_0 dX11_lay_52 hl_X11_10 nl_0 zk_0 zp_0_0 ?_
            refine h_iload_n dX11_lay_55 rfl 1 rfl ?_
            refine h_invV (As := [.int (-1)]) (st := []) dX11_lay_56 lk_X11_88 (h_room (by decide)) nl_1 zk_1 (by decide) rfl rfl rfl (Nat.le_of_ble_eq_true rfl) ?_
            refine c_X9_hasKind (fun c18 c19 => absurd c18 (by decide)) (fun c20 => ?_)
            ·
              refine h_if_ne (tgt := 76) dX11_lay_59 (by decide) (fun c => absurd c (by decide)) (fun _ => ?_)
              refine h_aload_n dX11_lay_62 rfl 2 rfl ?_
              refine gf_9_0 dX11_lay_63 hl_X11_10 nl_0 zk_0 zp_0_0 ?_
              refine h_iload_n dX11_lay_66 rfl 0 rfl ?_
              refine h_invV (As := [.int (-1)]) (st := []) dX11_lay_67 lk_X11_88 (h_room (by decide)) nl_1 zk_1 (by decide) rfl rfl rfl (Nat.le_of_ble_eq_true rfl) ?_
              refine c_X9_hasKind (fun c21 c22 => absurd c21 (by decide)) (fun c23 => ?_)
              ·
                refine h_if_ne (tgt := 76) dX11_lay_70 (by decide) (fun c => absurd c (by decide)) (fun _ => ?_)
                refine h_bipush (v := (-3)) dX11_lay_73 (by decide) ?_
                exact h_iret dX11_lay_75 rfl (k10 c1 c2 c13 c14 c16 c20 c23)
      ·
        refine h_iload_n dX11_lay_33 rfl 2 rfl ?_
        refine h_bipush (v := 20) dX11_lay_34 (by decide) ?_
        refine h_isub dX11_lay_36 ?_
        refine h_goto (tgt := 41) dX11_lay_37 (by decide) ?_
        refine h_istore_n (L' := [(3, .int (a - 20)), (2, .int (-1)), (0, .ref 0), (1, .int a)]) dX11_lay_41 rfl (by decide) rfl ?_
        refine h_iload_n dX11_lay_42 rfl 3 rfl ?_
        refine h_if_eq (tgt := 76) dX11_lay_43 (by decide) (fun c24 => ?_) (fun c24 => ?_)
        ·
          refine h_aload_n dX11_lay_76 rfl 2 rfl ?_
          refine gf_9_0 dX11_lay_77 hl_X11_10 nl_0 zk_0 zp_0_0 ?_
          refine gf_7_9 dX11_lay_80 hl_X11_190 nl_1 zk_1 ?_
          refine h_iconst (v := 4) dX11_lay_83 (by decide) ?_
          refine h_icmp_le (tgt := 90) dX11_lay_84 (by decide) (fun c25 => ?_) (fun c25 => ?_)
          ·
            refine h_aload_n dX11_lay_90 rfl 2 rfl ?_
            refine gf_9_5 dX11_lay_91 hl_X11_46 nl_0 zk_0 zp_0_5 ?_
            refine h_pick [2, 3, 1, 0] [(0, .ref 0), (1, .int a), (2, .int (-1)), (3, .int (a - 20))] rfl ?_
            refine h_invV (As := []) (st := []) dX11_lay_94 lk_X11_193 (h_room (by decide)) nl_80 zk_80 (by decide) rfl rfl rfl (Nat.le_of_ble_eq_true rfl) ?_
            exact k11 c1 c2 c13 c24 c25
          ·
            refine h_bipush (v := (-4)) dX11_lay_87 (by decide) ?_
            exact h_iret dX11_lay_89 rfl (k12 c1 c2 c13 c24 c25)
        ·
          refine h_iload_n dX11_lay_46 rfl 3 rfl ?_
          refine h_iconst (v := 1) dX11_lay_47 (by decide) ?_
          refine h_icmp_eq (tgt := 76) dX11_lay_48 (by decide) (fun c26 => ?_) (fun c26 => ?_)
          ·
            refine h_aload_n dX11_lay_76 rfl 2 rfl ?_
            refine gf_9_0 dX11_lay_77 hl_X11_10 nl_0 zk_0 zp_0_0 ?_
            refine gf_7_9 dX11_lay_80 hl_X11_190 nl_1 zk_1 ?_
            refine h_iconst (v := 4) dX11_lay_83 (by decide) ?_
            refine h_icmp_le (tgt := 90) dX11_lay_84 (by decide) (fun c27 => ?_) (fun c27 => ?_)
            ·
              refine h_aload_n dX11_lay_90 rfl 2 rfl ?_
              refine gf_9_5 dX11_lay_91 hl_X11_46 nl_0 zk_0 zp_0_5 ?_
              refine h_pick [2, 3, 1, 0] [(0, .ref 0), (1, .int a), (2, .int (-1)), (3, .int (a - 20))] rfl ?_
              refine h_invV (As := []) (st := []) dX11_lay_94 lk_X11_193 (h_room (by decide)) nl_80 zk_80 (by decide) rfl rfl rfl (Nat.le_of_ble_eq_true rfl) ?_
              exact k13 c1 c2 c13 c24 c26 c27
            ·
              refine h_bipush (v := (-4)) dX11_lay_87 (by decide) ?_
              exact h_iret dX11_lay_89 rfl (k14 c1 c2 c13 c24 c26 c27)
          ·
            refine h_aload_n dX11_lay_51 rfl 2 rfl ?_
            refine gf_9_0 dX11_lay_52 hl_X11_10 nl_0 zk_0 zp_0_0 ?_
            refine h_iload_n dX11_lay_55 rfl 1 rfl ?_
            refine h_invV (As := [.int (-1)]) (st := []) dX11_lay_56 lk_X11_88 (h_room (by decide)) nl_1 zk_1 (by decide) rfl rfl rfl (Nat.le_of_ble_eq_true rfl) ?_
            refine c_X9_hasKind (fun c28 c29 => absurd c28 (by decide)) (fun c30 => ?_)
            ·
              refine h_if_ne (tgt := 76) dX11_lay_59 (by decide) (fun c => absurd c (by decide)) (fun _ => ?_)
              refine h_aload_n dX11_lay_62 rfl 2 rfl ?_
              refine gf_9_0 dX11_lay_63 hl_X11_10 nl_0 zk_0 zp_0_0 ?_
              refine h_iload_n dX11_lay_66 rfl 0 rfl ?_
              refine h_invV (As := [.int (a - 20)]) (st := []) dX11_lay_67 lk_X11_88 (h_room (by decide)) nl_1 zk_1 (by decide) rfl rfl rfl (Nat.le_of_ble_eq_true rfl) ?_
              refine c_X9_hasKind (fun c31 c32 => ?_) (fun c33 => ?_)
              ·
                refine h_if_ne (tgt := 76) dX11_lay_70 (by decide) (fun _ => ?_) (fun c => absurd c (by decide))
                refine h_aload_n dX11_lay_76 rfl 2 rfl ?_
                refine gf_9_0 dX11_lay_77 hl_X11_10 nl_0 zk_0 zp_0_0 ?_
                refine gf_7_9 dX11_lay_80 hl_X11_190 nl_1 zk_1 ?_
                refine h_iconst (v := 4) dX11_lay_83 (by decide) ?_
                refine h_icmp_le (tgt := 90) dX11_lay_84 (by decide) (fun c34 => ?_) (fun c34 => ?_)
                ·
                  refine h_aload_n dX11_lay_90 rfl 2 rfl ?_
                  refine gf_9_5 dX11_lay_91 hl_X11_46 nl_0 zk_0 zp_0_5 ?_
                  refine h_pick [2, 3, 1, 0] [(0, .ref 0), (1, .int a), (2, .int (-1)), (3, .int (a - 20))] rfl ?_
                  refine h_invV (As := []) (st := []) dX11_lay_94 lk_X11_193 (h_room (by decide)) nl_80 zk_80 (by decide) rfl rfl rfl (Nat.le_of_ble_eq_true rfl) ?_
                  exact k15 c1 c2 c13 c24 c26 c30 c31 c32 c34
                ·
                  refine h_bipush (v := (-4)) dX11_lay_87 (by decide) ?_
                  exact h_iret dX11_lay_89 rfl (k16 c1 c2 c13 c24 c26 c30 c31 c32 c34)
              ·
                refine h_if_ne (tgt := 76) dX11_lay_70 (by decide) (fun c => absurd c (by decide)) (fun _ => ?_)
                refine h_bipush (v := (-3)) dX11_lay_73 (by decide) ?_
                exact h_iret dX11_lay_75 rfl (k17 c1 c2 c13 c24 c26 c30 c33)
  ·
    refine h_iload_n dX11_lay_6 rfl 1 rfl ?_
    refine h_bipush (v := 20) dX11_lay_7 (by decide) ?_
    refine h_icmp_ge (tgt := 19) dX11_lay_9 (by decide) (fun c35 => ?_) (fun c35 => ?_)
    ·
      refine h_iconst (v := (-1)) dX11_lay_19 (by decide) ?_
      refine h_istore_n (L' := [(2, .int (-1)), (0, .ref 0), (1, .int a)]) dX11_lay_20 rfl (by decide) rfl ?_
      refine h_iload_n dX11_lay_21 rfl 2 rfl ?_
      refine h_bipush (v := 20) dX11_lay_22 (by decide) ?_
      refine h_icmp_lt (tgt := 40) dX11_lay_24 (by decide) (fun c36 => ?_) (fun c36 => ?_)
      ·
        refine h_iconst (v := (-1)) dX11_lay_40 (by decide) ?_
        refine h_istore_n (L' := [(3, .int (-1)), (2, .int (-1)), (0, .ref 0), (1, .int a)]) dX11_lay_41 rfl (by decide) rfl ?_
        refine h_iload_n dX11_lay_42 rfl 3 rfl ?_
        refine h_if_eq (tgt := 76) dX11_lay_43 (by decide) (fun c37 => ?_) (fun c37 => ?_)
        ·
          refine h_aload_n dX11_lay_76 rfl 2 rfl ?_
          refine gf_9_0 dX11_lay_77 hl_X11_10 nl_0 zk_0 zp_0_0 ?_
          refine gf_7_9 dX11_lay_80 hl_X11_190 nl_1 zk_1 ?_
          refine h_iconst (v := 4) dX11_lay_83 (by decide) ?_
          refine h_icmp_le (tgt := 90) dX11_lay_84 (by decide) (fun c38 => ?_) (fun c38 => ?_)
          ·
            refine h_aload_n dX11_lay_90 rfl 2 rfl ?_
            refine gf_9_5 dX11_lay_91 hl_X11_46 nl_0 zk_0 zp_0_5 ?_
            refine h_pick [2, 3, 1, 0] [(0, .ref 0), (1, .int a), (2, .int (-1)), (3, .int (-1))] rfl ?_
            refine h_invV (As := []) (st := []) dX11_lay_94 lk_X11_193 (h_room (by decide)) nl_80 zk_80 (by decide) rfl rfl rfl (Nat.le_of_ble_eq_true rfl) ?_
            exact k18 c1 c35 c36 c37 c38
          ·
            refine h_bipush (v := (-4)) dX11_lay_87 (by decide) ?_
            exact h_iret dX11_lay_89 rfl (k19 c1 c35 c36 c37 c38)
        ·
          refine h_iload_n dX11_lay_46 rfl 3 rfl ?_
          refine h_iconst (v := 1) dX11_lay_47 (by decide) ?_
          refine h_icmp_eq (tgt := 76) dX11_lay_48 (by decide) (fun c39 => ?_) (fun c39 => ?_)
          ·
            refine h_aload_n dX11_lay_76 rfl 2 rfl ?_
            refine gf_9_0 dX11_lay_77 hl_X11_10 nl_0 zk_0 zp_0_0 ?_
            refine gf_7_9 dX11_lay_80 hl_X11_190 nl_1 zk_1 ?_
            refine h_iconst (v := 4) dX11_lay_83 (by decide) ?_
            refine h_icmp_le (tgt := 90) dX11_lay_84 (by decide) (fun c40 => ?_) (fun c40 => ?_)
            ·
              refine h_aload_n dX11_lay_90 rfl 2 rfl ?_
              refine gf_9_5 dX11_lay_91 hl_X11_46 nl_0 zk_0 zp_0_5 ?_
              refine h_pick [2, 3, 1, 0] [(0, .ref 0), (1, .int a), (2, .int (-1)), (3, .int (-1))] rfl ?_
              refine h_invV (As := []) (st := []) dX11_lay_94 lk_X11_193 (h_room (by decide)) nl_80 zk_80 (by decide) rfl rfl rfl (Nat.le_of_ble_eq_true rfl) ?_
              exact k20 c1 c35 c36 c37 c39 c40
            ·
              refine h_bipush (v := (-4)) dX11_lay_87 (by decide) ?_
              exact h_iret dX11_lay_89 rfl (k21 c1 c35 c36 c37 c39 c40)
          ·
            refine h_aload_n dX11_lay_51 rfl 2 rfl ?_
            refine gf_9_0 dX11_lay_52 hl_X11_10 nl_0 zk_0 zp_0_0 ?_
            refine h_iload_n dX11_lay_55 rfl 1 rfl ?_
            refine h_invV (As := [.int (-1)]) (st := []) dX11_lay_56 lk_X11_88 (h_room (by decide)) nl_1 zk_1 (by decide) rfl rfl rfl (Nat.le_of_ble_eq_true rfl) ?_
            refine c_X9_hasKind (fun c41 c42 => absurd c41 (by decide)) (fun c43 => ?_)
            ·
              refine h_if_ne (tgt := 76) dX11_lay_59 (by decide) (fun c => absurd c (by decide)) (fun _ => ?_)
              refine h_aload_n dX11_lay_62 rfl 2 rfl ?_
              refine gf_9_0 dX11_lay_63 hl_X11_10 nl_0 zk_0 zp_0_0 ?_
              refine h_iload_n dX11_lay_66 rfl 0 rfl ?_
              refine h_invV (As := [.int (-1)]) (st := []) dX11_lay_67 lk_X11_88 (h_room (by decide)) nl_1 zk_1 (by decide) rfl rfl rfl (Nat.le_of_ble_eq_true rfl) ?_
              refine c_X9_hasKind (fun c44 c45 => absurd c44 (by decide)) (fun c46 => ?_)
              ·
                refine h_if_ne (tgt := 76) dX11_lay_70 (by decide) (fun c => absurd c (by decide)) (fun _ => ?_)
                refine h_bipush (v := (-3)) dX11_lay_73 (by decide) ?_
                exact h_iret dX11_lay_75 rfl (k22 c1 c35 c36 c37 c39 c43 c46)
      ·
        refine h_iload_n dX11_lay_27 rfl 2 rfl ?_
        refine h_bipush (v := 30) dX11_lay_28 (by decide) ?_
        refine h_icmp_ge (tgt := 40) dX11_lay_30 (by decide) (fun c47 => ?_) (fun c47 => ?_)
        ·
          refine h_iconst (v := (-1)) dX11_lay_40 (by decide) ?_
          refine h_istore_n (L' := [(3, .int (-1)), (2, .int (-1)), (0, .ref 0), (1, .int a)]) dX11_lay_41 rfl (by decide) rfl ?_
          refine h_iload_n dX11_lay_42 rfl 3 rfl ?_
          refine h_if_eq (tgt := 76) dX11_lay_43 (by decide) (fun c48 => ?_) (fun c48 => ?_)
          ·
            refine h_aload_n dX11_lay_76 rfl 2 rfl ?_
            refine gf_9_0 dX11_lay_77 hl_X11_10 nl_0 zk_0 zp_0_0 ?_
            refine gf_7_9 dX11_lay_80 hl_X11_190 nl_1 zk_1 ?_
            refine h_iconst (v := 4) dX11_lay_83 (by decide) ?_
            refine h_icmp_le (tgt := 90) dX11_lay_84 (by decide) (fun c49 => ?_) (fun c49 => ?_)
            ·
              refine h_aload_n dX11_lay_90 rfl 2 rfl ?_
              refine gf_9_5 dX11_lay_91 hl_X11_46 nl_0 zk_0 zp_0_5 ?_
              refine h_pick [2, 3, 1, 0] [(0, .ref 0), (1, .int a), (2, .int (-1)), (3, .int (-1))] rfl ?_
              refine h_invV (As := []) (st := []) dX11_lay_94 lk_X11_193 (h_room (by decide)) nl_80 zk_80 (by decide) rfl rfl rfl (Nat.le_of_ble_eq_true rfl) ?_
              exact k23 c1 c35 c36 c47 c48 c49
            ·
              refine h_bipush (v := (-4)) dX11_lay_87 (by decide) ?_
              exact h_iret dX11_lay_89 rfl (k24 c1 c35 c36 c47 c48 c49)
          ·
            refine h_iload_n dX11_lay_46 rfl 3 rfl ?_
            refine h_iconst (v := 1) dX11_lay_47 (by decide) ?_
            refine h_icmp_eq (tgt := 76) dX11_lay_48 (by decide) (fun c50 => ?_) (fun c50 => ?_)
            ·
              refine h_aload_n dX11_lay_76 rfl 2 rfl ?_
              refine gf_9_0 dX11_lay_77 hl_X11_10 nl_0 zk_0 zp_0_0 ?_
              refine gf_7_9 dX11_lay_80 hl_X11_190 nl_1 zk_1 ?_
              refine h_iconst (v := 4) dX11_lay_83 (by decide) ?_
              refine h_icmp_le (tgt := 90) dX11_lay_84 (by decide) (fun c51 => ?_) (fun c51 => ?_)
              ·
                refine h_aload_n dX11_lay_90 rfl 2 rfl ?_
                refine gf_9_5 dX11_lay_91 hl_X11_46 nl_0 zk_0 zp_0_5 ?_
                refine h_pick [2, 3, 1, 0] [(0, .ref 0), (1, .int a), (2, .int (-1)), (3, .int (-1))] rfl ?_
                refine h_invV (As := []) (st := []) dX11_lay_94 lk_X11_193 (h_room (by decide)) nl_80 zk_80 (by decide) rfl rfl rfl (Nat.le_of_ble_eq_true rfl) ?_
                exact k25 c1 c35 c36 c47 c48 c50 c51
              ·
                refine h_bipush (v := (-4)) dX11_lay_87 (by decide) ?_
                exact h_iret dX11_lay_89 rfl (k26 c1 c35 c36 c47 c48 c50 c51)
            ·
              refine h_aload_n dX11_lay_51 rfl 2 rfl ?_
              refine gf_9_0 dX11_lay_52 hl_X11_10 nl_0 zk_0 zp_0_0 ?_
              refine h_iload_n dX11_lay_55 rfl 1 rfl ?_
              refine h_invV (As := [.int (-1)]) (st := []) dX11_lay_56 lk_X11_88 (h_room (by decide)) nl_1 zk_1 (by decide) rfl rfl rfl (Nat.le_of_ble_eq_true rfl) ?_
              refine c_X9_hasKind (fun c52 c53 => absurd c52 (by decide)) (fun c54 => ?_)
              ·
                refine h_if_ne (tgt := 76) dX11_lay_59 (by decide) (fun c => absurd c (by decide)) (fun _ => ?_)
                refine h_aload_n dX11_lay_62 rfl 2 rfl ?_
                refine gf_9_0 dX11_lay_63 hl_X11_10 nl_0 zk_0 zp_0_0 ?_
                refine h_iload_n dX11_lay_66 rfl 0 rfl ?_
                refine h_invV (As := [.int (-1)]) (st := []) dX11_lay_67 lk_X11_88 (h_room (by decide)) nl_1 zk_1 (by decide) rfl rfl rfl (Nat.le_of_ble_eq_true rfl) ?_
                refine c_X9_hasKind (fun c55 c56 => absurd c55 (by decide)) (fun c57 => ?_)
                ·
                  refine h_if_ne (tgt := 76) dX11_lay_70 (by decide) (fun c => absurd c (by decide)) (fun _ => ?_)
                  refine h_bipush (v := (-3)) dX11_lay_73 (by decide) ?_
                  exact h_iret dX11_lay_75 rfl (k27 c1 c35 c36 c47 c48 c50 c54 c57)
        ·
          refine h_iload_n dX11_lay_33 rfl 2 rfl ?_
          refine h_bipush (v := 20) dX11_lay_34 (by decide) ?_
          refine h_isub dX11_lay_36 ?_
          refine h_goto (tgt := 41) dX11_lay_37 (by decide) ?_
          refine h_istore_n (L' := [(3, .int (a - 20)), (2, .int (-1)), (0, .ref 0), (1, .int a)]) dX11_lay_41 rfl (by decide) rfl ?_
          refine h_iload_n dX11_lay_42 rfl 3 rfl ?_
          refine h_if_eq (tgt := 76) dX11_lay_43 (by decide) (fun c58 => ?_) (fun c58 => ?_)
          ·
            refine h_aload_n dX11_lay_76 rfl 2 rfl ?_
            refine gf_9_0 dX11_lay_77 hl_X11_10 nl_0 zk_0 zp_0_0 ?_
            refine gf_7_9 dX11_lay_80 hl_X11_190 nl_1 zk_1 ?_
            refine h_iconst (v := 4) dX11_lay_83 (by decide) ?_
            refine h_icmp_le (tgt := 90) dX11_lay_84 (by decide) (fun c59 => ?_) (fun c59 => ?_)
            ·
              refine h_aload_n dX11_lay_90 rfl 2 rfl ?_
              refine gf_9_5 dX11_lay_91 hl_X11_46 nl_0 zk_0 zp_0_5 ?_
              refine h_pick [2, 3, 1, 0] [(0, .ref 0), (1, .int a), (2, .int (-1)), (3, .int (a - 20))] rfl ?_
              refine h_invV (As := []) (st := []) dX11_lay_94 lk_X11_193 (h_room (by decide)) nl_80 zk_80 (by decide) rfl rfl rfl (Nat.le_of_ble_eq_true rfl) ?_
              exact k28 c1 c35 c36 c47 c58 c59
            ·
              refine h_bipush (v := (-4)) dX11_lay_87 (by decide) ?_
              exact h_iret dX11_lay_89 rfl (k29 c1 c35 c36 c47 c58 c59)
          ·
            refine h_iload_n dX11_lay_46 rfl 3 rfl ?_
            refine h_iconst (v := 1) dX11_lay_47 (by decide) ?_
            refine h_icmp_eq (tgt := 76) dX11_lay_48 (by decide) (fun c60 => ?_) (fun c60 => ?_)
            ·
              refine h_aload_n dX11_lay_76 rfl 2 rfl ?_
              refine gf_9_0 dX11_lay_77 hl_X11_10 nl_0 zk_0 zp_0_0 ?_
              refine gf_7_9 dX11_lay_80 hl_X11_190 nl_1 zk_1 ?_
              refine h_iconst (v := 4) dX11_lay_83 (by decide) ?_
              refine h_icmp_le (tgt := 90) dX11_lay_84 (by decide) (fun c61 => ?_) (fun c61 => ?_)
              ·
                refine h_aload_n dX11_lay_90 rfl 2 rfl ?_
                refine gf_9_5 dX11_lay_91 hl_X11_46 nl_0 zk_0 zp_0_5 ?_
                refine h_pick [2, 3, 1, 0] [(0, .ref 0), (1, .int a), (2, .int (-1)), (3, .int (a - 20))] rfl ?_
                refine h_invV (As := []) (st := []) dX11_lay_94 lk_X11_193 (h_room (by decide)) nl_80 zk_80 (by decide) rfl rfl rfl (Nat.le_of_ble_eq_true rfl) ?_
                exact k30 c1 c35 c36 c47 c58 c60 c61
              ·
                refine h_bipush (v := (-4)) dX11_lay_87 (by decide) ?_
                exact h_iret dX11_lay_89 rfl (k31 c1 c35 c36 c47 c58 c60 c61)
            ·
              refine h_aload_n dX11_lay_51 rfl 2 rfl ?_
              refine gf_9_0 dX11_lay_52 hl_X11_10 nl_0 zk_0 zp_0_0 ?_
              refine h_iload_n dX11_lay_55 rfl 1 rfl ?_
              refine h_invV (As := [.int (-1)]) (st := []) dX11_lay_56 lk_X11_88 (h_room (by decide)) nl_1 zk_1 (by decide) rfl rfl rfl (Nat.le_of_ble_eq_true rfl) ?_
              refine c_X9_hasKind (fun c62 c63 => absurd c62 (by decide)) (fun c64 => ?_)
              ·
                refine h_if_ne (tgt := 76) dX11_lay_59 (by decide) (fun c => absurd c (by decide)) (fun _ => ?_)
                refine h_aload_n dX11_lay_62 rfl 2 rfl ?_
                refine gf_9_0 dX11_lay_63 hl_X11_10 nl_0 zk_0 zp_0_0 ?_
                refine h_iload_n dX11_lay_66 rfl 0 rfl ?_
                refine h_invV (As := [.int (a - 20)]) (st := []) dX11_lay_67 lk_X11_88 (h_room (by decide)) nl_1 zk_1 (by decide) rfl rfl rfl (Nat.le_of_ble_eq_true rfl) ?_
                refine c_X9_hasKind (fun c65 c66 => ?_) (fun c67 => ?_)
                ·
                  refine h_if_ne (tgt := 76) dX11_lay_70 (by decide) (fun _ => ?_) (fun c => absurd c (by decide))
                  refine h_aload_n dX11_lay_76 rfl 2 rfl ?_
                  refine gf_9_0 dX11_lay_77 hl_X11_10 nl_0 zk_0 zp_0_0 ?_
                  refine gf_7_9 dX11_lay_80 hl_X11_190 nl_1 zk_1 ?_
                  refine h_iconst (v := 4) dX11_lay_83 (by decide) ?_
                  refine h_icmp_le (tgt := 90) dX11_lay_84 (by decide) (fun c68 => ?_) (fun c68 => ?_)
                  ·
                    refine h_aload_n dX11_lay_90 rfl 2 rfl ?_
                    refine gf_9_5 dX11_lay_91 hl_X11_46 nl_0 zk_0 zp_0_5 ?_
                    refine h_pick [2, 3, 1, 0] [(0, .ref 0), (1, .int a), (2, .int (-1)), (3, .int (a - 20))] rfl ?_
                    refine h_invV (As := []) (st := []) dX11_lay_94 lk_X11_193 (h_room (by decide)) nl_80 zk_80 (by decide) rfl rfl rfl (Nat.le_of_ble_eq_true rfl) ?_
                    exact k32 c1 c35 c36 c47 c58 c60 c64 c65 c66 c68
                  ·
                    refine h_bipush (v := (-4)) dX11_lay_87 (by decide) ?_
                    exact h_iret dX11_lay_89 rfl (k33 c1 c35 c36 c47 c58 c60 c64 c65 c66 c68)
                ·
                  refine h_if_ne (tgt := 76) dX11_lay_70 (by decide) (fun c => absurd c (by decide)) (fun _ => ?_)
                  refine h_bipush (v := (-3)) dX11_lay_73 (by decide) ?_
                  exact h_iret dX11_lay_75 rfl (k34 c1 c35 c36 c47 c58 c60 c64 c67)
    ·
      refine h_iload_n dX11_lay_12 rfl 1 rfl ?_
      refine h_bipush (v := 10) dX11_lay_13 (by decide) ?_
      refine h_isub dX11_lay_15 ?_
      refine h_goto (tgt := 20) dX11_lay_16 (by decide) ?_
      refine h_istore_n (L' := [(2, .int (a - 10)), (0, .ref 0), (1, .int a)]) dX11_lay_20 rfl (by decide) rfl ?_
      refine h_iload_n dX11_lay_21 rfl 2 rfl ?_
      refine h_bipush (v := 20) dX11_lay_22 (by decide) ?_
      refine h_icmp_lt (tgt := 40) dX11_lay_24 (by decide) (fun c69 => ?_) (fun c69 => ?_)
      ·
        refine h_iconst (v := (-1)) dX11_lay_40 (by decide) ?_
        refine h_istore_n (L' := [(3, .int (-1)), (2, .int (a - 10)), (0, .ref 0), (1, .int a)]) dX11_lay_41 rfl (by decide) rfl ?_
        refine h_iload_n dX11_lay_42 rfl 3 rfl ?_
        refine h_if_eq (tgt := 76) dX11_lay_43 (by decide) (fun c70 => ?_) (fun c70 => ?_)
        ·
          refine h_aload_n dX11_lay_76 rfl 2 rfl ?_
          refine gf_9_0 dX11_lay_77 hl_X11_10 nl_0 zk_0 zp_0_0 ?_
          refine gf_7_9 dX11_lay_80 hl_X11_190 nl_1 zk_1 ?_
          refine h_iconst (v := 4) dX11_lay_83 (by decide) ?_
          refine h_icmp_le (tgt := 90) dX11_lay_84 (by decide) (fun c71 => ?_) (fun c71 => ?_)
          ·
            refine h_aload_n dX11_lay_90 rfl 2 rfl ?_
            refine gf_9_5 dX11_lay_91 hl_X11_46 nl_0 zk_0 zp_0_5 ?_
            refine h_pick [2, 3, 1, 0] [(0, .ref 0), (1, .int a), (2, .int (a - 10)), (3, .int (-1))] rfl ?_
            refine h_invV (As := []) (st := []) dX11_lay_94 lk_X11_193 (h_room (by decide)) nl_80 zk_80 (by decide) rfl rfl rfl (Nat.le_of_ble_eq_true rfl) ?_
            exact k35 c1 c35 c69 c70 c71
          ·
            refine h_bipush (v := (-4)) dX11_lay_87 (by decide) ?_
            exact h_iret dX11_lay_89 rfl (k36 c1 c35 c69 c70 c71)
        ·
          refine h_iload_n dX11_lay_46 rfl 3 rfl ?_
          refine h_iconst (v := 1) dX11_lay_47 (by decide) ?_
          refine h_icmp_eq (tgt := 76) dX11_lay_48 (by decide) (fun c72 => ?_) (fun c72 => ?_)
          ·
            refine h_aload_n dX11_lay_76 rfl 2 rfl ?_
            refine gf_9_0 dX11_lay_77 hl_X11_10 nl_0 zk_0 zp_0_0 ?_
            refine gf_7_9 dX11_lay_80 hl_X11_190 nl_1 zk_1 ?_
            refine h_iconst (v := 4) dX11_lay_83 (by decide) ?_
            refine h_icmp_le (tgt := 90) dX11_lay_84 (by decide) (fun c73 => ?_) (fun c73 => ?_)
            ·
              refine h_aload_n dX11_lay_90 rfl 2 rfl ?_
              refine gf_9_5 dX11_lay_91 hl_X11_46 nl_0 zk_0 zp_0_5 ?_
              refine h_pick [2, 3, 1, 0] [(0, .ref 0), (1, .int a), (2, .int (a - 10)), (3, .int (-1))] rfl ?_
              refine h_invV (As := []) (st := []) dX11_lay_94 lk_X11_193 (h_room (by decide)) nl_80 zk_80 (by decide) rfl rfl rfl (Nat.le_of_ble_eq_true rfl) ?_
              exact k37 c1 c35 c69 c70 c72 c73
            ·
              refine h_bipush (v := (-4)) dX11_lay_87 (by decide) ?_
              exact h_iret dX11_lay_89 rfl (k38 c1 c35 c69 c70 c72 c73)
          ·
            refine h_aload_n dX11_lay_51 rfl 2 rfl ?_
            refine gf_9_0 dX11_lay_52 hl_X11_10 nl_0 zk_0 zp_0_0 ?_
            refine h_iload_n dX11_lay_55 rfl 1 rfl ?_
            refine h_invV (As := [.int (a - 10)]) (st := []) dX11_lay_56 lk_X11_88 (h_room (by decide)) nl_1 zk_1 (by decide) rfl rfl rfl (Nat.le_of_ble_eq_true rfl) ?_
            refine c_X9_hasKind (fun c74 c75 => ?_) (fun c76 => ?_)
            ·
              refine h_if_ne (tgt := 76) dX11_lay_59 (by decide) (fun _ => ?_) (fun c => absurd c (by decide))
              refine h_aload_n dX11_lay_76 rfl 2 rfl ?_
              refine gf_9_0 dX11_lay_77 hl_X11_10 nl_0 zk_0 zp_0_0 ?_
              refine gf_7_9 dX11_lay_80 hl_X11_190 nl_1 zk_1 ?_
              refine h_iconst (v := 4) dX11_lay_83 (by decide) ?_
              refine h_icmp_le (tgt := 90) dX11_lay_84 (by decide) (fun c77 => ?_) (fun c77 => ?_)
              ·
                refine h_aload_n dX11_lay_90 rfl 2 rfl ?_
                refine gf_9_5 dX11_lay_91 hl_X11_46 nl_0 zk_0 zp_0_5 ?_
                refine h_pick [2, 3, 1, 0] [(0, .ref 0), (1, .int a), (2, .int (a - 10)), (3, .int (-1))] rfl ?_
                refine h_invV (As := []) (st := []) dX11_lay_94 lk_X11_193 (h_room (by decide)) nl_80 zk_80 (by decide) rfl rfl rfl (Nat.le_of_ble_eq_true rfl) ?_
                exact k39 c1 c35 c69 c70 c72 c74 c75 c77
              ·
                refine h_bipush (v := (-4)) dX11_lay_87 (by decide) ?_
                exact h_iret dX11_lay_89 rfl (k40 c1 c35 c69 c70 c72 c74 c75 c77)
            ·
              refine h_if_ne (tgt := 76) dX11_lay_59 (by decide) (fun c => absurd c (by decide)) (fun _ => ?_)
              refine h_aload_n dX11_lay_62 rfl 2 rfl ?_
              refine gf_9_0 dX11_lay_63 hl_X11_10 nl_0 zk_0 zp_0_0 ?_
              refine h_iload_n dX11_lay_66 rfl 0 rfl ?_
              refine h_invV (As := [.int (-1)]) (st := []) dX11_lay_67 lk_X11_88 (h_room (by decide)) nl_1 zk_1 (by decide) rfl rfl rfl (Nat.le_of_ble_eq_true rfl) ?_
              refine c_X9_hasKind (fun c78 c79 => absurd c78 (by decide)) (fun c80 => ?_)
              ·
                refine h_if_ne (tgt := 76) dX11_lay_70 (by decide) (fun c => absurd c (by decide)) (fun _ => ?_)
                refine h_bipush (v := (-3)) dX11_lay_73 (by decide) ?_
                exact h_iret dX11_lay_75 rfl (k41 c1 c35 c69 c70 c72 c76 c80)
      ·
        refine h_iload_n dX11_lay_27 rfl 2 rfl ?_
        refine h_bipush (v := 30) dX11_lay_28 (by decide) ?_
        refine h_icmp_ge (tgt := 40) dX11_lay_30 (by decide) (fun c81 => ?_) (fun c81 => ?_)
        ·
          refine h_iconst (v := (-1)) dX11_lay_40 (by decide) ?_
          refine h_istore_n (L' := [(3, .int (-1)), (2, .int (a - 10)), (0, .ref 0), (1, .int a)]) dX11_lay_41 rfl (by decide) rfl ?_
          refine h_iload_n dX11_lay_42 rfl 3 rfl ?_
          refine h_if_eq (tgt := 76) dX11_lay_43 (by decide) (fun c82 => ?_) (fun c82 => ?_)
          ·
            refine h_aload_n dX11_lay_76 rfl 2 rfl ?_
            refine gf_9_0 dX11_lay_77 hl_X11_10 nl_0 zk_0 zp_0_0 ?_
            refine gf_7_9 dX11_lay_80 hl_X11_190 nl_1 zk_1 ?_
            refine h_iconst (v := 4) dX11_lay_83 (by decide) ?_
            refine h_icmp_le (tgt := 90) dX11_lay_84 (by decide) (fun c83 => ?_) (fun c83 => ?_)
            ·
              refine h_aload_n dX11_lay_90 rfl 2 rfl ?_
              refine gf_9_5 dX11_lay_91 hl_X11_46 nl_0 zk_0 zp_0_5 ?_
              refine h_pick [2, 3, 1, 0] [(0, .ref 0), (1, .int a), (2, .int (a - 10)), (3, .int (-1))] rfl ?_
              refine h_invV (As := []) (st := []) dX11_lay_94 lk_X11_193 (h_room (by decide)) nl_80 zk_80 (by decide) rfl rfl rfl (Nat.le_of_ble_eq_true rfl) ?_
              exact k42 c1 c35 c69 c81 c82 c83
            ·
              refine h_bipush (v := (-4)) dX11_lay_87 (by decide) ?_
              exact h_iret dX11_lay_89 rfl (k43 c1 c35 c69 c81 c82 c83)
          ·
            refine h_iload_n dX11_lay_46 rfl 3 rfl ?_
            refine h_iconst (v := 1) dX11_lay_47 (by decide) ?_
            refine h_icmp_eq (tgt := 76) dX11_lay_48 (by decide) (fun c84 => ?_) (fun c84 => ?_)
            ·
              refine h_aload_n dX11_lay_76 rfl 2 rfl ?_
              refine gf_9_0 dX11_lay_77 hl_X11_10 nl_0 zk_0 zp_0_0 ?_
              refine gf_7_9 dX11_lay_80 hl_X11_190 nl_1 zk_1 ?_
              refine h_iconst (v := 4) dX11_lay_83 (by decide) ?_
              refine h_icmp_le (tgt := 90) dX11_lay_84 (by decide) (fun c85 => ?_) (fun c85 => ?_)
              ·
                refine h_aload_n dX11_lay_90 rfl 2 rfl ?_
                refine gf_9_5 dX11_lay_91 hl_X11_46 nl_0 zk_0 zp_0_5 ?_
                refine h_pick [2, 3, 1, 0] [(0, .ref 0), (1, .int a), (2, .int (a - 10)), (3, .int (-1))] rfl ?_
                refine h_invV (As := []) (st := []) dX11_lay_94 lk_X11_193 (h_room (by decide)) nl_80 zk_80 (by decide) rfl rfl rfl (Nat.le_of_ble_eq_true rfl) ?_
                exact k44 c1 c35 c69 c81 c82 c84 c85
              ·
                refine h_bipush (v := (-4)) dX11_lay_87 (by decide) ?_
                exact h_iret dX11_lay_89 rfl (k45 c1 c35 c69 c81 c82 c84 c85)
            ·
              refine h_aload_n dX11_lay_51 rfl 2 rfl ?_
              refine gf_9_0 dX11_lay_52 hl_X11_10 nl_0 zk_0 zp_0_0 ?_
              refine h_iload_n dX11_lay_55 rfl 1 rfl ?_
              refine h_invV (As := [.int (a - 10)]) (st := []) dX11_lay_56 lk_X11_88 (h_room (by decide)) nl_1 zk_1 (by decide) rfl rfl rfl (Nat.le_of_ble_eq_true rfl) ?_
              refine c_X9_hasKind (fun c86 c87 => ?_) (fun c88 => ?_)
              ·
                refine h_if_ne (tgt := 76) dX11_lay_59 (by decide) (fun _ => ?_) (fun c => absurd c (by decide))
                refine h_aload_n dX11_lay_76 rfl 2 rfl ?_
                refine gf_9_0 dX11_lay_77 hl_X11_10 nl_0 zk_0 zp_0_0 ?_
                refine gf_7_9 dX11_lay_80 hl_X11_190 nl_1 zk_1 ?_
                refine h_iconst (v := 4) dX11_lay_83 (by decide) ?_
                refine h_icmp_le (tgt := 90) dX11_lay_84 (by decide) (fun c89 => ?_) (fun c89 => ?_)
                ·
                  refine h_aload_n dX11_lay_90 rfl 2 rfl ?_
                  refine gf_9_5 dX11_lay_91 hl_X11_46 nl_0 zk_0 zp_0_5 ?_
                  refine h_pick [2, 3, 1, 0] [(0, .ref 0), (1, .int a), (2, .int (a - 10)), (3, .int (-1))] rfl ?_
                  refine h_invV (As := []) (st := []) dX11_lay_94 lk_X11_193 (h_room (by decide)) nl_80 zk_80 (by decide) rfl rfl rfl (Nat.le_of_ble_eq_true rfl) ?_
                  exact k46 c1 c35 c69 c81 c82 c84 c86 c87 c89
                ·
                  refine h_bipush (v := (-4)) dX11_lay_87 (by decide) ?_
                  exact h_iret dX11_lay_89 rfl (k47 c1 c35 c69 c81 c82 c84 c86 c87 c89)
              ·
                refine h_if_ne (tgt := 76) dX11_lay_59 (by decide) (fun c => absurd c (by decide)) (fun _ => ?_)
                refine h_aload_n dX11_lay_62 rfl 2 rfl ?_
                refine gf_9_0 dX11_lay_63 hl_X11_10 nl_0 zk_0 zp_0_0 ?_
                refine h_iload_n dX11_lay_66 rfl 0 rfl ?_
                refine h_invV (As := [.int (-1)]) (st := []) dX11_lay_67 lk_X11_88 (h_room (by decide)) nl_1 zk_1 (by decide) rfl rfl rfl (Nat.le_of_ble_eq_true rfl) ?_
                refine c_X9_hasKind (fun c90 c91 => absurd c90 (by decide)) (fun c92 => ?_)
                ·
                  refine h_if_ne (tgt := 76) dX11_lay_70 (by decide) (fun c => absurd c (by decide)) (fun _ => ?_)
                  refine h_bipush (v := (-3)) dX11_lay_73 (by decide) ?_
                  exact h_iret dX11_lay_75 rfl (k48 c1 c35 c69 c81 c82 c84 c88 c92)
        ·
          refine h_iload_n dX11_lay_33 rfl 2 rfl ?_
          refine h_bipush (v := 20) dX11_lay_34 (by decide) ?_
          refine h_isub dX11_lay_36 ?_
          refine h_goto (tgt := 41) dX11_lay_37 (by decide) ?_
          refine h_istore_n (L' := [(3, .int (a - 20)), (2, .int (a - 10)), (0, .ref 0), (1, .int a)]) dX11_lay_41 rfl (by decide) rfl ?_
          refine h_iload_n dX11_lay_42 rfl 3 rfl ?_
          refine h_if_eq (tgt := 76) dX11_lay_43 (by decide) (fun c93 => ?_) (fun c93 => ?_)
          ·
            refine h_aload_n dX11_lay_76 rfl 2 rfl ?_
            refine gf_9_0 dX11_lay_77 hl_X11_10 nl_0 zk_0 zp_0_0 ?_
            refine gf_7_9 dX11_lay_80 hl_X11_190 nl_1 zk_1 ?_
            refine h_iconst (v := 4) dX11_lay_83 (by decide) ?_
            refine h_icmp_le (tgt := 90) dX11_lay_84 (by decide) (fun c94 => ?_) (fun c94 => ?_)
            ·
              refine h_aload_n dX11_lay_90 rfl 2 rfl ?_
              refine gf_9_5 dX11_lay_91 hl_X11_46 nl_0 zk_0 zp_0_5 ?_
              refine h_pick [2, 3, 1, 0] [(0, .ref 0), (1, .int a), (2, .int (a - 10)), (3, .int (a - 20))] rfl ?_
              refine h_invV (As := []) (st := []) dX11_lay_94 lk_X11_193 (h_room (by decide)) nl_80 zk_80 (by decide) rfl rfl rfl (Nat.le_of_ble_eq_true rfl) ?_
              exact k49 c1 c35 c69 c81 c93 c94
            ·
              refine h_bipush (v := (-4)) dX11_lay_87 (by decide) ?_
              exact h_iret dX11_lay_89 rfl (k50 c1 c35 c69 c81 c93 c94)
          ·
            refine h_iload_n dX11_lay_46 rfl 3 rfl ?_
            refine h_iconst (v := 1) dX11_lay_47 (by decide) ?_
            refine h_icmp_eq (tgt := 76) dX11_lay_48 (by decide) (fun c95 => ?_) (fun c95 => ?_)
            ·
              refine h_aload_n dX11_lay_76 rfl 2 rfl ?_
              refine gf_9_0 dX11_lay_77 hl_X11_10 nl_0 zk_0 zp_0_0 ?_
              refine gf_7_9 dX11_lay_80 hl_X11_190 nl_1 zk_1 ?_
              refine h_iconst (v := 4) dX11_lay_83 (by decide) ?_
              refine h_icmp_le (tgt := 90) dX11_lay_84 (by decide) (fun c96 => ?_) (fun c96 => ?_)
              ·
                refine h_aload_n dX11_lay_90 rfl 2 rfl ?_
                refine gf_9_5 dX11_lay_91 hl_X11_46 nl_0 zk_0 zp_0_5 ?_
                refine h_pick [2, 3, 1, 0] [(0, .ref 0), (1, .int a), (2, .int (a - 10)), (3, .int (a - 20))] rfl ?_
                refine h_invV (As := []) (st := []) dX11_lay_94 lk_X11_193 (h_room (by decide)) nl_80 zk_80 (by decide) rfl rfl rfl (Nat.le_of_ble_eq_true rfl) ?_
                exact k51 c1 c35 c69 c81 c93 c95 c96
              ·
                refine h_bipush (v := (-4)) dX11_lay_87 (by decide) ?_
                exact h_iret dX11_lay_89 rfl (k52 c1 c35 c69 c81 c93 c95 c96)
            ·
              refine h_aload_n dX11_lay_51 rfl 2 rfl ?_
              refine gf_9_0 dX11_lay_52 hl_X11_10 nl_0 zk_0 zp_0_0 ?_
              refine h_iload_n dX11_lay_55 rfl 1 rfl ?_
              refine h_invV (As := [.int (a - 10)]) (st := []) dX11_lay_56 lk_X11_88 (h_room (by decide)) nl_1 zk_1 (by decide) rfl rfl rfl (Nat.le_of_ble_eq_true rfl) ?_
              refine c_X9_hasKind (fun c97 c98 => ?_) (fun c99 => ?_)
              ·
                refine h_if_ne (tgt := 76) dX11_lay_59 (by decide) (fun _ => ?_) (fun c => absurd c (by decide))
                refine h_aload_n dX11_lay_76 rfl 2 rfl ?_
                refine gf_9_0 dX11_lay_77 hl_X11_10 nl_0 zk_0 zp_0_0 ?_
                refine gf_7_9 dX11_lay_80 hl_X11_190 nl_1 zk_1 ?_
                refine h_iconst (v := 4) dX11_lay_83 (by decide) ?_
                refine h_icmp_le (tgt := 90) dX11_lay_84 (by decide) (fun c100 => ?_) (fun c100 => ?_)
                ·
                  refine h_aload_n dX11_lay_90 rfl 2 rfl ?_
                  refine gf_9_5 dX11_lay_91 hl_X11_46 nl_0 zk_0 zp_0_5 ?_
                  refine h_pick [2, 3, 1, 0] [(0, .ref 0), (1, .int a), (2, .int (a - 10)), (3, .int (a - 20))] rfl ?_
                  refine h_invV (As := []) (st := []) dX11_lay_94 lk_X11_193 (h_room (by decide)) nl_80 zk_80 (by decide) rfl rfl rfl (Nat.le_of_ble_eq_true rfl) ?_
                  exact k53 c1 c35 c69 c81 c93 c95 c97 c98 c100
                ·
                  refine h_bipush (v := (-4)) dX11_lay_87 (by decide) ?_
                  exact h_iret dX11_lay_89 rfl (k54 c1 c35 c69 c81 c93 c95 c97 c98 c100)
              ·
                refine h_if_ne (tgt := 76) dX11_lay_59 (by decide) (fun c => absurd c (by decide)) (fun _ => ?_)
                refine h_aload_n dX11_lay_62 rfl 2 rfl ?_
                refine gf_9_0 dX11_lay_63 hl_X11_10 nl_0 zk_0 zp_0_0 ?_
                refine h_iload_n dX11_lay_66 rfl 0 rfl ?_
                refine h_invV (As := [.int (a - 20)]) (st := []) dX11_lay_67 lk_X11_88 (h_room (by decide)) nl_1 zk_1 (by decide) rfl rfl rfl (Nat.le_of_ble_eq_true rfl) ?_
                refine c_X9_hasKind (fun c101 c102 => ?_) (fun c103 => ?_)
                ·
                  refine h_if_ne (tgt := 76) dX11_lay_70 (by decide) (fun _ => ?_) (fun c => absurd c (by decide))
                  refine h_aload_n dX11_lay_76 rfl 2 rfl ?_
                  refine gf_9_0 dX11_lay_77 hl_X11_10 nl_0 zk_0 zp_0_0 ?_
                  refine gf_7_9 dX11_lay_80 hl_X11_190 nl_1 zk_1 ?_
                  refine h_iconst (v := 4) dX11_lay_83 (by decide) ?_
                  refine h_icmp_le (tgt := 90) dX11_lay_84 (by decide) (fun c104 => ?_) (fun c104 => ?_)
                  ·
                    refine h_aload_n dX11_lay_90 rfl 2 rfl ?_
                    refine gf_9_5 dX11_lay_91 hl_X11_46 nl_0 zk_0 zp_0_5 ?_
                    refine h_pick [2, 3, 1, 0] [(0, .ref 0), (1, .int a), (2, .int (a - 10)), (3, .int (a - 20))] rfl ?_
                    refine h_invV (As := []) (st := []) dX11_lay_94 lk_X11_193 (h_room (by decide)) nl_80 zk_80 (by decide) rfl rfl rfl (Nat.le_of_ble_eq_true rfl) ?_
                    exact k55 c1 c35 c69 c81 c93 c95 c99 c101 c102 c104
                  ·
                    refine h_bipush (v := (-4)) dX11_lay_87 (by decide) ?_
                    exact h_iret dX11_lay_89 rfl (k56 c1 c35 c69 c81 c93 c95 c99 c101 c102 c104)
                ·
                  refine h_if_ne (tgt := 76) dX11_lay_70 (by decide) (fun c => absurd c (by decide)) (fun _ => ?_)
                  refine h_bipush (v := (-3)) dX11_lay_73 (by decide) ?_
                  exact h_iret dX11_lay_75 rfl (k57 c1 c35 c69 c81 c93 c95 c99 c103)
set_option maxHeartbeats 1000000 in
set_option maxRecDepth 20000 in
theorem sg_X11_lay_97 {E : HEn} {d : Nat} {Q : Option Value → HIh → Prop} {I : HIh} {x1 : Int32} {x2 : Int32} {x3 : Int32}
    (k1 : ¬ x1 = 0 → ¬ x1 = 1 → x2 = (-1) → HCall E me_X6_mostOf (d + 4) [.ref 80, .int x3] I (fun v9 J => HGo E (mF E (d + 5) Q) me_X11_lay 146 [] (v9.toList ++ []) J))
    (k2 : ¬ x1 = 0 → ¬ x1 = 1 → ¬ x2 = (-1) → HCall E me_X6_leastOf (d + 4) [.ref 80, .int x2] I (fun v9 J => HGo E (mF E (d + 5) Q) me_X11_lay 135 [] (v9.toList ++ []) J))
    (k3 : ¬ x1 = 0 → x1 = 1 → Q (some (.int (I 80 8))) I)
    (k4 : x1 = 0 → Q (some (.int (I 80 7))) I)
    : HGo E (mF E (d + 5) Q) me_X11_lay 97 [(0, .ref 0), (1, .int x1), (2, .int x2), (3, .int x3)] [] I := by
  refine h_iload_n dX11_lay_97 rfl 1 rfl ?_
  refine h_if_ne (tgt := 109) dX11_lay_98 (by decide) (fun c1 => ?_) (fun c1 => ?_)
  ·
    refine h_iload_n dX11_lay_109 rfl 1 rfl ?_
    refine h_iconst (v := 1) dX11_lay_110 (by decide) ?_
    refine h_icmp_ne (tgt := 122) dX11_lay_111 (by decide) (fun c2 => ?_) (fun c2 => ?_)
    ·
      refine h_iload_n dX11_lay_122 rfl 2 rfl ?_
      refine h_iconst (v := (-1)) dX11_lay_123 (by decide) ?_
      refine h_icmp_eq (tgt := 138) dX11_lay_124 (by decide) (fun c3 => ?_) (fun c3 => ?_)
      ·
        refine h_aload_n dX11_lay_138 rfl 0 rfl ?_
        refine gf_9_5 dX11_lay_139 hl_X11_46 nl_0 zk_0 zp_0_5 ?_
        refine h_iload_n dX11_lay_142 rfl 3 rfl ?_
        refine h_pick [] [] rfl ?_
        refine h_invV (As := [.int x3]) (st := []) dX11_lay_143 lk_X11_205 (h_room (by decide)) nl_80 zk_80 (by decide) rfl rfl rfl (Nat.le_of_ble_eq_true rfl) ?_
        exact k1 c1 c2 c3
      ·
        refine h_aload_n dX11_lay_127 rfl 0 rfl ?_
        refine gf_9_5 dX11_lay_128 hl_X11_46 nl_0 zk_0 zp_0_5 ?_
        refine h_iload_n dX11_lay_131 rfl 2 rfl ?_
        refine h_pick [] [] rfl ?_
        refine h_invV (As := [.int x2]) (st := []) dX11_lay_132 lk_X11_202 (h_room (by decide)) nl_80 zk_80 (by decide) rfl rfl rfl (Nat.le_of_ble_eq_true rfl) ?_
        exact k2 c1 c2 c3
    ·
      refine h_aload_n dX11_lay_114 rfl 0 rfl ?_
      refine gf_9_5 dX11_lay_115 hl_X11_46 nl_0 zk_0 zp_0_5 ?_
      refine gf_5_8 dX11_lay_118 hl_X11_199 nl_80 zk_80 ?_
      exact h_iret dX11_lay_121 rfl (k3 c1 c2)
  ·
    refine h_aload_n dX11_lay_101 rfl 0 rfl ?_
    refine gf_9_5 dX11_lay_102 hl_X11_46 nl_0 zk_0 zp_0_5 ?_
    refine gf_5_7 dX11_lay_105 hl_X11_196 nl_80 zk_80 ?_
    exact h_iret dX11_lay_108 rfl (k4 c1)
set_option maxHeartbeats 1000000 in
set_option maxRecDepth 20000 in
theorem sg_X11_lay_146 {E : HEn} {d : Nat} {Q : Option Value → HIh → Prop} {I : HIh} {s0 : Int32}
    (k1 : Q (some (.int s0)) I)
    : HGo E (mF E (d + 5) Q) me_X11_lay 146 [] [.int s0] I := by
  exact h_iret dX11_lay_146 rfl (k1)
set_option maxHeartbeats 1000000 in
set_option maxRecDepth 20000 in
theorem sg_X11_lay_135 {E : HEn} {d : Nat} {Q : Option Value → HIh → Prop} {I : HIh} {s0 : Int32}
    (k1 : Q (some (.int s0)) I)
    : HGo E (mF E (d + 5) Q) me_X11_lay 135 [] [.int s0] I := by
  refine h_goto (tgt := 146) dX11_lay_135 (by decide) ?_
  exact h_iret dX11_lay_146 rfl (k1)
set_option maxHeartbeats 1000000 in
set_option maxRecDepth 20000 in
theorem sg_X12_readsLine_0 {E : HEn} {d : Nat} {Q : Option Value → HIh → Prop} {I : HIh} 
    (k1 : HCall E me_X12_wordOf (d + 5) [.ref 87] I (fun v9 J => HGo E (mF E (d + 6) Q) me_X12_readsLine 4 [(0, .ref 87)] (v9.toList ++ []) J))
    : HGo E (mF E (d + 6) Q) me_X12_readsLine 0 [(0, .ref 87)] [] I := by
  refine h_aload_n dX12_readsLine_0 rfl 0 rfl ?_
  refine h_invV (As := []) (st := []) dX12_readsLine_1 lk_X12_140 (h_room (by decide)) nl_87 zk_87 (by decide) rfl rfl rfl (Nat.le_of_ble_eq_true rfl) ?_
  exact k1
set_option maxHeartbeats 1000000 in
set_option maxRecDepth 20000 in
theorem sg_X12_readsLine_4 {E : HEn} {d : Nat} {Q : Option Value → HIh → Prop} {I : HIh} {s0 : Int32}
    (k1 : ¬ s0 = (-1) → vp_in (12 * (I 87 5)) 120)
    (k2 : ¬ s0 = (-1) → vp_in ((12 * (I 87 5)) + 1) 120)
    (k3 : ¬ s0 = (-1) → HCall E me_X12_token (d + 5) [.ref 87] (setI (setI I 91 (upd (I 91) (12 * (I 87 5)).toNatClampNeg s0)) 91 (upd (upd (I 91) (12 * (I 87 5)).toNatClampNeg s0) ((12 * (I 87 5)) + 1).toNatClampNeg 0)) (fun v9 J => HGo E (mF E (d + 6) Q) me_X12_readsLine 40 [(0, .ref 87), (1, .int s0), (2, .int (12 * (I 87 5)))] (v9.toList ++ []) J))
    (k4 : s0 = (-1) → Q (some (.int 0)) I)
    : HGo E (mF E (d + 6) Q) me_X12_readsLine 4 [(0, .ref 87)] [.int s0] I := by
  refine h_istore_n (L' := [(1, .int s0), (0, .ref 87)]) dX12_readsLine_4 rfl (by decide) rfl ?_
  refine h_iload_n dX12_readsLine_5 rfl 0 rfl ?_
  refine h_iconst (v := (-1)) dX12_readsLine_6 (by decide) ?_
  refine h_icmp_ne (tgt := 12) dX12_readsLine_7 (by decide) (fun c1 => ?_) (fun c1 => ?_)
  ·
    refine h_bipush (v := 12) dX12_readsLine_12 (by decide) ?_
    refine h_aload_n dX12_readsLine_14 rfl 1 rfl ?_
    refine gf_10_5 dX12_readsLine_15 hl_X12_118 nl_87 zk_87 ?_
    refine h_imul dX12_readsLine_18 ?_
    refine h_istore_n (L' := [(2, .int (12 * (I 87 5))), (1, .int s0), (0, .ref 87)]) dX12_readsLine_19 rfl (by decide) rfl ?_
    refine h_aload_n dX12_readsLine_20 rfl 2 rfl ?_
    refine gf_10_4 dX12_readsLine_21 hl_X12_20 nl_87 zk_87 zp_87_4 ?_
    refine h_iload_n dX12_readsLine_24 rfl 0 rfl ?_
    refine h_iload_n dX12_readsLine_25 rfl 1 rfl ?_
    refine h_iast dX12_readsLine_26 nl_91 zk_91 (by rw [zn_91]; exact k1 c1) ?_
    refine h_aload_n dX12_readsLine_27 rfl 2 rfl ?_
    refine gf_10_4 dX12_readsLine_28 hl_X12_20 nl_87 zk_87 zp_87_4 ?_
    refine h_iload_n dX12_readsLine_31 rfl 0 rfl ?_
    refine h_iconst (v := 1) dX12_readsLine_32 (by decide) ?_
    refine h_iadd dX12_readsLine_33 ?_
    refine h_iconst (v := 0) dX12_readsLine_34 (by decide) ?_
    refine h_iast dX12_readsLine_35 nl_91 zk_91 (by rw [zn_91]; exact k2 c1) ?_
    refine h_aload_n dX12_readsLine_36 rfl 2 rfl ?_
    refine h_pick [2, 1, 0] [(0, .ref 87), (1, .int s0), (2, .int (12 * (I 87 5)))] rfl ?_
    refine h_invV (As := []) (st := []) dX12_readsLine_37 lk_X12_121 (h_room (by decide)) nl_87 zk_87 (by decide) rfl rfl rfl (Nat.le_of_ble_eq_true rfl) ?_
    exact k3 c1
  ·
    refine h_iconst (v := 0) dX12_readsLine_10 (by decide) ?_
    exact h_zret dX12_readsLine_11 rfl rfl (k4 c1)
set_option maxHeartbeats 1000000 in
set_option maxRecDepth 20000 in
theorem sg_X12_readsLine_40 {E : HEn} {d : Nat} {Q : Option Value → HIh → Prop} {I : HIh} {x1 : Int32} {x2 : Int32}
    (k1 : HCall E me_X12_readsRest (d + 5) [.ref 87, .int x1] I (fun v9 J => HGo E (mF E (d + 6) Q) me_X12_readsLine 45 [(0, .ref 87), (1, .int x1), (2, .int x2)] (v9.toList ++ []) J))
    : HGo E (mF E (d + 6) Q) me_X12_readsLine 40 [(0, .ref 87), (1, .int x1), (2, .int x2)] [] I := by
  refine h_aload_n dX12_readsLine_40 rfl 0 rfl ?_
  refine h_iload_n dX12_readsLine_41 rfl 1 rfl ?_
  refine h_invV (As := [.int x1]) (st := []) dX12_readsLine_42 lk_X12_143 (h_room (by decide)) nl_87 zk_87 (by decide) rfl rfl rfl (Nat.le_of_ble_eq_true rfl) ?_
  exact k1
set_option maxHeartbeats 1000000 in
set_option maxRecDepth 20000 in
theorem sg_X12_readsLine_45 {E : HEn} {d : Nat} {Q : Option Value → HIh → Prop} {I : HIh} {x1 : Int32} {x2 : Int32} {s0 : Int32}
    (k1 : ¬ s0 = 0 → ¬ x1 = 0 → ¬ x1 = 7 → ¬ x1 = 9 → Q (some (.int 1)) (setI (setI (setI I 87 (upd (I 87) 17 (I 87 17))) 87 (upd (upd (I 87) 17 (I 87 17)) 18 (I 87 18))) 87 (upd (upd (upd (I 87) 17 (I 87 17)) 18 (I 87 18)) 5 ((I 87 5) + 1))))
    (k2 : ¬ s0 = 0 → ¬ x1 = 0 → ¬ x1 = 7 → x1 = 9 → Q (some (.int 1)) (setI (setI (setI I 87 (upd (I 87) 17 (I 87 17))) 87 (upd (upd (I 87) 17 (I 87 17)) 18 0)) 87 (upd (upd (upd (I 87) 17 (I 87 17)) 18 0) 5 ((I 87 5) + 1))))
    (k3 : ¬ s0 = 0 → ¬ x1 = 0 → x1 = 7 → vp_in (x2 + 1) 120)
    (k4 : ¬ s0 = 0 → ¬ x1 = 0 → x1 = 7 → Q (some (.int 1)) (setI (setI (setI I 87 (upd (I 87) 17 (I 87 17))) 87 (upd (upd (I 87) 17 (I 87 17)) 18 ((I 87 18) + (I 91 ((x2 + 1).toNatClampNeg))))) 87 (upd (upd (upd (I 87) 17 (I 87 17)) 18 ((I 87 18) + (I 91 ((x2 + 1).toNatClampNeg)))) 5 ((I 87 5) + 1))))
    (k5 : ¬ s0 = 0 → x1 = 0 → vp_in (x2 + 1) 120)
    (k6 : ¬ s0 = 0 → x1 = 0 → ¬ x1 = 7 → ¬ x1 = 9 → Q (some (.int 1)) (setI (setI (setI I 87 (upd (I 87) 17 (I 91 ((x2 + 1).toNatClampNeg)))) 87 (upd (upd (I 87) 17 (I 91 ((x2 + 1).toNatClampNeg))) 18 (I 87 18))) 87 (upd (upd (upd (I 87) 17 (I 91 ((x2 + 1).toNatClampNeg))) 18 (I 87 18)) 5 ((I 87 5) + 1))))
    (k7 : ¬ s0 = 0 → x1 = 0 → ¬ x1 = 7 → x1 = 9 → Q (some (.int 1)) (setI (setI (setI I 87 (upd (I 87) 17 (I 91 ((x2 + 1).toNatClampNeg)))) 87 (upd (upd (I 87) 17 (I 91 ((x2 + 1).toNatClampNeg))) 18 0)) 87 (upd (upd (upd (I 87) 17 (I 91 ((x2 + 1).toNatClampNeg))) 18 0) 5 ((I 87 5) + 1))))
    (k8 : ¬ s0 = 0 → x1 = 0 → x1 = 7 → vp_in (x2 + 1) 120)
    (k9 : ¬ s0 = 0 → x1 = 0 → x1 = 7 → Q (some (.int 1)) (setI (setI (setI I 87 (upd (I 87) 17 (I 91 ((x2 + 1).toNatClampNeg)))) 87 (upd (upd (I 87) 17 (I 91 ((x2 + 1).toNatClampNeg))) 18 ((I 87 18) + (I 91 ((x2 + 1).toNatClampNeg))))) 87 (upd (upd (upd (I 87) 17 (I 91 ((x2 + 1).toNatClampNeg))) 18 ((I 87 18) + (I 91 ((x2 + 1).toNatClampNeg)))) 5 ((I 87 5) + 1))))
    (k10 : s0 = 0 → Q (some (.int 0)) I)
    : HGo E (mF E (d + 6) Q) me_X12_readsLine 45 [(0, .ref 87), (1, .int x1), (2, .int x2)] [.int s0] I := by
  refine h_if_ne (tgt := 50) dX12_readsLine_45 (by decide) (fun c1 => ?_) (fun c1 => ?_)
  ·
    refine h_aload_n dX12_readsLine_50 rfl 0 rfl ?_
    refine h_iload_n dX12_readsLine_51 rfl 1 rfl ?_
    refine h_if_ne (tgt := 66) dX12_readsLine_52 (by decide) (fun c2 => ?_) (fun c2 => ?_)
    ·
      refine h_aload_n dX12_readsLine_66 rfl 0 rfl ?_
      refine gf_10_17 dX12_readsLine_67 hl_X12_134 nl_87 zk_87 ?_
      refine pf_10_17 dX12_readsLine_70 hl_X12_134 nl_87 zk_87 ?_
      refine h_aload_n dX12_readsLine_73 rfl 0 rfl ?_
      refine h_iload_n dX12_readsLine_74 rfl 1 rfl ?_
      refine h_bipush (v := 7) dX12_readsLine_75 (by decide) ?_
      refine h_icmp_ne (tgt := 96) dX12_readsLine_77 (by decide) (fun c3 => ?_) (fun c3 => ?_)
      ·
        refine h_iload_n dX12_readsLine_96 rfl 1 rfl ?_
        refine h_bipush (v := 9) dX12_readsLine_97 (by decide) ?_
        refine h_icmp_ne (tgt := 106) dX12_readsLine_99 (by decide) (fun c4 => ?_) (fun c4 => ?_)
        ·
          refine h_aload_n dX12_readsLine_106 rfl 0 rfl ?_
          refine gf_10_18 dX12_readsLine_107 hl_X12_128 nl_87 zk_87 ?_
          refine pf_10_18 dX12_readsLine_110 hl_X12_128 nl_87 zk_87 ?_
          refine h_aload_n dX12_readsLine_113 rfl 0 rfl ?_
          refine h_dup dX12_readsLine_114 rfl ?_
          refine gf_10_5 dX12_readsLine_115 hl_X12_118 nl_87 zk_87 ?_
          refine h_iconst (v := 1) dX12_readsLine_118 (by decide) ?_
          refine h_iadd dX12_readsLine_119 ?_
          refine pf_10_5 dX12_readsLine_120 hl_X12_118 nl_87 zk_87 ?_
          refine h_iconst (v := 1) dX12_readsLine_123 (by decide) ?_
          exact h_zret dX12_readsLine_124 rfl rfl (k1 c1 c2 c3 c4)
        ·
          refine h_iconst (v := 0) dX12_readsLine_102 (by decide) ?_
          refine h_goto (tgt := 110) dX12_readsLine_103 (by decide) ?_
          refine pf_10_18 dX12_readsLine_110 hl_X12_128 nl_87 zk_87 ?_
          refine h_aload_n dX12_readsLine_113 rfl 0 rfl ?_
          refine h_dup dX12_readsLine_114 rfl ?_
          refine gf_10_5 dX12_readsLine_115 hl_X12_118 nl_87 zk_87 ?_
          refine h_iconst (v := 1) dX12_readsLine_118 (by decide) ?_
          refine h_iadd dX12_readsLine_119 ?_
          refine pf_10_5 dX12_readsLine_120 hl_X12_118 nl_87 zk_87 ?_
          refine h_iconst (v := 1) dX12_readsLine_123 (by decide) ?_
          exact h_zret dX12_readsLine_124 rfl rfl (k2 c1 c2 c3 c4)
      ·
        refine h_aload_n dX12_readsLine_80 rfl 0 rfl ?_
        refine gf_10_18 dX12_readsLine_81 hl_X12_128 nl_87 zk_87 ?_
        refine h_aload_n dX12_readsLine_84 rfl 0 rfl ?_
        refine gf_10_4 dX12_readsLine_85 hl_X12_20 nl_87 zk_87 zp_87_4 ?_
        refine h_iload_n dX12_readsLine_88 rfl 2 rfl ?_
        refine h_iconst (v := 1) dX12_readsLine_89 (by decide) ?_
        refine h_iadd dX12_readsLine_90 ?_
        refine h_iald dX12_readsLine_91 nl_91 zk_91 (by rw [zn_91]; exact k3 c1 c2 c3) ?_
        refine h_iadd dX12_readsLine_92 ?_
        refine h_goto (tgt := 110) dX12_readsLine_93 (by decide) ?_
        refine pf_10_18 dX12_readsLine_110 hl_X12_128 nl_87 zk_87 ?_
        refine h_aload_n dX12_readsLine_113 rfl 0 rfl ?_
        refine h_dup dX12_readsLine_114 rfl ?_
        refine gf_10_5 dX12_readsLine_115 hl_X12_118 nl_87 zk_87 ?_
        refine h_iconst (v := 1) dX12_readsLine_118 (by decide) ?_
        refine h_iadd dX12_readsLine_119 ?_
        refine pf_10_5 dX12_readsLine_120 hl_X12_118 nl_87 zk_87 ?_
        refine h_iconst (v := 1) dX12_readsLine_123 (by decide) ?_
        exact h_zret dX12_readsLine_124 rfl rfl (k4 c1 c2 c3)
    ·
      refine h_aload_n dX12_readsLine_55 rfl 0 rfl ?_
      refine gf_10_4 dX12_readsLine_56 hl_X12_20 nl_87 zk_87 zp_87_4 ?_
      refine h_iload_n dX12_readsLine_59 rfl 2 rfl ?_
      refine h_iconst (v := 1) dX12_readsLine_60 (by decide) ?_
      refine h_iadd dX12_readsLine_61 ?_
      refine h_iald dX12_readsLine_62 nl_91 zk_91 (by rw [zn_91]; exact k5 c1 c2) ?_
      refine h_goto (tgt := 70) dX12_readsLine_63 (by decide) ?_
      refine pf_10_17 dX12_readsLine_70 hl_X12_134 nl_87 zk_87 ?_
      refine h_aload_n dX12_readsLine_73 rfl 0 rfl ?_
      refine h_iload_n dX12_readsLine_74 rfl 1 rfl ?_
      refine h_bipush (v := 7) dX12_readsLine_75 (by decide) ?_
      refine h_icmp_ne (tgt := 96) dX12_readsLine_77 (by decide) (fun c5 => ?_) (fun c5 => ?_)
      ·
        refine h_iload_n dX12_readsLine_96 rfl 1 rfl ?_
        refine h_bipush (v := 9) dX12_readsLine_97 (by decide) ?_
        refine h_icmp_ne (tgt := 106) dX12_readsLine_99 (by decide) (fun c6 => ?_) (fun c6 => ?_)
        ·
          refine h_aload_n dX12_readsLine_106 rfl 0 rfl ?_
          refine gf_10_18 dX12_readsLine_107 hl_X12_128 nl_87 zk_87 ?_
          refine pf_10_18 dX12_readsLine_110 hl_X12_128 nl_87 zk_87 ?_
          refine h_aload_n dX12_readsLine_113 rfl 0 rfl ?_
          refine h_dup dX12_readsLine_114 rfl ?_
          refine gf_10_5 dX12_readsLine_115 hl_X12_118 nl_87 zk_87 ?_
          refine h_iconst (v := 1) dX12_readsLine_118 (by decide) ?_
          refine h_iadd dX12_readsLine_119 ?_
          refine pf_10_5 dX12_readsLine_120 hl_X12_118 nl_87 zk_87 ?_
          refine h_iconst (v := 1) dX12_readsLine_123 (by decide) ?_
          exact h_zret dX12_readsLine_124 rfl rfl (k6 c1 c2 c5 c6)
        ·
          refine h_iconst (v := 0) dX12_readsLine_102 (by decide) ?_
          refine h_goto (tgt := 110) dX12_readsLine_103 (by decide) ?_
          refine pf_10_18 dX12_readsLine_110 hl_X12_128 nl_87 zk_87 ?_
          refine h_aload_n dX12_readsLine_113 rfl 0 rfl ?_
          refine h_dup dX12_readsLine_114 rfl ?_
          refine gf_10_5 dX12_readsLine_115 hl_X12_118 nl_87 zk_87 ?_
          refine h_iconst (v := 1) dX12_readsLine_118 (by decide) ?_
          refine h_iadd dX12_readsLine_119 ?_
          refine pf_10_5 dX12_readsLine_120 hl_X12_118 nl_87 zk_87 ?_
          refine h_iconst (v := 1) dX12_readsLine_123 (by decide) ?_
          exact h_zret dX12_readsLine_124 rfl rfl (k7 c1 c2 c5 c6)
      ·
        refine h_aload_n dX12_readsLine_80 rfl 0 rfl ?_
        refine gf_10_18 dX12_readsLine_81 hl_X12_128 nl_87 zk_87 ?_
        refine h_aload_n dX12_readsLine_84 rfl 0 rfl ?_
        refine gf_10_4 dX12_readsLine_85 hl_X12_20 nl_87 zk_87 zp_87_4 ?_
        refine h_iload_n dX12_readsLine_88 rfl 2 rfl ?_
        refine h_iconst (v := 1) dX12_readsLine_89 (by decide) ?_
        refine h_iadd dX12_readsLine_90 ?_
        refine h_iald dX12_readsLine_91 nl_91 zk_91 (by rw [zn_91]; exact k8 c1 c2 c5) ?_
        refine h_iadd dX12_readsLine_92 ?_
        refine h_goto (tgt := 110) dX12_readsLine_93 (by decide) ?_
        refine pf_10_18 dX12_readsLine_110 hl_X12_128 nl_87 zk_87 ?_
        refine h_aload_n dX12_readsLine_113 rfl 0 rfl ?_
        refine h_dup dX12_readsLine_114 rfl ?_
        refine gf_10_5 dX12_readsLine_115 hl_X12_118 nl_87 zk_87 ?_
        refine h_iconst (v := 1) dX12_readsLine_118 (by decide) ?_
        refine h_iadd dX12_readsLine_119 ?_
        refine pf_10_5 dX12_readsLine_120 hl_X12_118 nl_87 zk_87 ?_
        refine h_iconst (v := 1) dX12_readsLine_123 (by decide) ?_
        exact h_zret dX12_readsLine_124 rfl rfl (k9 c1 c2 c5)
  ·
    refine h_iconst (v := 0) dX12_readsLine_48 (by decide) ?_
    exact h_zret dX12_readsLine_49 rfl rfl (k10 c1)
set_option maxHeartbeats 1000000 in
set_option maxRecDepth 20000 in
theorem sg_X12_go_0 {E : HEn} {d : Nat} {Q : Option Value → HIh → Prop} {I : HIh} {a : Int32}
    (k1 : (1 : Int64) ≤ a.toInt64 → (a.toInt64 : Int64) ≤ 24 → HGo E (mF E (d + 5) Q) me_X12_go 17 [(0, .ref 87), (1, .int a), (2, .int 0)] [] I)
    (k2 : ¬ ((1 : Int64) ≤ a.toInt64 ∧ (a.toInt64 : Int64) ≤ 24) → Q (some (.int (-3))) I)
    : HGo E (mF E (d + 5) Q) me_X12_go 0 [(0, .ref 87), (1, .int a)] [] I := by
  refine h_iload_n dX12_go_0 rfl 1 rfl ?_
  refine h_i2l dX12_go_1 ?_
  refine h_lconst (v := 1) dX12_go_2 (by decide) ?_
  refine h_ldc2 dX12_go_3 wt_1068 rfl ?_
  refine h_invS (As := [.long a.toInt64, .long 1, .long 24]) (st := []) dX12_go_6 lk_X12_62 (h_room (by decide)) rfl rfl (Nat.le_of_ble_eq_true rfl) ?_
  refine c_X12_in (fun c1 c2 => ?_) (fun c3 => ?_)
  ·
    refine h_if_ne (tgt := 15) dX12_go_9 (by decide) (fun _ => ?_) (fun c => absurd c (by decide))
    refine h_iconst (v := 0) dX12_go_15 (by decide) ?_
    refine h_istore_n (L' := [(2, .int 0), (0, .ref 87), (1, .int a)]) dX12_go_16 rfl (by decide) rfl ?_
    refine h_pick [1, 2, 0] [(0, .ref 87), (1, .int a), (2, .int 0)] rfl ?_
    exact k1 c1 c2
  ·
    refine h_if_ne (tgt := 15) dX12_go_9 (by decide) (fun c => absurd c (by decide)) (fun _ => ?_)
    refine h_bipush (v := (-3)) dX12_go_12 (by decide) ?_
    exact h_iret dX12_go_14 rfl (k2 c3)
set_option maxHeartbeats 1000000 in
set_option maxRecDepth 20000 in
theorem sg_X12_go_17 {E : HEn} {d : Nat} {Q : Option Value → HIh → Prop} {I : HIh} {x1 : Int32} {x2 : Int32}
    (k1 : x1 ≤ x2 → Q (some (.int (I 88 30))) I)
    (k2 : ¬ x1 ≤ x2 → (I 87 13) ≤ (I 88 30) → Q (some (.int (I 88 30))) I)
    (k3 : ¬ x1 ≤ x2 → ¬ (I 87 13) ≤ (I 88 30) → vp_in (I 88 30) 24)
    (k4 : ¬ x1 ≤ x2 → ¬ (I 87 13) ≤ (I 88 30) → HCall E me_X12_visitsBy (d + 4) [.ref 87, .int 0, .int (I 96 ((I 88 30).toNatClampNeg))] I (fun v9 J => HGo E (mF E (d + 5) Q) me_X12_go 53 [(0, .ref 87), (1, .int x1), (2, .int x2)] (v9.toList ++ []) J))
    : HGo E (mF E (d + 5) Q) me_X12_go 17 [(0, .ref 87), (1, .int x1), (2, .int x2)] [] I := by
  refine h_iload_n dX12_go_17 rfl 2 rfl ?_
  refine h_iload_n dX12_go_18 rfl 1 rfl ?_
  refine h_icmp_ge (tgt := 71) dX12_go_19 (by decide) (fun c1 => ?_) (fun c1 => ?_)
  ·
    refine h_aload_n dX12_go_71 rfl 0 rfl ?_
    refine gf_10_0 dX12_go_72 hl_X12_7 nl_87 zk_87 zp_87_0 ?_
    refine h_bipush (v := 30) dX12_go_75 (by decide) ?_
    refine h_iald dX12_go_77 nl_88 zk_88 (vp_lit (by rw [zn_88]; decide)) ?_
    exact h_iret dX12_go_78 rfl (k1 c1)
  ·
    refine h_aload_n dX12_go_22 rfl 0 rfl ?_
    refine gf_10_0 dX12_go_23 hl_X12_7 nl_87 zk_87 zp_87_0 ?_
    refine h_bipush (v := 30) dX12_go_26 (by decide) ?_
    refine h_iald dX12_go_28 nl_88 zk_88 (vp_lit (by rw [zn_88]; decide)) ?_
    refine h_aload_n dX12_go_29 rfl 0 rfl ?_
    refine gf_10_13 dX12_go_30 hl_X12_147 nl_87 zk_87 ?_
    refine h_icmp_ge (tgt := 71) dX12_go_33 (by decide) (fun c2 => ?_) (fun c2 => ?_)
    ·
      refine h_aload_n dX12_go_71 rfl 0 rfl ?_
      refine gf_10_0 dX12_go_72 hl_X12_7 nl_87 zk_87 zp_87_0 ?_
      refine h_bipush (v := 30) dX12_go_75 (by decide) ?_
      refine h_iald dX12_go_77 nl_88 zk_88 (vp_lit (by rw [zn_88]; decide)) ?_
      exact h_iret dX12_go_78 rfl (k2 c1 c2)
    ·
      refine h_aload_n dX12_go_36 rfl 0 rfl ?_
      refine h_iconst (v := 0) dX12_go_37 (by decide) ?_
      refine h_aload_n dX12_go_38 rfl 0 rfl ?_
      refine gf_10_12 dX12_go_39 hl_X12_39 nl_87 zk_87 zp_87_12 ?_
      refine h_aload_n dX12_go_42 rfl 0 rfl ?_
      refine gf_10_0 dX12_go_43 hl_X12_7 nl_87 zk_87 zp_87_0 ?_
      refine h_bipush (v := 30) dX12_go_46 (by decide) ?_
      refine h_iald dX12_go_48 nl_88 zk_88 (vp_lit (by rw [zn_88]; decide)) ?_
      refine h_iald dX12_go_49 nl_96 zk_96 (by rw [zn_96]; exact k3 c1 c2) ?_
      refine h_invV (As := [.int 0, .int (I 96 ((I 88 30).toNatClampNeg))]) (st := []) dX12_go_50 lk_X12_218 (h_room (by decide)) nl_87 zk_87 (by decide) rfl rfl rfl (Nat.le_of_ble_eq_true rfl) ?_
      exact k4 c1 c2
set_option maxHeartbeats 1000000 in
set_option maxRecDepth 20000 in
theorem sg_X12_go_53 {E : HEn} {d : Nat} {Q : Option Value → HIh → Prop} {I : HIh} {x1 : Int32} {x2 : Int32} {s0 : Int32}
    (k1 : HGo E (mF E (d + 5) Q) me_X12_go 17 [(0, .ref 87), (1, .int x1), (2, .int (x2 + 1))] [] (setI I 88 (upd (I 88) 30 ((I 88 30) + 1))))
    : HGo E (mF E (d + 5) Q) me_X12_go 53 [(0, .ref 87), (1, .int x1), (2, .int x2)] [.int s0] I := by
  refine h_pop dX12_go_53 rfl ?_
  refine h_aload_n dX12_go_54 rfl 0 rfl ?_
  refine gf_10_0 dX12_go_55 hl_X12_7 nl_87 zk_87 zp_87_0 ?_
  refine h_bipush (v := 30) dX12_go_58 (by decide) ?_
  refine h_dup2 dX12_go_60 rfl rfl ?_
  refine h_iald dX12_go_61 nl_88 zk_88 (vp_lit (by rw [zn_88]; decide)) ?_
  refine h_iconst (v := 1) dX12_go_62 (by decide) ?_
  refine h_iadd dX12_go_63 ?_
  refine h_iast dX12_go_64 nl_88 zk_88 (vp_lit (by rw [zn_88]; decide)) ?_
  refine h_iinc (v := (x2 + 1)) (L' := [(2, .int (x2 + 1)), (0, .ref 87), (1, .int x1)]) dX12_go_65 2 rfl rfl (by decide) rfl ?_
  refine h_goto (tgt := 17) dX12_go_68 (by decide) ?_
  refine h_pick [1, 2, 0] [(0, .ref 87), (1, .int x1), (2, .int (x2 + 1))] rfl ?_
  exact k1
set_option maxHeartbeats 1000000 in
set_option maxRecDepth 20000 in
theorem sg_X12_goRow_0 {E : HEn} {d : Nat} {Q : Option Value → HIh → Prop} {I : HIh} {a : Int32} {b : Int32} {e : Int32}
    (k1 : HCall E me_X12_copy (d + 4) [.ref 87, .int 0, .int 3] I (fun v9 J => HGo E (mF E (d + 5) Q) me_X12_goRow 6 [(0, .ref 87), (1, .int a), (2, .int b), (3, .int e)] (v9.toList ++ []) J))
    : HGo E (mF E (d + 5) Q) me_X12_goRow 0 [(0, .ref 87), (1, .int a), (2, .int b), (3, .int e)] [] I := by
  refine h_aload_n dX12_goRow_0 rfl 0 rfl ?_
  refine h_iconst (v := 0) dX12_goRow_1 (by decide) ?_
  refine h_iconst (v := 3) dX12_goRow_2 (by decide) ?_
  refine h_invV (As := [.int 0, .int 3]) (st := []) dX12_goRow_3 lk_X12_221 (h_room (by decide)) nl_87 zk_87 (by decide) rfl rfl rfl (Nat.le_of_ble_eq_true rfl) ?_
  exact k1
set_option maxHeartbeats 1000000 in
set_option maxRecDepth 20000 in
theorem sg_X12_goRow_6 {E : HEn} {d : Nat} {Q : Option Value → HIh → Prop} {I : HIh} {x1 : Int32} {x2 : Int32} {x3 : Int32}
    (k1 : HCall E me_X12_powerOf (d + 4) [.int x3] I (fun v9 J => HGo E (mF E (d + 5) Q) me_X12_goRow 14 [(0, .ref 87), (1, .int x1), (2, .int x2), (4, .int 93)] (v9.toList ++ []) J))
    : HGo E (mF E (d + 5) Q) me_X12_goRow 6 [(0, .ref 87), (1, .int x1), (2, .int x2), (3, .int x3)] [] I := by
  refine h_bipush (v := 93) dX12_goRow_6 (by decide) ?_
  refine h_istore (L' := [(4, .int 93), (0, .ref 87), (1, .int x1), (2, .int x2), (3, .int x3)]) dX12_goRow_8 (by decide) rfl ?_
  refine h_iload_n dX12_goRow_10 rfl 4 rfl ?_
  refine h_pick [1, 2, 3, 0] [(0, .ref 87), (1, .int x1), (2, .int x2), (4, .int 93)] rfl ?_
  refine h_invS (As := [.int x3]) (st := []) dX12_goRow_11 lk_X12_225 (h_room (by decide)) rfl rfl (Nat.le_of_ble_eq_true rfl) ?_
  exact k1
set_option maxHeartbeats 1000000 in
set_option maxRecDepth 20000 in
theorem sg_X12_goRow_14 {E : HEn} {d : Nat} {Q : Option Value → HIh → Prop} {I : HIh} {x1 : Int32} {x2 : Int32} {x4 : Int32} {s0 : Int32}
    (k1 : HGo E (mF E (d + 5) Q) me_X12_goRow 25 [(0, .ref 87), (1, .int x1), (2, .int x2), (4, .int x4), (5, .int s0), (6, .int (I 88 30))] [] I)
    : HGo E (mF E (d + 5) Q) me_X12_goRow 14 [(0, .ref 87), (1, .int x1), (2, .int x2), (4, .int x4)] [.int s0] I := by
  refine h_istore (L' := [(5, .int s0), (0, .ref 87), (1, .int x1), (2, .int x2), (4, .int x4)]) dX12_goRow_14 (by decide) rfl ?_
  refine h_aload_n dX12_goRow_16 rfl 1 rfl ?_
  refine gf_10_0 dX12_goRow_17 hl_X12_7 nl_87 zk_87 zp_87_0 ?_
  refine h_bipush (v := 30) dX12_goRow_20 (by decide) ?_
  refine h_iald dX12_goRow_22 nl_88 zk_88 (vp_lit (by rw [zn_88]; decide)) ?_
  refine h_istore (L' := [(6, .int (I 88 30)), (5, .int s0), (0, .ref 87), (1, .int x1), (2, .int x2), (4, .int x4)]) dX12_goRow_23 (by decide) rfl ?_
  refine h_pick [2, 3, 4, 5, 1, 0] [(0, .ref 87), (1, .int x1), (2, .int x2), (4, .int x4), (5, .int s0), (6, .int (I 88 30))] rfl ?_
  exact k1
set_option maxHeartbeats 1000000 in
set_option maxRecDepth 20000 in
theorem sg_X12_goRow_25 {E : HEn} {d : Nat} {Q : Option Value → HIh → Prop} {I : HIh} {x1 : Int32} {x2 : Int32} {x4 : Int32} {x5 : Int32} {x6 : Int32}
    (k1 : (I 87 13) ≤ x6 → HGo E (mF E (d + 5) Q) me_X12_goRow 140 [(0, .ref 87), (1, .int x1), (4, .int x4), (6, .int 0), (7, .int 0)] [] I)
    (k2 : ¬ (I 87 13) ≤ x6 → vp_in x6 24)
    (k3 : ¬ (I 87 13) ≤ x6 → (x1 >>> ((I 96 x6.toNatClampNeg) &&& 31)) &&& 1 = 1 → ¬ (x5 / 7) = 0)
    (k4 : ¬ (I 87 13) ≤ x6 → (x1 >>> ((I 96 x6.toNatClampNeg) &&& 31)) &&& 1 = 1 → (I 87 6) ≤ (((x2 / (x5 / 7)) - (x2 / (x5 / 7)) / 7 * 7) - 1) → Q (some (.int (-1))) I)
    (k5 : ¬ (I 87 13) ≤ x6 → (x1 >>> ((I 96 x6.toNatClampNeg) &&& 31)) &&& 1 = 1 → ¬ (I 87 6) ≤ (((x2 / (x5 / 7)) - (x2 / (x5 / 7)) / 7 * 7) - 1) → (((x2 / (x5 / 7)) - (x2 / (x5 / 7)) / 7 * 7) - 1) = (-1) → (((x2 / (x5 / 7)) - (x2 / (x5 / 7)) / 7 * 7) - 1) = (-1) → HGo E (mF E (d + 5) Q) me_X12_goRow 25 [(0, .ref 87), (1, .int x1), (2, .int x2), (4, .int x4), (5, .int (x5 / 7)), (6, .int (x6 + 1))] [] I)
    (k6 : ¬ (I 87 13) ≤ x6 → (x1 >>> ((I 96 x6.toNatClampNeg) &&& 31)) &&& 1 = 1 → ¬ (I 87 6) ≤ (((x2 / (x5 / 7)) - (x2 / (x5 / 7)) / 7 * 7) - 1) → (((x2 / (x5 / 7)) - (x2 / (x5 / 7)) / 7 * 7) - 1) = (-1) → ¬ (((x2 / (x5 / 7)) - (x2 / (x5 / 7)) / 7 * 7) - 1) = (-1) → HCall E me_X12_throwsOne (d + 4) [.ref 87, .int x4, .int (I 96 x6.toNatClampNeg), .int (((x2 / (x5 / 7)) - (x2 / (x5 / 7)) / 7 * 7) - 1)] I (fun v9 J => HGo E (mF E (d + 5) Q) me_X12_goRow 116 [(0, .ref 87), (1, .int x1), (2, .int x2), (4, .int x4), (5, .int (x5 / 7)), (6, .int x6)] (v9.toList ++ []) J))
    (k7 : ¬ (I 87 13) ≤ x6 → (x1 >>> ((I 96 x6.toNatClampNeg) &&& 31)) &&& 1 = 1 → ¬ (I 87 6) ≤ (((x2 / (x5 / 7)) - (x2 / (x5 / 7)) / 7 * 7) - 1) → ¬ (((x2 / (x5 / 7)) - (x2 / (x5 / 7)) / 7 * 7) - 1) = (-1) → HCall E me_X12_isHad (d + 4) [.ref 87, .int x4, .int (I 96 x6.toNatClampNeg), .int (((x2 / (x5 / 7)) - (x2 / (x5 / 7)) / 7 * 7) - 1)] I (fun v9 J => HGo E (mF E (d + 5) Q) me_X12_goRow 95 [(0, .ref 87), (1, .int x1), (2, .int x2), (4, .int x4), (5, .int (x5 / 7)), (6, .int x6), (7, .int (I 96 x6.toNatClampNeg)), (8, .int (((x2 / (x5 / 7)) - (x2 / (x5 / 7)) / 7 * 7) - 1))] (v9.toList ++ []) J))
    (k8 : ¬ (I 87 13) ≤ x6 → ¬ (x1 >>> ((I 96 x6.toNatClampNeg) &&& 31)) &&& 1 = 1 → HCall E me_X12_visitsBy (d + 4) [.ref 87, .int x4, .int (I 96 x6.toNatClampNeg)] I (fun v9 J => HGo E (mF E (d + 5) Q) me_X12_goRow 127 [(0, .ref 87), (1, .int x1), (2, .int x2), (4, .int x4), (5, .int x5), (6, .int x6)] (v9.toList ++ []) J))
    : HGo E (mF E (d + 5) Q) me_X12_goRow 25 [(0, .ref 87), (1, .int x1), (2, .int x2), (4, .int x4), (5, .int x5), (6, .int x6)] [] I := by
  refine h_iload dX12_goRow_25 5 rfl ?_
  refine h_aload_n dX12_goRow_27 rfl 0 rfl ?_
  refine gf_10_13 dX12_goRow_28 hl_X12_147 nl_87 zk_87 ?_
  refine h_icmp_ge (tgt := 134) dX12_goRow_31 (by decide) (fun c1 => ?_) (fun c1 => ?_)
  ·
    refine h_iconst (v := 0) dX12_goRow_134 (by decide) ?_
    refine h_istore (L' := [(6, .int 0), (0, .ref 87), (1, .int x1), (2, .int x2), (4, .int x4), (5, .int x5)]) dX12_goRow_135 (by decide) rfl ?_
    refine h_iconst (v := 0) dX12_goRow_137 (by decide) ?_
    refine h_istore (L' := [(7, .int 0), (6, .int 0), (0, .ref 87), (1, .int x1), (2, .int x2), (4, .int x4), (5, .int x5)]) dX12_goRow_138 (by decide) rfl ?_
    refine h_pick [2, 3, 5, 1, 0] [(0, .ref 87), (1, .int x1), (4, .int x4), (6, .int 0), (7, .int 0)] rfl ?_
    exact k1 c1
  ·
    refine h_aload_n dX12_goRow_34 rfl 0 rfl ?_
    refine gf_10_12 dX12_goRow_35 hl_X12_39 nl_87 zk_87 zp_87_12 ?_
    refine h_iload dX12_goRow_38 5 rfl ?_
    refine h_iald dX12_goRow_40 nl_96 zk_96 (by rw [zn_96]; exact k2 c1) ?_
    refine h_istore (L' := [(7, .int (I 96 x6.toNatClampNeg)), (0, .ref 87), (1, .int x1), (2, .int x2), (4, .int x4), (5, .int x5), (6, .int x6)]) dX12_goRow_41 (by decide) rfl ?_
    refine h_iload_n dX12_goRow_43 rfl 2 rfl ?_
    refine h_iload dX12_goRow_44 0 rfl ?_
    refine h_invS (As := [.int x1, .int (I 96 x6.toNatClampNeg)]) (st := []) dX12_goRow_46 lk_X12_183 (h_room (by decide)) rfl rfl (Nat.le_of_ble_eq_true rfl) ?_
    refine c_X12_has (fun c2 => ?_) (fun c3 => ?_)
    ·
      refine h_if_eq (tgt := 119) dX12_goRow_49 (by decide) (fun c => absurd c (by decide)) (fun _ => ?_)
      refine h_iload dX12_goRow_52 5 rfl ?_
      refine h_bipush (v := 7) dX12_goRow_54 (by decide) ?_
      refine h_idiv dX12_goRow_56 (by decide) ?_
      refine h_istore (L' := [(5, .int (x5 / 7)), (7, .int (I 96 x6.toNatClampNeg)), (0, .ref 87), (1, .int x1), (2, .int x2), (4, .int x4), (6, .int x6)]) dX12_goRow_57 (by decide) rfl ?_
      refine h_iload_n dX12_goRow_59 rfl 4 rfl ?_
      refine h_iload dX12_goRow_60 0 rfl ?_
      refine h_idiv dX12_goRow_62 (k3 c1 c2) ?_
      refine h_bipush (v := 7) dX12_goRow_63 (by decide) ?_
      refine h_irem dX12_goRow_65 (by decide) ?_
      refine h_iconst (v := 1) dX12_goRow_66 (by decide) ?_
      refine h_isub dX12_goRow_67 ?_
      refine h_istore (L' := [(8, .int (((x2 / (x5 / 7)) - (x2 / (x5 / 7)) / 7 * 7) - 1)), (5, .int (x5 / 7)), (7, .int (I 96 x6.toNatClampNeg)), (0, .ref 87), (1, .int x1), (2, .int x2), (4, .int x4), (6, .int x6)]) dX12_goRow_68 (by decide) rfl ?_
      refine h_iload dX12_goRow_70 0 rfl ?_
      refine h_aload_n dX12_goRow_72 rfl 3 rfl ?_
      refine gf_10_6 dX12_goRow_73 hl_X12_23 nl_87 zk_87 ?_
      refine h_icmp_ge (tgt := 98) dX12_goRow_76 (by decide) (fun c4 => ?_) (fun c4 => ?_)
      ·
        refine h_iconst (v := (-1)) dX12_goRow_98 (by decide) ?_
        exact h_iret dX12_goRow_99 rfl (k4 c1 c2 c4)
      ·
        refine h_iload dX12_goRow_79 0 rfl ?_
        refine h_iconst (v := (-1)) dX12_goRow_81 (by decide) ?_
        refine h_icmp_eq (tgt := 100) dX12_goRow_82 (by decide) (fun c5 => ?_) (fun c5 => ?_)
        ·
          refine h_iload dX12_goRow_100 0 rfl ?_
          refine h_iconst (v := (-1)) dX12_goRow_102 (by decide) ?_
          refine h_icmp_eq (tgt := 116) dX12_goRow_103 (by decide) (fun c6 => ?_) (fun c6 => ?_)
          ·
            refine h_goto (tgt := 128) dX12_goRow_116 (by decide) ?_
            refine h_iinc (v := (x6 + 1)) (L' := [(6, .int (x6 + 1)), (8, .int (((x2 / (x5 / 7)) - (x2 / (x5 / 7)) / 7 * 7) - 1)), (5, .int (x5 / 7)), (7, .int (I 96 x6.toNatClampNeg)), (0, .ref 87), (1, .int x1), (2, .int x2), (4, .int x4)]) dX12_goRow_128 7 rfl rfl (by decide) rfl ?_
            refine h_goto (tgt := 25) dX12_goRow_131 (by decide) ?_
            refine h_pick [4, 5, 6, 7, 2, 0] [(0, .ref 87), (1, .int x1), (2, .int x2), (4, .int x4), (5, .int (x5 / 7)), (6, .int (x6 + 1))] rfl ?_
            exact k5 c1 c2 c4 c5 c6
          ·
            refine h_aload_n dX12_goRow_106 rfl 3 rfl ?_
            refine h_iload dX12_goRow_107 6 rfl ?_
            refine h_iload dX12_goRow_109 2 rfl ?_
            refine h_iload dX12_goRow_111 0 rfl ?_
            refine h_pick [3, 4, 5, 6, 1, 7] [(0, .ref 87), (1, .int x1), (2, .int x2), (4, .int x4), (5, .int (x5 / 7)), (6, .int x6)] rfl ?_
            refine h_invV (As := [.int x4, .int (I 96 x6.toNatClampNeg), .int (((x2 / (x5 / 7)) - (x2 / (x5 / 7)) / 7 * 7) - 1)]) (st := []) dX12_goRow_113 lk_X12_206 (h_room (by decide)) nl_87 zk_87 (by decide) rfl rfl rfl (Nat.le_of_ble_eq_true rfl) ?_
            exact k6 c1 c2 c4 c5 c6
        ·
          refine h_aload_n dX12_goRow_85 rfl 3 rfl ?_
          refine h_iload dX12_goRow_86 6 rfl ?_
          refine h_iload dX12_goRow_88 2 rfl ?_
          refine h_iload dX12_goRow_90 0 rfl ?_
          refine h_pick [3, 4, 5, 6, 1, 7, 2, 0] [(0, .ref 87), (1, .int x1), (2, .int x2), (4, .int x4), (5, .int (x5 / 7)), (6, .int x6), (7, .int (I 96 x6.toNatClampNeg)), (8, .int (((x2 / (x5 / 7)) - (x2 / (x5 / 7)) / 7 * 7) - 1))] rfl ?_
          refine h_invV (As := [.int x4, .int (I 96 x6.toNatClampNeg), .int (((x2 / (x5 / 7)) - (x2 / (x5 / 7)) / 7 * 7) - 1)]) (st := []) dX12_goRow_92 lk_X12_196 (h_room (by decide)) nl_87 zk_87 (by decide) rfl rfl rfl (Nat.le_of_ble_eq_true rfl) ?_
          exact k7 c1 c2 c4 c5
    ·
      refine h_if_eq (tgt := 119) dX12_goRow_49 (by decide) (fun _ => ?_) (fun c => absurd c (by decide))
      refine h_aload_n dX12_goRow_119 rfl 1 rfl ?_
      refine h_iload dX12_goRow_120 4 rfl ?_
      refine h_iload dX12_goRow_122 0 rfl ?_
      refine h_pick [1, 2, 3, 4, 5, 6] [(0, .ref 87), (1, .int x1), (2, .int x2), (4, .int x4), (5, .int x5), (6, .int x6)] rfl ?_
      refine h_invV (As := [.int x4, .int (I 96 x6.toNatClampNeg)]) (st := []) dX12_goRow_124 lk_X12_218 (h_room (by decide)) nl_87 zk_87 (by decide) rfl rfl rfl (Nat.le_of_ble_eq_true rfl) ?_
      exact k8 c1 c3
set_option maxHeartbeats 1000000 in
set_option maxRecDepth 20000 in
theorem sg_X12_goRow_140 {E : HEn} {d : Nat} {Q : Option Value → HIh → Prop} {I : HIh} {x1 : Int32} {x4 : Int32} {x6 : Int32} {x7 : Int32}
    (k1 : 4 ≤ x7 → Q (some (.int x6)) I)
    (k2 : ¬ 4 ≤ x7 → (x1 >>> (x7 &&& 31)) &&& 1 = 1 → HCall E me_X12_worthOf (d + 4) [.ref 87, .int x4, .int x7] I (fun v9 J => HGo E (mF E (d + 5) Q) me_X12_goRow 165 [(0, .ref 87), (1, .int x1), (4, .int x4), (7, .int x7)] (v9.toList ++ [.int x6]) J))
    (k3 : ¬ 4 ≤ x7 → ¬ (x1 >>> (x7 &&& 31)) &&& 1 = 1 → HGo E (mF E (d + 5) Q) me_X12_goRow 140 [(0, .ref 87), (1, .int x1), (4, .int x4), (6, .int (x6 + 0)), (7, .int (x7 + 1))] [] I)
    : HGo E (mF E (d + 5) Q) me_X12_goRow 140 [(0, .ref 87), (1, .int x1), (4, .int x4), (6, .int x6), (7, .int x7)] [] I := by
  refine h_iload dX12_goRow_140 4 rfl ?_
  refine h_iconst (v := 4) dX12_goRow_142 (by decide) ?_
  refine h_icmp_ge (tgt := 178) dX12_goRow_143 (by decide) (fun c1 => ?_) (fun c1 => ?_)
  ·
    refine h_iload dX12_goRow_178 3 rfl ?_
    exact h_iret dX12_goRow_180 rfl (k1 c1)
  ·
    refine h_iload dX12_goRow_146 3 rfl ?_
    refine h_iload_n dX12_goRow_148 rfl 1 rfl ?_
    refine h_iload dX12_goRow_149 4 rfl ?_
    refine h_invS (As := [.int x1, .int x7]) (st := [.int x6]) dX12_goRow_151 lk_X12_183 (h_room (by decide)) rfl rfl (Nat.le_of_ble_eq_true rfl) ?_
    refine c_X12_has (fun c2 => ?_) (fun c3 => ?_)
    ·
      refine h_if_eq (tgt := 168) dX12_goRow_154 (by decide) (fun c => absurd c (by decide)) (fun _ => ?_)
      refine h_aload_n dX12_goRow_157 rfl 0 rfl ?_
      refine h_iload dX12_goRow_158 2 rfl ?_
      refine h_iload dX12_goRow_160 4 rfl ?_
      refine h_pick [0, 1, 2, 4] [(0, .ref 87), (1, .int x1), (4, .int x4), (7, .int x7)] rfl ?_
      refine h_invV (As := [.int x4, .int x7]) (st := [.int x6]) dX12_goRow_162 lk_X12_186 (h_room (by decide)) nl_87 zk_87 (by decide) rfl rfl rfl (Nat.le_of_ble_eq_true rfl) ?_
      exact k2 c1 c2
    ·
      refine h_if_eq (tgt := 168) dX12_goRow_154 (by decide) (fun _ => ?_) (fun c => absurd c (by decide))
      refine h_iconst (v := 0) dX12_goRow_168 (by decide) ?_
      refine h_iadd dX12_goRow_169 ?_
      refine h_istore (L' := [(6, .int (x6 + 0)), (0, .ref 87), (1, .int x1), (4, .int x4), (7, .int x7)]) dX12_goRow_170 (by decide) rfl ?_
      refine h_iinc (v := (x7 + 1)) (L' := [(7, .int (x7 + 1)), (6, .int (x6 + 0)), (0, .ref 87), (1, .int x1), (4, .int x4)]) dX12_goRow_172 4 rfl rfl (by decide) rfl ?_
      refine h_goto (tgt := 140) dX12_goRow_175 (by decide) ?_
      refine h_pick [2, 3, 4, 1, 0] [(0, .ref 87), (1, .int x1), (4, .int x4), (6, .int (x6 + 0)), (7, .int (x7 + 1))] rfl ?_
      exact k3 c1 c3
set_option maxHeartbeats 1000000 in
set_option maxRecDepth 20000 in
theorem sg_X12_goRow_116 {E : HEn} {d : Nat} {Q : Option Value → HIh → Prop} {I : HIh} {x1 : Int32} {x2 : Int32} {x4 : Int32} {x5 : Int32} {x6 : Int32}
    (k1 : HGo E (mF E (d + 5) Q) me_X12_goRow 25 [(0, .ref 87), (1, .int x1), (2, .int x2), (4, .int x4), (5, .int x5), (6, .int (x6 + 1))] [] I)
    : HGo E (mF E (d + 5) Q) me_X12_goRow 116 [(0, .ref 87), (1, .int x1), (2, .int x2), (4, .int x4), (5, .int x5), (6, .int x6)] [] I := by
  refine h_goto (tgt := 128) dX12_goRow_116 (by decide) ?_
  refine h_iinc (v := (x6 + 1)) (L' := [(6, .int (x6 + 1)), (0, .ref 87), (1, .int x1), (2, .int x2), (4, .int x4), (5, .int x5)]) dX12_goRow_128 5 rfl rfl (by decide) rfl ?_
  refine h_goto (tgt := 25) dX12_goRow_131 (by decide) ?_
  refine h_pick [1, 2, 3, 4, 5, 0] [(0, .ref 87), (1, .int x1), (2, .int x2), (4, .int x4), (5, .int x5), (6, .int (x6 + 1))] rfl ?_
  exact k1
set_option maxHeartbeats 1000000 in
set_option maxRecDepth 20000 in
theorem sg_X12_goRow_95 {E : HEn} {d : Nat} {Q : Option Value → HIh → Prop} {I : HIh} {x1 : Int32} {x2 : Int32} {x4 : Int32} {x5 : Int32} {x6 : Int32} {x7 : Int32} {x8 : Int32} {s0 : Int32}
    (k1 : ¬ s0 = 0 → x8 = (-1) → HGo E (mF E (d + 5) Q) me_X12_goRow 25 [(0, .ref 87), (1, .int x1), (2, .int x2), (4, .int x4), (5, .int x5), (6, .int (x6 + 1))] [] I)
    (k2 : ¬ s0 = 0 → ¬ x8 = (-1) → HCall E me_X12_throwsOne (d + 4) [.ref 87, .int x4, .int x7, .int x8] I (fun v9 J => HGo E (mF E (d + 5) Q) me_X12_goRow 116 [(0, .ref 87), (1, .int x1), (2, .int x2), (4, .int x4), (5, .int x5), (6, .int x6)] (v9.toList ++ []) J))
    (k3 : s0 = 0 → Q (some (.int (-1))) I)
    : HGo E (mF E (d + 5) Q) me_X12_goRow 95 [(0, .ref 87), (1, .int x1), (2, .int x2), (4, .int x4), (5, .int x5), (6, .int x6), (7, .int x7), (8, .int x8)] [.int s0] I := by
  refine h_if_ne (tgt := 100) dX12_goRow_95 (by decide) (fun c1 => ?_) (fun c1 => ?_)
  ·
    refine h_iload dX12_goRow_100 7 rfl ?_
    refine h_iconst (v := (-1)) dX12_goRow_102 (by decide) ?_
    refine h_icmp_eq (tgt := 116) dX12_goRow_103 (by decide) (fun c2 => ?_) (fun c2 => ?_)
    ·
      refine h_goto (tgt := 128) dX12_goRow_116 (by decide) ?_
      refine h_iinc (v := (x6 + 1)) (L' := [(6, .int (x6 + 1)), (0, .ref 87), (1, .int x1), (2, .int x2), (4, .int x4), (5, .int x5), (7, .int x7), (8, .int x8)]) dX12_goRow_128 5 rfl rfl (by decide) rfl ?_
      refine h_goto (tgt := 25) dX12_goRow_131 (by decide) ?_
      refine h_pick [1, 2, 3, 4, 5, 0] [(0, .ref 87), (1, .int x1), (2, .int x2), (4, .int x4), (5, .int x5), (6, .int (x6 + 1))] rfl ?_
      exact k1 c1 c2
    ·
      refine h_aload_n dX12_goRow_106 rfl 0 rfl ?_
      refine h_iload dX12_goRow_107 3 rfl ?_
      refine h_iload dX12_goRow_109 6 rfl ?_
      refine h_iload dX12_goRow_111 7 rfl ?_
      refine h_pick [0, 1, 2, 3, 4, 5] [(0, .ref 87), (1, .int x1), (2, .int x2), (4, .int x4), (5, .int x5), (6, .int x6)] rfl ?_
      refine h_invV (As := [.int x4, .int x7, .int x8]) (st := []) dX12_goRow_113 lk_X12_206 (h_room (by decide)) nl_87 zk_87 (by decide) rfl rfl rfl (Nat.le_of_ble_eq_true rfl) ?_
      exact k2 c1 c2
  ·
    refine h_iconst (v := (-1)) dX12_goRow_98 (by decide) ?_
    exact h_iret dX12_goRow_99 rfl (k3 c1)
set_option maxHeartbeats 1000000 in
set_option maxRecDepth 20000 in
theorem sg_X12_goRow_127 {E : HEn} {d : Nat} {Q : Option Value → HIh → Prop} {I : HIh} {x1 : Int32} {x2 : Int32} {x4 : Int32} {x5 : Int32} {x6 : Int32} {s0 : Int32}
    (k1 : HGo E (mF E (d + 5) Q) me_X12_goRow 25 [(0, .ref 87), (1, .int x1), (2, .int x2), (4, .int x4), (5, .int x5), (6, .int (x6 + 1))] [] I)
    : HGo E (mF E (d + 5) Q) me_X12_goRow 127 [(0, .ref 87), (1, .int x1), (2, .int x2), (4, .int x4), (5, .int x5), (6, .int x6)] [.int s0] I := by
  refine h_pop dX12_goRow_127 rfl ?_
  refine h_iinc (v := (x6 + 1)) (L' := [(6, .int (x6 + 1)), (0, .ref 87), (1, .int x1), (2, .int x2), (4, .int x4), (5, .int x5)]) dX12_goRow_128 5 rfl rfl (by decide) rfl ?_
  refine h_goto (tgt := 25) dX12_goRow_131 (by decide) ?_
  refine h_pick [1, 2, 3, 4, 5, 0] [(0, .ref 87), (1, .int x1), (2, .int x2), (4, .int x4), (5, .int x5), (6, .int (x6 + 1))] rfl ?_
  exact k1
set_option maxHeartbeats 1000000 in
set_option maxRecDepth 20000 in
theorem sg_X12_goRow_165 {E : HEn} {d : Nat} {Q : Option Value → HIh → Prop} {I : HIh} {x1 : Int32} {x4 : Int32} {x7 : Int32} {s0 : Int32} {s1 : Int32}
    (k1 : HGo E (mF E (d + 5) Q) me_X12_goRow 140 [(0, .ref 87), (1, .int x1), (4, .int x4), (6, .int (s1 + s0)), (7, .int (x7 + 1))] [] I)
    : HGo E (mF E (d + 5) Q) me_X12_goRow 165 [(0, .ref 87), (1, .int x1), (4, .int x4), (7, .int x7)] [.int s0, .int s1] I := by
  refine h_goto (tgt := 169) dX12_goRow_165 (by decide) ?_
  refine h_iadd dX12_goRow_169 ?_
  refine h_istore (L' := [(6, .int (s1 + s0)), (0, .ref 87), (1, .int x1), (4, .int x4), (7, .int x7)]) dX12_goRow_170 (by decide) rfl ?_
  refine h_iinc (v := (x7 + 1)) (L' := [(7, .int (x7 + 1)), (6, .int (s1 + s0)), (0, .ref 87), (1, .int x1), (4, .int x4)]) dX12_goRow_172 4 rfl rfl (by decide) rfl ?_
  refine h_goto (tgt := 140) dX12_goRow_175 (by decide) ?_
  refine h_pick [2, 3, 4, 1, 0] [(0, .ref 87), (1, .int x1), (4, .int x4), (6, .int (s1 + s0)), (7, .int (x7 + 1))] rfl ?_
  exact k1
set_option maxHeartbeats 1000000 in
set_option maxRecDepth 20000 in
theorem sg_X12_game_0 {E : HEn} {d : Nat} {Q : Option Value → HIh → Prop} {I : HIh} {a : Int32}
    (k1 : (0 : Int32) ≤ a → a < 4 → ((I 87 13) - (I 88 30)) ≤ 6 → HCall E me_X12_layGame (d + 4) [.ref 87] I (fun v9 J => HGo E (mF E (d + 5) Q) me_X12_game 26 [(0, .ref 87), (1, .int a)] (v9.toList ++ []) J))
    (k2 : (0 : Int32) ≤ a → a < 4 → ¬ ((I 87 13) - (I 88 30)) ≤ 6 → Q (some (.int (-4))) I)
    (k3 : ¬ ((0 : Int32) ≤ a ∧ a < 4) → Q (some (.int (-2))) I)
    : HGo E (mF E (d + 5) Q) me_X12_game 0 [(0, .ref 87), (1, .int a)] [] I := by
  refine h_iload_n dX12_game_0 rfl 1 rfl ?_
  refine h_invS (As := [.int a]) (st := []) dX12_game_1 lk_X12_180 (h_room (by decide)) rfl rfl (Nat.le_of_ble_eq_true rfl) ?_
  refine c_X12_isPerson (fun c1 c2 => ?_) (fun c3 => ?_)
  ·
    refine h_if_ne (tgt := 10) dX12_game_4 (by decide) (fun _ => ?_) (fun c => absurd c (by decide))
    refine h_aload_n dX12_game_10 rfl 0 rfl ?_
    refine h_invV (As := []) (st := []) dX12_game_11 lk_X12_213 (h_room (by decide)) nl_87 zk_87 (by decide) rfl rfl rfl (Nat.le_of_ble_eq_true rfl) ?_
    refine c_X12_visitsLeft ?_
    refine h_bipush (v := 6) dX12_game_14 (by decide) ?_
    refine h_icmp_le (tgt := 22) dX12_game_16 (by decide) (fun c4 => ?_) (fun c4 => ?_)
    ·
      refine h_aload_n dX12_game_22 rfl 0 rfl ?_
      refine h_invV (As := []) (st := []) dX12_game_23 lk_X12_247 (h_room (by decide)) nl_87 zk_87 (by decide) rfl rfl rfl (Nat.le_of_ble_eq_true rfl) ?_
      exact k1 c1 c2 c4
    ·
      refine h_bipush (v := (-4)) dX12_game_19 (by decide) ?_
      exact h_iret dX12_game_21 rfl (k2 c1 c2 c4)
  ·
    refine h_if_ne (tgt := 10) dX12_game_4 (by decide) (fun c => absurd c (by decide)) (fun _ => ?_)
    refine h_bipush (v := (-2)) dX12_game_7 (by decide) ?_
    exact h_iret dX12_game_9 rfl (k3 c3)
set_option maxHeartbeats 1000000 in
set_option maxRecDepth 20000 in
theorem sg_X12_game_26 {E : HEn} {d : Nat} {Q : Option Value → HIh → Prop} {I : HIh} {x1 : Int32}
    (k1 : vp_in x1 32)
    (k2 : Q (some (.int (I 99 x1.toNatClampNeg))) I)
    : HGo E (mF E (d + 5) Q) me_X12_game 26 [(0, .ref 87), (1, .int x1)] [] I := by
  refine h_aload_n dX12_game_26 rfl 0 rfl ?_
  refine gf_10_23 dX12_game_27 hl_X12_48 nl_87 zk_87 zp_87_23 ?_
  refine h_iload_n dX12_game_30 rfl 1 rfl ?_
  refine h_iald dX12_game_31 nl_99 zk_99 (by rw [zn_99]; exact k1) ?_
  exact h_iret dX12_game_32 rfl (k2)
set_option maxHeartbeats 1000000 in
set_option maxRecDepth 20000 in
theorem sg_X12_choice_0 {E : HEn} {d : Nat} {Q : Option Value → HIh → Prop} {I : HIh} {a : Int32}
    (k1 : 0 ≤ a → ((I 87 13) - (I 88 30)) ≤ 6 → HCall E me_X12_layGame (d + 4) [.ref 87] I (fun v9 J => HGo E (mF E (d + 5) Q) me_X12_choice 23 [(0, .ref 87), (1, .int a)] (v9.toList ++ []) J))
    (k2 : 0 ≤ a → ¬ ((I 87 13) - (I 88 30)) ≤ 6 → Q (some (.int (-4))) I)
    (k3 : ¬ 0 ≤ a → Q (some (.int (-3))) I)
    : HGo E (mF E (d + 5) Q) me_X12_choice 0 [(0, .ref 87), (1, .int a)] [] I := by
  refine h_iload_n dX12_choice_0 rfl 1 rfl ?_
  refine h_if_ge (tgt := 7) dX12_choice_1 (by decide) (fun c1 => ?_) (fun c1 => ?_)
  ·
    refine h_aload_n dX12_choice_7 rfl 0 rfl ?_
    refine h_invV (As := []) (st := []) dX12_choice_8 lk_X12_213 (h_room (by decide)) nl_87 zk_87 (by decide) rfl rfl rfl (Nat.le_of_ble_eq_true rfl) ?_
    refine c_X12_visitsLeft ?_
    refine h_bipush (v := 6) dX12_choice_11 (by decide) ?_
    refine h_icmp_le (tgt := 19) dX12_choice_13 (by decide) (fun c2 => ?_) (fun c2 => ?_)
    ·
      refine h_aload_n dX12_choice_19 rfl 0 rfl ?_
      refine h_invV (As := []) (st := []) dX12_choice_20 lk_X12_247 (h_room (by decide)) nl_87 zk_87 (by decide) rfl rfl rfl (Nat.le_of_ble_eq_true rfl) ?_
      exact k1 c1 c2
    ·
      refine h_bipush (v := (-4)) dX12_choice_16 (by decide) ?_
      exact h_iret dX12_choice_18 rfl (k2 c1 c2)
  ·
    refine h_bipush (v := (-3)) dX12_choice_4 (by decide) ?_
    exact h_iret dX12_choice_6 rfl (k3 c1)
set_option maxHeartbeats 1000000 in
set_option maxRecDepth 20000 in
theorem sg_X12_choice_23 {E : HEn} {d : Nat} {Q : Option Value → HIh → Prop} {I : HIh} {x1 : Int32}
    (k1 : ((I 87 13) - (I 88 30)) ≤ x1 → Q (some (.int (-1))) I)
    (k2 : ¬ ((I 87 13) - (I 88 30)) ≤ x1 → vp_in x1 56)
    (k3 : ¬ ((I 87 13) - (I 88 30)) ≤ x1 → Q (some (.int (I 100 x1.toNatClampNeg))) I)
    : HGo E (mF E (d + 5) Q) me_X12_choice 23 [(0, .ref 87), (1, .int x1)] [] I := by
  refine h_iload_n dX12_choice_23 rfl 1 rfl ?_
  refine h_aload_n dX12_choice_24 rfl 0 rfl ?_
  refine h_invV (As := []) (st := [.int x1]) dX12_choice_25 lk_X12_213 (h_room (by decide)) nl_87 zk_87 (by decide) rfl rfl rfl (Nat.le_of_ble_eq_true rfl) ?_
  refine c_X12_visitsLeft ?_
  refine h_icmp_ge (tgt := 40) dX12_choice_28 (by decide) (fun c1 => ?_) (fun c1 => ?_)
  ·
    refine h_iconst (v := (-1)) dX12_choice_40 (by decide) ?_
    exact h_iret dX12_choice_41 rfl (k1 c1)
  ·
    refine h_aload_n dX12_choice_31 rfl 0 rfl ?_
    refine gf_10_24 dX12_choice_32 hl_X12_51 nl_87 zk_87 zp_87_24 ?_
    refine h_iload_n dX12_choice_35 rfl 1 rfl ?_
    refine h_iald dX12_choice_36 nl_100 zk_100 (by rw [zn_100]; exact k2 c1) ?_
    refine h_goto (tgt := 41) dX12_choice_37 (by decide) ?_
    exact h_iret dX12_choice_41 rfl (k3 c1)
set_option maxHeartbeats 1000000 in
set_option maxRecDepth 20000 in
theorem sg_X12_worthBy_0 {E : HEn} {d : Nat} {Q : Option Value → HIh → Prop} {I : HIh} {a : Int32} {b : Int32}
    (k1 : HCall E me_X12_copy (d + 4) [.ref 87, .int 0, .int 3] I (fun v9 J => HGo E (mF E (d + 5) Q) me_X12_worthBy 6 [(0, .ref 87), (1, .int a), (2, .int b)] (v9.toList ++ []) J))
    : HGo E (mF E (d + 5) Q) me_X12_worthBy 0 [(0, .ref 87), (1, .int a), (2, .int b)] [] I := by
  refine h_aload_n dX12_worthBy_0 rfl 0 rfl ?_
  refine h_iconst (v := 0) dX12_worthBy_1 (by decide) ?_
  refine h_iconst (v := 3) dX12_worthBy_2 (by decide) ?_
  refine h_invV (As := [.int 0, .int 3]) (st := []) dX12_worthBy_3 lk_X12_221 (h_room (by decide)) nl_87 zk_87 (by decide) rfl rfl rfl (Nat.le_of_ble_eq_true rfl) ?_
  exact k1
set_option maxHeartbeats 1000000 in
set_option maxRecDepth 20000 in
theorem sg_X12_worthBy_6 {E : HEn} {d : Nat} {Q : Option Value → HIh → Prop} {I : HIh} {x1 : Int32} {x2 : Int32}
    (k1 : HGo E (mF E (d + 5) Q) me_X12_worthBy 17 [(0, .ref 87), (1, .int x1), (2, .int x2), (3, .int 0), (4, .int (I 88 30))] [] I)
    : HGo E (mF E (d + 5) Q) me_X12_worthBy 6 [(0, .ref 87), (1, .int x1), (2, .int x2)] [] I := by
  refine h_iconst (v := 0) dX12_worthBy_6 (by decide) ?_
  refine h_istore_n (L' := [(3, .int 0), (0, .ref 87), (1, .int x1), (2, .int x2)]) dX12_worthBy_7 rfl (by decide) rfl ?_
  refine h_aload_n dX12_worthBy_8 rfl 1 rfl ?_
  refine gf_10_0 dX12_worthBy_9 hl_X12_7 nl_87 zk_87 zp_87_0 ?_
  refine h_bipush (v := 30) dX12_worthBy_12 (by decide) ?_
  refine h_iald dX12_worthBy_14 nl_88 zk_88 (vp_lit (by rw [zn_88]; decide)) ?_
  refine h_istore (L' := [(4, .int (I 88 30)), (3, .int 0), (0, .ref 87), (1, .int x1), (2, .int x2)]) dX12_worthBy_15 (by decide) rfl ?_
  refine h_pick [2, 3, 4, 1, 0] [(0, .ref 87), (1, .int x1), (2, .int x2), (3, .int 0), (4, .int (I 88 30))] rfl ?_
  exact k1
set_option maxHeartbeats 1000000 in
set_option maxRecDepth 20000 in
theorem sg_X12_worthBy_17 {E : HEn} {d : Nat} {Q : Option Value → HIh → Prop} {I : HIh} {x1 : Int32} {x2 : Int32} {x3 : Int32} {x4 : Int32}
    (k1 : (I 87 13) ≤ x4 → HCall E me_X12_worthOf (d + 4) [.ref 87, .int 93, .int x1] I (fun v9 J => HGo E (mF E (d + 5) Q) me_X12_worthBy 97 [] (v9.toList ++ []) J))
    (k2 : ¬ (I 87 13) ≤ x4 → vp_in x4 24)
    (k3 : ¬ (I 87 13) ≤ x4 → ¬ (I 96 x4.toNatClampNeg) = x1 → (x2 >>> (x3 &&& 31)) &&& 1 = 1 → vp_in x4 24)
    (k4 : ¬ (I 87 13) ≤ x4 → ¬ (I 96 x4.toNatClampNeg) = x1 → (x2 >>> (x3 &&& 31)) &&& 1 = 1 → HCall E me_X12_visitsBy (d + 4) [.ref 87, .int 93, .int (I 96 x4.toNatClampNeg)] I (fun v9 J => HGo E (mF E (d + 5) Q) me_X12_worthBy 70 [(0, .ref 87), (1, .int x1), (2, .int x2), (3, .int x3), (4, .int x4), (5, .int 0)] (v9.toList ++ []) J))
    (k5 : ¬ (I 87 13) ≤ x4 → ¬ (I 96 x4.toNatClampNeg) = x1 → ¬ (x2 >>> (x3 &&& 31)) &&& 1 = 1 → HGo E (mF E (d + 5) Q) me_X12_worthBy 17 [(0, .ref 87), (1, .int x1), (2, .int x2), (3, .int (x3 + 1)), (4, .int (x4 + 1))] [] I)
    (k6 : ¬ (I 87 13) ≤ x4 → (I 96 x4.toNatClampNeg) = x1 → vp_in x4 24)
    (k7 : ¬ (I 87 13) ≤ x4 → (I 96 x4.toNatClampNeg) = x1 → HCall E me_X12_visitsBy (d + 4) [.ref 87, .int 93, .int (I 96 x4.toNatClampNeg)] I (fun v9 J => HGo E (mF E (d + 5) Q) me_X12_worthBy 70 [(0, .ref 87), (1, .int x1), (2, .int x2), (3, .int x3), (4, .int x4), (5, .int 1)] (v9.toList ++ []) J))
    : HGo E (mF E (d + 5) Q) me_X12_worthBy 17 [(0, .ref 87), (1, .int x1), (2, .int x2), (3, .int x3), (4, .int x4)] [] I := by
  refine h_iload dX12_worthBy_17 4 rfl ?_
  refine h_aload_n dX12_worthBy_19 rfl 0 rfl ?_
  refine gf_10_13 dX12_worthBy_20 hl_X12_147 nl_87 zk_87 ?_
  refine h_icmp_ge (tgt := 90) dX12_worthBy_23 (by decide) (fun c1 => ?_) (fun c1 => ?_)
  ·
    refine h_aload_n dX12_worthBy_90 rfl 0 rfl ?_
    refine h_bipush (v := 93) dX12_worthBy_91 (by decide) ?_
    refine h_iload_n dX12_worthBy_93 rfl 1 rfl ?_
    refine h_pick [] [] rfl ?_
    refine h_invV (As := [.int 93, .int x1]) (st := []) dX12_worthBy_94 lk_X12_186 (h_room (by decide)) nl_87 zk_87 (by decide) rfl rfl rfl (Nat.le_of_ble_eq_true rfl) ?_
    exact k1 c1
  ·
    refine h_aload_n dX12_worthBy_26 rfl 0 rfl ?_
    refine gf_10_12 dX12_worthBy_27 hl_X12_39 nl_87 zk_87 zp_87_12 ?_
    refine h_iload dX12_worthBy_30 4 rfl ?_
    refine h_iald dX12_worthBy_32 nl_96 zk_96 (by rw [zn_96]; exact k2 c1) ?_
    refine h_iload_n dX12_worthBy_33 rfl 1 rfl ?_
    refine h_icmp_ne (tgt := 41) dX12_worthBy_34 (by decide) (fun c2 => ?_) (fun c2 => ?_)
    ·
      refine h_iconst (v := 0) dX12_worthBy_41 (by decide) ?_
      refine h_istore (L' := [(5, .int 0), (0, .ref 87), (1, .int x1), (2, .int x2), (3, .int x3), (4, .int x4)]) dX12_worthBy_42 (by decide) rfl ?_
      refine h_iload dX12_worthBy_44 0 rfl ?_
      refine h_if_ne (tgt := 57) dX12_worthBy_46 (by decide) (fun c => absurd c (by decide)) (fun _ => ?_)
      refine h_iload_n dX12_worthBy_49 rfl 3 rfl ?_
      refine h_iload_n dX12_worthBy_50 rfl 4 rfl ?_
      refine h_invS (As := [.int x2, .int x3]) (st := []) dX12_worthBy_51 lk_X12_183 (h_room (by decide)) rfl rfl (Nat.le_of_ble_eq_true rfl) ?_
      refine c_X12_has (fun c3 => ?_) (fun c4 => ?_)
      ·
        refine h_if_eq (tgt := 71) dX12_worthBy_54 (by decide) (fun c => absurd c (by decide)) (fun _ => ?_)
        refine h_aload_n dX12_worthBy_57 rfl 1 rfl ?_
        refine h_bipush (v := 93) dX12_worthBy_58 (by decide) ?_
        refine h_aload_n dX12_worthBy_60 rfl 1 rfl ?_
        refine gf_10_12 dX12_worthBy_61 hl_X12_39 nl_87 zk_87 zp_87_12 ?_
        refine h_iload dX12_worthBy_64 5 rfl ?_
        refine h_iald dX12_worthBy_66 nl_96 zk_96 (by rw [zn_96]; exact k3 c1 c2 c3) ?_
        refine h_pick [1, 2, 3, 4, 5, 0] [(0, .ref 87), (1, .int x1), (2, .int x2), (3, .int x3), (4, .int x4), (5, .int 0)] rfl ?_
        refine h_invV (As := [.int 93, .int (I 96 x4.toNatClampNeg)]) (st := []) dX12_worthBy_67 lk_X12_218 (h_room (by decide)) nl_87 zk_87 (by decide) rfl rfl rfl (Nat.le_of_ble_eq_true rfl) ?_
        exact k4 c1 c2 c3
      ·
        refine h_if_eq (tgt := 71) dX12_worthBy_54 (by decide) (fun _ => ?_) (fun c => absurd c (by decide))
        refine h_iload_n dX12_worthBy_71 rfl 4 rfl ?_
        refine h_iload dX12_worthBy_72 0 rfl ?_
        refine h_if_eq (tgt := 81) dX12_worthBy_74 (by decide) (fun _ => ?_) (fun c => absurd c (by decide))
        refine h_iconst (v := 1) dX12_worthBy_81 (by decide) ?_
        refine h_iadd dX12_worthBy_82 ?_
        refine h_istore_n (L' := [(3, .int (x3 + 1)), (5, .int 0), (0, .ref 87), (1, .int x1), (2, .int x2), (4, .int x4)]) dX12_worthBy_83 rfl (by decide) rfl ?_
        refine h_iinc (v := (x4 + 1)) (L' := [(4, .int (x4 + 1)), (3, .int (x3 + 1)), (5, .int 0), (0, .ref 87), (1, .int x1), (2, .int x2)]) dX12_worthBy_84 5 rfl rfl (by decide) rfl ?_
        refine h_goto (tgt := 17) dX12_worthBy_87 (by decide) ?_
        refine h_pick [3, 4, 5, 1, 0] [(0, .ref 87), (1, .int x1), (2, .int x2), (3, .int (x3 + 1)), (4, .int (x4 + 1))] rfl ?_
        exact k5 c1 c2 c4
    ·
      refine h_iconst (v := 1) dX12_worthBy_37 (by decide) ?_
      refine h_goto (tgt := 42) dX12_worthBy_38 (by decide) ?_
      refine h_istore (L' := [(5, .int 1), (0, .ref 87), (1, .int x1), (2, .int x2), (3, .int x3), (4, .int x4)]) dX12_worthBy_42 (by decide) rfl ?_
      refine h_iload dX12_worthBy_44 0 rfl ?_
      refine h_if_ne (tgt := 57) dX12_worthBy_46 (by decide) (fun _ => ?_) (fun c => absurd c (by decide))
      refine h_aload_n dX12_worthBy_57 rfl 1 rfl ?_
      refine h_bipush (v := 93) dX12_worthBy_58 (by decide) ?_
      refine h_aload_n dX12_worthBy_60 rfl 1 rfl ?_
      refine gf_10_12 dX12_worthBy_61 hl_X12_39 nl_87 zk_87 zp_87_12 ?_
      refine h_iload dX12_worthBy_64 5 rfl ?_
      refine h_iald dX12_worthBy_66 nl_96 zk_96 (by rw [zn_96]; exact k6 c1 c2) ?_
      refine h_pick [1, 2, 3, 4, 5, 0] [(0, .ref 87), (1, .int x1), (2, .int x2), (3, .int x3), (4, .int x4), (5, .int 1)] rfl ?_
      refine h_invV (As := [.int 93, .int (I 96 x4.toNatClampNeg)]) (st := []) dX12_worthBy_67 lk_X12_218 (h_room (by decide)) nl_87 zk_87 (by decide) rfl rfl rfl (Nat.le_of_ble_eq_true rfl) ?_
      exact k7 c1 c2
set_option maxHeartbeats 1000000 in
set_option maxRecDepth 20000 in
theorem sg_X12_worthBy_97 {E : HEn} {d : Nat} {Q : Option Value → HIh → Prop} {I : HIh} {s0 : Int32}
    (k1 : Q (some (.int s0)) I)
    : HGo E (mF E (d + 5) Q) me_X12_worthBy 97 [] [.int s0] I := by
  exact h_iret dX12_worthBy_97 rfl (k1)
set_option maxHeartbeats 1000000 in
set_option maxRecDepth 20000 in
theorem sg_X12_worthBy_70 {E : HEn} {d : Nat} {Q : Option Value → HIh → Prop} {I : HIh} {x1 : Int32} {x2 : Int32} {x3 : Int32} {x4 : Int32} {x5 : Int32} {s0 : Int32}
    (k1 : x5 = 0 → HGo E (mF E (d + 5) Q) me_X12_worthBy 17 [(0, .ref 87), (1, .int x1), (2, .int x2), (3, .int (x3 + 1)), (4, .int (x4 + 1))] [] I)
    (k2 : ¬ x5 = 0 → HGo E (mF E (d + 5) Q) me_X12_worthBy 17 [(0, .ref 87), (1, .int x1), (2, .int x2), (3, .int (x3 + 0)), (4, .int (x4 + 1))] [] I)
    : HGo E (mF E (d + 5) Q) me_X12_worthBy 70 [(0, .ref 87), (1, .int x1), (2, .int x2), (3, .int x3), (4, .int x4), (5, .int x5)] [.int s0] I := by
  refine h_pop dX12_worthBy_70 rfl ?_
  refine h_iload_n dX12_worthBy_71 rfl 3 rfl ?_
  refine h_iload dX12_worthBy_72 5 rfl ?_
  refine h_if_eq (tgt := 81) dX12_worthBy_74 (by decide) (fun c1 => ?_) (fun c1 => ?_)
  ·
    refine h_iconst (v := 1) dX12_worthBy_81 (by decide) ?_
    refine h_iadd dX12_worthBy_82 ?_
    refine h_istore_n (L' := [(3, .int (x3 + 1)), (0, .ref 87), (1, .int x1), (2, .int x2), (4, .int x4), (5, .int x5)]) dX12_worthBy_83 rfl (by decide) rfl ?_
    refine h_iinc (v := (x4 + 1)) (L' := [(4, .int (x4 + 1)), (3, .int (x3 + 1)), (0, .ref 87), (1, .int x1), (2, .int x2), (5, .int x5)]) dX12_worthBy_84 4 rfl rfl (by decide) rfl ?_
    refine h_goto (tgt := 17) dX12_worthBy_87 (by decide) ?_
    refine h_pick [2, 3, 4, 1, 0] [(0, .ref 87), (1, .int x1), (2, .int x2), (3, .int (x3 + 1)), (4, .int (x4 + 1))] rfl ?_
    exact k1 c1
  ·
    refine h_iconst (v := 0) dX12_worthBy_77 (by decide) ?_
    refine h_goto (tgt := 82) dX12_worthBy_78 (by decide) ?_
    refine h_iadd dX12_worthBy_82 ?_
    refine h_istore_n (L' := [(3, .int (x3 + 0)), (0, .ref 87), (1, .int x1), (2, .int x2), (4, .int x4), (5, .int x5)]) dX12_worthBy_83 rfl (by decide) rfl ?_
    refine h_iinc (v := (x4 + 1)) (L' := [(4, .int (x4 + 1)), (3, .int (x3 + 0)), (0, .ref 87), (1, .int x1), (2, .int x2), (5, .int x5)]) dX12_worthBy_84 4 rfl rfl (by decide) rfl ?_
    refine h_goto (tgt := 17) dX12_worthBy_87 (by decide) ?_
    refine h_pick [2, 3, 4, 1, 0] [(0, .ref 87), (1, .int x1), (2, .int x2), (3, .int (x3 + 0)), (4, .int (x4 + 1))] rfl ?_
    exact k2 c1
set_option maxHeartbeats 1000000 in
set_option maxRecDepth 20000 in
theorem sg_X12_dry_0 {E : HEn} {d : Nat} {Q : Option Value → HIh → Prop} {I : HIh} 
    (k1 : ¬ (I 87 13) = 0 → HCall E me_X12_copy (d + 4) [.ref 87, .int 0, .int 3] I (fun v9 J => HGo E (mF E (d + 5) Q) me_X12_dry 15 [(0, .ref 87)] (v9.toList ++ []) J))
    (k2 : (I 87 13) = 0 → Q (some (.int (-1))) I)
    : HGo E (mF E (d + 5) Q) me_X12_dry 0 [(0, .ref 87)] [] I := by
  refine h_aload_n dX12_dry_0 rfl 0 rfl ?_
  refine gf_10_13 dX12_dry_1 hl_X12_147 nl_87 zk_87 ?_
  refine h_if_ne (tgt := 9) dX12_dry_4 (by decide) (fun c1 => ?_) (fun c1 => ?_)
  ·
    refine h_aload_n dX12_dry_9 rfl 0 rfl ?_
    refine h_iconst (v := 0) dX12_dry_10 (by decide) ?_
    refine h_iconst (v := 3) dX12_dry_11 (by decide) ?_
    refine h_invV (As := [.int 0, .int 3]) (st := []) dX12_dry_12 lk_X12_221 (h_room (by decide)) nl_87 zk_87 (by decide) rfl rfl rfl (Nat.le_of_ble_eq_true rfl) ?_
    exact k1 c1
  ·
    refine h_iconst (v := (-1)) dX12_dry_7 (by decide) ?_
    exact h_iret dX12_dry_8 rfl (k2 c1)
set_option maxHeartbeats 1000000 in
set_option maxRecDepth 20000 in
theorem sg_X12_dry_15 {E : HEn} {d : Nat} {Q : Option Value → HIh → Prop} {I : HIh} 
    (k1 : HGo E (mF E (d + 5) Q) me_X12_dry 19 [(0, .ref 87), (1, .int 0), (2, .int 0)] [] I)
    : HGo E (mF E (d + 5) Q) me_X12_dry 15 [(0, .ref 87)] [] I := by
  refine h_iconst (v := 0) dX12_dry_15 (by decide) ?_
  refine h_istore_n (L' := [(1, .int 0), (0, .ref 87)]) dX12_dry_16 rfl (by decide) rfl ?_
  refine h_iconst (v := 0) dX12_dry_17 (by decide) ?_
  refine h_istore_n (L' := [(2, .int 0), (1, .int 0), (0, .ref 87)]) dX12_dry_18 rfl (by decide) rfl ?_
  refine h_pick [2, 1, 0] [(0, .ref 87), (1, .int 0), (2, .int 0)] rfl ?_
  exact k1
set_option maxHeartbeats 1000000 in
set_option maxRecDepth 20000 in
theorem sg_X12_dry_19 {E : HEn} {d : Nat} {Q : Option Value → HIh → Prop} {I : HIh} {x1 : Int32} {x2 : Int32}
    (k1 : 200 ≤ x2 → Q (some (.int (-1))) I)
    (k2 : ¬ 200 ≤ x2 → ¬ (I 87 13) = 0)
    (k3 : ¬ 200 ≤ x2 → vp_in (((I 88 30) + x2) - ((I 88 30) + x2) / (I 87 13) * (I 87 13)) 24)
    (k4 : ¬ 200 ≤ x2 → HCall E me_X12_visitsBy (d + 4) [.ref 87, .int 93, .int (I 96 ((((I 88 30) + x2) - ((I 88 30) + x2) / (I 87 13) * (I 87 13)).toNatClampNeg))] I (fun v9 J => HGo E (mF E (d + 5) Q) me_X12_dry 51 [(0, .ref 87), (1, .int x1), (2, .int x2)] (v9.toList ++ []) J))
    : HGo E (mF E (d + 5) Q) me_X12_dry 19 [(0, .ref 87), (1, .int x1), (2, .int x2)] [] I := by
  refine h_iload_n dX12_dry_19 rfl 2 rfl ?_
  refine h_sipush (v := 200) dX12_dry_20 (by decide) ?_
  refine h_icmp_ge (tgt := 80) dX12_dry_23 (by decide) (fun c1 => ?_) (fun c1 => ?_)
  ·
    refine h_iconst (v := (-1)) dX12_dry_80 (by decide) ?_
    exact h_iret dX12_dry_81 rfl (k1 c1)
  ·
    refine h_aload_n dX12_dry_26 rfl 0 rfl ?_
    refine h_bipush (v := 93) dX12_dry_27 (by decide) ?_
    refine h_aload_n dX12_dry_29 rfl 0 rfl ?_
    refine gf_10_12 dX12_dry_30 hl_X12_39 nl_87 zk_87 zp_87_12 ?_
    refine h_aload_n dX12_dry_33 rfl 0 rfl ?_
    refine gf_10_0 dX12_dry_34 hl_X12_7 nl_87 zk_87 zp_87_0 ?_
    refine h_bipush (v := 30) dX12_dry_37 (by decide) ?_
    refine h_iald dX12_dry_39 nl_88 zk_88 (vp_lit (by rw [zn_88]; decide)) ?_
    refine h_iload_n dX12_dry_40 rfl 2 rfl ?_
    refine h_iadd dX12_dry_41 ?_
    refine h_aload_n dX12_dry_42 rfl 0 rfl ?_
    refine gf_10_13 dX12_dry_43 hl_X12_147 nl_87 zk_87 ?_
    refine h_irem dX12_dry_46 (k2 c1) ?_
    refine h_iald dX12_dry_47 nl_96 zk_96 (by rw [zn_96]; exact k3 c1) ?_
    refine h_invV (As := [.int 93, .int (I 96 ((((I 88 30) + x2) - ((I 88 30) + x2) / (I 87 13) * (I 87 13)).toNatClampNeg))]) (st := []) dX12_dry_48 lk_X12_218 (h_room (by decide)) nl_87 zk_87 (by decide) rfl rfl rfl (Nat.le_of_ble_eq_true rfl) ?_
    exact k4 c1
set_option maxHeartbeats 1000000 in
set_option maxRecDepth 20000 in
theorem sg_X12_dry_51 {E : HEn} {d : Nat} {Q : Option Value → HIh → Prop} {I : HIh} {x1 : Int32} {x2 : Int32} {s0 : Int32}
    (k1 : s0 = 0 → ¬ (x1 + 1) = (I 87 13) → HGo E (mF E (d + 5) Q) me_X12_dry 19 [(0, .ref 87), (1, .int (x1 + 1)), (2, .int (x2 + 1))] [] I)
    (k2 : s0 = 0 → (x1 + 1) = (I 87 13) → Q (some (.int (x2 + 1))) I)
    (k3 : ¬ s0 = 0 → ¬ 0 = (I 87 13) → HGo E (mF E (d + 5) Q) me_X12_dry 19 [(0, .ref 87), (1, .int 0), (2, .int (x2 + 1))] [] I)
    (k4 : ¬ s0 = 0 → 0 = (I 87 13) → Q (some (.int (x2 + 1))) I)
    : HGo E (mF E (d + 5) Q) me_X12_dry 51 [(0, .ref 87), (1, .int x1), (2, .int x2)] [.int s0] I := by
  refine h_if_eq (tgt := 58) dX12_dry_51 (by decide) (fun c1 => ?_) (fun c1 => ?_)
  ·
    refine h_iload_n dX12_dry_58 rfl 1 rfl ?_
    refine h_iconst (v := 1) dX12_dry_59 (by decide) ?_
    refine h_iadd dX12_dry_60 ?_
    refine h_istore_n (L' := [(1, .int (x1 + 1)), (0, .ref 87), (2, .int x2)]) dX12_dry_61 rfl (by decide) rfl ?_
    refine h_iload_n dX12_dry_62 rfl 0 rfl ?_
    refine h_aload_n dX12_dry_63 rfl 1 rfl ?_
    refine gf_10_13 dX12_dry_64 hl_X12_147 nl_87 zk_87 ?_
    refine h_icmp_ne (tgt := 74) dX12_dry_67 (by decide) (fun c2 => ?_) (fun c2 => ?_)
    ·
      refine h_iinc (v := (x2 + 1)) (L' := [(2, .int (x2 + 1)), (1, .int (x1 + 1)), (0, .ref 87)]) dX12_dry_74 2 rfl rfl (by decide) rfl ?_
      refine h_goto (tgt := 19) dX12_dry_77 (by decide) ?_
      refine h_pick [2, 1, 0] [(0, .ref 87), (1, .int (x1 + 1)), (2, .int (x2 + 1))] rfl ?_
      exact k1 c1 c2
    ·
      refine h_iload_n dX12_dry_70 rfl 2 rfl ?_
      refine h_iconst (v := 1) dX12_dry_71 (by decide) ?_
      refine h_iadd dX12_dry_72 ?_
      exact h_iret dX12_dry_73 rfl (k2 c1 c2)
  ·
    refine h_iconst (v := 0) dX12_dry_54 (by decide) ?_
    refine h_goto (tgt := 61) dX12_dry_55 (by decide) ?_
    refine h_istore_n (L' := [(1, .int 0), (0, .ref 87), (2, .int x2)]) dX12_dry_61 rfl (by decide) rfl ?_
    refine h_iload_n dX12_dry_62 rfl 0 rfl ?_
    refine h_aload_n dX12_dry_63 rfl 1 rfl ?_
    refine gf_10_13 dX12_dry_64 hl_X12_147 nl_87 zk_87 ?_
    refine h_icmp_ne (tgt := 74) dX12_dry_67 (by decide) (fun c3 => ?_) (fun c3 => ?_)
    ·
      refine h_iinc (v := (x2 + 1)) (L' := [(2, .int (x2 + 1)), (1, .int 0), (0, .ref 87)]) dX12_dry_74 2 rfl rfl (by decide) rfl ?_
      refine h_goto (tgt := 19) dX12_dry_77 (by decide) ?_
      refine h_pick [2, 1, 0] [(0, .ref 87), (1, .int 0), (2, .int (x2 + 1))] rfl ?_
      exact k3 c1 c3
    ·
      refine h_iload_n dX12_dry_70 rfl 2 rfl ?_
      refine h_iconst (v := 1) dX12_dry_71 (by decide) ?_
      refine h_iadd dX12_dry_72 ?_
      exact h_iret dX12_dry_73 rfl (k4 c1 c3)
