set_option maxHeartbeats 1000000 in
set_option maxRecDepth 20000 in
theorem sg_X9_copyFrom_0 {E : HEn} {d : Nat} {Q : Option Value → HIh → Prop} {I : HIh} 
    (k1 : Q none (setI (setI (setI (setI (setI (setI (setI (setI (setI I 6 (va_cpy (I 26) (I 6) 0 0 6)) 7 (va_cpy (I 27) (I 7) 0 0 4)) 8 (va_cpy (I 28) (I 8) 0 0 4)) 9 (va_cpy (I 29) (I 9) 0 0 24)) 11 (va_cpy (I 31) (I 11) 0 0 30)) 10 (upd (I 10) 1 (I 30 1))) 1 (upd (I 1) 9 (I 21 9))) 1 (upd (upd (I 1) 9 (I 21 9)) 10 (I 21 10))) 1 (upd (upd (upd (I 1) 9 (I 21 9)) 10 (I 21 10)) 11 (I 21 11))))
    : HGo E (mF E (d + 2) Q) me_X9_copyFrom 0 [(0, .ref 1), (1, .ref 21)] [] I := by
  refine h_aload_n dX9_copyFrom_0 rfl 1 rfl ?_
  refine gf_7_4 dX9_copyFrom_1 hl_X9_36 nl_21 zk_21 zp_21_4 ?_
  refine h_iconst (v := 0) dX9_copyFrom_4 (by decide) ?_
  refine h_aload_n dX9_copyFrom_5 rfl 0 rfl ?_
  refine gf_7_4 dX9_copyFrom_6 hl_X9_36 nl_1 zk_1 zp_1_4 ?_
  refine h_iconst (v := 0) dX9_copyFrom_9 (by decide) ?_
  refine h_bipush (v := 6) dX9_copyFrom_10 (by decide) ?_
  refine h_copy dX9_copyFrom_12 wt_295 wt_297 wt_296 wt_14 nl_26 zk_26 nl_6 zk_6 (by decide) (by decide) (by decide) (by rw [zn_26]; decide) (by rw [zn_6]; decide) (h_frm (Nat.le_of_ble_eq_true rfl)).1 ?_
  refine h_aload_n dX9_copyFrom_15 rfl 1 rfl ?_
  refine gf_7_5 dX9_copyFrom_16 hl_X9_40 nl_21 zk_21 zp_21_5 ?_
  refine h_iconst (v := 0) dX9_copyFrom_19 (by decide) ?_
  refine h_aload_n dX9_copyFrom_20 rfl 0 rfl ?_
  refine gf_7_5 dX9_copyFrom_21 hl_X9_40 nl_1 zk_1 zp_1_5 ?_
  refine h_iconst (v := 0) dX9_copyFrom_24 (by decide) ?_
  refine h_iconst (v := 4) dX9_copyFrom_25 (by decide) ?_
  refine h_copy dX9_copyFrom_26 wt_295 wt_297 wt_296 wt_14 nl_27 zk_27 nl_7 zk_7 (by decide) (by decide) (by decide) (by rw [zn_27]; decide) (by rw [zn_7]; decide) (h_frm (Nat.le_of_ble_eq_true rfl)).1 ?_
  refine h_aload_n dX9_copyFrom_29 rfl 1 rfl ?_
  refine gf_7_6 dX9_copyFrom_30 hl_X9_43 nl_21 zk_21 zp_21_6 ?_
  refine h_iconst (v := 0) dX9_copyFrom_33 (by decide) ?_
  refine h_aload_n dX9_copyFrom_34 rfl 0 rfl ?_
  refine gf_7_6 dX9_copyFrom_35 hl_X9_43 nl_1 zk_1 zp_1_6 ?_
  refine h_iconst (v := 0) dX9_copyFrom_38 (by decide) ?_
  refine h_iconst (v := 4) dX9_copyFrom_39 (by decide) ?_
  refine h_copy dX9_copyFrom_40 wt_295 wt_297 wt_296 wt_14 nl_28 zk_28 nl_8 zk_8 (by decide) (by decide) (by decide) (by rw [zn_28]; decide) (by rw [zn_8]; decide) (h_frm (Nat.le_of_ble_eq_true rfl)).1 ?_
  refine h_aload_n dX9_copyFrom_43 rfl 1 rfl ?_
  refine gf_7_7 dX9_copyFrom_44 hl_X9_46 nl_21 zk_21 zp_21_7 ?_
  refine h_iconst (v := 0) dX9_copyFrom_47 (by decide) ?_
  refine h_aload_n dX9_copyFrom_48 rfl 0 rfl ?_
  refine gf_7_7 dX9_copyFrom_49 hl_X9_46 nl_1 zk_1 zp_1_7 ?_
  refine h_iconst (v := 0) dX9_copyFrom_52 (by decide) ?_
  refine h_bipush (v := 24) dX9_copyFrom_53 (by decide) ?_
  refine h_copy dX9_copyFrom_55 wt_295 wt_297 wt_296 wt_14 nl_29 zk_29 nl_9 zk_9 (by decide) (by decide) (by decide) (by rw [zn_29]; decide) (by rw [zn_9]; decide) (h_frm (Nat.le_of_ble_eq_true rfl)).1 ?_
  refine h_aload_n dX9_copyFrom_58 rfl 0 rfl ?_
  refine gf_7_8 dX9_copyFrom_59 hl_X9_52 nl_1 zk_1 zp_1_8 ?_
  refine h_aload_n dX9_copyFrom_62 rfl 1 rfl ?_
  refine gf_7_8 dX9_copyFrom_63 hl_X9_52 nl_21 zk_21 zp_21_8 ?_
  refine h_invV (As := [.ref 30]) (st := []) dX9_copyFrom_66 lk_X9_69 (h_room (by decide)) nl_10 zk_10 (by decide) rfl rfl rfl (Nat.le_of_ble_eq_true rfl) ?_
  refine c_X4_copyFrom nl_10 zk_10 zp_10_0 nl_11 zk_11 zn_11 nl_30 zk_30 zp_30_0 nl_31 zk_31 zn_31 ?_
  refine h_aload_n dX9_copyFrom_69 rfl 0 rfl ?_
  refine h_aload_n dX9_copyFrom_70 rfl 1 rfl ?_
  refine gf_7_9 dX9_copyFrom_71 hl_X9_56 nl_21 zk_21 ?_
  refine pf_7_9 dX9_copyFrom_74 hl_X9_56 nl_1 zk_1 ?_
  refine h_aload_n dX9_copyFrom_77 rfl 0 rfl ?_
  refine h_aload_n dX9_copyFrom_78 rfl 1 rfl ?_
  refine gf_7_10 dX9_copyFrom_79 hl_X9_73 nl_21 zk_21 ?_
  refine pf_7_10 dX9_copyFrom_82 hl_X9_73 nl_1 zk_1 ?_
  refine h_aload_n dX9_copyFrom_85 rfl 0 rfl ?_
  refine h_aload_n dX9_copyFrom_86 rfl 1 rfl ?_
  refine gf_7_11 dX9_copyFrom_87 hl_X9_60 nl_21 zk_21 ?_
  refine pf_7_11 dX9_copyFrom_90 hl_X9_60 nl_1 zk_1 ?_
  exact h_vret dX9_copyFrom_93 rfl (k1)
set_option maxHeartbeats 1000000 in
set_option maxRecDepth 20000 in
theorem sg_X9_copyFrom_t_0 {E : HEn} {d : Nat} {Q : Option Value → HIh → Prop} {I : HIh} 
    (k1 : Q none (setI (setI (setI (setI (setI (setI (setI (setI (setI I 26 (va_cpy (I 6) (I 26) 0 0 6)) 27 (va_cpy (I 7) (I 27) 0 0 4)) 28 (va_cpy (I 8) (I 28) 0 0 4)) 29 (va_cpy (I 9) (I 29) 0 0 24)) 31 (va_cpy (I 11) (I 31) 0 0 30)) 30 (upd (I 30) 1 (I 10 1))) 21 (upd (I 21) 9 (I 1 9))) 21 (upd (upd (I 21) 9 (I 1 9)) 10 (I 1 10))) 21 (upd (upd (upd (I 21) 9 (I 1 9)) 10 (I 1 10)) 11 (I 1 11))))
    : HGo E (mF E (d + 2) Q) me_X9_copyFrom 0 [(0, .ref 21), (1, .ref 1)] [] I := by
  refine h_aload_n dX9_copyFrom_0 rfl 1 rfl ?_
  refine gf_7_4 dX9_copyFrom_1 hl_X9_36 nl_1 zk_1 zp_1_4 ?_
  refine h_iconst (v := 0) dX9_copyFrom_4 (by decide) ?_
  refine h_aload_n dX9_copyFrom_5 rfl 0 rfl ?_
  refine gf_7_4 dX9_copyFrom_6 hl_X9_36 nl_21 zk_21 zp_21_4 ?_
  refine h_iconst (v := 0) dX9_copyFrom_9 (by decide) ?_
  refine h_bipush (v := 6) dX9_copyFrom_10 (by decide) ?_
  refine h_copy dX9_copyFrom_12 wt_295 wt_297 wt_296 wt_14 nl_6 zk_6 nl_26 zk_26 (by decide) (by decide) (by decide) (by rw [zn_6]; decide) (by rw [zn_26]; decide) (h_frm (Nat.le_of_ble_eq_true rfl)).1 ?_
  refine h_aload_n dX9_copyFrom_15 rfl 1 rfl ?_
  refine gf_7_5 dX9_copyFrom_16 hl_X9_40 nl_1 zk_1 zp_1_5 ?_
  refine h_iconst (v := 0) dX9_copyFrom_19 (by decide) ?_
  refine h_aload_n dX9_copyFrom_20 rfl 0 rfl ?_
  refine gf_7_5 dX9_copyFrom_21 hl_X9_40 nl_21 zk_21 zp_21_5 ?_
  refine h_iconst (v := 0) dX9_copyFrom_24 (by decide) ?_
  refine h_iconst (v := 4) dX9_copyFrom_25 (by decide) ?_
  refine h_copy dX9_copyFrom_26 wt_295 wt_297 wt_296 wt_14 nl_7 zk_7 nl_27 zk_27 (by decide) (by decide) (by decide) (by rw [zn_7]; decide) (by rw [zn_27]; decide) (h_frm (Nat.le_of_ble_eq_true rfl)).1 ?_
  refine h_aload_n dX9_copyFrom_29 rfl 1 rfl ?_
  refine gf_7_6 dX9_copyFrom_30 hl_X9_43 nl_1 zk_1 zp_1_6 ?_
  refine h_iconst (v := 0) dX9_copyFrom_33 (by decide) ?_
  refine h_aload_n dX9_copyFrom_34 rfl 0 rfl ?_
  refine gf_7_6 dX9_copyFrom_35 hl_X9_43 nl_21 zk_21 zp_21_6 ?_
  refine h_iconst (v := 0) dX9_copyFrom_38 (by decide) ?_
  refine h_iconst (v := 4) dX9_copyFrom_39 (by decide) ?_
  refine h_copy dX9_copyFrom_40 wt_295 wt_297 wt_296 wt_14 nl_8 zk_8 nl_28 zk_28 (by decide) (by decide) (by decide) (by rw [zn_8]; decide) (by rw [zn_28]; decide) (h_frm (Nat.le_of_ble_eq_true rfl)).1 ?_
  refine h_aload_n dX9_copyFrom_43 rfl 1 rfl ?_
  refine gf_7_7 dX9_copyFrom_44 hl_X9_46 nl_1 zk_1 zp_1_7 ?_
  refine h_iconst (v := 0) dX9_copyFrom_47 (by decide) ?_
  refine h_aload_n dX9_copyFrom_48 rfl 0 rfl ?_
  refine gf_7_7 dX9_copyFrom_49 hl_X9_46 nl_21 zk_21 zp_21_7 ?_
  refine h_iconst (v := 0) dX9_copyFrom_52 (by decide) ?_
  refine h_bipush (v := 24) dX9_copyFrom_53 (by decide) ?_
  refine h_copy dX9_copyFrom_55 wt_295 wt_297 wt_296 wt_14 nl_9 zk_9 nl_29 zk_29 (by decide) (by decide) (by decide) (by rw [zn_9]; decide) (by rw [zn_29]; decide) (h_frm (Nat.le_of_ble_eq_true rfl)).1 ?_
  refine h_aload_n dX9_copyFrom_58 rfl 0 rfl ?_
  refine gf_7_8 dX9_copyFrom_59 hl_X9_52 nl_21 zk_21 zp_21_8 ?_
  refine h_aload_n dX9_copyFrom_62 rfl 1 rfl ?_
  refine gf_7_8 dX9_copyFrom_63 hl_X9_52 nl_1 zk_1 zp_1_8 ?_
  refine h_invV (As := [.ref 10]) (st := []) dX9_copyFrom_66 lk_X9_69 (h_room (by decide)) nl_30 zk_30 (by decide) rfl rfl rfl (Nat.le_of_ble_eq_true rfl) ?_
  refine c_X4_copyFrom nl_30 zk_30 zp_30_0 nl_31 zk_31 zn_31 nl_10 zk_10 zp_10_0 nl_11 zk_11 zn_11 ?_
  refine h_aload_n dX9_copyFrom_69 rfl 0 rfl ?_
  refine h_aload_n dX9_copyFrom_70 rfl 1 rfl ?_
  refine gf_7_9 dX9_copyFrom_71 hl_X9_56 nl_1 zk_1 ?_
  refine pf_7_9 dX9_copyFrom_74 hl_X9_56 nl_21 zk_21 ?_
  refine h_aload_n dX9_copyFrom_77 rfl 0 rfl ?_
  refine h_aload_n dX9_copyFrom_78 rfl 1 rfl ?_
  refine gf_7_10 dX9_copyFrom_79 hl_X9_73 nl_1 zk_1 ?_
  refine pf_7_10 dX9_copyFrom_82 hl_X9_73 nl_21 zk_21 ?_
  refine h_aload_n dX9_copyFrom_85 rfl 0 rfl ?_
  refine h_aload_n dX9_copyFrom_86 rfl 1 rfl ?_
  refine gf_7_11 dX9_copyFrom_87 hl_X9_60 nl_1 zk_1 ?_
  refine pf_7_11 dX9_copyFrom_90 hl_X9_60 nl_21 zk_21 ?_
  exact h_vret dX9_copyFrom_93 rfl (k1)
set_option maxHeartbeats 1000000 in
set_option maxRecDepth 20000 in
theorem sg_X9_visitsLeft_0 {E : HEn} {d : Nat} {Q : Option Value → HIh → Prop} {I : HIh} {h : Nat} {z : Int32} (a_h : h < NL) (b_h : Zk h = 3)
    (k1 : HGo E (mF E (d + 2) Q) me_X9_visitsLeft 8 [(0, .ref 1), (2, .int z), (3, .int 0), (4, .int (I h 1))] [] I)
    : HGo E (mF E (d + 2) Q) me_X9_visitsLeft 0 [(0, .ref 1), (1, .ref h), (2, .int z)] [] I := by
  refine h_iconst (v := 0) dX9_visitsLeft_0 (by decide) ?_
  refine h_istore_n (L' := [(3, .int 0), (0, .ref 1), (1, .ref h), (2, .int z)]) dX9_visitsLeft_1 rfl (by decide) rfl ?_
  refine h_aload_n dX9_visitsLeft_2 rfl 2 rfl ?_
  refine gf_3_1 dX9_visitsLeft_3 hl_X9_80 a_h b_h ?_
  refine h_istore (L' := [(4, .int (I h 1)), (3, .int 0), (0, .ref 1), (1, .ref h), (2, .int z)]) dX9_visitsLeft_6 (by decide) rfl ?_
  refine h_pick [2, 4, 1, 0] [(0, .ref 1), (2, .int z), (3, .int 0), (4, .int (I h 1))] rfl ?_
  exact k1
set_option maxHeartbeats 1000000 in
set_option maxRecDepth 20000 in
theorem sg_X9_visitsLeft_8 {E : HEn} {d : Nat} {Q : Option Value → HIh → Prop} {I : HIh} {x2 : Int32} {x3 : Int32} {x4 : Int32}
    (k1 : (I 1 10) ≤ x4 → Q (some (.int x3)) I)
    (k2 : ¬ (I 1 10) ≤ x4 → HGo E (mF E (d + 2) Q) me_X9_visitsLeft 8 [(0, .ref 1), (2, .int x2), (3, .int (x3 + ((x2 >>> ((fVis (I 1 10) (I 9) x4) &&& 31)) &&& 1))), (4, .int (x4 + 1))] [] I)
    : HGo E (mF E (d + 2) Q) me_X9_visitsLeft 8 [(0, .ref 1), (2, .int x2), (3, .int x3), (4, .int x4)] [] I := by
  refine h_iload dX9_visitsLeft_8 3 rfl ?_
  refine h_aload_n dX9_visitsLeft_10 rfl 0 rfl ?_
  refine gf_7_10 dX9_visitsLeft_11 hl_X9_73 nl_1 zk_1 ?_
  refine h_icmp_ge (tgt := 36) dX9_visitsLeft_14 (by decide) (fun c1 => ?_) (fun c1 => ?_)
  ·
    refine h_iload_n dX9_visitsLeft_36 rfl 2 rfl ?_
    exact h_iret dX9_visitsLeft_37 rfl (k1 c1)
  ·
    refine h_iload_n dX9_visitsLeft_17 rfl 2 rfl ?_
    refine h_iload_n dX9_visitsLeft_18 rfl 1 rfl ?_
    refine h_aload_n dX9_visitsLeft_19 rfl 0 rfl ?_
    refine h_iload dX9_visitsLeft_20 3 rfl ?_
    refine h_invV (As := [.int x4]) (st := [.int x2, .int x3]) dX9_visitsLeft_22 lk_X9_83 (h_room (by decide)) nl_1 zk_1 (by decide) rfl rfl rfl (Nat.le_of_ble_eq_true rfl) ?_
    refine c_X9_visitor ?_
    refine h_ishr dX9_visitsLeft_25 ?_
    refine h_iconst (v := 1) dX9_visitsLeft_26 (by decide) ?_
    refine h_iand dX9_visitsLeft_27 ?_
    refine h_iadd dX9_visitsLeft_28 ?_
    refine h_istore_n (L' := [(3, .int (x3 + ((x2 >>> ((fVis (I 1 10) (I 9) x4) &&& 31)) &&& 1))), (0, .ref 1), (2, .int x2), (4, .int x4)]) dX9_visitsLeft_29 rfl (by decide) rfl ?_
    refine h_iinc (v := (x4 + 1)) (L' := [(4, .int (x4 + 1)), (3, .int (x3 + ((x2 >>> ((fVis (I 1 10) (I 9) x4) &&& 31)) &&& 1))), (0, .ref 1), (2, .int x2)]) dX9_visitsLeft_30 3 rfl rfl (by decide) rfl ?_
    refine h_goto (tgt := 8) dX9_visitsLeft_33 (by decide) ?_
    refine h_pick [2, 3, 1, 0] [(0, .ref 1), (2, .int x2), (3, .int (x3 + ((x2 >>> ((fVis (I 1 10) (I 9) x4) &&& 31)) &&& 1))), (4, .int (x4 + 1))] rfl ?_
    exact k2 c1
set_option maxHeartbeats 1000000 in
set_option maxRecDepth 20000 in
theorem sg_X9_wealth_0 {E : HEn} {d : Nat} {Q : Option Value → HIh → Prop} {I : HIh} {h : Nat} {o : Int32} (a_h : h < NL) (b_h : Zk h = 3)
    (k1 : HGo E (mF E (d + 2) Q) me_X9_wealth 5 [(0, .ref 1), (1, .ref h), (2, .int o), (3, .int 0), (4, .int 0)] [] I)
    : HGo E (mF E (d + 2) Q) me_X9_wealth 0 [(0, .ref 1), (1, .ref h), (2, .int o)] [] I := by
  refine h_iconst (v := 0) dX9_wealth_0 (by decide) ?_
  refine h_istore_n (L' := [(3, .int 0), (0, .ref 1), (1, .ref h), (2, .int o)]) dX9_wealth_1 rfl (by decide) rfl ?_
  refine h_iconst (v := 0) dX9_wealth_2 (by decide) ?_
  refine h_istore (L' := [(4, .int 0), (3, .int 0), (0, .ref 1), (1, .ref h), (2, .int o)]) dX9_wealth_3 (by decide) rfl ?_
  refine h_pick [2, 3, 4, 1, 0] [(0, .ref 1), (1, .ref h), (2, .int o), (3, .int 0), (4, .int 0)] rfl ?_
  exact k1
set_option maxHeartbeats 1000000 in
set_option maxRecDepth 20000 in
theorem sg_X9_wealth_5 {E : HEn} {d : Nat} {Q : Option Value → HIh → Prop} {I : HIh} {h c : Nat} {x2 : Int32} {x3 : Int32} {x4 : Int32} (a_h : h < NL) (b_h : Zk h = 3) (p_h : Zp h 0 = c) (a_c : c < NL) (b_c : Zk c = 11) (n_c : Zn c = 30)
    (k1 : (I 1 9) ≤ x4 → Q (some (.int x3)) I)
    (k2 : ¬ (I 1 9) ≤ x4 → HGo E (mF E (d + 2) Q) me_X9_wealth 5 [(0, .ref 1), (1, .ref h), (2, .int x2), (3, .int (x3 + ((fWor (I 6) x4) * (fOf (I c) x2 x4)))), (4, .int (x4 + 1))] [] I)
    : HGo E (mF E (d + 2) Q) me_X9_wealth 5 [(0, .ref 1), (1, .ref h), (2, .int x2), (3, .int x3), (4, .int x4)] [] I := by
  refine h_iload dX9_wealth_5 4 rfl ?_
  refine h_aload_n dX9_wealth_7 rfl 0 rfl ?_
  refine gf_7_9 dX9_wealth_8 hl_X9_56 nl_1 zk_1 ?_
  refine h_icmp_ge (tgt := 37) dX9_wealth_11 (by decide) (fun c1 => ?_) (fun c1 => ?_)
  ·
    refine h_iload_n dX9_wealth_37 rfl 3 rfl ?_
    exact h_iret dX9_wealth_38 rfl (k1 c1)
  ·
    refine h_iload_n dX9_wealth_14 rfl 3 rfl ?_
    refine h_aload_n dX9_wealth_15 rfl 0 rfl ?_
    refine h_iload dX9_wealth_16 4 rfl ?_
    refine h_invV (As := [.int x4]) (st := [.int x3]) dX9_wealth_18 lk_X9_87 (h_room (by decide)) nl_1 zk_1 (by decide) rfl rfl rfl (Nat.le_of_ble_eq_true rfl) ?_
    refine c_X9_worthOf ?_
    refine h_aload_n dX9_wealth_21 rfl 1 rfl ?_
    refine h_iload_n dX9_wealth_22 rfl 2 rfl ?_
    refine h_iload dX9_wealth_23 4 rfl ?_
    refine h_invV (As := [.int x2, .int x4]) (st := [.int (fWor (I 6) x4), .int x3]) dX9_wealth_25 lk_X9_90 (h_room (by decide)) a_h b_h (by decide) rfl rfl rfl (Nat.le_of_ble_eq_true rfl) ?_
    refine c_X4_of a_h b_h p_h a_c b_c n_c ?_
    refine h_imul dX9_wealth_28 ?_
    refine h_iadd dX9_wealth_29 ?_
    refine h_istore_n (L' := [(3, .int (x3 + ((fWor (I 6) x4) * (fOf (I c) x2 x4)))), (0, .ref 1), (1, .ref h), (2, .int x2), (4, .int x4)]) dX9_wealth_30 rfl (by decide) rfl ?_
    refine h_iinc (v := (x4 + 1)) (L' := [(4, .int (x4 + 1)), (3, .int (x3 + ((fWor (I 6) x4) * (fOf (I c) x2 x4)))), (0, .ref 1), (1, .ref h), (2, .int x2)]) dX9_wealth_31 4 rfl rfl (by decide) rfl ?_
    refine h_goto (tgt := 5) dX9_wealth_34 (by decide) ?_
    refine h_pick [2, 3, 4, 1, 0] [(0, .ref 1), (1, .ref h), (2, .int x2), (3, .int (x3 + ((fWor (I 6) x4) * (fOf (I c) x2 x4)))), (4, .int (x4 + 1))] rfl ?_
    exact k2 c1
set_option maxHeartbeats 1000000 in
set_option maxRecDepth 20000 in
theorem sg_X9_gainOf_0 {E : HEn} {d : Nat} {Q : Option Value → HIh → Prop} {I : HIh} {h : Nat} {k : Int32} (a_h : h < NL) (b_h : Zk h = 3)
    (k1 : HGo E (mF E (d + 2) Q) me_X9_gainOf 14 [(0, .ref 1), (1, .ref h), (3, .int (-(fWor (I 6) k))), (4, .int (fTop (I 1 11) k))] [] I)
    : HGo E (mF E (d + 2) Q) me_X9_gainOf 0 [(0, .ref 1), (1, .ref h), (2, .int k)] [] I := by
  refine h_aload_n dX9_gainOf_0 rfl 0 rfl ?_
  refine h_iload_n dX9_gainOf_1 rfl 2 rfl ?_
  refine h_invV (As := [.int k]) (st := []) dX9_gainOf_2 lk_X9_87 (h_room (by decide)) nl_1 zk_1 (by decide) rfl rfl rfl (Nat.le_of_ble_eq_true rfl) ?_
  refine c_X9_worthOf ?_
  refine h_ineg dX9_gainOf_5 ?_
  refine h_istore_n (L' := [(3, .int (-(fWor (I 6) k))), (0, .ref 1), (1, .ref h), (2, .int k)]) dX9_gainOf_6 rfl (by decide) rfl ?_
  refine h_aload_n dX9_gainOf_7 rfl 1 rfl ?_
  refine h_iload_n dX9_gainOf_8 rfl 3 rfl ?_
  refine h_invV (As := [.int k]) (st := []) dX9_gainOf_9 lk_X9_94 (h_room (by decide)) nl_1 zk_1 (by decide) rfl rfl rfl (Nat.le_of_ble_eq_true rfl) ?_
  refine c1_greatestTaken ?_
  refine h_istore (L' := [(4, .int (fTop (I 1 11) k)), (3, .int (-(fWor (I 6) k))), (0, .ref 1), (1, .ref h), (2, .int k)]) dX9_gainOf_12 (by decide) rfl ?_
  refine h_pick [2, 3, 1, 0] [(0, .ref 1), (1, .ref h), (3, .int (-(fWor (I 6) k))), (4, .int (fTop (I 1 11) k))] rfl ?_
  exact k1
set_option maxHeartbeats 1000000 in
set_option maxRecDepth 20000 in
theorem sg_X9_gainOf_14 {E : HEn} {d : Nat} {Q : Option Value → HIh → Prop} {I : HIh} {h c : Nat} {x3 : Int32} {x4 : Int32} (a_h : h < NL) (b_h : Zk h = 3) (p_h : Zp h 0 = c) (a_c : c < NL) (b_c : Zk c = 11) (n_c : Zn c = 30)
    (k1 : x4 < 0 → Q (some (.int x3)) I)
    (k2 : ¬ x4 < 0 → (fMin (fOf (I c) 4 x4) (fMost (I 1 11))) ≤ 0 → HGo E (mF E (d + 2) Q) me_X9_gainOf 14 [(0, .ref 1), (1, .ref h), (3, .int (x3 + ((fWor (I 6) x4) * (fMin (fOf (I c) 4 x4) (fMost (I 1 11)))))), (4, .int (x4 + (-1)))] [] I)
    (k3 : ¬ x4 < 0 → ¬ (fMin (fOf (I c) 4 x4) (fMost (I 1 11))) ≤ 0 → (fOne (I 1 11)) = 0 → HGo E (mF E (d + 2) Q) me_X9_gainOf 14 [(0, .ref 1), (1, .ref h), (3, .int (x3 + ((fWor (I 6) x4) * (fMin (fOf (I c) 4 x4) (fMost (I 1 11)))))), (4, .int (x4 + (-1)))] [] I)
    (k4 : ¬ x4 < 0 → ¬ (fMin (fOf (I c) 4 x4) (fMost (I 1 11))) ≤ 0 → ¬ (fOne (I 1 11)) = 0 → Q (some (.int (x3 + ((fWor (I 6) x4) * (fMin (fOf (I c) 4 x4) (fMost (I 1 11))))))) I)
    : HGo E (mF E (d + 2) Q) me_X9_gainOf 14 [(0, .ref 1), (1, .ref h), (3, .int x3), (4, .int x4)] [] I := by
  refine h_iload dX9_gainOf_14 3 rfl ?_
  refine h_if_lt (tgt := 68) dX9_gainOf_16 (by decide) (fun c1 => ?_) (fun c1 => ?_)
  ·
    refine h_iload_n dX9_gainOf_68 rfl 2 rfl ?_
    exact h_iret dX9_gainOf_69 rfl (k1 c1)
  ·
    refine h_aload_n dX9_gainOf_19 rfl 1 rfl ?_
    refine h_iconst (v := 4) dX9_gainOf_20 (by decide) ?_
    refine h_iload dX9_gainOf_21 3 rfl ?_
    refine h_invV (As := [.int 4, .int x4]) (st := []) dX9_gainOf_23 lk_X9_90 (h_room (by decide)) a_h b_h (by decide) rfl rfl rfl (Nat.le_of_ble_eq_true rfl) ?_
    refine c_X4_of a_h b_h p_h a_c b_c n_c ?_
    refine h_aload_n dX9_gainOf_26 rfl 0 rfl ?_
    refine h_invV (As := []) (st := [.int (fOf (I c) 4 x4)]) dX9_gainOf_27 lk_X9_97 (h_room (by decide)) nl_1 zk_1 (by decide) rfl rfl rfl (Nat.le_of_ble_eq_true rfl) ?_
    refine c1_mostTaken ?_
    refine h_min dX9_gainOf_30 wt_570 wt_315 wt_15 wt_316 (h_frm (Nat.le_of_ble_eq_true rfl)) ?_
    refine h_istore (L' := [(5, .int (fMin (fOf (I c) 4 x4) (fMost (I 1 11)))), (0, .ref 1), (1, .ref h), (3, .int x3), (4, .int x4)]) dX9_gainOf_33 (by decide) rfl ?_
    refine h_iload_n dX9_gainOf_35 rfl 3 rfl ?_
    refine h_aload_n dX9_gainOf_36 rfl 1 rfl ?_
    refine h_iload dX9_gainOf_37 4 rfl ?_
    refine h_invV (As := [.int x4]) (st := [.int x3]) dX9_gainOf_39 lk_X9_87 (h_room (by decide)) nl_1 zk_1 (by decide) rfl rfl rfl (Nat.le_of_ble_eq_true rfl) ?_
    refine c_X9_worthOf ?_
    refine h_iload dX9_gainOf_42 0 rfl ?_
    refine h_imul dX9_gainOf_44 ?_
    refine h_iadd dX9_gainOf_45 ?_
    refine h_istore_n (L' := [(3, .int (x3 + ((fWor (I 6) x4) * (fMin (fOf (I c) 4 x4) (fMost (I 1 11)))))), (5, .int (fMin (fOf (I c) 4 x4) (fMost (I 1 11)))), (0, .ref 1), (1, .ref h), (4, .int x4)]) dX9_gainOf_46 rfl (by decide) rfl ?_
    refine h_iload dX9_gainOf_47 1 rfl ?_
    refine h_if_le (tgt := 62) dX9_gainOf_49 (by decide) (fun c2 => ?_) (fun c2 => ?_)
    ·
      refine h_iinc (v := (x4 + (-1))) (L' := [(4, .int (x4 + (-1))), (3, .int (x3 + ((fWor (I 6) x4) * (fMin (fOf (I c) 4 x4) (fMost (I 1 11)))))), (5, .int (fMin (fOf (I c) 4 x4) (fMost (I 1 11)))), (0, .ref 1), (1, .ref h)]) dX9_gainOf_62 4 rfl rfl (by decide) rfl ?_
      refine h_goto (tgt := 14) dX9_gainOf_65 (by decide) ?_
      refine h_pick [3, 4, 1, 0] [(0, .ref 1), (1, .ref h), (3, .int (x3 + ((fWor (I 6) x4) * (fMin (fOf (I c) 4 x4) (fMost (I 1 11)))))), (4, .int (x4 + (-1)))] rfl ?_
      exact k2 c1 c2
    ·
      refine h_aload_n dX9_gainOf_52 rfl 2 rfl ?_
      refine h_invV (As := []) (st := []) dX9_gainOf_53 lk_X9_106 (h_room (by decide)) nl_1 zk_1 (by decide) rfl rfl rfl (Nat.le_of_ble_eq_true rfl) ?_
      refine c1_takesOne ?_
      refine h_if_eq (tgt := 62) dX9_gainOf_56 (by decide) (fun c3 => ?_) (fun c3 => ?_)
      ·
        refine h_iinc (v := (x4 + (-1))) (L' := [(4, .int (x4 + (-1))), (3, .int (x3 + ((fWor (I 6) x4) * (fMin (fOf (I c) 4 x4) (fMost (I 1 11)))))), (5, .int (fMin (fOf (I c) 4 x4) (fMost (I 1 11)))), (0, .ref 1), (1, .ref h)]) dX9_gainOf_62 4 rfl rfl (by decide) rfl ?_
        refine h_goto (tgt := 14) dX9_gainOf_65 (by decide) ?_
        refine h_pick [3, 4, 1, 0] [(0, .ref 1), (1, .ref h), (3, .int (x3 + ((fWor (I 6) x4) * (fMin (fOf (I c) 4 x4) (fMost (I 1 11)))))), (4, .int (x4 + (-1)))] rfl ?_
        exact k3 c1 c2 c3
      ·
        refine h_goto (tgt := 68) dX9_gainOf_59 (by decide) ?_
        refine h_iload_n dX9_gainOf_68 rfl 0 rfl ?_
        exact h_iret dX9_gainOf_69 rfl (k4 c1 c2 c3)
set_option maxHeartbeats 1000000 in
set_option maxRecDepth 20000 in
theorem sg_X9_throwCoin_0 {E : HEn} {d : Nat} {Q : Option Value → HIh → Prop} {I : HIh} {h : Nat} {p : Int32} {k : Int32} (a_h : h < NL) (b_h : Zk h = 3)
    (k1 : HGo E (mF E (d + 2) Q) me_X9_throwCoin 7 [(0, .ref 1), (1, .ref h), (2, .int p), (3, .int k), (4, .int (fTop (I 1 11) k))] [] I)
    : HGo E (mF E (d + 2) Q) me_X9_throwCoin 0 [(0, .ref 1), (1, .ref h), (2, .int p), (3, .int k)] [] I := by
  refine h_aload_n dX9_throwCoin_0 rfl 0 rfl ?_
  refine h_iload_n dX9_throwCoin_1 rfl 3 rfl ?_
  refine h_invV (As := [.int k]) (st := []) dX9_throwCoin_2 lk_X9_94 (h_room (by decide)) nl_1 zk_1 (by decide) rfl rfl rfl (Nat.le_of_ble_eq_true rfl) ?_
  refine c1_greatestTaken ?_
  refine h_istore (L' := [(4, .int (fTop (I 1 11) k)), (0, .ref 1), (1, .ref h), (2, .int p), (3, .int k)]) dX9_throwCoin_5 (by decide) rfl ?_
  refine h_pick [1, 2, 3, 4, 0] [(0, .ref 1), (1, .ref h), (2, .int p), (3, .int k), (4, .int (fTop (I 1 11) k))] rfl ?_
  exact k1
set_option maxHeartbeats 1000000 in
set_option maxRecDepth 20000 in
theorem sg_X9_throwCoin_7 {E : HEn} {d : Nat} {Q : Option Value → HIh → Prop} {I : HIh} {h c : Nat} {x2 : Int32} {x3 : Int32} {x4 : Int32} (a_h : h < NL) (b_h : Zk h = 3) (p_h : Zp h 0 = c) (a_c : c < NL) (b_c : Zk c = 11) (n_c : Zn c = 30)
    (k1 : x4 < 0 → Q none (setI (setI I c (fAdd (I c) x2 x3 (-1))) c (fAdd ((setI I c (fAdd (I c) x2 x3 (-1))) c) 4 x3 1)))
    (k2 : ¬ x4 < 0 → (fMin (fOf (I c) 4 x4) (fMost (I 1 11))) ≤ 0 → HGo E (mF E (d + 2) Q) me_X9_throwCoin 7 [(0, .ref 1), (1, .ref h), (2, .int x2), (3, .int x3), (4, .int (x4 + (-1)))] [] (setI (setI I c (fAdd (I c) 4 x4 (-(fMin (fOf (I c) 4 x4) (fMost (I 1 11)))))) c (fAdd ((setI I c (fAdd (I c) 4 x4 (-(fMin (fOf (I c) 4 x4) (fMost (I 1 11)))))) c) x2 x4 (fMin (fOf (I c) 4 x4) (fMost (I 1 11))))))
    (k3 : ¬ x4 < 0 → ¬ (fMin (fOf (I c) 4 x4) (fMost (I 1 11))) ≤ 0 → (fOne ((setI (setI I c (fAdd (I c) 4 x4 (-(fMin (fOf (I c) 4 x4) (fMost (I 1 11)))))) c (fAdd ((setI I c (fAdd (I c) 4 x4 (-(fMin (fOf (I c) 4 x4) (fMost (I 1 11)))))) c) x2 x4 (fMin (fOf (I c) 4 x4) (fMost (I 1 11))))) 1 11)) = 0 → HGo E (mF E (d + 2) Q) me_X9_throwCoin 7 [(0, .ref 1), (1, .ref h), (2, .int x2), (3, .int x3), (4, .int (x4 + (-1)))] [] (setI (setI I c (fAdd (I c) 4 x4 (-(fMin (fOf (I c) 4 x4) (fMost (I 1 11)))))) c (fAdd ((setI I c (fAdd (I c) 4 x4 (-(fMin (fOf (I c) 4 x4) (fMost (I 1 11)))))) c) x2 x4 (fMin (fOf (I c) 4 x4) (fMost (I 1 11))))))
    (k4 : ¬ x4 < 0 → ¬ (fMin (fOf (I c) 4 x4) (fMost (I 1 11))) ≤ 0 → ¬ (fOne ((setI (setI I c (fAdd (I c) 4 x4 (-(fMin (fOf (I c) 4 x4) (fMost (I 1 11)))))) c (fAdd ((setI I c (fAdd (I c) 4 x4 (-(fMin (fOf (I c) 4 x4) (fMost (I 1 11)))))) c) x2 x4 (fMin (fOf (I c) 4 x4) (fMost (I 1 11))))) 1 11)) = 0 → Q none (setI (setI (setI (setI I c (fAdd (I c) 4 x4 (-(fMin (fOf (I c) 4 x4) (fMost (I 1 11)))))) c (fAdd ((setI I c (fAdd (I c) 4 x4 (-(fMin (fOf (I c) 4 x4) (fMost (I 1 11)))))) c) x2 x4 (fMin (fOf (I c) 4 x4) (fMost (I 1 11))))) c (fAdd ((setI (setI I c (fAdd (I c) 4 x4 (-(fMin (fOf (I c) 4 x4) (fMost (I 1 11)))))) c (fAdd ((setI I c (fAdd (I c) 4 x4 (-(fMin (fOf (I c) 4 x4) (fMost (I 1 11)))))) c) x2 x4 (fMin (fOf (I c) 4 x4) (fMost (I 1 11))))) c) x2 x3 (-1))) c (fAdd ((setI (setI (setI I c (fAdd (I c) 4 x4 (-(fMin (fOf (I c) 4 x4) (fMost (I 1 11)))))) c (fAdd ((setI I c (fAdd (I c) 4 x4 (-(fMin (fOf (I c) 4 x4) (fMost (I 1 11)))))) c) x2 x4 (fMin (fOf (I c) 4 x4) (fMost (I 1 11))))) c (fAdd ((setI (setI I c (fAdd (I c) 4 x4 (-(fMin (fOf (I c) 4 x4) (fMost (I 1 11)))))) c (fAdd ((setI I c (fAdd (I c) 4 x4 (-(fMin (fOf (I c) 4 x4) (fMost (I 1 11)))))) c) x2 x4 (fMin (fOf (I c) 4 x4) (fMost (I 1 11))))) c) x2 x3 (-1))) c) 4 x3 1)))
    : HGo E (mF E (d + 2) Q) me_X9_throwCoin 7 [(0, .ref 1), (1, .ref h), (2, .int x2), (3, .int x3), (4, .int x4)] [] I := by
  refine h_iload dX9_throwCoin_7 4 rfl ?_
  refine h_if_lt (tgt := 68) dX9_throwCoin_9 (by decide) (fun c1 => ?_) (fun c1 => ?_)
  ·
    refine h_aload_n dX9_throwCoin_68 rfl 1 rfl ?_
    refine h_iload_n dX9_throwCoin_69 rfl 2 rfl ?_
    refine h_iload_n dX9_throwCoin_70 rfl 3 rfl ?_
    refine h_iconst (v := (-1)) dX9_throwCoin_71 (by decide) ?_
    refine h_invV (As := [.int x2, .int x3, .int (-1)]) (st := []) dX9_throwCoin_72 lk_X9_110 (h_room (by decide)) a_h b_h (by decide) rfl rfl rfl (Nat.le_of_ble_eq_true rfl) ?_
    refine c_X4_add a_h b_h p_h a_c b_c n_c ?_
    refine h_aload_n dX9_throwCoin_75 rfl 1 rfl ?_
    refine h_iconst (v := 4) dX9_throwCoin_76 (by decide) ?_
    refine h_iload_n dX9_throwCoin_77 rfl 3 rfl ?_
    refine h_iconst (v := 1) dX9_throwCoin_78 (by decide) ?_
    refine h_invV (As := [.int 4, .int x3, .int 1]) (st := []) dX9_throwCoin_79 lk_X9_110 (h_room (by decide)) a_h b_h (by decide) rfl rfl rfl (Nat.le_of_ble_eq_true rfl) ?_
    refine c_X4_add a_h b_h p_h a_c b_c n_c ?_
    exact h_vret dX9_throwCoin_82 rfl (k1 c1)
  ·
    refine h_aload_n dX9_throwCoin_12 rfl 1 rfl ?_
    refine h_iconst (v := 4) dX9_throwCoin_13 (by decide) ?_
    refine h_iload dX9_throwCoin_14 4 rfl ?_
    refine h_invV (As := [.int 4, .int x4]) (st := []) dX9_throwCoin_16 lk_X9_90 (h_room (by decide)) a_h b_h (by decide) rfl rfl rfl (Nat.le_of_ble_eq_true rfl) ?_
    refine c_X4_of a_h b_h p_h a_c b_c n_c ?_
    refine h_aload_n dX9_throwCoin_19 rfl 0 rfl ?_
    refine h_invV (As := []) (st := [.int (fOf (I c) 4 x4)]) dX9_throwCoin_20 lk_X9_97 (h_room (by decide)) nl_1 zk_1 (by decide) rfl rfl rfl (Nat.le_of_ble_eq_true rfl) ?_
    refine c1_mostTaken ?_
    refine h_min dX9_throwCoin_23 wt_570 wt_315 wt_15 wt_316 (h_frm (Nat.le_of_ble_eq_true rfl)) ?_
    refine h_istore (L' := [(5, .int (fMin (fOf (I c) 4 x4) (fMost (I 1 11)))), (0, .ref 1), (1, .ref h), (2, .int x2), (3, .int x3), (4, .int x4)]) dX9_throwCoin_26 (by decide) rfl ?_
    refine h_aload_n dX9_throwCoin_28 rfl 2 rfl ?_
    refine h_iconst (v := 4) dX9_throwCoin_29 (by decide) ?_
    refine h_iload dX9_throwCoin_30 5 rfl ?_
    refine h_iload dX9_throwCoin_32 0 rfl ?_
    refine h_ineg dX9_throwCoin_34 ?_
    refine h_invV (As := [.int 4, .int x4, .int (-(fMin (fOf (I c) 4 x4) (fMost (I 1 11))))]) (st := []) dX9_throwCoin_35 lk_X9_110 (h_room (by decide)) a_h b_h (by decide) rfl rfl rfl (Nat.le_of_ble_eq_true rfl) ?_
    refine c_X4_add a_h b_h p_h a_c b_c n_c ?_
    refine h_aload_n dX9_throwCoin_38 rfl 2 rfl ?_
    refine h_iload_n dX9_throwCoin_39 rfl 3 rfl ?_
    refine h_iload dX9_throwCoin_40 5 rfl ?_
    refine h_iload dX9_throwCoin_42 0 rfl ?_
    refine h_invV (As := [.int x2, .int x4, .int (fMin (fOf (I c) 4 x4) (fMost (I 1 11)))]) (st := []) dX9_throwCoin_44 lk_X9_110 (h_room (by decide)) a_h b_h (by decide) rfl rfl rfl (Nat.le_of_ble_eq_true rfl) ?_
    refine c_X4_add a_h b_h p_h a_c b_c n_c ?_
    refine h_iload dX9_throwCoin_47 0 rfl ?_
    refine h_if_le (tgt := 62) dX9_throwCoin_49 (by decide) (fun c2 => ?_) (fun c2 => ?_)
    ·
      refine h_iinc (v := (x4 + (-1))) (L' := [(4, .int (x4 + (-1))), (5, .int (fMin (fOf (I c) 4 x4) (fMost (I 1 11)))), (0, .ref 1), (1, .ref h), (2, .int x2), (3, .int x3)]) dX9_throwCoin_62 5 rfl rfl (by decide) rfl ?_
      refine h_goto (tgt := 7) dX9_throwCoin_65 (by decide) ?_
      refine h_pick [2, 3, 4, 5, 0] [(0, .ref 1), (1, .ref h), (2, .int x2), (3, .int x3), (4, .int (x4 + (-1)))] rfl ?_
      exact k2 c1 c2
    ·
      refine h_aload_n dX9_throwCoin_52 rfl 1 rfl ?_
      refine h_invV (As := []) (st := []) dX9_throwCoin_53 lk_X9_106 (h_room (by decide)) nl_1 zk_1 (by decide) rfl rfl rfl (Nat.le_of_ble_eq_true rfl) ?_
      refine c1_takesOne ?_
      refine h_if_eq (tgt := 62) dX9_throwCoin_56 (by decide) (fun c3 => ?_) (fun c3 => ?_)
      ·
        refine h_iinc (v := (x4 + (-1))) (L' := [(4, .int (x4 + (-1))), (5, .int (fMin (fOf (I c) 4 x4) (fMost (I 1 11)))), (0, .ref 1), (1, .ref h), (2, .int x2), (3, .int x3)]) dX9_throwCoin_62 5 rfl rfl (by decide) rfl ?_
        refine h_goto (tgt := 7) dX9_throwCoin_65 (by decide) ?_
        refine h_pick [2, 3, 4, 5, 0] [(0, .ref 1), (1, .ref h), (2, .int x2), (3, .int x3), (4, .int (x4 + (-1)))] rfl ?_
        exact k3 c1 c2 c3
      ·
        refine h_goto (tgt := 68) dX9_throwCoin_59 (by decide) ?_
        refine h_aload_n dX9_throwCoin_68 rfl 2 rfl ?_
        refine h_iload_n dX9_throwCoin_69 rfl 3 rfl ?_
        refine h_iload_n dX9_throwCoin_70 rfl 4 rfl ?_
        refine h_iconst (v := (-1)) dX9_throwCoin_71 (by decide) ?_
        refine h_invV (As := [.int x2, .int x3, .int (-1)]) (st := []) dX9_throwCoin_72 lk_X9_110 (h_room (by decide)) a_h b_h (by decide) rfl rfl rfl (Nat.le_of_ble_eq_true rfl) ?_
        refine c_X4_add a_h b_h p_h a_c b_c n_c ?_
        refine h_aload_n dX9_throwCoin_75 rfl 2 rfl ?_
        refine h_iconst (v := 4) dX9_throwCoin_76 (by decide) ?_
        refine h_iload_n dX9_throwCoin_77 rfl 4 rfl ?_
        refine h_iconst (v := 1) dX9_throwCoin_78 (by decide) ?_
        refine h_invV (As := [.int 4, .int x3, .int 1]) (st := []) dX9_throwCoin_79 lk_X9_110 (h_room (by decide)) a_h b_h (by decide) rfl rfl rfl (Nat.le_of_ble_eq_true rfl) ?_
        refine c_X4_add a_h b_h p_h a_c b_c n_c ?_
        exact h_vret dX9_throwCoin_82 rfl (k4 c1 c2 c3)
set_option maxHeartbeats 1000000 in
set_option maxRecDepth 20000 in
theorem sg_X10_leastGain_0 {E : HEn} {d : Nat} {Q : Option Value → HIh → Prop} {I : HIh} {p : Int32}
    (k1 : Q (some (.int (fMax 1 (fBnd (I 8) p)))) I)
    : HGo E (mF E (d + 2) Q) me_X10_leastGain 0 [(0, .ref 4), (1, .ref 1), (2, .int p)] [] I := by
  refine h_iconst (v := 1) dX10_leastGain_0 (by decide) ?_
  refine h_aload_n dX10_leastGain_1 rfl 1 rfl ?_
  refine h_iload_n dX10_leastGain_2 rfl 2 rfl ?_
  refine h_invV (As := [.int p]) (st := [.int 1]) dX10_leastGain_3 lk_X10_9 (h_room (by decide)) nl_1 zk_1 (by decide) rfl rfl rfl (Nat.le_of_ble_eq_true rfl) ?_
  refine c_X9_boundOf ?_
  refine h_max dX10_leastGain_6 wt_552 wt_553 wt_15 wt_554 (h_frm (Nat.le_of_ble_eq_true rfl)) ?_
  exact h_iret dX10_leastGain_9 rfl (k1)
set_option maxHeartbeats 1000000 in
set_option maxRecDepth 20000 in
theorem sg_X10_waitsFor_0 {E : HEn} {d : Nat} {Q : Option Value → HIh → Prop} {I : HIh} {p : Int32}
    (k1 : Q (some (.int (fBnd (I 8) p))) I)
    : HGo E (mF E (d + 2) Q) me_X10_waitsFor 0 [(0, .ref 4), (1, .ref 1), (2, .int p)] [] I := by
  refine h_aload_n dX10_waitsFor_0 rfl 1 rfl ?_
  refine h_iload_n dX10_waitsFor_1 rfl 2 rfl ?_
  refine h_invV (As := [.int p]) (st := []) dX10_waitsFor_2 lk_X10_9 (h_room (by decide)) nl_1 zk_1 (by decide) rfl rfl rfl (Nat.le_of_ble_eq_true rfl) ?_
  refine c_X9_boundOf ?_
  exact h_iret dX10_waitsFor_5 rfl (k1)
set_option maxHeartbeats 1000000 in
set_option maxRecDepth 20000 in
theorem sg_X6_tally_0 {E : HEn} {d : Nat} {Q : Option Value → HIh → Prop} {I : HIh} {v : Int32}
    (k1 : ¬ (I 80 8) = (-1) → HGo E (mF E (d + 2) Q) me_X6_tally 32 [(0, .ref 80), (1, .int v), (2, .int 0)] [] (setI (setI I 80 (upd (I 80) 7 ((I 80 7) + 1))) 80 (upd (upd (I 80) 7 ((I 80 7) + 1)) 8 (I 80 8))))
    (k2 : (I 80 8) = (-1) → HGo E (mF E (d + 2) Q) me_X6_tally 32 [(0, .ref 80), (1, .int v), (2, .int 0)] [] (setI (setI I 80 (upd (I 80) 7 ((I 80 7) + 1))) 80 (upd (upd (I 80) 7 ((I 80 7) + 1)) 8 v)))
    : HGo E (mF E (d + 2) Q) me_X6_tally 0 [(0, .ref 80), (1, .int v)] [] I := by
  refine h_aload_n dX6_tally_0 rfl 0 rfl ?_
  refine h_dup dX6_tally_1 rfl ?_
  refine gf_5_7 dX6_tally_2 hl_X6_39 nl_80 zk_80 ?_
  refine h_iconst (v := 1) dX6_tally_5 (by decide) ?_
  refine h_iadd dX6_tally_6 ?_
  refine pf_5_7 dX6_tally_7 hl_X6_39 nl_80 zk_80 ?_
  refine h_aload_n dX6_tally_10 rfl 0 rfl ?_
  refine h_aload_n dX6_tally_11 rfl 0 rfl ?_
  refine gf_5_8 dX6_tally_12 hl_X6_42 nl_80 zk_80 ?_
  refine h_iconst (v := (-1)) dX6_tally_15 (by decide) ?_
  refine h_icmp_ne (tgt := 23) dX6_tally_16 (by decide) (fun c1 => ?_) (fun c1 => ?_)
  ·
    refine h_aload_n dX6_tally_23 rfl 0 rfl ?_
    refine gf_5_8 dX6_tally_24 hl_X6_42 nl_80 zk_80 ?_
    refine pf_5_8 dX6_tally_27 hl_X6_42 nl_80 zk_80 ?_
    refine h_iconst (v := 0) dX6_tally_30 (by decide) ?_
    refine h_istore_n (L' := [(2, .int 0), (0, .ref 80), (1, .int v)]) dX6_tally_31 rfl (by decide) rfl ?_
    refine h_pick [1, 2, 0] [(0, .ref 80), (1, .int v), (2, .int 0)] rfl ?_
    exact k1 c1
  ·
    refine h_iload_n dX6_tally_19 rfl 1 rfl ?_
    refine h_goto (tgt := 27) dX6_tally_20 (by decide) ?_
    refine pf_5_8 dX6_tally_27 hl_X6_42 nl_80 zk_80 ?_
    refine h_iconst (v := 0) dX6_tally_30 (by decide) ?_
    refine h_istore_n (L' := [(2, .int 0), (0, .ref 80), (1, .int v)]) dX6_tally_31 rfl (by decide) rfl ?_
    refine h_pick [1, 2, 0] [(0, .ref 80), (1, .int v), (2, .int 0)] rfl ?_
    exact k2 c1
set_option maxHeartbeats 1000000 in
set_option maxRecDepth 20000 in
theorem sg_X6_tally_32 {E : HEn} {d : Nat} {Q : Option Value → HIh → Prop} {I : HIh} {x1 : Int32} {x2 : Int32}
    (k1 : (I 1 9) ≤ x2 → Q none I)
    (k2 : ¬ (I 1 9) ≤ x2 → 6 ≤ x2 → Q none I)
    (k3 : ¬ (I 1 9) ≤ x2 → ¬ 6 ≤ x2 → vp_in x2 6)
    (k4 : ¬ (I 1 9) ≤ x2 → ¬ 6 ≤ x2 → ¬ (I 85 x2.toNatClampNeg) = (-1) → vp_in x2 6)
    (k5 : ¬ (I 1 9) ≤ x2 → ¬ 6 ≤ x2 → ¬ (I 85 x2.toNatClampNeg) = (-1) → HGo E (mF E (d + 2) Q) me_X6_tally 32 [(0, .ref 80), (1, .int x1), (2, .int (x2 + 1))] [] (setI (setI I 85 (upd (I 85) x2.toNatClampNeg (fMin (I 85 x2.toNatClampNeg) ((x1 >>> ((2 * (((I 1 9) - 1) - x2)) &&& 31)) &&& 3)))) 86 (upd (I 86) x2.toNatClampNeg (fMax (I 86 x2.toNatClampNeg) ((x1 >>> ((2 * (((I 1 9) - 1) - x2)) &&& 31)) &&& 3)))))
    (k6 : ¬ (I 1 9) ≤ x2 → ¬ 6 ≤ x2 → (I 85 x2.toNatClampNeg) = (-1) → vp_in x2 6)
    (k7 : ¬ (I 1 9) ≤ x2 → ¬ 6 ≤ x2 → (I 85 x2.toNatClampNeg) = (-1) → HGo E (mF E (d + 2) Q) me_X6_tally 32 [(0, .ref 80), (1, .int x1), (2, .int (x2 + 1))] [] (setI (setI I 85 (upd (I 85) x2.toNatClampNeg ((x1 >>> ((2 * (((I 1 9) - 1) - x2)) &&& 31)) &&& 3))) 86 (upd (I 86) x2.toNatClampNeg (fMax (I 86 x2.toNatClampNeg) ((x1 >>> ((2 * (((I 1 9) - 1) - x2)) &&& 31)) &&& 3)))))
    : HGo E (mF E (d + 2) Q) me_X6_tally 32 [(0, .ref 80), (1, .int x1), (2, .int x2)] [] I := by
  refine h_iload_n dX6_tally_32 rfl 2 rfl ?_
  refine h_aload_n dX6_tally_33 rfl 0 rfl ?_
  refine gf_5_0 dX6_tally_34 hl_X6_31 nl_80 zk_80 zp_80_0 ?_
  refine gf_7_9 dX6_tally_37 hl_X6_45 nl_1 zk_1 ?_
  refine h_icmp_ge (tgt := 108) dX6_tally_40 (by decide) (fun c1 => ?_) (fun c1 => ?_)
  ·
    exact h_vret dX6_tally_108 rfl (k1 c1)
  ·
    refine h_iload_n dX6_tally_43 rfl 2 rfl ?_
    refine h_bipush (v := 6) dX6_tally_44 (by decide) ?_
    refine h_icmp_ge (tgt := 108) dX6_tally_46 (by decide) (fun c2 => ?_) (fun c2 => ?_)
    ·
      exact h_vret dX6_tally_108 rfl (k2 c1 c2)
    ·
      refine h_aload_n dX6_tally_49 rfl 0 rfl ?_
      refine h_iload_n dX6_tally_50 rfl 1 rfl ?_
      refine h_iload_n dX6_tally_51 rfl 2 rfl ?_
      refine h_invV (As := [.int x1, .int x2]) (st := []) dX6_tally_52 lk_X6_67 (h_room (by decide)) nl_80 zk_80 (by decide) rfl rfl rfl (Nat.le_of_ble_eq_true rfl) ?_
      refine c_X6_figureOf ?_
      refine h_istore_n (L' := [(3, .int ((x1 >>> ((2 * (((I 1 9) - 1) - x2)) &&& 31)) &&& 3)), (0, .ref 80), (1, .int x1), (2, .int x2)]) dX6_tally_55 rfl (by decide) rfl ?_
      refine h_aload_n dX6_tally_56 rfl 1 rfl ?_
      refine gf_5_4 dX6_tally_57 hl_X6_25 nl_80 zk_80 zp_80_4 ?_
      refine h_iload_n dX6_tally_60 rfl 3 rfl ?_
      refine h_aload_n dX6_tally_61 rfl 1 rfl ?_
      refine gf_5_4 dX6_tally_62 hl_X6_25 nl_80 zk_80 zp_80_4 ?_
      refine h_iload_n dX6_tally_65 rfl 3 rfl ?_
      refine h_iald dX6_tally_66 nl_85 zk_85 (by rw [zn_85]; exact k3 c1 c2) ?_
      refine h_iconst (v := (-1)) dX6_tally_67 (by decide) ?_
      refine h_icmp_ne (tgt := 75) dX6_tally_68 (by decide) (fun c3 => ?_) (fun c3 => ?_)
      ·
        refine h_aload_n dX6_tally_75 rfl 1 rfl ?_
        refine gf_5_4 dX6_tally_76 hl_X6_25 nl_80 zk_80 zp_80_4 ?_
        refine h_iload_n dX6_tally_79 rfl 3 rfl ?_
        refine h_iald dX6_tally_80 nl_85 zk_85 (by rw [zn_85]; exact k4 c1 c2 c3) ?_
        refine h_iload_n dX6_tally_81 rfl 0 rfl ?_
        refine h_min dX6_tally_82 wt_764 wt_315 wt_15 wt_316 (h_frm (Nat.le_of_ble_eq_true rfl)) ?_
        refine h_iast dX6_tally_85 nl_85 zk_85 (by rw [zn_85]; exact k4 c1 c2 c3) ?_
        refine h_aload_n dX6_tally_86 rfl 1 rfl ?_
        refine gf_5_5 dX6_tally_87 hl_X6_28 nl_80 zk_80 zp_80_5 ?_
        refine h_iload_n dX6_tally_90 rfl 3 rfl ?_
        refine h_aload_n dX6_tally_91 rfl 1 rfl ?_
        refine gf_5_5 dX6_tally_92 hl_X6_28 nl_80 zk_80 zp_80_5 ?_
        refine h_iload_n dX6_tally_95 rfl 3 rfl ?_
        refine h_iald dX6_tally_96 nl_86 zk_86 (by rw [zn_86]; exact k4 c1 c2 c3) ?_
        refine h_iload_n dX6_tally_97 rfl 0 rfl ?_
        refine h_max dX6_tally_98 wt_782 wt_553 wt_15 wt_554 (h_frm (Nat.le_of_ble_eq_true rfl)) ?_
        refine h_iast dX6_tally_101 nl_86 zk_86 (by rw [zn_86]; exact k4 c1 c2 c3) ?_
        refine h_iinc (v := (x2 + 1)) (L' := [(2, .int (x2 + 1)), (3, .int ((x1 >>> ((2 * (((I 1 9) - 1) - x2)) &&& 31)) &&& 3)), (0, .ref 80), (1, .int x1)]) dX6_tally_102 3 rfl rfl (by decide) rfl ?_
        refine h_goto (tgt := 32) dX6_tally_105 (by decide) ?_
        refine h_pick [2, 3, 0] [(0, .ref 80), (1, .int x1), (2, .int (x2 + 1))] rfl ?_
        exact k5 c1 c2 c3
      ·
        refine h_iload_n dX6_tally_71 rfl 0 rfl ?_
        refine h_goto (tgt := 85) dX6_tally_72 (by decide) ?_
        refine h_iast dX6_tally_85 nl_85 zk_85 (by rw [zn_85]; exact k6 c1 c2 c3) ?_
        refine h_aload_n dX6_tally_86 rfl 1 rfl ?_
        refine gf_5_5 dX6_tally_87 hl_X6_28 nl_80 zk_80 zp_80_5 ?_
        refine h_iload_n dX6_tally_90 rfl 3 rfl ?_
        refine h_aload_n dX6_tally_91 rfl 1 rfl ?_
        refine gf_5_5 dX6_tally_92 hl_X6_28 nl_80 zk_80 zp_80_5 ?_
        refine h_iload_n dX6_tally_95 rfl 3 rfl ?_
        refine h_iald dX6_tally_96 nl_86 zk_86 (by rw [zn_86]; exact k6 c1 c2 c3) ?_
        refine h_iload_n dX6_tally_97 rfl 0 rfl ?_
        refine h_max dX6_tally_98 wt_782 wt_553 wt_15 wt_554 (h_frm (Nat.le_of_ble_eq_true rfl)) ?_
        refine h_iast dX6_tally_101 nl_86 zk_86 (by rw [zn_86]; exact k6 c1 c2 c3) ?_
        refine h_iinc (v := (x2 + 1)) (L' := [(2, .int (x2 + 1)), (3, .int ((x1 >>> ((2 * (((I 1 9) - 1) - x2)) &&& 31)) &&& 3)), (0, .ref 80), (1, .int x1)]) dX6_tally_102 3 rfl rfl (by decide) rfl ?_
        refine h_goto (tgt := 32) dX6_tally_105 (by decide) ?_
        refine h_pick [2, 3, 0] [(0, .ref 80), (1, .int x1), (2, .int (x2 + 1))] rfl ?_
        exact k7 c1 c2 c3
set_option maxHeartbeats 1000000 in
set_option maxRecDepth 20000 in
theorem sg_X7_nextToken_0 {E : HEn} {d : Nat} {Q : Option Value → HIh → Prop} {I : HIh} 
    (k1 : HGo E (mF E (d + 2) Q) me_X7_nextToken 8 [(0, .ref 19)] [] (setI I 19 (upd (I 19) 4 (I 19 5))))
    : HGo E (mF E (d + 2) Q) me_X7_nextToken 0 [(0, .ref 19)] [] I := by
  refine h_aload_n dX7_nextToken_0 rfl 0 rfl ?_
  refine h_aload_n dX7_nextToken_1 rfl 0 rfl ?_
  refine gf_6_5 dX7_nextToken_2 hl_X7_30 nl_19 zk_19 ?_
  refine pf_6_4 dX7_nextToken_5 hl_X7_43 nl_19 zk_19 ?_
  exact k1
set_option maxHeartbeats 1000000 in
set_option maxRecDepth 20000 in
theorem sg_X7_nextToken_8 {E : HEn} {d : Nat} {Q : Option Value → HIh → Prop} {I : HIh} 
    (k1 : (I 19 2) ≤ (I 19 4) → (fTok (fByte (I 19 2) (I 20) (I 19 4))) = 1 → HGo E (mF E (d + 2) Q) me_X7_nextToken 99 [(0, .ref 19), (1, .int 1)] [] (setI (setI I 19 (upd (I 19) 6 (fTok (fByte (I 19 2) (I 20) (I 19 4))))) 19 (upd (upd (I 19) 6 (fTok (fByte (I 19 2) (I 20) (I 19 4)))) 5 (fMin ((I 19 4) + 1) (I 19 2)))))
    (k2 : (I 19 2) ≤ (I 19 4) → ¬ (fTok (fByte (I 19 2) (I 20) (I 19 4))) = 1 → ¬ (fTok (fByte (I 19 2) (I 20) (I 19 4))) = 2 → HGo E (mF E (d + 2) Q) me_X7_nextToken 99 [(0, .ref 19), (1, .int 0)] [] (setI (setI I 19 (upd (I 19) 6 (fTok (fByte (I 19 2) (I 20) (I 19 4))))) 19 (upd (upd (I 19) 6 (fTok (fByte (I 19 2) (I 20) (I 19 4)))) 5 (fMin ((I 19 4) + 1) (I 19 2)))))
    (k3 : (I 19 2) ≤ (I 19 4) → ¬ (fTok (fByte (I 19 2) (I 20) (I 19 4))) = 1 → (fTok (fByte (I 19 2) (I 20) (I 19 4))) = 2 → HGo E (mF E (d + 2) Q) me_X7_nextToken 99 [(0, .ref 19), (1, .int 1)] [] (setI (setI I 19 (upd (I 19) 6 (fTok (fByte (I 19 2) (I 20) (I 19 4))))) 19 (upd (upd (I 19) 6 (fTok (fByte (I 19 2) (I 20) (I 19 4)))) 5 (fMin ((I 19 4) + 1) (I 19 2)))))
    (k4 : ¬ (I 19 2) ≤ (I 19 4) → ¬ (fByte (I 19 2) (I 20) (I 19 4)) = 32 → (fTok (fByte (I 19 2) (I 20) (I 19 4))) = 1 → HGo E (mF E (d + 2) Q) me_X7_nextToken 99 [(0, .ref 19), (1, .int 1)] [] (setI (setI I 19 (upd (I 19) 6 (fTok (fByte (I 19 2) (I 20) (I 19 4))))) 19 (upd (upd (I 19) 6 (fTok (fByte (I 19 2) (I 20) (I 19 4)))) 5 (fMin ((I 19 4) + 1) (I 19 2)))))
    (k5 : ¬ (I 19 2) ≤ (I 19 4) → ¬ (fByte (I 19 2) (I 20) (I 19 4)) = 32 → ¬ (fTok (fByte (I 19 2) (I 20) (I 19 4))) = 1 → ¬ (fTok (fByte (I 19 2) (I 20) (I 19 4))) = 2 → HGo E (mF E (d + 2) Q) me_X7_nextToken 99 [(0, .ref 19), (1, .int 0)] [] (setI (setI I 19 (upd (I 19) 6 (fTok (fByte (I 19 2) (I 20) (I 19 4))))) 19 (upd (upd (I 19) 6 (fTok (fByte (I 19 2) (I 20) (I 19 4)))) 5 (fMin ((I 19 4) + 1) (I 19 2)))))
    (k6 : ¬ (I 19 2) ≤ (I 19 4) → ¬ (fByte (I 19 2) (I 20) (I 19 4)) = 32 → ¬ (fTok (fByte (I 19 2) (I 20) (I 19 4))) = 1 → (fTok (fByte (I 19 2) (I 20) (I 19 4))) = 2 → HGo E (mF E (d + 2) Q) me_X7_nextToken 99 [(0, .ref 19), (1, .int 1)] [] (setI (setI I 19 (upd (I 19) 6 (fTok (fByte (I 19 2) (I 20) (I 19 4))))) 19 (upd (upd (I 19) 6 (fTok (fByte (I 19 2) (I 20) (I 19 4)))) 5 (fMin ((I 19 4) + 1) (I 19 2)))))
    (k7 : ¬ (I 19 2) ≤ (I 19 4) → (fByte (I 19 2) (I 20) (I 19 4)) = 32 → HGo E (mF E (d + 2) Q) me_X7_nextToken 8 [(0, .ref 19)] [] (setI I 19 (upd (I 19) 4 ((I 19 4) + 1))))
    : HGo E (mF E (d + 2) Q) me_X7_nextToken 8 [(0, .ref 19)] [] I := by
  refine h_aload_n dX7_nextToken_8 rfl 0 rfl ?_
  refine gf_6_4 dX7_nextToken_9 hl_X7_43 nl_19 zk_19 ?_
  refine h_aload_n dX7_nextToken_12 rfl 0 rfl ?_
  refine gf_6_2 dX7_nextToken_13 hl_X7_22 nl_19 zk_19 ?_
  refine h_icmp_ge (tgt := 45) dX7_nextToken_16 (by decide) (fun c1 => ?_) (fun c1 => ?_)
  ·
    refine h_aload_n dX7_nextToken_45 rfl 0 rfl ?_
    refine h_aload_n dX7_nextToken_46 rfl 0 rfl ?_
    refine h_aload_n dX7_nextToken_47 rfl 0 rfl ?_
    refine gf_6_4 dX7_nextToken_48 hl_X7_43 nl_19 zk_19 ?_
    refine h_invV (As := [.int (I 19 4)]) (st := [.ref 19]) dX7_nextToken_51 lk_X7_52 (h_room (by decide)) nl_19 zk_19 (by decide) rfl rfl rfl (Nat.le_of_ble_eq_true rfl) ?_
    refine c_X7_byteAt ?_
    refine h_invS (As := [.int (fByte (I 19 2) (I 20) (I 19 4))]) (st := [.ref 19]) dX7_nextToken_54 lk_X7_56 (h_room (by decide)) rfl rfl (Nat.le_of_ble_eq_true rfl) ?_
    refine c_X7_tokenOf ?_
    refine pf_6_6 dX7_nextToken_57 hl_X7_46 nl_19 zk_19 ?_
    refine h_aload_n dX7_nextToken_60 rfl 0 rfl ?_
    refine h_aload_n dX7_nextToken_61 rfl 0 rfl ?_
    refine gf_6_4 dX7_nextToken_62 hl_X7_43 nl_19 zk_19 ?_
    refine h_iconst (v := 1) dX7_nextToken_65 (by decide) ?_
    refine h_iadd dX7_nextToken_66 ?_
    refine h_aload_n dX7_nextToken_67 rfl 0 rfl ?_
    refine gf_6_2 dX7_nextToken_68 hl_X7_22 nl_19 zk_19 ?_
    refine h_min dX7_nextToken_71 wt_314 wt_315 wt_15 wt_316 (h_frm (Nat.le_of_ble_eq_true rfl)) ?_
    refine pf_6_5 dX7_nextToken_74 hl_X7_30 nl_19 zk_19 ?_
    refine h_aload_n dX7_nextToken_77 rfl 0 rfl ?_
    refine gf_6_6 dX7_nextToken_78 hl_X7_46 nl_19 zk_19 ?_
    refine h_iconst (v := 1) dX7_nextToken_81 (by decide) ?_
    refine h_icmp_eq (tgt := 93) dX7_nextToken_82 (by decide) (fun c2 => ?_) (fun c2 => ?_)
    ·
      refine h_iconst (v := 1) dX7_nextToken_93 (by decide) ?_
      refine h_goto (tgt := 98) dX7_nextToken_94 (by decide) ?_
      refine h_istore_n (L' := [(1, .int 1), (0, .ref 19)]) dX7_nextToken_98 rfl (by decide) rfl ?_
      refine h_pick [1, 0] [(0, .ref 19), (1, .int 1)] rfl ?_
      exact k1 c1 c2
    ·
      refine h_aload_n dX7_nextToken_85 rfl 0 rfl ?_
      refine gf_6_6 dX7_nextToken_86 hl_X7_46 nl_19 zk_19 ?_
      refine h_iconst (v := 2) dX7_nextToken_89 (by decide) ?_
      refine h_icmp_ne (tgt := 97) dX7_nextToken_90 (by decide) (fun c3 => ?_) (fun c3 => ?_)
      ·
        refine h_iconst (v := 0) dX7_nextToken_97 (by decide) ?_
        refine h_istore_n (L' := [(1, .int 0), (0, .ref 19)]) dX7_nextToken_98 rfl (by decide) rfl ?_
        refine h_pick [1, 0] [(0, .ref 19), (1, .int 0)] rfl ?_
        exact k2 c1 c2 c3
      ·
        refine h_iconst (v := 1) dX7_nextToken_93 (by decide) ?_
        refine h_goto (tgt := 98) dX7_nextToken_94 (by decide) ?_
        refine h_istore_n (L' := [(1, .int 1), (0, .ref 19)]) dX7_nextToken_98 rfl (by decide) rfl ?_
        refine h_pick [1, 0] [(0, .ref 19), (1, .int 1)] rfl ?_
        exact k3 c1 c2 c3
  ·
    refine h_aload_n dX7_nextToken_19 rfl 0 rfl ?_
    refine h_aload_n dX7_nextToken_20 rfl 0 rfl ?_
    refine gf_6_4 dX7_nextToken_21 hl_X7_43 nl_19 zk_19 ?_
    refine h_invV (As := [.int (I 19 4)]) (st := []) dX7_nextToken_24 lk_X7_52 (h_room (by decide)) nl_19 zk_19 (by decide) rfl rfl rfl (Nat.le_of_ble_eq_true rfl) ?_
    refine c_X7_byteAt ?_
    refine h_bipush (v := 32) dX7_nextToken_27 (by decide) ?_
    refine h_icmp_ne (tgt := 45) dX7_nextToken_29 (by decide) (fun c4 => ?_) (fun c4 => ?_)
    ·
      refine h_aload_n dX7_nextToken_45 rfl 0 rfl ?_
      refine h_aload_n dX7_nextToken_46 rfl 0 rfl ?_
      refine h_aload_n dX7_nextToken_47 rfl 0 rfl ?_
      refine gf_6_4 dX7_nextToken_48 hl_X7_43 nl_19 zk_19 ?_
      refine h_invV (As := [.int (I 19 4)]) (st := [.ref 19]) dX7_nextToken_51 lk_X7_52 (h_room (by decide)) nl_19 zk_19 (by decide) rfl rfl rfl (Nat.le_of_ble_eq_true rfl) ?_
      refine c_X7_byteAt ?_
      refine h_invS (As := [.int (fByte (I 19 2) (I 20) (I 19 4))]) (st := [.ref 19]) dX7_nextToken_54 lk_X7_56 (h_room (by decide)) rfl rfl (Nat.le_of_ble_eq_true rfl) ?_
      refine c_X7_tokenOf ?_
      refine pf_6_6 dX7_nextToken_57 hl_X7_46 nl_19 zk_19 ?_
      refine h_aload_n dX7_nextToken_60 rfl 0 rfl ?_
      refine h_aload_n dX7_nextToken_61 rfl 0 rfl ?_
      refine gf_6_4 dX7_nextToken_62 hl_X7_43 nl_19 zk_19 ?_
      refine h_iconst (v := 1) dX7_nextToken_65 (by decide) ?_
      refine h_iadd dX7_nextToken_66 ?_
      refine h_aload_n dX7_nextToken_67 rfl 0 rfl ?_
      refine gf_6_2 dX7_nextToken_68 hl_X7_22 nl_19 zk_19 ?_
      refine h_min dX7_nextToken_71 wt_314 wt_315 wt_15 wt_316 (h_frm (Nat.le_of_ble_eq_true rfl)) ?_
      refine pf_6_5 dX7_nextToken_74 hl_X7_30 nl_19 zk_19 ?_
      refine h_aload_n dX7_nextToken_77 rfl 0 rfl ?_
      refine gf_6_6 dX7_nextToken_78 hl_X7_46 nl_19 zk_19 ?_
      refine h_iconst (v := 1) dX7_nextToken_81 (by decide) ?_
      refine h_icmp_eq (tgt := 93) dX7_nextToken_82 (by decide) (fun c5 => ?_) (fun c5 => ?_)
      ·
        refine h_iconst (v := 1) dX7_nextToken_93 (by decide) ?_
        refine h_goto (tgt := 98) dX7_nextToken_94 (by decide) ?_
        refine h_istore_n (L' := [(1, .int 1), (0, .ref 19)]) dX7_nextToken_98 rfl (by decide) rfl ?_
        refine h_pick [1, 0] [(0, .ref 19), (1, .int 1)] rfl ?_
        exact k4 c1 c4 c5
      ·
        refine h_aload_n dX7_nextToken_85 rfl 0 rfl ?_
        refine gf_6_6 dX7_nextToken_86 hl_X7_46 nl_19 zk_19 ?_
        refine h_iconst (v := 2) dX7_nextToken_89 (by decide) ?_
        refine h_icmp_ne (tgt := 97) dX7_nextToken_90 (by decide) (fun c6 => ?_) (fun c6 => ?_)
        ·
          refine h_iconst (v := 0) dX7_nextToken_97 (by decide) ?_
          refine h_istore_n (L' := [(1, .int 0), (0, .ref 19)]) dX7_nextToken_98 rfl (by decide) rfl ?_
          refine h_pick [1, 0] [(0, .ref 19), (1, .int 0)] rfl ?_
          exact k5 c1 c4 c5 c6
        ·
          refine h_iconst (v := 1) dX7_nextToken_93 (by decide) ?_
          refine h_goto (tgt := 98) dX7_nextToken_94 (by decide) ?_
          refine h_istore_n (L' := [(1, .int 1), (0, .ref 19)]) dX7_nextToken_98 rfl (by decide) rfl ?_
          refine h_pick [1, 0] [(0, .ref 19), (1, .int 1)] rfl ?_
          exact k6 c1 c4 c5 c6
    ·
      refine h_aload_n dX7_nextToken_32 rfl 0 rfl ?_
      refine h_dup dX7_nextToken_33 rfl ?_
      refine gf_6_4 dX7_nextToken_34 hl_X7_43 nl_19 zk_19 ?_
      refine h_iconst (v := 1) dX7_nextToken_37 (by decide) ?_
      refine h_iadd dX7_nextToken_38 ?_
      refine pf_6_4 dX7_nextToken_39 hl_X7_43 nl_19 zk_19 ?_
      refine h_goto (tgt := 8) dX7_nextToken_42 (by decide) ?_
      exact k7 c1 c4
set_option maxHeartbeats 1000000 in
set_option maxRecDepth 20000 in
theorem sg_X7_nextToken_99 {E : HEn} {d : Nat} {Q : Option Value → HIh → Prop} {I : HIh} {x1 : Int32}
    (k1 : x1 = 0 → Q none I)
    (k2 : ¬ x1 = 0 → (I 19 2) ≤ (I 19 5) → Q none I)
    (k3 : ¬ x1 = 0 → ¬ (I 19 2) ≤ (I 19 5) → ¬ (fTok (fByte (I 19 2) (I 20) (I 19 5))) = (I 19 6) → Q none I)
    (k4 : ¬ x1 = 0 → ¬ (I 19 2) ≤ (I 19 5) → (fTok (fByte (I 19 2) (I 20) (I 19 5))) = (I 19 6) → HGo E (mF E (d + 2) Q) me_X7_nextToken 99 [(0, .ref 19), (1, .int x1)] [] (setI I 19 (upd (I 19) 5 ((I 19 5) + 1))))
    : HGo E (mF E (d + 2) Q) me_X7_nextToken 99 [(0, .ref 19), (1, .int x1)] [] I := by
  refine h_iload_n dX7_nextToken_99 rfl 1 rfl ?_
  refine h_if_eq (tgt := 145) dX7_nextToken_100 (by decide) (fun c1 => ?_) (fun c1 => ?_)
  ·
    exact h_vret dX7_nextToken_145 rfl (k1 c1)
  ·
    refine h_aload_n dX7_nextToken_103 rfl 0 rfl ?_
    refine gf_6_5 dX7_nextToken_104 hl_X7_30 nl_19 zk_19 ?_
    refine h_aload_n dX7_nextToken_107 rfl 0 rfl ?_
    refine gf_6_2 dX7_nextToken_108 hl_X7_22 nl_19 zk_19 ?_
    refine h_icmp_ge (tgt := 145) dX7_nextToken_111 (by decide) (fun c2 => ?_) (fun c2 => ?_)
    ·
      exact h_vret dX7_nextToken_145 rfl (k2 c1 c2)
    ·
      refine h_aload_n dX7_nextToken_114 rfl 0 rfl ?_
      refine h_aload_n dX7_nextToken_115 rfl 0 rfl ?_
      refine gf_6_5 dX7_nextToken_116 hl_X7_30 nl_19 zk_19 ?_
      refine h_invV (As := [.int (I 19 5)]) (st := []) dX7_nextToken_119 lk_X7_52 (h_room (by decide)) nl_19 zk_19 (by decide) rfl rfl rfl (Nat.le_of_ble_eq_true rfl) ?_
      refine c_X7_byteAt ?_
      refine h_invS (As := [.int (fByte (I 19 2) (I 20) (I 19 5))]) (st := []) dX7_nextToken_122 lk_X7_56 (h_room (by decide)) rfl rfl (Nat.le_of_ble_eq_true rfl) ?_
      refine c_X7_tokenOf ?_
      refine h_aload_n dX7_nextToken_125 rfl 0 rfl ?_
      refine gf_6_6 dX7_nextToken_126 hl_X7_46 nl_19 zk_19 ?_
      refine h_icmp_ne (tgt := 145) dX7_nextToken_129 (by decide) (fun c3 => ?_) (fun c3 => ?_)
      ·
        exact h_vret dX7_nextToken_145 rfl (k3 c1 c2 c3)
      ·
        refine h_aload_n dX7_nextToken_132 rfl 0 rfl ?_
        refine h_dup dX7_nextToken_133 rfl ?_
        refine gf_6_5 dX7_nextToken_134 hl_X7_30 nl_19 zk_19 ?_
        refine h_iconst (v := 1) dX7_nextToken_137 (by decide) ?_
        refine h_iadd dX7_nextToken_138 ?_
        refine pf_6_5 dX7_nextToken_139 hl_X7_30 nl_19 zk_19 ?_
        refine h_goto (tgt := 99) dX7_nextToken_142 (by decide) ?_
        exact k4 c1 c2 c3
set_option maxHeartbeats 1000000 in
set_option maxRecDepth 20000 in
theorem sg_X7_isSemicolon_0 {E : HEn} {d : Nat} {Q : Option Value → HIh → Prop} {I : HIh} 
    (k1 : ¬ (I 19 6) = 3 → Q (some (.int 0)) I)
    (k2 : (I 19 6) = 3 → ¬ (fByte (I 19 2) (I 20) (I 19 4)) = 59 → Q (some (.int 0)) I)
    (k3 : (I 19 6) = 3 → (fByte (I 19 2) (I 20) (I 19 4)) = 59 → Q (some (.int 1)) I)
    : HGo E (mF E (d + 2) Q) me_X7_isSemicolon 0 [(0, .ref 19)] [] I := by
  refine h_aload_n dX7_isSemicolon_0 rfl 0 rfl ?_
  refine gf_6_6 dX7_isSemicolon_1 hl_X7_46 nl_19 zk_19 ?_
  refine h_iconst (v := 3) dX7_isSemicolon_4 (by decide) ?_
  refine h_icmp_ne (tgt := 25) dX7_isSemicolon_5 (by decide) (fun c1 => ?_) (fun c1 => ?_)
  ·
    refine h_iconst (v := 0) dX7_isSemicolon_25 (by decide) ?_
    exact h_zret dX7_isSemicolon_26 rfl rfl (k1 c1)
  ·
    refine h_aload_n dX7_isSemicolon_8 rfl 0 rfl ?_
    refine h_aload_n dX7_isSemicolon_9 rfl 0 rfl ?_
    refine gf_6_4 dX7_isSemicolon_10 hl_X7_43 nl_19 zk_19 ?_
    refine h_invV (As := [.int (I 19 4)]) (st := []) dX7_isSemicolon_13 lk_X7_52 (h_room (by decide)) nl_19 zk_19 (by decide) rfl rfl rfl (Nat.le_of_ble_eq_true rfl) ?_
    refine c_X7_byteAt ?_
    refine h_bipush (v := 59) dX7_isSemicolon_16 (by decide) ?_
    refine h_icmp_ne (tgt := 25) dX7_isSemicolon_18 (by decide) (fun c2 => ?_) (fun c2 => ?_)
    ·
      refine h_iconst (v := 0) dX7_isSemicolon_25 (by decide) ?_
      exact h_zret dX7_isSemicolon_26 rfl rfl (k2 c1 c2)
    ·
      refine h_iconst (v := 1) dX7_isSemicolon_21 (by decide) ?_
      refine h_goto (tgt := 26) dX7_isSemicolon_22 (by decide) ?_
      exact h_zret dX7_isSemicolon_26 rfl rfl (k3 c1 c2)
set_option maxHeartbeats 1000000 in
set_option maxRecDepth 20000 in
theorem sg_X2_isFree_0 {E : HEn} {d : Nat} {Q : Option Value → HIh → Prop} {I : HIh} {p : Int32}
    (k1 : (fGoal (I 32 4) p) = 0 → Q (some (.int 0)) I)
    (k2 : ¬ (fGoal (I 32 4) p) = 0 → Q (some (.int 1)) I)
    : HGo E (mF E (d + 3) Q) me_X2_isFree 0 [(0, .ref 32), (1, .int p)] [] I := by
  refine h_aload_n dX2_isFree_0 rfl 0 rfl ?_
  refine h_iload_n dX2_isFree_1 rfl 1 rfl ?_
  refine h_invV (As := [.int p]) (st := []) dX2_isFree_2 lk_X2_64 (h_room (by decide)) nl_32 zk_32 (by decide) rfl rfl rfl (Nat.le_of_ble_eq_true rfl) ?_
  refine c_X2_goalOf ?_
  refine h_if_eq (tgt := 12) dX2_isFree_5 (by decide) (fun c1 => ?_) (fun c1 => ?_)
  ·
    refine h_iconst (v := 0) dX2_isFree_12 (by decide) ?_
    exact h_zret dX2_isFree_13 rfl rfl (k1 c1)
  ·
    refine h_iconst (v := 1) dX2_isFree_8 (by decide) ?_
    refine h_goto (tgt := 13) dX2_isFree_9 (by decide) ?_
    exact h_zret dX2_isFree_13 rfl rfl (k2 c1)
set_option maxHeartbeats 1000000 in
set_option maxRecDepth 20000 in
theorem sg_X2_comesAgain_0 {E : HEn} {d : Nat} {Q : Option Value → HIh → Prop} {I : HIh} {w : Int32} {t : Int32}
    (k1 : HGo E (mF E (d + 3) Q) me_X2_comesAgain 4 [(0, .ref 32), (1, .int w), (3, .int (t + 1))] [] I)
    : HGo E (mF E (d + 3) Q) me_X2_comesAgain 0 [(0, .ref 32), (1, .int w), (2, .int t)] [] I := by
  refine h_iload_n dX2_comesAgain_0 rfl 2 rfl ?_
  refine h_iconst (v := 1) dX2_comesAgain_1 (by decide) ?_
  refine h_iadd dX2_comesAgain_2 ?_
  refine h_istore_n (L' := [(3, .int (t + 1)), (0, .ref 32), (1, .int w), (2, .int t)]) dX2_comesAgain_3 rfl (by decide) rfl ?_
  refine h_pick [1, 2, 0] [(0, .ref 32), (1, .int w), (3, .int (t + 1))] rfl ?_
  exact k1
set_option maxHeartbeats 1000000 in
set_option maxRecDepth 20000 in
theorem sg_X2_comesAgain_4 {E : HEn} {d : Nat} {Q : Option Value → HIh → Prop} {I : HIh} {x1 : Int32} {x3 : Int32}
    (k1 : (I 1 10) ≤ x3 → Q (some (.int 0)) I)
    (k2 : ¬ (I 1 10) ≤ x3 → ¬ (fGoal (I 32 4) (fVis (I 1 10) (I 9) x3)) = (fGoal (I 32 4) x1) → HGo E (mF E (d + 3) Q) me_X2_comesAgain 4 [(0, .ref 32), (1, .int x1), (3, .int (x3 + 1))] [] I)
    (k3 : ¬ (I 1 10) ≤ x3 → (fGoal (I 32 4) (fVis (I 1 10) (I 9) x3)) = (fGoal (I 32 4) x1) → Q (some (.int 1)) I)
    : HGo E (mF E (d + 3) Q) me_X2_comesAgain 4 [(0, .ref 32), (1, .int x1), (3, .int x3)] [] I := by
  refine h_iload_n dX2_comesAgain_4 rfl 2 rfl ?_
  refine h_aload_n dX2_comesAgain_5 rfl 0 rfl ?_
  refine gf_1_0 dX2_comesAgain_6 hl_X2_29 nl_32 zk_32 zp_32_0 ?_
  refine gf_7_10 dX2_comesAgain_9 hl_X2_40 nl_1 zk_1 ?_
  refine h_icmp_ge (tgt := 43) dX2_comesAgain_12 (by decide) (fun c1 => ?_) (fun c1 => ?_)
  ·
    refine h_iconst (v := 0) dX2_comesAgain_43 (by decide) ?_
    exact h_zret dX2_comesAgain_44 rfl rfl (k1 c1)
  ·
    refine h_aload_n dX2_comesAgain_15 rfl 0 rfl ?_
    refine h_aload_n dX2_comesAgain_16 rfl 0 rfl ?_
    refine gf_1_0 dX2_comesAgain_17 hl_X2_29 nl_32 zk_32 zp_32_0 ?_
    refine h_iload_n dX2_comesAgain_20 rfl 2 rfl ?_
    refine h_invV (As := [.int x3]) (st := [.ref 32]) dX2_comesAgain_21 lk_X2_45 (h_room (by decide)) nl_1 zk_1 (by decide) rfl rfl rfl (Nat.le_of_ble_eq_true rfl) ?_
    refine c_X9_visitor ?_
    refine h_invV (As := [.int (fVis (I 1 10) (I 9) x3)]) (st := []) dX2_comesAgain_24 lk_X2_64 (h_room (by decide)) nl_32 zk_32 (by decide) rfl rfl rfl (Nat.le_of_ble_eq_true rfl) ?_
    refine c_X2_goalOf ?_
    refine h_aload_n dX2_comesAgain_27 rfl 0 rfl ?_
    refine h_iload_n dX2_comesAgain_28 rfl 1 rfl ?_
    refine h_invV (As := [.int x1]) (st := [.int (fGoal (I 32 4) (fVis (I 1 10) (I 9) x3))]) dX2_comesAgain_29 lk_X2_64 (h_room (by decide)) nl_32 zk_32 (by decide) rfl rfl rfl (Nat.le_of_ble_eq_true rfl) ?_
    refine c_X2_goalOf ?_
    refine h_icmp_ne (tgt := 37) dX2_comesAgain_32 (by decide) (fun c2 => ?_) (fun c2 => ?_)
    ·
      refine h_iinc (v := (x3 + 1)) (L' := [(3, .int (x3 + 1)), (0, .ref 32), (1, .int x1)]) dX2_comesAgain_37 2 rfl rfl (by decide) rfl ?_
      refine h_goto (tgt := 4) dX2_comesAgain_40 (by decide) ?_
      refine h_pick [1, 2, 0] [(0, .ref 32), (1, .int x1), (3, .int (x3 + 1))] rfl ?_
      exact k2 c1 c2
    ·
      refine h_iconst (v := 1) dX2_comesAgain_35 (by decide) ?_
      exact h_zret dX2_comesAgain_36 rfl rfl (k3 c1 c2)
set_option maxHeartbeats 1000000 in
set_option maxRecDepth 20000 in
theorem sg_X2_reached_0 {E : HEn} {d : Nat} {Q : Option Value → HIh → Prop} {I : HIh} {v : Int32} {w : Int32}
    (k1 : HGo E (mF E (d + 3) Q) me_X2_reached 5 [(0, .ref 32), (1, .int v), (2, .int w), (3, .int 0), (4, .int 0)] [] I)
    : HGo E (mF E (d + 3) Q) me_X2_reached 0 [(0, .ref 32), (1, .int v), (2, .int w)] [] I := by
  refine h_iconst (v := 0) dX2_reached_0 (by decide) ?_
  refine h_istore_n (L' := [(3, .int 0), (0, .ref 32), (1, .int v), (2, .int w)]) dX2_reached_1 rfl (by decide) rfl ?_
  refine h_iconst (v := 0) dX2_reached_2 (by decide) ?_
  refine h_istore (L' := [(4, .int 0), (3, .int 0), (0, .ref 32), (1, .int v), (2, .int w)]) dX2_reached_3 (by decide) rfl ?_
  refine h_pick [2, 3, 4, 1, 0] [(0, .ref 32), (1, .int v), (2, .int w), (3, .int 0), (4, .int 0)] rfl ?_
  exact k1
set_option maxHeartbeats 1000000 in
set_option maxRecDepth 20000 in
theorem sg_X2_reached_5 {E : HEn} {d : Nat} {Q : Option Value → HIh → Prop} {I : HIh} {e : Nat} {x1 : Int32} {x2 : Int32} {x3 : Int32} {x4 : Int32} (a_e : e < NL) (b_e : Zk e = 11) (n_e : Zn e = 4) (hs_e : Zp 56 x1.toNatClampNeg = e)
    (k1 : 4 ≤ x4 → Q (some (.int x3)) I)
    (k2 : ¬ 4 ≤ x4 → vp_in x1 11)
    (k3 : ¬ 4 ≤ x4 → vp_in x4 4)
    (k4 : ¬ 4 ≤ x4 → HGo E (mF E (d + 3) Q) me_X2_reached 5 [(0, .ref 32), (1, .int x1), (2, .int x2), (3, .int (x3 + ((((fGoal (I 32 4) x2) >>> (x4 &&& 31)) &&& 1) * (I e x4.toNatClampNeg)))), (4, .int (x4 + 1))] [] I)
    : HGo E (mF E (d + 3) Q) me_X2_reached 5 [(0, .ref 32), (1, .int x1), (2, .int x2), (3, .int x3), (4, .int x4)] [] I := by
  refine h_iload dX2_reached_5 4 rfl ?_
  refine h_iconst (v := 4) dX2_reached_7 (by decide) ?_
  refine h_icmp_ge (tgt := 40) dX2_reached_8 (by decide) (fun c1 => ?_) (fun c1 => ?_)
  ·
    refine h_iload_n dX2_reached_40 rfl 3 rfl ?_
    exact h_iret dX2_reached_41 rfl (k1 c1)
  ·
    refine h_iload_n dX2_reached_11 rfl 3 rfl ?_
    refine h_aload_n dX2_reached_12 rfl 0 rfl ?_
    refine h_iload_n dX2_reached_13 rfl 2 rfl ?_
    refine h_invV (As := [.int x2]) (st := [.int x3]) dX2_reached_14 lk_X2_64 (h_room (by decide)) nl_32 zk_32 (by decide) rfl rfl rfl (Nat.le_of_ble_eq_true rfl) ?_
    refine c_X2_goalOf ?_
    refine h_iload dX2_reached_17 4 rfl ?_
    refine h_ishr dX2_reached_19 ?_
    refine h_iconst (v := 1) dX2_reached_20 (by decide) ?_
    refine h_iand dX2_reached_21 ?_
    refine h_aload_n dX2_reached_22 rfl 0 rfl ?_
    refine gf_1_2 dX2_reached_23 hl_X2_19 nl_32 zk_32 zp_32_2 ?_
    refine h_iload_n dX2_reached_26 rfl 1 rfl ?_
    refine h_aald14z dX2_reached_27 nl_56 zk_56 (by rw [zn_56]; exact k2 c1) hs_e ?_
    refine h_iload dX2_reached_28 4 rfl ?_
    refine h_iald dX2_reached_30 a_e b_e (by rw [n_e]; exact k3 c1) ?_
    refine h_imul dX2_reached_31 ?_
    refine h_iadd dX2_reached_32 ?_
    refine h_istore_n (L' := [(3, .int (x3 + ((((fGoal (I 32 4) x2) >>> (x4 &&& 31)) &&& 1) * (I e x4.toNatClampNeg)))), (0, .ref 32), (1, .int x1), (2, .int x2), (4, .int x4)]) dX2_reached_33 rfl (by decide) rfl ?_
    refine h_iinc (v := (x4 + 1)) (L' := [(4, .int (x4 + 1)), (3, .int (x3 + ((((fGoal (I 32 4) x2) >>> (x4 &&& 31)) &&& 1) * (I e x4.toNatClampNeg)))), (0, .ref 32), (1, .int x1), (2, .int x2)]) dX2_reached_34 4 rfl rfl (by decide) rfl ?_
    refine h_goto (tgt := 5) dX2_reached_37 (by decide) ?_
    refine h_pick [2, 3, 4, 1, 0] [(0, .ref 32), (1, .int x1), (2, .int x2), (3, .int (x3 + ((((fGoal (I 32 4) x2) >>> (x4 &&& 31)) &&& 1) * (I e x4.toNatClampNeg)))), (4, .int (x4 + 1))] rfl ?_
    exact k4 c1
set_option maxHeartbeats 1000000 in
set_option maxRecDepth 20000 in
theorem sg_X2_putIn_0 {E : HEn} {d : Nat} {Q : Option Value → HIh → Prop} {I : HIh} {x : Int32} {y : Int32} {z : Int32} {w : Int32}
    (k1 : Q none (setI (setI (setI I 35 (fAdd (I 35) 4 x w)) 35 (fAdd (fAdd (I 35) 4 x w) 4 y w)) 35 (fAdd (fAdd (fAdd (I 35) 4 x w) 4 y w) 4 z w)))
    : HGo E (mF E (d + 2) Q) me_X2_putIn 0 [(0, .ref 32), (1, .int x), (2, .int y), (3, .int z), (4, .int w)] [] I := by
  refine h_aload_n dX2_putIn_0 rfl 0 rfl ?_
  refine gf_1_1 dX2_putIn_1 hl_X2_13 nl_32 zk_32 zp_32_1 ?_
  refine h_iconst (v := 0) dX2_putIn_4 (by decide) ?_
  refine h_aald13z dX2_putIn_5 nl_33 zk_33 (vp_lit (by rw [zn_33]; decide)) zp_33_0 ?_
  refine h_iconst (v := 4) dX2_putIn_6 (by decide) ?_
  refine h_iload_n dX2_putIn_7 rfl 1 rfl ?_
  refine h_iload dX2_putIn_8 4 rfl ?_
  refine h_invV (As := [.int 4, .int x, .int w]) (st := []) dX2_putIn_10 lk_X2_155 (h_room (by decide)) nl_34 zk_34 (by decide) rfl rfl rfl (Nat.le_of_ble_eq_true rfl) ?_
  refine c_X4_add nl_34 zk_34 zp_34_0 nl_35 zk_35 zn_35 ?_
  refine h_aload_n dX2_putIn_13 rfl 0 rfl ?_
  refine gf_1_1 dX2_putIn_14 hl_X2_13 nl_32 zk_32 zp_32_1 ?_
  refine h_iconst (v := 0) dX2_putIn_17 (by decide) ?_
  refine h_aald13z dX2_putIn_18 nl_33 zk_33 (vp_lit (by rw [zn_33]; decide)) zp_33_0 ?_
  refine h_iconst (v := 4) dX2_putIn_19 (by decide) ?_
  refine h_iload_n dX2_putIn_20 rfl 2 rfl ?_
  refine h_iload dX2_putIn_21 4 rfl ?_
  refine h_invV (As := [.int 4, .int y, .int w]) (st := []) dX2_putIn_23 lk_X2_155 (h_room (by decide)) nl_34 zk_34 (by decide) rfl rfl rfl (Nat.le_of_ble_eq_true rfl) ?_
  refine c_X4_add nl_34 zk_34 zp_34_0 nl_35 zk_35 zn_35 ?_
  refine h_aload_n dX2_putIn_26 rfl 0 rfl ?_
  refine gf_1_1 dX2_putIn_27 hl_X2_13 nl_32 zk_32 zp_32_1 ?_
  refine h_iconst (v := 0) dX2_putIn_30 (by decide) ?_
  refine h_aald13z dX2_putIn_31 nl_33 zk_33 (vp_lit (by rw [zn_33]; decide)) zp_33_0 ?_
  refine h_iconst (v := 4) dX2_putIn_32 (by decide) ?_
  refine h_iload_n dX2_putIn_33 rfl 3 rfl ?_
  refine h_iload dX2_putIn_34 4 rfl ?_
  refine h_invV (As := [.int 4, .int z, .int w]) (st := []) dX2_putIn_36 lk_X2_155 (h_room (by decide)) nl_34 zk_34 (by decide) rfl rfl rfl (Nat.le_of_ble_eq_true rfl) ?_
  refine c_X4_add nl_34 zk_34 zp_34_0 nl_35 zk_35 zn_35 ?_
  exact h_vret dX2_putIn_39 rfl (k1)
set_option maxHeartbeats 1000000 in
set_option maxRecDepth 20000 in
theorem sg_X11_write_0 {E : HEn} {d : Nat} {Q : Option Value → HIh → Prop} {I : HIh} {a : Int64} {b : Int32}
    (k1 : b < 1 → Q (some (.int (-3))) I)
    (k2 : ¬ b < 1 → b ≤ 8 → ((I 19 2) + b) ≤ 200 → HGo E (mF E (d + 2) Q) me_X11_write 35 [(0, .ref 0), (1, .long a), (3, .int b), (4, .int 0)] [] I)
    (k3 : ¬ b < 1 → b ≤ 8 → ¬ ((I 19 2) + b) ≤ 200 → Q (some (.int (-5))) I)
    (k4 : ¬ b < 1 → ¬ b ≤ 8 → Q (some (.int (-3))) I)
    : HGo E (mF E (d + 2) Q) me_X11_write 0 [(0, .ref 0), (1, .long a), (3, .int b)] [] I := by
  refine h_iload_n dX11_write_0 rfl 2 rfl ?_
  refine h_iconst (v := 1) dX11_write_1 (by decide) ?_
  refine h_icmp_lt (tgt := 11) dX11_write_2 (by decide) (fun c1 => ?_) (fun c1 => ?_)
  ·
    refine h_bipush (v := (-3)) dX11_write_11 (by decide) ?_
    exact h_iret dX11_write_13 rfl (k1 c1)
  ·
    refine h_iload_n dX11_write_5 rfl 2 rfl ?_
    refine h_bipush (v := 8) dX11_write_6 (by decide) ?_
    refine h_icmp_le (tgt := 14) dX11_write_8 (by decide) (fun c2 => ?_) (fun c2 => ?_)
    ·
      refine h_aload_n dX11_write_14 rfl 0 rfl ?_
      refine gf_9_3 dX11_write_15 hl_X11_30 nl_0 zk_0 zp_0_3 ?_
      refine gf_6_2 dX11_write_18 hl_X11_50 nl_19 zk_19 ?_
      refine h_iload_n dX11_write_21 rfl 2 rfl ?_
      refine h_iadd dX11_write_22 ?_
      refine h_sipush (v := 200) dX11_write_23 (by decide) ?_
      refine h_icmp_le (tgt := 32) dX11_write_26 (by decide) (fun c3 => ?_) (fun c3 => ?_)
      ·
        refine h_iconst (v := 0) dX11_write_32 (by decide) ?_
        refine h_istore (L' := [(4, .int 0), (0, .ref 0), (1, .long a), (3, .int b)]) dX11_write_33 (by decide) rfl ?_
        refine h_pick [1, 2, 3, 0] [(0, .ref 0), (1, .long a), (3, .int b), (4, .int 0)] rfl ?_
        exact k2 c1 c2 c3
      ·
        refine h_bipush (v := (-5)) dX11_write_29 (by decide) ?_
        exact h_iret dX11_write_31 rfl (k3 c1 c2 c3)
    ·
      refine h_bipush (v := (-3)) dX11_write_11 (by decide) ?_
      exact h_iret dX11_write_13 rfl (k4 c1 c2)
set_option maxHeartbeats 1000000 in
set_option maxRecDepth 20000 in
theorem sg_X11_write_35 {E : HEn} {d : Nat} {Q : Option Value → HIh → Prop} {I : HIh} {x1 : Int64} {x3 : Int32} {x4 : Int32}
    (k1 : x3 ≤ x4 → Q (some (.int (I 19 2))) I)
    (k2 : ¬ x3 ≤ x4 → HCall E me_X7_append (d + 1) [.ref 19, .int (((x1 >>> ((8 * x4).toInt64 &&& 63)) &&& 255).toInt32)] I (fun v9 J => HGo E (mF E (d + 2) Q) me_X11_write 60 [(0, .ref 0), (1, .long x1), (3, .int x3), (4, .int x4)] (v9.toList ++ []) J))
    : HGo E (mF E (d + 2) Q) me_X11_write 35 [(0, .ref 0), (1, .long x1), (3, .int x3), (4, .int x4)] [] I := by
  refine h_iload dX11_write_35 3 rfl ?_
  refine h_iload_n dX11_write_37 rfl 2 rfl ?_
  refine h_icmp_ge (tgt := 66) dX11_write_38 (by decide) (fun c1 => ?_) (fun c1 => ?_)
  ·
    refine h_aload_n dX11_write_66 rfl 0 rfl ?_
    refine gf_9_3 dX11_write_67 hl_X11_30 nl_0 zk_0 zp_0_3 ?_
    refine gf_6_2 dX11_write_70 hl_X11_50 nl_19 zk_19 ?_
    exact h_iret dX11_write_73 rfl (k1 c1)
  ·
    refine h_aload_n dX11_write_41 rfl 0 rfl ?_
    refine gf_9_3 dX11_write_42 hl_X11_30 nl_0 zk_0 zp_0_3 ?_
    refine h_lload_n dX11_write_45 rfl 1 rfl ?_
    refine h_bipush (v := 8) dX11_write_46 (by decide) ?_
    refine h_iload dX11_write_48 3 rfl ?_
    refine h_imul dX11_write_50 ?_
    refine h_lshr dX11_write_51 ?_
    refine h_ldc2 dX11_write_52 wt_274 rfl ?_
    refine h_land dX11_write_55 ?_
    refine h_l2i dX11_write_56 ?_
    refine h_invV (As := [.int (((x1 >>> ((8 * x4).toInt64 &&& 63)) &&& 255).toInt32)]) (st := []) dX11_write_57 lk_X11_56 (h_room (by decide)) nl_19 zk_19 (by decide) rfl rfl rfl (Nat.le_of_ble_eq_true rfl) ?_
    exact k2 c1
set_option maxHeartbeats 1000000 in
set_option maxRecDepth 20000 in
theorem sg_X11_write_60 {E : HEn} {d : Nat} {Q : Option Value → HIh → Prop} {I : HIh} {x1 : Int64} {x3 : Int32} {x4 : Int32}
    (k1 : HGo E (mF E (d + 2) Q) me_X11_write 35 [(0, .ref 0), (1, .long x1), (3, .int x3), (4, .int (x4 + 1))] [] I)
    : HGo E (mF E (d + 2) Q) me_X11_write 60 [(0, .ref 0), (1, .long x1), (3, .int x3), (4, .int x4)] [] I := by
  refine h_iinc (v := (x4 + 1)) (L' := [(4, .int (x4 + 1)), (0, .ref 0), (1, .long x1), (3, .int x3)]) dX11_write_60 3 rfl rfl (by decide) rfl ?_
  refine h_goto (tgt := 35) dX11_write_63 (by decide) ?_
  refine h_pick [1, 2, 3, 0] [(0, .ref 0), (1, .long x1), (3, .int x3), (4, .int (x4 + 1))] rfl ?_
  exact k1
set_option maxHeartbeats 1000000 in
set_option maxRecDepth 20000 in
theorem sg_X11_coin_0 {E : HEn} {d : Nat} {Q : Option Value → HIh → Prop} {I : HIh} {a : Int32} {b : Int32}
    (k1 : (0 : Int32) ≤ a → a < (I 1 9) → b < 0 → Q (some (.int (-3))) I)
    (k2 : (0 : Int32) ≤ a → a < (I 1 9) → ¬ b < 0 → b ≤ 1 → ¬ b = 0 → Q (some (.int (fOf (I 13) 4 a))) I)
    (k3 : (0 : Int32) ≤ a → a < (I 1 9) → ¬ b < 0 → b ≤ 1 → b = 0 → Q (some (.int (fWor (I 6) a))) I)
    (k4 : (0 : Int32) ≤ a → a < (I 1 9) → ¬ b < 0 → ¬ b ≤ 1 → Q (some (.int (-3))) I)
    (k5 : ¬ ((0 : Int32) ≤ a ∧ a < (I 1 9)) → Q (some (.int (-2))) I)
    : HGo E (mF E (d + 2) Q) me_X11_coin 0 [(0, .ref 0), (1, .int a), (2, .int b)] [] I := by
  refine h_aload_n dX11_coin_0 rfl 0 rfl ?_
  refine gf_9_0 dX11_coin_1 hl_X11_10 nl_0 zk_0 zp_0_0 ?_
  refine h_iload_n dX11_coin_4 rfl 1 rfl ?_
  refine h_invV (As := [.int a]) (st := []) dX11_coin_5 lk_X11_88 (h_room (by decide)) nl_1 zk_1 (by decide) rfl rfl rfl (Nat.le_of_ble_eq_true rfl) ?_
  refine c_X9_hasKind (fun c1 c2 => ?_) (fun c3 => ?_)
  ·
    refine h_if_ne (tgt := 14) dX11_coin_8 (by decide) (fun _ => ?_) (fun c => absurd c (by decide))
    refine h_iload_n dX11_coin_14 rfl 2 rfl ?_
    refine h_if_lt (tgt := 23) dX11_coin_15 (by decide) (fun c4 => ?_) (fun c4 => ?_)
    ·
      refine h_bipush (v := (-3)) dX11_coin_23 (by decide) ?_
      exact h_iret dX11_coin_25 rfl (k1 c1 c2 c4)
    ·
      refine h_iload_n dX11_coin_18 rfl 2 rfl ?_
      refine h_iconst (v := 1) dX11_coin_19 (by decide) ?_
      refine h_icmp_le (tgt := 26) dX11_coin_20 (by decide) (fun c5 => ?_) (fun c5 => ?_)
      ·
        refine h_iload_n dX11_coin_26 rfl 2 rfl ?_
        refine h_if_ne (tgt := 41) dX11_coin_27 (by decide) (fun c6 => ?_) (fun c6 => ?_)
        ·
          refine h_aload_n dX11_coin_41 rfl 0 rfl ?_
          refine gf_9_1 dX11_coin_42 hl_X11_19 nl_0 zk_0 zp_0_1 ?_
          refine h_iconst (v := 4) dX11_coin_45 (by decide) ?_
          refine h_iload_n dX11_coin_46 rfl 1 rfl ?_
          refine h_invV (As := [.int 4, .int a]) (st := []) dX11_coin_47 lk_X11_96 (h_room (by decide)) nl_12 zk_12 (by decide) rfl rfl rfl (Nat.le_of_ble_eq_true rfl) ?_
          refine c_X4_of nl_12 zk_12 zp_12_0 nl_13 zk_13 zn_13 ?_
          exact h_iret dX11_coin_50 rfl (k2 c1 c2 c4 c5 c6)
        ·
          refine h_aload_n dX11_coin_30 rfl 0 rfl ?_
          refine gf_9_0 dX11_coin_31 hl_X11_10 nl_0 zk_0 zp_0_0 ?_
          refine h_iload_n dX11_coin_34 rfl 1 rfl ?_
          refine h_invV (As := [.int a]) (st := []) dX11_coin_35 lk_X11_92 (h_room (by decide)) nl_1 zk_1 (by decide) rfl rfl rfl (Nat.le_of_ble_eq_true rfl) ?_
          refine c_X9_worthOf ?_
          refine h_goto (tgt := 50) dX11_coin_38 (by decide) ?_
          exact h_iret dX11_coin_50 rfl (k3 c1 c2 c4 c5 c6)
      ·
        refine h_bipush (v := (-3)) dX11_coin_23 (by decide) ?_
        exact h_iret dX11_coin_25 rfl (k4 c1 c2 c4 c5)
  ·
    refine h_if_ne (tgt := 14) dX11_coin_8 (by decide) (fun c => absurd c (by decide)) (fun _ => ?_)
    refine h_bipush (v := (-2)) dX11_coin_11 (by decide) ?_
    exact h_iret dX11_coin_13 rfl (k5 c3)
set_option maxHeartbeats 1000000 in
set_option maxRecDepth 20000 in
theorem sg_X11_purse_0 {E : HEn} {d : Nat} {Q : Option Value → HIh → Prop} {I : HIh} {a : Int32} {b : Int32}
    (k1 : (0 : Int32) ≤ a → a < 4 → (0 : Int32) ≤ b → b < (I 1 9) → Q (some (.int (fOf (I 13) a b))) I)
    (k2 : (0 : Int32) ≤ a → a < 4 → ¬ ((0 : Int32) ≤ b ∧ b < (I 1 9)) → Q (some (.int (-2))) I)
    (k3 : ¬ ((0 : Int32) ≤ a ∧ a < 4) → Q (some (.int (-2))) I)
    : HGo E (mF E (d + 2) Q) me_X11_purse 0 [(0, .ref 0), (1, .int a), (2, .int b)] [] I := by
  refine h_iload_n dX11_purse_0 rfl 1 rfl ?_
  refine h_invS (As := [.int a]) (st := []) dX11_purse_1 lk_X11_100 (h_room (by decide)) rfl rfl (Nat.le_of_ble_eq_true rfl) ?_
  refine c_X11_isPerson (fun c1 c2 => ?_) (fun c3 => ?_)
  ·
    refine h_if_eq (tgt := 18) dX11_purse_4 (by decide) (fun c => absurd c (by decide)) (fun _ => ?_)
    refine h_aload_n dX11_purse_7 rfl 0 rfl ?_
    refine gf_9_0 dX11_purse_8 hl_X11_10 nl_0 zk_0 zp_0_0 ?_
    refine h_iload_n dX11_purse_11 rfl 2 rfl ?_
    refine h_invV (As := [.int b]) (st := []) dX11_purse_12 lk_X11_88 (h_room (by decide)) nl_1 zk_1 (by decide) rfl rfl rfl (Nat.le_of_ble_eq_true rfl) ?_
    refine c_X9_hasKind (fun c4 c5 => ?_) (fun c6 => ?_)
    ·
      refine h_if_ne (tgt := 21) dX11_purse_15 (by decide) (fun _ => ?_) (fun c => absurd c (by decide))
      refine h_aload_n dX11_purse_21 rfl 0 rfl ?_
      refine gf_9_1 dX11_purse_22 hl_X11_19 nl_0 zk_0 zp_0_1 ?_
      refine h_iload_n dX11_purse_25 rfl 1 rfl ?_
      refine h_iload_n dX11_purse_26 rfl 2 rfl ?_
      refine h_invV (As := [.int a, .int b]) (st := []) dX11_purse_27 lk_X11_96 (h_room (by decide)) nl_12 zk_12 (by decide) rfl rfl rfl (Nat.le_of_ble_eq_true rfl) ?_
      refine c_X4_of nl_12 zk_12 zp_12_0 nl_13 zk_13 zn_13 ?_
      exact h_iret dX11_purse_30 rfl (k1 c1 c2 c4 c5)
    ·
      refine h_if_ne (tgt := 21) dX11_purse_15 (by decide) (fun c => absurd c (by decide)) (fun _ => ?_)
      refine h_bipush (v := (-2)) dX11_purse_18 (by decide) ?_
      exact h_iret dX11_purse_20 rfl (k2 c1 c2 c6)
  ·
    refine h_if_eq (tgt := 18) dX11_purse_4 (by decide) (fun _ => ?_) (fun c => absurd c (by decide))
    refine h_bipush (v := (-2)) dX11_purse_18 (by decide) ?_
    exact h_iret dX11_purse_20 rfl (k3 c3)
set_option maxHeartbeats 1000000 in
set_option maxRecDepth 20000 in
theorem sg_X11_come_0 {E : HEn} {d : Nat} {Q : Option Value → HIh → Prop} {I : HIh} {a : Int32}
    (k1 : 0 ≤ a → Q (some (.int (fVis (I 1 10) (I 9) a))) I)
    (k2 : ¬ 0 ≤ a → Q (some (.int (-3))) I)
    : HGo E (mF E (d + 2) Q) me_X11_come 0 [(0, .ref 0), (1, .int a)] [] I := by
  refine h_iload_n dX11_come_0 rfl 1 rfl ?_
  refine h_if_ge (tgt := 9) dX11_come_1 (by decide) (fun c1 => ?_) (fun c1 => ?_)
  ·
    refine h_aload_n dX11_come_9 rfl 0 rfl ?_
    refine gf_9_0 dX11_come_10 hl_X11_10 nl_0 zk_0 zp_0_0 ?_
    refine h_iload_n dX11_come_13 rfl 1 rfl ?_
    refine h_invV (As := [.int a]) (st := []) dX11_come_14 lk_X11_132 (h_room (by decide)) nl_1 zk_1 (by decide) rfl rfl rfl (Nat.le_of_ble_eq_true rfl) ?_
    refine c_X9_visitor ?_
    exact h_iret dX11_come_17 rfl (k1 c1)
  ·
    refine h_bipush (v := (-3)) dX11_come_4 (by decide) ?_
    refine h_goto (tgt := 17) dX11_come_6 (by decide) ?_
    exact h_iret dX11_come_17 rfl (k2 c1)
set_option maxHeartbeats 1000000 in
set_option maxRecDepth 20000 in
theorem sg_X11_note_0 {E : HEn} {d : Nat} {Q : Option Value → HIh → Prop} {I : HIh} {a : Int32} {b : Int32}
    (k1 : (0 : Int32) ≤ a → a < (I 1 9) → b < 0 → Q (some (.int (-3))) I)
    (k2 : (0 : Int32) ≤ a → a < (I 1 9) → ¬ b < 0 → b ≤ 9999 → HCall E me_X6_add (d + 1) [.ref 80, .int a, .int b] I (fun v9 J => HGo E (mF E (d + 2) Q) me_X11_note 37 [(0, .ref 0)] (v9.toList ++ []) J))
    (k3 : (0 : Int32) ≤ a → a < (I 1 9) → ¬ b < 0 → ¬ b ≤ 9999 → Q (some (.int (-3))) I)
    (k4 : ¬ ((0 : Int32) ≤ a ∧ a < (I 1 9)) → Q (some (.int (-2))) I)
    : HGo E (mF E (d + 2) Q) me_X11_note 0 [(0, .ref 0), (1, .int a), (2, .int b)] [] I := by
  refine h_aload_n dX11_note_0 rfl 0 rfl ?_
  refine gf_9_0 dX11_note_1 hl_X11_10 nl_0 zk_0 zp_0_0 ?_
  refine h_iload_n dX11_note_4 rfl 1 rfl ?_
  refine h_invV (As := [.int a]) (st := []) dX11_note_5 lk_X11_88 (h_room (by decide)) nl_1 zk_1 (by decide) rfl rfl rfl (Nat.le_of_ble_eq_true rfl) ?_
  refine c_X9_hasKind (fun c1 c2 => ?_) (fun c3 => ?_)
  ·
    refine h_if_ne (tgt := 14) dX11_note_8 (by decide) (fun _ => ?_) (fun c => absurd c (by decide))
    refine h_iload_n dX11_note_14 rfl 2 rfl ?_
    refine h_if_lt (tgt := 25) dX11_note_15 (by decide) (fun c4 => ?_) (fun c4 => ?_)
    ·
      refine h_bipush (v := (-3)) dX11_note_25 (by decide) ?_
      exact h_iret dX11_note_27 rfl (k1 c1 c2 c4)
    ·
      refine h_iload_n dX11_note_18 rfl 2 rfl ?_
      refine h_sipush (v := 9999) dX11_note_19 (by decide) ?_
      refine h_icmp_le (tgt := 28) dX11_note_22 (by decide) (fun c5 => ?_) (fun c5 => ?_)
      ·
        refine h_aload_n dX11_note_28 rfl 0 rfl ?_
        refine gf_9_5 dX11_note_29 hl_X11_46 nl_0 zk_0 zp_0_5 ?_
        refine h_iload_n dX11_note_32 rfl 1 rfl ?_
        refine h_iload_n dX11_note_33 rfl 2 rfl ?_
        refine h_pick [0] [(0, .ref 0)] rfl ?_
        refine h_invV (As := [.int a, .int b]) (st := []) dX11_note_34 lk_X11_186 (h_room (by decide)) nl_80 zk_80 (by decide) rfl rfl rfl (Nat.le_of_ble_eq_true rfl) ?_
        exact k2 c1 c2 c4 c5
      ·
        refine h_bipush (v := (-3)) dX11_note_25 (by decide) ?_
        exact h_iret dX11_note_27 rfl (k3 c1 c2 c4 c5)
  ·
    refine h_if_ne (tgt := 14) dX11_note_8 (by decide) (fun c => absurd c (by decide)) (fun _ => ?_)
    refine h_bipush (v := (-2)) dX11_note_11 (by decide) ?_
    exact h_iret dX11_note_13 rfl (k4 c3)
set_option maxHeartbeats 1000000 in
set_option maxRecDepth 20000 in
theorem sg_X11_note_37 {E : HEn} {d : Nat} {Q : Option Value → HIh → Prop} {I : HIh} {s0 : Int32}
    (k1 : s0 = 0 → Q (some (.int (-5))) I)
    (k2 : ¬ s0 = 0 → Q (some (.int (I 80 6))) I)
    : HGo E (mF E (d + 2) Q) me_X11_note 37 [(0, .ref 0)] [.int s0] I := by
  refine h_if_eq (tgt := 50) dX11_note_37 (by decide) (fun c1 => ?_) (fun c1 => ?_)
  ·
    refine h_bipush (v := (-5)) dX11_note_50 (by decide) ?_
    exact h_iret dX11_note_52 rfl (k1 c1)
  ·
    refine h_aload_n dX11_note_40 rfl 0 rfl ?_
    refine gf_9_5 dX11_note_41 hl_X11_46 nl_0 zk_0 zp_0_5 ?_
    refine gf_5_6 dX11_note_44 hl_X11_76 nl_80 zk_80 ?_
    refine h_goto (tgt := 52) dX11_note_47 (by decide) ?_
    exact h_iret dX11_note_52 rfl (k2 c1)
set_option maxHeartbeats 1000000 in
set_option maxRecDepth 20000 in
theorem sg_X11_keep_0 {E : HEn} {d : Nat} {Q : Option Value → HIh → Prop} {I : HIh} {h c : Nat} {a : Int32} (a_h : h < NL) (b_h : Zk h = 3) (p_h : Zp h 0 = c) (a_c : c < NL) (b_c : Zk c = 11) (n_c : Zn c = 30) (hs_h : Zp 14 a.toNatClampNeg = h)
    (k1 : a < 0 → Q (some (.int (-2))) I)
    (k2 : ¬ a < 0 → a < 2 → vp_in a 2)
    (k3 : ¬ a < 0 → a < 2 → Q (some (.int ((setI (setI I c (va_cpy (I 13) (I c) 0 0 30)) h (upd ((setI I c (va_cpy (I 13) (I c) 0 0 30)) h) 1 ((setI I c (va_cpy (I 13) (I c) 0 0 30)) 12 1))) 12 1))) (setI (setI (setI I c (va_cpy (I 13) (I c) 0 0 30)) h (upd ((setI I c (va_cpy (I 13) (I c) 0 0 30)) h) 1 ((setI I c (va_cpy (I 13) (I c) 0 0 30)) 12 1))) 0 (upd ((setI (setI I c (va_cpy (I 13) (I c) 0 0 30)) h (upd ((setI I c (va_cpy (I 13) (I c) 0 0 30)) h) 1 ((setI I c (va_cpy (I 13) (I c) 0 0 30)) 12 1))) 0) 6 (((setI (setI I c (va_cpy (I 13) (I c) 0 0 30)) h (upd ((setI I c (va_cpy (I 13) (I c) 0 0 30)) h) 1 ((setI I c (va_cpy (I 13) (I c) 0 0 30)) 12 1))) 0 6) ||| ((1 : Int32) <<< (a &&& 31))))))
    (k4 : ¬ a < 0 → ¬ a < 2 → Q (some (.int (-2))) I)
    : HGo E (mF E (d + 2) Q) me_X11_keep 0 [(0, .ref 0), (1, .int a)] [] I := by
  refine h_iload_n dX11_keep_0 rfl 1 rfl ?_
  refine h_if_lt (tgt := 9) dX11_keep_1 (by decide) (fun c1 => ?_) (fun c1 => ?_)
  ·
    refine h_bipush (v := (-2)) dX11_keep_9 (by decide) ?_
    exact h_iret dX11_keep_11 rfl (k1 c1)
  ·
    refine h_iload_n dX11_keep_4 rfl 1 rfl ?_
    refine h_iconst (v := 2) dX11_keep_5 (by decide) ?_
    refine h_icmp_lt (tgt := 12) dX11_keep_6 (by decide) (fun c2 => ?_) (fun c2 => ?_)
    ·
      refine h_aload_n dX11_keep_12 rfl 0 rfl ?_
      refine gf_9_2 dX11_keep_13 hl_X11_23 nl_0 zk_0 zp_0_2 ?_
      refine h_iload_n dX11_keep_16 rfl 1 rfl ?_
      refine h_aald13z dX11_keep_17 nl_14 zk_14 (by rw [zn_14]; exact k2 c1 c2) hs_h ?_
      refine h_aload_n dX11_keep_18 rfl 0 rfl ?_
      refine gf_9_1 dX11_keep_19 hl_X11_19 nl_0 zk_0 zp_0_1 ?_
      refine h_invV (As := [.ref 12]) (st := []) dX11_keep_22 lk_X11_73 (h_room (by decide)) a_h b_h (by decide) rfl rfl rfl (Nat.le_of_ble_eq_true rfl) ?_
      refine c_X4_copyFrom a_h b_h p_h a_c b_c n_c nl_12 zk_12 zp_12_0 nl_13 zk_13 zn_13 ?_
      refine h_aload_n dX11_keep_25 rfl 0 rfl ?_
      refine h_dup dX11_keep_26 rfl ?_
      refine gf_9_6 dX11_keep_27 hl_X11_79 nl_0 zk_0 ?_
      refine h_iconst (v := 1) dX11_keep_30 (by decide) ?_
      refine h_iload_n dX11_keep_31 rfl 1 rfl ?_
      refine h_ishl dX11_keep_32 ?_
      refine h_ior dX11_keep_33 ?_
      refine pf_9_6 dX11_keep_34 hl_X11_79 nl_0 zk_0 ?_
      refine h_aload_n dX11_keep_37 rfl 0 rfl ?_
      refine gf_9_1 dX11_keep_38 hl_X11_19 nl_0 zk_0 zp_0_1 ?_
      refine gf_3_1 dX11_keep_41 hl_X11_139 nl_12 zk_12 ?_
      exact h_iret dX11_keep_44 rfl (k3 c1 c2)
    ·
      refine h_bipush (v := (-2)) dX11_keep_9 (by decide) ?_
      exact h_iret dX11_keep_11 rfl (k4 c1 c2)
set_option maxHeartbeats 1000000 in
set_option maxRecDepth 20000 in
theorem sg_X11_back_0 {E : HEn} {d : Nat} {Q : Option Value → HIh → Prop} {I : HIh} {h c : Nat} {a : Int32} (a_h : h < NL) (b_h : Zk h = 3) (p_h : Zp h 0 = c) (a_c : c < NL) (b_c : Zk c = 11) (n_c : Zn c = 30) (hs_h : Zp 14 a.toNatClampNeg = h)
    (k1 : a < 0 → Q (some (.int (-2))) I)
    (k2 : ¬ a < 0 → a < 2 → ¬ (((I 0 6) >>> (a &&& 31)) &&& 1) = 0 → vp_in a 2)
    (k3 : ¬ a < 0 → a < 2 → ¬ (((I 0 6) >>> (a &&& 31)) &&& 1) = 0 → Q (some (.int ((setI I 13 (va_cpy (I c) (I 13) 0 0 30)) h 1))) (setI (setI (setI I 13 (va_cpy (I c) (I 13) 0 0 30)) 12 (upd (I 12) 1 ((setI I 13 (va_cpy (I c) (I 13) 0 0 30)) h 1))) 32 (upd (I 32) 4 (-1))))
    (k4 : ¬ a < 0 → a < 2 → (((I 0 6) >>> (a &&& 31)) &&& 1) = 0 → Q (some (.int (-4))) I)
    (k5 : ¬ a < 0 → ¬ a < 2 → Q (some (.int (-2))) I)
    : HGo E (mF E (d + 2) Q) me_X11_back 0 [(0, .ref 0), (1, .int a)] [] I := by
  refine h_iload_n dX11_back_0 rfl 1 rfl ?_
  refine h_if_lt (tgt := 9) dX11_back_1 (by decide) (fun c1 => ?_) (fun c1 => ?_)
  ·
    refine h_bipush (v := (-2)) dX11_back_9 (by decide) ?_
    exact h_iret dX11_back_11 rfl (k1 c1)
  ·
    refine h_iload_n dX11_back_4 rfl 1 rfl ?_
    refine h_iconst (v := 2) dX11_back_5 (by decide) ?_
    refine h_icmp_lt (tgt := 12) dX11_back_6 (by decide) (fun c2 => ?_) (fun c2 => ?_)
    ·
      refine h_aload_n dX11_back_12 rfl 0 rfl ?_
      refine gf_9_6 dX11_back_13 hl_X11_79 nl_0 zk_0 ?_
      refine h_iload_n dX11_back_16 rfl 1 rfl ?_
      refine h_ishr dX11_back_17 ?_
      refine h_iconst (v := 1) dX11_back_18 (by decide) ?_
      refine h_iand dX11_back_19 ?_
      refine h_if_ne (tgt := 26) dX11_back_20 (by decide) (fun c3 => ?_) (fun c3 => ?_)
      ·
        refine h_aload_n dX11_back_26 rfl 0 rfl ?_
        refine gf_9_1 dX11_back_27 hl_X11_19 nl_0 zk_0 zp_0_1 ?_
        refine h_aload_n dX11_back_30 rfl 0 rfl ?_
        refine gf_9_2 dX11_back_31 hl_X11_23 nl_0 zk_0 zp_0_2 ?_
        refine h_iload_n dX11_back_34 rfl 1 rfl ?_
        refine h_aald13z dX11_back_35 nl_14 zk_14 (by rw [zn_14]; exact k2 c1 c2 c3) hs_h ?_
        refine h_invV (As := [.ref h]) (st := []) dX11_back_36 lk_X11_73 (h_room (by decide)) nl_12 zk_12 (by decide) rfl rfl rfl (Nat.le_of_ble_eq_true rfl) ?_
        refine c_X4_copyFrom nl_12 zk_12 zp_12_0 nl_13 zk_13 zn_13 a_h b_h p_h a_c b_c n_c ?_
        refine h_aload_n dX11_back_39 rfl 0 rfl ?_
        refine gf_9_4 dX11_back_40 hl_X11_39 nl_0 zk_0 zp_0_4 ?_
        refine h_invV (As := []) (st := []) dX11_back_43 lk_X11_82 (h_room (by decide)) nl_32 zk_32 (by decide) rfl rfl rfl (Nat.le_of_ble_eq_true rfl) ?_
        refine c_X2_becomeStale ?_
        refine h_aload_n dX11_back_46 rfl 0 rfl ?_
        refine gf_9_1 dX11_back_47 hl_X11_19 nl_0 zk_0 zp_0_1 ?_
        refine gf_3_1 dX11_back_50 hl_X11_139 nl_12 zk_12 ?_
        exact h_iret dX11_back_53 rfl (k3 c1 c2 c3)
      ·
        refine h_bipush (v := (-4)) dX11_back_23 (by decide) ?_
        exact h_iret dX11_back_25 rfl (k4 c1 c2 c3)
    ·
      refine h_bipush (v := (-2)) dX11_back_9 (by decide) ?_
      exact h_iret dX11_back_11 rfl (k5 c1 c2)
set_option maxHeartbeats 1000000 in
set_option maxRecDepth 20000 in
theorem sg_X12_habitWord_0 {E : HEn} {d : Nat} {Q : Option Value → HIh → Prop} {I : HIh} 
    (k1 : HCall E me_X12_isWord (d + 1) [.ref 87, .long 19060910, .int 5] I (fun v9 J => HGo E (mF E (d + 2) Q) me_X12_habitWord 8 [(0, .ref 87)] (v9.toList ++ []) J))
    : HGo E (mF E (d + 2) Q) me_X12_habitWord 0 [(0, .ref 87)] [] I := by
  refine h_aload_n dX12_habitWord_0 rfl 0 rfl ?_
  refine h_ldc2 dX12_habitWord_1 wt_935 rfl ?_
  refine h_iconst (v := 5) dX12_habitWord_4 (by decide) ?_
  refine h_invV (As := [.long 19060910, .int 5]) (st := []) dX12_habitWord_5 lk_X12_88 (h_room (by decide)) nl_87 zk_87 (by decide) rfl rfl rfl (Nat.le_of_ble_eq_true rfl) ?_
  exact k1
set_option maxHeartbeats 1000000 in
set_option maxRecDepth 20000 in
theorem sg_X12_habitWord_8 {E : HEn} {d : Nat} {Q : Option Value → HIh → Prop} {I : HIh} {s0 : Int32}
    (k1 : s0 = 0 → HCall E me_X12_isWord (d + 1) [.ref 87, .long 843224647, .int 6] I (fun v9 J => HGo E (mF E (d + 2) Q) me_X12_habitWord 24 [(0, .ref 87)] (v9.toList ++ []) J))
    (k2 : ¬ s0 = 0 → Q (some (.int 3)) I)
    : HGo E (mF E (d + 2) Q) me_X12_habitWord 8 [(0, .ref 87)] [.int s0] I := by
  refine h_if_eq (tgt := 15) dX12_habitWord_8 (by decide) (fun c1 => ?_) (fun c1 => ?_)
  ·
    refine h_aload_n dX12_habitWord_15 rfl 0 rfl ?_
    refine h_ldc2 dX12_habitWord_16 wt_941 rfl ?_
    refine h_bipush (v := 6) dX12_habitWord_19 (by decide) ?_
    refine h_invV (As := [.long 843224647, .int 6]) (st := []) dX12_habitWord_21 lk_X12_88 (h_room (by decide)) nl_87 zk_87 (by decide) rfl rfl rfl (Nat.le_of_ble_eq_true rfl) ?_
    exact k1 c1
  ·
    refine h_iconst (v := 3) dX12_habitWord_11 (by decide) ?_
    refine h_goto (tgt := 64) dX12_habitWord_12 (by decide) ?_
    exact h_iret dX12_habitWord_64 rfl (k2 c1)
set_option maxHeartbeats 1000000 in
set_option maxRecDepth 20000 in
theorem sg_X12_habitWord_24 {E : HEn} {d : Nat} {Q : Option Value → HIh → Prop} {I : HIh} {s0 : Int32}
    (k1 : s0 = 0 → HCall E me_X12_isWord (d + 1) [.ref 87, .long 7996056631, .int 7] I (fun v9 J => HGo E (mF E (d + 2) Q) me_X12_habitWord 40 [(0, .ref 87)] (v9.toList ++ []) J))
    (k2 : ¬ s0 = 0 → Q (some (.int 4)) I)
    : HGo E (mF E (d + 2) Q) me_X12_habitWord 24 [(0, .ref 87)] [.int s0] I := by
  refine h_if_eq (tgt := 31) dX12_habitWord_24 (by decide) (fun c1 => ?_) (fun c1 => ?_)
  ·
    refine h_aload_n dX12_habitWord_31 rfl 0 rfl ?_
    refine h_ldc2 dX12_habitWord_32 wt_942 rfl ?_
    refine h_bipush (v := 7) dX12_habitWord_35 (by decide) ?_
    refine h_invV (As := [.long 7996056631, .int 7]) (st := []) dX12_habitWord_37 lk_X12_88 (h_room (by decide)) nl_87 zk_87 (by decide) rfl rfl rfl (Nat.le_of_ble_eq_true rfl) ?_
    exact k1 c1
  ·
    refine h_iconst (v := 4) dX12_habitWord_27 (by decide) ?_
    refine h_goto (tgt := 64) dX12_habitWord_28 (by decide) ?_
    exact h_iret dX12_habitWord_64 rfl (k2 c1)
set_option maxHeartbeats 1000000 in
set_option maxRecDepth 20000 in
theorem sg_X12_habitWord_40 {E : HEn} {d : Nat} {Q : Option Value → HIh → Prop} {I : HIh} {s0 : Int32}
    (k1 : s0 = 0 → HCall E me_X12_isWord (d + 1) [.ref 87, .long 16815363, .int 5] I (fun v9 J => HGo E (mF E (d + 2) Q) me_X12_habitWord 55 [] (v9.toList ++ []) J))
    (k2 : ¬ s0 = 0 → Q (some (.int 5)) I)
    : HGo E (mF E (d + 2) Q) me_X12_habitWord 40 [(0, .ref 87)] [.int s0] I := by
  refine h_if_eq (tgt := 47) dX12_habitWord_40 (by decide) (fun c1 => ?_) (fun c1 => ?_)
  ·
    refine h_aload_n dX12_habitWord_47 rfl 0 rfl ?_
    refine h_ldc2 dX12_habitWord_48 wt_943 rfl ?_
    refine h_iconst (v := 5) dX12_habitWord_51 (by decide) ?_
    refine h_pick [] [] rfl ?_
    refine h_invV (As := [.long 16815363, .int 5]) (st := []) dX12_habitWord_52 lk_X12_88 (h_room (by decide)) nl_87 zk_87 (by decide) rfl rfl rfl (Nat.le_of_ble_eq_true rfl) ?_
    exact k1 c1
  ·
    refine h_iconst (v := 5) dX12_habitWord_43 (by decide) ?_
    refine h_goto (tgt := 64) dX12_habitWord_44 (by decide) ?_
    exact h_iret dX12_habitWord_64 rfl (k2 c1)
set_option maxHeartbeats 1000000 in
set_option maxRecDepth 20000 in
theorem sg_X12_habitWord_55 {E : HEn} {d : Nat} {Q : Option Value → HIh → Prop} {I : HIh} {s0 : Int32}
    (k1 : s0 = 0 → Q (some (.int (-1))) I)
    (k2 : ¬ s0 = 0 → Q (some (.int 6)) I)
    : HGo E (mF E (d + 2) Q) me_X12_habitWord 55 [] [.int s0] I := by
  refine h_if_eq (tgt := 63) dX12_habitWord_55 (by decide) (fun c1 => ?_) (fun c1 => ?_)
  ·
    refine h_iconst (v := (-1)) dX12_habitWord_63 (by decide) ?_
    exact h_iret dX12_habitWord_64 rfl (k1 c1)
  ·
    refine h_bipush (v := 6) dX12_habitWord_58 (by decide) ?_
    refine h_goto (tgt := 64) dX12_habitWord_60 (by decide) ?_
    exact h_iret dX12_habitWord_64 rfl (k2 c1)
set_option maxHeartbeats 1000000 in
set_option maxRecDepth 20000 in
theorem sg_X12_reads_0 {E : HEn} {d : Nat} {Q : Option Value → HIh → Prop} {I : HIh} {a : Int32} {b : Int32}
    (k1 : HCall E me_X12_isNumber (d + 2) [.ref 87] I (fun v9 J => HGo E (mF E (d + 3) Q) me_X12_reads 4 [(0, .ref 87), (1, .int a), (2, .int b)] (v9.toList ++ []) J))
    : HGo E (mF E (d + 3) Q) me_X12_reads 0 [(0, .ref 87), (1, .int a), (2, .int b)] [] I := by
  refine h_aload_n dX12_reads_0 rfl 0 rfl ?_
  refine h_invV (As := []) (st := []) dX12_reads_1 lk_X12_114 (h_room (by decide)) nl_87 zk_87 (by decide) rfl rfl rfl (Nat.le_of_ble_eq_true rfl) ?_
  exact k1
set_option maxHeartbeats 1000000 in
set_option maxRecDepth 20000 in
theorem sg_X12_reads_4 {E : HEn} {d : Nat} {Q : Option Value → HIh → Prop} {I : HIh} {x1 : Int32} {x2 : Int32} {s0 : Int32}
    (k1 : s0 = 0 → Q (some (.int 0)) I)
    (k2 : ¬ s0 = 0 → ((I 87 16) - (I 87 15)) ≤ 3 → HGo E (mF E (d + 3) Q) me_X12_reads 30 [(0, .ref 87), (1, .int x1), (2, .int x2), (3, .int 0), (4, .int (I 87 15))] [] I)
    (k3 : ¬ s0 = 0 → ¬ ((I 87 16) - (I 87 15)) ≤ 3 → Q (some (.int 0)) I)
    : HGo E (mF E (d + 3) Q) me_X12_reads 4 [(0, .ref 87), (1, .int x1), (2, .int x2)] [.int s0] I := by
  refine h_if_eq (tgt := 20) dX12_reads_4 (by decide) (fun c1 => ?_) (fun c1 => ?_)
  ·
    refine h_iconst (v := 0) dX12_reads_20 (by decide) ?_
    exact h_zret dX12_reads_21 rfl rfl (k1 c1)
  ·
    refine h_aload_n dX12_reads_7 rfl 0 rfl ?_
    refine gf_10_16 dX12_reads_8 hl_X12_81 nl_87 zk_87 ?_
    refine h_aload_n dX12_reads_11 rfl 0 rfl ?_
    refine gf_10_15 dX12_reads_12 hl_X12_74 nl_87 zk_87 ?_
    refine h_isub dX12_reads_15 ?_
    refine h_iconst (v := 3) dX12_reads_16 (by decide) ?_
    refine h_icmp_le (tgt := 22) dX12_reads_17 (by decide) (fun c2 => ?_) (fun c2 => ?_)
    ·
      refine h_iconst (v := 0) dX12_reads_22 (by decide) ?_
      refine h_istore_n (L' := [(3, .int 0), (0, .ref 87), (1, .int x1), (2, .int x2)]) dX12_reads_23 rfl (by decide) rfl ?_
      refine h_aload_n dX12_reads_24 rfl 1 rfl ?_
      refine gf_10_15 dX12_reads_25 hl_X12_74 nl_87 zk_87 ?_
      refine h_istore (L' := [(4, .int (I 87 15)), (3, .int 0), (0, .ref 87), (1, .int x1), (2, .int x2)]) dX12_reads_28 (by decide) rfl ?_
      refine h_pick [2, 3, 4, 1, 0] [(0, .ref 87), (1, .int x1), (2, .int x2), (3, .int 0), (4, .int (I 87 15))] rfl ?_
      exact k2 c1 c2
    ·
      refine h_iconst (v := 0) dX12_reads_20 (by decide) ?_
      exact h_zret dX12_reads_21 rfl rfl (k3 c1 c2)
set_option maxHeartbeats 1000000 in
set_option maxRecDepth 20000 in
theorem sg_X12_reads_30 {E : HEn} {d : Nat} {Q : Option Value → HIh → Prop} {I : HIh} {x1 : Int32} {x2 : Int32} {x3 : Int32} {x4 : Int32}
    (k1 : (I 87 16) ≤ x4 → (x1.toInt64 : Int64) ≤ x3.toInt64 → (x3.toInt64 : Int64) ≤ x2.toInt64 → vp_in ((12 * (I 87 5)) + 1) 120)
    (k2 : (I 87 16) ≤ x4 → (x1.toInt64 : Int64) ≤ x3.toInt64 → (x3.toInt64 : Int64) ≤ x2.toInt64 → vp_in (((12 * (I 87 5)) + 2) + (I 91 (((12 * (I 87 5)) + 1).toNatClampNeg))) 120)
    (k3 : (I 87 16) ≤ x4 → (x1.toInt64 : Int64) ≤ x3.toInt64 → (x3.toInt64 : Int64) ≤ x2.toInt64 → HCall E me_X12_token (d + 2) [.ref 87] (setI (setI I 91 (upd (I 91) (((12 * (I 87 5)) + 2) + (I 91 (((12 * (I 87 5)) + 1).toNatClampNeg))).toNatClampNeg x3)) 91 (upd (upd (I 91) (((12 * (I 87 5)) + 2) + (I 91 (((12 * (I 87 5)) + 1).toNatClampNeg))).toNatClampNeg x3) ((12 * (I 87 5)) + 1).toNatClampNeg (((upd (I 91) (((12 * (I 87 5)) + 2) + (I 91 (((12 * (I 87 5)) + 1).toNatClampNeg))).toNatClampNeg x3) (((12 * (I 87 5)) + 1).toNatClampNeg)) + 1))) (fun v9 J => HGo E (mF E (d + 3) Q) me_X12_reads 121 [] (v9.toList ++ []) J))
    (k4 : (I 87 16) ≤ x4 → ¬ ((x1.toInt64 : Int64) ≤ x3.toInt64 ∧ (x3.toInt64 : Int64) ≤ x2.toInt64) → Q (some (.int 0)) I)
    (k5 : ¬ (I 87 16) ≤ x4 → vp_in x4 200)
    (k6 : ¬ (I 87 16) ≤ x4 → HGo E (mF E (d + 3) Q) me_X12_reads 30 [(0, .ref 87), (1, .int x1), (2, .int x2), (3, .int (((10 * x3) + (I 90 x4.toNatClampNeg)) - 48)), (4, .int (x4 + 1))] [] I)
    : HGo E (mF E (d + 3) Q) me_X12_reads 30 [(0, .ref 87), (1, .int x1), (2, .int x2), (3, .int x3), (4, .int x4)] [] I := by
  refine h_iload dX12_reads_30 4 rfl ?_
  refine h_aload_n dX12_reads_32 rfl 0 rfl ?_
  refine gf_10_16 dX12_reads_33 hl_X12_81 nl_87 zk_87 ?_
  refine h_icmp_ge (tgt := 61) dX12_reads_36 (by decide) (fun c1 => ?_) (fun c1 => ?_)
  ·
    refine h_iload_n dX12_reads_61 rfl 3 rfl ?_
    refine h_i2l dX12_reads_62 ?_
    refine h_iload_n dX12_reads_63 rfl 1 rfl ?_
    refine h_i2l dX12_reads_64 ?_
    refine h_iload_n dX12_reads_65 rfl 2 rfl ?_
    refine h_i2l dX12_reads_66 ?_
    refine h_invS (As := [.long x3.toInt64, .long x1.toInt64, .long x2.toInt64]) (st := []) dX12_reads_67 lk_X12_62 (h_room (by decide)) rfl rfl (Nat.le_of_ble_eq_true rfl) ?_
    refine c_X12_in (fun c2 c3 => ?_) (fun c4 => ?_)
    ·
      refine h_if_ne (tgt := 75) dX12_reads_70 (by decide) (fun _ => ?_) (fun c => absurd c (by decide))
      refine h_bipush (v := 12) dX12_reads_75 (by decide) ?_
      refine h_aload_n dX12_reads_77 rfl 0 rfl ?_
      refine gf_10_5 dX12_reads_78 hl_X12_118 nl_87 zk_87 ?_
      refine h_imul dX12_reads_81 ?_
      refine h_istore (L' := [(4, .int (12 * (I 87 5))), (0, .ref 87), (1, .int x1), (2, .int x2), (3, .int x3)]) dX12_reads_82 (by decide) rfl ?_
      refine h_aload_n dX12_reads_84 rfl 1 rfl ?_
      refine gf_10_4 dX12_reads_85 hl_X12_20 nl_87 zk_87 zp_87_4 ?_
      refine h_iload dX12_reads_88 0 rfl ?_
      refine h_iconst (v := 2) dX12_reads_90 (by decide) ?_
      refine h_iadd dX12_reads_91 ?_
      refine h_aload_n dX12_reads_92 rfl 1 rfl ?_
      refine gf_10_4 dX12_reads_93 hl_X12_20 nl_87 zk_87 zp_87_4 ?_
      refine h_iload dX12_reads_96 0 rfl ?_
      refine h_iconst (v := 1) dX12_reads_98 (by decide) ?_
      refine h_iadd dX12_reads_99 ?_
      refine h_iald dX12_reads_100 nl_91 zk_91 (by rw [zn_91]; exact k1 c1 c2 c3) ?_
      refine h_iadd dX12_reads_101 ?_
      refine h_iload_n dX12_reads_102 rfl 4 rfl ?_
      refine h_iast dX12_reads_103 nl_91 zk_91 (by rw [zn_91]; exact k2 c1 c2 c3) ?_
      refine h_aload_n dX12_reads_104 rfl 1 rfl ?_
      refine gf_10_4 dX12_reads_105 hl_X12_20 nl_87 zk_87 zp_87_4 ?_
      refine h_iload dX12_reads_108 0 rfl ?_
      refine h_iconst (v := 1) dX12_reads_110 (by decide) ?_
      refine h_iadd dX12_reads_111 ?_
      refine h_dup2 dX12_reads_112 rfl rfl ?_
      refine h_iald dX12_reads_113 nl_91 zk_91 (by rw [zn_91]; exact k1 c1 c2 c3) ?_
      refine h_iconst (v := 1) dX12_reads_114 (by decide) ?_
      refine h_iadd dX12_reads_115 ?_
      refine h_iast dX12_reads_116 nl_91 zk_91 (by rw [zn_91]; exact k1 c1 c2 c3) ?_
      refine h_aload_n dX12_reads_117 rfl 1 rfl ?_
      refine h_pick [] [] rfl ?_
      refine h_invV (As := []) (st := []) dX12_reads_118 lk_X12_121 (h_room (by decide)) nl_87 zk_87 (by decide) rfl rfl rfl (Nat.le_of_ble_eq_true rfl) ?_
      exact k3 c1 c2 c3
    ·
      refine h_if_ne (tgt := 75) dX12_reads_70 (by decide) (fun c => absurd c (by decide)) (fun _ => ?_)
      refine h_iconst (v := 0) dX12_reads_73 (by decide) ?_
      exact h_zret dX12_reads_74 rfl rfl (k4 c1 c4)
  ·
    refine h_bipush (v := 10) dX12_reads_39 (by decide) ?_
    refine h_iload_n dX12_reads_41 rfl 3 rfl ?_
    refine h_imul dX12_reads_42 ?_
    refine h_aload_n dX12_reads_43 rfl 0 rfl ?_
    refine gf_10_2 dX12_reads_44 hl_X12_17 nl_87 zk_87 zp_87_2 ?_
    refine h_iload dX12_reads_47 4 rfl ?_
    refine h_iald dX12_reads_49 nl_90 zk_90 (by rw [zn_90]; exact k5 c1) ?_
    refine h_iadd dX12_reads_50 ?_
    refine h_bipush (v := 48) dX12_reads_51 (by decide) ?_
    refine h_isub dX12_reads_53 ?_
    refine h_istore_n (L' := [(3, .int (((10 * x3) + (I 90 x4.toNatClampNeg)) - 48)), (0, .ref 87), (1, .int x1), (2, .int x2), (4, .int x4)]) dX12_reads_54 rfl (by decide) rfl ?_
    refine h_iinc (v := (x4 + 1)) (L' := [(4, .int (x4 + 1)), (3, .int (((10 * x3) + (I 90 x4.toNatClampNeg)) - 48)), (0, .ref 87), (1, .int x1), (2, .int x2)]) dX12_reads_55 4 rfl rfl (by decide) rfl ?_
    refine h_goto (tgt := 30) dX12_reads_58 (by decide) ?_
    refine h_pick [2, 3, 4, 1, 0] [(0, .ref 87), (1, .int x1), (2, .int x2), (3, .int (((10 * x3) + (I 90 x4.toNatClampNeg)) - 48)), (4, .int (x4 + 1))] rfl ?_
    exact k6 c1
set_option maxHeartbeats 1000000 in
set_option maxRecDepth 20000 in
theorem sg_X12_reads_121 {E : HEn} {d : Nat} {Q : Option Value → HIh → Prop} {I : HIh} 
    (k1 : Q (some (.int 1)) I)
    : HGo E (mF E (d + 3) Q) me_X12_reads 121 [] [] I := by
  refine h_iconst (v := 1) dX12_reads_121 (by decide) ?_
  exact h_zret dX12_reads_122 rfl rfl (k1)
set_option maxHeartbeats 1000000 in
set_option maxRecDepth 20000 in
theorem sg_X12_tell_0 {E : HEn} {d : Nat} {Q : Option Value → HIh → Prop} {I : HIh} {a : Int32}
    (k1 : vp_in (a + 2) 120)
    (k2 : vp_in a 120)
    (k3 : (I 91 a.toNatClampNeg) = 0 → HCall E me_X12_tellCoins (d + 1) [.ref 87, .int a] I (fun v9 J => HGo E (mF E (d + 2) Q) me_X12_tell 73 [] (v9.toList ++ []) J))
    (k4 : ¬ (I 91 a.toNatClampNeg) = 0 → (I 91 a.toNatClampNeg) = 1 → vp_in (a + 3) 120)
    (k5 : ¬ (I 91 a.toNatClampNeg) = 0 → (I 91 a.toNatClampNeg) = 1 → vp_in (0 + (I 91 ((a + 2).toNatClampNeg))) 30)
    (k6 : ¬ (I 91 a.toNatClampNeg) = 0 → (I 91 a.toNatClampNeg) = 1 → Q none (setI I 93 (upd (I 93) (0 + (I 91 ((a + 2).toNatClampNeg))).toNatClampNeg (I 91 ((a + 3).toNatClampNeg)))))
    (k7 : ¬ (I 91 a.toNatClampNeg) = 0 → ¬ (I 91 a.toNatClampNeg) = 1 → (I 91 a.toNatClampNeg) = 2 → vp_in (a + 3) 120)
    (k8 : ¬ (I 91 a.toNatClampNeg) = 0 → ¬ (I 91 a.toNatClampNeg) = 1 → (I 91 a.toNatClampNeg) = 2 → vp_in (a + 4) 120)
    (k9 : ¬ (I 91 a.toNatClampNeg) = 0 → ¬ (I 91 a.toNatClampNeg) = 1 → (I 91 a.toNatClampNeg) = 2 → vp_in ((6 + (6 * (I 91 ((a + 2).toNatClampNeg)))) + (I 91 ((a + 3).toNatClampNeg))) 30)
    (k10 : ¬ (I 91 a.toNatClampNeg) = 0 → ¬ (I 91 a.toNatClampNeg) = 1 → (I 91 a.toNatClampNeg) = 2 → Q none (setI I 93 (upd (I 93) ((6 + (6 * (I 91 ((a + 2).toNatClampNeg)))) + (I 91 ((a + 3).toNatClampNeg))).toNatClampNeg (I 91 ((a + 4).toNatClampNeg)))))
    (k11 : ¬ (I 91 a.toNatClampNeg) = 0 → ¬ (I 91 a.toNatClampNeg) = 1 → ¬ (I 91 a.toNatClampNeg) = 2 → (I 91 a.toNatClampNeg) = 3 → vp_in a 120)
    (k12 : ¬ (I 91 a.toNatClampNeg) = 0 → ¬ (I 91 a.toNatClampNeg) = 1 → ¬ (I 91 a.toNatClampNeg) = 2 → (I 91 a.toNatClampNeg) = 3 → vp_in (I 91 ((a + 2).toNatClampNeg)) 4)
    (k13 : ¬ (I 91 a.toNatClampNeg) = 0 → ¬ (I 91 a.toNatClampNeg) = 1 → ¬ (I 91 a.toNatClampNeg) = 2 → (I 91 a.toNatClampNeg) = 3 → vp_in (a + 3) 120)
    (k14 : ¬ (I 91 a.toNatClampNeg) = 0 → ¬ (I 91 a.toNatClampNeg) = 1 → ¬ (I 91 a.toNatClampNeg) = 2 → (I 91 a.toNatClampNeg) = 3 → Q none (setI (setI I 94 (upd (I 94) (I 91 ((a + 2).toNatClampNeg)).toNatClampNeg ((I 91 a.toNatClampNeg) - 3))) 95 (upd (I 95) (I 91 ((a + 2).toNatClampNeg)).toNatClampNeg (I 91 ((a + 3).toNatClampNeg)))))
    (k15 : ¬ (I 91 a.toNatClampNeg) = 0 → ¬ (I 91 a.toNatClampNeg) = 1 → ¬ (I 91 a.toNatClampNeg) = 2 → ¬ (I 91 a.toNatClampNeg) = 3 → (I 91 a.toNatClampNeg) = 4 → vp_in a 120)
    (k16 : ¬ (I 91 a.toNatClampNeg) = 0 → ¬ (I 91 a.toNatClampNeg) = 1 → ¬ (I 91 a.toNatClampNeg) = 2 → ¬ (I 91 a.toNatClampNeg) = 3 → (I 91 a.toNatClampNeg) = 4 → vp_in (I 91 ((a + 2).toNatClampNeg)) 4)
    (k17 : ¬ (I 91 a.toNatClampNeg) = 0 → ¬ (I 91 a.toNatClampNeg) = 1 → ¬ (I 91 a.toNatClampNeg) = 2 → ¬ (I 91 a.toNatClampNeg) = 3 → (I 91 a.toNatClampNeg) = 4 → vp_in (a + 3) 120)
    (k18 : ¬ (I 91 a.toNatClampNeg) = 0 → ¬ (I 91 a.toNatClampNeg) = 1 → ¬ (I 91 a.toNatClampNeg) = 2 → ¬ (I 91 a.toNatClampNeg) = 3 → (I 91 a.toNatClampNeg) = 4 → Q none (setI (setI I 94 (upd (I 94) (I 91 ((a + 2).toNatClampNeg)).toNatClampNeg ((I 91 a.toNatClampNeg) - 3))) 95 (upd (I 95) (I 91 ((a + 2).toNatClampNeg)).toNatClampNeg (I 91 ((a + 3).toNatClampNeg)))))
    (k19 : ¬ (I 91 a.toNatClampNeg) = 0 → ¬ (I 91 a.toNatClampNeg) = 1 → ¬ (I 91 a.toNatClampNeg) = 2 → ¬ (I 91 a.toNatClampNeg) = 3 → ¬ (I 91 a.toNatClampNeg) = 4 → (I 91 a.toNatClampNeg) = 5 → vp_in a 120)
    (k20 : ¬ (I 91 a.toNatClampNeg) = 0 → ¬ (I 91 a.toNatClampNeg) = 1 → ¬ (I 91 a.toNatClampNeg) = 2 → ¬ (I 91 a.toNatClampNeg) = 3 → ¬ (I 91 a.toNatClampNeg) = 4 → (I 91 a.toNatClampNeg) = 5 → vp_in (I 91 ((a + 2).toNatClampNeg)) 4)
    (k21 : ¬ (I 91 a.toNatClampNeg) = 0 → ¬ (I 91 a.toNatClampNeg) = 1 → ¬ (I 91 a.toNatClampNeg) = 2 → ¬ (I 91 a.toNatClampNeg) = 3 → ¬ (I 91 a.toNatClampNeg) = 4 → (I 91 a.toNatClampNeg) = 5 → vp_in (a + 3) 120)
    (k22 : ¬ (I 91 a.toNatClampNeg) = 0 → ¬ (I 91 a.toNatClampNeg) = 1 → ¬ (I 91 a.toNatClampNeg) = 2 → ¬ (I 91 a.toNatClampNeg) = 3 → ¬ (I 91 a.toNatClampNeg) = 4 → (I 91 a.toNatClampNeg) = 5 → Q none (setI (setI I 94 (upd (I 94) (I 91 ((a + 2).toNatClampNeg)).toNatClampNeg ((I 91 a.toNatClampNeg) - 3))) 95 (upd (I 95) (I 91 ((a + 2).toNatClampNeg)).toNatClampNeg (I 91 ((a + 3).toNatClampNeg)))))
    (k23 : ¬ (I 91 a.toNatClampNeg) = 0 → ¬ (I 91 a.toNatClampNeg) = 1 → ¬ (I 91 a.toNatClampNeg) = 2 → ¬ (I 91 a.toNatClampNeg) = 3 → ¬ (I 91 a.toNatClampNeg) = 4 → ¬ (I 91 a.toNatClampNeg) = 5 → (I 91 a.toNatClampNeg) = 6 → vp_in a 120)
    (k24 : ¬ (I 91 a.toNatClampNeg) = 0 → ¬ (I 91 a.toNatClampNeg) = 1 → ¬ (I 91 a.toNatClampNeg) = 2 → ¬ (I 91 a.toNatClampNeg) = 3 → ¬ (I 91 a.toNatClampNeg) = 4 → ¬ (I 91 a.toNatClampNeg) = 5 → (I 91 a.toNatClampNeg) = 6 → vp_in (I 91 ((a + 2).toNatClampNeg)) 4)
    (k25 : ¬ (I 91 a.toNatClampNeg) = 0 → ¬ (I 91 a.toNatClampNeg) = 1 → ¬ (I 91 a.toNatClampNeg) = 2 → ¬ (I 91 a.toNatClampNeg) = 3 → ¬ (I 91 a.toNatClampNeg) = 4 → ¬ (I 91 a.toNatClampNeg) = 5 → (I 91 a.toNatClampNeg) = 6 → vp_in (a + 3) 120)
    (k26 : ¬ (I 91 a.toNatClampNeg) = 0 → ¬ (I 91 a.toNatClampNeg) = 1 → ¬ (I 91 a.toNatClampNeg) = 2 → ¬ (I 91 a.toNatClampNeg) = 3 → ¬ (I 91 a.toNatClampNeg) = 4 → ¬ (I 91 a.toNatClampNeg) = 5 → (I 91 a.toNatClampNeg) = 6 → Q none (setI (setI I 94 (upd (I 94) (I 91 ((a + 2).toNatClampNeg)).toNatClampNeg ((I 91 a.toNatClampNeg) - 3))) 95 (upd (I 95) (I 91 ((a + 2).toNatClampNeg)).toNatClampNeg (I 91 ((a + 3).toNatClampNeg)))))
    (k27 : ¬ (I 91 a.toNatClampNeg) = 0 → ¬ (I 91 a.toNatClampNeg) = 1 → ¬ (I 91 a.toNatClampNeg) = 2 → ¬ (I 91 a.toNatClampNeg) = 3 → ¬ (I 91 a.toNatClampNeg) = 4 → ¬ (I 91 a.toNatClampNeg) = 5 → ¬ (I 91 a.toNatClampNeg) = 6 → (I 91 a.toNatClampNeg) = 7 → HCall E me_X12_tellCome (d + 1) [.ref 87, .int a] I (fun v9 J => HGo E (mF E (d + 2) Q) me_X12_tell 126 [] (v9.toList ++ []) J))
    (k28 : ¬ (I 91 a.toNatClampNeg) = 0 → ¬ (I 91 a.toNatClampNeg) = 1 → ¬ (I 91 a.toNatClampNeg) = 2 → ¬ (I 91 a.toNatClampNeg) = 3 → ¬ (I 91 a.toNatClampNeg) = 4 → ¬ (I 91 a.toNatClampNeg) = 5 → ¬ (I 91 a.toNatClampNeg) = 6 → ¬ (I 91 a.toNatClampNeg) = 7 → (I 91 a.toNatClampNeg) = 8 → Q none (setI I 87 (upd (I 87) 11 (I 91 ((a + 2).toNatClampNeg)))))
    (k29 : ¬ (I 91 a.toNatClampNeg) = 0 → ¬ (I 91 a.toNatClampNeg) = 1 → ¬ (I 91 a.toNatClampNeg) = 2 → ¬ (I 91 a.toNatClampNeg) = 3 → ¬ (I 91 a.toNatClampNeg) = 4 → ¬ (I 91 a.toNatClampNeg) = 5 → ¬ (I 91 a.toNatClampNeg) = 6 → ¬ (I 91 a.toNatClampNeg) = 7 → ¬ (I 91 a.toNatClampNeg) = 8 → (I 91 a.toNatClampNeg) = 9 → Q none (setI I 87 (upd (I 87) 13 0)))
    (k30 : ¬ (I 91 a.toNatClampNeg) = 0 → ¬ (I 91 a.toNatClampNeg) = 1 → ¬ (I 91 a.toNatClampNeg) = 2 → ¬ (I 91 a.toNatClampNeg) = 3 → ¬ (I 91 a.toNatClampNeg) = 4 → ¬ (I 91 a.toNatClampNeg) = 5 → ¬ (I 91 a.toNatClampNeg) = 6 → ¬ (I 91 a.toNatClampNeg) = 7 → ¬ (I 91 a.toNatClampNeg) = 8 → ¬ (I 91 a.toNatClampNeg) = 9 → vp_in a 120)
    (k31 : ¬ (I 91 a.toNatClampNeg) = 0 → ¬ (I 91 a.toNatClampNeg) = 1 → ¬ (I 91 a.toNatClampNeg) = 2 → ¬ (I 91 a.toNatClampNeg) = 3 → ¬ (I 91 a.toNatClampNeg) = 4 → ¬ (I 91 a.toNatClampNeg) = 5 → ¬ (I 91 a.toNatClampNeg) = 6 → ¬ (I 91 a.toNatClampNeg) = 7 → ¬ (I 91 a.toNatClampNeg) = 8 → ¬ (I 91 a.toNatClampNeg) = 9 → vp_in (I 91 ((a + 2).toNatClampNeg)) 4)
    (k32 : ¬ (I 91 a.toNatClampNeg) = 0 → ¬ (I 91 a.toNatClampNeg) = 1 → ¬ (I 91 a.toNatClampNeg) = 2 → ¬ (I 91 a.toNatClampNeg) = 3 → ¬ (I 91 a.toNatClampNeg) = 4 → ¬ (I 91 a.toNatClampNeg) = 5 → ¬ (I 91 a.toNatClampNeg) = 6 → ¬ (I 91 a.toNatClampNeg) = 7 → ¬ (I 91 a.toNatClampNeg) = 8 → ¬ (I 91 a.toNatClampNeg) = 9 → vp_in (a + 3) 120)
    (k33 : ¬ (I 91 a.toNatClampNeg) = 0 → ¬ (I 91 a.toNatClampNeg) = 1 → ¬ (I 91 a.toNatClampNeg) = 2 → ¬ (I 91 a.toNatClampNeg) = 3 → ¬ (I 91 a.toNatClampNeg) = 4 → ¬ (I 91 a.toNatClampNeg) = 5 → ¬ (I 91 a.toNatClampNeg) = 6 → ¬ (I 91 a.toNatClampNeg) = 7 → ¬ (I 91 a.toNatClampNeg) = 8 → ¬ (I 91 a.toNatClampNeg) = 9 → Q none (setI (setI I 94 (upd (I 94) (I 91 ((a + 2).toNatClampNeg)).toNatClampNeg ((I 91 a.toNatClampNeg) - 3))) 95 (upd (I 95) (I 91 ((a + 2).toNatClampNeg)).toNatClampNeg (I 91 ((a + 3).toNatClampNeg)))))
    : HGo E (mF E (d + 2) Q) me_X12_tell 0 [(0, .ref 87), (1, .int a)] [] I := by
  refine h_aload_n dX12_tell_0 rfl 0 rfl ?_
  refine gf_10_4 dX12_tell_1 hl_X12_20 nl_87 zk_87 zp_87_4 ?_
  refine h_iload_n dX12_tell_4 rfl 1 rfl ?_
  refine h_iconst (v := 2) dX12_tell_5 (by decide) ?_
  refine h_iadd dX12_tell_6 ?_
  refine h_iald dX12_tell_7 nl_91 zk_91 (by rw [zn_91]; exact k1) ?_
  refine h_istore_n (L' := [(2, .int (I 91 ((a + 2).toNatClampNeg))), (0, .ref 87), (1, .int a)]) dX12_tell_8 rfl (by decide) rfl ?_
  refine h_aload_n dX12_tell_9 rfl 1 rfl ?_
  refine gf_10_4 dX12_tell_10 hl_X12_20 nl_87 zk_87 zp_87_4 ?_
  refine h_iload_n dX12_tell_13 rfl 2 rfl ?_
  refine h_iald dX12_tell_14 nl_91 zk_91 (by rw [zn_91]; exact k2) ?_
  by_cases c1 : (I 91 a.toNatClampNeg) = 0
  · refine h_tswIn (off := 53) (tgt := 68) 0 dX12_tell_15 (by rw [c1]; rfl) (by decide) (by decide) (by decide) (by decide) ?_
    refine h_aload_n dX12_tell_68 rfl 1 rfl ?_
    refine h_iload_n dX12_tell_69 rfl 2 rfl ?_
    refine h_pick [] [] rfl ?_
    refine h_invV (As := [.int a]) (st := []) dX12_tell_70 lk_X12_153 (h_room (by decide)) nl_87 zk_87 (by decide) rfl rfl rfl (Nat.le_of_ble_eq_true rfl) ?_
    exact k3 c1
  by_cases c2 : (I 91 a.toNatClampNeg) = 1
  · refine h_tswIn (off := 59) (tgt := 74) 1 dX12_tell_15 (by rw [c2]; rfl) (by decide) (by decide) (by decide) (by decide) ?_
    refine h_aload_n dX12_tell_74 rfl 1 rfl ?_
    refine gf_10_8 dX12_tell_75 hl_X12_30 nl_87 zk_87 zp_87_8 ?_
    refine h_iconst (v := 0) dX12_tell_78 (by decide) ?_
    refine h_iload_n dX12_tell_79 rfl 0 rfl ?_
    refine h_iadd dX12_tell_80 ?_
    refine h_aload_n dX12_tell_81 rfl 1 rfl ?_
    refine gf_10_4 dX12_tell_82 hl_X12_20 nl_87 zk_87 zp_87_4 ?_
    refine h_iload_n dX12_tell_85 rfl 2 rfl ?_
    refine h_iconst (v := 3) dX12_tell_86 (by decide) ?_
    refine h_iadd dX12_tell_87 ?_
    refine h_iald dX12_tell_88 nl_91 zk_91 (by rw [zn_91]; exact k4 c1 c2) ?_
    refine h_iast dX12_tell_89 nl_93 zk_93 (by rw [zn_93]; exact k5 c1 c2) ?_
    exact h_vret dX12_tell_90 rfl (k6 c1 c2)
  by_cases c3 : (I 91 a.toNatClampNeg) = 2
  · refine h_tswIn (off := 76) (tgt := 91) 2 dX12_tell_15 (by rw [c3]; rfl) (by decide) (by decide) (by decide) (by decide) ?_
    refine h_aload_n dX12_tell_91 rfl 1 rfl ?_
    refine gf_10_8 dX12_tell_92 hl_X12_30 nl_87 zk_87 zp_87_8 ?_
    refine h_bipush (v := 6) dX12_tell_95 (by decide) ?_
    refine h_bipush (v := 6) dX12_tell_97 (by decide) ?_
    refine h_iload_n dX12_tell_99 rfl 0 rfl ?_
    refine h_imul dX12_tell_100 ?_
    refine h_iadd dX12_tell_101 ?_
    refine h_aload_n dX12_tell_102 rfl 1 rfl ?_
    refine gf_10_4 dX12_tell_103 hl_X12_20 nl_87 zk_87 zp_87_4 ?_
    refine h_iload_n dX12_tell_106 rfl 2 rfl ?_
    refine h_iconst (v := 3) dX12_tell_107 (by decide) ?_
    refine h_iadd dX12_tell_108 ?_
    refine h_iald dX12_tell_109 nl_91 zk_91 (by rw [zn_91]; exact k7 c1 c2 c3) ?_
    refine h_iadd dX12_tell_110 ?_
    refine h_aload_n dX12_tell_111 rfl 1 rfl ?_
    refine gf_10_4 dX12_tell_112 hl_X12_20 nl_87 zk_87 zp_87_4 ?_
    refine h_iload_n dX12_tell_115 rfl 2 rfl ?_
    refine h_iconst (v := 4) dX12_tell_116 (by decide) ?_
    refine h_iadd dX12_tell_117 ?_
    refine h_iald dX12_tell_118 nl_91 zk_91 (by rw [zn_91]; exact k8 c1 c2 c3) ?_
    refine h_iast dX12_tell_119 nl_93 zk_93 (by rw [zn_93]; exact k9 c1 c2 c3) ?_
    exact h_vret dX12_tell_120 rfl (k10 c1 c2 c3)
  by_cases c4 : (I 91 a.toNatClampNeg) = 3
  · refine h_tswIn (off := 124) (tgt := 139) 3 dX12_tell_15 (by rw [c4]; rfl) (by decide) (by decide) (by decide) (by decide) ?_
    refine h_aload_n dX12_tell_139 rfl 1 rfl ?_
    refine gf_10_9 dX12_tell_140 hl_X12_33 nl_87 zk_87 zp_87_9 ?_
    refine h_iload_n dX12_tell_143 rfl 0 rfl ?_
    refine h_aload_n dX12_tell_144 rfl 1 rfl ?_
    refine gf_10_4 dX12_tell_145 hl_X12_20 nl_87 zk_87 zp_87_4 ?_
    refine h_iload_n dX12_tell_148 rfl 2 rfl ?_
    refine h_iald dX12_tell_149 nl_91 zk_91 (by rw [zn_91]; exact k11 c1 c2 c3 c4) ?_
    refine h_iconst (v := 3) dX12_tell_150 (by decide) ?_
    refine h_isub dX12_tell_151 ?_
    refine h_iast dX12_tell_152 nl_94 zk_94 (by rw [zn_94]; exact k12 c1 c2 c3 c4) ?_
    refine h_aload_n dX12_tell_153 rfl 1 rfl ?_
    refine gf_10_10 dX12_tell_154 hl_X12_36 nl_87 zk_87 zp_87_10 ?_
    refine h_iload_n dX12_tell_157 rfl 0 rfl ?_
    refine h_aload_n dX12_tell_158 rfl 1 rfl ?_
    refine gf_10_4 dX12_tell_159 hl_X12_20 nl_87 zk_87 zp_87_4 ?_
    refine h_iload_n dX12_tell_162 rfl 2 rfl ?_
    refine h_iconst (v := 3) dX12_tell_163 (by decide) ?_
    refine h_iadd dX12_tell_164 ?_
    refine h_iald dX12_tell_165 nl_91 zk_91 (by rw [zn_91]; exact k13 c1 c2 c3 c4) ?_
    refine h_iast dX12_tell_166 nl_95 zk_95 (by rw [zn_95]; exact k12 c1 c2 c3 c4) ?_
    exact h_vret dX12_tell_167 rfl (k14 c1 c2 c3 c4)
  by_cases c5 : (I 91 a.toNatClampNeg) = 4
  · refine h_tswIn (off := 124) (tgt := 139) 4 dX12_tell_15 (by rw [c5]; rfl) (by decide) (by decide) (by decide) (by decide) ?_
    refine h_aload_n dX12_tell_139 rfl 1 rfl ?_
    refine gf_10_9 dX12_tell_140 hl_X12_33 nl_87 zk_87 zp_87_9 ?_
    refine h_iload_n dX12_tell_143 rfl 0 rfl ?_
    refine h_aload_n dX12_tell_144 rfl 1 rfl ?_
    refine gf_10_4 dX12_tell_145 hl_X12_20 nl_87 zk_87 zp_87_4 ?_
    refine h_iload_n dX12_tell_148 rfl 2 rfl ?_
    refine h_iald dX12_tell_149 nl_91 zk_91 (by rw [zn_91]; exact k15 c1 c2 c3 c4 c5) ?_
    refine h_iconst (v := 3) dX12_tell_150 (by decide) ?_
    refine h_isub dX12_tell_151 ?_
    refine h_iast dX12_tell_152 nl_94 zk_94 (by rw [zn_94]; exact k16 c1 c2 c3 c4 c5) ?_
    refine h_aload_n dX12_tell_153 rfl 1 rfl ?_
    refine gf_10_10 dX12_tell_154 hl_X12_36 nl_87 zk_87 zp_87_10 ?_
    refine h_iload_n dX12_tell_157 rfl 0 rfl ?_
    refine h_aload_n dX12_tell_158 rfl 1 rfl ?_
    refine gf_10_4 dX12_tell_159 hl_X12_20 nl_87 zk_87 zp_87_4 ?_
    refine h_iload_n dX12_tell_162 rfl 2 rfl ?_
    refine h_iconst (v := 3) dX12_tell_163 (by decide) ?_
    refine h_iadd dX12_tell_164 ?_
    refine h_iald dX12_tell_165 nl_91 zk_91 (by rw [zn_91]; exact k17 c1 c2 c3 c4 c5) ?_
    refine h_iast dX12_tell_166 nl_95 zk_95 (by rw [zn_95]; exact k16 c1 c2 c3 c4 c5) ?_
    exact h_vret dX12_tell_167 rfl (k18 c1 c2 c3 c4 c5)
  by_cases c6 : (I 91 a.toNatClampNeg) = 5
  · refine h_tswIn (off := 124) (tgt := 139) 5 dX12_tell_15 (by rw [c6]; rfl) (by decide) (by decide) (by decide) (by decide) ?_
    refine h_aload_n dX12_tell_139 rfl 1 rfl ?_
    refine gf_10_9 dX12_tell_140 hl_X12_33 nl_87 zk_87 zp_87_9 ?_
    refine h_iload_n dX12_tell_143 rfl 0 rfl ?_
    refine h_aload_n dX12_tell_144 rfl 1 rfl ?_
    refine gf_10_4 dX12_tell_145 hl_X12_20 nl_87 zk_87 zp_87_4 ?_
    refine h_iload_n dX12_tell_148 rfl 2 rfl ?_
    refine h_iald dX12_tell_149 nl_91 zk_91 (by rw [zn_91]; exact k19 c1 c2 c3 c4 c5 c6) ?_
    refine h_iconst (v := 3) dX12_tell_150 (by decide) ?_
    refine h_isub dX12_tell_151 ?_
    refine h_iast dX12_tell_152 nl_94 zk_94 (by rw [zn_94]; exact k20 c1 c2 c3 c4 c5 c6) ?_
    refine h_aload_n dX12_tell_153 rfl 1 rfl ?_
    refine gf_10_10 dX12_tell_154 hl_X12_36 nl_87 zk_87 zp_87_10 ?_
    refine h_iload_n dX12_tell_157 rfl 0 rfl ?_
    refine h_aload_n dX12_tell_158 rfl 1 rfl ?_
    refine gf_10_4 dX12_tell_159 hl_X12_20 nl_87 zk_87 zp_87_4 ?_
    refine h_iload_n dX12_tell_162 rfl 2 rfl ?_
    refine h_iconst (v := 3) dX12_tell_163 (by decide) ?_
    refine h_iadd dX12_tell_164 ?_
    refine h_iald dX12_tell_165 nl_91 zk_91 (by rw [zn_91]; exact k21 c1 c2 c3 c4 c5 c6) ?_
    refine h_iast dX12_tell_166 nl_95 zk_95 (by rw [zn_95]; exact k20 c1 c2 c3 c4 c5 c6) ?_
    exact h_vret dX12_tell_167 rfl (k22 c1 c2 c3 c4 c5 c6)
  by_cases c7 : (I 91 a.toNatClampNeg) = 6
  · refine h_tswIn (off := 124) (tgt := 139) 6 dX12_tell_15 (by rw [c7]; rfl) (by decide) (by decide) (by decide) (by decide) ?_
    refine h_aload_n dX12_tell_139 rfl 1 rfl ?_
    refine gf_10_9 dX12_tell_140 hl_X12_33 nl_87 zk_87 zp_87_9 ?_
    refine h_iload_n dX12_tell_143 rfl 0 rfl ?_
    refine h_aload_n dX12_tell_144 rfl 1 rfl ?_
    refine gf_10_4 dX12_tell_145 hl_X12_20 nl_87 zk_87 zp_87_4 ?_
    refine h_iload_n dX12_tell_148 rfl 2 rfl ?_
    refine h_iald dX12_tell_149 nl_91 zk_91 (by rw [zn_91]; exact k23 c1 c2 c3 c4 c5 c6 c7) ?_
    refine h_iconst (v := 3) dX12_tell_150 (by decide) ?_
    refine h_isub dX12_tell_151 ?_
    refine h_iast dX12_tell_152 nl_94 zk_94 (by rw [zn_94]; exact k24 c1 c2 c3 c4 c5 c6 c7) ?_
    refine h_aload_n dX12_tell_153 rfl 1 rfl ?_
    refine gf_10_10 dX12_tell_154 hl_X12_36 nl_87 zk_87 zp_87_10 ?_
    refine h_iload_n dX12_tell_157 rfl 0 rfl ?_
    refine h_aload_n dX12_tell_158 rfl 1 rfl ?_
    refine gf_10_4 dX12_tell_159 hl_X12_20 nl_87 zk_87 zp_87_4 ?_
    refine h_iload_n dX12_tell_162 rfl 2 rfl ?_
    refine h_iconst (v := 3) dX12_tell_163 (by decide) ?_
    refine h_iadd dX12_tell_164 ?_
    refine h_iald dX12_tell_165 nl_91 zk_91 (by rw [zn_91]; exact k25 c1 c2 c3 c4 c5 c6 c7) ?_
    refine h_iast dX12_tell_166 nl_95 zk_95 (by rw [zn_95]; exact k24 c1 c2 c3 c4 c5 c6 c7) ?_
    exact h_vret dX12_tell_167 rfl (k26 c1 c2 c3 c4 c5 c6 c7)
  by_cases c8 : (I 91 a.toNatClampNeg) = 7
  · refine h_tswIn (off := 106) (tgt := 121) 7 dX12_tell_15 (by rw [c8]; rfl) (by decide) (by decide) (by decide) (by decide) ?_
    refine h_aload_n dX12_tell_121 rfl 1 rfl ?_
    refine h_iload_n dX12_tell_122 rfl 2 rfl ?_
    refine h_pick [] [] rfl ?_
    refine h_invV (As := [.int a]) (st := []) dX12_tell_123 lk_X12_157 (h_room (by decide)) nl_87 zk_87 (by decide) rfl rfl rfl (Nat.le_of_ble_eq_true rfl) ?_
    exact k27 c1 c2 c3 c4 c5 c6 c7 c8
  by_cases c9 : (I 91 a.toNatClampNeg) = 8
  · refine h_tswIn (off := 112) (tgt := 127) 8 dX12_tell_15 (by rw [c9]; rfl) (by decide) (by decide) (by decide) (by decide) ?_
    refine h_aload_n dX12_tell_127 rfl 1 rfl ?_
    refine h_iload_n dX12_tell_128 rfl 0 rfl ?_
    refine pf_10_11 dX12_tell_129 hl_X12_160 nl_87 zk_87 ?_
    exact h_vret dX12_tell_132 rfl (k28 c1 c2 c3 c4 c5 c6 c7 c8 c9)
  by_cases c10 : (I 91 a.toNatClampNeg) = 9
  · refine h_tswIn (off := 118) (tgt := 133) 9 dX12_tell_15 (by rw [c10]; rfl) (by decide) (by decide) (by decide) (by decide) ?_
    refine h_aload_n dX12_tell_133 rfl 1 rfl ?_
    refine h_iconst (v := 0) dX12_tell_134 (by decide) ?_
    refine pf_10_13 dX12_tell_135 hl_X12_147 nl_87 zk_87 ?_
    exact h_vret dX12_tell_138 rfl (k29 c1 c2 c3 c4 c5 c6 c7 c8 c9 c10)
  refine h_tswOut (tgt := 139) dX12_tell_15 (tsw_out10 c1 c2 c3 c4 c5 c6 c7 c8 c9 c10) (by decide) ?_
  refine h_aload_n dX12_tell_139 rfl 1 rfl ?_
  refine gf_10_9 dX12_tell_140 hl_X12_33 nl_87 zk_87 zp_87_9 ?_
  refine h_iload_n dX12_tell_143 rfl 0 rfl ?_
  refine h_aload_n dX12_tell_144 rfl 1 rfl ?_
  refine gf_10_4 dX12_tell_145 hl_X12_20 nl_87 zk_87 zp_87_4 ?_
  refine h_iload_n dX12_tell_148 rfl 2 rfl ?_
  refine h_iald dX12_tell_149 nl_91 zk_91 (by rw [zn_91]; exact k30 c1 c2 c3 c4 c5 c6 c7 c8 c9 c10) ?_
  refine h_iconst (v := 3) dX12_tell_150 (by decide) ?_
  refine h_isub dX12_tell_151 ?_
  refine h_iast dX12_tell_152 nl_94 zk_94 (by rw [zn_94]; exact k31 c1 c2 c3 c4 c5 c6 c7 c8 c9 c10) ?_
  refine h_aload_n dX12_tell_153 rfl 1 rfl ?_
  refine gf_10_10 dX12_tell_154 hl_X12_36 nl_87 zk_87 zp_87_10 ?_
  refine h_iload_n dX12_tell_157 rfl 0 rfl ?_
  refine h_aload_n dX12_tell_158 rfl 1 rfl ?_
  refine gf_10_4 dX12_tell_159 hl_X12_20 nl_87 zk_87 zp_87_4 ?_
  refine h_iload_n dX12_tell_162 rfl 2 rfl ?_
  refine h_iconst (v := 3) dX12_tell_163 (by decide) ?_
  refine h_iadd dX12_tell_164 ?_
  refine h_iald dX12_tell_165 nl_91 zk_91 (by rw [zn_91]; exact k32 c1 c2 c3 c4 c5 c6 c7 c8 c9 c10) ?_
  refine h_iast dX12_tell_166 nl_95 zk_95 (by rw [zn_95]; exact k31 c1 c2 c3 c4 c5 c6 c7 c8 c9 c10) ?_
  exact h_vret dX12_tell_167 rfl (k33 c1 c2 c3 c4 c5 c6 c7 c8 c9 c10)
set_option maxHeartbeats 1000000 in
set_option maxRecDepth 20000 in
theorem sg_X12_tell_73 {E : HEn} {d : Nat} {Q : Option Value → HIh → Prop} {I : HIh} 
    (k1 : Q none I)
    : HGo E (mF E (d + 2) Q) me_X12_tell 73 [] [] I := by
  exact h_vret dX12_tell_73 rfl (k1)
set_option maxHeartbeats 1000000 in
set_option maxRecDepth 20000 in
theorem sg_X12_tell_126 {E : HEn} {d : Nat} {Q : Option Value → HIh → Prop} {I : HIh} 
    (k1 : Q none I)
    : HGo E (mF E (d + 2) Q) me_X12_tell 126 [] [] I := by
  exact h_vret dX12_tell_126 rfl (k1)
set_option maxHeartbeats 1000000 in
set_option maxRecDepth 20000 in
theorem sg_X12_person_0 {E : HEn} {d : Nat} {Q : Option Value → HIh → Prop} {I : HIh} {a : Int32} {b : Int32}
    (k1 : (0 : Int32) ≤ a → a < 4 → b = 0 → HCall E me_X12_worthOf (d + 2) [.ref 87, .int 0, .int a] I (fun v9 J => HGo E (mF E (d + 3) Q) me_X12_person 46 [] (v9.toList ++ []) J))
    (k2 : (0 : Int32) ≤ a → a < 4 → ¬ b = 0 → b = 1 → vp_in a 4)
    (k3 : (0 : Int32) ≤ a → a < 4 → ¬ b = 0 → b = 1 → Q (some (.int (I 94 a.toNatClampNeg))) I)
    (k4 : (0 : Int32) ≤ a → a < 4 → ¬ b = 0 → ¬ b = 1 → b = 2 → vp_in a 4)
    (k5 : (0 : Int32) ≤ a → a < 4 → ¬ b = 0 → ¬ b = 1 → b = 2 → ¬ (I 94 a.toNatClampNeg) = 2 → Q (some (.int (-1))) I)
    (k6 : (0 : Int32) ≤ a → a < 4 → ¬ b = 0 → ¬ b = 1 → b = 2 → (I 94 a.toNatClampNeg) = 2 → vp_in a 4)
    (k7 : (0 : Int32) ≤ a → a < 4 → ¬ b = 0 → ¬ b = 1 → b = 2 → (I 94 a.toNatClampNeg) = 2 → Q (some (.int (I 95 a.toNatClampNeg))) I)
    (k8 : (0 : Int32) ≤ a → a < 4 → ¬ b = 0 → ¬ b = 1 → ¬ b = 2 → b = 3 → HCall E me_X12_leftOf (d + 2) [.ref 87, .int ((1 : Int32) <<< (a &&& 31))] I (fun v9 J => HGo E (mF E (d + 3) Q) me_X12_person 82 [] (v9.toList ++ []) J))
    (k9 : (0 : Int32) ≤ a → a < 4 → ¬ b = 0 → ¬ b = 1 → ¬ b = 2 → ¬ b = 3 → Q (some (.int (-3))) I)
    (k10 : ¬ ((0 : Int32) ≤ a ∧ a < 4) → Q (some (.int (-2))) I)
    : HGo E (mF E (d + 3) Q) me_X12_person 0 [(0, .ref 87), (1, .int a), (2, .int b)] [] I := by
  refine h_iload_n dX12_person_0 rfl 1 rfl ?_
  refine h_invS (As := [.int a]) (st := []) dX12_person_1 lk_X12_180 (h_room (by decide)) rfl rfl (Nat.le_of_ble_eq_true rfl) ?_
  refine c_X12_isPerson (fun c1 c2 => ?_) (fun c3 => ?_)
  ·
    refine h_if_ne (tgt := 10) dX12_person_4 (by decide) (fun _ => ?_) (fun c => absurd c (by decide))
    refine h_iload_n dX12_person_10 rfl 2 rfl ?_
    by_cases c4 : b = 0
    · refine h_tswIn (off := 29) (tgt := 40) 0 dX12_person_11 (by rw [c4]; rfl) (by decide) (by decide) (by decide) (by decide) ?_
      refine h_aload_n dX12_person_40 rfl 0 rfl ?_
      refine h_iconst (v := 0) dX12_person_41 (by decide) ?_
      refine h_iload_n dX12_person_42 rfl 1 rfl ?_
      refine h_pick [] [] rfl ?_
      refine h_invV (As := [.int 0, .int a]) (st := []) dX12_person_43 lk_X12_186 (h_room (by decide)) nl_87 zk_87 (by decide) rfl rfl rfl (Nat.le_of_ble_eq_true rfl) ?_
      exact k1 c1 c2 c4
    by_cases c5 : b = 1
    · refine h_tswIn (off := 36) (tgt := 47) 1 dX12_person_11 (by rw [c5]; rfl) (by decide) (by decide) (by decide) (by decide) ?_
      refine h_aload_n dX12_person_47 rfl 0 rfl ?_
      refine gf_10_9 dX12_person_48 hl_X12_33 nl_87 zk_87 zp_87_9 ?_
      refine h_iload_n dX12_person_51 rfl 1 rfl ?_
      refine h_iald dX12_person_52 nl_94 zk_94 (by rw [zn_94]; exact k2 c1 c2 c4 c5) ?_
      exact h_iret dX12_person_53 rfl (k3 c1 c2 c4 c5)
    by_cases c6 : b = 2
    · refine h_tswIn (off := 43) (tgt := 54) 2 dX12_person_11 (by rw [c6]; rfl) (by decide) (by decide) (by decide) (by decide) ?_
      refine h_aload_n dX12_person_54 rfl 0 rfl ?_
      refine gf_10_9 dX12_person_55 hl_X12_33 nl_87 zk_87 zp_87_9 ?_
      refine h_iload_n dX12_person_58 rfl 1 rfl ?_
      refine h_iald dX12_person_59 nl_94 zk_94 (by rw [zn_94]; exact k4 c1 c2 c4 c5 c6) ?_
      refine h_iconst (v := 2) dX12_person_60 (by decide) ?_
      refine h_icmp_ne (tgt := 73) dX12_person_61 (by decide) (fun c7 => ?_) (fun c7 => ?_)
      ·
        refine h_iconst (v := (-1)) dX12_person_73 (by decide) ?_
        exact h_iret dX12_person_74 rfl (k5 c1 c2 c4 c5 c6 c7)
      ·
        refine h_aload_n dX12_person_64 rfl 0 rfl ?_
        refine gf_10_10 dX12_person_65 hl_X12_36 nl_87 zk_87 zp_87_10 ?_
        refine h_iload_n dX12_person_68 rfl 1 rfl ?_
        refine h_iald dX12_person_69 nl_95 zk_95 (by rw [zn_95]; exact k6 c1 c2 c4 c5 c6 c7) ?_
        refine h_goto (tgt := 74) dX12_person_70 (by decide) ?_
        exact h_iret dX12_person_74 rfl (k7 c1 c2 c4 c5 c6 c7)
    by_cases c8 : b = 3
    · refine h_tswIn (off := 64) (tgt := 75) 3 dX12_person_11 (by rw [c8]; rfl) (by decide) (by decide) (by decide) (by decide) ?_
      refine h_aload_n dX12_person_75 rfl 0 rfl ?_
      refine h_iconst (v := 1) dX12_person_76 (by decide) ?_
      refine h_iload_n dX12_person_77 rfl 1 rfl ?_
      refine h_ishl dX12_person_78 ?_
      refine h_pick [] [] rfl ?_
      refine h_invV (As := [.int ((1 : Int32) <<< (a &&& 31))]) (st := []) dX12_person_79 lk_X12_190 (h_room (by decide)) nl_87 zk_87 (by decide) rfl rfl rfl (Nat.le_of_ble_eq_true rfl) ?_
      exact k8 c1 c2 c4 c5 c6 c8
    refine h_tswOut (tgt := 83) dX12_person_11 (tsw_out4 c4 c5 c6 c8) (by decide) ?_
    refine h_bipush (v := (-3)) dX12_person_83 (by decide) ?_
    exact h_iret dX12_person_85 rfl (k9 c1 c2 c4 c5 c6 c8)
  ·
    refine h_if_ne (tgt := 10) dX12_person_4 (by decide) (fun c => absurd c (by decide)) (fun _ => ?_)
    refine h_bipush (v := (-2)) dX12_person_7 (by decide) ?_
    exact h_iret dX12_person_9 rfl (k10 c3)
set_option maxHeartbeats 1000000 in
set_option maxRecDepth 20000 in
theorem sg_X12_person_46 {E : HEn} {d : Nat} {Q : Option Value → HIh → Prop} {I : HIh} {s0 : Int32}
    (k1 : Q (some (.int s0)) I)
    : HGo E (mF E (d + 3) Q) me_X12_person 46 [] [.int s0] I := by
  exact h_iret dX12_person_46 rfl (k1)
set_option maxHeartbeats 1000000 in
set_option maxRecDepth 20000 in
theorem sg_X12_person_82 {E : HEn} {d : Nat} {Q : Option Value → HIh → Prop} {I : HIh} {s0 : Int32}
    (k1 : Q (some (.int s0)) I)
    : HGo E (mF E (d + 3) Q) me_X12_person 82 [] [.int s0] I := by
  exact h_iret dX12_person_82 rfl (k1)
set_option maxHeartbeats 1000000 in
set_option maxRecDepth 20000 in
theorem sg_X12_gainOf_0 {E : HEn} {d : Nat} {Q : Option Value → HIh → Prop} {I : HIh} {a : Int32} {b : Int32}
    (k1 : HCall E me_X12_layTakes (d + 1) [.ref 87, .int a, .int b] I (fun v9 J => HGo E (mF E (d + 2) Q) me_X12_gainOf 6 [(0, .ref 87), (2, .int b)] (v9.toList ++ []) J))
    : HGo E (mF E (d + 2) Q) me_X12_gainOf 0 [(0, .ref 87), (1, .int a), (2, .int b)] [] I := by
  refine h_aload_n dX12_gainOf_0 rfl 0 rfl ?_
  refine h_iload_n dX12_gainOf_1 rfl 1 rfl ?_
  refine h_iload_n dX12_gainOf_2 rfl 2 rfl ?_
  refine h_pick [0, 2] [(0, .ref 87), (2, .int b)] rfl ?_
  refine h_invV (As := [.int a, .int b]) (st := []) dX12_gainOf_3 lk_X12_193 (h_room (by decide)) nl_87 zk_87 (by decide) rfl rfl rfl (Nat.le_of_ble_eq_true rfl) ?_
  exact k1
set_option maxHeartbeats 1000000 in
set_option maxRecDepth 20000 in
theorem sg_X12_gainOf_6 {E : HEn} {d : Nat} {Q : Option Value → HIh → Prop} {I : HIh} {x2 : Int32} {s0 : Int32}
    (k1 : vp_in x2 6)
    (k2 : Q (some (.int (s0 - (I 92 x2.toNatClampNeg)))) I)
    : HGo E (mF E (d + 2) Q) me_X12_gainOf 6 [(0, .ref 87), (2, .int x2)] [.int s0] I := by
  refine h_aload_n dX12_gainOf_6 rfl 0 rfl ?_
  refine gf_10_7 dX12_gainOf_7 hl_X12_27 nl_87 zk_87 zp_87_7 ?_
  refine h_iload_n dX12_gainOf_10 rfl 1 rfl ?_
  refine h_iald dX12_gainOf_11 nl_92 zk_92 (by rw [zn_92]; exact k1) ?_
  refine h_isub dX12_gainOf_12 ?_
  exact h_iret dX12_gainOf_13 rfl (k2)
set_option maxHeartbeats 1000000 in
set_option maxRecDepth 20000 in
theorem sg_X12_throwsOne_0 {E : HEn} {d : Nat} {Q : Option Value → HIh → Prop} {I : HIh} {a : Int32} {b : Int32} {e : Int32}
    (k1 : HCall E me_X12_layTakes (d + 1) [.ref 87, .int a, .int e] I (fun v9 J => HGo E (mF E (d + 2) Q) me_X12_throwsOne 6 [(0, .ref 87), (1, .int a), (2, .int b), (3, .int e)] (v9.toList ++ []) J))
    : HGo E (mF E (d + 2) Q) me_X12_throwsOne 0 [(0, .ref 87), (1, .int a), (2, .int b), (3, .int e)] [] I := by
  refine h_aload_n dX12_throwsOne_0 rfl 0 rfl ?_
  refine h_iload_n dX12_throwsOne_1 rfl 1 rfl ?_
  refine h_iload_n dX12_throwsOne_2 rfl 3 rfl ?_
  refine h_invV (As := [.int a, .int e]) (st := []) dX12_throwsOne_3 lk_X12_193 (h_room (by decide)) nl_87 zk_87 (by decide) rfl rfl rfl (Nat.le_of_ble_eq_true rfl) ?_
  exact k1
set_option maxHeartbeats 1000000 in
set_option maxRecDepth 20000 in
theorem sg_X12_throwsOne_6 {E : HEn} {d : Nat} {Q : Option Value → HIh → Prop} {I : HIh} {x1 : Int32} {x2 : Int32} {x3 : Int32} {s0 : Int32}
    (k1 : HGo E (mF E (d + 2) Q) me_X12_throwsOne 10 [(0, .ref 87), (1, .int x1), (2, .int x2), (3, .int x3), (4, .int 0)] [] I)
    : HGo E (mF E (d + 2) Q) me_X12_throwsOne 6 [(0, .ref 87), (1, .int x1), (2, .int x2), (3, .int x3)] [.int s0] I := by
  refine h_pop dX12_throwsOne_6 rfl ?_
  refine h_iconst (v := 0) dX12_throwsOne_7 (by decide) ?_
  refine h_istore (L' := [(4, .int 0), (0, .ref 87), (1, .int x1), (2, .int x2), (3, .int x3)]) dX12_throwsOne_8 (by decide) rfl ?_
  refine h_pick [1, 2, 3, 4, 0] [(0, .ref 87), (1, .int x1), (2, .int x2), (3, .int x3), (4, .int 0)] rfl ?_
  exact k1
set_option maxHeartbeats 1000000 in
set_option maxRecDepth 20000 in
theorem sg_X12_throwsOne_10 {E : HEn} {d : Nat} {Q : Option Value → HIh → Prop} {I : HIh} {x1 : Int32} {x2 : Int32} {x3 : Int32} {x4 : Int32}
    (k1 : (I 87 6) ≤ x4 → vp_in ((x1 + 0) + x3) 341)
    (k2 : (I 87 6) ≤ x4 → vp_in (((x1 + 6) + (6 * x2)) + x3) 341)
    (k3 : (I 87 6) ≤ x4 → Q none (setI (setI I 88 (upd (I 88) ((x1 + 0) + x3).toNatClampNeg ((I 88 (((x1 + 0) + x3).toNatClampNeg)) + 1))) 88 (upd (upd (I 88) ((x1 + 0) + x3).toNatClampNeg ((I 88 (((x1 + 0) + x3).toNatClampNeg)) + 1)) (((x1 + 6) + (6 * x2)) + x3).toNatClampNeg (((upd (I 88) ((x1 + 0) + x3).toNatClampNeg ((I 88 (((x1 + 0) + x3).toNatClampNeg)) + 1)) ((((x1 + 6) + (6 * x2)) + x3).toNatClampNeg)) - 1))))
    (k4 : ¬ (I 87 6) ≤ x4 → vp_in ((x1 + 0) + x4) 341)
    (k5 : ¬ (I 87 6) ≤ x4 → vp_in x4 6)
    (k6 : ¬ (I 87 6) ≤ x4 → vp_in (((x1 + 6) + (6 * x2)) + x4) 341)
    (k7 : ¬ (I 87 6) ≤ x4 → HGo E (mF E (d + 2) Q) me_X12_throwsOne 10 [(0, .ref 87), (1, .int x1), (2, .int x2), (3, .int x3), (4, .int (x4 + 1))] [] (setI (setI I 88 (upd (I 88) ((x1 + 0) + x4).toNatClampNeg ((I 88 (((x1 + 0) + x4).toNatClampNeg)) - (I 97 x4.toNatClampNeg)))) 88 (upd (upd (I 88) ((x1 + 0) + x4).toNatClampNeg ((I 88 (((x1 + 0) + x4).toNatClampNeg)) - (I 97 x4.toNatClampNeg))) (((x1 + 6) + (6 * x2)) + x4).toNatClampNeg (((upd (I 88) ((x1 + 0) + x4).toNatClampNeg ((I 88 (((x1 + 0) + x4).toNatClampNeg)) - (I 97 x4.toNatClampNeg))) ((((x1 + 6) + (6 * x2)) + x4).toNatClampNeg)) + (I 97 x4.toNatClampNeg)))))
    : HGo E (mF E (d + 2) Q) me_X12_throwsOne 10 [(0, .ref 87), (1, .int x1), (2, .int x2), (3, .int x3), (4, .int x4)] [] I := by
  refine h_iload dX12_throwsOne_10 4 rfl ?_
  refine h_aload_n dX12_throwsOne_12 rfl 0 rfl ?_
  refine gf_10_6 dX12_throwsOne_13 hl_X12_23 nl_87 zk_87 ?_
  refine h_icmp_ge (tgt := 73) dX12_throwsOne_16 (by decide) (fun c1 => ?_) (fun c1 => ?_)
  ·
    refine h_aload_n dX12_throwsOne_73 rfl 0 rfl ?_
    refine gf_10_0 dX12_throwsOne_74 hl_X12_7 nl_87 zk_87 zp_87_0 ?_
    refine h_iload_n dX12_throwsOne_77 rfl 1 rfl ?_
    refine h_iconst (v := 0) dX12_throwsOne_78 (by decide) ?_
    refine h_iadd dX12_throwsOne_79 ?_
    refine h_iload_n dX12_throwsOne_80 rfl 3 rfl ?_
    refine h_iadd dX12_throwsOne_81 ?_
    refine h_dup2 dX12_throwsOne_82 rfl rfl ?_
    refine h_iald dX12_throwsOne_83 nl_88 zk_88 (by rw [zn_88]; exact k1 c1) ?_
    refine h_iconst (v := 1) dX12_throwsOne_84 (by decide) ?_
    refine h_iadd dX12_throwsOne_85 ?_
    refine h_iast dX12_throwsOne_86 nl_88 zk_88 (by rw [zn_88]; exact k1 c1) ?_
    refine h_aload_n dX12_throwsOne_87 rfl 0 rfl ?_
    refine gf_10_0 dX12_throwsOne_88 hl_X12_7 nl_87 zk_87 zp_87_0 ?_
    refine h_iload_n dX12_throwsOne_91 rfl 1 rfl ?_
    refine h_bipush (v := 6) dX12_throwsOne_92 (by decide) ?_
    refine h_iadd dX12_throwsOne_94 ?_
    refine h_bipush (v := 6) dX12_throwsOne_95 (by decide) ?_
    refine h_iload_n dX12_throwsOne_97 rfl 2 rfl ?_
    refine h_imul dX12_throwsOne_98 ?_
    refine h_iadd dX12_throwsOne_99 ?_
    refine h_iload_n dX12_throwsOne_100 rfl 3 rfl ?_
    refine h_iadd dX12_throwsOne_101 ?_
    refine h_dup2 dX12_throwsOne_102 rfl rfl ?_
    refine h_iald dX12_throwsOne_103 nl_88 zk_88 (by rw [zn_88]; exact k2 c1) ?_
    refine h_iconst (v := 1) dX12_throwsOne_104 (by decide) ?_
    refine h_isub dX12_throwsOne_105 ?_
    refine h_iast dX12_throwsOne_106 nl_88 zk_88 (by rw [zn_88]; exact k2 c1) ?_
    exact h_vret dX12_throwsOne_107 rfl (k3 c1)
  ·
    refine h_aload_n dX12_throwsOne_19 rfl 0 rfl ?_
    refine gf_10_0 dX12_throwsOne_20 hl_X12_7 nl_87 zk_87 zp_87_0 ?_
    refine h_iload_n dX12_throwsOne_23 rfl 1 rfl ?_
    refine h_iconst (v := 0) dX12_throwsOne_24 (by decide) ?_
    refine h_iadd dX12_throwsOne_25 ?_
    refine h_iload dX12_throwsOne_26 4 rfl ?_
    refine h_iadd dX12_throwsOne_28 ?_
    refine h_dup2 dX12_throwsOne_29 rfl rfl ?_
    refine h_iald dX12_throwsOne_30 nl_88 zk_88 (by rw [zn_88]; exact k4 c1) ?_
    refine h_aload_n dX12_throwsOne_31 rfl 0 rfl ?_
    refine gf_10_19 dX12_throwsOne_32 hl_X12_42 nl_87 zk_87 zp_87_19 ?_
    refine h_iload dX12_throwsOne_35 4 rfl ?_
    refine h_iald dX12_throwsOne_37 nl_97 zk_97 (by rw [zn_97]; exact k5 c1) ?_
    refine h_isub dX12_throwsOne_38 ?_
    refine h_iast dX12_throwsOne_39 nl_88 zk_88 (by rw [zn_88]; exact k4 c1) ?_
    refine h_aload_n dX12_throwsOne_40 rfl 0 rfl ?_
    refine gf_10_0 dX12_throwsOne_41 hl_X12_7 nl_87 zk_87 zp_87_0 ?_
    refine h_iload_n dX12_throwsOne_44 rfl 1 rfl ?_
    refine h_bipush (v := 6) dX12_throwsOne_45 (by decide) ?_
    refine h_iadd dX12_throwsOne_47 ?_
    refine h_bipush (v := 6) dX12_throwsOne_48 (by decide) ?_
    refine h_iload_n dX12_throwsOne_50 rfl 2 rfl ?_
    refine h_imul dX12_throwsOne_51 ?_
    refine h_iadd dX12_throwsOne_52 ?_
    refine h_iload dX12_throwsOne_53 4 rfl ?_
    refine h_iadd dX12_throwsOne_55 ?_
    refine h_dup2 dX12_throwsOne_56 rfl rfl ?_
    refine h_iald dX12_throwsOne_57 nl_88 zk_88 (by rw [zn_88]; exact k6 c1) ?_
    refine h_aload_n dX12_throwsOne_58 rfl 0 rfl ?_
    refine gf_10_19 dX12_throwsOne_59 hl_X12_42 nl_87 zk_87 zp_87_19 ?_
    refine h_iload dX12_throwsOne_62 4 rfl ?_
    refine h_iald dX12_throwsOne_64 nl_97 zk_97 (by rw [zn_97]; exact k5 c1) ?_
    refine h_iadd dX12_throwsOne_65 ?_
    refine h_iast dX12_throwsOne_66 nl_88 zk_88 (by rw [zn_88]; exact k6 c1) ?_
    refine h_iinc (v := (x4 + 1)) (L' := [(4, .int (x4 + 1)), (0, .ref 87), (1, .int x1), (2, .int x2), (3, .int x3)]) dX12_throwsOne_67 4 rfl rfl (by decide) rfl ?_
    refine h_goto (tgt := 10) dX12_throwsOne_70 (by decide) ?_
    refine h_pick [1, 2, 3, 4, 0] [(0, .ref 87), (1, .int x1), (2, .int x2), (3, .int x3), (4, .int (x4 + 1))] rfl ?_
    exact k7 c1
set_option maxHeartbeats 1000000 in
set_option maxRecDepth 20000 in
theorem sg_X12_isSo_0 {E : HEn} {d : Nat} {Q : Option Value → HIh → Prop} {I : HIh} {a : Int32}
    (k1 : HGo E (mF E (d + 2) Q) me_X12_isSo 5 [(0, .ref 87), (1, .int a), (2, .int 93), (3, .int 0)] [] I)
    : HGo E (mF E (d + 2) Q) me_X12_isSo 0 [(0, .ref 87), (1, .int a)] [] I := by
  refine h_bipush (v := 93) dX12_isSo_0 (by decide) ?_
  refine h_istore_n (L' := [(2, .int 93), (0, .ref 87), (1, .int a)]) dX12_isSo_2 rfl (by decide) rfl ?_
  refine h_iconst (v := 0) dX12_isSo_3 (by decide) ?_
  refine h_istore_n (L' := [(3, .int 0), (2, .int 93), (0, .ref 87), (1, .int a)]) dX12_isSo_4 rfl (by decide) rfl ?_
  refine h_pick [2, 3, 1, 0] [(0, .ref 87), (1, .int a), (2, .int 93), (3, .int 0)] rfl ?_
  exact k1
set_option maxHeartbeats 1000000 in
set_option maxRecDepth 20000 in
theorem sg_X12_isSo_5 {E : HEn} {d : Nat} {Q : Option Value → HIh → Prop} {I : HIh} {x1 : Int32} {x2 : Int32} {x3 : Int32}
    (k1 : (I 87 6) ≤ x3 → HGo E (mF E (d + 2) Q) me_X12_isSo 40 [(0, .ref 87), (2, .int x2), (3, .int 1), (4, .int 0)] [] I)
    (k2 : ¬ (I 87 6) ≤ x3 → vp_in ((x2 + 0) + x3) 341)
    (k3 : ¬ (I 87 6) ≤ x3 → HGo E (mF E (d + 2) Q) me_X12_isSo 5 [(0, .ref 87), (1, .int x1), (2, .int x2), (3, .int (x3 + 1))] [] (setI I 88 (upd (I 88) ((x2 + 0) + x3).toNatClampNeg ((x1 >>> ((2 * (((I 87 6) - 1) - x3)) &&& 31)) &&& 3))))
    : HGo E (mF E (d + 2) Q) me_X12_isSo 5 [(0, .ref 87), (1, .int x1), (2, .int x2), (3, .int x3)] [] I := by
  refine h_iload_n dX12_isSo_5 rfl 3 rfl ?_
  refine h_aload_n dX12_isSo_6 rfl 0 rfl ?_
  refine gf_10_6 dX12_isSo_7 hl_X12_23 nl_87 zk_87 ?_
  refine h_icmp_ge (tgt := 35) dX12_isSo_10 (by decide) (fun c1 => ?_) (fun c1 => ?_)
  ·
    refine h_iconst (v := 1) dX12_isSo_35 (by decide) ?_
    refine h_istore_n (L' := [(3, .int 1), (0, .ref 87), (1, .int x1), (2, .int x2)]) dX12_isSo_36 rfl (by decide) rfl ?_
    refine h_iconst (v := 0) dX12_isSo_37 (by decide) ?_
    refine h_istore (L' := [(4, .int 0), (3, .int 1), (0, .ref 87), (1, .int x1), (2, .int x2)]) dX12_isSo_38 (by decide) rfl ?_
    refine h_pick [2, 4, 1, 0] [(0, .ref 87), (2, .int x2), (3, .int 1), (4, .int 0)] rfl ?_
    exact k1 c1
  ·
    refine h_aload_n dX12_isSo_13 rfl 0 rfl ?_
    refine gf_10_0 dX12_isSo_14 hl_X12_7 nl_87 zk_87 zp_87_0 ?_
    refine h_iload_n dX12_isSo_17 rfl 2 rfl ?_
    refine h_iconst (v := 0) dX12_isSo_18 (by decide) ?_
    refine h_iadd dX12_isSo_19 ?_
    refine h_iload_n dX12_isSo_20 rfl 3 rfl ?_
    refine h_iadd dX12_isSo_21 ?_
    refine h_aload_n dX12_isSo_22 rfl 0 rfl ?_
    refine h_iload_n dX12_isSo_23 rfl 1 rfl ?_
    refine h_iload_n dX12_isSo_24 rfl 3 rfl ?_
    refine h_invV (As := [.int x1, .int x3]) (st := [.int ((x2 + 0) + x3), .ref 88]) dX12_isSo_25 lk_X12_267 (h_room (by decide)) nl_87 zk_87 (by decide) rfl rfl rfl (Nat.le_of_ble_eq_true rfl) ?_
    refine c_X12_layOf ?_
    refine h_iast dX12_isSo_28 nl_88 zk_88 (by rw [zn_88]; exact k2 c1) ?_
    refine h_iinc (v := (x3 + 1)) (L' := [(3, .int (x3 + 1)), (0, .ref 87), (1, .int x1), (2, .int x2)]) dX12_isSo_29 3 rfl rfl (by decide) rfl ?_
    refine h_goto (tgt := 5) dX12_isSo_32 (by decide) ?_
    refine h_pick [1, 2, 3, 0] [(0, .ref 87), (1, .int x1), (2, .int x2), (3, .int (x3 + 1))] rfl ?_
    exact k3 c1
set_option maxHeartbeats 1000000 in
set_option maxRecDepth 20000 in
theorem sg_X12_isSo_40 {E : HEn} {d : Nat} {Q : Option Value → HIh → Prop} {I : HIh} {x2 : Int32} {x3 : Int32} {x4 : Int32}
    (k1 : (I 87 27) ≤ x4 → vp_nar .boolean x3 = x3)
    (k2 : (I 87 27) ≤ x4 → Q (some (.int x3)) I)
    (k3 : ¬ (I 87 27) ≤ x4 → x3 = 0 → vp_nar .boolean x3 = x3)
    (k4 : ¬ (I 87 27) ≤ x4 → x3 = 0 → Q (some (.int x3)) I)
    (k5 : ¬ (I 87 27) ≤ x4 → ¬ x3 = 0 → vp_in x4 6)
    (k6 : ¬ (I 87 27) ≤ x4 → ¬ x3 = 0 → HCall E me_X12_layTakes (d + 1) [.ref 87, .int x2, .int (I 101 x4.toNatClampNeg)] I (fun v9 J => HGo E (mF E (d + 2) Q) me_X12_isSo 65 [(0, .ref 87), (2, .int x2), (4, .int x4)] (v9.toList ++ []) J))
    : HGo E (mF E (d + 2) Q) me_X12_isSo 40 [(0, .ref 87), (2, .int x2), (3, .int x3), (4, .int x4)] [] I := by
  refine h_iload dX12_isSo_40 3 rfl ?_
  refine h_aload_n dX12_isSo_42 rfl 0 rfl ?_
  refine gf_10_27 dX12_isSo_43 hl_X12_172 nl_87 zk_87 ?_
  refine h_icmp_ge (tgt := 146) dX12_isSo_46 (by decide) (fun c1 => ?_) (fun c1 => ?_)
  ·
    refine h_iload_n dX12_isSo_146 rfl 2 rfl ?_
    exact h_zret dX12_isSo_147 rfl (k1 c1) (k2 c1)
  ·
    refine h_iload_n dX12_isSo_49 rfl 2 rfl ?_
    refine h_if_eq (tgt := 146) dX12_isSo_50 (by decide) (fun c2 => ?_) (fun c2 => ?_)
    ·
      refine h_iload_n dX12_isSo_146 rfl 2 rfl ?_
      exact h_zret dX12_isSo_147 rfl (k3 c1 c2) (k4 c1 c2)
    ·
      refine h_aload_n dX12_isSo_53 rfl 0 rfl ?_
      refine h_iload_n dX12_isSo_54 rfl 1 rfl ?_
      refine h_aload_n dX12_isSo_55 rfl 0 rfl ?_
      refine gf_10_25 dX12_isSo_56 hl_X12_54 nl_87 zk_87 zp_87_25 ?_
      refine h_iload dX12_isSo_59 3 rfl ?_
      refine h_iald dX12_isSo_61 nl_101 zk_101 (by rw [zn_101]; exact k5 c1 c2) ?_
      refine h_pick [0, 1, 3] [(0, .ref 87), (2, .int x2), (4, .int x4)] rfl ?_
      refine h_invV (As := [.int x2, .int (I 101 x4.toNatClampNeg)]) (st := []) dX12_isSo_62 lk_X12_193 (h_room (by decide)) nl_87 zk_87 (by decide) rfl rfl rfl (Nat.le_of_ble_eq_true rfl) ?_
      exact k6 c1 c2
set_option maxHeartbeats 1000000 in
set_option maxRecDepth 20000 in
theorem sg_X12_isSo_65 {E : HEn} {d : Nat} {Q : Option Value → HIh → Prop} {I : HIh} {x2 : Int32} {x4 : Int32} {s0 : Int32}
    (k1 : vp_in x4 6)
    (k2 : ¬ s0 = (I 102 x4.toNatClampNeg) → HGo E (mF E (d + 2) Q) me_X12_isSo 84 [(0, .ref 87), (2, .int x2), (3, .int 0), (4, .int x4), (5, .int 0)] [] I)
    (k3 : s0 = (I 102 x4.toNatClampNeg) → HGo E (mF E (d + 2) Q) me_X12_isSo 84 [(0, .ref 87), (2, .int x2), (3, .int 1), (4, .int x4), (5, .int 0)] [] I)
    : HGo E (mF E (d + 2) Q) me_X12_isSo 65 [(0, .ref 87), (2, .int x2), (4, .int x4)] [.int s0] I := by
  refine h_aload_n dX12_isSo_65 rfl 0 rfl ?_
  refine gf_10_26 dX12_isSo_66 hl_X12_57 nl_87 zk_87 zp_87_26 ?_
  refine h_iload dX12_isSo_69 2 rfl ?_
  refine h_iald dX12_isSo_71 nl_102 zk_102 (by rw [zn_102]; exact k1) ?_
  refine h_icmp_ne (tgt := 79) dX12_isSo_72 (by decide) (fun c1 => ?_) (fun c1 => ?_)
  ·
    refine h_iconst (v := 0) dX12_isSo_79 (by decide) ?_
    refine h_istore_n (L' := [(3, .int 0), (0, .ref 87), (2, .int x2), (4, .int x4)]) dX12_isSo_80 rfl (by decide) rfl ?_
    refine h_iconst (v := 0) dX12_isSo_81 (by decide) ?_
    refine h_istore (L' := [(5, .int 0), (3, .int 0), (0, .ref 87), (2, .int x2), (4, .int x4)]) dX12_isSo_82 (by decide) rfl ?_
    refine h_pick [2, 3, 1, 4, 0] [(0, .ref 87), (2, .int x2), (3, .int 0), (4, .int x4), (5, .int 0)] rfl ?_
    exact k2 c1
  ·
    refine h_iconst (v := 1) dX12_isSo_75 (by decide) ?_
    refine h_goto (tgt := 80) dX12_isSo_76 (by decide) ?_
    refine h_istore_n (L' := [(3, .int 1), (0, .ref 87), (2, .int x2), (4, .int x4)]) dX12_isSo_80 rfl (by decide) rfl ?_
    refine h_iconst (v := 0) dX12_isSo_81 (by decide) ?_
    refine h_istore (L' := [(5, .int 0), (3, .int 1), (0, .ref 87), (2, .int x2), (4, .int x4)]) dX12_isSo_82 (by decide) rfl ?_
    refine h_pick [2, 3, 1, 4, 0] [(0, .ref 87), (2, .int x2), (3, .int 1), (4, .int x4), (5, .int 0)] rfl ?_
    exact k3 c1
set_option maxHeartbeats 1000000 in
set_option maxRecDepth 20000 in
theorem sg_X12_isSo_84 {E : HEn} {d : Nat} {Q : Option Value → HIh → Prop} {I : HIh} {x2 : Int32} {x3 : Int32} {x4 : Int32} {x5 : Int32}
    (k1 : (I 87 6) ≤ x5 → vp_in x4 6)
    (k2 : (I 87 6) ≤ x5 → vp_in ((x2 + 0) + (I 101 x4.toNatClampNeg)) 341)
    (k3 : (I 87 6) ≤ x5 → HGo E (mF E (d + 2) Q) me_X12_isSo 40 [(0, .ref 87), (2, .int x2), (3, .int x3), (4, .int (x4 + 1))] [] (setI I 88 (upd (I 88) ((x2 + 0) + (I 101 x4.toNatClampNeg)).toNatClampNeg ((I 88 (((x2 + 0) + (I 101 x4.toNatClampNeg)).toNatClampNeg)) + 1))))
    (k4 : ¬ (I 87 6) ≤ x5 → vp_in ((x2 + 0) + x5) 341)
    (k5 : ¬ (I 87 6) ≤ x5 → vp_in x5 6)
    (k6 : ¬ (I 87 6) ≤ x5 → HGo E (mF E (d + 2) Q) me_X12_isSo 84 [(0, .ref 87), (2, .int x2), (3, .int x3), (4, .int x4), (5, .int (x5 + 1))] [] (setI I 88 (upd (I 88) ((x2 + 0) + x5).toNatClampNeg ((I 88 (((x2 + 0) + x5).toNatClampNeg)) - (I 97 x5.toNatClampNeg)))))
    : HGo E (mF E (d + 2) Q) me_X12_isSo 84 [(0, .ref 87), (2, .int x2), (3, .int x3), (4, .int x4), (5, .int x5)] [] I := by
  refine h_iload dX12_isSo_84 4 rfl ?_
  refine h_aload_n dX12_isSo_86 rfl 0 rfl ?_
  refine gf_10_6 dX12_isSo_87 hl_X12_23 nl_87 zk_87 ?_
  refine h_icmp_ge (tgt := 120) dX12_isSo_90 (by decide) (fun c1 => ?_) (fun c1 => ?_)
  ·
    refine h_aload_n dX12_isSo_120 rfl 0 rfl ?_
    refine gf_10_0 dX12_isSo_121 hl_X12_7 nl_87 zk_87 zp_87_0 ?_
    refine h_iload_n dX12_isSo_124 rfl 1 rfl ?_
    refine h_iconst (v := 0) dX12_isSo_125 (by decide) ?_
    refine h_iadd dX12_isSo_126 ?_
    refine h_aload_n dX12_isSo_127 rfl 0 rfl ?_
    refine gf_10_25 dX12_isSo_128 hl_X12_54 nl_87 zk_87 zp_87_25 ?_
    refine h_iload dX12_isSo_131 3 rfl ?_
    refine h_iald dX12_isSo_133 nl_101 zk_101 (by rw [zn_101]; exact k1 c1) ?_
    refine h_iadd dX12_isSo_134 ?_
    refine h_dup2 dX12_isSo_135 rfl rfl ?_
    refine h_iald dX12_isSo_136 nl_88 zk_88 (by rw [zn_88]; exact k2 c1) ?_
    refine h_iconst (v := 1) dX12_isSo_137 (by decide) ?_
    refine h_iadd dX12_isSo_138 ?_
    refine h_iast dX12_isSo_139 nl_88 zk_88 (by rw [zn_88]; exact k2 c1) ?_
    refine h_iinc (v := (x4 + 1)) (L' := [(4, .int (x4 + 1)), (0, .ref 87), (2, .int x2), (3, .int x3), (5, .int x5)]) dX12_isSo_140 3 rfl rfl (by decide) rfl ?_
    refine h_goto (tgt := 40) dX12_isSo_143 (by decide) ?_
    refine h_pick [1, 2, 3, 0] [(0, .ref 87), (2, .int x2), (3, .int x3), (4, .int (x4 + 1))] rfl ?_
    exact k3 c1
  ·
    refine h_aload_n dX12_isSo_93 rfl 0 rfl ?_
    refine gf_10_0 dX12_isSo_94 hl_X12_7 nl_87 zk_87 zp_87_0 ?_
    refine h_iload_n dX12_isSo_97 rfl 1 rfl ?_
    refine h_iconst (v := 0) dX12_isSo_98 (by decide) ?_
    refine h_iadd dX12_isSo_99 ?_
    refine h_iload dX12_isSo_100 4 rfl ?_
    refine h_iadd dX12_isSo_102 ?_
    refine h_dup2 dX12_isSo_103 rfl rfl ?_
    refine h_iald dX12_isSo_104 nl_88 zk_88 (by rw [zn_88]; exact k4 c1) ?_
    refine h_aload_n dX12_isSo_105 rfl 0 rfl ?_
    refine gf_10_19 dX12_isSo_106 hl_X12_42 nl_87 zk_87 zp_87_19 ?_
    refine h_iload dX12_isSo_109 4 rfl ?_
    refine h_iald dX12_isSo_111 nl_97 zk_97 (by rw [zn_97]; exact k5 c1) ?_
    refine h_isub dX12_isSo_112 ?_
    refine h_iast dX12_isSo_113 nl_88 zk_88 (by rw [zn_88]; exact k4 c1) ?_
    refine h_iinc (v := (x5 + 1)) (L' := [(5, .int (x5 + 1)), (0, .ref 87), (2, .int x2), (3, .int x3), (4, .int x4)]) dX12_isSo_114 4 rfl rfl (by decide) rfl ?_
    refine h_goto (tgt := 84) dX12_isSo_117 (by decide) ?_
    refine h_pick [1, 2, 3, 4, 0] [(0, .ref 87), (2, .int x2), (3, .int x3), (4, .int x4), (5, .int (x5 + 1))] rfl ?_
    exact k6 c1
set_option maxHeartbeats 1000000 in
set_option maxRecDepth 20000 in
theorem sg_X12_keep_0 {E : HEn} {d : Nat} {Q : Option Value → HIh → Prop} {I : HIh} {a : Int32}
    (k1 : (0 : Int64) ≤ a.toInt64 → (a.toInt64 : Int64) ≤ 1 → HCall E me_X12_copy (d + 1) [.ref 87, .int 0, .int (1 + a)] I (fun v9 J => HGo E (mF E (d + 2) Q) me_X12_keep 21 [(0, .ref 87), (1, .int a)] (v9.toList ++ []) J))
    (k2 : ¬ ((0 : Int64) ≤ a.toInt64 ∧ (a.toInt64 : Int64) ≤ 1) → Q (some (.int (-2))) I)
    : HGo E (mF E (d + 2) Q) me_X12_keep 0 [(0, .ref 87), (1, .int a)] [] I := by
  refine h_iload_n dX12_keep_0 rfl 1 rfl ?_
  refine h_i2l dX12_keep_1 ?_
  refine h_lconst (v := 0) dX12_keep_2 (by decide) ?_
  refine h_lconst (v := 1) dX12_keep_3 (by decide) ?_
  refine h_invS (As := [.long a.toInt64, .long 0, .long 1]) (st := []) dX12_keep_4 lk_X12_62 (h_room (by decide)) rfl rfl (Nat.le_of_ble_eq_true rfl) ?_
  refine c_X12_in (fun c1 c2 => ?_) (fun c3 => ?_)
  ·
    refine h_if_ne (tgt := 13) dX12_keep_7 (by decide) (fun _ => ?_) (fun c => absurd c (by decide))
    refine h_aload_n dX12_keep_13 rfl 0 rfl ?_
    refine h_iconst (v := 0) dX12_keep_14 (by decide) ?_
    refine h_iconst (v := 1) dX12_keep_15 (by decide) ?_
    refine h_iload_n dX12_keep_16 rfl 1 rfl ?_
    refine h_iadd dX12_keep_17 ?_
    refine h_invV (As := [.int 0, .int (1 + a)]) (st := []) dX12_keep_18 lk_X12_221 (h_room (by decide)) nl_87 zk_87 (by decide) rfl rfl rfl (Nat.le_of_ble_eq_true rfl) ?_
    exact k1 c1 c2
  ·
    refine h_if_ne (tgt := 13) dX12_keep_7 (by decide) (fun c => absurd c (by decide)) (fun _ => ?_)
    refine h_bipush (v := (-2)) dX12_keep_10 (by decide) ?_
    exact h_iret dX12_keep_12 rfl (k2 c3)
set_option maxHeartbeats 1000000 in
set_option maxRecDepth 20000 in
theorem sg_X12_keep_21 {E : HEn} {d : Nat} {Q : Option Value → HIh → Prop} {I : HIh} {x1 : Int32}
    (k1 : vp_in x1 2)
    (k2 : Q (some (.int (I 88 30))) (setI I 89 (upd (I 89) x1.toNatClampNeg 1)))
    : HGo E (mF E (d + 2) Q) me_X12_keep 21 [(0, .ref 87), (1, .int x1)] [] I := by
  refine h_aload_n dX12_keep_21 rfl 0 rfl ?_
  refine gf_10_1 dX12_keep_22 hl_X12_13 nl_87 zk_87 zp_87_1 ?_
  refine h_iload_n dX12_keep_25 rfl 1 rfl ?_
  refine h_iconst (v := 1) dX12_keep_26 (by decide) ?_
  refine h_zast dX12_keep_27 nl_89 zk_89 (by rw [zn_89]; exact k1) rfl ?_
  refine h_aload_n dX12_keep_28 rfl 0 rfl ?_
  refine gf_10_0 dX12_keep_29 hl_X12_7 nl_87 zk_87 zp_87_0 ?_
  refine h_bipush (v := 30) dX12_keep_32 (by decide) ?_
  refine h_iald dX12_keep_34 nl_88 zk_88 (vp_lit (by rw [zn_88]; decide)) ?_
  exact h_iret dX12_keep_35 rfl (k2)
set_option maxHeartbeats 1000000 in
set_option maxRecDepth 20000 in
theorem sg_X12_back_0 {E : HEn} {d : Nat} {Q : Option Value → HIh → Prop} {I : HIh} {a : Int32}
    (k1 : (0 : Int64) ≤ a.toInt64 → (a.toInt64 : Int64) ≤ 1 → vp_in a 2)
    (k2 : (0 : Int64) ≤ a.toInt64 → (a.toInt64 : Int64) ≤ 1 → ¬ (I 89 a.toNatClampNeg) = 0 → HCall E me_X12_copy (d + 1) [.ref 87, .int (1 + a), .int 0] I (fun v9 J => HGo E (mF E (d + 2) Q) me_X12_back 33 [(0, .ref 87)] (v9.toList ++ []) J))
    (k3 : (0 : Int64) ≤ a.toInt64 → (a.toInt64 : Int64) ≤ 1 → (I 89 a.toNatClampNeg) = 0 → Q (some (.int (-4))) I)
    (k4 : ¬ ((0 : Int64) ≤ a.toInt64 ∧ (a.toInt64 : Int64) ≤ 1) → Q (some (.int (-2))) I)
    : HGo E (mF E (d + 2) Q) me_X12_back 0 [(0, .ref 87), (1, .int a)] [] I := by
  refine h_iload_n dX12_back_0 rfl 1 rfl ?_
  refine h_i2l dX12_back_1 ?_
  refine h_lconst (v := 0) dX12_back_2 (by decide) ?_
  refine h_lconst (v := 1) dX12_back_3 (by decide) ?_
  refine h_invS (As := [.long a.toInt64, .long 0, .long 1]) (st := []) dX12_back_4 lk_X12_62 (h_room (by decide)) rfl rfl (Nat.le_of_ble_eq_true rfl) ?_
  refine c_X12_in (fun c1 c2 => ?_) (fun c3 => ?_)
  ·
    refine h_if_ne (tgt := 13) dX12_back_7 (by decide) (fun _ => ?_) (fun c => absurd c (by decide))
    refine h_aload_n dX12_back_13 rfl 0 rfl ?_
    refine gf_10_1 dX12_back_14 hl_X12_13 nl_87 zk_87 zp_87_1 ?_
    refine h_iload_n dX12_back_17 rfl 1 rfl ?_
    refine h_zald dX12_back_18 nl_89 zk_89 (by rw [zn_89]; exact k1 c1 c2) ?_
    refine h_if_ne (tgt := 25) dX12_back_19 (by decide) (fun c4 => ?_) (fun c4 => ?_)
    ·
      refine h_aload_n dX12_back_25 rfl 0 rfl ?_
      refine h_iconst (v := 1) dX12_back_26 (by decide) ?_
      refine h_iload_n dX12_back_27 rfl 1 rfl ?_
      refine h_iadd dX12_back_28 ?_
      refine h_iconst (v := 0) dX12_back_29 (by decide) ?_
      refine h_pick [0] [(0, .ref 87)] rfl ?_
      refine h_invV (As := [.int (1 + a), .int 0]) (st := []) dX12_back_30 lk_X12_221 (h_room (by decide)) nl_87 zk_87 (by decide) rfl rfl rfl (Nat.le_of_ble_eq_true rfl) ?_
      exact k2 c1 c2 c4
    ·
      refine h_bipush (v := (-4)) dX12_back_22 (by decide) ?_
      exact h_iret dX12_back_24 rfl (k3 c1 c2 c4)
  ·
    refine h_if_ne (tgt := 13) dX12_back_7 (by decide) (fun c => absurd c (by decide)) (fun _ => ?_)
    refine h_bipush (v := (-2)) dX12_back_10 (by decide) ?_
    exact h_iret dX12_back_12 rfl (k4 c3)
set_option maxHeartbeats 1000000 in
set_option maxRecDepth 20000 in
theorem sg_X12_back_33 {E : HEn} {d : Nat} {Q : Option Value → HIh → Prop} {I : HIh} 
    (k1 : Q (some (.int (I 88 30))) I)
    : HGo E (mF E (d + 2) Q) me_X12_back 33 [(0, .ref 87)] [] I := by
  refine h_aload_n dX12_back_33 rfl 0 rfl ?_
  refine gf_10_0 dX12_back_34 hl_X12_7 nl_87 zk_87 zp_87_0 ?_
  refine h_bipush (v := 30) dX12_back_37 (by decide) ?_
  refine h_iald dX12_back_39 nl_88 zk_88 (vp_lit (by rw [zn_88]; decide)) ?_
  exact h_iret dX12_back_40 rfl (k1)
set_option maxHeartbeats 1000000 in
set_option maxRecDepth 20000 in
theorem sg_X12_count_0 {E : HEn} {d : Nat} {Q : Option Value → HIh → Prop} {I : HIh} {a : Int32}
    (k1 : a = 0 → Q (some (.int (I 87 6))) I)
    (k2 : ¬ a = 0 → a = 1 → HCall E me_X12_worthThere (d + 1) [.ref 87] I (fun v9 J => HGo E (mF E (d + 2) Q) me_X12_count 57 [] (v9.toList ++ []) J))
    (k3 : ¬ a = 0 → ¬ a = 1 → a = 2 → Q (some (.int (I 87 11))) I)
    (k4 : ¬ a = 0 → ¬ a = 1 → ¬ a = 2 → a = 3 → Q (some (.int (I 87 13))) I)
    (k5 : ¬ a = 0 → ¬ a = 1 → ¬ a = 2 → ¬ a = 3 → a = 4 → Q (some (.int (I 88 30))) I)
    (k6 : ¬ a = 0 → ¬ a = 1 → ¬ a = 2 → ¬ a = 3 → ¬ a = 4 → a = 5 → Q (some (.int (I 87 27))) I)
    (k7 : ¬ a = 0 → ¬ a = 1 → ¬ a = 2 → ¬ a = 3 → ¬ a = 4 → ¬ a = 5 → a = 6 → Q (some (.int (I 87 3))) I)
    (k8 : ¬ a = 0 → ¬ a = 1 → ¬ a = 2 → ¬ a = 3 → ¬ a = 4 → ¬ a = 5 → ¬ a = 6 → a = 7 → HCall E me_X12_worthThere (d + 1) [.ref 87] I (fun v9 J => HGo E (mF E (d + 2) Q) me_X12_count 90 [(0, .ref 87)] (v9.toList ++ []) J))
    (k9 : ¬ a = 0 → ¬ a = 1 → ¬ a = 2 → ¬ a = 3 → ¬ a = 4 → ¬ a = 5 → ¬ a = 6 → ¬ a = 7 → Q (some (.int (-3))) I)
    : HGo E (mF E (d + 2) Q) me_X12_count 0 [(0, .ref 87), (1, .int a)] [] I := by
  refine h_iload_n dX12_count_0 rfl 1 rfl ?_
  by_cases c1 : a = 0
  · refine h_tswIn (off := 47) (tgt := 48) 0 dX12_count_1 (by rw [c1]; rfl) (by decide) (by decide) (by decide) (by decide) ?_
    refine h_aload_n dX12_count_48 rfl 0 rfl ?_
    refine gf_10_6 dX12_count_49 hl_X12_23 nl_87 zk_87 ?_
    exact h_iret dX12_count_52 rfl (k1 c1)
  by_cases c2 : a = 1
  · refine h_tswIn (off := 52) (tgt := 53) 1 dX12_count_1 (by rw [c2]; rfl) (by decide) (by decide) (by decide) (by decide) ?_
    refine h_aload_n dX12_count_53 rfl 0 rfl ?_
    refine h_pick [] [] rfl ?_
    refine h_invV (As := []) (st := []) dX12_count_54 lk_X12_275 (h_room (by decide)) nl_87 zk_87 (by decide) rfl rfl rfl (Nat.le_of_ble_eq_true rfl) ?_
    exact k2 c1 c2
  by_cases c3 : a = 2
  · refine h_tswIn (off := 57) (tgt := 58) 2 dX12_count_1 (by rw [c3]; rfl) (by decide) (by decide) (by decide) (by decide) ?_
    refine h_aload_n dX12_count_58 rfl 0 rfl ?_
    refine gf_10_11 dX12_count_59 hl_X12_160 nl_87 zk_87 ?_
    exact h_iret dX12_count_62 rfl (k3 c1 c2 c3)
  by_cases c4 : a = 3
  · refine h_tswIn (off := 62) (tgt := 63) 3 dX12_count_1 (by rw [c4]; rfl) (by decide) (by decide) (by decide) (by decide) ?_
    refine h_aload_n dX12_count_63 rfl 0 rfl ?_
    refine gf_10_13 dX12_count_64 hl_X12_147 nl_87 zk_87 ?_
    exact h_iret dX12_count_67 rfl (k4 c1 c2 c3 c4)
  by_cases c5 : a = 4
  · refine h_tswIn (off := 67) (tgt := 68) 4 dX12_count_1 (by rw [c5]; rfl) (by decide) (by decide) (by decide) (by decide) ?_
    refine h_aload_n dX12_count_68 rfl 0 rfl ?_
    refine gf_10_0 dX12_count_69 hl_X12_7 nl_87 zk_87 zp_87_0 ?_
    refine h_bipush (v := 30) dX12_count_72 (by decide) ?_
    refine h_iald dX12_count_74 nl_88 zk_88 (vp_lit (by rw [zn_88]; decide)) ?_
    exact h_iret dX12_count_75 rfl (k5 c1 c2 c3 c4 c5)
  by_cases c6 : a = 5
  · refine h_tswIn (off := 75) (tgt := 76) 5 dX12_count_1 (by rw [c6]; rfl) (by decide) (by decide) (by decide) (by decide) ?_
    refine h_aload_n dX12_count_76 rfl 0 rfl ?_
    refine gf_10_27 dX12_count_77 hl_X12_172 nl_87 zk_87 ?_
    exact h_iret dX12_count_80 rfl (k6 c1 c2 c3 c4 c5 c6)
  by_cases c7 : a = 6
  · refine h_tswIn (off := 80) (tgt := 81) 6 dX12_count_1 (by rw [c7]; rfl) (by decide) (by decide) (by decide) (by decide) ?_
    refine h_aload_n dX12_count_81 rfl 0 rfl ?_
    refine gf_10_3 dX12_count_82 hl_X12_66 nl_87 zk_87 ?_
    exact h_iret dX12_count_85 rfl (k7 c1 c2 c3 c4 c5 c6 c7)
  by_cases c8 : a = 7
  · refine h_tswIn (off := 85) (tgt := 86) 7 dX12_count_1 (by rw [c8]; rfl) (by decide) (by decide) (by decide) (by decide) ?_
    refine h_aload_n dX12_count_86 rfl 0 rfl ?_
    refine h_pick [0] [(0, .ref 87)] rfl ?_
    refine h_invV (As := []) (st := []) dX12_count_87 lk_X12_275 (h_room (by decide)) nl_87 zk_87 (by decide) rfl rfl rfl (Nat.le_of_ble_eq_true rfl) ?_
    exact k8 c1 c2 c3 c4 c5 c6 c7 c8
  refine h_tswOut (tgt := 119) dX12_count_1 (tsw_out8 c1 c2 c3 c4 c5 c6 c7 c8) (by decide) ?_
  refine h_bipush (v := (-3)) dX12_count_119 (by decide) ?_
  exact h_iret dX12_count_121 rfl (k9 c1 c2 c3 c4 c5 c6 c7 c8)
set_option maxHeartbeats 1000000 in
set_option maxRecDepth 20000 in
theorem sg_X12_count_57 {E : HEn} {d : Nat} {Q : Option Value → HIh → Prop} {I : HIh} {s0 : Int32}
    (k1 : Q (some (.int s0)) I)
    : HGo E (mF E (d + 2) Q) me_X12_count 57 [] [.int s0] I := by
  exact h_iret dX12_count_57 rfl (k1)
set_option maxHeartbeats 1000000 in
set_option maxRecDepth 20000 in
theorem sg_X12_count_90 {E : HEn} {d : Nat} {Q : Option Value → HIh → Prop} {I : HIh} {s0 : Int32}
    (k1 : HCall E me_X12_worthOf (d + 1) [.ref 87, .int 0, .int 0] I (fun v9 J => HGo E (mF E (d + 2) Q) me_X12_count 96 [(0, .ref 87)] (v9.toList ++ [.int s0]) J))
    : HGo E (mF E (d + 2) Q) me_X12_count 90 [(0, .ref 87)] [.int s0] I := by
  refine h_aload_n dX12_count_90 rfl 0 rfl ?_
  refine h_iconst (v := 0) dX12_count_91 (by decide) ?_
  refine h_iconst (v := 0) dX12_count_92 (by decide) ?_
  refine h_invV (As := [.int 0, .int 0]) (st := [.int s0]) dX12_count_93 lk_X12_186 (h_room (by decide)) nl_87 zk_87 (by decide) rfl rfl rfl (Nat.le_of_ble_eq_true rfl) ?_
  exact k1
set_option maxHeartbeats 1000000 in
set_option maxRecDepth 20000 in
theorem sg_X12_count_96 {E : HEn} {d : Nat} {Q : Option Value → HIh → Prop} {I : HIh} {s0 : Int32} {s1 : Int32}
    (k1 : HCall E me_X12_worthOf (d + 1) [.ref 87, .int 0, .int 1] I (fun v9 J => HGo E (mF E (d + 2) Q) me_X12_count 103 [(0, .ref 87)] (v9.toList ++ [.int (s1 + s0)]) J))
    : HGo E (mF E (d + 2) Q) me_X12_count 96 [(0, .ref 87)] [.int s0, .int s1] I := by
  refine h_iadd dX12_count_96 ?_
  refine h_aload_n dX12_count_97 rfl 0 rfl ?_
  refine h_iconst (v := 0) dX12_count_98 (by decide) ?_
  refine h_iconst (v := 1) dX12_count_99 (by decide) ?_
  refine h_invV (As := [.int 0, .int 1]) (st := [.int (s1 + s0)]) dX12_count_100 lk_X12_186 (h_room (by decide)) nl_87 zk_87 (by decide) rfl rfl rfl (Nat.le_of_ble_eq_true rfl) ?_
  exact k1
set_option maxHeartbeats 1000000 in
set_option maxRecDepth 20000 in
theorem sg_X12_count_103 {E : HEn} {d : Nat} {Q : Option Value → HIh → Prop} {I : HIh} {s0 : Int32} {s1 : Int32}
    (k1 : HCall E me_X12_worthOf (d + 1) [.ref 87, .int 0, .int 2] I (fun v9 J => HGo E (mF E (d + 2) Q) me_X12_count 110 [(0, .ref 87)] (v9.toList ++ [.int (s1 + s0)]) J))
    : HGo E (mF E (d + 2) Q) me_X12_count 103 [(0, .ref 87)] [.int s0, .int s1] I := by
  refine h_iadd dX12_count_103 ?_
  refine h_aload_n dX12_count_104 rfl 0 rfl ?_
  refine h_iconst (v := 0) dX12_count_105 (by decide) ?_
  refine h_iconst (v := 2) dX12_count_106 (by decide) ?_
  refine h_invV (As := [.int 0, .int 2]) (st := [.int (s1 + s0)]) dX12_count_107 lk_X12_186 (h_room (by decide)) nl_87 zk_87 (by decide) rfl rfl rfl (Nat.le_of_ble_eq_true rfl) ?_
  exact k1
set_option maxHeartbeats 1000000 in
set_option maxRecDepth 20000 in
theorem sg_X12_count_110 {E : HEn} {d : Nat} {Q : Option Value → HIh → Prop} {I : HIh} {s0 : Int32} {s1 : Int32}
    (k1 : HCall E me_X12_worthOf (d + 1) [.ref 87, .int 0, .int 3] I (fun v9 J => HGo E (mF E (d + 2) Q) me_X12_count 117 [] (v9.toList ++ [.int (s1 + s0)]) J))
    : HGo E (mF E (d + 2) Q) me_X12_count 110 [(0, .ref 87)] [.int s0, .int s1] I := by
  refine h_iadd dX12_count_110 ?_
  refine h_aload_n dX12_count_111 rfl 0 rfl ?_
  refine h_iconst (v := 0) dX12_count_112 (by decide) ?_
  refine h_iconst (v := 3) dX12_count_113 (by decide) ?_
  refine h_pick [] [] rfl ?_
  refine h_invV (As := [.int 0, .int 3]) (st := [.int (s1 + s0)]) dX12_count_114 lk_X12_186 (h_room (by decide)) nl_87 zk_87 (by decide) rfl rfl rfl (Nat.le_of_ble_eq_true rfl) ?_
  exact k1
set_option maxHeartbeats 1000000 in
set_option maxRecDepth 20000 in
theorem sg_X12_count_117 {E : HEn} {d : Nat} {Q : Option Value → HIh → Prop} {I : HIh} {s0 : Int32} {s1 : Int32}
    (k1 : Q (some (.int (s1 + s0))) I)
    : HGo E (mF E (d + 2) Q) me_X12_count 117 [] [.int s0, .int s1] I := by
  refine h_iadd dX12_count_117 ?_
  exact h_iret dX12_count_118 rfl (k1)
