set_option maxHeartbeats 1000000 in
set_option maxRecDepth 4000 in
theorem sg_X4_of_0 {E : HEn} {d : Nat} {Q : Option Value → HIh → Prop} {I : HIh} {h c : Nat} {o : Int32} {k : Int32} (a_h : h < NL) (b_h : Zk h = 3) (p_h : Zp h 0 = c) (a_c : c < NL) (b_c : Zk c = 11) (n_c : Zn c = 30)
    (k1 : o < 0 → Q (some (.int 0)) I)
    (k2 : ¬ o < 0 → 5 ≤ o → Q (some (.int 0)) I)
    (k3 : ¬ o < 0 → ¬ 5 ≤ o → k < 0 → Q (some (.int 0)) I)
    (k4 : ¬ o < 0 → ¬ 5 ≤ o → ¬ k < 0 → 6 ≤ k → Q (some (.int 0)) I)
    (k5 : ¬ o < 0 → ¬ 5 ≤ o → ¬ k < 0 → ¬ 6 ≤ k → vp_in ((o * 6) + k) 30)
    (k6 : ¬ o < 0 → ¬ 5 ≤ o → ¬ k < 0 → ¬ 6 ≤ k → Q (some (.int (I c ((o * 6) + k).toNatClampNeg))) I)
    : HGo E (mF E (d + 1) Q) me_X4_of 0 [(0, .ref h), (1, .int o), (2, .int k)] [] I := by
  refine h_iload_n dX4_of_0 rfl 1 rfl ?_
  refine h_if_lt (tgt := 23) dX4_of_1 (by decide) (fun c1 => ?_) (fun c1 => ?_)
  ·
    refine h_iconst (v := 0) dX4_of_23 (by decide) ?_
    refine h_istore_n (L' := [(3, .int 0), (0, .ref h), (1, .int o), (2, .int k)]) dX4_of_24 rfl (by decide) rfl ?_
    refine h_iload_n dX4_of_25 rfl 0 rfl ?_
    refine h_if_eq (tgt := 43) dX4_of_26 (by decide) (fun _ => ?_) (fun c => absurd c (by decide))
    refine h_iconst (v := 0) dX4_of_43 (by decide) ?_
    exact h_iret dX4_of_44 rfl (k1 c1)
  ·
    refine h_iload_n dX4_of_4 rfl 1 rfl ?_
    refine h_iconst (v := 5) dX4_of_5 (by decide) ?_
    refine h_icmp_ge (tgt := 23) dX4_of_6 (by decide) (fun c2 => ?_) (fun c2 => ?_)
    ·
      refine h_iconst (v := 0) dX4_of_23 (by decide) ?_
      refine h_istore_n (L' := [(3, .int 0), (0, .ref h), (1, .int o), (2, .int k)]) dX4_of_24 rfl (by decide) rfl ?_
      refine h_iload_n dX4_of_25 rfl 0 rfl ?_
      refine h_if_eq (tgt := 43) dX4_of_26 (by decide) (fun _ => ?_) (fun c => absurd c (by decide))
      refine h_iconst (v := 0) dX4_of_43 (by decide) ?_
      exact h_iret dX4_of_44 rfl (k2 c1 c2)
    ·
      refine h_iload_n dX4_of_9 rfl 2 rfl ?_
      refine h_if_lt (tgt := 23) dX4_of_10 (by decide) (fun c3 => ?_) (fun c3 => ?_)
      ·
        refine h_iconst (v := 0) dX4_of_23 (by decide) ?_
        refine h_istore_n (L' := [(3, .int 0), (0, .ref h), (1, .int o), (2, .int k)]) dX4_of_24 rfl (by decide) rfl ?_
        refine h_iload_n dX4_of_25 rfl 0 rfl ?_
        refine h_if_eq (tgt := 43) dX4_of_26 (by decide) (fun _ => ?_) (fun c => absurd c (by decide))
        refine h_iconst (v := 0) dX4_of_43 (by decide) ?_
        exact h_iret dX4_of_44 rfl (k3 c1 c2 c3)
      ·
        refine h_iload_n dX4_of_13 rfl 2 rfl ?_
        refine h_bipush (v := 6) dX4_of_14 (by decide) ?_
        refine h_icmp_ge (tgt := 23) dX4_of_16 (by decide) (fun c4 => ?_) (fun c4 => ?_)
        ·
          refine h_iconst (v := 0) dX4_of_23 (by decide) ?_
          refine h_istore_n (L' := [(3, .int 0), (0, .ref h), (1, .int o), (2, .int k)]) dX4_of_24 rfl (by decide) rfl ?_
          refine h_iload_n dX4_of_25 rfl 0 rfl ?_
          refine h_if_eq (tgt := 43) dX4_of_26 (by decide) (fun _ => ?_) (fun c => absurd c (by decide))
          refine h_iconst (v := 0) dX4_of_43 (by decide) ?_
          exact h_iret dX4_of_44 rfl (k4 c1 c2 c3 c4)
        ·
          refine h_iconst (v := 1) dX4_of_19 (by decide) ?_
          refine h_goto (tgt := 24) dX4_of_20 (by decide) ?_
          refine h_istore_n (L' := [(3, .int 1), (0, .ref h), (1, .int o), (2, .int k)]) dX4_of_24 rfl (by decide) rfl ?_
          refine h_iload_n dX4_of_25 rfl 0 rfl ?_
          refine h_if_eq (tgt := 43) dX4_of_26 (by decide) (fun c => absurd c (by decide)) (fun _ => ?_)
          refine h_aload_n dX4_of_29 rfl 1 rfl ?_
          refine gf_3_0 dX4_of_30 hl_X4_9 a_h b_h p_h ?_
          refine h_iload_n dX4_of_33 rfl 2 rfl ?_
          refine h_bipush (v := 6) dX4_of_34 (by decide) ?_
          refine h_imul dX4_of_36 ?_
          refine h_iload_n dX4_of_37 rfl 3 rfl ?_
          refine h_iadd dX4_of_38 ?_
          refine h_iald dX4_of_39 a_c b_c (by rw [n_c]; exact k5 c1 c2 c3 c4) ?_
          refine h_goto (tgt := 44) dX4_of_40 (by decide) ?_
          exact h_iret dX4_of_44 rfl (k6 c1 c2 c3 c4)
set_option maxHeartbeats 1000000 in
set_option maxRecDepth 4000 in
theorem sg_X4_add_0 {E : HEn} {d : Nat} {Q : Option Value → HIh → Prop} {I : HIh} {h c : Nat} {o : Int32} {k : Int32} {z : Int32} (a_h : h < NL) (b_h : Zk h = 3) (p_h : Zp h 0 = c) (a_c : c < NL) (b_c : Zk c = 11) (n_c : Zn c = 30)
    (k1 : o < 0 → Q none I)
    (k2 : ¬ o < 0 → 5 ≤ o → Q none I)
    (k3 : ¬ o < 0 → ¬ 5 ≤ o → k < 0 → Q none I)
    (k4 : ¬ o < 0 → ¬ 5 ≤ o → ¬ k < 0 → 6 ≤ k → Q none I)
    (k5 : ¬ o < 0 → ¬ 5 ≤ o → ¬ k < 0 → ¬ 6 ≤ k → vp_in ((o * 6) + k) 30)
    (k6 : ¬ o < 0 → ¬ 5 ≤ o → ¬ k < 0 → ¬ 6 ≤ k → Q none (setI I c (upd (I c) ((o * 6) + k).toNatClampNeg ((I c ((o * 6) + k).toNatClampNeg) + z))))
    : HGo E (mF E (d + 1) Q) me_X4_add 0 [(0, .ref h), (1, .int o), (2, .int k), (3, .int z)] [] I := by
  refine h_iload_n dX4_add_0 rfl 1 rfl ?_
  refine h_if_lt (tgt := 34) dX4_add_1 (by decide) (fun c1 => ?_) (fun c1 => ?_)
  ·
    exact h_vret dX4_add_34 rfl (k1 c1)
  ·
    refine h_iload_n dX4_add_4 rfl 1 rfl ?_
    refine h_iconst (v := 5) dX4_add_5 (by decide) ?_
    refine h_icmp_ge (tgt := 34) dX4_add_6 (by decide) (fun c2 => ?_) (fun c2 => ?_)
    ·
      exact h_vret dX4_add_34 rfl (k2 c1 c2)
    ·
      refine h_iload_n dX4_add_9 rfl 2 rfl ?_
      refine h_if_lt (tgt := 34) dX4_add_10 (by decide) (fun c3 => ?_) (fun c3 => ?_)
      ·
        exact h_vret dX4_add_34 rfl (k3 c1 c2 c3)
      ·
        refine h_iload_n dX4_add_13 rfl 2 rfl ?_
        refine h_bipush (v := 6) dX4_add_14 (by decide) ?_
        refine h_icmp_ge (tgt := 34) dX4_add_16 (by decide) (fun c4 => ?_) (fun c4 => ?_)
        ·
          exact h_vret dX4_add_34 rfl (k4 c1 c2 c3 c4)
        ·
          refine h_aload_n dX4_add_19 rfl 0 rfl ?_
          refine gf_3_0 dX4_add_20 hl_X4_9 a_h b_h p_h ?_
          refine h_iload_n dX4_add_23 rfl 1 rfl ?_
          refine h_bipush (v := 6) dX4_add_24 (by decide) ?_
          refine h_imul dX4_add_26 ?_
          refine h_iload_n dX4_add_27 rfl 2 rfl ?_
          refine h_iadd dX4_add_28 ?_
          refine h_dup2 dX4_add_29 rfl rfl ?_
          refine h_iald dX4_add_30 a_c b_c (by rw [n_c]; exact k5 c1 c2 c3 c4) ?_
          refine h_iload_n dX4_add_31 rfl 3 rfl ?_
          refine h_iadd dX4_add_32 ?_
          refine h_iast dX4_add_33 a_c b_c (by rw [n_c]; exact k5 c1 c2 c3 c4) ?_
          exact h_vret dX4_add_34 rfl (k6 c1 c2 c3 c4)
set_option maxHeartbeats 1000000 in
set_option maxRecDepth 4000 in
theorem sg_X4_empty_0 {E : HEn} {d : Nat} {Q : Option Value → HIh → Prop} {I : HIh} {h : Nat} (a_h : h < NL) (b_h : Zk h = 3)
    (k1 : HGo E (mF E (d + 1) Q) me_X4_empty 2 [(0, .ref h), (1, .int 0)] [] I)
    : HGo E (mF E (d + 1) Q) me_X4_empty 0 [(0, .ref h)] [] I := by
  refine h_iconst (v := 0) dX4_empty_0 (by decide) ?_
  refine h_istore_n (L' := [(1, .int 0), (0, .ref h)]) dX4_empty_1 rfl (by decide) rfl ?_
  refine h_pick [1, 0] [(0, .ref h), (1, .int 0)] rfl ?_
  exact k1
set_option maxHeartbeats 1000000 in
set_option maxRecDepth 4000 in
theorem sg_X4_empty_2 {E : HEn} {d : Nat} {Q : Option Value → HIh → Prop} {I : HIh} {h c : Nat} {x1 : Int32} (a_h : h < NL) (b_h : Zk h = 3) (p_h : Zp h 0 = c) (a_c : c < NL) (b_c : Zk c = 11) (n_c : Zn c = 30)
    (k1 : 30 ≤ x1 → Q none I)
    (k2 : ¬ 30 ≤ x1 → vp_in x1 30)
    (k3 : ¬ 30 ≤ x1 → HGo E (mF E (d + 1) Q) me_X4_empty 2 [(0, .ref h), (1, .int (x1 + 1))] [] (setI I c (upd (I c) x1.toNatClampNeg 0)))
    : HGo E (mF E (d + 1) Q) me_X4_empty 2 [(0, .ref h), (1, .int x1)] [] I := by
  refine h_iload_n dX4_empty_2 rfl 1 rfl ?_
  refine h_aload_n dX4_empty_3 rfl 0 rfl ?_
  refine gf_3_0 dX4_empty_4 hl_X4_9 a_h b_h p_h ?_
  refine h_alen (v := 30) dX4_empty_7 a_c b_c (by rw [n_c]; rfl) ?_
  refine h_icmp_ge (tgt := 24) dX4_empty_8 (by decide) (fun c1 => ?_) (fun c1 => ?_)
  ·
    exact h_vret dX4_empty_24 rfl (k1 c1)
  ·
    refine h_aload_n dX4_empty_11 rfl 0 rfl ?_
    refine gf_3_0 dX4_empty_12 hl_X4_9 a_h b_h p_h ?_
    refine h_iload_n dX4_empty_15 rfl 1 rfl ?_
    refine h_iconst (v := 0) dX4_empty_16 (by decide) ?_
    refine h_iast dX4_empty_17 a_c b_c (by rw [n_c]; exact k2 c1) ?_
    refine h_iinc (v := (x1 + 1)) (L' := [(1, .int (x1 + 1)), (0, .ref h)]) dX4_empty_18 1 rfl rfl (by decide) rfl ?_
    refine h_goto (tgt := 2) dX4_empty_21 (by decide) ?_
    refine h_pick [1, 0] [(0, .ref h), (1, .int (x1 + 1))] rfl ?_
    exact k3 c1
set_option maxHeartbeats 1000000 in
set_option maxRecDepth 4000 in
theorem sg_X4_copyFrom_0 {E : HEn} {d : Nat} {Q : Option Value → HIh → Prop} {I : HIh} {h c g e : Nat} (a_h : h < NL) (b_h : Zk h = 3) (p_h : Zp h 0 = c) (a_c : c < NL) (b_c : Zk c = 11) (n_c : Zn c = 30) (a_g : g < NL) (b_g : Zk g = 3) (p_g : Zp g 0 = e) (a_e : e < NL) (b_e : Zk e = 11) (n_e : Zn e = 30)
    (k1 : Q none (setI (setI I c (va_cpy (I e) (I c) 0 0 30)) h (upd ((setI I c (va_cpy (I e) (I c) 0 0 30)) h) 1 ((setI I c (va_cpy (I e) (I c) 0 0 30)) g 1))))
    : HGo E (mF E (d + 1) Q) me_X4_copyFrom 0 [(0, .ref h), (1, .ref g)] [] I := by
  refine h_aload_n dX4_copyFrom_0 rfl 1 rfl ?_
  refine gf_3_0 dX4_copyFrom_1 hl_X4_9 a_g b_g p_g ?_
  refine h_iconst (v := 0) dX4_copyFrom_4 (by decide) ?_
  refine h_aload_n dX4_copyFrom_5 rfl 0 rfl ?_
  refine gf_3_0 dX4_copyFrom_6 hl_X4_9 a_h b_h p_h ?_
  refine h_iconst (v := 0) dX4_copyFrom_9 (by decide) ?_
  refine h_aload_n dX4_copyFrom_10 rfl 0 rfl ?_
  refine gf_3_0 dX4_copyFrom_11 hl_X4_9 a_h b_h p_h ?_
  refine h_alen (v := 30) dX4_copyFrom_14 a_c b_c (by rw [n_c]; rfl) ?_
  refine h_copy dX4_copyFrom_15 wt_302 wt_297 wt_296 wt_14 a_e b_e a_c b_c (by decide) (by decide) (by decide) (by rw [n_e]; decide) (by rw [n_c]; decide) (h_frm (Nat.le_of_ble_eq_true rfl)).1 ?_
  refine h_aload_n dX4_copyFrom_18 rfl 0 rfl ?_
  refine h_aload_n dX4_copyFrom_19 rfl 1 rfl ?_
  refine gf_3_1 dX4_copyFrom_20 hl_X4_21 a_g b_g ?_
  refine pf_3_1 dX4_copyFrom_23 hl_X4_21 a_h b_h ?_
  exact h_vret dX4_copyFrom_26 rfl (k1)
set_option maxHeartbeats 1000000 in
set_option maxRecDepth 4000 in
theorem sg_X9_copyFrom_0 {E : HEn} {d : Nat} {Q : Option Value → HIh → Prop} {I : HIh} 
    (k1 : HCall E me_X4_copyFrom (d + 1) [.ref 10, .ref 30] (setI (setI (setI (setI I 6 (va_cpy (I 26) (I 6) 0 0 6)) 7 (va_cpy ((setI I 6 (va_cpy (I 26) (I 6) 0 0 6)) 27) ((setI I 6 (va_cpy (I 26) (I 6) 0 0 6)) 7) 0 0 4)) 8 (va_cpy ((setI (setI I 6 (va_cpy (I 26) (I 6) 0 0 6)) 7 (va_cpy ((setI I 6 (va_cpy (I 26) (I 6) 0 0 6)) 27) ((setI I 6 (va_cpy (I 26) (I 6) 0 0 6)) 7) 0 0 4)) 28) ((setI (setI I 6 (va_cpy (I 26) (I 6) 0 0 6)) 7 (va_cpy ((setI I 6 (va_cpy (I 26) (I 6) 0 0 6)) 27) ((setI I 6 (va_cpy (I 26) (I 6) 0 0 6)) 7) 0 0 4)) 8) 0 0 4)) 9 (va_cpy ((setI (setI (setI I 6 (va_cpy (I 26) (I 6) 0 0 6)) 7 (va_cpy ((setI I 6 (va_cpy (I 26) (I 6) 0 0 6)) 27) ((setI I 6 (va_cpy (I 26) (I 6) 0 0 6)) 7) 0 0 4)) 8 (va_cpy ((setI (setI I 6 (va_cpy (I 26) (I 6) 0 0 6)) 7 (va_cpy ((setI I 6 (va_cpy (I 26) (I 6) 0 0 6)) 27) ((setI I 6 (va_cpy (I 26) (I 6) 0 0 6)) 7) 0 0 4)) 28) ((setI (setI I 6 (va_cpy (I 26) (I 6) 0 0 6)) 7 (va_cpy ((setI I 6 (va_cpy (I 26) (I 6) 0 0 6)) 27) ((setI I 6 (va_cpy (I 26) (I 6) 0 0 6)) 7) 0 0 4)) 8) 0 0 4)) 29) ((setI (setI (setI I 6 (va_cpy (I 26) (I 6) 0 0 6)) 7 (va_cpy ((setI I 6 (va_cpy (I 26) (I 6) 0 0 6)) 27) ((setI I 6 (va_cpy (I 26) (I 6) 0 0 6)) 7) 0 0 4)) 8 (va_cpy ((setI (setI I 6 (va_cpy (I 26) (I 6) 0 0 6)) 7 (va_cpy ((setI I 6 (va_cpy (I 26) (I 6) 0 0 6)) 27) ((setI I 6 (va_cpy (I 26) (I 6) 0 0 6)) 7) 0 0 4)) 28) ((setI (setI I 6 (va_cpy (I 26) (I 6) 0 0 6)) 7 (va_cpy ((setI I 6 (va_cpy (I 26) (I 6) 0 0 6)) 27) ((setI I 6 (va_cpy (I 26) (I 6) 0 0 6)) 7) 0 0 4)) 8) 0 0 4)) 9) 0 0 24)) (fun v9 J => HGo E (mF E (d + 2) Q) me_X9_copyFrom 69 [(0, .ref 1), (1, .ref 21)] (v9.toList ++ []) J))
    : HGo E (mF E (d + 2) Q) me_X9_copyFrom 0 [(0, .ref 1), (1, .ref 21)] [] I := by
  refine h_aload_n dX9_copyFrom_0 rfl 1 rfl ?_
  refine gf_7_4 dX9_copyFrom_1 hl_X9_36 nl_21 zk_21 zp_21_4 ?_
  refine h_iconst (v := 0) dX9_copyFrom_4 (by decide) ?_
  refine h_aload_n dX9_copyFrom_5 rfl 0 rfl ?_
  refine gf_7_4 dX9_copyFrom_6 hl_X9_36 nl_1 zk_1 zp_1_4 ?_
  refine h_iconst (v := 0) dX9_copyFrom_9 (by decide) ?_
  refine h_bipush (v := 6) dX9_copyFrom_10 (by decide) ?_
  refine h_copy dX9_copyFrom_12 wt_295 wt_297 wt_296 wt_14 nl_26 zk_26 nl_6 zk_6 (by decide) (by decide) (by decide) (by rw [zn_26]; decide) (by rw [zn_6]; decide) (h_frm (Nat.le_of_ble_eq_true rfl)).1 ?_
  refine h_aload_n dX9_copyFrom_15 rfl 1 rfl ?_
  refine gf_7_5 dX9_copyFrom_16 hl_X9_40 nl_21 zk_21 zp_21_5 ?_
  refine h_iconst (v := 0) dX9_copyFrom_19 (by decide) ?_
  refine h_aload_n dX9_copyFrom_20 rfl 0 rfl ?_
  refine gf_7_5 dX9_copyFrom_21 hl_X9_40 nl_1 zk_1 zp_1_5 ?_
  refine h_iconst (v := 0) dX9_copyFrom_24 (by decide) ?_
  refine h_iconst (v := 4) dX9_copyFrom_25 (by decide) ?_
  refine h_copy dX9_copyFrom_26 wt_295 wt_297 wt_296 wt_14 nl_27 zk_27 nl_7 zk_7 (by decide) (by decide) (by decide) (by rw [zn_27]; decide) (by rw [zn_7]; decide) (h_frm (Nat.le_of_ble_eq_true rfl)).1 ?_
  refine h_aload_n dX9_copyFrom_29 rfl 1 rfl ?_
  refine gf_7_6 dX9_copyFrom_30 hl_X9_43 nl_21 zk_21 zp_21_6 ?_
  refine h_iconst (v := 0) dX9_copyFrom_33 (by decide) ?_
  refine h_aload_n dX9_copyFrom_34 rfl 0 rfl ?_
  refine gf_7_6 dX9_copyFrom_35 hl_X9_43 nl_1 zk_1 zp_1_6 ?_
  refine h_iconst (v := 0) dX9_copyFrom_38 (by decide) ?_
  refine h_iconst (v := 4) dX9_copyFrom_39 (by decide) ?_
  refine h_copy dX9_copyFrom_40 wt_295 wt_297 wt_296 wt_14 nl_28 zk_28 nl_8 zk_8 (by decide) (by decide) (by decide) (by rw [zn_28]; decide) (by rw [zn_8]; decide) (h_frm (Nat.le_of_ble_eq_true rfl)).1 ?_
  refine h_aload_n dX9_copyFrom_43 rfl 1 rfl ?_
  refine gf_7_7 dX9_copyFrom_44 hl_X9_46 nl_21 zk_21 zp_21_7 ?_
  refine h_iconst (v := 0) dX9_copyFrom_47 (by decide) ?_
  refine h_aload_n dX9_copyFrom_48 rfl 0 rfl ?_
  refine gf_7_7 dX9_copyFrom_49 hl_X9_46 nl_1 zk_1 zp_1_7 ?_
  refine h_iconst (v := 0) dX9_copyFrom_52 (by decide) ?_
  refine h_bipush (v := 24) dX9_copyFrom_53 (by decide) ?_
  refine h_copy dX9_copyFrom_55 wt_295 wt_297 wt_296 wt_14 nl_29 zk_29 nl_9 zk_9 (by decide) (by decide) (by decide) (by rw [zn_29]; decide) (by rw [zn_9]; decide) (h_frm (Nat.le_of_ble_eq_true rfl)).1 ?_
  refine h_aload_n dX9_copyFrom_58 rfl 0 rfl ?_
  refine gf_7_8 dX9_copyFrom_59 hl_X9_52 nl_1 zk_1 zp_1_8 ?_
  refine h_aload_n dX9_copyFrom_62 rfl 1 rfl ?_
  refine gf_7_8 dX9_copyFrom_63 hl_X9_52 nl_21 zk_21 zp_21_8 ?_
  refine h_invV (As := [.ref 30]) (st := []) dX9_copyFrom_66 lk_X9_69 (h_room (by decide)) nl_10 zk_10 (by decide) rfl rfl rfl (Nat.le_of_ble_eq_true rfl) ?_
  exact k1
set_option maxHeartbeats 1000000 in
set_option maxRecDepth 4000 in
theorem sg_X9_copyFrom_69 {E : HEn} {d : Nat} {Q : Option Value → HIh → Prop} {I : HIh} 
    (k1 : Q none (setI (setI (setI I 1 (upd (I 1) 9 (I 21 9))) 1 (upd ((setI I 1 (upd (I 1) 9 (I 21 9))) 1) 10 ((setI I 1 (upd (I 1) 9 (I 21 9))) 21 10))) 1 (upd ((setI (setI I 1 (upd (I 1) 9 (I 21 9))) 1 (upd ((setI I 1 (upd (I 1) 9 (I 21 9))) 1) 10 ((setI I 1 (upd (I 1) 9 (I 21 9))) 21 10))) 1) 11 ((setI (setI I 1 (upd (I 1) 9 (I 21 9))) 1 (upd ((setI I 1 (upd (I 1) 9 (I 21 9))) 1) 10 ((setI I 1 (upd (I 1) 9 (I 21 9))) 21 10))) 21 11))))
    : HGo E (mF E (d + 2) Q) me_X9_copyFrom 69 [(0, .ref 1), (1, .ref 21)] [] I := by
  refine h_aload_n dX9_copyFrom_69 rfl 0 rfl ?_
  refine h_aload_n dX9_copyFrom_70 rfl 1 rfl ?_
  refine gf_7_9 dX9_copyFrom_71 hl_X9_56 nl_21 zk_21 ?_
  refine pf_7_9 dX9_copyFrom_74 hl_X9_56 nl_1 zk_1 ?_
  refine h_aload_n dX9_copyFrom_77 rfl 0 rfl ?_
  refine h_aload_n dX9_copyFrom_78 rfl 1 rfl ?_
  refine gf_7_10 dX9_copyFrom_79 hl_X9_73 nl_21 zk_21 ?_
  refine pf_7_10 dX9_copyFrom_82 hl_X9_73 nl_1 zk_1 ?_
  refine h_aload_n dX9_copyFrom_85 rfl 0 rfl ?_
  refine h_aload_n dX9_copyFrom_86 rfl 1 rfl ?_
  refine gf_7_11 dX9_copyFrom_87 hl_X9_60 nl_21 zk_21 ?_
  refine pf_7_11 dX9_copyFrom_90 hl_X9_60 nl_1 zk_1 ?_
  exact h_vret dX9_copyFrom_93 rfl (k1)
set_option maxHeartbeats 1000000 in
set_option maxRecDepth 4000 in
theorem sg_X9_copyFrom_t_0 {E : HEn} {d : Nat} {Q : Option Value → HIh → Prop} {I : HIh} 
    (k1 : HCall E me_X4_copyFrom (d + 1) [.ref 30, .ref 10] (setI (setI (setI (setI I 26 (va_cpy (I 6) (I 26) 0 0 6)) 27 (va_cpy ((setI I 26 (va_cpy (I 6) (I 26) 0 0 6)) 7) ((setI I 26 (va_cpy (I 6) (I 26) 0 0 6)) 27) 0 0 4)) 28 (va_cpy ((setI (setI I 26 (va_cpy (I 6) (I 26) 0 0 6)) 27 (va_cpy ((setI I 26 (va_cpy (I 6) (I 26) 0 0 6)) 7) ((setI I 26 (va_cpy (I 6) (I 26) 0 0 6)) 27) 0 0 4)) 8) ((setI (setI I 26 (va_cpy (I 6) (I 26) 0 0 6)) 27 (va_cpy ((setI I 26 (va_cpy (I 6) (I 26) 0 0 6)) 7) ((setI I 26 (va_cpy (I 6) (I 26) 0 0 6)) 27) 0 0 4)) 28) 0 0 4)) 29 (va_cpy ((setI (setI (setI I 26 (va_cpy (I 6) (I 26) 0 0 6)) 27 (va_cpy ((setI I 26 (va_cpy (I 6) (I 26) 0 0 6)) 7) ((setI I 26 (va_cpy (I 6) (I 26) 0 0 6)) 27) 0 0 4)) 28 (va_cpy ((setI (setI I 26 (va_cpy (I 6) (I 26) 0 0 6)) 27 (va_cpy ((setI I 26 (va_cpy (I 6) (I 26) 0 0 6)) 7) ((setI I 26 (va_cpy (I 6) (I 26) 0 0 6)) 27) 0 0 4)) 8) ((setI (setI I 26 (va_cpy (I 6) (I 26) 0 0 6)) 27 (va_cpy ((setI I 26 (va_cpy (I 6) (I 26) 0 0 6)) 7) ((setI I 26 (va_cpy (I 6) (I 26) 0 0 6)) 27) 0 0 4)) 28) 0 0 4)) 9) ((setI (setI (setI I 26 (va_cpy (I 6) (I 26) 0 0 6)) 27 (va_cpy ((setI I 26 (va_cpy (I 6) (I 26) 0 0 6)) 7) ((setI I 26 (va_cpy (I 6) (I 26) 0 0 6)) 27) 0 0 4)) 28 (va_cpy ((setI (setI I 26 (va_cpy (I 6) (I 26) 0 0 6)) 27 (va_cpy ((setI I 26 (va_cpy (I 6) (I 26) 0 0 6)) 7) ((setI I 26 (va_cpy (I 6) (I 26) 0 0 6)) 27) 0 0 4)) 8) ((setI (setI I 26 (va_cpy (I 6) (I 26) 0 0 6)) 27 (va_cpy ((setI I 26 (va_cpy (I 6) (I 26) 0 0 6)) 7) ((setI I 26 (va_cpy (I 6) (I 26) 0 0 6)) 27) 0 0 4)) 28) 0 0 4)) 29) 0 0 24)) (fun v9 J => HGo E (mF E (d + 2) Q) me_X9_copyFrom 69 [(0, .ref 21), (1, .ref 1)] (v9.toList ++ []) J))
    : HGo E (mF E (d + 2) Q) me_X9_copyFrom 0 [(0, .ref 21), (1, .ref 1)] [] I := by
  refine h_aload_n dX9_copyFrom_0 rfl 1 rfl ?_
  refine gf_7_4 dX9_copyFrom_1 hl_X9_36 nl_1 zk_1 zp_1_4 ?_
  refine h_iconst (v := 0) dX9_copyFrom_4 (by decide) ?_
  refine h_aload_n dX9_copyFrom_5 rfl 0 rfl ?_
  refine gf_7_4 dX9_copyFrom_6 hl_X9_36 nl_21 zk_21 zp_21_4 ?_
  refine h_iconst (v := 0) dX9_copyFrom_9 (by decide) ?_
  refine h_bipush (v := 6) dX9_copyFrom_10 (by decide) ?_
  refine h_copy dX9_copyFrom_12 wt_295 wt_297 wt_296 wt_14 nl_6 zk_6 nl_26 zk_26 (by decide) (by decide) (by decide) (by rw [zn_6]; decide) (by rw [zn_26]; decide) (h_frm (Nat.le_of_ble_eq_true rfl)).1 ?_
  refine h_aload_n dX9_copyFrom_15 rfl 1 rfl ?_
  refine gf_7_5 dX9_copyFrom_16 hl_X9_40 nl_1 zk_1 zp_1_5 ?_
  refine h_iconst (v := 0) dX9_copyFrom_19 (by decide) ?_
  refine h_aload_n dX9_copyFrom_20 rfl 0 rfl ?_
  refine gf_7_5 dX9_copyFrom_21 hl_X9_40 nl_21 zk_21 zp_21_5 ?_
  refine h_iconst (v := 0) dX9_copyFrom_24 (by decide) ?_
  refine h_iconst (v := 4) dX9_copyFrom_25 (by decide) ?_
  refine h_copy dX9_copyFrom_26 wt_295 wt_297 wt_296 wt_14 nl_7 zk_7 nl_27 zk_27 (by decide) (by decide) (by decide) (by rw [zn_7]; decide) (by rw [zn_27]; decide) (h_frm (Nat.le_of_ble_eq_true rfl)).1 ?_
  refine h_aload_n dX9_copyFrom_29 rfl 1 rfl ?_
  refine gf_7_6 dX9_copyFrom_30 hl_X9_43 nl_1 zk_1 zp_1_6 ?_
  refine h_iconst (v := 0) dX9_copyFrom_33 (by decide) ?_
  refine h_aload_n dX9_copyFrom_34 rfl 0 rfl ?_
  refine gf_7_6 dX9_copyFrom_35 hl_X9_43 nl_21 zk_21 zp_21_6 ?_
  refine h_iconst (v := 0) dX9_copyFrom_38 (by decide) ?_
  refine h_iconst (v := 4) dX9_copyFrom_39 (by decide) ?_
  refine h_copy dX9_copyFrom_40 wt_295 wt_297 wt_296 wt_14 nl_8 zk_8 nl_28 zk_28 (by decide) (by decide) (by decide) (by rw [zn_8]; decide) (by rw [zn_28]; decide) (h_frm (Nat.le_of_ble_eq_true rfl)).1 ?_
  refine h_aload_n dX9_copyFrom_43 rfl 1 rfl ?_
  refine gf_7_7 dX9_copyFrom_44 hl_X9_46 nl_1 zk_1 zp_1_7 ?_
  refine h_iconst (v := 0) dX9_copyFrom_47 (by decide) ?_
  refine h_aload_n dX9_copyFrom_48 rfl 0 rfl ?_
  refine gf_7_7 dX9_copyFrom_49 hl_X9_46 nl_21 zk_21 zp_21_7 ?_
  refine h_iconst (v := 0) dX9_copyFrom_52 (by decide) ?_
  refine h_bipush (v := 24) dX9_copyFrom_53 (by decide) ?_
  refine h_copy dX9_copyFrom_55 wt_295 wt_297 wt_296 wt_14 nl_9 zk_9 nl_29 zk_29 (by decide) (by decide) (by decide) (by rw [zn_9]; decide) (by rw [zn_29]; decide) (h_frm (Nat.le_of_ble_eq_true rfl)).1 ?_
  refine h_aload_n dX9_copyFrom_58 rfl 0 rfl ?_
  refine gf_7_8 dX9_copyFrom_59 hl_X9_52 nl_21 zk_21 zp_21_8 ?_
  refine h_aload_n dX9_copyFrom_62 rfl 1 rfl ?_
  refine gf_7_8 dX9_copyFrom_63 hl_X9_52 nl_1 zk_1 zp_1_8 ?_
  refine h_invV (As := [.ref 10]) (st := []) dX9_copyFrom_66 lk_X9_69 (h_room (by decide)) nl_30 zk_30 (by decide) rfl rfl rfl (Nat.le_of_ble_eq_true rfl) ?_
  exact k1
set_option maxHeartbeats 1000000 in
set_option maxRecDepth 4000 in
theorem sg_X9_copyFrom_t_69 {E : HEn} {d : Nat} {Q : Option Value → HIh → Prop} {I : HIh} 
    (k1 : Q none (setI (setI (setI I 21 (upd (I 21) 9 (I 1 9))) 21 (upd ((setI I 21 (upd (I 21) 9 (I 1 9))) 21) 10 ((setI I 21 (upd (I 21) 9 (I 1 9))) 1 10))) 21 (upd ((setI (setI I 21 (upd (I 21) 9 (I 1 9))) 21 (upd ((setI I 21 (upd (I 21) 9 (I 1 9))) 21) 10 ((setI I 21 (upd (I 21) 9 (I 1 9))) 1 10))) 21) 11 ((setI (setI I 21 (upd (I 21) 9 (I 1 9))) 21 (upd ((setI I 21 (upd (I 21) 9 (I 1 9))) 21) 10 ((setI I 21 (upd (I 21) 9 (I 1 9))) 1 10))) 1 11))))
    : HGo E (mF E (d + 2) Q) me_X9_copyFrom 69 [(0, .ref 21), (1, .ref 1)] [] I := by
  refine h_aload_n dX9_copyFrom_69 rfl 0 rfl ?_
  refine h_aload_n dX9_copyFrom_70 rfl 1 rfl ?_
  refine gf_7_9 dX9_copyFrom_71 hl_X9_56 nl_1 zk_1 ?_
  refine pf_7_9 dX9_copyFrom_74 hl_X9_56 nl_21 zk_21 ?_
  refine h_aload_n dX9_copyFrom_77 rfl 0 rfl ?_
  refine h_aload_n dX9_copyFrom_78 rfl 1 rfl ?_
  refine gf_7_10 dX9_copyFrom_79 hl_X9_73 nl_1 zk_1 ?_
  refine pf_7_10 dX9_copyFrom_82 hl_X9_73 nl_21 zk_21 ?_
  refine h_aload_n dX9_copyFrom_85 rfl 0 rfl ?_
  refine h_aload_n dX9_copyFrom_86 rfl 1 rfl ?_
  refine gf_7_11 dX9_copyFrom_87 hl_X9_60 nl_1 zk_1 ?_
  refine pf_7_11 dX9_copyFrom_90 hl_X9_60 nl_21 zk_21 ?_
  exact h_vret dX9_copyFrom_93 rfl (k1)
set_option maxHeartbeats 1000000 in
set_option maxRecDepth 4000 in
theorem sg_X9_worthOf_0 {E : HEn} {d : Nat} {Q : Option Value → HIh → Prop} {I : HIh} {k : Int32}
    (k1 : k < 0 → Q (some (.int 0)) I)
    (k2 : ¬ k < 0 → 6 ≤ k → Q (some (.int 0)) I)
    (k3 : ¬ k < 0 → ¬ 6 ≤ k → vp_in k 6)
    (k4 : ¬ k < 0 → ¬ 6 ≤ k → Q (some (.int (I 6 k.toNatClampNeg))) I)
    : HGo E (mF E (d + 1) Q) me_X9_worthOf 0 [(0, .ref 1), (1, .int k)] [] I := by
  refine h_iload_n dX9_worthOf_0 rfl 1 rfl ?_
  refine h_if_lt (tgt := 19) dX9_worthOf_1 (by decide) (fun c1 => ?_) (fun c1 => ?_)
  ·
    refine h_iconst (v := 0) dX9_worthOf_19 (by decide) ?_
    exact h_iret dX9_worthOf_20 rfl (k1 c1)
  ·
    refine h_iload_n dX9_worthOf_4 rfl 1 rfl ?_
    refine h_bipush (v := 6) dX9_worthOf_5 (by decide) ?_
    refine h_icmp_ge (tgt := 19) dX9_worthOf_7 (by decide) (fun c2 => ?_) (fun c2 => ?_)
    ·
      refine h_iconst (v := 0) dX9_worthOf_19 (by decide) ?_
      exact h_iret dX9_worthOf_20 rfl (k2 c1 c2)
    ·
      refine h_aload_n dX9_worthOf_10 rfl 0 rfl ?_
      refine gf_7_4 dX9_worthOf_11 hl_X9_36 nl_1 zk_1 zp_1_4 ?_
      refine h_iload_n dX9_worthOf_14 rfl 1 rfl ?_
      refine h_iald dX9_worthOf_15 nl_6 zk_6 (by rw [zn_6]; exact k3 c1 c2) ?_
      refine h_goto (tgt := 20) dX9_worthOf_16 (by decide) ?_
      exact h_iret dX9_worthOf_20 rfl (k4 c1 c2)
set_option maxHeartbeats 1000000 in
set_option maxRecDepth 4000 in
theorem sg_X9_boundOf_0 {E : HEn} {d : Nat} {Q : Option Value → HIh → Prop} {I : HIh} {p : Int32}
    (k1 : p < 0 → Q (some (.int 0)) I)
    (k2 : ¬ p < 0 → 4 ≤ p → Q (some (.int 0)) I)
    (k3 : ¬ p < 0 → ¬ 4 ≤ p → vp_in p 4)
    (k4 : ¬ p < 0 → ¬ 4 ≤ p → Q (some (.int (I 8 p.toNatClampNeg))) I)
    : HGo E (mF E (d + 1) Q) me_X9_boundOf 0 [(0, .ref 1), (1, .int p)] [] I := by
  refine h_iload_n dX9_boundOf_0 rfl 1 rfl ?_
  refine h_if_lt (tgt := 18) dX9_boundOf_1 (by decide) (fun c1 => ?_) (fun c1 => ?_)
  ·
    refine h_iconst (v := 0) dX9_boundOf_18 (by decide) ?_
    exact h_iret dX9_boundOf_19 rfl (k1 c1)
  ·
    refine h_iload_n dX9_boundOf_4 rfl 1 rfl ?_
    refine h_iconst (v := 4) dX9_boundOf_5 (by decide) ?_
    refine h_icmp_ge (tgt := 18) dX9_boundOf_6 (by decide) (fun c2 => ?_) (fun c2 => ?_)
    ·
      refine h_iconst (v := 0) dX9_boundOf_18 (by decide) ?_
      exact h_iret dX9_boundOf_19 rfl (k2 c1 c2)
    ·
      refine h_aload_n dX9_boundOf_9 rfl 0 rfl ?_
      refine gf_7_6 dX9_boundOf_10 hl_X9_43 nl_1 zk_1 zp_1_6 ?_
      refine h_iload_n dX9_boundOf_13 rfl 1 rfl ?_
      refine h_iald dX9_boundOf_14 nl_8 zk_8 (by rw [zn_8]; exact k3 c1 c2) ?_
      refine h_goto (tgt := 19) dX9_boundOf_15 (by decide) ?_
      exact h_iret dX9_boundOf_19 rfl (k4 c1 c2)
set_option maxHeartbeats 1000000 in
set_option maxRecDepth 4000 in
theorem sg_X9_folkOf_0 {E : HEn} {d : Nat} {Q : Option Value → HIh → Prop} {I : HIh} {p : Int32}
    (k1 : (0 : Int32) ≤ p → p < 4 → vp_in p 4)
    (k2 : (0 : Int32) ≤ p → p < 4 → (I 7 p.toNatClampNeg) = 1 → Q (some (.ref 3)) I)
    (k3 : (0 : Int32) ≤ p → p < 4 → ¬ (I 7 p.toNatClampNeg) = 1 → (I 7 p.toNatClampNeg) = 2 → Q (some (.ref 4)) I)
    (k4 : (0 : Int32) ≤ p → p < 4 → ¬ (I 7 p.toNatClampNeg) = 1 → ¬ (I 7 p.toNatClampNeg) = 2 → (I 7 p.toNatClampNeg) = 3 → Q (some (.ref 5)) I)
    (k5 : (0 : Int32) ≤ p → p < 4 → ¬ (I 7 p.toNatClampNeg) = 1 → ¬ (I 7 p.toNatClampNeg) = 2 → ¬ (I 7 p.toNatClampNeg) = 3 → Q (some (.ref 2)) I)
    (k6 : ¬ ((0 : Int32) ≤ p ∧ p < 4) → Q (some (.ref 2)) I)
    : HGo E (mF E (d + 2) Q) me_X9_folkOf 0 [(0, .ref 1), (1, .int p)] [] I := by
  refine h_iload_n dX9_folkOf_0 rfl 1 rfl ?_
  refine h_invN (As := [.int p]) (st := []) dX9_folkOf_1 lk_X9_76 (h_room (by decide)) rfl rfl (Nat.le_of_ble_eq_true rfl) ?_
  refine c_X11_isPerson (fun c1 c2 => ?_) (fun c3 => ?_)
  ·
    refine h_if_eq (tgt := 16) dX9_folkOf_4 (by decide) (fun c => absurd c (by decide)) (fun _ => ?_)
    refine h_aload_n dX9_folkOf_7 rfl 0 rfl ?_
    refine gf_7_5 dX9_folkOf_8 hl_X9_40 nl_1 zk_1 zp_1_5 ?_
    refine h_iload_n dX9_folkOf_11 rfl 1 rfl ?_
    refine h_iald dX9_folkOf_12 nl_7 zk_7 (by rw [zn_7]; exact k1 c1 c2) ?_
    refine h_goto (tgt := 17) dX9_folkOf_13 (by decide) ?_
    by_cases c4 : (I 7 p.toNatClampNeg) = 1
    · refine h_tswIn (off := 27) (tgt := 44) 1 dX9_folkOf_17 (by rw [c4]; rfl) (by decide) (by decide) (by decide) (by decide) ?_
      refine h_aload_n dX9_folkOf_44 rfl 0 rfl ?_
      refine gf_7_1 dX9_folkOf_45 hl_X9_21 nl_1 zk_1 zp_1_1 ?_
      exact h_aret dX9_folkOf_48 rfl (k2 c1 c2 c4)
    by_cases c5 : (I 7 p.toNatClampNeg) = 2
    · refine h_tswIn (off := 32) (tgt := 49) 2 dX9_folkOf_17 (by rw [c5]; rfl) (by decide) (by decide) (by decide) (by decide) ?_
      refine h_aload_n dX9_folkOf_49 rfl 0 rfl ?_
      refine gf_7_2 dX9_folkOf_50 hl_X9_27 nl_1 zk_1 zp_1_2 ?_
      exact h_aret dX9_folkOf_53 rfl (k3 c1 c2 c4 c5)
    by_cases c6 : (I 7 p.toNatClampNeg) = 3
    · refine h_tswIn (off := 37) (tgt := 54) 3 dX9_folkOf_17 (by rw [c6]; rfl) (by decide) (by decide) (by decide) (by decide) ?_
      refine h_aload_n dX9_folkOf_54 rfl 0 rfl ?_
      refine gf_7_3 dX9_folkOf_55 hl_X9_33 nl_1 zk_1 zp_1_3 ?_
      exact h_aret dX9_folkOf_58 rfl (k4 c1 c2 c4 c5 c6)
    refine h_tswOut (tgt := 59) dX9_folkOf_17 (tsw_out103 c4 c5 c6) (by decide) ?_
    refine h_aload_n dX9_folkOf_59 rfl 0 rfl ?_
    refine gf_7_0 dX9_folkOf_60 hl_X9_12 nl_1 zk_1 zp_1_0 ?_
    exact h_aret dX9_folkOf_63 rfl (k5 c1 c2 c4 c5 c6)
  ·
    refine h_if_eq (tgt := 16) dX9_folkOf_4 (by decide) (fun _ => ?_) (fun c => absurd c (by decide))
    refine h_iconst (v := 0) dX9_folkOf_16 (by decide) ?_
    refine h_tswOut (tgt := 59) dX9_folkOf_17 (by decide) (by decide) ?_
    refine h_aload_n dX9_folkOf_59 rfl 0 rfl ?_
    refine gf_7_0 dX9_folkOf_60 hl_X9_12 nl_1 zk_1 zp_1_0 ?_
    exact h_aret dX9_folkOf_63 rfl (k6 c3)
set_option maxHeartbeats 1000000 in
set_option maxRecDepth 4000 in
theorem sg_X9_visitor_0 {E : HEn} {d : Nat} {Q : Option Value → HIh → Prop} {I : HIh} {t : Int32}
    (k1 : t < 0 → Q (some (.int (-1))) I)
    (k2 : ¬ t < 0 → (I 1 10) ≤ t → Q (some (.int (-1))) I)
    (k3 : ¬ t < 0 → ¬ (I 1 10) ≤ t → 24 ≤ t → Q (some (.int (-1))) I)
    (k4 : ¬ t < 0 → ¬ (I 1 10) ≤ t → ¬ 24 ≤ t → vp_in t 24)
    (k5 : ¬ t < 0 → ¬ (I 1 10) ≤ t → ¬ 24 ≤ t → Q (some (.int (I 9 t.toNatClampNeg))) I)
    : HGo E (mF E (d + 1) Q) me_X9_visitor 0 [(0, .ref 1), (1, .int t)] [] I := by
  refine h_iload_n dX9_visitor_0 rfl 1 rfl ?_
  refine h_if_lt (tgt := 27) dX9_visitor_1 (by decide) (fun c1 => ?_) (fun c1 => ?_)
  ·
    refine h_iconst (v := (-1)) dX9_visitor_27 (by decide) ?_
    exact h_iret dX9_visitor_28 rfl (k1 c1)
  ·
    refine h_iload_n dX9_visitor_4 rfl 1 rfl ?_
    refine h_aload_n dX9_visitor_5 rfl 0 rfl ?_
    refine gf_7_10 dX9_visitor_6 hl_X9_73 nl_1 zk_1 ?_
    refine h_icmp_ge (tgt := 27) dX9_visitor_9 (by decide) (fun c2 => ?_) (fun c2 => ?_)
    ·
      refine h_iconst (v := (-1)) dX9_visitor_27 (by decide) ?_
      exact h_iret dX9_visitor_28 rfl (k2 c1 c2)
    ·
      refine h_iload_n dX9_visitor_12 rfl 1 rfl ?_
      refine h_bipush (v := 24) dX9_visitor_13 (by decide) ?_
      refine h_icmp_ge (tgt := 27) dX9_visitor_15 (by decide) (fun c3 => ?_) (fun c3 => ?_)
      ·
        refine h_iconst (v := (-1)) dX9_visitor_27 (by decide) ?_
        exact h_iret dX9_visitor_28 rfl (k3 c1 c2 c3)
      ·
        refine h_aload_n dX9_visitor_18 rfl 0 rfl ?_
        refine gf_7_7 dX9_visitor_19 hl_X9_46 nl_1 zk_1 zp_1_7 ?_
        refine h_iload_n dX9_visitor_22 rfl 1 rfl ?_
        refine h_iald dX9_visitor_23 nl_9 zk_9 (by rw [zn_9]; exact k4 c1 c2 c3) ?_
        refine h_goto (tgt := 28) dX9_visitor_24 (by decide) ?_
        exact h_iret dX9_visitor_28 rfl (k5 c1 c2 c3)
set_option maxHeartbeats 1000000 in
set_option maxRecDepth 4000 in
theorem sg_X9_addKind_0 {E : HEn} {d : Nat} {Q : Option Value → HIh → Prop} {I : HIh} {w : Int32}
    (k1 : (I 21 9) < 0 → Q none I)
    (k2 : ¬ (I 21 9) < 0 → 6 ≤ (I 21 9) → Q none I)
    (k3 : ¬ (I 21 9) < 0 → ¬ 6 ≤ (I 21 9) → vp_in (I 21 9) 6)
    (k4 : ¬ (I 21 9) < 0 → ¬ 6 ≤ (I 21 9) → Q none (setI (setI I 26 (upd (I 26) (I 21 9).toNatClampNeg w)) 21 (upd ((setI I 26 (upd (I 26) (I 21 9).toNatClampNeg w)) 21) 9 (((setI I 26 (upd (I 26) (I 21 9).toNatClampNeg w)) 21 9) + 1))))
    : HGo E (mF E (d + 1) Q) me_X9_addKind 0 [(0, .ref 21), (1, .int w)] [] I := by
  refine h_aload_n dX9_addKind_0 rfl 0 rfl ?_
  refine gf_7_9 dX9_addKind_1 hl_X9_56 nl_21 zk_21 ?_
  refine h_if_lt (tgt := 36) dX9_addKind_4 (by decide) (fun c1 => ?_) (fun c1 => ?_)
  ·
    exact h_vret dX9_addKind_36 rfl (k1 c1)
  ·
    refine h_aload_n dX9_addKind_7 rfl 0 rfl ?_
    refine gf_7_9 dX9_addKind_8 hl_X9_56 nl_21 zk_21 ?_
    refine h_bipush (v := 6) dX9_addKind_11 (by decide) ?_
    refine h_icmp_ge (tgt := 36) dX9_addKind_13 (by decide) (fun c2 => ?_) (fun c2 => ?_)
    ·
      exact h_vret dX9_addKind_36 rfl (k2 c1 c2)
    ·
      refine h_aload_n dX9_addKind_16 rfl 0 rfl ?_
      refine gf_7_4 dX9_addKind_17 hl_X9_36 nl_21 zk_21 zp_21_4 ?_
      refine h_aload_n dX9_addKind_20 rfl 0 rfl ?_
      refine gf_7_9 dX9_addKind_21 hl_X9_56 nl_21 zk_21 ?_
      refine h_iload_n dX9_addKind_24 rfl 1 rfl ?_
      refine h_iast dX9_addKind_25 nl_26 zk_26 (by rw [zn_26]; exact k3 c1 c2) ?_
      refine h_aload_n dX9_addKind_26 rfl 0 rfl ?_
      refine h_dup dX9_addKind_27 rfl ?_
      refine gf_7_9 dX9_addKind_28 hl_X9_56 nl_21 zk_21 ?_
      refine h_iconst (v := 1) dX9_addKind_31 (by decide) ?_
      refine h_iadd dX9_addKind_32 ?_
      refine pf_7_9 dX9_addKind_33 hl_X9_56 nl_21 zk_21 ?_
      exact h_vret dX9_addKind_36 rfl (k4 c1 c2)
set_option maxHeartbeats 1000000 in
set_option maxRecDepth 4000 in
theorem sg_X9_setHabit_0 {E : HEn} {d : Nat} {Q : Option Value → HIh → Prop} {I : HIh} {p : Int32} {b : Int32} {g : Int32}
    (k1 : (0 : Int32) ≤ p → p < 4 → vp_in p 4)
    (k2 : (0 : Int32) ≤ p → p < 4 → Q none (setI (setI I 27 (upd (I 27) p.toNatClampNeg b)) 28 (upd ((setI I 27 (upd (I 27) p.toNatClampNeg b)) 28) p.toNatClampNeg g)))
    (k3 : ¬ ((0 : Int32) ≤ p ∧ p < 4) → Q none I)
    : HGo E (mF E (d + 2) Q) me_X9_setHabit 0 [(0, .ref 21), (1, .int p), (2, .int b), (3, .int g)] [] I := by
  refine h_iload_n dX9_setHabit_0 rfl 1 rfl ?_
  refine h_invN (As := [.int p]) (st := []) dX9_setHabit_1 lk_X9_76 (h_room (by decide)) rfl rfl (Nat.le_of_ble_eq_true rfl) ?_
  refine c_X11_isPerson (fun c1 c2 => ?_) (fun c3 => ?_)
  ·
    refine h_if_eq (tgt := 21) dX9_setHabit_4 (by decide) (fun c => absurd c (by decide)) (fun _ => ?_)
    refine h_aload_n dX9_setHabit_7 rfl 0 rfl ?_
    refine gf_7_5 dX9_setHabit_8 hl_X9_40 nl_21 zk_21 zp_21_5 ?_
    refine h_iload_n dX9_setHabit_11 rfl 1 rfl ?_
    refine h_iload_n dX9_setHabit_12 rfl 2 rfl ?_
    refine h_iast dX9_setHabit_13 nl_27 zk_27 (by rw [zn_27]; exact k1 c1 c2) ?_
    refine h_aload_n dX9_setHabit_14 rfl 0 rfl ?_
    refine gf_7_6 dX9_setHabit_15 hl_X9_43 nl_21 zk_21 zp_21_6 ?_
    refine h_iload_n dX9_setHabit_18 rfl 1 rfl ?_
    refine h_iload_n dX9_setHabit_19 rfl 3 rfl ?_
    refine h_iast dX9_setHabit_20 nl_28 zk_28 (by rw [zn_28]; exact k1 c1 c2) ?_
    exact h_vret dX9_setHabit_21 rfl (k2 c1 c2)
  ·
    refine h_if_eq (tgt := 21) dX9_setHabit_4 (by decide) (fun _ => ?_) (fun c => absurd c (by decide))
    exact h_vret dX9_setHabit_21 rfl (k3 c3)
set_option maxHeartbeats 1000000 in
set_option maxRecDepth 4000 in
theorem sg_X9_addVisit_0 {E : HEn} {d : Nat} {Q : Option Value → HIh → Prop} {I : HIh} {p : Int32}
    (k1 : (I 21 10) < 0 → Q none I)
    (k2 : ¬ (I 21 10) < 0 → 24 ≤ (I 21 10) → Q none I)
    (k3 : ¬ (I 21 10) < 0 → ¬ 24 ≤ (I 21 10) → vp_in (I 21 10) 24)
    (k4 : ¬ (I 21 10) < 0 → ¬ 24 ≤ (I 21 10) → Q none (setI (setI I 29 (upd (I 29) (I 21 10).toNatClampNeg p)) 21 (upd ((setI I 29 (upd (I 29) (I 21 10).toNatClampNeg p)) 21) 10 (((setI I 29 (upd (I 29) (I 21 10).toNatClampNeg p)) 21 10) + 1))))
    : HGo E (mF E (d + 1) Q) me_X9_addVisit 0 [(0, .ref 21), (1, .int p)] [] I := by
  refine h_aload_n dX9_addVisit_0 rfl 0 rfl ?_
  refine gf_7_10 dX9_addVisit_1 hl_X9_73 nl_21 zk_21 ?_
  refine h_if_lt (tgt := 36) dX9_addVisit_4 (by decide) (fun c1 => ?_) (fun c1 => ?_)
  ·
    exact h_vret dX9_addVisit_36 rfl (k1 c1)
  ·
    refine h_aload_n dX9_addVisit_7 rfl 0 rfl ?_
    refine gf_7_10 dX9_addVisit_8 hl_X9_73 nl_21 zk_21 ?_
    refine h_bipush (v := 24) dX9_addVisit_11 (by decide) ?_
    refine h_icmp_ge (tgt := 36) dX9_addVisit_13 (by decide) (fun c2 => ?_) (fun c2 => ?_)
    ·
      exact h_vret dX9_addVisit_36 rfl (k2 c1 c2)
    ·
      refine h_aload_n dX9_addVisit_16 rfl 0 rfl ?_
      refine gf_7_7 dX9_addVisit_17 hl_X9_46 nl_21 zk_21 zp_21_7 ?_
      refine h_aload_n dX9_addVisit_20 rfl 0 rfl ?_
      refine gf_7_10 dX9_addVisit_21 hl_X9_73 nl_21 zk_21 ?_
      refine h_iload_n dX9_addVisit_24 rfl 1 rfl ?_
      refine h_iast dX9_addVisit_25 nl_29 zk_29 (by rw [zn_29]; exact k3 c1 c2) ?_
      refine h_aload_n dX9_addVisit_26 rfl 0 rfl ?_
      refine h_dup dX9_addVisit_27 rfl ?_
      refine gf_7_10 dX9_addVisit_28 hl_X9_73 nl_21 zk_21 ?_
      refine h_iconst (v := 1) dX9_addVisit_31 (by decide) ?_
      refine h_iadd dX9_addVisit_32 ?_
      refine pf_7_10 dX9_addVisit_33 hl_X9_73 nl_21 zk_21 ?_
      exact h_vret dX9_addVisit_36 rfl (k4 c1 c2)
set_option maxHeartbeats 1000000 in
set_option maxRecDepth 4000 in
theorem sg_X9_visitsLeft_0 {E : HEn} {d : Nat} {Q : Option Value → HIh → Prop} {I : HIh} {h : Nat} {z : Int32} (a_h : h < NL) (b_h : Zk h = 3)
    (k1 : HGo E (mF E (d + 2) Q) me_X9_visitsLeft 8 [(0, .ref 1), (2, .int z), (3, .int 0), (4, .int (I h 1))] [] I)
    : HGo E (mF E (d + 2) Q) me_X9_visitsLeft 0 [(0, .ref 1), (1, .ref h), (2, .int z)] [] I := by
  refine h_iconst (v := 0) dX9_visitsLeft_0 (by decide) ?_
  refine h_istore_n (L' := [(3, .int 0), (0, .ref 1), (1, .ref h), (2, .int z)]) dX9_visitsLeft_1 rfl (by decide) rfl ?_
  refine h_aload_n dX9_visitsLeft_2 rfl 2 rfl ?_
  refine gf_3_1 dX9_visitsLeft_3 hl_X9_80 a_h b_h ?_
  refine h_istore (L' := [(4, .int (I h 1)), (3, .int 0), (0, .ref 1), (1, .ref h), (2, .int z)]) dX9_visitsLeft_6 (by decide) rfl ?_
  refine h_pick [2, 4, 1, 0] [(0, .ref 1), (2, .int z), (3, .int 0), (4, .int (I h 1))] rfl ?_
  exact k1
set_option maxHeartbeats 1000000 in
set_option maxRecDepth 4000 in
theorem sg_X9_visitsLeft_8 {E : HEn} {d : Nat} {Q : Option Value → HIh → Prop} {I : HIh} {x2 : Int32} {x3 : Int32} {x4 : Int32}
    (k1 : (I 1 10) ≤ x4 → Q (some (.int x3)) I)
    (k2 : ¬ (I 1 10) ≤ x4 → HCall E me_X9_visitor (d + 1) [.ref 1, .int x4] I (fun v9 J => HGo E (mF E (d + 2) Q) me_X9_visitsLeft 25 [(0, .ref 1), (2, .int x2), (4, .int x4)] (v9.toList ++ [.int x2, .int x3]) J))
    : HGo E (mF E (d + 2) Q) me_X9_visitsLeft 8 [(0, .ref 1), (2, .int x2), (3, .int x3), (4, .int x4)] [] I := by
  refine h_iload dX9_visitsLeft_8 3 rfl ?_
  refine h_aload_n dX9_visitsLeft_10 rfl 0 rfl ?_
  refine gf_7_10 dX9_visitsLeft_11 hl_X9_73 nl_1 zk_1 ?_
  refine h_icmp_ge (tgt := 36) dX9_visitsLeft_14 (by decide) (fun c1 => ?_) (fun c1 => ?_)
  ·
    refine h_iload_n dX9_visitsLeft_36 rfl 2 rfl ?_
    exact h_iret dX9_visitsLeft_37 rfl (k1 c1)
  ·
    refine h_iload_n dX9_visitsLeft_17 rfl 2 rfl ?_
    refine h_iload_n dX9_visitsLeft_18 rfl 1 rfl ?_
    refine h_aload_n dX9_visitsLeft_19 rfl 0 rfl ?_
    refine h_iload dX9_visitsLeft_20 3 rfl ?_
    refine h_pick [0, 1, 3] [(0, .ref 1), (2, .int x2), (4, .int x4)] rfl ?_
    refine h_invV (As := [.int x4]) (st := [.int x2, .int x3]) dX9_visitsLeft_22 lk_X9_83 (h_room (by decide)) nl_1 zk_1 (by decide) rfl rfl rfl (Nat.le_of_ble_eq_true rfl) ?_
    exact k2 c1
set_option maxHeartbeats 1000000 in
set_option maxRecDepth 4000 in
theorem sg_X9_visitsLeft_25 {E : HEn} {d : Nat} {Q : Option Value → HIh → Prop} {I : HIh} {x2 : Int32} {x4 : Int32} {s0 : Int32} {s1 : Int32} {s2 : Int32}
    (k1 : HGo E (mF E (d + 2) Q) me_X9_visitsLeft 8 [(0, .ref 1), (2, .int x2), (3, .int (s2 + ((s1 >>> (s0 &&& 31)) &&& 1))), (4, .int (x4 + 1))] [] I)
    : HGo E (mF E (d + 2) Q) me_X9_visitsLeft 25 [(0, .ref 1), (2, .int x2), (4, .int x4)] [.int s0, .int s1, .int s2] I := by
  refine h_ishr dX9_visitsLeft_25 ?_
  refine h_iconst (v := 1) dX9_visitsLeft_26 (by decide) ?_
  refine h_iand dX9_visitsLeft_27 ?_
  refine h_iadd dX9_visitsLeft_28 ?_
  refine h_istore_n (L' := [(3, .int (s2 + ((s1 >>> (s0 &&& 31)) &&& 1))), (0, .ref 1), (2, .int x2), (4, .int x4)]) dX9_visitsLeft_29 rfl (by decide) rfl ?_
  refine h_iinc (v := (x4 + 1)) (L' := [(4, .int (x4 + 1)), (3, .int (s2 + ((s1 >>> (s0 &&& 31)) &&& 1))), (0, .ref 1), (2, .int x2)]) dX9_visitsLeft_30 3 rfl rfl (by decide) rfl ?_
  refine h_goto (tgt := 8) dX9_visitsLeft_33 (by decide) ?_
  refine h_pick [2, 3, 1, 0] [(0, .ref 1), (2, .int x2), (3, .int (s2 + ((s1 >>> (s0 &&& 31)) &&& 1))), (4, .int (x4 + 1))] rfl ?_
  exact k1
set_option maxHeartbeats 1000000 in
set_option maxRecDepth 4000 in
theorem sg_X9_wealth_0 {E : HEn} {d : Nat} {Q : Option Value → HIh → Prop} {I : HIh} {h : Nat} {o : Int32} (a_h : h < NL) (b_h : Zk h = 3)
    (k1 : HGo E (mF E (d + 2) Q) me_X9_wealth 5 [(0, .ref 1), (1, .ref h), (2, .int o), (3, .int 0), (4, .int 0)] [] I)
    : HGo E (mF E (d + 2) Q) me_X9_wealth 0 [(0, .ref 1), (1, .ref h), (2, .int o)] [] I := by
  refine h_iconst (v := 0) dX9_wealth_0 (by decide) ?_
  refine h_istore_n (L' := [(3, .int 0), (0, .ref 1), (1, .ref h), (2, .int o)]) dX9_wealth_1 rfl (by decide) rfl ?_
  refine h_iconst (v := 0) dX9_wealth_2 (by decide) ?_
  refine h_istore (L' := [(4, .int 0), (3, .int 0), (0, .ref 1), (1, .ref h), (2, .int o)]) dX9_wealth_3 (by decide) rfl ?_
  refine h_pick [2, 3, 4, 1, 0] [(0, .ref 1), (1, .ref h), (2, .int o), (3, .int 0), (4, .int 0)] rfl ?_
  exact k1
set_option maxHeartbeats 1000000 in
set_option maxRecDepth 4000 in
theorem sg_X9_wealth_5 {E : HEn} {d : Nat} {Q : Option Value → HIh → Prop} {I : HIh} {h : Nat} {x2 : Int32} {x3 : Int32} {x4 : Int32} (a_h : h < NL) (b_h : Zk h = 3)
    (k1 : (I 1 9) ≤ x4 → Q (some (.int x3)) I)
    (k2 : ¬ (I 1 9) ≤ x4 → HCall E me_X9_worthOf (d + 1) [.ref 1, .int x4] I (fun v9 J => HGo E (mF E (d + 2) Q) me_X9_wealth 21 [(0, .ref 1), (1, .ref h), (2, .int x2), (4, .int x4)] (v9.toList ++ [.int x3]) J))
    : HGo E (mF E (d + 2) Q) me_X9_wealth 5 [(0, .ref 1), (1, .ref h), (2, .int x2), (3, .int x3), (4, .int x4)] [] I := by
  refine h_iload dX9_wealth_5 4 rfl ?_
  refine h_aload_n dX9_wealth_7 rfl 0 rfl ?_
  refine gf_7_9 dX9_wealth_8 hl_X9_56 nl_1 zk_1 ?_
  refine h_icmp_ge (tgt := 37) dX9_wealth_11 (by decide) (fun c1 => ?_) (fun c1 => ?_)
  ·
    refine h_iload_n dX9_wealth_37 rfl 3 rfl ?_
    exact h_iret dX9_wealth_38 rfl (k1 c1)
  ·
    refine h_iload_n dX9_wealth_14 rfl 3 rfl ?_
    refine h_aload_n dX9_wealth_15 rfl 0 rfl ?_
    refine h_iload dX9_wealth_16 4 rfl ?_
    refine h_pick [0, 1, 2, 4] [(0, .ref 1), (1, .ref h), (2, .int x2), (4, .int x4)] rfl ?_
    refine h_invV (As := [.int x4]) (st := [.int x3]) dX9_wealth_18 lk_X9_87 (h_room (by decide)) nl_1 zk_1 (by decide) rfl rfl rfl (Nat.le_of_ble_eq_true rfl) ?_
    exact k2 c1
set_option maxHeartbeats 1000000 in
set_option maxRecDepth 4000 in
theorem sg_X9_wealth_21 {E : HEn} {d : Nat} {Q : Option Value → HIh → Prop} {I : HIh} {h : Nat} {x2 : Int32} {x4 : Int32} {s0 : Int32} {s1 : Int32} (a_h : h < NL) (b_h : Zk h = 3)
    (k1 : HCall E me_X4_of (d + 1) [.ref h, .int x2, .int x4] I (fun v9 J => HGo E (mF E (d + 2) Q) me_X9_wealth 28 [(0, .ref 1), (1, .ref h), (2, .int x2), (4, .int x4)] (v9.toList ++ [.int s0, .int s1]) J))
    : HGo E (mF E (d + 2) Q) me_X9_wealth 21 [(0, .ref 1), (1, .ref h), (2, .int x2), (4, .int x4)] [.int s0, .int s1] I := by
  refine h_aload_n dX9_wealth_21 rfl 1 rfl ?_
  refine h_iload_n dX9_wealth_22 rfl 2 rfl ?_
  refine h_iload dX9_wealth_23 3 rfl ?_
  refine h_invV (As := [.int x2, .int x4]) (st := [.int s0, .int s1]) dX9_wealth_25 lk_X9_90 (h_room (by decide)) a_h b_h (by decide) rfl rfl rfl (Nat.le_of_ble_eq_true rfl) ?_
  exact k1
set_option maxHeartbeats 1000000 in
set_option maxRecDepth 4000 in
theorem sg_X9_wealth_28 {E : HEn} {d : Nat} {Q : Option Value → HIh → Prop} {I : HIh} {h : Nat} {x2 : Int32} {x4 : Int32} {s0 : Int32} {s1 : Int32} {s2 : Int32} (a_h : h < NL) (b_h : Zk h = 3)
    (k1 : HGo E (mF E (d + 2) Q) me_X9_wealth 5 [(0, .ref 1), (1, .ref h), (2, .int x2), (3, .int (s2 + (s1 * s0))), (4, .int (x4 + 1))] [] I)
    : HGo E (mF E (d + 2) Q) me_X9_wealth 28 [(0, .ref 1), (1, .ref h), (2, .int x2), (4, .int x4)] [.int s0, .int s1, .int s2] I := by
  refine h_imul dX9_wealth_28 ?_
  refine h_iadd dX9_wealth_29 ?_
  refine h_istore_n (L' := [(3, .int (s2 + (s1 * s0))), (0, .ref 1), (1, .ref h), (2, .int x2), (4, .int x4)]) dX9_wealth_30 rfl (by decide) rfl ?_
  refine h_iinc (v := (x4 + 1)) (L' := [(4, .int (x4 + 1)), (3, .int (s2 + (s1 * s0))), (0, .ref 1), (1, .ref h), (2, .int x2)]) dX9_wealth_31 4 rfl rfl (by decide) rfl ?_
  refine h_goto (tgt := 5) dX9_wealth_34 (by decide) ?_
  refine h_pick [2, 3, 4, 1, 0] [(0, .ref 1), (1, .ref h), (2, .int x2), (3, .int (s2 + (s1 * s0))), (4, .int (x4 + 1))] rfl ?_
  exact k1
set_option maxHeartbeats 1000000 in
set_option maxRecDepth 4000 in
theorem sg_X9_gainOf_0 {E : HEn} {d : Nat} {Q : Option Value → HIh → Prop} {I : HIh} {h : Nat} {k : Int32} (a_h : h < NL) (b_h : Zk h = 3)
    (k1 : HCall E me_X9_worthOf (d + 1) [.ref 1, .int k] I (fun v9 J => HGo E (mF E (d + 2) Q) me_X9_gainOf 5 [(0, .ref 1), (1, .ref h), (2, .int k)] (v9.toList ++ []) J))
    : HGo E (mF E (d + 2) Q) me_X9_gainOf 0 [(0, .ref 1), (1, .ref h), (2, .int k)] [] I := by
  refine h_aload_n dX9_gainOf_0 rfl 0 rfl ?_
  refine h_iload_n dX9_gainOf_1 rfl 2 rfl ?_
  refine h_invV (As := [.int k]) (st := []) dX9_gainOf_2 lk_X9_87 (h_room (by decide)) nl_1 zk_1 (by decide) rfl rfl rfl (Nat.le_of_ble_eq_true rfl) ?_
  exact k1
set_option maxHeartbeats 1000000 in
set_option maxRecDepth 4000 in
theorem sg_X9_gainOf_5 {E : HEn} {d : Nat} {Q : Option Value → HIh → Prop} {I : HIh} {h : Nat} {x2 : Int32} {s0 : Int32} (a_h : h < NL) (b_h : Zk h = 3)
    (k1 : I 1 11 = 1 → HGo E (mF E (d + 2) Q) me_X9_gainOf 14 [(0, .ref 1), (1, .ref h), (3, .int (-s0)), (4, .int x2)] [] I)
    (k2 : ¬ I 1 11 = 1 → HGo E (mF E (d + 2) Q) me_X9_gainOf 14 [(0, .ref 1), (1, .ref h), (3, .int (-s0)), (4, .int (x2 - 1))] [] I)
    : HGo E (mF E (d + 2) Q) me_X9_gainOf 5 [(0, .ref 1), (1, .ref h), (2, .int x2)] [.int s0] I := by
  refine h_ineg dX9_gainOf_5 ?_
  refine h_istore_n (L' := [(3, .int (-s0)), (0, .ref 1), (1, .ref h), (2, .int x2)]) dX9_gainOf_6 rfl (by decide) rfl ?_
  refine h_aload_n dX9_gainOf_7 rfl 1 rfl ?_
  refine h_iload_n dX9_gainOf_8 rfl 3 rfl ?_
  refine h_invV (As := [.int x2]) (st := []) dX9_gainOf_9 lk_X9_94 (h_room (by decide)) nl_1 zk_1 (by decide) rfl rfl rfl (Nat.le_of_ble_eq_true rfl) ?_
  refine c_X9_greatestTaken (fun c1 => ?_) (fun c2 => ?_)
  ·
    refine h_istore (L' := [(4, .int x2), (3, .int (-s0)), (0, .ref 1), (1, .ref h), (2, .int x2)]) dX9_gainOf_12 (by decide) rfl ?_
    refine h_pick [2, 3, 1, 0] [(0, .ref 1), (1, .ref h), (3, .int (-s0)), (4, .int x2)] rfl ?_
    exact k1 c1
  ·
    refine h_istore (L' := [(4, .int (x2 - 1)), (3, .int (-s0)), (0, .ref 1), (1, .ref h), (2, .int x2)]) dX9_gainOf_12 (by decide) rfl ?_
    refine h_pick [2, 3, 1, 0] [(0, .ref 1), (1, .ref h), (3, .int (-s0)), (4, .int (x2 - 1))] rfl ?_
    exact k2 c2
set_option maxHeartbeats 1000000 in
set_option maxRecDepth 4000 in
theorem sg_X9_gainOf_14 {E : HEn} {d : Nat} {Q : Option Value → HIh → Prop} {I : HIh} {h : Nat} {x3 : Int32} {x4 : Int32} (a_h : h < NL) (b_h : Zk h = 3)
    (k1 : x4 < 0 → Q (some (.int x3)) I)
    (k2 : ¬ x4 < 0 → HCall E me_X4_of (d + 1) [.ref h, .int 4, .int x4] I (fun v9 J => HGo E (mF E (d + 2) Q) me_X9_gainOf 26 [(0, .ref 1), (1, .ref h), (3, .int x3), (4, .int x4)] (v9.toList ++ []) J))
    : HGo E (mF E (d + 2) Q) me_X9_gainOf 14 [(0, .ref 1), (1, .ref h), (3, .int x3), (4, .int x4)] [] I := by
  refine h_iload dX9_gainOf_14 3 rfl ?_
  refine h_if_lt (tgt := 68) dX9_gainOf_16 (by decide) (fun c1 => ?_) (fun c1 => ?_)
  ·
    refine h_iload_n dX9_gainOf_68 rfl 2 rfl ?_
    exact h_iret dX9_gainOf_69 rfl (k1 c1)
  ·
    refine h_aload_n dX9_gainOf_19 rfl 1 rfl ?_
    refine h_iconst (v := 4) dX9_gainOf_20 (by decide) ?_
    refine h_iload dX9_gainOf_21 3 rfl ?_
    refine h_invV (As := [.int 4, .int x4]) (st := []) dX9_gainOf_23 lk_X9_90 (h_room (by decide)) a_h b_h (by decide) rfl rfl rfl (Nat.le_of_ble_eq_true rfl) ?_
    exact k2 c1
set_option maxHeartbeats 1000000 in
set_option maxRecDepth 4000 in
theorem sg_X9_gainOf_26 {E : HEn} {d : Nat} {Q : Option Value → HIh → Prop} {I : HIh} {h : Nat} {x3 : Int32} {x4 : Int32} {s0 : Int32} (a_h : h < NL) (b_h : Zk h = 3)
    (k1 : I 1 11 = 2 → HCall E me_X9_worthOf (d + 1) [.ref 1, .int x4] I (fun v9 J => HGo E (mF E (d + 2) Q) me_X9_gainOf 42 [(0, .ref 1), (1, .ref h), (4, .int x4), (5, .int (if 1 < s0 then 1 else s0))] (v9.toList ++ [.int x3]) J))
    (k2 : ¬ I 1 11 = 2 → HCall E me_X9_worthOf (d + 1) [.ref 1, .int x4] I (fun v9 J => HGo E (mF E (d + 2) Q) me_X9_gainOf 42 [(0, .ref 1), (1, .ref h), (4, .int x4), (5, .int (if 2147483647 < s0 then 2147483647 else s0))] (v9.toList ++ [.int x3]) J))
    : HGo E (mF E (d + 2) Q) me_X9_gainOf 26 [(0, .ref 1), (1, .ref h), (3, .int x3), (4, .int x4)] [.int s0] I := by
  refine h_aload_n dX9_gainOf_26 rfl 0 rfl ?_
  refine h_invV (As := []) (st := [.int s0]) dX9_gainOf_27 lk_X9_97 (h_room (by decide)) nl_1 zk_1 (by decide) rfl rfl rfl (Nat.le_of_ble_eq_true rfl) ?_
  refine c_X9_mostTakenOfKind (fun c1 => ?_) (fun c2 => ?_)
  ·
    refine h_min dX9_gainOf_30 wt_570 wt_315 wt_15 wt_316 (h_frm (Nat.le_of_ble_eq_true rfl)) ?_
    refine h_istore (L' := [(5, .int (if 1 < s0 then 1 else s0)), (0, .ref 1), (1, .ref h), (3, .int x3), (4, .int x4)]) dX9_gainOf_33 (by decide) rfl ?_
    refine h_iload_n dX9_gainOf_35 rfl 3 rfl ?_
    refine h_aload_n dX9_gainOf_36 rfl 1 rfl ?_
    refine h_iload dX9_gainOf_37 4 rfl ?_
    refine h_pick [1, 2, 4, 0] [(0, .ref 1), (1, .ref h), (4, .int x4), (5, .int (if 1 < s0 then 1 else s0))] rfl ?_
    refine h_invV (As := [.int x4]) (st := [.int x3]) dX9_gainOf_39 lk_X9_87 (h_room (by decide)) nl_1 zk_1 (by decide) rfl rfl rfl (Nat.le_of_ble_eq_true rfl) ?_
    exact k1 c1
  ·
    refine h_min dX9_gainOf_30 wt_570 wt_315 wt_15 wt_316 (h_frm (Nat.le_of_ble_eq_true rfl)) ?_
    refine h_istore (L' := [(5, .int (if 2147483647 < s0 then 2147483647 else s0)), (0, .ref 1), (1, .ref h), (3, .int x3), (4, .int x4)]) dX9_gainOf_33 (by decide) rfl ?_
    refine h_iload_n dX9_gainOf_35 rfl 3 rfl ?_
    refine h_aload_n dX9_gainOf_36 rfl 1 rfl ?_
    refine h_iload dX9_gainOf_37 4 rfl ?_
    refine h_pick [1, 2, 4, 0] [(0, .ref 1), (1, .ref h), (4, .int x4), (5, .int (if 2147483647 < s0 then 2147483647 else s0))] rfl ?_
    refine h_invV (As := [.int x4]) (st := [.int x3]) dX9_gainOf_39 lk_X9_87 (h_room (by decide)) nl_1 zk_1 (by decide) rfl rfl rfl (Nat.le_of_ble_eq_true rfl) ?_
    exact k2 c2
set_option maxHeartbeats 1000000 in
set_option maxRecDepth 4000 in
theorem sg_X9_gainOf_42 {E : HEn} {d : Nat} {Q : Option Value → HIh → Prop} {I : HIh} {h : Nat} {x4 : Int32} {x5 : Int32} {s0 : Int32} {s1 : Int32} (a_h : h < NL) (b_h : Zk h = 3)
    (k1 : x5 ≤ 0 → HGo E (mF E (d + 2) Q) me_X9_gainOf 14 [(0, .ref 1), (1, .ref h), (3, .int (s1 + (s0 * x5))), (4, .int (x4 + (-1)))] [] I)
    (k2 : ¬ x5 ≤ 0 → I 1 11 = 2 ∨ I 1 11 = 3 → Q (some (.int (s1 + (s0 * x5)))) I)
    (k3 : ¬ x5 ≤ 0 → ¬ (I 1 11 = 2 ∨ I 1 11 = 3) → HGo E (mF E (d + 2) Q) me_X9_gainOf 14 [(0, .ref 1), (1, .ref h), (3, .int (s1 + (s0 * x5))), (4, .int (x4 + (-1)))] [] I)
    : HGo E (mF E (d + 2) Q) me_X9_gainOf 42 [(0, .ref 1), (1, .ref h), (4, .int x4), (5, .int x5)] [.int s0, .int s1] I := by
  refine h_iload dX9_gainOf_42 3 rfl ?_
  refine h_imul dX9_gainOf_44 ?_
  refine h_iadd dX9_gainOf_45 ?_
  refine h_istore_n (L' := [(3, .int (s1 + (s0 * x5))), (0, .ref 1), (1, .ref h), (4, .int x4), (5, .int x5)]) dX9_gainOf_46 rfl (by decide) rfl ?_
  refine h_iload dX9_gainOf_47 4 rfl ?_
  refine h_if_le (tgt := 62) dX9_gainOf_49 (by decide) (fun c1 => ?_) (fun c1 => ?_)
  ·
    refine h_iinc (v := (x4 + (-1))) (L' := [(4, .int (x4 + (-1))), (3, .int (s1 + (s0 * x5))), (0, .ref 1), (1, .ref h), (5, .int x5)]) dX9_gainOf_62 3 rfl rfl (by decide) rfl ?_
    refine h_goto (tgt := 14) dX9_gainOf_65 (by decide) ?_
    refine h_pick [2, 3, 1, 0] [(0, .ref 1), (1, .ref h), (3, .int (s1 + (s0 * x5))), (4, .int (x4 + (-1)))] rfl ?_
    exact k1 c1
  ·
    refine h_aload_n dX9_gainOf_52 rfl 1 rfl ?_
    refine h_invV (As := []) (st := []) dX9_gainOf_53 lk_X9_106 (h_room (by decide)) nl_1 zk_1 (by decide) rfl rfl rfl (Nat.le_of_ble_eq_true rfl) ?_
    refine c_X9_takesOneKind (fun c2 => ?_) (fun c3 => ?_)
    ·
      refine h_if_eq (tgt := 62) dX9_gainOf_56 (by decide) (fun c => absurd c (by decide)) (fun _ => ?_)
      refine h_goto (tgt := 68) dX9_gainOf_59 (by decide) ?_
      refine h_iload_n dX9_gainOf_68 rfl 0 rfl ?_
      exact h_iret dX9_gainOf_69 rfl (k2 c1 c2)
    ·
      refine h_if_eq (tgt := 62) dX9_gainOf_56 (by decide) (fun _ => ?_) (fun c => absurd c (by decide))
      refine h_iinc (v := (x4 + (-1))) (L' := [(4, .int (x4 + (-1))), (3, .int (s1 + (s0 * x5))), (0, .ref 1), (1, .ref h), (5, .int x5)]) dX9_gainOf_62 3 rfl rfl (by decide) rfl ?_
      refine h_goto (tgt := 14) dX9_gainOf_65 (by decide) ?_
      refine h_pick [2, 3, 1, 0] [(0, .ref 1), (1, .ref h), (3, .int (s1 + (s0 * x5))), (4, .int (x4 + (-1)))] rfl ?_
      exact k3 c1 c3
set_option maxHeartbeats 1000000 in
set_option maxRecDepth 4000 in
theorem sg_X9_throwCoin_0 {E : HEn} {d : Nat} {Q : Option Value → HIh → Prop} {I : HIh} {h : Nat} {p : Int32} {k : Int32} (a_h : h < NL) (b_h : Zk h = 3)
    (k1 : I 1 11 = 1 → HGo E (mF E (d + 2) Q) me_X9_throwCoin 7 [(0, .ref 1), (1, .ref h), (2, .int p), (3, .int k), (4, .int k)] [] I)
    (k2 : ¬ I 1 11 = 1 → HGo E (mF E (d + 2) Q) me_X9_throwCoin 7 [(0, .ref 1), (1, .ref h), (2, .int p), (3, .int k), (4, .int (k - 1))] [] I)
    : HGo E (mF E (d + 2) Q) me_X9_throwCoin 0 [(0, .ref 1), (1, .ref h), (2, .int p), (3, .int k)] [] I := by
  refine h_aload_n dX9_throwCoin_0 rfl 0 rfl ?_
  refine h_iload_n dX9_throwCoin_1 rfl 3 rfl ?_
  refine h_invV (As := [.int k]) (st := []) dX9_throwCoin_2 lk_X9_94 (h_room (by decide)) nl_1 zk_1 (by decide) rfl rfl rfl (Nat.le_of_ble_eq_true rfl) ?_
  refine c_X9_greatestTaken (fun c1 => ?_) (fun c2 => ?_)
  ·
    refine h_istore (L' := [(4, .int k), (0, .ref 1), (1, .ref h), (2, .int p), (3, .int k)]) dX9_throwCoin_5 (by decide) rfl ?_
    refine h_pick [1, 2, 3, 4, 0] [(0, .ref 1), (1, .ref h), (2, .int p), (3, .int k), (4, .int k)] rfl ?_
    exact k1 c1
  ·
    refine h_istore (L' := [(4, .int (k - 1)), (0, .ref 1), (1, .ref h), (2, .int p), (3, .int k)]) dX9_throwCoin_5 (by decide) rfl ?_
    refine h_pick [1, 2, 3, 4, 0] [(0, .ref 1), (1, .ref h), (2, .int p), (3, .int k), (4, .int (k - 1))] rfl ?_
    exact k2 c2
set_option maxHeartbeats 1000000 in
set_option maxRecDepth 4000 in
theorem sg_X9_throwCoin_7 {E : HEn} {d : Nat} {Q : Option Value → HIh → Prop} {I : HIh} {h : Nat} {x2 : Int32} {x3 : Int32} {x4 : Int32} (a_h : h < NL) (b_h : Zk h = 3)
    (k1 : x4 < 0 → HCall E me_X4_add (d + 1) [.ref h, .int x2, .int x3, .int (-1)] I (fun v9 J => HGo E (mF E (d + 2) Q) me_X9_throwCoin 75 [(1, .ref h), (3, .int x3)] (v9.toList ++ []) J))
    (k2 : ¬ x4 < 0 → HCall E me_X4_of (d + 1) [.ref h, .int 4, .int x4] I (fun v9 J => HGo E (mF E (d + 2) Q) me_X9_throwCoin 19 [(0, .ref 1), (1, .ref h), (2, .int x2), (3, .int x3), (4, .int x4)] (v9.toList ++ []) J))
    : HGo E (mF E (d + 2) Q) me_X9_throwCoin 7 [(0, .ref 1), (1, .ref h), (2, .int x2), (3, .int x3), (4, .int x4)] [] I := by
  refine h_iload dX9_throwCoin_7 4 rfl ?_
  refine h_if_lt (tgt := 68) dX9_throwCoin_9 (by decide) (fun c1 => ?_) (fun c1 => ?_)
  ·
    refine h_aload_n dX9_throwCoin_68 rfl 1 rfl ?_
    refine h_iload_n dX9_throwCoin_69 rfl 2 rfl ?_
    refine h_iload_n dX9_throwCoin_70 rfl 3 rfl ?_
    refine h_iconst (v := (-1)) dX9_throwCoin_71 (by decide) ?_
    refine h_pick [1, 3] [(1, .ref h), (3, .int x3)] rfl ?_
    refine h_invV (As := [.int x2, .int x3, .int (-1)]) (st := []) dX9_throwCoin_72 lk_X9_110 (h_room (by decide)) a_h b_h (by decide) rfl rfl rfl (Nat.le_of_ble_eq_true rfl) ?_
    exact k1 c1
  ·
    refine h_aload_n dX9_throwCoin_12 rfl 1 rfl ?_
    refine h_iconst (v := 4) dX9_throwCoin_13 (by decide) ?_
    refine h_iload dX9_throwCoin_14 4 rfl ?_
    refine h_invV (As := [.int 4, .int x4]) (st := []) dX9_throwCoin_16 lk_X9_90 (h_room (by decide)) a_h b_h (by decide) rfl rfl rfl (Nat.le_of_ble_eq_true rfl) ?_
    exact k2 c1
set_option maxHeartbeats 1000000 in
set_option maxRecDepth 4000 in
theorem sg_X9_throwCoin_75 {E : HEn} {d : Nat} {Q : Option Value → HIh → Prop} {I : HIh} {h : Nat} {x3 : Int32} (a_h : h < NL) (b_h : Zk h = 3)
    (k1 : HCall E me_X4_add (d + 1) [.ref h, .int 4, .int x3, .int 1] I (fun v9 J => HGo E (mF E (d + 2) Q) me_X9_throwCoin 82 [] (v9.toList ++ []) J))
    : HGo E (mF E (d + 2) Q) me_X9_throwCoin 75 [(1, .ref h), (3, .int x3)] [] I := by
  refine h_aload_n dX9_throwCoin_75 rfl 0 rfl ?_
  refine h_iconst (v := 4) dX9_throwCoin_76 (by decide) ?_
  refine h_iload_n dX9_throwCoin_77 rfl 1 rfl ?_
  refine h_iconst (v := 1) dX9_throwCoin_78 (by decide) ?_
  refine h_pick [] [] rfl ?_
  refine h_invV (As := [.int 4, .int x3, .int 1]) (st := []) dX9_throwCoin_79 lk_X9_110 (h_room (by decide)) a_h b_h (by decide) rfl rfl rfl (Nat.le_of_ble_eq_true rfl) ?_
  exact k1
set_option maxHeartbeats 1000000 in
set_option maxRecDepth 4000 in
theorem sg_X9_throwCoin_19 {E : HEn} {d : Nat} {Q : Option Value → HIh → Prop} {I : HIh} {h : Nat} {x2 : Int32} {x3 : Int32} {x4 : Int32} {s0 : Int32} (a_h : h < NL) (b_h : Zk h = 3)
    (k1 : I 1 11 = 2 → HCall E me_X4_add (d + 1) [.ref h, .int 4, .int x4, .int (-(if 1 < s0 then 1 else s0))] I (fun v9 J => HGo E (mF E (d + 2) Q) me_X9_throwCoin 38 [(0, .ref 1), (1, .ref h), (2, .int x2), (3, .int x3), (4, .int x4), (5, .int (if 1 < s0 then 1 else s0))] (v9.toList ++ []) J))
    (k2 : ¬ I 1 11 = 2 → HCall E me_X4_add (d + 1) [.ref h, .int 4, .int x4, .int (-(if 2147483647 < s0 then 2147483647 else s0))] I (fun v9 J => HGo E (mF E (d + 2) Q) me_X9_throwCoin 38 [(0, .ref 1), (1, .ref h), (2, .int x2), (3, .int x3), (4, .int x4), (5, .int (if 2147483647 < s0 then 2147483647 else s0))] (v9.toList ++ []) J))
    : HGo E (mF E (d + 2) Q) me_X9_throwCoin 19 [(0, .ref 1), (1, .ref h), (2, .int x2), (3, .int x3), (4, .int x4)] [.int s0] I := by
  refine h_aload_n dX9_throwCoin_19 rfl 0 rfl ?_
  refine h_invV (As := []) (st := [.int s0]) dX9_throwCoin_20 lk_X9_97 (h_room (by decide)) nl_1 zk_1 (by decide) rfl rfl rfl (Nat.le_of_ble_eq_true rfl) ?_
  refine c_X9_mostTakenOfKind (fun c1 => ?_) (fun c2 => ?_)
  ·
    refine h_min dX9_throwCoin_23 wt_570 wt_315 wt_15 wt_316 (h_frm (Nat.le_of_ble_eq_true rfl)) ?_
    refine h_istore (L' := [(5, .int (if 1 < s0 then 1 else s0)), (0, .ref 1), (1, .ref h), (2, .int x2), (3, .int x3), (4, .int x4)]) dX9_throwCoin_26 (by decide) rfl ?_
    refine h_aload_n dX9_throwCoin_28 rfl 2 rfl ?_
    refine h_iconst (v := 4) dX9_throwCoin_29 (by decide) ?_
    refine h_iload dX9_throwCoin_30 5 rfl ?_
    refine h_iload dX9_throwCoin_32 0 rfl ?_
    refine h_ineg dX9_throwCoin_34 ?_
    refine h_pick [1, 2, 3, 4, 5, 0] [(0, .ref 1), (1, .ref h), (2, .int x2), (3, .int x3), (4, .int x4), (5, .int (if 1 < s0 then 1 else s0))] rfl ?_
    refine h_invV (As := [.int 4, .int x4, .int (-(if 1 < s0 then 1 else s0))]) (st := []) dX9_throwCoin_35 lk_X9_110 (h_room (by decide)) a_h b_h (by decide) rfl rfl rfl (Nat.le_of_ble_eq_true rfl) ?_
    exact k1 c1
  ·
    refine h_min dX9_throwCoin_23 wt_570 wt_315 wt_15 wt_316 (h_frm (Nat.le_of_ble_eq_true rfl)) ?_
    refine h_istore (L' := [(5, .int (if 2147483647 < s0 then 2147483647 else s0)), (0, .ref 1), (1, .ref h), (2, .int x2), (3, .int x3), (4, .int x4)]) dX9_throwCoin_26 (by decide) rfl ?_
    refine h_aload_n dX9_throwCoin_28 rfl 2 rfl ?_
    refine h_iconst (v := 4) dX9_throwCoin_29 (by decide) ?_
    refine h_iload dX9_throwCoin_30 5 rfl ?_
    refine h_iload dX9_throwCoin_32 0 rfl ?_
    refine h_ineg dX9_throwCoin_34 ?_
    refine h_pick [1, 2, 3, 4, 5, 0] [(0, .ref 1), (1, .ref h), (2, .int x2), (3, .int x3), (4, .int x4), (5, .int (if 2147483647 < s0 then 2147483647 else s0))] rfl ?_
    refine h_invV (As := [.int 4, .int x4, .int (-(if 2147483647 < s0 then 2147483647 else s0))]) (st := []) dX9_throwCoin_35 lk_X9_110 (h_room (by decide)) a_h b_h (by decide) rfl rfl rfl (Nat.le_of_ble_eq_true rfl) ?_
    exact k2 c2
set_option maxHeartbeats 1000000 in
set_option maxRecDepth 4000 in
theorem sg_X9_throwCoin_82 {E : HEn} {d : Nat} {Q : Option Value → HIh → Prop} {I : HIh} 
    (k1 : Q none I)
    : HGo E (mF E (d + 2) Q) me_X9_throwCoin 82 [] [] I := by
  exact h_vret dX9_throwCoin_82 rfl (k1)
set_option maxHeartbeats 1000000 in
set_option maxRecDepth 4000 in
theorem sg_X9_throwCoin_38 {E : HEn} {d : Nat} {Q : Option Value → HIh → Prop} {I : HIh} {h : Nat} {x2 : Int32} {x3 : Int32} {x4 : Int32} {x5 : Int32} (a_h : h < NL) (b_h : Zk h = 3)
    (k1 : HCall E me_X4_add (d + 1) [.ref h, .int x2, .int x4, .int x5] I (fun v9 J => HGo E (mF E (d + 2) Q) me_X9_throwCoin 47 [(0, .ref 1), (1, .ref h), (2, .int x2), (3, .int x3), (4, .int x4), (5, .int x5)] (v9.toList ++ []) J))
    : HGo E (mF E (d + 2) Q) me_X9_throwCoin 38 [(0, .ref 1), (1, .ref h), (2, .int x2), (3, .int x3), (4, .int x4), (5, .int x5)] [] I := by
  refine h_aload_n dX9_throwCoin_38 rfl 1 rfl ?_
  refine h_iload_n dX9_throwCoin_39 rfl 2 rfl ?_
  refine h_iload dX9_throwCoin_40 4 rfl ?_
  refine h_iload dX9_throwCoin_42 5 rfl ?_
  refine h_invV (As := [.int x2, .int x4, .int x5]) (st := []) dX9_throwCoin_44 lk_X9_110 (h_room (by decide)) a_h b_h (by decide) rfl rfl rfl (Nat.le_of_ble_eq_true rfl) ?_
  exact k1
set_option maxHeartbeats 1000000 in
set_option maxRecDepth 4000 in
theorem sg_X9_throwCoin_47 {E : HEn} {d : Nat} {Q : Option Value → HIh → Prop} {I : HIh} {h : Nat} {x2 : Int32} {x3 : Int32} {x4 : Int32} {x5 : Int32} (a_h : h < NL) (b_h : Zk h = 3)
    (k1 : x5 ≤ 0 → HGo E (mF E (d + 2) Q) me_X9_throwCoin 7 [(0, .ref 1), (1, .ref h), (2, .int x2), (3, .int x3), (4, .int (x4 + (-1)))] [] I)
    (k2 : ¬ x5 ≤ 0 → I 1 11 = 2 ∨ I 1 11 = 3 → HCall E me_X4_add (d + 1) [.ref h, .int x2, .int x3, .int (-1)] I (fun v9 J => HGo E (mF E (d + 2) Q) me_X9_throwCoin 75 [(1, .ref h), (3, .int x3)] (v9.toList ++ []) J))
    (k3 : ¬ x5 ≤ 0 → ¬ (I 1 11 = 2 ∨ I 1 11 = 3) → HGo E (mF E (d + 2) Q) me_X9_throwCoin 7 [(0, .ref 1), (1, .ref h), (2, .int x2), (3, .int x3), (4, .int (x4 + (-1)))] [] I)
    : HGo E (mF E (d + 2) Q) me_X9_throwCoin 47 [(0, .ref 1), (1, .ref h), (2, .int x2), (3, .int x3), (4, .int x4), (5, .int x5)] [] I := by
  refine h_iload dX9_throwCoin_47 5 rfl ?_
  refine h_if_le (tgt := 62) dX9_throwCoin_49 (by decide) (fun c1 => ?_) (fun c1 => ?_)
  ·
    refine h_iinc (v := (x4 + (-1))) (L' := [(4, .int (x4 + (-1))), (0, .ref 1), (1, .ref h), (2, .int x2), (3, .int x3), (5, .int x5)]) dX9_throwCoin_62 4 rfl rfl (by decide) rfl ?_
    refine h_goto (tgt := 7) dX9_throwCoin_65 (by decide) ?_
    refine h_pick [1, 2, 3, 4, 0] [(0, .ref 1), (1, .ref h), (2, .int x2), (3, .int x3), (4, .int (x4 + (-1)))] rfl ?_
    exact k1 c1
  ·
    refine h_aload_n dX9_throwCoin_52 rfl 0 rfl ?_
    refine h_invV (As := []) (st := []) dX9_throwCoin_53 lk_X9_106 (h_room (by decide)) nl_1 zk_1 (by decide) rfl rfl rfl (Nat.le_of_ble_eq_true rfl) ?_
    refine c_X9_takesOneKind (fun c2 => ?_) (fun c3 => ?_)
    ·
      refine h_if_eq (tgt := 62) dX9_throwCoin_56 (by decide) (fun c => absurd c (by decide)) (fun _ => ?_)
      refine h_goto (tgt := 68) dX9_throwCoin_59 (by decide) ?_
      refine h_aload_n dX9_throwCoin_68 rfl 1 rfl ?_
      refine h_iload_n dX9_throwCoin_69 rfl 2 rfl ?_
      refine h_iload_n dX9_throwCoin_70 rfl 3 rfl ?_
      refine h_iconst (v := (-1)) dX9_throwCoin_71 (by decide) ?_
      refine h_pick [1, 3] [(1, .ref h), (3, .int x3)] rfl ?_
      refine h_invV (As := [.int x2, .int x3, .int (-1)]) (st := []) dX9_throwCoin_72 lk_X9_110 (h_room (by decide)) a_h b_h (by decide) rfl rfl rfl (Nat.le_of_ble_eq_true rfl) ?_
      exact k2 c1 c2
    ·
      refine h_if_eq (tgt := 62) dX9_throwCoin_56 (by decide) (fun _ => ?_) (fun c => absurd c (by decide))
      refine h_iinc (v := (x4 + (-1))) (L' := [(4, .int (x4 + (-1))), (0, .ref 1), (1, .ref h), (2, .int x2), (3, .int x3), (5, .int x5)]) dX9_throwCoin_62 4 rfl rfl (by decide) rfl ?_
      refine h_goto (tgt := 7) dX9_throwCoin_65 (by decide) ?_
      refine h_pick [1, 2, 3, 4, 0] [(0, .ref 1), (1, .ref h), (2, .int x2), (3, .int x3), (4, .int (x4 + (-1)))] rfl ?_
      exact k3 c1 c3
set_option maxHeartbeats 1000000 in
set_option maxRecDepth 4000 in
theorem sg_X9_habitual_N_0 {E : HEn} {d : Nat} {Q : Option Value → HIh → Prop} {I : HIh} {h : Nat} (a_h : h < NL) (b_h : Zk h = 3)
    (k1 : HCall E me_X9_visitor (d + 3) [.ref 1, .int (I h 1)] I (fun v9 J => HGo E (mF E (d + 4) Q) me_X9_habitual 8 [(0, .ref 1), (1, .ref h)] (v9.toList ++ []) J))
    : HGo E (mF E (d + 4) Q) me_X9_habitual 0 [(0, .ref 1), (1, .ref h)] [] I := by
  refine h_aload_n dX9_habitual_0 rfl 0 rfl ?_
  refine h_aload_n dX9_habitual_1 rfl 1 rfl ?_
  refine gf_3_1 dX9_habitual_2 hl_X9_80 a_h b_h ?_
  refine h_invV (As := [.int (I h 1)]) (st := []) dX9_habitual_5 lk_X9_83 (h_room (by decide)) nl_1 zk_1 (by decide) rfl rfl rfl (Nat.le_of_ble_eq_true rfl) ?_
  exact k1
set_option maxHeartbeats 1000000 in
set_option maxRecDepth 4000 in
theorem sg_X9_habitual_N_8 {E : HEn} {d : Nat} {Q : Option Value → HIh → Prop} {I : HIh} {h : Nat} {s0 : Int32} (a_h : h < NL) (b_h : Zk h = 3)
    (k1 : HCall E me_X9_folkOf (d + 3) [.ref 1, .int s0] I (fun v9 J => HGo E (mF E (d + 4) Q) me_X9_habitual 14 [(0, .ref 1), (1, .ref h), (2, .int s0)] (v9.toList ++ []) J))
    : HGo E (mF E (d + 4) Q) me_X9_habitual 8 [(0, .ref 1), (1, .ref h)] [.int s0] I := by
  refine h_istore_n (L' := [(2, .int s0), (0, .ref 1), (1, .ref h)]) dX9_habitual_8 rfl (by decide) rfl ?_
  refine h_aload_n dX9_habitual_9 rfl 1 rfl ?_
  refine h_iload_n dX9_habitual_10 rfl 0 rfl ?_
  refine h_pick [1, 2, 0] [(0, .ref 1), (1, .ref h), (2, .int s0)] rfl ?_
  refine h_invV (As := [.int s0]) (st := []) dX9_habitual_11 lk_X9_117 (h_room (by decide)) nl_1 zk_1 (by decide) rfl rfl rfl (Nat.le_of_ble_eq_true rfl) ?_
  exact k1
set_option maxHeartbeats 1000000 in
set_option maxRecDepth 4000 in
theorem sg_X9_habitual_N_14 {E : HEn} {d : Nat} {Q : Option Value → HIh → Prop} {I : HIh} {h : Nat} {x2 : Int32} (a_h : h < NL) (b_h : Zk h = 3)
    (k1 : HCall E me_X5_wouldThrow (d + 3) [.ref 2, .ref 1, .ref h, .int x2] I (fun v9 J => HGo E (mF E (d + 4) Q) me_X9_habitual 20 [] (v9.toList ++ []) J))
    : HGo E (mF E (d + 4) Q) me_X9_habitual 14 [(0, .ref 1), (1, .ref h), (2, .int x2)] [.ref 2] I := by
  refine h_aload_n dX9_habitual_14 rfl 0 rfl ?_
  refine h_aload_n dX9_habitual_15 rfl 1 rfl ?_
  refine h_iload_n dX9_habitual_16 rfl 2 rfl ?_
  refine h_pick [] [] rfl ?_
  refine h_invU (As := [.ref 1, .ref h, .int x2]) (st := []) dX9_habitual_17 lk_X9_121_X5 (h_room (by decide)) nl_2 zk_2 (by decide) rfl rfl rfl (Nat.le_of_ble_eq_true rfl) ?_
  exact k1
set_option maxHeartbeats 1000000 in
set_option maxRecDepth 4000 in
theorem sg_X9_habitual_N_20 {E : HEn} {d : Nat} {Q : Option Value → HIh → Prop} {I : HIh} {s0 : Int32}
    (k1 : Q (some (.int s0)) I)
    : HGo E (mF E (d + 4) Q) me_X9_habitual 20 [] [.int s0] I := by
  exact h_iret dX9_habitual_20 rfl (k1)
set_option maxHeartbeats 1000000 in
set_option maxRecDepth 4000 in
theorem sg_X9_habitual_G_0 {E : HEn} {d : Nat} {Q : Option Value → HIh → Prop} {I : HIh} {h : Nat} (a_h : h < NL) (b_h : Zk h = 3)
    (k1 : HCall E me_X9_visitor (d + 3) [.ref 1, .int (I h 1)] I (fun v9 J => HGo E (mF E (d + 4) Q) me_X9_habitual 8 [(0, .ref 1), (1, .ref h)] (v9.toList ++ []) J))
    : HGo E (mF E (d + 4) Q) me_X9_habitual 0 [(0, .ref 1), (1, .ref h)] [] I := by
  refine h_aload_n dX9_habitual_0 rfl 0 rfl ?_
  refine h_aload_n dX9_habitual_1 rfl 1 rfl ?_
  refine gf_3_1 dX9_habitual_2 hl_X9_80 a_h b_h ?_
  refine h_invV (As := [.int (I h 1)]) (st := []) dX9_habitual_5 lk_X9_83 (h_room (by decide)) nl_1 zk_1 (by decide) rfl rfl rfl (Nat.le_of_ble_eq_true rfl) ?_
  exact k1
set_option maxHeartbeats 1000000 in
set_option maxRecDepth 4000 in
theorem sg_X9_habitual_G_8 {E : HEn} {d : Nat} {Q : Option Value → HIh → Prop} {I : HIh} {h : Nat} {s0 : Int32} (a_h : h < NL) (b_h : Zk h = 3)
    (k1 : HCall E me_X9_folkOf (d + 3) [.ref 1, .int s0] I (fun v9 J => HGo E (mF E (d + 4) Q) me_X9_habitual 14 [(0, .ref 1), (1, .ref h), (2, .int s0)] (v9.toList ++ []) J))
    : HGo E (mF E (d + 4) Q) me_X9_habitual 8 [(0, .ref 1), (1, .ref h)] [.int s0] I := by
  refine h_istore_n (L' := [(2, .int s0), (0, .ref 1), (1, .ref h)]) dX9_habitual_8 rfl (by decide) rfl ?_
  refine h_aload_n dX9_habitual_9 rfl 1 rfl ?_
  refine h_iload_n dX9_habitual_10 rfl 0 rfl ?_
  refine h_pick [1, 2, 0] [(0, .ref 1), (1, .ref h), (2, .int s0)] rfl ?_
  refine h_invV (As := [.int s0]) (st := []) dX9_habitual_11 lk_X9_117 (h_room (by decide)) nl_1 zk_1 (by decide) rfl rfl rfl (Nat.le_of_ble_eq_true rfl) ?_
  exact k1
set_option maxHeartbeats 1000000 in
set_option maxRecDepth 4000 in
theorem sg_X9_habitual_G_14 {E : HEn} {d : Nat} {Q : Option Value → HIh → Prop} {I : HIh} {h : Nat} {x2 : Int32} (a_h : h < NL) (b_h : Zk h = 3)
    (k1 : HCall E me_X8_wouldThrow (d + 3) [.ref 3, .ref 1, .ref h, .int x2] I (fun v9 J => HGo E (mF E (d + 4) Q) me_X9_habitual 20 [] (v9.toList ++ []) J))
    : HGo E (mF E (d + 4) Q) me_X9_habitual 14 [(0, .ref 1), (1, .ref h), (2, .int x2)] [.ref 3] I := by
  refine h_aload_n dX9_habitual_14 rfl 0 rfl ?_
  refine h_aload_n dX9_habitual_15 rfl 1 rfl ?_
  refine h_iload_n dX9_habitual_16 rfl 2 rfl ?_
  refine h_pick [] [] rfl ?_
  refine h_invU (As := [.ref 1, .ref h, .int x2]) (st := []) dX9_habitual_17 lk_X9_121_X3 (h_room (by decide)) nl_3 zk_3 (by decide) rfl rfl rfl (Nat.le_of_ble_eq_true rfl) ?_
  exact k1
set_option maxHeartbeats 1000000 in
set_option maxRecDepth 4000 in
theorem sg_X9_habitual_G_20 {E : HEn} {d : Nat} {Q : Option Value → HIh → Prop} {I : HIh} {s0 : Int32}
    (k1 : Q (some (.int s0)) I)
    : HGo E (mF E (d + 4) Q) me_X9_habitual 20 [] [.int s0] I := by
  exact h_iret dX9_habitual_20 rfl (k1)
set_option maxHeartbeats 1000000 in
set_option maxRecDepth 4000 in
theorem sg_X9_habitual_W_0 {E : HEn} {d : Nat} {Q : Option Value → HIh → Prop} {I : HIh} {h : Nat} (a_h : h < NL) (b_h : Zk h = 3)
    (k1 : HCall E me_X9_visitor (d + 3) [.ref 1, .int (I h 1)] I (fun v9 J => HGo E (mF E (d + 4) Q) me_X9_habitual 8 [(0, .ref 1), (1, .ref h)] (v9.toList ++ []) J))
    : HGo E (mF E (d + 4) Q) me_X9_habitual 0 [(0, .ref 1), (1, .ref h)] [] I := by
  refine h_aload_n dX9_habitual_0 rfl 0 rfl ?_
  refine h_aload_n dX9_habitual_1 rfl 1 rfl ?_
  refine gf_3_1 dX9_habitual_2 hl_X9_80 a_h b_h ?_
  refine h_invV (As := [.int (I h 1)]) (st := []) dX9_habitual_5 lk_X9_83 (h_room (by decide)) nl_1 zk_1 (by decide) rfl rfl rfl (Nat.le_of_ble_eq_true rfl) ?_
  exact k1
set_option maxHeartbeats 1000000 in
set_option maxRecDepth 4000 in
theorem sg_X9_habitual_W_8 {E : HEn} {d : Nat} {Q : Option Value → HIh → Prop} {I : HIh} {h : Nat} {s0 : Int32} (a_h : h < NL) (b_h : Zk h = 3)
    (k1 : HCall E me_X9_folkOf (d + 3) [.ref 1, .int s0] I (fun v9 J => HGo E (mF E (d + 4) Q) me_X9_habitual 14 [(0, .ref 1), (1, .ref h), (2, .int s0)] (v9.toList ++ []) J))
    : HGo E (mF E (d + 4) Q) me_X9_habitual 8 [(0, .ref 1), (1, .ref h)] [.int s0] I := by
  refine h_istore_n (L' := [(2, .int s0), (0, .ref 1), (1, .ref h)]) dX9_habitual_8 rfl (by decide) rfl ?_
  refine h_aload_n dX9_habitual_9 rfl 1 rfl ?_
  refine h_iload_n dX9_habitual_10 rfl 0 rfl ?_
  refine h_pick [1, 2, 0] [(0, .ref 1), (1, .ref h), (2, .int s0)] rfl ?_
  refine h_invV (As := [.int s0]) (st := []) dX9_habitual_11 lk_X9_117 (h_room (by decide)) nl_1 zk_1 (by decide) rfl rfl rfl (Nat.le_of_ble_eq_true rfl) ?_
  exact k1
set_option maxHeartbeats 1000000 in
set_option maxRecDepth 4000 in
theorem sg_X9_habitual_W_14 {E : HEn} {d : Nat} {Q : Option Value → HIh → Prop} {I : HIh} {h : Nat} {x2 : Int32} (a_h : h < NL) (b_h : Zk h = 3)
    (k1 : HCall E me_X8_wouldThrow (d + 3) [.ref 4, .ref 1, .ref h, .int x2] I (fun v9 J => HGo E (mF E (d + 4) Q) me_X9_habitual 20 [] (v9.toList ++ []) J))
    : HGo E (mF E (d + 4) Q) me_X9_habitual 14 [(0, .ref 1), (1, .ref h), (2, .int x2)] [.ref 4] I := by
  refine h_aload_n dX9_habitual_14 rfl 0 rfl ?_
  refine h_aload_n dX9_habitual_15 rfl 1 rfl ?_
  refine h_iload_n dX9_habitual_16 rfl 2 rfl ?_
  refine h_pick [] [] rfl ?_
  refine h_invU (As := [.ref 1, .ref h, .int x2]) (st := []) dX9_habitual_17 lk_X9_121_X10 (h_room (by decide)) nl_4 zk_4 (by decide) rfl rfl rfl (Nat.le_of_ble_eq_true rfl) ?_
  exact k1
set_option maxHeartbeats 1000000 in
set_option maxRecDepth 4000 in
theorem sg_X9_habitual_W_20 {E : HEn} {d : Nat} {Q : Option Value → HIh → Prop} {I : HIh} {s0 : Int32}
    (k1 : Q (some (.int s0)) I)
    : HGo E (mF E (d + 4) Q) me_X9_habitual 20 [] [.int s0] I := by
  exact h_iret dX9_habitual_20 rfl (k1)
set_option maxHeartbeats 1000000 in
set_option maxRecDepth 4000 in
theorem sg_X9_habitual_C_0 {E : HEn} {d : Nat} {Q : Option Value → HIh → Prop} {I : HIh} {h : Nat} (a_h : h < NL) (b_h : Zk h = 3)
    (k1 : HCall E me_X9_visitor (d + 3) [.ref 1, .int (I h 1)] I (fun v9 J => HGo E (mF E (d + 4) Q) me_X9_habitual 8 [(0, .ref 1), (1, .ref h)] (v9.toList ++ []) J))
    : HGo E (mF E (d + 4) Q) me_X9_habitual 0 [(0, .ref 1), (1, .ref h)] [] I := by
  refine h_aload_n dX9_habitual_0 rfl 0 rfl ?_
  refine h_aload_n dX9_habitual_1 rfl 1 rfl ?_
  refine gf_3_1 dX9_habitual_2 hl_X9_80 a_h b_h ?_
  refine h_invV (As := [.int (I h 1)]) (st := []) dX9_habitual_5 lk_X9_83 (h_room (by decide)) nl_1 zk_1 (by decide) rfl rfl rfl (Nat.le_of_ble_eq_true rfl) ?_
  exact k1
set_option maxHeartbeats 1000000 in
set_option maxRecDepth 4000 in
theorem sg_X9_habitual_C_8 {E : HEn} {d : Nat} {Q : Option Value → HIh → Prop} {I : HIh} {h : Nat} {s0 : Int32} (a_h : h < NL) (b_h : Zk h = 3)
    (k1 : HCall E me_X9_folkOf (d + 3) [.ref 1, .int s0] I (fun v9 J => HGo E (mF E (d + 4) Q) me_X9_habitual 14 [(0, .ref 1), (1, .ref h), (2, .int s0)] (v9.toList ++ []) J))
    : HGo E (mF E (d + 4) Q) me_X9_habitual 8 [(0, .ref 1), (1, .ref h)] [.int s0] I := by
  refine h_istore_n (L' := [(2, .int s0), (0, .ref 1), (1, .ref h)]) dX9_habitual_8 rfl (by decide) rfl ?_
  refine h_aload_n dX9_habitual_9 rfl 1 rfl ?_
  refine h_iload_n dX9_habitual_10 rfl 0 rfl ?_
  refine h_pick [1, 2, 0] [(0, .ref 1), (1, .ref h), (2, .int s0)] rfl ?_
  refine h_invV (As := [.int s0]) (st := []) dX9_habitual_11 lk_X9_117 (h_room (by decide)) nl_1 zk_1 (by decide) rfl rfl rfl (Nat.le_of_ble_eq_true rfl) ?_
  exact k1
set_option maxHeartbeats 1000000 in
set_option maxRecDepth 4000 in
theorem sg_X9_habitual_C_14 {E : HEn} {d : Nat} {Q : Option Value → HIh → Prop} {I : HIh} {h : Nat} {x2 : Int32} (a_h : h < NL) (b_h : Zk h = 3)
    (k1 : HCall E me_X8_wouldThrow (d + 3) [.ref 5, .ref 1, .ref h, .int x2] I (fun v9 J => HGo E (mF E (d + 4) Q) me_X9_habitual 20 [] (v9.toList ++ []) J))
    : HGo E (mF E (d + 4) Q) me_X9_habitual 14 [(0, .ref 1), (1, .ref h), (2, .int x2)] [.ref 5] I := by
  refine h_aload_n dX9_habitual_14 rfl 0 rfl ?_
  refine h_aload_n dX9_habitual_15 rfl 1 rfl ?_
  refine h_iload_n dX9_habitual_16 rfl 2 rfl ?_
  refine h_pick [] [] rfl ?_
  refine h_invU (As := [.ref 1, .ref h, .int x2]) (st := []) dX9_habitual_17 lk_X9_121_X0 (h_room (by decide)) nl_5 zk_5 (by decide) rfl rfl rfl (Nat.le_of_ble_eq_true rfl) ?_
  exact k1
set_option maxHeartbeats 1000000 in
set_option maxRecDepth 4000 in
theorem sg_X9_habitual_C_20 {E : HEn} {d : Nat} {Q : Option Value → HIh → Prop} {I : HIh} {s0 : Int32}
    (k1 : Q (some (.int s0)) I)
    : HGo E (mF E (d + 4) Q) me_X9_habitual 20 [] [.int s0] I := by
  exact h_iret dX9_habitual_20 rfl (k1)
set_option maxHeartbeats 1000000 in
set_option maxRecDepth 4000 in
theorem sg_X9_letVisit_0 {E : HEn} {d : Nat} {Q : Option Value → HIh → Prop} {I : HIh} {h : Nat} {k : Int32} (a_h : h < NL) (b_h : Zk h = 3)
    (k1 : k = (-1) → Q none (setI I h (upd (I h) 1 ((I h 1) + 1))))
    (k2 : ¬ k = (-1) → HCall E me_X9_visitor (d + 2) [.ref 1, .int (I h 1)] I (fun v9 J => HGo E (mF E (d + 3) Q) me_X9_letVisit 15 [(1, .ref h), (2, .int k)] (v9.toList ++ [.ref h, .ref 1]) J))
    : HGo E (mF E (d + 3) Q) me_X9_letVisit 0 [(0, .ref 1), (1, .ref h), (2, .int k)] [] I := by
  refine h_iload_n dX9_letVisit_0 rfl 2 rfl ?_
  refine h_iconst (v := (-1)) dX9_letVisit_1 (by decide) ?_
  refine h_icmp_eq (tgt := 19) dX9_letVisit_2 (by decide) (fun c1 => ?_) (fun c1 => ?_)
  ·
    refine h_aload_n dX9_letVisit_19 rfl 1 rfl ?_
    refine h_dup dX9_letVisit_20 rfl ?_
    refine gf_3_1 dX9_letVisit_21 hl_X9_80 a_h b_h ?_
    refine h_iconst (v := 1) dX9_letVisit_24 (by decide) ?_
    refine h_iadd dX9_letVisit_25 ?_
    refine pf_3_1 dX9_letVisit_26 hl_X9_80 a_h b_h ?_
    exact h_vret dX9_letVisit_29 rfl (k1 c1)
  ·
    refine h_aload_n dX9_letVisit_5 rfl 0 rfl ?_
    refine h_aload_n dX9_letVisit_6 rfl 1 rfl ?_
    refine h_aload_n dX9_letVisit_7 rfl 0 rfl ?_
    refine h_aload_n dX9_letVisit_8 rfl 1 rfl ?_
    refine gf_3_1 dX9_letVisit_9 hl_X9_80 a_h b_h ?_
    refine h_pick [1, 2] [(1, .ref h), (2, .int k)] rfl ?_
    refine h_invV (As := [.int (I h 1)]) (st := [.ref h, .ref 1]) dX9_letVisit_12 lk_X9_83 (h_room (by decide)) nl_1 zk_1 (by decide) rfl rfl rfl (Nat.le_of_ble_eq_true rfl) ?_
    exact k2 c1
set_option maxHeartbeats 1000000 in
set_option maxRecDepth 4000 in
theorem sg_X9_letVisit_15 {E : HEn} {d : Nat} {Q : Option Value → HIh → Prop} {I : HIh} {h : Nat} {x2 : Int32} {s0 : Int32} (a_h : h < NL) (b_h : Zk h = 3)
    (k1 : HCall E me_X9_throwCoin (d + 2) [.ref 1, .ref h, .int s0, .int x2] I (fun v9 J => HGo E (mF E (d + 3) Q) me_X9_letVisit 19 [(1, .ref h)] (v9.toList ++ []) J))
    : HGo E (mF E (d + 3) Q) me_X9_letVisit 15 [(1, .ref h), (2, .int x2)] [.int s0, .ref h, .ref 1] I := by
  refine h_iload_n dX9_letVisit_15 rfl 1 rfl ?_
  refine h_pick [0] [(1, .ref h)] rfl ?_
  refine h_invV (As := [.ref h, .int s0, .int x2]) (st := []) dX9_letVisit_16 lk_X9_127 (h_room (by decide)) nl_1 zk_1 (by decide) rfl rfl rfl (Nat.le_of_ble_eq_true rfl) ?_
  exact k1
set_option maxHeartbeats 1000000 in
set_option maxRecDepth 4000 in
theorem sg_X9_letVisit_19 {E : HEn} {d : Nat} {Q : Option Value → HIh → Prop} {I : HIh} {h : Nat} (a_h : h < NL) (b_h : Zk h = 3)
    (k1 : Q none (setI I h (upd (I h) 1 ((I h 1) + 1))))
    : HGo E (mF E (d + 3) Q) me_X9_letVisit 19 [(1, .ref h)] [] I := by
  refine h_aload_n dX9_letVisit_19 rfl 0 rfl ?_
  refine h_dup dX9_letVisit_20 rfl ?_
  refine gf_3_1 dX9_letVisit_21 hl_X9_80 a_h b_h ?_
  refine h_iconst (v := 1) dX9_letVisit_24 (by decide) ?_
  refine h_iadd dX9_letVisit_25 ?_
  refine pf_3_1 dX9_letVisit_26 hl_X9_80 a_h b_h ?_
  exact h_vret dX9_letVisit_29 rfl (k1)
set_option maxHeartbeats 1000000 in
set_option maxRecDepth 4000 in
theorem sg_X0_habit_0 {E : HEn} {d : Nat} {Q : Option Value → HIh → Prop} {I : HIh} 
    (k1 : Q (some (.int 3)) I)
    : HGo E (mF E (d + 1) Q) me_X0_habit 0 [(0, .ref 5)] [] I := by
  refine h_iconst (v := 3) dX0_habit_0 (by decide) ?_
  exact h_iret dX0_habit_1 rfl (k1)
set_option maxHeartbeats 1000000 in
set_option maxRecDepth 4000 in
theorem sg_X0_comparesAll_0 {E : HEn} {d : Nat} {Q : Option Value → HIh → Prop} {I : HIh} 
    (k1 : Q (some (.int 0)) I)
    : HGo E (mF E (d + 1) Q) me_X0_comparesAll 0 [(0, .ref 5)] [] I := by
  refine h_iconst (v := 0) dX0_comparesAll_0 (by decide) ?_
  exact h_zret dX0_comparesAll_1 rfl rfl (k1)
set_option maxHeartbeats 1000000 in
set_option maxRecDepth 4000 in
theorem sg_X3_habit_0 {E : HEn} {d : Nat} {Q : Option Value → HIh → Prop} {I : HIh} 
    (k1 : Q (some (.int 1)) I)
    : HGo E (mF E (d + 1) Q) me_X3_habit 0 [(0, .ref 3)] [] I := by
  refine h_iconst (v := 1) dX3_habit_0 (by decide) ?_
  exact h_iret dX3_habit_1 rfl (k1)
set_option maxHeartbeats 1000000 in
set_option maxRecDepth 4000 in
theorem sg_X3_comparesAll_0 {E : HEn} {d : Nat} {Q : Option Value → HIh → Prop} {I : HIh} 
    (k1 : Q (some (.int 1)) I)
    : HGo E (mF E (d + 1) Q) me_X3_comparesAll 0 [(0, .ref 3)] [] I := by
  refine h_iconst (v := 1) dX3_comparesAll_0 (by decide) ?_
  exact h_zret dX3_comparesAll_1 rfl rfl (k1)
set_option maxHeartbeats 1000000 in
set_option maxRecDepth 4000 in
theorem sg_X5_habit_0 {E : HEn} {d : Nat} {Q : Option Value → HIh → Prop} {I : HIh} 
    (k1 : Q (some (.int 0)) I)
    : HGo E (mF E (d + 1) Q) me_X5_habit 0 [(0, .ref 2)] [] I := by
  refine h_iconst (v := 0) dX5_habit_0 (by decide) ?_
  exact h_iret dX5_habit_1 rfl (k1)
set_option maxHeartbeats 1000000 in
set_option maxRecDepth 4000 in
theorem sg_X10_habit_0 {E : HEn} {d : Nat} {Q : Option Value → HIh → Prop} {I : HIh} 
    (k1 : Q (some (.int 2)) I)
    : HGo E (mF E (d + 1) Q) me_X10_habit 0 [(0, .ref 4)] [] I := by
  refine h_iconst (v := 2) dX10_habit_0 (by decide) ?_
  exact h_iret dX10_habit_1 rfl (k1)
set_option maxHeartbeats 1000000 in
set_option maxRecDepth 4000 in
theorem sg_X1_waitsFor_N_0 {E : HEn} {d : Nat} {Q : Option Value → HIh → Prop} {I : HIh} {p : Int32}
    (k1 : Q (some (.int (-1))) I)
    : HGo E (mF E (d + 1) Q) me_X1_waitsFor 0 [(0, .ref 2), (1, .ref 1), (2, .int p)] [] I := by
  refine h_iconst (v := (-1)) dX1_waitsFor_0 (by decide) ?_
  exact h_iret dX1_waitsFor_1 rfl (k1)
set_option maxHeartbeats 1000000 in
set_option maxRecDepth 4000 in
theorem sg_X1_waitsFor_G_0 {E : HEn} {d : Nat} {Q : Option Value → HIh → Prop} {I : HIh} {p : Int32}
    (k1 : Q (some (.int (-1))) I)
    : HGo E (mF E (d + 1) Q) me_X1_waitsFor 0 [(0, .ref 3), (1, .ref 1), (2, .int p)] [] I := by
  refine h_iconst (v := (-1)) dX1_waitsFor_0 (by decide) ?_
  exact h_iret dX1_waitsFor_1 rfl (k1)
set_option maxHeartbeats 1000000 in
set_option maxRecDepth 4000 in
theorem sg_X1_waitsFor_C_0 {E : HEn} {d : Nat} {Q : Option Value → HIh → Prop} {I : HIh} {p : Int32}
    (k1 : Q (some (.int (-1))) I)
    : HGo E (mF E (d + 1) Q) me_X1_waitsFor 0 [(0, .ref 5), (1, .ref 1), (2, .int p)] [] I := by
  refine h_iconst (v := (-1)) dX1_waitsFor_0 (by decide) ?_
  exact h_iret dX1_waitsFor_1 rfl (k1)
set_option maxHeartbeats 1000000 in
set_option maxRecDepth 4000 in
theorem sg_X3_comparesAll_W_0 {E : HEn} {d : Nat} {Q : Option Value → HIh → Prop} {I : HIh} 
    (k1 : Q (some (.int 1)) I)
    : HGo E (mF E (d + 1) Q) me_X3_comparesAll 0 [(0, .ref 4)] [] I := by
  refine h_iconst (v := 1) dX3_comparesAll_0 (by decide) ?_
  exact h_zret dX3_comparesAll_1 rfl rfl (k1)
set_option maxHeartbeats 1000000 in
set_option maxRecDepth 4000 in
theorem sg_X8_leastGain_G_0 {E : HEn} {d : Nat} {Q : Option Value → HIh → Prop} {I : HIh} {p : Int32}
    (k1 : Q (some (.int 1)) I)
    : HGo E (mF E (d + 1) Q) me_X8_leastGain 0 [(0, .ref 3), (1, .ref 1), (2, .int p)] [] I := by
  refine h_iconst (v := 1) dX8_leastGain_0 (by decide) ?_
  exact h_iret dX8_leastGain_1 rfl (k1)
set_option maxHeartbeats 1000000 in
set_option maxRecDepth 4000 in
theorem sg_X8_leastGain_C_0 {E : HEn} {d : Nat} {Q : Option Value → HIh → Prop} {I : HIh} {p : Int32}
    (k1 : Q (some (.int 1)) I)
    : HGo E (mF E (d + 1) Q) me_X8_leastGain 0 [(0, .ref 5), (1, .ref 1), (2, .int p)] [] I := by
  refine h_iconst (v := 1) dX8_leastGain_0 (by decide) ?_
  exact h_iret dX8_leastGain_1 rfl (k1)
set_option maxHeartbeats 1000000 in
set_option maxRecDepth 4000 in
theorem sg_X10_leastGain_0 {E : HEn} {d : Nat} {Q : Option Value → HIh → Prop} {I : HIh} {p : Int32}
    (k1 : HCall E me_X9_boundOf (d + 1) [.ref 1, .int p] I (fun v9 J => HGo E (mF E (d + 2) Q) me_X10_leastGain 6 [] (v9.toList ++ [.int 1]) J))
    : HGo E (mF E (d + 2) Q) me_X10_leastGain 0 [(0, .ref 4), (1, .ref 1), (2, .int p)] [] I := by
  refine h_iconst (v := 1) dX10_leastGain_0 (by decide) ?_
  refine h_aload_n dX10_leastGain_1 rfl 1 rfl ?_
  refine h_iload_n dX10_leastGain_2 rfl 2 rfl ?_
  refine h_pick [] [] rfl ?_
  refine h_invV (As := [.int p]) (st := [.int 1]) dX10_leastGain_3 lk_X10_9 (h_room (by decide)) nl_1 zk_1 (by decide) rfl rfl rfl (Nat.le_of_ble_eq_true rfl) ?_
  exact k1
set_option maxHeartbeats 1000000 in
set_option maxRecDepth 4000 in
theorem sg_X10_leastGain_6 {E : HEn} {d : Nat} {Q : Option Value → HIh → Prop} {I : HIh} {s0 : Int32} {s1 : Int32}
    (k1 : Q (some (.int (if s1 < s0 then s0 else s1))) I)
    : HGo E (mF E (d + 2) Q) me_X10_leastGain 6 [] [.int s0, .int s1] I := by
  refine h_max dX10_leastGain_6 wt_552 wt_553 wt_15 wt_554 (h_frm (Nat.le_of_ble_eq_true rfl)) ?_
  exact h_iret dX10_leastGain_9 rfl (k1)
set_option maxHeartbeats 1000000 in
set_option maxRecDepth 4000 in
theorem sg_X10_waitsFor_0 {E : HEn} {d : Nat} {Q : Option Value → HIh → Prop} {I : HIh} {p : Int32}
    (k1 : HCall E me_X9_boundOf (d + 1) [.ref 1, .int p] I (fun v9 J => HGo E (mF E (d + 2) Q) me_X10_waitsFor 5 [] (v9.toList ++ []) J))
    : HGo E (mF E (d + 2) Q) me_X10_waitsFor 0 [(0, .ref 4), (1, .ref 1), (2, .int p)] [] I := by
  refine h_aload_n dX10_waitsFor_0 rfl 1 rfl ?_
  refine h_iload_n dX10_waitsFor_1 rfl 2 rfl ?_
  refine h_pick [] [] rfl ?_
  refine h_invV (As := [.int p]) (st := []) dX10_waitsFor_2 lk_X10_9 (h_room (by decide)) nl_1 zk_1 (by decide) rfl rfl rfl (Nat.le_of_ble_eq_true rfl) ?_
  exact k1
set_option maxHeartbeats 1000000 in
set_option maxRecDepth 4000 in
theorem sg_X10_waitsFor_5 {E : HEn} {d : Nat} {Q : Option Value → HIh → Prop} {I : HIh} {s0 : Int32}
    (k1 : Q (some (.int s0)) I)
    : HGo E (mF E (d + 2) Q) me_X10_waitsFor 5 [] [.int s0] I := by
  exact h_iret dX10_waitsFor_5 rfl (k1)
set_option maxHeartbeats 1000000 in
set_option maxRecDepth 4000 in
theorem sg_X5_wouldThrow_0 {E : HEn} {d : Nat} {Q : Option Value → HIh → Prop} {I : HIh} {h : Nat} {p : Int32} (a_h : h < NL) (b_h : Zk h = 3)
    (k1 : Q (some (.int (-1))) I)
    : HGo E (mF E (d + 1) Q) me_X5_wouldThrow 0 [(0, .ref 2), (1, .ref 1), (2, .ref h), (3, .int p)] [] I := by
  refine h_iconst (v := (-1)) dX5_wouldThrow_0 (by decide) ?_
  exact h_iret dX5_wouldThrow_1 rfl (k1)
set_option maxHeartbeats 1000000 in
set_option maxRecDepth 4000 in
theorem sg_X8_wouldThrow_G_0 {E : HEn} {d : Nat} {Q : Option Value → HIh → Prop} {I : HIh} {h : Nat} {p : Int32} (a_h : h < NL) (b_h : Zk h = 3)
    (k1 : HCall E me_X8_leastGain (d + 2) [.ref 3, .ref 1, .int p] I (fun v9 J => HGo E (mF E (d + 3) Q) me_X8_wouldThrow 9 [(0, .ref 3), (1, .ref 1), (2, .ref h), (3, .int p), (4, .int (-1))] (v9.toList ++ []) J))
    : HGo E (mF E (d + 3) Q) me_X8_wouldThrow 0 [(0, .ref 3), (1, .ref 1), (2, .ref h), (3, .int p)] [] I := by
  refine h_iconst (v := (-1)) dX8_wouldThrow_0 (by decide) ?_
  refine h_istore (L' := [(4, .int (-1)), (0, .ref 3), (1, .ref 1), (2, .ref h), (3, .int p)]) dX8_wouldThrow_1 (by decide) rfl ?_
  refine h_aload_n dX8_wouldThrow_3 rfl 1 rfl ?_
  refine h_aload_n dX8_wouldThrow_4 rfl 2 rfl ?_
  refine h_iload_n dX8_wouldThrow_5 rfl 4 rfl ?_
  refine h_pick [1, 2, 3, 4, 0] [(0, .ref 3), (1, .ref 1), (2, .ref h), (3, .int p), (4, .int (-1))] rfl ?_
  refine h_invU (As := [.ref 1, .int p]) (st := []) dX8_wouldThrow_6 lk_X8_9_X3 (h_room (by decide)) nl_3 zk_3 (by decide) rfl rfl rfl (Nat.le_of_ble_eq_true rfl) ?_
  exact k1
set_option maxHeartbeats 1000000 in
set_option maxRecDepth 4000 in
theorem sg_X8_wouldThrow_G_9 {E : HEn} {d : Nat} {Q : Option Value → HIh → Prop} {I : HIh} {h : Nat} {x3 : Int32} {x4 : Int32} {s0 : Int32} (a_h : h < NL) (b_h : Zk h = 3)
    (k1 : HGo E (mF E (d + 3) Q) me_X8_wouldThrow 14 [(0, .ref 3), (1, .ref 1), (2, .ref h), (3, .int x3), (4, .int x4), (5, .int s0), (6, .int 0)] [] I)
    : HGo E (mF E (d + 3) Q) me_X8_wouldThrow 9 [(0, .ref 3), (1, .ref 1), (2, .ref h), (3, .int x3), (4, .int x4)] [.int s0] I := by
  refine h_istore (L' := [(5, .int s0), (0, .ref 3), (1, .ref 1), (2, .ref h), (3, .int x3), (4, .int x4)]) dX8_wouldThrow_9 (by decide) rfl ?_
  refine h_iconst (v := 0) dX8_wouldThrow_11 (by decide) ?_
  refine h_istore (L' := [(6, .int 0), (5, .int s0), (0, .ref 3), (1, .ref 1), (2, .ref h), (3, .int x3), (4, .int x4)]) dX8_wouldThrow_12 (by decide) rfl ?_
  refine h_pick [2, 3, 4, 5, 6, 1, 0] [(0, .ref 3), (1, .ref 1), (2, .ref h), (3, .int x3), (4, .int x4), (5, .int s0), (6, .int 0)] rfl ?_
  exact k1
set_option maxHeartbeats 1000000 in
set_option maxRecDepth 4000 in
theorem sg_X8_wouldThrow_G_14 {E : HEn} {d : Nat} {Q : Option Value → HIh → Prop} {I : HIh} {h : Nat} {x3 : Int32} {x4 : Int32} {x5 : Int32} {x6 : Int32} (a_h : h < NL) (b_h : Zk h = 3)
    (k1 : (I 1 9) ≤ x6 → Q (some (.int x4)) I)
    (k2 : ¬ (I 1 9) ≤ x6 → HCall E me_X4_of (d + 2) [.ref h, .int x3, .int x6] I (fun v9 J => HGo E (mF E (d + 3) Q) me_X8_wouldThrow 30 [(0, .ref 3), (1, .ref 1), (2, .ref h), (3, .int x3), (4, .int x4), (5, .int x5), (6, .int x6)] (v9.toList ++ []) J))
    : HGo E (mF E (d + 3) Q) me_X8_wouldThrow 14 [(0, .ref 3), (1, .ref 1), (2, .ref h), (3, .int x3), (4, .int x4), (5, .int x5), (6, .int x6)] [] I := by
  refine h_iload dX8_wouldThrow_14 6 rfl ?_
  refine h_aload_n dX8_wouldThrow_16 rfl 1 rfl ?_
  refine gf_7_9 dX8_wouldThrow_17 hl_X8_15 nl_1 zk_1 ?_
  refine h_icmp_ge (tgt := 79) dX8_wouldThrow_20 (by decide) (fun c1 => ?_) (fun c1 => ?_)
  ·
    refine h_iload dX8_wouldThrow_79 4 rfl ?_
    exact h_iret dX8_wouldThrow_81 rfl (k1 c1)
  ·
    refine h_aload_n dX8_wouldThrow_23 rfl 2 rfl ?_
    refine h_iload_n dX8_wouldThrow_24 rfl 3 rfl ?_
    refine h_iload dX8_wouldThrow_25 6 rfl ?_
    refine h_invV (As := [.int x3, .int x6]) (st := []) dX8_wouldThrow_27 lk_X8_21 (h_room (by decide)) a_h b_h (by decide) rfl rfl rfl (Nat.le_of_ble_eq_true rfl) ?_
    exact k2 c1
set_option maxHeartbeats 1000000 in
set_option maxRecDepth 4000 in
theorem sg_X8_wouldThrow_G_30 {E : HEn} {d : Nat} {Q : Option Value → HIh → Prop} {I : HIh} {h : Nat} {x3 : Int32} {x4 : Int32} {x5 : Int32} {x6 : Int32} {s0 : Int32} (a_h : h < NL) (b_h : Zk h = 3)
    (k1 : s0 ≤ 0 → 0 < x5 → HGo E (mF E (d + 3) Q) me_X8_wouldThrow 14 [(0, .ref 3), (1, .ref 1), (2, .ref h), (3, .int x3), (4, .int x4), (5, .int x5), (6, .int (x6 + 1))] [] I)
    (k2 : s0 ≤ 0 → ¬ 0 < x5 → HCall E me_X3_comparesAll (d + 2) [.ref 3] I (fun v9 J => HGo E (mF E (d + 3) Q) me_X8_wouldThrow 67 [(0, .ref 3), (1, .ref 1), (2, .ref h), (3, .int x3), (4, .int x6), (5, .int (0 + 1)), (6, .int x6)] (v9.toList ++ []) J))
    (k3 : ¬ s0 ≤ 0 → HCall E me_X9_gainOf (d + 2) [.ref 1, .ref h, .int x6] I (fun v9 J => HGo E (mF E (d + 3) Q) me_X8_wouldThrow 40 [(0, .ref 3), (1, .ref 1), (2, .ref h), (3, .int x3), (4, .int x4), (5, .int x5), (6, .int x6)] (v9.toList ++ []) J))
    : HGo E (mF E (d + 3) Q) me_X8_wouldThrow 30 [(0, .ref 3), (1, .ref 1), (2, .ref h), (3, .int x3), (4, .int x4), (5, .int x5), (6, .int x6)] [.int s0] I := by
  refine h_if_le (tgt := 43) dX8_wouldThrow_30 (by decide) (fun c1 => ?_) (fun c1 => ?_)
  ·
    refine h_iconst (v := 0) dX8_wouldThrow_43 (by decide) ?_
    refine h_istore (L' := [(7, .int 0), (0, .ref 3), (1, .ref 1), (2, .ref h), (3, .int x3), (4, .int x4), (5, .int x5), (6, .int x6)]) dX8_wouldThrow_44 (by decide) rfl ?_
    refine h_iload dX8_wouldThrow_46 0 rfl ?_
    refine h_iload dX8_wouldThrow_48 6 rfl ?_
    refine h_icmp_lt (tgt := 73) dX8_wouldThrow_50 (by decide) (fun c2 => ?_) (fun c2 => ?_)
    ·
      refine h_iinc (v := (x6 + 1)) (L' := [(6, .int (x6 + 1)), (7, .int 0), (0, .ref 3), (1, .ref 1), (2, .ref h), (3, .int x3), (4, .int x4), (5, .int x5)]) dX8_wouldThrow_73 7 rfl rfl (by decide) rfl ?_
      refine h_goto (tgt := 14) dX8_wouldThrow_76 (by decide) ?_
      refine h_pick [2, 3, 4, 5, 6, 7, 0] [(0, .ref 3), (1, .ref 1), (2, .ref h), (3, .int x3), (4, .int x4), (5, .int x5), (6, .int (x6 + 1))] rfl ?_
      exact k1 c1 c2
    ·
      refine h_iload dX8_wouldThrow_53 7 rfl ?_
      refine h_istore (L' := [(4, .int x6), (7, .int 0), (0, .ref 3), (1, .ref 1), (2, .ref h), (3, .int x3), (5, .int x5), (6, .int x6)]) dX8_wouldThrow_55 (by decide) rfl ?_
      refine h_iload dX8_wouldThrow_57 1 rfl ?_
      refine h_iconst (v := 1) dX8_wouldThrow_59 (by decide) ?_
      refine h_iadd dX8_wouldThrow_60 ?_
      refine h_istore (L' := [(5, .int (0 + 1)), (4, .int x6), (7, .int 0), (0, .ref 3), (1, .ref 1), (2, .ref h), (3, .int x3), (6, .int x6)]) dX8_wouldThrow_61 (by decide) rfl ?_
      refine h_aload_n dX8_wouldThrow_63 rfl 3 rfl ?_
      refine h_pick [3, 4, 5, 6, 1, 0, 7] [(0, .ref 3), (1, .ref 1), (2, .ref h), (3, .int x3), (4, .int x6), (5, .int (0 + 1)), (6, .int x6)] rfl ?_
      refine h_invU (As := []) (st := []) dX8_wouldThrow_64 lk_X8_31_X3 (h_room (by decide)) nl_3 zk_3 (by decide) rfl rfl rfl (Nat.le_of_ble_eq_true rfl) ?_
      exact k2 c1 c2
  ·
    refine h_aload_n dX8_wouldThrow_33 rfl 1 rfl ?_
    refine h_aload_n dX8_wouldThrow_34 rfl 2 rfl ?_
    refine h_iload dX8_wouldThrow_35 6 rfl ?_
    refine h_invV (As := [.ref h, .int x6]) (st := []) dX8_wouldThrow_37 lk_X8_27 (h_room (by decide)) nl_1 zk_1 (by decide) rfl rfl rfl (Nat.le_of_ble_eq_true rfl) ?_
    exact k3 c1
set_option maxHeartbeats 1000000 in
set_option maxRecDepth 4000 in
theorem sg_X8_wouldThrow_G_67 {E : HEn} {d : Nat} {Q : Option Value → HIh → Prop} {I : HIh} {h : Nat} {x3 : Int32} {x4 : Int32} {x5 : Int32} {x6 : Int32} {s0 : Int32} (a_h : h < NL) (b_h : Zk h = 3)
    (k1 : ¬ s0 = 0 → HGo E (mF E (d + 3) Q) me_X8_wouldThrow 14 [(0, .ref 3), (1, .ref 1), (2, .ref h), (3, .int x3), (4, .int x4), (5, .int x5), (6, .int (x6 + 1))] [] I)
    (k2 : s0 = 0 → Q (some (.int x4)) I)
    : HGo E (mF E (d + 3) Q) me_X8_wouldThrow 67 [(0, .ref 3), (1, .ref 1), (2, .ref h), (3, .int x3), (4, .int x4), (5, .int x5), (6, .int x6)] [.int s0] I := by
  refine h_if_ne (tgt := 73) dX8_wouldThrow_67 (by decide) (fun c1 => ?_) (fun c1 => ?_)
  ·
    refine h_iinc (v := (x6 + 1)) (L' := [(6, .int (x6 + 1)), (0, .ref 3), (1, .ref 1), (2, .ref h), (3, .int x3), (4, .int x4), (5, .int x5)]) dX8_wouldThrow_73 6 rfl rfl (by decide) rfl ?_
    refine h_goto (tgt := 14) dX8_wouldThrow_76 (by decide) ?_
    refine h_pick [1, 2, 3, 4, 5, 6, 0] [(0, .ref 3), (1, .ref 1), (2, .ref h), (3, .int x3), (4, .int x4), (5, .int x5), (6, .int (x6 + 1))] rfl ?_
    exact k1 c1
  ·
    refine h_iload dX8_wouldThrow_70 4 rfl ?_
    exact h_iret dX8_wouldThrow_72 rfl (k2 c1)
set_option maxHeartbeats 1000000 in
set_option maxRecDepth 4000 in
theorem sg_X8_wouldThrow_G_40 {E : HEn} {d : Nat} {Q : Option Value → HIh → Prop} {I : HIh} {h : Nat} {x3 : Int32} {x4 : Int32} {x5 : Int32} {x6 : Int32} {s0 : Int32} (a_h : h < NL) (b_h : Zk h = 3)
    (k1 : s0 < x5 → HGo E (mF E (d + 3) Q) me_X8_wouldThrow 14 [(0, .ref 3), (1, .ref 1), (2, .ref h), (3, .int x3), (4, .int x4), (5, .int x5), (6, .int (x6 + 1))] [] I)
    (k2 : ¬ s0 < x5 → HCall E me_X3_comparesAll (d + 2) [.ref 3] I (fun v9 J => HGo E (mF E (d + 3) Q) me_X8_wouldThrow 67 [(0, .ref 3), (1, .ref 1), (2, .ref h), (3, .int x3), (4, .int x6), (5, .int (s0 + 1)), (6, .int x6)] (v9.toList ++ []) J))
    : HGo E (mF E (d + 3) Q) me_X8_wouldThrow 40 [(0, .ref 3), (1, .ref 1), (2, .ref h), (3, .int x3), (4, .int x4), (5, .int x5), (6, .int x6)] [.int s0] I := by
  refine h_goto (tgt := 44) dX8_wouldThrow_40 (by decide) ?_
  refine h_istore (L' := [(7, .int s0), (0, .ref 3), (1, .ref 1), (2, .ref h), (3, .int x3), (4, .int x4), (5, .int x5), (6, .int x6)]) dX8_wouldThrow_44 (by decide) rfl ?_
  refine h_iload dX8_wouldThrow_46 0 rfl ?_
  refine h_iload dX8_wouldThrow_48 6 rfl ?_
  refine h_icmp_lt (tgt := 73) dX8_wouldThrow_50 (by decide) (fun c1 => ?_) (fun c1 => ?_)
  ·
    refine h_iinc (v := (x6 + 1)) (L' := [(6, .int (x6 + 1)), (7, .int s0), (0, .ref 3), (1, .ref 1), (2, .ref h), (3, .int x3), (4, .int x4), (5, .int x5)]) dX8_wouldThrow_73 7 rfl rfl (by decide) rfl ?_
    refine h_goto (tgt := 14) dX8_wouldThrow_76 (by decide) ?_
    refine h_pick [2, 3, 4, 5, 6, 7, 0] [(0, .ref 3), (1, .ref 1), (2, .ref h), (3, .int x3), (4, .int x4), (5, .int x5), (6, .int (x6 + 1))] rfl ?_
    exact k1 c1
  ·
    refine h_iload dX8_wouldThrow_53 7 rfl ?_
    refine h_istore (L' := [(4, .int x6), (7, .int s0), (0, .ref 3), (1, .ref 1), (2, .ref h), (3, .int x3), (5, .int x5), (6, .int x6)]) dX8_wouldThrow_55 (by decide) rfl ?_
    refine h_iload dX8_wouldThrow_57 1 rfl ?_
    refine h_iconst (v := 1) dX8_wouldThrow_59 (by decide) ?_
    refine h_iadd dX8_wouldThrow_60 ?_
    refine h_istore (L' := [(5, .int (s0 + 1)), (4, .int x6), (7, .int s0), (0, .ref 3), (1, .ref 1), (2, .ref h), (3, .int x3), (6, .int x6)]) dX8_wouldThrow_61 (by decide) rfl ?_
    refine h_aload_n dX8_wouldThrow_63 rfl 3 rfl ?_
    refine h_pick [3, 4, 5, 6, 1, 0, 7] [(0, .ref 3), (1, .ref 1), (2, .ref h), (3, .int x3), (4, .int x6), (5, .int (s0 + 1)), (6, .int x6)] rfl ?_
    refine h_invU (As := []) (st := []) dX8_wouldThrow_64 lk_X8_31_X3 (h_room (by decide)) nl_3 zk_3 (by decide) rfl rfl rfl (Nat.le_of_ble_eq_true rfl) ?_
    exact k2 c1
set_option maxHeartbeats 1000000 in
set_option maxRecDepth 4000 in
theorem sg_X8_wouldThrow_W_0 {E : HEn} {d : Nat} {Q : Option Value → HIh → Prop} {I : HIh} {h : Nat} {p : Int32} (a_h : h < NL) (b_h : Zk h = 3)
    (k1 : HCall E me_X10_leastGain (d + 2) [.ref 4, .ref 1, .int p] I (fun v9 J => HGo E (mF E (d + 3) Q) me_X8_wouldThrow 9 [(0, .ref 4), (1, .ref 1), (2, .ref h), (3, .int p), (4, .int (-1))] (v9.toList ++ []) J))
    : HGo E (mF E (d + 3) Q) me_X8_wouldThrow 0 [(0, .ref 4), (1, .ref 1), (2, .ref h), (3, .int p)] [] I := by
  refine h_iconst (v := (-1)) dX8_wouldThrow_0 (by decide) ?_
  refine h_istore (L' := [(4, .int (-1)), (0, .ref 4), (1, .ref 1), (2, .ref h), (3, .int p)]) dX8_wouldThrow_1 (by decide) rfl ?_
  refine h_aload_n dX8_wouldThrow_3 rfl 1 rfl ?_
  refine h_aload_n dX8_wouldThrow_4 rfl 2 rfl ?_
  refine h_iload_n dX8_wouldThrow_5 rfl 4 rfl ?_
  refine h_pick [1, 2, 3, 4, 0] [(0, .ref 4), (1, .ref 1), (2, .ref h), (3, .int p), (4, .int (-1))] rfl ?_
  refine h_invU (As := [.ref 1, .int p]) (st := []) dX8_wouldThrow_6 lk_X8_9_X10 (h_room (by decide)) nl_4 zk_4 (by decide) rfl rfl rfl (Nat.le_of_ble_eq_true rfl) ?_
  exact k1
set_option maxHeartbeats 1000000 in
set_option maxRecDepth 4000 in
theorem sg_X8_wouldThrow_W_9 {E : HEn} {d : Nat} {Q : Option Value → HIh → Prop} {I : HIh} {h : Nat} {x3 : Int32} {x4 : Int32} {s0 : Int32} (a_h : h < NL) (b_h : Zk h = 3)
    (k1 : HGo E (mF E (d + 3) Q) me_X8_wouldThrow 14 [(0, .ref 4), (1, .ref 1), (2, .ref h), (3, .int x3), (4, .int x4), (5, .int s0), (6, .int 0)] [] I)
    : HGo E (mF E (d + 3) Q) me_X8_wouldThrow 9 [(0, .ref 4), (1, .ref 1), (2, .ref h), (3, .int x3), (4, .int x4)] [.int s0] I := by
  refine h_istore (L' := [(5, .int s0), (0, .ref 4), (1, .ref 1), (2, .ref h), (3, .int x3), (4, .int x4)]) dX8_wouldThrow_9 (by decide) rfl ?_
  refine h_iconst (v := 0) dX8_wouldThrow_11 (by decide) ?_
  refine h_istore (L' := [(6, .int 0), (5, .int s0), (0, .ref 4), (1, .ref 1), (2, .ref h), (3, .int x3), (4, .int x4)]) dX8_wouldThrow_12 (by decide) rfl ?_
  refine h_pick [2, 3, 4, 5, 6, 1, 0] [(0, .ref 4), (1, .ref 1), (2, .ref h), (3, .int x3), (4, .int x4), (5, .int s0), (6, .int 0)] rfl ?_
  exact k1
set_option maxHeartbeats 1000000 in
set_option maxRecDepth 4000 in
theorem sg_X8_wouldThrow_W_14 {E : HEn} {d : Nat} {Q : Option Value → HIh → Prop} {I : HIh} {h : Nat} {x3 : Int32} {x4 : Int32} {x5 : Int32} {x6 : Int32} (a_h : h < NL) (b_h : Zk h = 3)
    (k1 : (I 1 9) ≤ x6 → Q (some (.int x4)) I)
    (k2 : ¬ (I 1 9) ≤ x6 → HCall E me_X4_of (d + 2) [.ref h, .int x3, .int x6] I (fun v9 J => HGo E (mF E (d + 3) Q) me_X8_wouldThrow 30 [(0, .ref 4), (1, .ref 1), (2, .ref h), (3, .int x3), (4, .int x4), (5, .int x5), (6, .int x6)] (v9.toList ++ []) J))
    : HGo E (mF E (d + 3) Q) me_X8_wouldThrow 14 [(0, .ref 4), (1, .ref 1), (2, .ref h), (3, .int x3), (4, .int x4), (5, .int x5), (6, .int x6)] [] I := by
  refine h_iload dX8_wouldThrow_14 6 rfl ?_
  refine h_aload_n dX8_wouldThrow_16 rfl 1 rfl ?_
  refine gf_7_9 dX8_wouldThrow_17 hl_X8_15 nl_1 zk_1 ?_
  refine h_icmp_ge (tgt := 79) dX8_wouldThrow_20 (by decide) (fun c1 => ?_) (fun c1 => ?_)
  ·
    refine h_iload dX8_wouldThrow_79 4 rfl ?_
    exact h_iret dX8_wouldThrow_81 rfl (k1 c1)
  ·
    refine h_aload_n dX8_wouldThrow_23 rfl 2 rfl ?_
    refine h_iload_n dX8_wouldThrow_24 rfl 3 rfl ?_
    refine h_iload dX8_wouldThrow_25 6 rfl ?_
    refine h_invV (As := [.int x3, .int x6]) (st := []) dX8_wouldThrow_27 lk_X8_21 (h_room (by decide)) a_h b_h (by decide) rfl rfl rfl (Nat.le_of_ble_eq_true rfl) ?_
    exact k2 c1
set_option maxHeartbeats 1000000 in
set_option maxRecDepth 4000 in
theorem sg_X8_wouldThrow_W_30 {E : HEn} {d : Nat} {Q : Option Value → HIh → Prop} {I : HIh} {h : Nat} {x3 : Int32} {x4 : Int32} {x5 : Int32} {x6 : Int32} {s0 : Int32} (a_h : h < NL) (b_h : Zk h = 3)
    (k1 : s0 ≤ 0 → 0 < x5 → HGo E (mF E (d + 3) Q) me_X8_wouldThrow 14 [(0, .ref 4), (1, .ref 1), (2, .ref h), (3, .int x3), (4, .int x4), (5, .int x5), (6, .int (x6 + 1))] [] I)
    (k2 : s0 ≤ 0 → ¬ 0 < x5 → HCall E me_X3_comparesAll (d + 2) [.ref 4] I (fun v9 J => HGo E (mF E (d + 3) Q) me_X8_wouldThrow 67 [(0, .ref 4), (1, .ref 1), (2, .ref h), (3, .int x3), (4, .int x6), (5, .int (0 + 1)), (6, .int x6)] (v9.toList ++ []) J))
    (k3 : ¬ s0 ≤ 0 → HCall E me_X9_gainOf (d + 2) [.ref 1, .ref h, .int x6] I (fun v9 J => HGo E (mF E (d + 3) Q) me_X8_wouldThrow 40 [(0, .ref 4), (1, .ref 1), (2, .ref h), (3, .int x3), (4, .int x4), (5, .int x5), (6, .int x6)] (v9.toList ++ []) J))
    : HGo E (mF E (d + 3) Q) me_X8_wouldThrow 30 [(0, .ref 4), (1, .ref 1), (2, .ref h), (3, .int x3), (4, .int x4), (5, .int x5), (6, .int x6)] [.int s0] I := by
  refine h_if_le (tgt := 43) dX8_wouldThrow_30 (by decide) (fun c1 => ?_) (fun c1 => ?_)
  ·
    refine h_iconst (v := 0) dX8_wouldThrow_43 (by decide) ?_
    refine h_istore (L' := [(7, .int 0), (0, .ref 4), (1, .ref 1), (2, .ref h), (3, .int x3), (4, .int x4), (5, .int x5), (6, .int x6)]) dX8_wouldThrow_44 (by decide) rfl ?_
    refine h_iload dX8_wouldThrow_46 0 rfl ?_
    refine h_iload dX8_wouldThrow_48 6 rfl ?_
    refine h_icmp_lt (tgt := 73) dX8_wouldThrow_50 (by decide) (fun c2 => ?_) (fun c2 => ?_)
    ·
      refine h_iinc (v := (x6 + 1)) (L' := [(6, .int (x6 + 1)), (7, .int 0), (0, .ref 4), (1, .ref 1), (2, .ref h), (3, .int x3), (4, .int x4), (5, .int x5)]) dX8_wouldThrow_73 7 rfl rfl (by decide) rfl ?_
      refine h_goto (tgt := 14) dX8_wouldThrow_76 (by decide) ?_
      refine h_pick [2, 3, 4, 5, 6, 7, 0] [(0, .ref 4), (1, .ref 1), (2, .ref h), (3, .int x3), (4, .int x4), (5, .int x5), (6, .int (x6 + 1))] rfl ?_
      exact k1 c1 c2
    ·
      refine h_iload dX8_wouldThrow_53 7 rfl ?_
      refine h_istore (L' := [(4, .int x6), (7, .int 0), (0, .ref 4), (1, .ref 1), (2, .ref h), (3, .int x3), (5, .int x5), (6, .int x6)]) dX8_wouldThrow_55 (by decide) rfl ?_
      refine h_iload dX8_wouldThrow_57 1 rfl ?_
      refine h_iconst (v := 1) dX8_wouldThrow_59 (by decide) ?_
      refine h_iadd dX8_wouldThrow_60 ?_
      refine h_istore (L' := [(5, .int (0 + 1)), (4, .int x6), (7, .int 0), (0, .ref 4), (1, .ref 1), (2, .ref h), (3, .int x3), (6, .int x6)]) dX8_wouldThrow_61 (by decide) rfl ?_
      refine h_aload_n dX8_wouldThrow_63 rfl 3 rfl ?_
      refine h_pick [3, 4, 5, 6, 1, 0, 7] [(0, .ref 4), (1, .ref 1), (2, .ref h), (3, .int x3), (4, .int x6), (5, .int (0 + 1)), (6, .int x6)] rfl ?_
      refine h_invU (As := []) (st := []) dX8_wouldThrow_64 lk_X8_31_X10 (h_room (by decide)) nl_4 zk_4 (by decide) rfl rfl rfl (Nat.le_of_ble_eq_true rfl) ?_
      exact k2 c1 c2
  ·
    refine h_aload_n dX8_wouldThrow_33 rfl 1 rfl ?_
    refine h_aload_n dX8_wouldThrow_34 rfl 2 rfl ?_
    refine h_iload dX8_wouldThrow_35 6 rfl ?_
    refine h_invV (As := [.ref h, .int x6]) (st := []) dX8_wouldThrow_37 lk_X8_27 (h_room (by decide)) nl_1 zk_1 (by decide) rfl rfl rfl (Nat.le_of_ble_eq_true rfl) ?_
    exact k3 c1
set_option maxHeartbeats 1000000 in
set_option maxRecDepth 4000 in
theorem sg_X8_wouldThrow_W_67 {E : HEn} {d : Nat} {Q : Option Value → HIh → Prop} {I : HIh} {h : Nat} {x3 : Int32} {x4 : Int32} {x5 : Int32} {x6 : Int32} {s0 : Int32} (a_h : h < NL) (b_h : Zk h = 3)
    (k1 : ¬ s0 = 0 → HGo E (mF E (d + 3) Q) me_X8_wouldThrow 14 [(0, .ref 4), (1, .ref 1), (2, .ref h), (3, .int x3), (4, .int x4), (5, .int x5), (6, .int (x6 + 1))] [] I)
    (k2 : s0 = 0 → Q (some (.int x4)) I)
    : HGo E (mF E (d + 3) Q) me_X8_wouldThrow 67 [(0, .ref 4), (1, .ref 1), (2, .ref h), (3, .int x3), (4, .int x4), (5, .int x5), (6, .int x6)] [.int s0] I := by
  refine h_if_ne (tgt := 73) dX8_wouldThrow_67 (by decide) (fun c1 => ?_) (fun c1 => ?_)
  ·
    refine h_iinc (v := (x6 + 1)) (L' := [(6, .int (x6 + 1)), (0, .ref 4), (1, .ref 1), (2, .ref h), (3, .int x3), (4, .int x4), (5, .int x5)]) dX8_wouldThrow_73 6 rfl rfl (by decide) rfl ?_
    refine h_goto (tgt := 14) dX8_wouldThrow_76 (by decide) ?_
    refine h_pick [1, 2, 3, 4, 5, 6, 0] [(0, .ref 4), (1, .ref 1), (2, .ref h), (3, .int x3), (4, .int x4), (5, .int x5), (6, .int (x6 + 1))] rfl ?_
    exact k1 c1
  ·
    refine h_iload dX8_wouldThrow_70 4 rfl ?_
    exact h_iret dX8_wouldThrow_72 rfl (k2 c1)
set_option maxHeartbeats 1000000 in
set_option maxRecDepth 4000 in
theorem sg_X8_wouldThrow_W_40 {E : HEn} {d : Nat} {Q : Option Value → HIh → Prop} {I : HIh} {h : Nat} {x3 : Int32} {x4 : Int32} {x5 : Int32} {x6 : Int32} {s0 : Int32} (a_h : h < NL) (b_h : Zk h = 3)
    (k1 : s0 < x5 → HGo E (mF E (d + 3) Q) me_X8_wouldThrow 14 [(0, .ref 4), (1, .ref 1), (2, .ref h), (3, .int x3), (4, .int x4), (5, .int x5), (6, .int (x6 + 1))] [] I)
    (k2 : ¬ s0 < x5 → HCall E me_X3_comparesAll (d + 2) [.ref 4] I (fun v9 J => HGo E (mF E (d + 3) Q) me_X8_wouldThrow 67 [(0, .ref 4), (1, .ref 1), (2, .ref h), (3, .int x3), (4, .int x6), (5, .int (s0 + 1)), (6, .int x6)] (v9.toList ++ []) J))
    : HGo E (mF E (d + 3) Q) me_X8_wouldThrow 40 [(0, .ref 4), (1, .ref 1), (2, .ref h), (3, .int x3), (4, .int x4), (5, .int x5), (6, .int x6)] [.int s0] I := by
  refine h_goto (tgt := 44) dX8_wouldThrow_40 (by decide) ?_
  refine h_istore (L' := [(7, .int s0), (0, .ref 4), (1, .ref 1), (2, .ref h), (3, .int x3), (4, .int x4), (5, .int x5), (6, .int x6)]) dX8_wouldThrow_44 (by decide) rfl ?_
  refine h_iload dX8_wouldThrow_46 0 rfl ?_
  refine h_iload dX8_wouldThrow_48 6 rfl ?_
  refine h_icmp_lt (tgt := 73) dX8_wouldThrow_50 (by decide) (fun c1 => ?_) (fun c1 => ?_)
  ·
    refine h_iinc (v := (x6 + 1)) (L' := [(6, .int (x6 + 1)), (7, .int s0), (0, .ref 4), (1, .ref 1), (2, .ref h), (3, .int x3), (4, .int x4), (5, .int x5)]) dX8_wouldThrow_73 7 rfl rfl (by decide) rfl ?_
    refine h_goto (tgt := 14) dX8_wouldThrow_76 (by decide) ?_
    refine h_pick [2, 3, 4, 5, 6, 7, 0] [(0, .ref 4), (1, .ref 1), (2, .ref h), (3, .int x3), (4, .int x4), (5, .int x5), (6, .int (x6 + 1))] rfl ?_
    exact k1 c1
  ·
    refine h_iload dX8_wouldThrow_53 7 rfl ?_
    refine h_istore (L' := [(4, .int x6), (7, .int s0), (0, .ref 4), (1, .ref 1), (2, .ref h), (3, .int x3), (5, .int x5), (6, .int x6)]) dX8_wouldThrow_55 (by decide) rfl ?_
    refine h_iload dX8_wouldThrow_57 1 rfl ?_
    refine h_iconst (v := 1) dX8_wouldThrow_59 (by decide) ?_
    refine h_iadd dX8_wouldThrow_60 ?_
    refine h_istore (L' := [(5, .int (s0 + 1)), (4, .int x6), (7, .int s0), (0, .ref 4), (1, .ref 1), (2, .ref h), (3, .int x3), (6, .int x6)]) dX8_wouldThrow_61 (by decide) rfl ?_
    refine h_aload_n dX8_wouldThrow_63 rfl 3 rfl ?_
    refine h_pick [3, 4, 5, 6, 1, 0, 7] [(0, .ref 4), (1, .ref 1), (2, .ref h), (3, .int x3), (4, .int x6), (5, .int (s0 + 1)), (6, .int x6)] rfl ?_
    refine h_invU (As := []) (st := []) dX8_wouldThrow_64 lk_X8_31_X10 (h_room (by decide)) nl_4 zk_4 (by decide) rfl rfl rfl (Nat.le_of_ble_eq_true rfl) ?_
    exact k2 c1
set_option maxHeartbeats 1000000 in
set_option maxRecDepth 4000 in
theorem sg_X8_wouldThrow_C_0 {E : HEn} {d : Nat} {Q : Option Value → HIh → Prop} {I : HIh} {h : Nat} {p : Int32} (a_h : h < NL) (b_h : Zk h = 3)
    (k1 : HCall E me_X8_leastGain (d + 2) [.ref 5, .ref 1, .int p] I (fun v9 J => HGo E (mF E (d + 3) Q) me_X8_wouldThrow 9 [(0, .ref 5), (1, .ref 1), (2, .ref h), (3, .int p), (4, .int (-1))] (v9.toList ++ []) J))
    : HGo E (mF E (d + 3) Q) me_X8_wouldThrow 0 [(0, .ref 5), (1, .ref 1), (2, .ref h), (3, .int p)] [] I := by
  refine h_iconst (v := (-1)) dX8_wouldThrow_0 (by decide) ?_
  refine h_istore (L' := [(4, .int (-1)), (0, .ref 5), (1, .ref 1), (2, .ref h), (3, .int p)]) dX8_wouldThrow_1 (by decide) rfl ?_
  refine h_aload_n dX8_wouldThrow_3 rfl 1 rfl ?_
  refine h_aload_n dX8_wouldThrow_4 rfl 2 rfl ?_
  refine h_iload_n dX8_wouldThrow_5 rfl 4 rfl ?_
  refine h_pick [1, 2, 3, 4, 0] [(0, .ref 5), (1, .ref 1), (2, .ref h), (3, .int p), (4, .int (-1))] rfl ?_
  refine h_invU (As := [.ref 1, .int p]) (st := []) dX8_wouldThrow_6 lk_X8_9_X0 (h_room (by decide)) nl_5 zk_5 (by decide) rfl rfl rfl (Nat.le_of_ble_eq_true rfl) ?_
  exact k1
set_option maxHeartbeats 1000000 in
set_option maxRecDepth 4000 in
theorem sg_X8_wouldThrow_C_9 {E : HEn} {d : Nat} {Q : Option Value → HIh → Prop} {I : HIh} {h : Nat} {x3 : Int32} {x4 : Int32} {s0 : Int32} (a_h : h < NL) (b_h : Zk h = 3)
    (k1 : HGo E (mF E (d + 3) Q) me_X8_wouldThrow 14 [(0, .ref 5), (1, .ref 1), (2, .ref h), (3, .int x3), (4, .int x4), (5, .int s0), (6, .int 0)] [] I)
    : HGo E (mF E (d + 3) Q) me_X8_wouldThrow 9 [(0, .ref 5), (1, .ref 1), (2, .ref h), (3, .int x3), (4, .int x4)] [.int s0] I := by
  refine h_istore (L' := [(5, .int s0), (0, .ref 5), (1, .ref 1), (2, .ref h), (3, .int x3), (4, .int x4)]) dX8_wouldThrow_9 (by decide) rfl ?_
  refine h_iconst (v := 0) dX8_wouldThrow_11 (by decide) ?_
  refine h_istore (L' := [(6, .int 0), (5, .int s0), (0, .ref 5), (1, .ref 1), (2, .ref h), (3, .int x3), (4, .int x4)]) dX8_wouldThrow_12 (by decide) rfl ?_
  refine h_pick [2, 3, 4, 5, 6, 1, 0] [(0, .ref 5), (1, .ref 1), (2, .ref h), (3, .int x3), (4, .int x4), (5, .int s0), (6, .int 0)] rfl ?_
  exact k1
set_option maxHeartbeats 1000000 in
set_option maxRecDepth 4000 in
theorem sg_X8_wouldThrow_C_14 {E : HEn} {d : Nat} {Q : Option Value → HIh → Prop} {I : HIh} {h : Nat} {x3 : Int32} {x4 : Int32} {x5 : Int32} {x6 : Int32} (a_h : h < NL) (b_h : Zk h = 3)
    (k1 : (I 1 9) ≤ x6 → Q (some (.int x4)) I)
    (k2 : ¬ (I 1 9) ≤ x6 → HCall E me_X4_of (d + 2) [.ref h, .int x3, .int x6] I (fun v9 J => HGo E (mF E (d + 3) Q) me_X8_wouldThrow 30 [(0, .ref 5), (1, .ref 1), (2, .ref h), (3, .int x3), (4, .int x4), (5, .int x5), (6, .int x6)] (v9.toList ++ []) J))
    : HGo E (mF E (d + 3) Q) me_X8_wouldThrow 14 [(0, .ref 5), (1, .ref 1), (2, .ref h), (3, .int x3), (4, .int x4), (5, .int x5), (6, .int x6)] [] I := by
  refine h_iload dX8_wouldThrow_14 6 rfl ?_
  refine h_aload_n dX8_wouldThrow_16 rfl 1 rfl ?_
  refine gf_7_9 dX8_wouldThrow_17 hl_X8_15 nl_1 zk_1 ?_
  refine h_icmp_ge (tgt := 79) dX8_wouldThrow_20 (by decide) (fun c1 => ?_) (fun c1 => ?_)
  ·
    refine h_iload dX8_wouldThrow_79 4 rfl ?_
    exact h_iret dX8_wouldThrow_81 rfl (k1 c1)
  ·
    refine h_aload_n dX8_wouldThrow_23 rfl 2 rfl ?_
    refine h_iload_n dX8_wouldThrow_24 rfl 3 rfl ?_
    refine h_iload dX8_wouldThrow_25 6 rfl ?_
    refine h_invV (As := [.int x3, .int x6]) (st := []) dX8_wouldThrow_27 lk_X8_21 (h_room (by decide)) a_h b_h (by decide) rfl rfl rfl (Nat.le_of_ble_eq_true rfl) ?_
    exact k2 c1
set_option maxHeartbeats 1000000 in
set_option maxRecDepth 4000 in
theorem sg_X8_wouldThrow_C_30 {E : HEn} {d : Nat} {Q : Option Value → HIh → Prop} {I : HIh} {h : Nat} {x3 : Int32} {x4 : Int32} {x5 : Int32} {x6 : Int32} {s0 : Int32} (a_h : h < NL) (b_h : Zk h = 3)
    (k1 : s0 ≤ 0 → 0 < x5 → HGo E (mF E (d + 3) Q) me_X8_wouldThrow 14 [(0, .ref 5), (1, .ref 1), (2, .ref h), (3, .int x3), (4, .int x4), (5, .int x5), (6, .int (x6 + 1))] [] I)
    (k2 : s0 ≤ 0 → ¬ 0 < x5 → HCall E me_X0_comparesAll (d + 2) [.ref 5] I (fun v9 J => HGo E (mF E (d + 3) Q) me_X8_wouldThrow 67 [(0, .ref 5), (1, .ref 1), (2, .ref h), (3, .int x3), (4, .int x6), (5, .int (0 + 1)), (6, .int x6)] (v9.toList ++ []) J))
    (k3 : ¬ s0 ≤ 0 → HCall E me_X9_gainOf (d + 2) [.ref 1, .ref h, .int x6] I (fun v9 J => HGo E (mF E (d + 3) Q) me_X8_wouldThrow 40 [(0, .ref 5), (1, .ref 1), (2, .ref h), (3, .int x3), (4, .int x4), (5, .int x5), (6, .int x6)] (v9.toList ++ []) J))
    : HGo E (mF E (d + 3) Q) me_X8_wouldThrow 30 [(0, .ref 5), (1, .ref 1), (2, .ref h), (3, .int x3), (4, .int x4), (5, .int x5), (6, .int x6)] [.int s0] I := by
  refine h_if_le (tgt := 43) dX8_wouldThrow_30 (by decide) (fun c1 => ?_) (fun c1 => ?_)
  ·
    refine h_iconst (v := 0) dX8_wouldThrow_43 (by decide) ?_
    refine h_istore (L' := [(7, .int 0), (0, .ref 5), (1, .ref 1), (2, .ref h), (3, .int x3), (4, .int x4), (5, .int x5), (6, .int x6)]) dX8_wouldThrow_44 (by decide) rfl ?_
    refine h_iload dX8_wouldThrow_46 0 rfl ?_
    refine h_iload dX8_wouldThrow_48 6 rfl ?_
    refine h_icmp_lt (tgt := 73) dX8_wouldThrow_50 (by decide) (fun c2 => ?_) (fun c2 => ?_)
    ·
      refine h_iinc (v := (x6 + 1)) (L' := [(6, .int (x6 + 1)), (7, .int 0), (0, .ref 5), (1, .ref 1), (2, .ref h), (3, .int x3), (4, .int x4), (5, .int x5)]) dX8_wouldThrow_73 7 rfl rfl (by decide) rfl ?_
      refine h_goto (tgt := 14) dX8_wouldThrow_76 (by decide) ?_
      refine h_pick [2, 3, 4, 5, 6, 7, 0] [(0, .ref 5), (1, .ref 1), (2, .ref h), (3, .int x3), (4, .int x4), (5, .int x5), (6, .int (x6 + 1))] rfl ?_
      exact k1 c1 c2
    ·
      refine h_iload dX8_wouldThrow_53 7 rfl ?_
      refine h_istore (L' := [(4, .int x6), (7, .int 0), (0, .ref 5), (1, .ref 1), (2, .ref h), (3, .int x3), (5, .int x5), (6, .int x6)]) dX8_wouldThrow_55 (by decide) rfl ?_
      refine h_iload dX8_wouldThrow_57 1 rfl ?_
      refine h_iconst (v := 1) dX8_wouldThrow_59 (by decide) ?_
      refine h_iadd dX8_wouldThrow_60 ?_
      refine h_istore (L' := [(5, .int (0 + 1)), (4, .int x6), (7, .int 0), (0, .ref 5), (1, .ref 1), (2, .ref h), (3, .int x3), (6, .int x6)]) dX8_wouldThrow_61 (by decide) rfl ?_
      refine h_aload_n dX8_wouldThrow_63 rfl 3 rfl ?_
      refine h_pick [3, 4, 5, 6, 1, 0, 7] [(0, .ref 5), (1, .ref 1), (2, .ref h), (3, .int x3), (4, .int x6), (5, .int (0 + 1)), (6, .int x6)] rfl ?_
      refine h_invU (As := []) (st := []) dX8_wouldThrow_64 lk_X8_31_X0 (h_room (by decide)) nl_5 zk_5 (by decide) rfl rfl rfl (Nat.le_of_ble_eq_true rfl) ?_
      exact k2 c1 c2
  ·
    refine h_aload_n dX8_wouldThrow_33 rfl 1 rfl ?_
    refine h_aload_n dX8_wouldThrow_34 rfl 2 rfl ?_
    refine h_iload dX8_wouldThrow_35 6 rfl ?_
    refine h_invV (As := [.ref h, .int x6]) (st := []) dX8_wouldThrow_37 lk_X8_27 (h_room (by decide)) nl_1 zk_1 (by decide) rfl rfl rfl (Nat.le_of_ble_eq_true rfl) ?_
    exact k3 c1
set_option maxHeartbeats 1000000 in
set_option maxRecDepth 4000 in
theorem sg_X8_wouldThrow_C_67 {E : HEn} {d : Nat} {Q : Option Value → HIh → Prop} {I : HIh} {h : Nat} {x3 : Int32} {x4 : Int32} {x5 : Int32} {x6 : Int32} {s0 : Int32} (a_h : h < NL) (b_h : Zk h = 3)
    (k1 : ¬ s0 = 0 → HGo E (mF E (d + 3) Q) me_X8_wouldThrow 14 [(0, .ref 5), (1, .ref 1), (2, .ref h), (3, .int x3), (4, .int x4), (5, .int x5), (6, .int (x6 + 1))] [] I)
    (k2 : s0 = 0 → Q (some (.int x4)) I)
    : HGo E (mF E (d + 3) Q) me_X8_wouldThrow 67 [(0, .ref 5), (1, .ref 1), (2, .ref h), (3, .int x3), (4, .int x4), (5, .int x5), (6, .int x6)] [.int s0] I := by
  refine h_if_ne (tgt := 73) dX8_wouldThrow_67 (by decide) (fun c1 => ?_) (fun c1 => ?_)
  ·
    refine h_iinc (v := (x6 + 1)) (L' := [(6, .int (x6 + 1)), (0, .ref 5), (1, .ref 1), (2, .ref h), (3, .int x3), (4, .int x4), (5, .int x5)]) dX8_wouldThrow_73 6 rfl rfl (by decide) rfl ?_
    refine h_goto (tgt := 14) dX8_wouldThrow_76 (by decide) ?_
    refine h_pick [1, 2, 3, 4, 5, 6, 0] [(0, .ref 5), (1, .ref 1), (2, .ref h), (3, .int x3), (4, .int x4), (5, .int x5), (6, .int (x6 + 1))] rfl ?_
    exact k1 c1
  ·
    refine h_iload dX8_wouldThrow_70 4 rfl ?_
    exact h_iret dX8_wouldThrow_72 rfl (k2 c1)
set_option maxHeartbeats 1000000 in
set_option maxRecDepth 4000 in
theorem sg_X8_wouldThrow_C_40 {E : HEn} {d : Nat} {Q : Option Value → HIh → Prop} {I : HIh} {h : Nat} {x3 : Int32} {x4 : Int32} {x5 : Int32} {x6 : Int32} {s0 : Int32} (a_h : h < NL) (b_h : Zk h = 3)
    (k1 : s0 < x5 → HGo E (mF E (d + 3) Q) me_X8_wouldThrow 14 [(0, .ref 5), (1, .ref 1), (2, .ref h), (3, .int x3), (4, .int x4), (5, .int x5), (6, .int (x6 + 1))] [] I)
    (k2 : ¬ s0 < x5 → HCall E me_X0_comparesAll (d + 2) [.ref 5] I (fun v9 J => HGo E (mF E (d + 3) Q) me_X8_wouldThrow 67 [(0, .ref 5), (1, .ref 1), (2, .ref h), (3, .int x3), (4, .int x6), (5, .int (s0 + 1)), (6, .int x6)] (v9.toList ++ []) J))
    : HGo E (mF E (d + 3) Q) me_X8_wouldThrow 40 [(0, .ref 5), (1, .ref 1), (2, .ref h), (3, .int x3), (4, .int x4), (5, .int x5), (6, .int x6)] [.int s0] I := by
  refine h_goto (tgt := 44) dX8_wouldThrow_40 (by decide) ?_
  refine h_istore (L' := [(7, .int s0), (0, .ref 5), (1, .ref 1), (2, .ref h), (3, .int x3), (4, .int x4), (5, .int x5), (6, .int x6)]) dX8_wouldThrow_44 (by decide) rfl ?_
  refine h_iload dX8_wouldThrow_46 0 rfl ?_
  refine h_iload dX8_wouldThrow_48 6 rfl ?_
  refine h_icmp_lt (tgt := 73) dX8_wouldThrow_50 (by decide) (fun c1 => ?_) (fun c1 => ?_)
  ·
    refine h_iinc (v := (x6 + 1)) (L' := [(6, .int (x6 + 1)), (7, .int s0), (0, .ref 5), (1, .ref 1), (2, .ref h), (3, .int x3), (4, .int x4), (5, .int x5)]) dX8_wouldThrow_73 7 rfl rfl (by decide) rfl ?_
    refine h_goto (tgt := 14) dX8_wouldThrow_76 (by decide) ?_
    refine h_pick [2, 3, 4, 5, 6, 7, 0] [(0, .ref 5), (1, .ref 1), (2, .ref h), (3, .int x3), (4, .int x4), (5, .int x5), (6, .int (x6 + 1))] rfl ?_
    exact k1 c1
  ·
    refine h_iload dX8_wouldThrow_53 7 rfl ?_
    refine h_istore (L' := [(4, .int x6), (7, .int s0), (0, .ref 5), (1, .ref 1), (2, .ref h), (3, .int x3), (5, .int x5), (6, .int x6)]) dX8_wouldThrow_55 (by decide) rfl ?_
    refine h_iload dX8_wouldThrow_57 1 rfl ?_
    refine h_iconst (v := 1) dX8_wouldThrow_59 (by decide) ?_
    refine h_iadd dX8_wouldThrow_60 ?_
    refine h_istore (L' := [(5, .int (s0 + 1)), (4, .int x6), (7, .int s0), (0, .ref 5), (1, .ref 1), (2, .ref h), (3, .int x3), (6, .int x6)]) dX8_wouldThrow_61 (by decide) rfl ?_
    refine h_aload_n dX8_wouldThrow_63 rfl 3 rfl ?_
    refine h_pick [3, 4, 5, 6, 1, 0, 7] [(0, .ref 5), (1, .ref 1), (2, .ref h), (3, .int x3), (4, .int x6), (5, .int (s0 + 1)), (6, .int x6)] rfl ?_
    refine h_invU (As := []) (st := []) dX8_wouldThrow_64 lk_X8_31_X0 (h_room (by decide)) nl_5 zk_5 (by decide) rfl rfl rfl (Nat.le_of_ble_eq_true rfl) ?_
    exact k2 c1
