set_option maxHeartbeats 1000000 in
set_option maxRecDepth 20000 in
theorem sg_X4_of_0 {E : HEn} {d : Nat} {Q : Option Value → HIh → Prop} {I : HIh} {h c : Nat} {o : Int32} {k : Int32} (a_h : h < NL) (b_h : Zk h = 3) (p_h : Zp h 0 = c) (a_c : c < NL) (b_c : Zk c = 11) (n_c : Zn c = 30)
    (k1 : o < 0 → Q (some (.int 0)) I)
    (k2 : ¬ o < 0 → 5 ≤ o → Q (some (.int 0)) I)
    (k3 : ¬ o < 0 → ¬ 5 ≤ o → k < 0 → Q (some (.int 0)) I)
    (k4 : ¬ o < 0 → ¬ 5 ≤ o → ¬ k < 0 → 6 ≤ k → Q (some (.int 0)) I)
    (k5 : ¬ o < 0 → ¬ 5 ≤ o → ¬ k < 0 → ¬ 6 ≤ k → vp_in ((o * 6) + k) 30)
    (k6 : ¬ o < 0 → ¬ 5 ≤ o → ¬ k < 0 → ¬ 6 ≤ k → Q (some (.int (I c (((o * 6) + k).toNatClampNeg)))) I)
    : HGo E (mF E (d + 1) Q) me_X4_of 0 [(0, .ref h), (1, .int o), (2, .int k)] [] I := by
  refine h_iload_n dX4_of_0 rfl 1 rfl ?_
  refine h_if_lt (tgt := 23) dX4_of_1 (by decide) (fun c1 => ?_) (fun c1 => ?_)
  ·
    refine h_iconst (v := 0) dX4_of_23 (by decide) ?_
    refine h_istore_n (L' := [(3, .int 0), (0, .ref h), (1, .int o), (2, .int k)]) dX4_of_24 rfl (by decide) rfl ?_
    refine h_iload_n dX4_of_25 rfl 0 rfl ?_
    refine h_if_eq (tgt := 43) dX4_of_26 (by decide) (fun _ => ?_) (fun c => absurd c (by decide))
    refine h_iconst (v := 0) dX4_of_43 (by decide) ?_
    exact h_iret dX4_of_44 rfl (k1 c1)
  ·
    refine h_iload_n dX4_of_4 rfl 1 rfl ?_
    refine h_iconst (v := 5) dX4_of_5 (by decide) ?_
    refine h_icmp_ge (tgt := 23) dX4_of_6 (by decide) (fun c2 => ?_) (fun c2 => ?_)
    ·
      refine h_iconst (v := 0) dX4_of_23 (by decide) ?_
      refine h_istore_n (L' := [(3, .int 0), (0, .ref h), (1, .int o), (2, .int k)]) dX4_of_24 rfl (by decide) rfl ?_
      refine h_iload_n dX4_of_25 rfl 0 rfl ?_
      refine h_if_eq (tgt := 43) dX4_of_26 (by decide) (fun _ => ?_) (fun c => absurd c (by decide))
      refine h_iconst (v := 0) dX4_of_43 (by decide) ?_
      exact h_iret dX4_of_44 rfl (k2 c1 c2)
    ·
      refine h_iload_n dX4_of_9 rfl 2 rfl ?_
      refine h_if_lt (tgt := 23) dX4_of_10 (by decide) (fun c3 => ?_) (fun c3 => ?_)
      ·
        refine h_iconst (v := 0) dX4_of_23 (by decide) ?_
        refine h_istore_n (L' := [(3, .int 0), (0, .ref h), (1, .int o), (2, .int k)]) dX4_of_24 rfl (by decide) rfl ?_
        refine h_iload_n dX4_of_25 rfl 0 rfl ?_
        refine h_if_eq (tgt := 43) dX4_of_26 (by decide) (fun _ => ?_) (fun c => absurd c (by decide))
        refine h_iconst (v := 0) dX4_of_43 (by decide) ?_
        exact h_iret dX4_of_44 rfl (k3 c1 c2 c3)
      ·
        refine h_iload_n dX4_of_13 rfl 2 rfl ?_
        refine h_bipush (v := 6) dX4_of_14 (by decide) ?_
        refine h_icmp_ge (tgt := 23) dX4_of_16 (by decide) (fun c4 => ?_) (fun c4 => ?_)
        ·
          refine h_iconst (v := 0) dX4_of_23 (by decide) ?_
          refine h_istore_n (L' := [(3, .int 0), (0, .ref h), (1, .int o), (2, .int k)]) dX4_of_24 rfl (by decide) rfl ?_
          refine h_iload_n dX4_of_25 rfl 0 rfl ?_
          refine h_if_eq (tgt := 43) dX4_of_26 (by decide) (fun _ => ?_) (fun c => absurd c (by decide))
          refine h_iconst (v := 0) dX4_of_43 (by decide) ?_
          exact h_iret dX4_of_44 rfl (k4 c1 c2 c3 c4)
        ·
          refine h_iconst (v := 1) dX4_of_19 (by decide) ?_
          refine h_goto (tgt := 24) dX4_of_20 (by decide) ?_
          refine h_istore_n (L' := [(3, .int 1), (0, .ref h), (1, .int o), (2, .int k)]) dX4_of_24 rfl (by decide) rfl ?_
          refine h_iload_n dX4_of_25 rfl 0 rfl ?_
          refine h_if_eq (tgt := 43) dX4_of_26 (by decide) (fun c => absurd c (by decide)) (fun _ => ?_)
          refine h_aload_n dX4_of_29 rfl 1 rfl ?_
          refine gf_3_0 dX4_of_30 hl_X4_9 a_h b_h p_h ?_
          refine h_iload_n dX4_of_33 rfl 2 rfl ?_
          refine h_bipush (v := 6) dX4_of_34 (by decide) ?_
          refine h_imul dX4_of_36 ?_
          refine h_iload_n dX4_of_37 rfl 3 rfl ?_
          refine h_iadd dX4_of_38 ?_
          refine h_iald dX4_of_39 a_c b_c (by rw [n_c]; exact k5 c1 c2 c3 c4) ?_
          refine h_goto (tgt := 44) dX4_of_40 (by decide) ?_
          exact h_iret dX4_of_44 rfl (k6 c1 c2 c3 c4)
set_option maxHeartbeats 1000000 in
set_option maxRecDepth 20000 in
theorem sg_X4_add_0 {E : HEn} {d : Nat} {Q : Option Value → HIh → Prop} {I : HIh} {h c : Nat} {o : Int32} {k : Int32} {z : Int32} (a_h : h < NL) (b_h : Zk h = 3) (p_h : Zp h 0 = c) (a_c : c < NL) (b_c : Zk c = 11) (n_c : Zn c = 30)
    (k1 : o < 0 → Q none I)
    (k2 : ¬ o < 0 → 5 ≤ o → Q none I)
    (k3 : ¬ o < 0 → ¬ 5 ≤ o → k < 0 → Q none I)
    (k4 : ¬ o < 0 → ¬ 5 ≤ o → ¬ k < 0 → 6 ≤ k → Q none I)
    (k5 : ¬ o < 0 → ¬ 5 ≤ o → ¬ k < 0 → ¬ 6 ≤ k → vp_in ((o * 6) + k) 30)
    (k6 : ¬ o < 0 → ¬ 5 ≤ o → ¬ k < 0 → ¬ 6 ≤ k → Q none (setI I c (upd (I c) ((o * 6) + k).toNatClampNeg ((I c (((o * 6) + k).toNatClampNeg)) + z))))
    : HGo E (mF E (d + 1) Q) me_X4_add 0 [(0, .ref h), (1, .int o), (2, .int k), (3, .int z)] [] I := by
  refine h_iload_n dX4_add_0 rfl 1 rfl ?_
  refine h_if_lt (tgt := 34) dX4_add_1 (by decide) (fun c1 => ?_) (fun c1 => ?_)
  ·
    exact h_vret dX4_add_34 rfl (k1 c1)
  ·
    refine h_iload_n dX4_add_4 rfl 1 rfl ?_
    refine h_iconst (v := 5) dX4_add_5 (by decide) ?_
    refine h_icmp_ge (tgt := 34) dX4_add_6 (by decide) (fun c2 => ?_) (fun c2 => ?_)
    ·
      exact h_vret dX4_add_34 rfl (k2 c1 c2)
    ·
      refine h_iload_n dX4_add_9 rfl 2 rfl ?_
      refine h_if_lt (tgt := 34) dX4_add_10 (by decide) (fun c3 => ?_) (fun c3 => ?_)
      ·
        exact h_vret dX4_add_34 rfl (k3 c1 c2 c3)
      ·
        refine h_iload_n dX4_add_13 rfl 2 rfl ?_
        refine h_bipush (v := 6) dX4_add_14 (by decide) ?_
        refine h_icmp_ge (tgt := 34) dX4_add_16 (by decide) (fun c4 => ?_) (fun c4 => ?_)
        ·
          exact h_vret dX4_add_34 rfl (k4 c1 c2 c3 c4)
        ·
          refine h_aload_n dX4_add_19 rfl 0 rfl ?_
          refine gf_3_0 dX4_add_20 hl_X4_9 a_h b_h p_h ?_
          refine h_iload_n dX4_add_23 rfl 1 rfl ?_
          refine h_bipush (v := 6) dX4_add_24 (by decide) ?_
          refine h_imul dX4_add_26 ?_
          refine h_iload_n dX4_add_27 rfl 2 rfl ?_
          refine h_iadd dX4_add_28 ?_
          refine h_dup2 dX4_add_29 rfl rfl ?_
          refine h_iald dX4_add_30 a_c b_c (by rw [n_c]; exact k5 c1 c2 c3 c4) ?_
          refine h_iload_n dX4_add_31 rfl 3 rfl ?_
          refine h_iadd dX4_add_32 ?_
          refine h_iast dX4_add_33 a_c b_c (by rw [n_c]; exact k5 c1 c2 c3 c4) ?_
          exact h_vret dX4_add_34 rfl (k6 c1 c2 c3 c4)
set_option maxHeartbeats 1000000 in
set_option maxRecDepth 20000 in
theorem sg_X4_empty_0 {E : HEn} {d : Nat} {Q : Option Value → HIh → Prop} {I : HIh} {h : Nat} (a_h : h < NL) (b_h : Zk h = 3)
    (k1 : HGo E (mF E (d + 1) Q) me_X4_empty 2 [(0, .ref h), (1, .int 0)] [] I)
    : HGo E (mF E (d + 1) Q) me_X4_empty 0 [(0, .ref h)] [] I := by
  refine h_iconst (v := 0) dX4_empty_0 (by decide) ?_
  refine h_istore_n (L' := [(1, .int 0), (0, .ref h)]) dX4_empty_1 rfl (by decide) rfl ?_
  refine h_pick [1, 0] [(0, .ref h), (1, .int 0)] rfl ?_
  exact k1
set_option maxHeartbeats 1000000 in
set_option maxRecDepth 20000 in
theorem sg_X4_empty_2 {E : HEn} {d : Nat} {Q : Option Value → HIh → Prop} {I : HIh} {h c : Nat} {x1 : Int32} (a_h : h < NL) (b_h : Zk h = 3) (p_h : Zp h 0 = c) (a_c : c < NL) (b_c : Zk c = 11) (n_c : Zn c = 30)
    (k1 : 30 ≤ x1 → Q none I)
    (k2 : ¬ 30 ≤ x1 → vp_in x1 30)
    (k3 : ¬ 30 ≤ x1 → HGo E (mF E (d + 1) Q) me_X4_empty 2 [(0, .ref h), (1, .int (x1 + 1))] [] (setI I c (upd (I c) x1.toNatClampNeg 0)))
    : HGo E (mF E (d + 1) Q) me_X4_empty 2 [(0, .ref h), (1, .int x1)] [] I := by
  refine h_iload_n dX4_empty_2 rfl 1 rfl ?_
  refine h_aload_n dX4_empty_3 rfl 0 rfl ?_
  refine gf_3_0 dX4_empty_4 hl_X4_9 a_h b_h p_h ?_
  refine h_alen (v := 30) dX4_empty_7 a_c b_c (by rw [n_c]; rfl) ?_
  refine h_icmp_ge (tgt := 24) dX4_empty_8 (by decide) (fun c1 => ?_) (fun c1 => ?_)
  ·
    exact h_vret dX4_empty_24 rfl (k1 c1)
  ·
    refine h_aload_n dX4_empty_11 rfl 0 rfl ?_
    refine gf_3_0 dX4_empty_12 hl_X4_9 a_h b_h p_h ?_
    refine h_iload_n dX4_empty_15 rfl 1 rfl ?_
    refine h_iconst (v := 0) dX4_empty_16 (by decide) ?_
    refine h_iast dX4_empty_17 a_c b_c (by rw [n_c]; exact k2 c1) ?_
    refine h_iinc (v := (x1 + 1)) (L' := [(1, .int (x1 + 1)), (0, .ref h)]) dX4_empty_18 1 rfl rfl (by decide) rfl ?_
    refine h_goto (tgt := 2) dX4_empty_21 (by decide) ?_
    refine h_pick [1, 0] [(0, .ref h), (1, .int (x1 + 1))] rfl ?_
    exact k3 c1
set_option maxHeartbeats 1000000 in
set_option maxRecDepth 20000 in
theorem sg_X4_copyFrom_0 {E : HEn} {d : Nat} {Q : Option Value → HIh → Prop} {I : HIh} {h c g e : Nat} (a_h : h < NL) (b_h : Zk h = 3) (p_h : Zp h 0 = c) (a_c : c < NL) (b_c : Zk c = 11) (n_c : Zn c = 30) (a_g : g < NL) (b_g : Zk g = 3) (p_g : Zp g 0 = e) (a_e : e < NL) (b_e : Zk e = 11) (n_e : Zn e = 30)
    (k1 : Q none (setI (setI I c (va_cpy (I e) (I c) 0 0 30)) h (upd ((setI I c (va_cpy (I e) (I c) 0 0 30)) h) 1 ((setI I c (va_cpy (I e) (I c) 0 0 30)) g 1))))
    : HGo E (mF E (d + 1) Q) me_X4_copyFrom 0 [(0, .ref h), (1, .ref g)] [] I := by
  refine h_aload_n dX4_copyFrom_0 rfl 1 rfl ?_
  refine gf_3_0 dX4_copyFrom_1 hl_X4_9 a_g b_g p_g ?_
  refine h_iconst (v := 0) dX4_copyFrom_4 (by decide) ?_
  refine h_aload_n dX4_copyFrom_5 rfl 0 rfl ?_
  refine gf_3_0 dX4_copyFrom_6 hl_X4_9 a_h b_h p_h ?_
  refine h_iconst (v := 0) dX4_copyFrom_9 (by decide) ?_
  refine h_aload_n dX4_copyFrom_10 rfl 0 rfl ?_
  refine gf_3_0 dX4_copyFrom_11 hl_X4_9 a_h b_h p_h ?_
  refine h_alen (v := 30) dX4_copyFrom_14 a_c b_c (by rw [n_c]; rfl) ?_
  refine h_copy dX4_copyFrom_15 wt_302 wt_297 wt_296 wt_14 a_e b_e a_c b_c (by decide) (by decide) (by decide) (by rw [n_e]; decide) (by rw [n_c]; decide) (h_frm (Nat.le_of_ble_eq_true rfl)).1 ?_
  refine h_aload_n dX4_copyFrom_18 rfl 0 rfl ?_
  refine h_aload_n dX4_copyFrom_19 rfl 1 rfl ?_
  refine gf_3_1 dX4_copyFrom_20 hl_X4_21 a_g b_g ?_
  refine pf_3_1 dX4_copyFrom_23 hl_X4_21 a_h b_h ?_
  exact h_vret dX4_copyFrom_26 rfl (k1)
set_option maxHeartbeats 1000000 in
set_option maxRecDepth 20000 in
theorem sg_X9_worthOf_0 {E : HEn} {d : Nat} {Q : Option Value → HIh → Prop} {I : HIh} {k : Int32}
    (k1 : k < 0 → Q (some (.int 0)) I)
    (k2 : ¬ k < 0 → 6 ≤ k → Q (some (.int 0)) I)
    (k3 : ¬ k < 0 → ¬ 6 ≤ k → vp_in k 6)
    (k4 : ¬ k < 0 → ¬ 6 ≤ k → Q (some (.int (I 6 k.toNatClampNeg))) I)
    : HGo E (mF E (d + 1) Q) me_X9_worthOf 0 [(0, .ref 1), (1, .int k)] [] I := by
  refine h_iload_n dX9_worthOf_0 rfl 1 rfl ?_
  refine h_if_lt (tgt := 19) dX9_worthOf_1 (by decide) (fun c1 => ?_) (fun c1 => ?_)
  ·
    refine h_iconst (v := 0) dX9_worthOf_19 (by decide) ?_
    exact h_iret dX9_worthOf_20 rfl (k1 c1)
  ·
    refine h_iload_n dX9_worthOf_4 rfl 1 rfl ?_
    refine h_bipush (v := 6) dX9_worthOf_5 (by decide) ?_
    refine h_icmp_ge (tgt := 19) dX9_worthOf_7 (by decide) (fun c2 => ?_) (fun c2 => ?_)
    ·
      refine h_iconst (v := 0) dX9_worthOf_19 (by decide) ?_
      exact h_iret dX9_worthOf_20 rfl (k2 c1 c2)
    ·
      refine h_aload_n dX9_worthOf_10 rfl 0 rfl ?_
      refine gf_7_4 dX9_worthOf_11 hl_X9_36 nl_1 zk_1 zp_1_4 ?_
      refine h_iload_n dX9_worthOf_14 rfl 1 rfl ?_
      refine h_iald dX9_worthOf_15 nl_6 zk_6 (by rw [zn_6]; exact k3 c1 c2) ?_
      refine h_goto (tgt := 20) dX9_worthOf_16 (by decide) ?_
      exact h_iret dX9_worthOf_20 rfl (k4 c1 c2)
set_option maxHeartbeats 1000000 in
set_option maxRecDepth 20000 in
theorem sg_X9_boundOf_0 {E : HEn} {d : Nat} {Q : Option Value → HIh → Prop} {I : HIh} {p : Int32}
    (k1 : p < 0 → Q (some (.int 0)) I)
    (k2 : ¬ p < 0 → 4 ≤ p → Q (some (.int 0)) I)
    (k3 : ¬ p < 0 → ¬ 4 ≤ p → vp_in p 4)
    (k4 : ¬ p < 0 → ¬ 4 ≤ p → Q (some (.int (I 8 p.toNatClampNeg))) I)
    : HGo E (mF E (d + 1) Q) me_X9_boundOf 0 [(0, .ref 1), (1, .int p)] [] I := by
  refine h_iload_n dX9_boundOf_0 rfl 1 rfl ?_
  refine h_if_lt (tgt := 18) dX9_boundOf_1 (by decide) (fun c1 => ?_) (fun c1 => ?_)
  ·
    refine h_iconst (v := 0) dX9_boundOf_18 (by decide) ?_
    exact h_iret dX9_boundOf_19 rfl (k1 c1)
  ·
    refine h_iload_n dX9_boundOf_4 rfl 1 rfl ?_
    refine h_iconst (v := 4) dX9_boundOf_5 (by decide) ?_
    refine h_icmp_ge (tgt := 18) dX9_boundOf_6 (by decide) (fun c2 => ?_) (fun c2 => ?_)
    ·
      refine h_iconst (v := 0) dX9_boundOf_18 (by decide) ?_
      exact h_iret dX9_boundOf_19 rfl (k2 c1 c2)
    ·
      refine h_aload_n dX9_boundOf_9 rfl 0 rfl ?_
      refine gf_7_6 dX9_boundOf_10 hl_X9_43 nl_1 zk_1 zp_1_6 ?_
      refine h_iload_n dX9_boundOf_13 rfl 1 rfl ?_
      refine h_iald dX9_boundOf_14 nl_8 zk_8 (by rw [zn_8]; exact k3 c1 c2) ?_
      refine h_goto (tgt := 19) dX9_boundOf_15 (by decide) ?_
      exact h_iret dX9_boundOf_19 rfl (k4 c1 c2)
set_option maxHeartbeats 1000000 in
set_option maxRecDepth 20000 in
theorem sg_X9_folkOf_0 {E : HEn} {d : Nat} {Q : Option Value → HIh → Prop} {I : HIh} {p : Int32}
    (k1 : (0 : Int32) ≤ p → p < 4 → vp_in p 4)
    (k2 : (0 : Int32) ≤ p → p < 4 → (I 7 p.toNatClampNeg) = 1 → Q (some (.ref 3)) I)
    (k3 : (0 : Int32) ≤ p → p < 4 → ¬ (I 7 p.toNatClampNeg) = 1 → (I 7 p.toNatClampNeg) = 2 → Q (some (.ref 4)) I)
    (k4 : (0 : Int32) ≤ p → p < 4 → ¬ (I 7 p.toNatClampNeg) = 1 → ¬ (I 7 p.toNatClampNeg) = 2 → (I 7 p.toNatClampNeg) = 3 → Q (some (.ref 5)) I)
    (k5 : (0 : Int32) ≤ p → p < 4 → ¬ (I 7 p.toNatClampNeg) = 1 → ¬ (I 7 p.toNatClampNeg) = 2 → ¬ (I 7 p.toNatClampNeg) = 3 → Q (some (.ref 2)) I)
    (k6 : ¬ ((0 : Int32) ≤ p ∧ p < 4) → Q (some (.ref 2)) I)
    : HGo E (mF E (d + 2) Q) me_X9_folkOf 0 [(0, .ref 1), (1, .int p)] [] I := by
  refine h_iload_n dX9_folkOf_0 rfl 1 rfl ?_
  refine h_invN (As := [.int p]) (st := []) dX9_folkOf_1 lk_X9_76 (h_room (by decide)) rfl rfl (Nat.le_of_ble_eq_true rfl) ?_
  refine c_X11_isPerson (fun c1 c2 => ?_) (fun c3 => ?_)
  ·
    refine h_if_eq (tgt := 16) dX9_folkOf_4 (by decide) (fun c => absurd c (by decide)) (fun _ => ?_)
    refine h_aload_n dX9_folkOf_7 rfl 0 rfl ?_
    refine gf_7_5 dX9_folkOf_8 hl_X9_40 nl_1 zk_1 zp_1_5 ?_
    refine h_iload_n dX9_folkOf_11 rfl 1 rfl ?_
    refine h_iald dX9_folkOf_12 nl_7 zk_7 (by rw [zn_7]; exact k1 c1 c2) ?_
    refine h_goto (tgt := 17) dX9_folkOf_13 (by decide) ?_
    by_cases c4 : (I 7 p.toNatClampNeg) = 1
    · refine h_tswIn (off := 27) (tgt := 44) 1 dX9_folkOf_17 (by rw [c4]; rfl) (by decide) (by decide) (by decide) (by decide) ?_
      refine h_aload_n dX9_folkOf_44 rfl 0 rfl ?_
      refine gf_7_1 dX9_folkOf_45 hl_X9_21 nl_1 zk_1 zp_1_1 ?_
      exact h_aret dX9_folkOf_48 rfl (k2 c1 c2 c4)
    by_cases c5 : (I 7 p.toNatClampNeg) = 2
    · refine h_tswIn (off := 32) (tgt := 49) 2 dX9_folkOf_17 (by rw [c5]; rfl) (by decide) (by decide) (by decide) (by decide) ?_
      refine h_aload_n dX9_folkOf_49 rfl 0 rfl ?_
      refine gf_7_2 dX9_folkOf_50 hl_X9_27 nl_1 zk_1 zp_1_2 ?_
      exact h_aret dX9_folkOf_53 rfl (k3 c1 c2 c4 c5)
    by_cases c6 : (I 7 p.toNatClampNeg) = 3
    · refine h_tswIn (off := 37) (tgt := 54) 3 dX9_folkOf_17 (by rw [c6]; rfl) (by decide) (by decide) (by decide) (by decide) ?_
      refine h_aload_n dX9_folkOf_54 rfl 0 rfl ?_
      refine gf_7_3 dX9_folkOf_55 hl_X9_33 nl_1 zk_1 zp_1_3 ?_
      exact h_aret dX9_folkOf_58 rfl (k4 c1 c2 c4 c5 c6)
    refine h_tswOut (tgt := 59) dX9_folkOf_17 (tsw_out103 c4 c5 c6) (by decide) ?_
    refine h_aload_n dX9_folkOf_59 rfl 0 rfl ?_
    refine gf_7_0 dX9_folkOf_60 hl_X9_12 nl_1 zk_1 zp_1_0 ?_
    exact h_aret dX9_folkOf_63 rfl (k5 c1 c2 c4 c5 c6)
  ·
    refine h_if_eq (tgt := 16) dX9_folkOf_4 (by decide) (fun _ => ?_) (fun c => absurd c (by decide))
    refine h_iconst (v := 0) dX9_folkOf_16 (by decide) ?_
    refine h_tswOut (tgt := 59) dX9_folkOf_17 (by decide) (by decide) ?_
    refine h_aload_n dX9_folkOf_59 rfl 0 rfl ?_
    refine gf_7_0 dX9_folkOf_60 hl_X9_12 nl_1 zk_1 zp_1_0 ?_
    exact h_aret dX9_folkOf_63 rfl (k6 c3)
set_option maxHeartbeats 1000000 in
set_option maxRecDepth 20000 in
theorem sg_X9_visitor_0 {E : HEn} {d : Nat} {Q : Option Value → HIh → Prop} {I : HIh} {t : Int32}
    (k1 : t < 0 → Q (some (.int (-1))) I)
    (k2 : ¬ t < 0 → (I 1 10) ≤ t → Q (some (.int (-1))) I)
    (k3 : ¬ t < 0 → ¬ (I 1 10) ≤ t → 24 ≤ t → Q (some (.int (-1))) I)
    (k4 : ¬ t < 0 → ¬ (I 1 10) ≤ t → ¬ 24 ≤ t → vp_in t 24)
    (k5 : ¬ t < 0 → ¬ (I 1 10) ≤ t → ¬ 24 ≤ t → Q (some (.int (I 9 t.toNatClampNeg))) I)
    : HGo E (mF E (d + 1) Q) me_X9_visitor 0 [(0, .ref 1), (1, .int t)] [] I := by
  refine h_iload_n dX9_visitor_0 rfl 1 rfl ?_
  refine h_if_lt (tgt := 27) dX9_visitor_1 (by decide) (fun c1 => ?_) (fun c1 => ?_)
  ·
    refine h_iconst (v := (-1)) dX9_visitor_27 (by decide) ?_
    exact h_iret dX9_visitor_28 rfl (k1 c1)
  ·
    refine h_iload_n dX9_visitor_4 rfl 1 rfl ?_
    refine h_aload_n dX9_visitor_5 rfl 0 rfl ?_
    refine gf_7_10 dX9_visitor_6 hl_X9_73 nl_1 zk_1 ?_
    refine h_icmp_ge (tgt := 27) dX9_visitor_9 (by decide) (fun c2 => ?_) (fun c2 => ?_)
    ·
      refine h_iconst (v := (-1)) dX9_visitor_27 (by decide) ?_
      exact h_iret dX9_visitor_28 rfl (k2 c1 c2)
    ·
      refine h_iload_n dX9_visitor_12 rfl 1 rfl ?_
      refine h_bipush (v := 24) dX9_visitor_13 (by decide) ?_
      refine h_icmp_ge (tgt := 27) dX9_visitor_15 (by decide) (fun c3 => ?_) (fun c3 => ?_)
      ·
        refine h_iconst (v := (-1)) dX9_visitor_27 (by decide) ?_
        exact h_iret dX9_visitor_28 rfl (k3 c1 c2 c3)
      ·
        refine h_aload_n dX9_visitor_18 rfl 0 rfl ?_
        refine gf_7_7 dX9_visitor_19 hl_X9_46 nl_1 zk_1 zp_1_7 ?_
        refine h_iload_n dX9_visitor_22 rfl 1 rfl ?_
        refine h_iald dX9_visitor_23 nl_9 zk_9 (by rw [zn_9]; exact k4 c1 c2 c3) ?_
        refine h_goto (tgt := 28) dX9_visitor_24 (by decide) ?_
        exact h_iret dX9_visitor_28 rfl (k5 c1 c2 c3)
set_option maxHeartbeats 1000000 in
set_option maxRecDepth 20000 in
theorem sg_X9_addKind_0 {E : HEn} {d : Nat} {Q : Option Value → HIh → Prop} {I : HIh} {w : Int32}
    (k1 : (I 21 9) < 0 → Q none I)
    (k2 : ¬ (I 21 9) < 0 → 6 ≤ (I 21 9) → Q none I)
    (k3 : ¬ (I 21 9) < 0 → ¬ 6 ≤ (I 21 9) → vp_in (I 21 9) 6)
    (k4 : ¬ (I 21 9) < 0 → ¬ 6 ≤ (I 21 9) → Q none (setI (setI I 26 (upd (I 26) (I 21 9).toNatClampNeg w)) 21 (upd (I 21) 9 ((I 21 9) + 1))))
    : HGo E (mF E (d + 1) Q) me_X9_addKind 0 [(0, .ref 21), (1, .int w)] [] I := by
  refine h_aload_n dX9_addKind_0 rfl 0 rfl ?_
  refine gf_7_9 dX9_addKind_1 hl_X9_56 nl_21 zk_21 ?_
  refine h_if_lt (tgt := 36) dX9_addKind_4 (by decide) (fun c1 => ?_) (fun c1 => ?_)
  ·
    exact h_vret dX9_addKind_36 rfl (k1 c1)
  ·
    refine h_aload_n dX9_addKind_7 rfl 0 rfl ?_
    refine gf_7_9 dX9_addKind_8 hl_X9_56 nl_21 zk_21 ?_
    refine h_bipush (v := 6) dX9_addKind_11 (by decide) ?_
    refine h_icmp_ge (tgt := 36) dX9_addKind_13 (by decide) (fun c2 => ?_) (fun c2 => ?_)
    ·
      exact h_vret dX9_addKind_36 rfl (k2 c1 c2)
    ·
      refine h_aload_n dX9_addKind_16 rfl 0 rfl ?_
      refine gf_7_4 dX9_addKind_17 hl_X9_36 nl_21 zk_21 zp_21_4 ?_
      refine h_aload_n dX9_addKind_20 rfl 0 rfl ?_
      refine gf_7_9 dX9_addKind_21 hl_X9_56 nl_21 zk_21 ?_
      refine h_iload_n dX9_addKind_24 rfl 1 rfl ?_
      refine h_iast dX9_addKind_25 nl_26 zk_26 (by rw [zn_26]; exact k3 c1 c2) ?_
      refine h_aload_n dX9_addKind_26 rfl 0 rfl ?_
      refine h_dup dX9_addKind_27 rfl ?_
      refine gf_7_9 dX9_addKind_28 hl_X9_56 nl_21 zk_21 ?_
      refine h_iconst (v := 1) dX9_addKind_31 (by decide) ?_
      refine h_iadd dX9_addKind_32 ?_
      refine pf_7_9 dX9_addKind_33 hl_X9_56 nl_21 zk_21 ?_
      exact h_vret dX9_addKind_36 rfl (k4 c1 c2)
set_option maxHeartbeats 1000000 in
set_option maxRecDepth 20000 in
theorem sg_X9_setHabit_0 {E : HEn} {d : Nat} {Q : Option Value → HIh → Prop} {I : HIh} {p : Int32} {b : Int32} {g : Int32}
    (k1 : (0 : Int32) ≤ p → p < 4 → vp_in p 4)
    (k2 : (0 : Int32) ≤ p → p < 4 → Q none (setI (setI I 27 (upd (I 27) p.toNatClampNeg b)) 28 (upd (I 28) p.toNatClampNeg g)))
    (k3 : ¬ ((0 : Int32) ≤ p ∧ p < 4) → Q none I)
    : HGo E (mF E (d + 2) Q) me_X9_setHabit 0 [(0, .ref 21), (1, .int p), (2, .int b), (3, .int g)] [] I := by
  refine h_iload_n dX9_setHabit_0 rfl 1 rfl ?_
  refine h_invN (As := [.int p]) (st := []) dX9_setHabit_1 lk_X9_76 (h_room (by decide)) rfl rfl (Nat.le_of_ble_eq_true rfl) ?_
  refine c_X11_isPerson (fun c1 c2 => ?_) (fun c3 => ?_)
  ·
    refine h_if_eq (tgt := 21) dX9_setHabit_4 (by decide) (fun c => absurd c (by decide)) (fun _ => ?_)
    refine h_aload_n dX9_setHabit_7 rfl 0 rfl ?_
    refine gf_7_5 dX9_setHabit_8 hl_X9_40 nl_21 zk_21 zp_21_5 ?_
    refine h_iload_n dX9_setHabit_11 rfl 1 rfl ?_
    refine h_iload_n dX9_setHabit_12 rfl 2 rfl ?_
    refine h_iast dX9_setHabit_13 nl_27 zk_27 (by rw [zn_27]; exact k1 c1 c2) ?_
    refine h_aload_n dX9_setHabit_14 rfl 0 rfl ?_
    refine gf_7_6 dX9_setHabit_15 hl_X9_43 nl_21 zk_21 zp_21_6 ?_
    refine h_iload_n dX9_setHabit_18 rfl 1 rfl ?_
    refine h_iload_n dX9_setHabit_19 rfl 3 rfl ?_
    refine h_iast dX9_setHabit_20 nl_28 zk_28 (by rw [zn_28]; exact k1 c1 c2) ?_
    exact h_vret dX9_setHabit_21 rfl (k2 c1 c2)
  ·
    refine h_if_eq (tgt := 21) dX9_setHabit_4 (by decide) (fun _ => ?_) (fun c => absurd c (by decide))
    exact h_vret dX9_setHabit_21 rfl (k3 c3)
set_option maxHeartbeats 1000000 in
set_option maxRecDepth 20000 in
theorem sg_X9_addVisit_0 {E : HEn} {d : Nat} {Q : Option Value → HIh → Prop} {I : HIh} {p : Int32}
    (k1 : (I 21 10) < 0 → Q none I)
    (k2 : ¬ (I 21 10) < 0 → 24 ≤ (I 21 10) → Q none I)
    (k3 : ¬ (I 21 10) < 0 → ¬ 24 ≤ (I 21 10) → vp_in (I 21 10) 24)
    (k4 : ¬ (I 21 10) < 0 → ¬ 24 ≤ (I 21 10) → Q none (setI (setI I 29 (upd (I 29) (I 21 10).toNatClampNeg p)) 21 (upd (I 21) 10 ((I 21 10) + 1))))
    : HGo E (mF E (d + 1) Q) me_X9_addVisit 0 [(0, .ref 21), (1, .int p)] [] I := by
  refine h_aload_n dX9_addVisit_0 rfl 0 rfl ?_
  refine gf_7_10 dX9_addVisit_1 hl_X9_73 nl_21 zk_21 ?_
  refine h_if_lt (tgt := 36) dX9_addVisit_4 (by decide) (fun c1 => ?_) (fun c1 => ?_)
  ·
    exact h_vret dX9_addVisit_36 rfl (k1 c1)
  ·
    refine h_aload_n dX9_addVisit_7 rfl 0 rfl ?_
    refine gf_7_10 dX9_addVisit_8 hl_X9_73 nl_21 zk_21 ?_
    refine h_bipush (v := 24) dX9_addVisit_11 (by decide) ?_
    refine h_icmp_ge (tgt := 36) dX9_addVisit_13 (by decide) (fun c2 => ?_) (fun c2 => ?_)
    ·
      exact h_vret dX9_addVisit_36 rfl (k2 c1 c2)
    ·
      refine h_aload_n dX9_addVisit_16 rfl 0 rfl ?_
      refine gf_7_7 dX9_addVisit_17 hl_X9_46 nl_21 zk_21 zp_21_7 ?_
      refine h_aload_n dX9_addVisit_20 rfl 0 rfl ?_
      refine gf_7_10 dX9_addVisit_21 hl_X9_73 nl_21 zk_21 ?_
      refine h_iload_n dX9_addVisit_24 rfl 1 rfl ?_
      refine h_iast dX9_addVisit_25 nl_29 zk_29 (by rw [zn_29]; exact k3 c1 c2) ?_
      refine h_aload_n dX9_addVisit_26 rfl 0 rfl ?_
      refine h_dup dX9_addVisit_27 rfl ?_
      refine gf_7_10 dX9_addVisit_28 hl_X9_73 nl_21 zk_21 ?_
      refine h_iconst (v := 1) dX9_addVisit_31 (by decide) ?_
      refine h_iadd dX9_addVisit_32 ?_
      refine pf_7_10 dX9_addVisit_33 hl_X9_73 nl_21 zk_21 ?_
      exact h_vret dX9_addVisit_36 rfl (k4 c1 c2)
set_option maxHeartbeats 1000000 in
set_option maxRecDepth 20000 in
theorem sg_X0_habit_0 {E : HEn} {d : Nat} {Q : Option Value → HIh → Prop} {I : HIh} 
    (k1 : Q (some (.int 3)) I)
    : HGo E (mF E (d + 1) Q) me_X0_habit 0 [(0, .ref 5)] [] I := by
  refine h_iconst (v := 3) dX0_habit_0 (by decide) ?_
  exact h_iret dX0_habit_1 rfl (k1)
set_option maxHeartbeats 1000000 in
set_option maxRecDepth 20000 in
theorem sg_X0_comparesAll_0 {E : HEn} {d : Nat} {Q : Option Value → HIh → Prop} {I : HIh} 
    (k1 : Q (some (.int 0)) I)
    : HGo E (mF E (d + 1) Q) me_X0_comparesAll 0 [(0, .ref 5)] [] I := by
  refine h_iconst (v := 0) dX0_comparesAll_0 (by decide) ?_
  exact h_zret dX0_comparesAll_1 rfl rfl (k1)
set_option maxHeartbeats 1000000 in
set_option maxRecDepth 20000 in
theorem sg_X3_habit_0 {E : HEn} {d : Nat} {Q : Option Value → HIh → Prop} {I : HIh} 
    (k1 : Q (some (.int 1)) I)
    : HGo E (mF E (d + 1) Q) me_X3_habit 0 [(0, .ref 3)] [] I := by
  refine h_iconst (v := 1) dX3_habit_0 (by decide) ?_
  exact h_iret dX3_habit_1 rfl (k1)
set_option maxHeartbeats 1000000 in
set_option maxRecDepth 20000 in
theorem sg_X3_comparesAll_0 {E : HEn} {d : Nat} {Q : Option Value → HIh → Prop} {I : HIh} 
    (k1 : Q (some (.int 1)) I)
    : HGo E (mF E (d + 1) Q) me_X3_comparesAll 0 [(0, .ref 3)] [] I := by
  refine h_iconst (v := 1) dX3_comparesAll_0 (by decide) ?_
  exact h_zret dX3_comparesAll_1 rfl rfl (k1)
set_option maxHeartbeats 1000000 in
set_option maxRecDepth 20000 in
theorem sg_X5_habit_0 {E : HEn} {d : Nat} {Q : Option Value → HIh → Prop} {I : HIh} 
    (k1 : Q (some (.int 0)) I)
    : HGo E (mF E (d + 1) Q) me_X5_habit 0 [(0, .ref 2)] [] I := by
  refine h_iconst (v := 0) dX5_habit_0 (by decide) ?_
  exact h_iret dX5_habit_1 rfl (k1)
set_option maxHeartbeats 1000000 in
set_option maxRecDepth 20000 in
theorem sg_X10_habit_0 {E : HEn} {d : Nat} {Q : Option Value → HIh → Prop} {I : HIh} 
    (k1 : Q (some (.int 2)) I)
    : HGo E (mF E (d + 1) Q) me_X10_habit 0 [(0, .ref 4)] [] I := by
  refine h_iconst (v := 2) dX10_habit_0 (by decide) ?_
  exact h_iret dX10_habit_1 rfl (k1)
set_option maxHeartbeats 1000000 in
set_option maxRecDepth 20000 in
theorem sg_X1_waitsFor_N_0 {E : HEn} {d : Nat} {Q : Option Value → HIh → Prop} {I : HIh} {p : Int32}
    (k1 : Q (some (.int (-1))) I)
    : HGo E (mF E (d + 1) Q) me_X1_waitsFor 0 [(0, .ref 2), (1, .ref 1), (2, .int p)] [] I := by
  refine h_iconst (v := (-1)) dX1_waitsFor_0 (by decide) ?_
  exact h_iret dX1_waitsFor_1 rfl (k1)
set_option maxHeartbeats 1000000 in
set_option maxRecDepth 20000 in
theorem sg_X1_waitsFor_G_0 {E : HEn} {d : Nat} {Q : Option Value → HIh → Prop} {I : HIh} {p : Int32}
    (k1 : Q (some (.int (-1))) I)
    : HGo E (mF E (d + 1) Q) me_X1_waitsFor 0 [(0, .ref 3), (1, .ref 1), (2, .int p)] [] I := by
  refine h_iconst (v := (-1)) dX1_waitsFor_0 (by decide) ?_
  exact h_iret dX1_waitsFor_1 rfl (k1)
set_option maxHeartbeats 1000000 in
set_option maxRecDepth 20000 in
theorem sg_X1_waitsFor_C_0 {E : HEn} {d : Nat} {Q : Option Value → HIh → Prop} {I : HIh} {p : Int32}
    (k1 : Q (some (.int (-1))) I)
    : HGo E (mF E (d + 1) Q) me_X1_waitsFor 0 [(0, .ref 5), (1, .ref 1), (2, .int p)] [] I := by
  refine h_iconst (v := (-1)) dX1_waitsFor_0 (by decide) ?_
  exact h_iret dX1_waitsFor_1 rfl (k1)
set_option maxHeartbeats 1000000 in
set_option maxRecDepth 20000 in
theorem sg_X3_comparesAll_W_0 {E : HEn} {d : Nat} {Q : Option Value → HIh → Prop} {I : HIh} 
    (k1 : Q (some (.int 1)) I)
    : HGo E (mF E (d + 1) Q) me_X3_comparesAll 0 [(0, .ref 4)] [] I := by
  refine h_iconst (v := 1) dX3_comparesAll_0 (by decide) ?_
  exact h_zret dX3_comparesAll_1 rfl rfl (k1)
set_option maxHeartbeats 1000000 in
set_option maxRecDepth 20000 in
theorem sg_X8_leastGain_G_0 {E : HEn} {d : Nat} {Q : Option Value → HIh → Prop} {I : HIh} {p : Int32}
    (k1 : Q (some (.int 1)) I)
    : HGo E (mF E (d + 1) Q) me_X8_leastGain 0 [(0, .ref 3), (1, .ref 1), (2, .int p)] [] I := by
  refine h_iconst (v := 1) dX8_leastGain_0 (by decide) ?_
  exact h_iret dX8_leastGain_1 rfl (k1)
set_option maxHeartbeats 1000000 in
set_option maxRecDepth 20000 in
theorem sg_X8_leastGain_C_0 {E : HEn} {d : Nat} {Q : Option Value → HIh → Prop} {I : HIh} {p : Int32}
    (k1 : Q (some (.int 1)) I)
    : HGo E (mF E (d + 1) Q) me_X8_leastGain 0 [(0, .ref 5), (1, .ref 1), (2, .int p)] [] I := by
  refine h_iconst (v := 1) dX8_leastGain_0 (by decide) ?_
  exact h_iret dX8_leastGain_1 rfl (k1)
set_option maxHeartbeats 1000000 in
set_option maxRecDepth 20000 in
theorem sg_X5_wouldThrow_0 {E : HEn} {d : Nat} {Q : Option Value → HIh → Prop} {I : HIh} {h : Nat} {p : Int32} (a_h : h < NL) (b_h : Zk h = 3)
    (k1 : Q (some (.int (-1))) I)
    : HGo E (mF E (d + 1) Q) me_X5_wouldThrow 0 [(0, .ref 2), (1, .ref 1), (2, .ref h), (3, .int p)] [] I := by
  refine h_iconst (v := (-1)) dX5_wouldThrow_0 (by decide) ?_
  exact h_iret dX5_wouldThrow_1 rfl (k1)
set_option maxHeartbeats 1000000 in
set_option maxRecDepth 20000 in
theorem sg_X6_add_0 {E : HEn} {d : Nat} {Q : Option Value → HIh → Prop} {I : HIh} {k : Int32} {w : Int32}
    (k1 : (I 80 6) < 0 → Q (some (.int 0)) I)
    (k2 : ¬ (I 80 6) < 0 → (I 80 6) < 6 → vp_in (I 80 6) 6)
    (k3 : ¬ (I 80 6) < 0 → (I 80 6) < 6 → Q (some (.int 1)) (setI (setI (setI I 83 (upd (I 83) (I 80 6).toNatClampNeg k)) 84 (upd (I 84) (I 80 6).toNatClampNeg w)) 80 (upd (I 80) 6 ((I 80 6) + 1))))
    (k4 : ¬ (I 80 6) < 0 → ¬ (I 80 6) < 6 → Q (some (.int 0)) I)
    : HGo E (mF E (d + 1) Q) me_X6_add 0 [(0, .ref 80), (1, .int k), (2, .int w)] [] I := by
  refine h_aload_n dX6_add_0 rfl 0 rfl ?_
  refine gf_5_6 dX6_add_1 hl_X6_35 nl_80 zk_80 ?_
  refine h_if_lt (tgt := 16) dX6_add_4 (by decide) (fun c1 => ?_) (fun c1 => ?_)
  ·
    refine h_iconst (v := 0) dX6_add_16 (by decide) ?_
    exact h_zret dX6_add_17 rfl rfl (k1 c1)
  ·
    refine h_aload_n dX6_add_7 rfl 0 rfl ?_
    refine gf_5_6 dX6_add_8 hl_X6_35 nl_80 zk_80 ?_
    refine h_bipush (v := 6) dX6_add_11 (by decide) ?_
    refine h_icmp_lt (tgt := 18) dX6_add_13 (by decide) (fun c2 => ?_) (fun c2 => ?_)
    ·
      refine h_aload_n dX6_add_18 rfl 0 rfl ?_
      refine gf_5_2 dX6_add_19 hl_X6_18 nl_80 zk_80 zp_80_2 ?_
      refine h_aload_n dX6_add_22 rfl 0 rfl ?_
      refine gf_5_6 dX6_add_23 hl_X6_35 nl_80 zk_80 ?_
      refine h_iload_n dX6_add_26 rfl 1 rfl ?_
      refine h_iast dX6_add_27 nl_83 zk_83 (by rw [zn_83]; exact k2 c1 c2) ?_
      refine h_aload_n dX6_add_28 rfl 0 rfl ?_
      refine gf_5_3 dX6_add_29 hl_X6_22 nl_80 zk_80 zp_80_3 ?_
      refine h_aload_n dX6_add_32 rfl 0 rfl ?_
      refine gf_5_6 dX6_add_33 hl_X6_35 nl_80 zk_80 ?_
      refine h_iload_n dX6_add_36 rfl 2 rfl ?_
      refine h_iast dX6_add_37 nl_84 zk_84 (by rw [zn_84]; exact k2 c1 c2) ?_
      refine h_aload_n dX6_add_38 rfl 0 rfl ?_
      refine h_dup dX6_add_39 rfl ?_
      refine gf_5_6 dX6_add_40 hl_X6_35 nl_80 zk_80 ?_
      refine h_iconst (v := 1) dX6_add_43 (by decide) ?_
      refine h_iadd dX6_add_44 ?_
      refine pf_5_6 dX6_add_45 hl_X6_35 nl_80 zk_80 ?_
      refine h_iconst (v := 1) dX6_add_48 (by decide) ?_
      exact h_zret dX6_add_49 rfl rfl (k3 c1 c2)
    ·
      refine h_iconst (v := 0) dX6_add_16 (by decide) ?_
      exact h_zret dX6_add_17 rfl rfl (k4 c1 c2)
set_option maxHeartbeats 1000000 in
set_option maxRecDepth 20000 in
theorem sg_X6_leastOf_0 {E : HEn} {d : Nat} {Q : Option Value → HIh → Prop} {I : HIh} {k : Int32}
    (k1 : k < 0 → Q (some (.int (-1))) I)
    (k2 : ¬ k < 0 → 6 ≤ k → Q (some (.int (-1))) I)
    (k3 : ¬ k < 0 → ¬ 6 ≤ k → vp_in k 6)
    (k4 : ¬ k < 0 → ¬ 6 ≤ k → Q (some (.int (I 85 k.toNatClampNeg))) I)
    : HGo E (mF E (d + 1) Q) me_X6_leastOf 0 [(0, .ref 80), (1, .int k)] [] I := by
  refine h_iload_n dX6_leastOf_0 rfl 1 rfl ?_
  refine h_if_lt (tgt := 19) dX6_leastOf_1 (by decide) (fun c1 => ?_) (fun c1 => ?_)
  ·
    refine h_iconst (v := (-1)) dX6_leastOf_19 (by decide) ?_
    exact h_iret dX6_leastOf_20 rfl (k1 c1)
  ·
    refine h_iload_n dX6_leastOf_4 rfl 1 rfl ?_
    refine h_bipush (v := 6) dX6_leastOf_5 (by decide) ?_
    refine h_icmp_ge (tgt := 19) dX6_leastOf_7 (by decide) (fun c2 => ?_) (fun c2 => ?_)
    ·
      refine h_iconst (v := (-1)) dX6_leastOf_19 (by decide) ?_
      exact h_iret dX6_leastOf_20 rfl (k2 c1 c2)
    ·
      refine h_aload_n dX6_leastOf_10 rfl 0 rfl ?_
      refine gf_5_4 dX6_leastOf_11 hl_X6_25 nl_80 zk_80 zp_80_4 ?_
      refine h_iload_n dX6_leastOf_14 rfl 1 rfl ?_
      refine h_iald dX6_leastOf_15 nl_85 zk_85 (by rw [zn_85]; exact k3 c1 c2) ?_
      refine h_goto (tgt := 20) dX6_leastOf_16 (by decide) ?_
      exact h_iret dX6_leastOf_20 rfl (k4 c1 c2)
set_option maxHeartbeats 1000000 in
set_option maxRecDepth 20000 in
theorem sg_X6_mostOf_0 {E : HEn} {d : Nat} {Q : Option Value → HIh → Prop} {I : HIh} {k : Int32}
    (k1 : k < 0 → Q (some (.int (-1))) I)
    (k2 : ¬ k < 0 → 6 ≤ k → Q (some (.int (-1))) I)
    (k3 : ¬ k < 0 → ¬ 6 ≤ k → vp_in k 6)
    (k4 : ¬ k < 0 → ¬ 6 ≤ k → Q (some (.int (I 86 k.toNatClampNeg))) I)
    : HGo E (mF E (d + 1) Q) me_X6_mostOf 0 [(0, .ref 80), (1, .int k)] [] I := by
  refine h_iload_n dX6_mostOf_0 rfl 1 rfl ?_
  refine h_if_lt (tgt := 19) dX6_mostOf_1 (by decide) (fun c1 => ?_) (fun c1 => ?_)
  ·
    refine h_iconst (v := (-1)) dX6_mostOf_19 (by decide) ?_
    exact h_iret dX6_mostOf_20 rfl (k1 c1)
  ·
    refine h_iload_n dX6_mostOf_4 rfl 1 rfl ?_
    refine h_bipush (v := 6) dX6_mostOf_5 (by decide) ?_
    refine h_icmp_ge (tgt := 19) dX6_mostOf_7 (by decide) (fun c2 => ?_) (fun c2 => ?_)
    ·
      refine h_iconst (v := (-1)) dX6_mostOf_19 (by decide) ?_
      exact h_iret dX6_mostOf_20 rfl (k2 c1 c2)
    ·
      refine h_aload_n dX6_mostOf_10 rfl 0 rfl ?_
      refine gf_5_5 dX6_mostOf_11 hl_X6_28 nl_80 zk_80 zp_80_5 ?_
      refine h_iload_n dX6_mostOf_14 rfl 1 rfl ?_
      refine h_iald dX6_mostOf_15 nl_86 zk_86 (by rw [zn_86]; exact k3 c1 c2) ?_
      refine h_goto (tgt := 20) dX6_mostOf_16 (by decide) ?_
      exact h_iret dX6_mostOf_20 rfl (k4 c1 c2)
set_option maxHeartbeats 1000000 in
set_option maxRecDepth 20000 in
theorem sg_X6_figureOf_0 {E : HEn} {d : Nat} {Q : Option Value → HIh → Prop} {I : HIh} {v : Int32} {k : Int32}
    (k1 : Q (some (.int ((v >>> ((2 * (((I 1 9) - 1) - k)) &&& 31)) &&& 3))) I)
    : HGo E (mF E (d + 1) Q) me_X6_figureOf 0 [(0, .ref 80), (1, .int v), (2, .int k)] [] I := by
  refine h_iload_n dX6_figureOf_0 rfl 1 rfl ?_
  refine h_iconst (v := 2) dX6_figureOf_1 (by decide) ?_
  refine h_aload_n dX6_figureOf_2 rfl 0 rfl ?_
  refine gf_5_0 dX6_figureOf_3 hl_X6_31 nl_80 zk_80 zp_80_0 ?_
  refine gf_7_9 dX6_figureOf_6 hl_X6_45 nl_1 zk_1 ?_
  refine h_iconst (v := 1) dX6_figureOf_9 (by decide) ?_
  refine h_isub dX6_figureOf_10 ?_
  refine h_iload_n dX6_figureOf_11 rfl 2 rfl ?_
  refine h_isub dX6_figureOf_12 ?_
  refine h_imul dX6_figureOf_13 ?_
  refine h_ishr dX6_figureOf_14 ?_
  refine h_iconst (v := 3) dX6_figureOf_15 (by decide) ?_
  refine h_iand dX6_figureOf_16 ?_
  exact h_iret dX6_figureOf_17 rfl (k1)
set_option maxHeartbeats 1000000 in
set_option maxRecDepth 20000 in
theorem sg_X7_append_0 {E : HEn} {d : Nat} {Q : Option Value → HIh → Prop} {I : HIh} {b : Int32}
    (k1 : (I 19 2) < 0 → Q none I)
    (k2 : ¬ (I 19 2) < 0 → 200 ≤ (I 19 2) → Q none I)
    (k3 : ¬ (I 19 2) < 0 → ¬ 200 ≤ (I 19 2) → vp_in (I 19 2) 200)
    (k4 : ¬ (I 19 2) < 0 → ¬ 200 ≤ (I 19 2) → Q none (setI (setI I 20 (upd (I 20) (I 19 2).toNatClampNeg b)) 19 (upd (I 19) 2 ((I 19 2) + 1))))
    : HGo E (mF E (d + 1) Q) me_X7_append 0 [(0, .ref 19), (1, .int b)] [] I := by
  refine h_aload_n dX7_append_0 rfl 0 rfl ?_
  refine gf_6_2 dX7_append_1 hl_X7_22 nl_19 zk_19 ?_
  refine h_if_lt (tgt := 37) dX7_append_4 (by decide) (fun c1 => ?_) (fun c1 => ?_)
  ·
    exact h_vret dX7_append_37 rfl (k1 c1)
  ·
    refine h_aload_n dX7_append_7 rfl 0 rfl ?_
    refine gf_6_2 dX7_append_8 hl_X7_22 nl_19 zk_19 ?_
    refine h_sipush (v := 200) dX7_append_11 (by decide) ?_
    refine h_icmp_ge (tgt := 37) dX7_append_14 (by decide) (fun c2 => ?_) (fun c2 => ?_)
    ·
      exact h_vret dX7_append_37 rfl (k2 c1 c2)
    ·
      refine h_aload_n dX7_append_17 rfl 0 rfl ?_
      refine gf_6_0 dX7_append_18 hl_X7_9 nl_19 zk_19 zp_19_0 ?_
      refine h_aload_n dX7_append_21 rfl 0 rfl ?_
      refine gf_6_2 dX7_append_22 hl_X7_22 nl_19 zk_19 ?_
      refine h_iload_n dX7_append_25 rfl 1 rfl ?_
      refine h_iast dX7_append_26 nl_20 zk_20 (by rw [zn_20]; exact k3 c1 c2) ?_
      refine h_aload_n dX7_append_27 rfl 0 rfl ?_
      refine h_dup dX7_append_28 rfl ?_
      refine gf_6_2 dX7_append_29 hl_X7_22 nl_19 zk_19 ?_
      refine h_iconst (v := 1) dX7_append_32 (by decide) ?_
      refine h_iadd dX7_append_33 ?_
      refine pf_6_2 dX7_append_34 hl_X7_22 nl_19 zk_19 ?_
      exact h_vret dX7_append_37 rfl (k4 c1 c2)
set_option maxHeartbeats 1000000 in
set_option maxRecDepth 20000 in
theorem sg_X7_byteAt_0 {E : HEn} {d : Nat} {Q : Option Value → HIh → Prop} {I : HIh} {p : Int32}
    (k1 : p < 0 → Q (some (.int (-1))) I)
    (k2 : ¬ p < 0 → (I 19 2) ≤ p → Q (some (.int (-1))) I)
    (k3 : ¬ p < 0 → ¬ (I 19 2) ≤ p → 200 ≤ p → Q (some (.int (-1))) I)
    (k4 : ¬ p < 0 → ¬ (I 19 2) ≤ p → ¬ 200 ≤ p → vp_in p 200)
    (k5 : ¬ p < 0 → ¬ (I 19 2) ≤ p → ¬ 200 ≤ p → Q (some (.int (I 20 p.toNatClampNeg))) I)
    : HGo E (mF E (d + 1) Q) me_X7_byteAt 0 [(0, .ref 19), (1, .int p)] [] I := by
  refine h_iload_n dX7_byteAt_0 rfl 1 rfl ?_
  refine h_if_lt (tgt := 28) dX7_byteAt_1 (by decide) (fun c1 => ?_) (fun c1 => ?_)
  ·
    refine h_iconst (v := (-1)) dX7_byteAt_28 (by decide) ?_
    exact h_iret dX7_byteAt_29 rfl (k1 c1)
  ·
    refine h_iload_n dX7_byteAt_4 rfl 1 rfl ?_
    refine h_aload_n dX7_byteAt_5 rfl 0 rfl ?_
    refine gf_6_2 dX7_byteAt_6 hl_X7_22 nl_19 zk_19 ?_
    refine h_icmp_ge (tgt := 28) dX7_byteAt_9 (by decide) (fun c2 => ?_) (fun c2 => ?_)
    ·
      refine h_iconst (v := (-1)) dX7_byteAt_28 (by decide) ?_
      exact h_iret dX7_byteAt_29 rfl (k2 c1 c2)
    ·
      refine h_iload_n dX7_byteAt_12 rfl 1 rfl ?_
      refine h_sipush (v := 200) dX7_byteAt_13 (by decide) ?_
      refine h_icmp_ge (tgt := 28) dX7_byteAt_16 (by decide) (fun c3 => ?_) (fun c3 => ?_)
      ·
        refine h_iconst (v := (-1)) dX7_byteAt_28 (by decide) ?_
        exact h_iret dX7_byteAt_29 rfl (k3 c1 c2 c3)
      ·
        refine h_aload_n dX7_byteAt_19 rfl 0 rfl ?_
        refine gf_6_0 dX7_byteAt_20 hl_X7_9 nl_19 zk_19 zp_19_0 ?_
        refine h_iload_n dX7_byteAt_23 rfl 1 rfl ?_
        refine h_iald dX7_byteAt_24 nl_20 zk_20 (by rw [zn_20]; exact k4 c1 c2 c3) ?_
        refine h_goto (tgt := 29) dX7_byteAt_25 (by decide) ?_
        exact h_iret dX7_byteAt_29 rfl (k5 c1 c2 c3)
set_option maxHeartbeats 1000000 in
set_option maxRecDepth 20000 in
theorem sg_X7_tokenOf_0 {E : HEn} {d : Nat} {Q : Option Value → HIh → Prop} {I : HIh} {b : Int32}
    (k1 : ¬ b = (-1) → b < 97 → b < 48 → Q (some (.int 3)) I)
    (k2 : ¬ b = (-1) → b < 97 → ¬ b < 48 → 57 < b → Q (some (.int 3)) I)
    (k3 : ¬ b = (-1) → b < 97 → ¬ b < 48 → ¬ 57 < b → Q (some (.int 2)) I)
    (k4 : ¬ b = (-1) → ¬ b < 97 → 122 < b → b < 48 → Q (some (.int 3)) I)
    (k5 : ¬ b = (-1) → ¬ b < 97 → 122 < b → ¬ b < 48 → 57 < b → Q (some (.int 3)) I)
    (k6 : ¬ b = (-1) → ¬ b < 97 → 122 < b → ¬ b < 48 → ¬ 57 < b → Q (some (.int 2)) I)
    (k7 : ¬ b = (-1) → ¬ b < 97 → ¬ 122 < b → Q (some (.int 1)) I)
    (k8 : b = (-1) → Q (some (.int 0)) I)
    : HGo E (mF E (d + 1) Q) me_X7_tokenOf 0 [(0, .int b)] [] I := by
  refine h_iload_n dX7_tokenOf_0 rfl 0 rfl ?_
  refine h_iconst (v := (-1)) dX7_tokenOf_1 (by decide) ?_
  refine h_icmp_ne (tgt := 7) dX7_tokenOf_2 (by decide) (fun c1 => ?_) (fun c1 => ?_)
  ·
    refine h_iload_n dX7_tokenOf_7 rfl 0 rfl ?_
    refine h_bipush (v := 97) dX7_tokenOf_8 (by decide) ?_
    refine h_icmp_lt (tgt := 21) dX7_tokenOf_10 (by decide) (fun c2 => ?_) (fun c2 => ?_)
    ·
      refine h_iload_n dX7_tokenOf_21 rfl 0 rfl ?_
      refine h_bipush (v := 48) dX7_tokenOf_22 (by decide) ?_
      refine h_icmp_lt (tgt := 37) dX7_tokenOf_24 (by decide) (fun c3 => ?_) (fun c3 => ?_)
      ·
        refine h_iconst (v := 3) dX7_tokenOf_37 (by decide) ?_
        exact h_iret dX7_tokenOf_38 rfl (k1 c1 c2 c3)
      ·
        refine h_iload_n dX7_tokenOf_27 rfl 0 rfl ?_
        refine h_bipush (v := 57) dX7_tokenOf_28 (by decide) ?_
        refine h_icmp_gt (tgt := 37) dX7_tokenOf_30 (by decide) (fun c4 => ?_) (fun c4 => ?_)
        ·
          refine h_iconst (v := 3) dX7_tokenOf_37 (by decide) ?_
          exact h_iret dX7_tokenOf_38 rfl (k2 c1 c2 c3 c4)
        ·
          refine h_iconst (v := 2) dX7_tokenOf_33 (by decide) ?_
          refine h_goto (tgt := 38) dX7_tokenOf_34 (by decide) ?_
          exact h_iret dX7_tokenOf_38 rfl (k3 c1 c2 c3 c4)
    ·
      refine h_iload_n dX7_tokenOf_13 rfl 0 rfl ?_
      refine h_bipush (v := 122) dX7_tokenOf_14 (by decide) ?_
      refine h_icmp_gt (tgt := 21) dX7_tokenOf_16 (by decide) (fun c5 => ?_) (fun c5 => ?_)
      ·
        refine h_iload_n dX7_tokenOf_21 rfl 0 rfl ?_
        refine h_bipush (v := 48) dX7_tokenOf_22 (by decide) ?_
        refine h_icmp_lt (tgt := 37) dX7_tokenOf_24 (by decide) (fun c6 => ?_) (fun c6 => ?_)
        ·
          refine h_iconst (v := 3) dX7_tokenOf_37 (by decide) ?_
          exact h_iret dX7_tokenOf_38 rfl (k4 c1 c2 c5 c6)
        ·
          refine h_iload_n dX7_tokenOf_27 rfl 0 rfl ?_
          refine h_bipush (v := 57) dX7_tokenOf_28 (by decide) ?_
          refine h_icmp_gt (tgt := 37) dX7_tokenOf_30 (by decide) (fun c7 => ?_) (fun c7 => ?_)
          ·
            refine h_iconst (v := 3) dX7_tokenOf_37 (by decide) ?_
            exact h_iret dX7_tokenOf_38 rfl (k5 c1 c2 c5 c6 c7)
          ·
            refine h_iconst (v := 2) dX7_tokenOf_33 (by decide) ?_
            refine h_goto (tgt := 38) dX7_tokenOf_34 (by decide) ?_
            exact h_iret dX7_tokenOf_38 rfl (k6 c1 c2 c5 c6 c7)
      ·
        refine h_iconst (v := 1) dX7_tokenOf_19 (by decide) ?_
        exact h_iret dX7_tokenOf_20 rfl (k7 c1 c2 c5)
  ·
    refine h_iconst (v := 0) dX7_tokenOf_5 (by decide) ?_
    exact h_iret dX7_tokenOf_6 rfl (k8 c1)
set_option maxHeartbeats 1000000 in
set_option maxRecDepth 20000 in
theorem sg_X7_leaveAlone_0 {E : HEn} {d : Nat} {Q : Option Value → HIh → Prop} {I : HIh} 
    (k1 : Q (some (.int 1)) (setI I 21 (upd (I 21) 10 0)))
    : HGo E (mF E (d + 1) Q) me_X7_leaveAlone 0 [(0, .ref 19)] [] I := by
  refine h_aload_n dX7_leaveAlone_0 rfl 0 rfl ?_
  refine gf_6_1 dX7_leaveAlone_1 hl_X7_18 nl_19 zk_19 zp_19_1 ?_
  refine h_iconst (v := 0) dX7_leaveAlone_4 (by decide) ?_
  refine pf_7_10 dX7_leaveAlone_5 hl_X7_153 nl_21 zk_21 ?_
  refine h_iconst (v := 1) dX7_leaveAlone_8 (by decide) ?_
  exact h_zret dX7_leaveAlone_9 rfl rfl (k1)
set_option maxHeartbeats 1000000 in
set_option maxRecDepth 20000 in
theorem sg_X2_becomeStale_0 {E : HEn} {d : Nat} {Q : Option Value → HIh → Prop} {I : HIh} 
    (k1 : Q none (setI I 32 (upd (I 32) 4 (-1))))
    : HGo E (mF E (d + 1) Q) me_X2_becomeStale 0 [(0, .ref 32)] [] I := by
  refine h_aload_n dX2_becomeStale_0 rfl 0 rfl ?_
  refine h_iconst (v := (-1)) dX2_becomeStale_1 (by decide) ?_
  refine pf_1_4 dX2_becomeStale_2 hl_X2_25 nl_32 zk_32 ?_
  exact h_vret dX2_becomeStale_5 rfl (k1)
set_option maxHeartbeats 1000000 in
set_option maxRecDepth 20000 in
theorem sg_X2_endOf_0 {E : HEn} {d : Nat} {Q : Option Value → HIh → Prop} {I : HIh} {p : Int32}
    (k1 : (0 : Int32) ≤ p → p < 4 → vp_in p 4)
    (k2 : (0 : Int32) ≤ p → p < 4 → Q (some (.int (I 57 p.toNatClampNeg))) I)
    (k3 : ¬ ((0 : Int32) ≤ p ∧ p < 4) → Q (some (.int 0)) I)
    : HGo E (mF E (d + 2) Q) me_X2_endOf 0 [(0, .ref 32), (1, .int p)] [] I := by
  refine h_iload_n dX2_endOf_0 rfl 1 rfl ?_
  refine h_invN (As := [.int p]) (st := []) dX2_endOf_1 lk_X2_61 (h_room (by decide)) rfl rfl (Nat.le_of_ble_eq_true rfl) ?_
  refine c_X11_isPerson (fun c1 c2 => ?_) (fun c3 => ?_)
  ·
    refine h_if_eq (tgt := 18) dX2_endOf_4 (by decide) (fun c => absurd c (by decide)) (fun _ => ?_)
    refine h_aload_n dX2_endOf_7 rfl 0 rfl ?_
    refine gf_1_2 dX2_endOf_8 hl_X2_19 nl_32 zk_32 zp_32_2 ?_
    refine h_iconst (v := 0) dX2_endOf_11 (by decide) ?_
    refine h_aald14z dX2_endOf_12 nl_56 zk_56 (vp_lit (by rw [zn_56]; decide)) zp_56_0 ?_
    refine h_iload_n dX2_endOf_13 rfl 1 rfl ?_
    refine h_iald dX2_endOf_14 nl_57 zk_57 (by rw [zn_57]; exact k1 c1 c2) ?_
    refine h_goto (tgt := 19) dX2_endOf_15 (by decide) ?_
    exact h_iret dX2_endOf_19 rfl (k2 c1 c2)
  ·
    refine h_if_eq (tgt := 18) dX2_endOf_4 (by decide) (fun _ => ?_) (fun c => absurd c (by decide))
    refine h_iconst (v := 0) dX2_endOf_18 (by decide) ?_
    exact h_iret dX2_endOf_19 rfl (k3 c3)
set_option maxHeartbeats 1000000 in
set_option maxRecDepth 20000 in
theorem sg_X2_step_0 {E : HEn} {d : Nat} {Q : Option Value → HIh → Prop} {I : HIh} {p : Int32}
    (k1 : p < 0 → Q (some (.int (-1))) I)
    (k2 : ¬ p < 0 → (I 32 5) ≤ p → Q (some (.int (-1))) I)
    (k3 : ¬ p < 0 → ¬ (I 32 5) ≤ p → 11 ≤ p → Q (some (.int (-1))) I)
    (k4 : ¬ p < 0 → ¬ (I 32 5) ≤ p → ¬ 11 ≤ p → vp_in p 11)
    (k5 : ¬ p < 0 → ¬ (I 32 5) ≤ p → ¬ 11 ≤ p → Q (some (.int ((I 69 p.toNatClampNeg) + 1))) I)
    : HGo E (mF E (d + 1) Q) me_X2_step 0 [(0, .ref 32), (1, .int p)] [] I := by
  refine h_iload_n dX2_step_0 rfl 1 rfl ?_
  refine h_if_lt (tgt := 31) dX2_step_1 (by decide) (fun c1 => ?_) (fun c1 => ?_)
  ·
    refine h_iconst (v := (-1)) dX2_step_31 (by decide) ?_
    exact h_iret dX2_step_32 rfl (k1 c1)
  ·
    refine h_iload_n dX2_step_4 rfl 1 rfl ?_
    refine h_aload_n dX2_step_5 rfl 0 rfl ?_
    refine gf_1_5 dX2_step_6 hl_X2_34 nl_32 zk_32 ?_
    refine h_icmp_ge (tgt := 31) dX2_step_9 (by decide) (fun c2 => ?_) (fun c2 => ?_)
    ·
      refine h_iconst (v := (-1)) dX2_step_31 (by decide) ?_
      exact h_iret dX2_step_32 rfl (k2 c1 c2)
    ·
      refine h_iload_n dX2_step_12 rfl 1 rfl ?_
      refine h_bipush (v := 11) dX2_step_13 (by decide) ?_
      refine h_icmp_ge (tgt := 31) dX2_step_15 (by decide) (fun c3 => ?_) (fun c3 => ?_)
      ·
        refine h_iconst (v := (-1)) dX2_step_31 (by decide) ?_
        exact h_iret dX2_step_32 rfl (k3 c1 c2 c3)
      ·
        refine h_aload_n dX2_step_18 rfl 0 rfl ?_
        refine gf_1_3 dX2_step_19 hl_X2_22 nl_32 zk_32 zp_32_3 ?_
        refine h_iconst (v := 0) dX2_step_22 (by decide) ?_
        refine h_aald14z dX2_step_23 nl_68 zk_68 (vp_lit (by rw [zn_68]; decide)) zp_68_0 ?_
        refine h_iload_n dX2_step_24 rfl 1 rfl ?_
        refine h_iald dX2_step_25 nl_69 zk_69 (by rw [zn_69]; exact k4 c1 c2 c3) ?_
        refine h_iconst (v := 1) dX2_step_26 (by decide) ?_
        refine h_iadd dX2_step_27 ?_
        refine h_goto (tgt := 32) dX2_step_28 (by decide) ?_
        exact h_iret dX2_step_32 rfl (k5 c1 c2 c3)
set_option maxHeartbeats 1000000 in
set_option maxRecDepth 20000 in
theorem sg_X2_goalOf_0 {E : HEn} {d : Nat} {Q : Option Value → HIh → Prop} {I : HIh} {p : Int32}
    (k1 : (0 : Int32) ≤ p → p < 4 → Q (some (.int (((I 32 4) >>> ((4 * p) &&& 31)) &&& 15))) I)
    (k2 : ¬ ((0 : Int32) ≤ p ∧ p < 4) → Q (some (.int 0)) I)
    : HGo E (mF E (d + 2) Q) me_X2_goalOf 0 [(0, .ref 32), (1, .int p)] [] I := by
  refine h_iload_n dX2_goalOf_0 rfl 1 rfl ?_
  refine h_invN (As := [.int p]) (st := []) dX2_goalOf_1 lk_X2_61 (h_room (by decide)) rfl rfl (Nat.le_of_ble_eq_true rfl) ?_
  refine c_X11_isPerson (fun c1 c2 => ?_) (fun c3 => ?_)
  ·
    refine h_if_eq (tgt := 21) dX2_goalOf_4 (by decide) (fun c => absurd c (by decide)) (fun _ => ?_)
    refine h_aload_n dX2_goalOf_7 rfl 0 rfl ?_
    refine gf_1_4 dX2_goalOf_8 hl_X2_25 nl_32 zk_32 ?_
    refine h_iconst (v := 4) dX2_goalOf_11 (by decide) ?_
    refine h_iload_n dX2_goalOf_12 rfl 1 rfl ?_
    refine h_imul dX2_goalOf_13 ?_
    refine h_ishr dX2_goalOf_14 ?_
    refine h_bipush (v := 15) dX2_goalOf_15 (by decide) ?_
    refine h_iand dX2_goalOf_17 ?_
    refine h_goto (tgt := 22) dX2_goalOf_18 (by decide) ?_
    exact h_iret dX2_goalOf_22 rfl (k1 c1 c2)
  ·
    refine h_if_eq (tgt := 21) dX2_goalOf_4 (by decide) (fun _ => ?_) (fun c => absurd c (by decide))
    refine h_iconst (v := 0) dX2_goalOf_21 (by decide) ?_
    exact h_iret dX2_goalOf_22 rfl (k2 c3)
set_option maxHeartbeats 1000000 in
set_option maxRecDepth 20000 in
theorem sg_X2_takeOver_0 {E : HEn} {d : Nat} {Q : Option Value → HIh → Prop} {I : HIh} {e f g h : Nat} {v : Int32} {k : Int32} (a_e : e < NL) (b_e : Zk e = 11) (n_e : Zn e = 4) (a_f : f < NL) (b_f : Zk f = 11) (n_f : Zn f = 4) (a_g : g < NL) (b_g : Zk g = 11) (n_g : Zn g = 11) (a_h : h < NL) (b_h : Zk h = 11) (n_h : Zn h = 11) (hs_e : Zp 56 (v + 1).toNatClampNeg = e) (hs_f : Zp 56 v.toNatClampNeg = f) (hs_g : Zp 68 (v + 1).toNatClampNeg = g) (hs_h : Zp 68 v.toNatClampNeg = h)
    (k1 : vp_in (v + 1) 11)
    (k2 : vp_in v 11)
    (k3 : Q none (setI (setI (setI I f (va_cpy (I e) (I f) 0 0 4)) h (va_cpy ((setI I f (va_cpy (I e) (I f) 0 0 4)) g) ((setI I f (va_cpy (I e) (I f) 0 0 4)) h) 0 0 11)) h (upd ((setI (setI I f (va_cpy (I e) (I f) 0 0 4)) h (va_cpy ((setI I f (va_cpy (I e) (I f) 0 0 4)) g) ((setI I f (va_cpy (I e) (I f) 0 0 4)) h) 0 0 11)) h) v.toNatClampNeg k)))
    : HGo E (mF E (d + 1) Q) me_X2_takeOver 0 [(0, .ref 32), (1, .int v), (2, .int k)] [] I := by
  refine h_aload_n dX2_takeOver_0 rfl 0 rfl ?_
  refine gf_1_2 dX2_takeOver_1 hl_X2_19 nl_32 zk_32 zp_32_2 ?_
  refine h_iload_n dX2_takeOver_4 rfl 1 rfl ?_
  refine h_iconst (v := 1) dX2_takeOver_5 (by decide) ?_
  refine h_iadd dX2_takeOver_6 ?_
  refine h_aald14z dX2_takeOver_7 nl_56 zk_56 (by rw [zn_56]; exact k1) hs_e ?_
  refine h_iconst (v := 0) dX2_takeOver_8 (by decide) ?_
  refine h_aload_n dX2_takeOver_9 rfl 0 rfl ?_
  refine gf_1_2 dX2_takeOver_10 hl_X2_19 nl_32 zk_32 zp_32_2 ?_
  refine h_iload_n dX2_takeOver_13 rfl 1 rfl ?_
  refine h_aald14z dX2_takeOver_14 nl_56 zk_56 (by rw [zn_56]; exact k2) hs_f ?_
  refine h_iconst (v := 0) dX2_takeOver_15 (by decide) ?_
  refine h_iconst (v := 4) dX2_takeOver_16 (by decide) ?_
  refine h_copy dX2_takeOver_17 wt_670 wt_297 wt_296 wt_14 a_e b_e a_f b_f (by decide) (by decide) (by decide) (by rw [n_e]; decide) (by rw [n_f]; decide) (h_frm (Nat.le_of_ble_eq_true rfl)).1 ?_
  refine h_aload_n dX2_takeOver_20 rfl 0 rfl ?_
  refine gf_1_3 dX2_takeOver_21 hl_X2_22 nl_32 zk_32 zp_32_3 ?_
  refine h_iload_n dX2_takeOver_24 rfl 1 rfl ?_
  refine h_iconst (v := 1) dX2_takeOver_25 (by decide) ?_
  refine h_iadd dX2_takeOver_26 ?_
  refine h_aald14z dX2_takeOver_27 nl_68 zk_68 (by rw [zn_68]; exact k1) hs_g ?_
  refine h_iconst (v := 0) dX2_takeOver_28 (by decide) ?_
  refine h_aload_n dX2_takeOver_29 rfl 0 rfl ?_
  refine gf_1_3 dX2_takeOver_30 hl_X2_22 nl_32 zk_32 zp_32_3 ?_
  refine h_iload_n dX2_takeOver_33 rfl 1 rfl ?_
  refine h_aald14z dX2_takeOver_34 nl_68 zk_68 (by rw [zn_68]; exact k2) hs_h ?_
  refine h_iconst (v := 0) dX2_takeOver_35 (by decide) ?_
  refine h_bipush (v := 11) dX2_takeOver_36 (by decide) ?_
  refine h_copy dX2_takeOver_38 wt_670 wt_297 wt_296 wt_14 a_g b_g a_h b_h (by decide) (by decide) (by decide) (by rw [n_g]; decide) (by rw [n_h]; decide) (h_frm (Nat.le_of_ble_eq_true rfl)).1 ?_
  refine h_aload_n dX2_takeOver_41 rfl 0 rfl ?_
  refine gf_1_3 dX2_takeOver_42 hl_X2_22 nl_32 zk_32 zp_32_3 ?_
  refine h_iload_n dX2_takeOver_45 rfl 1 rfl ?_
  refine h_aald14z dX2_takeOver_46 nl_68 zk_68 (by rw [zn_68]; exact k2) hs_h ?_
  refine h_iload_n dX2_takeOver_47 rfl 1 rfl ?_
  refine h_iload_n dX2_takeOver_48 rfl 2 rfl ?_
  refine h_iast dX2_takeOver_49 a_h b_h (by rw [n_h]; exact k2) ?_
  exact h_vret dX2_takeOver_50 rfl (k3)
set_option maxHeartbeats 1000000 in
set_option maxRecDepth 20000 in
theorem sg_X11_erase_0 {E : HEn} {d : Nat} {Q : Option Value → HIh → Prop} {I : HIh} 
    (k1 : Q (some (.int (I 19 2))) (setI I 19 (upd (I 19) 2 0)))
    : HGo E (mF E (d + 1) Q) me_X11_erase 0 [(0, .ref 0)] [] I := by
  refine h_aload_n dX11_erase_0 rfl 0 rfl ?_
  refine gf_9_3 dX11_erase_1 hl_X11_30 nl_0 zk_0 zp_0_3 ?_
  refine gf_6_2 dX11_erase_4 hl_X11_50 nl_19 zk_19 ?_
  refine h_istore_n (L' := [(1, .int (I 19 2)), (0, .ref 0)]) dX11_erase_7 rfl (by decide) rfl ?_
  refine h_aload_n dX11_erase_8 rfl 1 rfl ?_
  refine gf_9_3 dX11_erase_9 hl_X11_30 nl_0 zk_0 zp_0_3 ?_
  refine h_iconst (v := 0) dX11_erase_12 (by decide) ?_
  refine pf_6_2 dX11_erase_13 hl_X11_50 nl_19 zk_19 ?_
  refine h_iload_n dX11_erase_16 rfl 0 rfl ?_
  exact h_iret dX11_erase_17 rfl (k1)
set_option maxHeartbeats 1000000 in
set_option maxRecDepth 20000 in
theorem sg_X11_forget_0 {E : HEn} {d : Nat} {Q : Option Value → HIh → Prop} {I : HIh} 
    (k1 : Q (some (.int (I 80 6))) (setI I 80 (upd (I 80) 6 0)))
    : HGo E (mF E (d + 1) Q) me_X11_forget 0 [(0, .ref 0)] [] I := by
  refine h_aload_n dX11_forget_0 rfl 0 rfl ?_
  refine gf_9_5 dX11_forget_1 hl_X11_46 nl_0 zk_0 zp_0_5 ?_
  refine gf_5_6 dX11_forget_4 hl_X11_76 nl_80 zk_80 ?_
  refine h_istore_n (L' := [(1, .int (I 80 6)), (0, .ref 0)]) dX11_forget_7 rfl (by decide) rfl ?_
  refine h_aload_n dX11_forget_8 rfl 1 rfl ?_
  refine gf_9_5 dX11_forget_9 hl_X11_46 nl_0 zk_0 zp_0_5 ?_
  refine h_iconst (v := 0) dX11_forget_12 (by decide) ?_
  refine pf_5_6 dX11_forget_13 hl_X11_76 nl_80 zk_80 ?_
  refine h_iload_n dX11_forget_16 rfl 0 rfl ?_
  exact h_iret dX11_forget_17 rfl (k1)
set_option maxHeartbeats 1000000 in
set_option maxRecDepth 20000 in
theorem sg_X11_tooLongForGame_0 {E : HEn} {d : Nat} {Q : Option Value → HIh → Prop} {I : HIh} 
    (k1 : ((I 1 10) - (I 12 1)) ≤ 6 → Q (some (.int 0)) I)
    (k2 : ¬ ((I 1 10) - (I 12 1)) ≤ 6 → Q (some (.int 1)) I)
    : HGo E (mF E (d + 1) Q) me_X11_tooLongForGame 0 [(0, .ref 0)] [] I := by
  refine h_aload_n dX11_tooLongForGame_0 rfl 0 rfl ?_
  refine gf_9_0 dX11_tooLongForGame_1 hl_X11_10 nl_0 zk_0 zp_0_0 ?_
  refine gf_7_10 dX11_tooLongForGame_4 hl_X11_146 nl_1 zk_1 ?_
  refine h_aload_n dX11_tooLongForGame_7 rfl 0 rfl ?_
  refine gf_9_1 dX11_tooLongForGame_8 hl_X11_19 nl_0 zk_0 zp_0_1 ?_
  refine gf_3_1 dX11_tooLongForGame_11 hl_X11_139 nl_12 zk_12 ?_
  refine h_isub dX11_tooLongForGame_14 ?_
  refine h_bipush (v := 6) dX11_tooLongForGame_15 (by decide) ?_
  refine h_icmp_le (tgt := 24) dX11_tooLongForGame_17 (by decide) (fun c1 => ?_) (fun c1 => ?_)
  ·
    refine h_iconst (v := 0) dX11_tooLongForGame_24 (by decide) ?_
    exact h_zret dX11_tooLongForGame_25 rfl rfl (k1 c1)
  ·
    refine h_iconst (v := 1) dX11_tooLongForGame_20 (by decide) ?_
    refine h_goto (tgt := 25) dX11_tooLongForGame_21 (by decide) ?_
    exact h_zret dX11_tooLongForGame_25 rfl rfl (k2 c1)
set_option maxHeartbeats 1000000 in
set_option maxRecDepth 20000 in
theorem sg_X11_isA_N_0 {E : HEn} {d : Nat} {Q : Option Value → HIh → Prop} {I : HIh} {b : Int32}
    (k1 : b = 0 → Q (some (.int 1)) I)
    (k2 : ¬ b = 0 → b = 1 → Q (some (.int 1)) I)
    (k3 : ¬ b = 0 → ¬ b = 1 → b = 2 → Q (some (.int 0)) I)
    (k4 : ¬ b = 0 → ¬ b = 1 → ¬ b = 2 → b = 3 → Q (some (.int 0)) I)
    (k5 : ¬ b = 0 → ¬ b = 1 → ¬ b = 2 → ¬ b = 3 → b = 4 → Q (some (.int 0)) I)
    (k6 : ¬ b = 0 → ¬ b = 1 → ¬ b = 2 → ¬ b = 3 → ¬ b = 4 → Q (some (.int 0)) I)
    : HGo E (mF E (d + 1) Q) me_X11_isA 0 [(0, .ref 2), (1, .int b)] [] I := by
  refine h_iload_n dX11_isA_0 rfl 1 rfl ?_
  by_cases c1 : b = 0
  · refine h_tswIn (off := 35) (tgt := 36) 0 dX11_isA_1 (by rw [c1]; rfl) (by decide) (by decide) (by decide) (by decide) ?_
    refine h_iconst (v := 1) dX11_isA_36 (by decide) ?_
    exact h_zret dX11_isA_37 rfl rfl (k1 c1)
  by_cases c2 : b = 1
  · refine h_tswIn (off := 37) (tgt := 38) 1 dX11_isA_1 (by rw [c2]; rfl) (by decide) (by decide) (by decide) (by decide) ?_
    refine h_aload_n dX11_isA_38 rfl 0 rfl ?_
    refine h_instS dX11_isA_39 wt_533 nl_2 zk_2 (by decide) rfl ?_
    exact h_zret dX11_isA_42 rfl rfl (k2 c1 c2)
  by_cases c3 : b = 2
  · refine h_tswIn (off := 42) (tgt := 43) 2 dX11_isA_1 (by rw [c3]; rfl) (by decide) (by decide) (by decide) (by decide) ?_
    refine h_aload_n dX11_isA_43 rfl 0 rfl ?_
    refine h_instNo dX11_isA_44 wt_534 (by decide +kernel) nl_2 zk_2 (by decide) rfl ?_
    exact h_zret dX11_isA_47 rfl rfl (k3 c1 c2 c3)
  by_cases c4 : b = 3
  · refine h_tswIn (off := 47) (tgt := 48) 3 dX11_isA_1 (by rw [c4]; rfl) (by decide) (by decide) (by decide) (by decide) ?_
    refine h_aload_n dX11_isA_48 rfl 0 rfl ?_
    refine h_instNo dX11_isA_49 wt_535 (by decide +kernel) nl_2 zk_2 (by decide) rfl ?_
    exact h_zret dX11_isA_52 rfl rfl (k4 c1 c2 c3 c4)
  by_cases c5 : b = 4
  · refine h_tswIn (off := 52) (tgt := 53) 4 dX11_isA_1 (by rw [c5]; rfl) (by decide) (by decide) (by decide) (by decide) ?_
    refine h_aload_n dX11_isA_53 rfl 0 rfl ?_
    refine h_instNo dX11_isA_54 wt_536 (by decide +kernel) nl_2 zk_2 (by decide) rfl ?_
    exact h_zret dX11_isA_57 rfl rfl (k5 c1 c2 c3 c4 c5)
  refine h_tswOut (tgt := 58) dX11_isA_1 (tsw_out5 c1 c2 c3 c4 c5) (by decide) ?_
  refine h_aload_n dX11_isA_58 rfl 0 rfl ?_
  refine h_instNo dX11_isA_59 wt_537 (by decide +kernel) nl_2 zk_2 (by decide) rfl ?_
  exact h_zret dX11_isA_62 rfl rfl (k6 c1 c2 c3 c4 c5)
set_option maxHeartbeats 1000000 in
set_option maxRecDepth 20000 in
theorem sg_X11_isA_G_0 {E : HEn} {d : Nat} {Q : Option Value → HIh → Prop} {I : HIh} {b : Int32}
    (k1 : b = 0 → Q (some (.int 1)) I)
    (k2 : ¬ b = 0 → b = 1 → Q (some (.int 0)) I)
    (k3 : ¬ b = 0 → ¬ b = 1 → b = 2 → Q (some (.int 1)) I)
    (k4 : ¬ b = 0 → ¬ b = 1 → ¬ b = 2 → b = 3 → Q (some (.int 1)) I)
    (k5 : ¬ b = 0 → ¬ b = 1 → ¬ b = 2 → ¬ b = 3 → b = 4 → Q (some (.int 0)) I)
    (k6 : ¬ b = 0 → ¬ b = 1 → ¬ b = 2 → ¬ b = 3 → ¬ b = 4 → Q (some (.int 0)) I)
    : HGo E (mF E (d + 1) Q) me_X11_isA 0 [(0, .ref 3), (1, .int b)] [] I := by
  refine h_iload_n dX11_isA_0 rfl 1 rfl ?_
  by_cases c1 : b = 0
  · refine h_tswIn (off := 35) (tgt := 36) 0 dX11_isA_1 (by rw [c1]; rfl) (by decide) (by decide) (by decide) (by decide) ?_
    refine h_iconst (v := 1) dX11_isA_36 (by decide) ?_
    exact h_zret dX11_isA_37 rfl rfl (k1 c1)
  by_cases c2 : b = 1
  · refine h_tswIn (off := 37) (tgt := 38) 1 dX11_isA_1 (by rw [c2]; rfl) (by decide) (by decide) (by decide) (by decide) ?_
    refine h_aload_n dX11_isA_38 rfl 0 rfl ?_
    refine h_instNo dX11_isA_39 wt_533 (by decide +kernel) nl_3 zk_3 (by decide) rfl ?_
    exact h_zret dX11_isA_42 rfl rfl (k2 c1 c2)
  by_cases c3 : b = 2
  · refine h_tswIn (off := 42) (tgt := 43) 2 dX11_isA_1 (by rw [c3]; rfl) (by decide) (by decide) (by decide) (by decide) ?_
    refine h_aload_n dX11_isA_43 rfl 0 rfl ?_
    refine h_instY dX11_isA_44 wt_534 (by decide +kernel) nl_3 zk_3 (by decide) rfl ?_
    exact h_zret dX11_isA_47 rfl rfl (k3 c1 c2 c3)
  by_cases c4 : b = 3
  · refine h_tswIn (off := 47) (tgt := 48) 3 dX11_isA_1 (by rw [c4]; rfl) (by decide) (by decide) (by decide) (by decide) ?_
    refine h_aload_n dX11_isA_48 rfl 0 rfl ?_
    refine h_instS dX11_isA_49 wt_535 nl_3 zk_3 (by decide) rfl ?_
    exact h_zret dX11_isA_52 rfl rfl (k4 c1 c2 c3 c4)
  by_cases c5 : b = 4
  · refine h_tswIn (off := 52) (tgt := 53) 4 dX11_isA_1 (by rw [c5]; rfl) (by decide) (by decide) (by decide) (by decide) ?_
    refine h_aload_n dX11_isA_53 rfl 0 rfl ?_
    refine h_instNo dX11_isA_54 wt_536 (by decide +kernel) nl_3 zk_3 (by decide) rfl ?_
    exact h_zret dX11_isA_57 rfl rfl (k5 c1 c2 c3 c4 c5)
  refine h_tswOut (tgt := 58) dX11_isA_1 (tsw_out5 c1 c2 c3 c4 c5) (by decide) ?_
  refine h_aload_n dX11_isA_58 rfl 0 rfl ?_
  refine h_instNo dX11_isA_59 wt_537 (by decide +kernel) nl_3 zk_3 (by decide) rfl ?_
  exact h_zret dX11_isA_62 rfl rfl (k6 c1 c2 c3 c4 c5)
set_option maxHeartbeats 1000000 in
set_option maxRecDepth 20000 in
theorem sg_X11_isA_W_0 {E : HEn} {d : Nat} {Q : Option Value → HIh → Prop} {I : HIh} {b : Int32}
    (k1 : b = 0 → Q (some (.int 1)) I)
    (k2 : ¬ b = 0 → b = 1 → Q (some (.int 0)) I)
    (k3 : ¬ b = 0 → ¬ b = 1 → b = 2 → Q (some (.int 1)) I)
    (k4 : ¬ b = 0 → ¬ b = 1 → ¬ b = 2 → b = 3 → Q (some (.int 1)) I)
    (k5 : ¬ b = 0 → ¬ b = 1 → ¬ b = 2 → ¬ b = 3 → b = 4 → Q (some (.int 1)) I)
    (k6 : ¬ b = 0 → ¬ b = 1 → ¬ b = 2 → ¬ b = 3 → ¬ b = 4 → Q (some (.int 0)) I)
    : HGo E (mF E (d + 1) Q) me_X11_isA 0 [(0, .ref 4), (1, .int b)] [] I := by
  refine h_iload_n dX11_isA_0 rfl 1 rfl ?_
  by_cases c1 : b = 0
  · refine h_tswIn (off := 35) (tgt := 36) 0 dX11_isA_1 (by rw [c1]; rfl) (by decide) (by decide) (by decide) (by decide) ?_
    refine h_iconst (v := 1) dX11_isA_36 (by decide) ?_
    exact h_zret dX11_isA_37 rfl rfl (k1 c1)
  by_cases c2 : b = 1
  · refine h_tswIn (off := 37) (tgt := 38) 1 dX11_isA_1 (by rw [c2]; rfl) (by decide) (by decide) (by decide) (by decide) ?_
    refine h_aload_n dX11_isA_38 rfl 0 rfl ?_
    refine h_instNo dX11_isA_39 wt_533 (by decide +kernel) nl_4 zk_4 (by decide) rfl ?_
    exact h_zret dX11_isA_42 rfl rfl (k2 c1 c2)
  by_cases c3 : b = 2
  · refine h_tswIn (off := 42) (tgt := 43) 2 dX11_isA_1 (by rw [c3]; rfl) (by decide) (by decide) (by decide) (by decide) ?_
    refine h_aload_n dX11_isA_43 rfl 0 rfl ?_
    refine h_instY dX11_isA_44 wt_534 (by decide +kernel) nl_4 zk_4 (by decide) rfl ?_
    exact h_zret dX11_isA_47 rfl rfl (k3 c1 c2 c3)
  by_cases c4 : b = 3
  · refine h_tswIn (off := 47) (tgt := 48) 3 dX11_isA_1 (by rw [c4]; rfl) (by decide) (by decide) (by decide) (by decide) ?_
    refine h_aload_n dX11_isA_48 rfl 0 rfl ?_
    refine h_instY dX11_isA_49 wt_535 (by decide +kernel) nl_4 zk_4 (by decide) rfl ?_
    exact h_zret dX11_isA_52 rfl rfl (k4 c1 c2 c3 c4)
  by_cases c5 : b = 4
  · refine h_tswIn (off := 52) (tgt := 53) 4 dX11_isA_1 (by rw [c5]; rfl) (by decide) (by decide) (by decide) (by decide) ?_
    refine h_aload_n dX11_isA_53 rfl 0 rfl ?_
    refine h_instS dX11_isA_54 wt_536 nl_4 zk_4 (by decide) rfl ?_
    exact h_zret dX11_isA_57 rfl rfl (k5 c1 c2 c3 c4 c5)
  refine h_tswOut (tgt := 58) dX11_isA_1 (tsw_out5 c1 c2 c3 c4 c5) (by decide) ?_
  refine h_aload_n dX11_isA_58 rfl 0 rfl ?_
  refine h_instNo dX11_isA_59 wt_537 (by decide +kernel) nl_4 zk_4 (by decide) rfl ?_
  exact h_zret dX11_isA_62 rfl rfl (k6 c1 c2 c3 c4 c5)
set_option maxHeartbeats 1000000 in
set_option maxRecDepth 20000 in
theorem sg_X11_isA_C_0 {E : HEn} {d : Nat} {Q : Option Value → HIh → Prop} {I : HIh} {b : Int32}
    (k1 : b = 0 → Q (some (.int 1)) I)
    (k2 : ¬ b = 0 → b = 1 → Q (some (.int 0)) I)
    (k3 : ¬ b = 0 → ¬ b = 1 → b = 2 → Q (some (.int 1)) I)
    (k4 : ¬ b = 0 → ¬ b = 1 → ¬ b = 2 → b = 3 → Q (some (.int 0)) I)
    (k5 : ¬ b = 0 → ¬ b = 1 → ¬ b = 2 → ¬ b = 3 → b = 4 → Q (some (.int 0)) I)
    (k6 : ¬ b = 0 → ¬ b = 1 → ¬ b = 2 → ¬ b = 3 → ¬ b = 4 → Q (some (.int 1)) I)
    : HGo E (mF E (d + 1) Q) me_X11_isA 0 [(0, .ref 5), (1, .int b)] [] I := by
  refine h_iload_n dX11_isA_0 rfl 1 rfl ?_
  by_cases c1 : b = 0
  · refine h_tswIn (off := 35) (tgt := 36) 0 dX11_isA_1 (by rw [c1]; rfl) (by decide) (by decide) (by decide) (by decide) ?_
    refine h_iconst (v := 1) dX11_isA_36 (by decide) ?_
    exact h_zret dX11_isA_37 rfl rfl (k1 c1)
  by_cases c2 : b = 1
  · refine h_tswIn (off := 37) (tgt := 38) 1 dX11_isA_1 (by rw [c2]; rfl) (by decide) (by decide) (by decide) (by decide) ?_
    refine h_aload_n dX11_isA_38 rfl 0 rfl ?_
    refine h_instNo dX11_isA_39 wt_533 (by decide +kernel) nl_5 zk_5 (by decide) rfl ?_
    exact h_zret dX11_isA_42 rfl rfl (k2 c1 c2)
  by_cases c3 : b = 2
  · refine h_tswIn (off := 42) (tgt := 43) 2 dX11_isA_1 (by rw [c3]; rfl) (by decide) (by decide) (by decide) (by decide) ?_
    refine h_aload_n dX11_isA_43 rfl 0 rfl ?_
    refine h_instY dX11_isA_44 wt_534 (by decide +kernel) nl_5 zk_5 (by decide) rfl ?_
    exact h_zret dX11_isA_47 rfl rfl (k3 c1 c2 c3)
  by_cases c4 : b = 3
  · refine h_tswIn (off := 47) (tgt := 48) 3 dX11_isA_1 (by rw [c4]; rfl) (by decide) (by decide) (by decide) (by decide) ?_
    refine h_aload_n dX11_isA_48 rfl 0 rfl ?_
    refine h_instNo dX11_isA_49 wt_535 (by decide +kernel) nl_5 zk_5 (by decide) rfl ?_
    exact h_zret dX11_isA_52 rfl rfl (k4 c1 c2 c3 c4)
  by_cases c5 : b = 4
  · refine h_tswIn (off := 52) (tgt := 53) 4 dX11_isA_1 (by rw [c5]; rfl) (by decide) (by decide) (by decide) (by decide) ?_
    refine h_aload_n dX11_isA_53 rfl 0 rfl ?_
    refine h_instNo dX11_isA_54 wt_536 (by decide +kernel) nl_5 zk_5 (by decide) rfl ?_
    exact h_zret dX11_isA_57 rfl rfl (k5 c1 c2 c3 c4 c5)
  refine h_tswOut (tgt := 58) dX11_isA_1 (tsw_out5 c1 c2 c3 c4 c5) (by decide) ?_
  refine h_aload_n dX11_isA_58 rfl 0 rfl ?_
  refine h_instS dX11_isA_59 wt_537 nl_5 zk_5 (by decide) rfl ?_
  exact h_zret dX11_isA_62 rfl rfl (k6 c1 c2 c3 c4 c5)
set_option maxHeartbeats 1000000 in
set_option maxRecDepth 20000 in
theorem sg_X12_begin_0 {E : HEn} {d : Nat} {Q : Option Value → HIh → Prop} {I : HIh} 
    (k1 : HGo E (mF E (d + 1) Q) me_X12_begin 2 [(0, .ref 87), (1, .int 0)] [] I)
    : HGo E (mF E (d + 1) Q) me_X12_begin 0 [(0, .ref 87)] [] I := by
  refine h_iconst (v := 0) dX12_begin_0 (by decide) ?_
  refine h_istore_n (L' := [(1, .int 0), (0, .ref 87)]) dX12_begin_1 rfl (by decide) rfl ?_
  refine h_pick [1, 0] [(0, .ref 87), (1, .int 0)] rfl ?_
  exact k1
set_option maxHeartbeats 1000000 in
set_option maxRecDepth 20000 in
theorem sg_X12_begin_2 {E : HEn} {d : Nat} {Q : Option Value → HIh → Prop} {I : HIh} {x1 : Int32}
    (k1 : 30 ≤ x1 → Q none (setI I 88 (upd (I 88) 30 0)))
    (k2 : ¬ 30 ≤ x1 → vp_in x1 30)
    (k3 : ¬ 30 ≤ x1 → vp_in x1 341)
    (k4 : ¬ 30 ≤ x1 → HGo E (mF E (d + 1) Q) me_X12_begin 2 [(0, .ref 87), (1, .int (x1 + 1))] [] (setI I 88 (upd (I 88) x1.toNatClampNeg (I 93 x1.toNatClampNeg))))
    : HGo E (mF E (d + 1) Q) me_X12_begin 2 [(0, .ref 87), (1, .int x1)] [] I := by
  refine h_iload_n dX12_begin_2 rfl 1 rfl ?_
  refine h_bipush (v := 30) dX12_begin_3 (by decide) ?_
  refine h_icmp_ge (tgt := 26) dX12_begin_5 (by decide) (fun c1 => ?_) (fun c1 => ?_)
  ·
    refine h_aload_n dX12_begin_26 rfl 0 rfl ?_
    refine gf_10_0 dX12_begin_27 hl_X12_7 nl_87 zk_87 zp_87_0 ?_
    refine h_bipush (v := 30) dX12_begin_30 (by decide) ?_
    refine h_iconst (v := 0) dX12_begin_32 (by decide) ?_
    refine h_iast dX12_begin_33 nl_88 zk_88 (vp_lit (by rw [zn_88]; decide)) ?_
    exact h_vret dX12_begin_34 rfl (k1 c1)
  ·
    refine h_aload_n dX12_begin_8 rfl 0 rfl ?_
    refine gf_10_0 dX12_begin_9 hl_X12_7 nl_87 zk_87 zp_87_0 ?_
    refine h_iload_n dX12_begin_12 rfl 1 rfl ?_
    refine h_aload_n dX12_begin_13 rfl 0 rfl ?_
    refine gf_10_8 dX12_begin_14 hl_X12_30 nl_87 zk_87 zp_87_8 ?_
    refine h_iload_n dX12_begin_17 rfl 1 rfl ?_
    refine h_iald dX12_begin_18 nl_93 zk_93 (by rw [zn_93]; exact k2 c1) ?_
    refine h_iast dX12_begin_19 nl_88 zk_88 (by rw [zn_88]; exact k3 c1) ?_
    refine h_iinc (v := (x1 + 1)) (L' := [(1, .int (x1 + 1)), (0, .ref 87)]) dX12_begin_20 1 rfl rfl (by decide) rfl ?_
    refine h_goto (tgt := 2) dX12_begin_23 (by decide) ?_
    refine h_pick [1, 0] [(0, .ref 87), (1, .int (x1 + 1))] rfl ?_
    exact k4 c1
set_option maxHeartbeats 1000000 in
set_option maxRecDepth 20000 in
theorem sg_X12_write_0 {E : HEn} {d : Nat} {Q : Option Value → HIh → Prop} {I : HIh} {a : Int64} {b : Int32}
    (k1 : (1 : Int64) ≤ b.toInt64 → (b.toInt64 : Int64) ≤ 8 → ((I 87 3) + b) ≤ 200 → HGo E (mF E (d + 2) Q) me_X12_write 33 [(0, .ref 87), (1, .long a), (3, .int b), (4, .int 0)] [] I)
    (k2 : (1 : Int64) ≤ b.toInt64 → (b.toInt64 : Int64) ≤ 8 → ¬ ((I 87 3) + b) ≤ 200 → Q (some (.int (-5))) I)
    (k3 : ¬ ((1 : Int64) ≤ b.toInt64 ∧ (b.toInt64 : Int64) ≤ 8) → Q (some (.int (-3))) I)
    : HGo E (mF E (d + 2) Q) me_X12_write 0 [(0, .ref 87), (1, .long a), (3, .int b)] [] I := by
  refine h_iload_n dX12_write_0 rfl 2 rfl ?_
  refine h_i2l dX12_write_1 ?_
  refine h_lconst (v := 1) dX12_write_2 (by decide) ?_
  refine h_ldc2 dX12_write_3 wt_903 rfl ?_
  refine h_invS (As := [.long b.toInt64, .long 1, .long 8]) (st := []) dX12_write_6 lk_X12_62 (h_room (by decide)) rfl rfl (Nat.le_of_ble_eq_true rfl) ?_
  refine c_X12_in (fun c1 c2 => ?_) (fun c3 => ?_)
  ·
    refine h_if_ne (tgt := 15) dX12_write_9 (by decide) (fun _ => ?_) (fun c => absurd c (by decide))
    refine h_aload_n dX12_write_15 rfl 0 rfl ?_
    refine gf_10_3 dX12_write_16 hl_X12_66 nl_87 zk_87 ?_
    refine h_iload_n dX12_write_19 rfl 2 rfl ?_
    refine h_iadd dX12_write_20 ?_
    refine h_sipush (v := 200) dX12_write_21 (by decide) ?_
    refine h_icmp_le (tgt := 30) dX12_write_24 (by decide) (fun c4 => ?_) (fun c4 => ?_)
    ·
      refine h_iconst (v := 0) dX12_write_30 (by decide) ?_
      refine h_istore (L' := [(4, .int 0), (0, .ref 87), (1, .long a), (3, .int b)]) dX12_write_31 (by decide) rfl ?_
      refine h_pick [1, 2, 3, 0] [(0, .ref 87), (1, .long a), (3, .int b), (4, .int 0)] rfl ?_
      exact k1 c1 c2 c4
    ·
      refine h_bipush (v := (-5)) dX12_write_27 (by decide) ?_
      exact h_iret dX12_write_29 rfl (k2 c1 c2 c4)
  ·
    refine h_if_ne (tgt := 15) dX12_write_9 (by decide) (fun c => absurd c (by decide)) (fun _ => ?_)
    refine h_bipush (v := (-3)) dX12_write_12 (by decide) ?_
    exact h_iret dX12_write_14 rfl (k3 c3)
set_option maxHeartbeats 1000000 in
set_option maxRecDepth 20000 in
theorem sg_X12_write_33 {E : HEn} {d : Nat} {Q : Option Value → HIh → Prop} {I : HIh} {x1 : Int64} {x3 : Int32} {x4 : Int32}
    (k1 : x3 ≤ x4 → Q (some (.int (I 87 3))) I)
    (k2 : ¬ x3 ≤ x4 → vp_in (I 87 3) 200)
    (k3 : ¬ x3 ≤ x4 → HGo E (mF E (d + 2) Q) me_X12_write 33 [(0, .ref 87), (1, .long x1), (3, .int x3), (4, .int (x4 + 1))] [] (setI (setI I 90 (upd (I 90) (I 87 3).toNatClampNeg (((x1 >>> ((8 * x4).toInt64 &&& 63)) &&& 255).toInt32))) 87 (upd (I 87) 3 ((I 87 3) + 1))))
    : HGo E (mF E (d + 2) Q) me_X12_write 33 [(0, .ref 87), (1, .long x1), (3, .int x3), (4, .int x4)] [] I := by
  refine h_iload dX12_write_33 3 rfl ?_
  refine h_iload_n dX12_write_35 rfl 2 rfl ?_
  refine h_icmp_ge (tgt := 76) dX12_write_36 (by decide) (fun c1 => ?_) (fun c1 => ?_)
  ·
    refine h_aload_n dX12_write_76 rfl 0 rfl ?_
    refine gf_10_3 dX12_write_77 hl_X12_66 nl_87 zk_87 ?_
    exact h_iret dX12_write_80 rfl (k1 c1)
  ·
    refine h_aload_n dX12_write_39 rfl 0 rfl ?_
    refine gf_10_2 dX12_write_40 hl_X12_17 nl_87 zk_87 zp_87_2 ?_
    refine h_aload_n dX12_write_43 rfl 0 rfl ?_
    refine gf_10_3 dX12_write_44 hl_X12_66 nl_87 zk_87 ?_
    refine h_lload_n dX12_write_47 rfl 1 rfl ?_
    refine h_bipush (v := 8) dX12_write_48 (by decide) ?_
    refine h_iload dX12_write_50 3 rfl ?_
    refine h_imul dX12_write_52 ?_
    refine h_lshr dX12_write_53 ?_
    refine h_ldc2 dX12_write_54 wt_907 rfl ?_
    refine h_land dX12_write_57 ?_
    refine h_l2i dX12_write_58 ?_
    refine h_iast dX12_write_59 nl_90 zk_90 (by rw [zn_90]; exact k2 c1) ?_
    refine h_aload_n dX12_write_60 rfl 0 rfl ?_
    refine h_dup dX12_write_61 rfl ?_
    refine gf_10_3 dX12_write_62 hl_X12_66 nl_87 zk_87 ?_
    refine h_iconst (v := 1) dX12_write_65 (by decide) ?_
    refine h_iadd dX12_write_66 ?_
    refine pf_10_3 dX12_write_67 hl_X12_66 nl_87 zk_87 ?_
    refine h_iinc (v := (x4 + 1)) (L' := [(4, .int (x4 + 1)), (0, .ref 87), (1, .long x1), (3, .int x3)]) dX12_write_70 3 rfl rfl (by decide) rfl ?_
    refine h_goto (tgt := 33) dX12_write_73 (by decide) ?_
    refine h_pick [1, 2, 3, 0] [(0, .ref 87), (1, .long x1), (3, .int x3), (4, .int (x4 + 1))] rfl ?_
    exact k3 c1
set_option maxHeartbeats 1000000 in
set_option maxRecDepth 20000 in
theorem sg_X12_erase_0 {E : HEn} {d : Nat} {Q : Option Value → HIh → Prop} {I : HIh} 
    (k1 : Q (some (.int (I 87 3))) (setI I 87 (upd (I 87) 3 0)))
    : HGo E (mF E (d + 1) Q) me_X12_erase 0 [(0, .ref 87)] [] I := by
  refine h_aload_n dX12_erase_0 rfl 0 rfl ?_
  refine gf_10_3 dX12_erase_1 hl_X12_66 nl_87 zk_87 ?_
  refine h_istore_n (L' := [(1, .int (I 87 3)), (0, .ref 87)]) dX12_erase_4 rfl (by decide) rfl ?_
  refine h_aload_n dX12_erase_5 rfl 1 rfl ?_
  refine h_iconst (v := 0) dX12_erase_6 (by decide) ?_
  refine pf_10_3 dX12_erase_7 hl_X12_66 nl_87 zk_87 ?_
  refine h_iload_n dX12_erase_10 rfl 0 rfl ?_
  exact h_iret dX12_erase_11 rfl (k1)
set_option maxHeartbeats 1000000 in
set_option maxRecDepth 20000 in
theorem sg_X12_token_0 {E : HEn} {d : Nat} {Q : Option Value → HIh → Prop} {I : HIh} 
    (k1 : (I 87 3) ≤ (I 87 14) → (I 87 3) ≤ (I 87 14) → HGo E (mF E (d + 2) Q) me_X12_token 71 [(0, .ref 87)] [] (setI (setI I 87 (upd (I 87) 15 (I 87 14))) 87 (upd (upd (I 87) 15 (I 87 14)) 14 ((I 87 14) + 0))))
    (k2 : (I 87 3) ≤ (I 87 14) → ¬ (I 87 3) ≤ (I 87 14) → HGo E (mF E (d + 2) Q) me_X12_token 71 [(0, .ref 87)] [] (setI (setI I 87 (upd (I 87) 15 (I 87 14))) 87 (upd (upd (I 87) 15 (I 87 14)) 14 ((I 87 14) + 1))))
    (k3 : ¬ (I 87 3) ≤ (I 87 14) → vp_in (I 87 14) 200)
    (k4 : ¬ (I 87 3) ≤ (I 87 14) → ¬ (I 90 ((I 87 14).toNatClampNeg)) = 32 → (I 87 3) ≤ (I 87 14) → HGo E (mF E (d + 2) Q) me_X12_token 71 [(0, .ref 87)] [] (setI (setI I 87 (upd (I 87) 15 (I 87 14))) 87 (upd (upd (I 87) 15 (I 87 14)) 14 ((I 87 14) + 0))))
    (k5 : ¬ (I 87 3) ≤ (I 87 14) → ¬ (I 90 ((I 87 14).toNatClampNeg)) = 32 → ¬ (I 87 3) ≤ (I 87 14) → HGo E (mF E (d + 2) Q) me_X12_token 71 [(0, .ref 87)] [] (setI (setI I 87 (upd (I 87) 15 (I 87 14))) 87 (upd (upd (I 87) 15 (I 87 14)) 14 ((I 87 14) + 1))))
    (k6 : ¬ (I 87 3) ≤ (I 87 14) → (I 90 ((I 87 14).toNatClampNeg)) = 32 → HGo E (mF E (d + 2) Q) me_X12_token 0 [(0, .ref 87)] [] (setI I 87 (upd (I 87) 14 ((I 87 14) + 1))))
    : HGo E (mF E (d + 2) Q) me_X12_token 0 [(0, .ref 87)] [] I := by
  refine h_aload_n dX12_token_0 rfl 0 rfl ?_
  refine gf_10_14 dX12_token_1 hl_X12_71 nl_87 zk_87 ?_
  refine h_aload_n dX12_token_4 rfl 0 rfl ?_
  refine gf_10_3 dX12_token_5 hl_X12_66 nl_87 zk_87 ?_
  refine h_icmp_ge (tgt := 38) dX12_token_8 (by decide) (fun c1 => ?_) (fun c1 => ?_)
  ·
    refine h_aload_n dX12_token_38 rfl 0 rfl ?_
    refine h_aload_n dX12_token_39 rfl 0 rfl ?_
    refine gf_10_14 dX12_token_40 hl_X12_71 nl_87 zk_87 ?_
    refine pf_10_15 dX12_token_43 hl_X12_74 nl_87 zk_87 ?_
    refine h_aload_n dX12_token_46 rfl 0 rfl ?_
    refine h_dup dX12_token_47 rfl ?_
    refine gf_10_14 dX12_token_48 hl_X12_71 nl_87 zk_87 ?_
    refine h_aload_n dX12_token_51 rfl 0 rfl ?_
    refine gf_10_14 dX12_token_52 hl_X12_71 nl_87 zk_87 ?_
    refine h_aload_n dX12_token_55 rfl 0 rfl ?_
    refine gf_10_3 dX12_token_56 hl_X12_66 nl_87 zk_87 ?_
    refine h_icmp_ge (tgt := 66) dX12_token_59 (by decide) (fun c2 => ?_) (fun c2 => ?_)
    ·
      refine h_iconst (v := 0) dX12_token_66 (by decide) ?_
      refine h_iadd dX12_token_67 ?_
      refine pf_10_14 dX12_token_68 hl_X12_71 nl_87 zk_87 ?_
      exact k1 c1 c2
    ·
      refine h_iconst (v := 1) dX12_token_62 (by decide) ?_
      refine h_goto (tgt := 67) dX12_token_63 (by decide) ?_
      refine h_iadd dX12_token_67 ?_
      refine pf_10_14 dX12_token_68 hl_X12_71 nl_87 zk_87 ?_
      exact k2 c1 c2
  ·
    refine h_aload_n dX12_token_11 rfl 0 rfl ?_
    refine gf_10_2 dX12_token_12 hl_X12_17 nl_87 zk_87 zp_87_2 ?_
    refine h_aload_n dX12_token_15 rfl 0 rfl ?_
    refine gf_10_14 dX12_token_16 hl_X12_71 nl_87 zk_87 ?_
    refine h_iald dX12_token_19 nl_90 zk_90 (by rw [zn_90]; exact k3 c1) ?_
    refine h_bipush (v := 32) dX12_token_20 (by decide) ?_
    refine h_icmp_ne (tgt := 38) dX12_token_22 (by decide) (fun c3 => ?_) (fun c3 => ?_)
    ·
      refine h_aload_n dX12_token_38 rfl 0 rfl ?_
      refine h_aload_n dX12_token_39 rfl 0 rfl ?_
      refine gf_10_14 dX12_token_40 hl_X12_71 nl_87 zk_87 ?_
      refine pf_10_15 dX12_token_43 hl_X12_74 nl_87 zk_87 ?_
      refine h_aload_n dX12_token_46 rfl 0 rfl ?_
      refine h_dup dX12_token_47 rfl ?_
      refine gf_10_14 dX12_token_48 hl_X12_71 nl_87 zk_87 ?_
      refine h_aload_n dX12_token_51 rfl 0 rfl ?_
      refine gf_10_14 dX12_token_52 hl_X12_71 nl_87 zk_87 ?_
      refine h_aload_n dX12_token_55 rfl 0 rfl ?_
      refine gf_10_3 dX12_token_56 hl_X12_66 nl_87 zk_87 ?_
      refine h_icmp_ge (tgt := 66) dX12_token_59 (by decide) (fun c4 => ?_) (fun c4 => ?_)
      ·
        refine h_iconst (v := 0) dX12_token_66 (by decide) ?_
        refine h_iadd dX12_token_67 ?_
        refine pf_10_14 dX12_token_68 hl_X12_71 nl_87 zk_87 ?_
        exact k4 c1 c3 c4
      ·
        refine h_iconst (v := 1) dX12_token_62 (by decide) ?_
        refine h_goto (tgt := 67) dX12_token_63 (by decide) ?_
        refine h_iadd dX12_token_67 ?_
        refine pf_10_14 dX12_token_68 hl_X12_71 nl_87 zk_87 ?_
        exact k5 c1 c3 c4
    ·
      refine h_aload_n dX12_token_25 rfl 0 rfl ?_
      refine h_dup dX12_token_26 rfl ?_
      refine gf_10_14 dX12_token_27 hl_X12_71 nl_87 zk_87 ?_
      refine h_iconst (v := 1) dX12_token_30 (by decide) ?_
      refine h_iadd dX12_token_31 ?_
      refine pf_10_14 dX12_token_32 hl_X12_71 nl_87 zk_87 ?_
      refine h_goto (tgt := 0) dX12_token_35 (by decide) ?_
      exact k6 c1 c3
set_option maxHeartbeats 1000000 in
set_option maxRecDepth 20000 in
theorem sg_X12_token_71 {E : HEn} {d : Nat} {Q : Option Value → HIh → Prop} {I : HIh} 
    (k1 : (I 87 3) ≤ (I 87 14) → Q none (setI I 87 (upd (I 87) 16 (I 87 14))))
    (k2 : ¬ (I 87 3) ≤ (I 87 14) → vp_in (I 87 15) 200)
    (k3 : ¬ (I 87 3) ≤ (I 87 14) → (fSort (I 90 ((I 87 15).toNatClampNeg))) ≤ 0 → Q none (setI I 87 (upd (I 87) 16 (I 87 14))))
    (k4 : ¬ (I 87 3) ≤ (I 87 14) → ¬ (fSort (I 90 ((I 87 15).toNatClampNeg))) ≤ 0 → vp_in (I 87 14) 200)
    (k5 : ¬ (I 87 3) ≤ (I 87 14) → ¬ (fSort (I 90 ((I 87 15).toNatClampNeg))) ≤ 0 → vp_in (I 87 15) 200)
    (k6 : ¬ (I 87 3) ≤ (I 87 14) → ¬ (fSort (I 90 ((I 87 15).toNatClampNeg))) ≤ 0 → ¬ (fSort (I 90 ((I 87 14).toNatClampNeg))) = (fSort (I 90 ((I 87 15).toNatClampNeg))) → Q none (setI I 87 (upd (I 87) 16 (I 87 14))))
    (k7 : ¬ (I 87 3) ≤ (I 87 14) → ¬ (fSort (I 90 ((I 87 15).toNatClampNeg))) ≤ 0 → (fSort (I 90 ((I 87 14).toNatClampNeg))) = (fSort (I 90 ((I 87 15).toNatClampNeg))) → HGo E (mF E (d + 2) Q) me_X12_token 71 [(0, .ref 87)] [] (setI I 87 (upd (I 87) 14 ((I 87 14) + 1))))
    : HGo E (mF E (d + 2) Q) me_X12_token 71 [(0, .ref 87)] [] I := by
  refine h_aload_n dX12_token_71 rfl 0 rfl ?_
  refine gf_10_14 dX12_token_72 hl_X12_71 nl_87 zk_87 ?_
  refine h_aload_n dX12_token_75 rfl 0 rfl ?_
  refine gf_10_3 dX12_token_76 hl_X12_66 nl_87 zk_87 ?_
  refine h_icmp_ge (tgt := 137) dX12_token_79 (by decide) (fun c1 => ?_) (fun c1 => ?_)
  ·
    refine h_aload_n dX12_token_137 rfl 0 rfl ?_
    refine h_aload_n dX12_token_138 rfl 0 rfl ?_
    refine gf_10_14 dX12_token_139 hl_X12_71 nl_87 zk_87 ?_
    refine pf_10_16 dX12_token_142 hl_X12_81 nl_87 zk_87 ?_
    exact h_vret dX12_token_145 rfl (k1 c1)
  ·
    refine h_aload_n dX12_token_82 rfl 0 rfl ?_
    refine gf_10_2 dX12_token_83 hl_X12_17 nl_87 zk_87 zp_87_2 ?_
    refine h_aload_n dX12_token_86 rfl 0 rfl ?_
    refine gf_10_15 dX12_token_87 hl_X12_74 nl_87 zk_87 ?_
    refine h_iald dX12_token_90 nl_90 zk_90 (by rw [zn_90]; exact k2 c1) ?_
    refine h_invS (As := [.int (I 90 ((I 87 15).toNatClampNeg))]) (st := []) dX12_token_91 lk_X12_77 (h_room (by decide)) rfl rfl (Nat.le_of_ble_eq_true rfl) ?_
    refine c1_sort ?_
    refine h_if_le (tgt := 137) dX12_token_94 (by decide) (fun c2 => ?_) (fun c2 => ?_)
    ·
      refine h_aload_n dX12_token_137 rfl 0 rfl ?_
      refine h_aload_n dX12_token_138 rfl 0 rfl ?_
      refine gf_10_14 dX12_token_139 hl_X12_71 nl_87 zk_87 ?_
      refine pf_10_16 dX12_token_142 hl_X12_81 nl_87 zk_87 ?_
      exact h_vret dX12_token_145 rfl (k3 c1 c2)
    ·
      refine h_aload_n dX12_token_97 rfl 0 rfl ?_
      refine gf_10_2 dX12_token_98 hl_X12_17 nl_87 zk_87 zp_87_2 ?_
      refine h_aload_n dX12_token_101 rfl 0 rfl ?_
      refine gf_10_14 dX12_token_102 hl_X12_71 nl_87 zk_87 ?_
      refine h_iald dX12_token_105 nl_90 zk_90 (by rw [zn_90]; exact k4 c1 c2) ?_
      refine h_invS (As := [.int (I 90 ((I 87 14).toNatClampNeg))]) (st := []) dX12_token_106 lk_X12_77 (h_room (by decide)) rfl rfl (Nat.le_of_ble_eq_true rfl) ?_
      refine c1_sort ?_
      refine h_aload_n dX12_token_109 rfl 0 rfl ?_
      refine gf_10_2 dX12_token_110 hl_X12_17 nl_87 zk_87 zp_87_2 ?_
      refine h_aload_n dX12_token_113 rfl 0 rfl ?_
      refine gf_10_15 dX12_token_114 hl_X12_74 nl_87 zk_87 ?_
      refine h_iald dX12_token_117 nl_90 zk_90 (by rw [zn_90]; exact k5 c1 c2) ?_
      refine h_invS (As := [.int (I 90 ((I 87 15).toNatClampNeg))]) (st := [.int (fSort (I 90 ((I 87 14).toNatClampNeg)))]) dX12_token_118 lk_X12_77 (h_room (by decide)) rfl rfl (Nat.le_of_ble_eq_true rfl) ?_
      refine c1_sort ?_
      refine h_icmp_ne (tgt := 137) dX12_token_121 (by decide) (fun c3 => ?_) (fun c3 => ?_)
      ·
        refine h_aload_n dX12_token_137 rfl 0 rfl ?_
        refine h_aload_n dX12_token_138 rfl 0 rfl ?_
        refine gf_10_14 dX12_token_139 hl_X12_71 nl_87 zk_87 ?_
        refine pf_10_16 dX12_token_142 hl_X12_81 nl_87 zk_87 ?_
        exact h_vret dX12_token_145 rfl (k6 c1 c2 c3)
      ·
        refine h_aload_n dX12_token_124 rfl 0 rfl ?_
        refine h_dup dX12_token_125 rfl ?_
        refine gf_10_14 dX12_token_126 hl_X12_71 nl_87 zk_87 ?_
        refine h_iconst (v := 1) dX12_token_129 (by decide) ?_
        refine h_iadd dX12_token_130 ?_
        refine pf_10_14 dX12_token_131 hl_X12_71 nl_87 zk_87 ?_
        refine h_goto (tgt := 71) dX12_token_134 (by decide) ?_
        exact k7 c1 c2 c3
set_option maxHeartbeats 1000000 in
set_option maxRecDepth 20000 in
theorem sg_X12_isWord_0 {E : HEn} {d : Nat} {Q : Option Value → HIh → Prop} {I : HIh} {a : Int64} {b : Int32}
    (k1 : ¬ ((I 87 16) - (I 87 15)) = b → HGo E (mF E (d + 1) Q) me_X12_isWord 23 [(0, .ref 87), (1, .long a), (3, .int b), (4, .int 0), (5, .int 0)] [] I)
    (k2 : ((I 87 16) - (I 87 15)) = b → HGo E (mF E (d + 1) Q) me_X12_isWord 23 [(0, .ref 87), (1, .long a), (3, .int b), (4, .int 1), (5, .int 0)] [] I)
    : HGo E (mF E (d + 1) Q) me_X12_isWord 0 [(0, .ref 87), (1, .long a), (3, .int b)] [] I := by
  refine h_aload_n dX12_isWord_0 rfl 0 rfl ?_
  refine gf_10_16 dX12_isWord_1 hl_X12_81 nl_87 zk_87 ?_
  refine h_aload_n dX12_isWord_4 rfl 0 rfl ?_
  refine gf_10_15 dX12_isWord_5 hl_X12_74 nl_87 zk_87 ?_
  refine h_isub dX12_isWord_8 ?_
  refine h_iload_n dX12_isWord_9 rfl 2 rfl ?_
  refine h_icmp_ne (tgt := 17) dX12_isWord_10 (by decide) (fun c1 => ?_) (fun c1 => ?_)
  ·
    refine h_iconst (v := 0) dX12_isWord_17 (by decide) ?_
    refine h_istore (L' := [(4, .int 0), (0, .ref 87), (1, .long a), (3, .int b)]) dX12_isWord_18 (by decide) rfl ?_
    refine h_iconst (v := 0) dX12_isWord_20 (by decide) ?_
    refine h_istore (L' := [(5, .int 0), (4, .int 0), (0, .ref 87), (1, .long a), (3, .int b)]) dX12_isWord_21 (by decide) rfl ?_
    refine h_pick [2, 3, 4, 1, 0] [(0, .ref 87), (1, .long a), (3, .int b), (4, .int 0), (5, .int 0)] rfl ?_
    exact k1 c1
  ·
    refine h_iconst (v := 1) dX12_isWord_13 (by decide) ?_
    refine h_goto (tgt := 18) dX12_isWord_14 (by decide) ?_
    refine h_istore (L' := [(4, .int 1), (0, .ref 87), (1, .long a), (3, .int b)]) dX12_isWord_18 (by decide) rfl ?_
    refine h_iconst (v := 0) dX12_isWord_20 (by decide) ?_
    refine h_istore (L' := [(5, .int 0), (4, .int 1), (0, .ref 87), (1, .long a), (3, .int b)]) dX12_isWord_21 (by decide) rfl ?_
    refine h_pick [2, 3, 4, 1, 0] [(0, .ref 87), (1, .long a), (3, .int b), (4, .int 1), (5, .int 0)] rfl ?_
    exact k2 c1
set_option maxHeartbeats 1000000 in
set_option maxRecDepth 20000 in
theorem sg_X12_isWord_23 {E : HEn} {d : Nat} {Q : Option Value → HIh → Prop} {I : HIh} {x1 : Int64} {x3 : Int32} {x4 : Int32} {x5 : Int32}
    (k1 : x4 = 0 → vp_nar .boolean x4 = x4)
    (k2 : x4 = 0 → Q (some (.int x4)) I)
    (k3 : ¬ x4 = 0 → x3 ≤ x5 → vp_nar .boolean x4 = x4)
    (k4 : ¬ x4 = 0 → x3 ≤ x5 → Q (some (.int x4)) I)
    (k5 : ¬ x4 = 0 → ¬ x3 ≤ x5 → vp_in ((I 87 15) + x5) 200)
    (k6 : ¬ x4 = 0 → ¬ x3 ≤ x5 → ¬ (I 90 (((I 87 15) + x5).toNatClampNeg)) = (96 + ((x1 >>> ((5 * x5).toInt64 &&& 63)) &&& 31).toInt32) → HGo E (mF E (d + 1) Q) me_X12_isWord 23 [(0, .ref 87), (1, .long x1), (3, .int x3), (4, .int 0), (5, .int (x5 + 1))] [] I)
    (k7 : ¬ x4 = 0 → ¬ x3 ≤ x5 → (I 90 (((I 87 15) + x5).toNatClampNeg)) = (96 + ((x1 >>> ((5 * x5).toInt64 &&& 63)) &&& 31).toInt32) → HGo E (mF E (d + 1) Q) me_X12_isWord 23 [(0, .ref 87), (1, .long x1), (3, .int x3), (4, .int 1), (5, .int (x5 + 1))] [] I)
    : HGo E (mF E (d + 1) Q) me_X12_isWord 23 [(0, .ref 87), (1, .long x1), (3, .int x3), (4, .int x4), (5, .int x5)] [] I := by
  refine h_iload dX12_isWord_23 3 rfl ?_
  refine h_if_eq (tgt := 76) dX12_isWord_25 (by decide) (fun c1 => ?_) (fun c1 => ?_)
  ·
    refine h_iload dX12_isWord_76 3 rfl ?_
    exact h_zret dX12_isWord_78 rfl (k1 c1) (k2 c1)
  ·
    refine h_iload dX12_isWord_28 4 rfl ?_
    refine h_iload_n dX12_isWord_30 rfl 2 rfl ?_
    refine h_icmp_ge (tgt := 76) dX12_isWord_31 (by decide) (fun c2 => ?_) (fun c2 => ?_)
    ·
      refine h_iload dX12_isWord_76 3 rfl ?_
      exact h_zret dX12_isWord_78 rfl (k3 c1 c2) (k4 c1 c2)
    ·
      refine h_aload_n dX12_isWord_34 rfl 0 rfl ?_
      refine gf_10_2 dX12_isWord_35 hl_X12_17 nl_87 zk_87 zp_87_2 ?_
      refine h_aload_n dX12_isWord_38 rfl 0 rfl ?_
      refine gf_10_15 dX12_isWord_39 hl_X12_74 nl_87 zk_87 ?_
      refine h_iload dX12_isWord_42 4 rfl ?_
      refine h_iadd dX12_isWord_44 ?_
      refine h_iald dX12_isWord_45 nl_90 zk_90 (by rw [zn_90]; exact k5 c1 c2) ?_
      refine h_bipush (v := 96) dX12_isWord_46 (by decide) ?_
      refine h_lload_n dX12_isWord_48 rfl 1 rfl ?_
      refine h_iconst (v := 5) dX12_isWord_49 (by decide) ?_
      refine h_iload dX12_isWord_50 4 rfl ?_
      refine h_imul dX12_isWord_52 ?_
      refine h_lshr dX12_isWord_53 ?_
      refine h_ldc2 dX12_isWord_54 wt_940 rfl ?_
      refine h_land dX12_isWord_57 ?_
      refine h_l2i dX12_isWord_58 ?_
      refine h_iadd dX12_isWord_59 ?_
      refine h_icmp_ne (tgt := 67) dX12_isWord_60 (by decide) (fun c3 => ?_) (fun c3 => ?_)
      ·
        refine h_iconst (v := 0) dX12_isWord_67 (by decide) ?_
        refine h_istore (L' := [(4, .int 0), (0, .ref 87), (1, .long x1), (3, .int x3), (5, .int x5)]) dX12_isWord_68 (by decide) rfl ?_
        refine h_iinc (v := (x5 + 1)) (L' := [(5, .int (x5 + 1)), (4, .int 0), (0, .ref 87), (1, .long x1), (3, .int x3)]) dX12_isWord_70 4 rfl rfl (by decide) rfl ?_
        refine h_goto (tgt := 23) dX12_isWord_73 (by decide) ?_
        refine h_pick [2, 3, 4, 1, 0] [(0, .ref 87), (1, .long x1), (3, .int x3), (4, .int 0), (5, .int (x5 + 1))] rfl ?_
        exact k6 c1 c2 c3
      ·
        refine h_iconst (v := 1) dX12_isWord_63 (by decide) ?_
        refine h_goto (tgt := 68) dX12_isWord_64 (by decide) ?_
        refine h_istore (L' := [(4, .int 1), (0, .ref 87), (1, .long x1), (3, .int x3), (5, .int x5)]) dX12_isWord_68 (by decide) rfl ?_
        refine h_iinc (v := (x5 + 1)) (L' := [(5, .int (x5 + 1)), (4, .int 1), (0, .ref 87), (1, .long x1), (3, .int x3)]) dX12_isWord_70 4 rfl rfl (by decide) rfl ?_
        refine h_goto (tgt := 23) dX12_isWord_73 (by decide) ?_
        refine h_pick [2, 3, 4, 1, 0] [(0, .ref 87), (1, .long x1), (3, .int x3), (4, .int 1), (5, .int (x5 + 1))] rfl ?_
        exact k7 c1 c2 c3
set_option maxHeartbeats 1000000 in
set_option maxRecDepth 20000 in
theorem sg_X12_isNumber_0 {E : HEn} {d : Nat} {Q : Option Value → HIh → Prop} {I : HIh} 
    (k1 : (I 87 3) ≤ (I 87 15) → Q (some (.int 0)) I)
    (k2 : ¬ (I 87 3) ≤ (I 87 15) → vp_in (I 87 15) 200)
    (k3 : ¬ (I 87 3) ≤ (I 87 15) → ¬ (fSort (I 90 ((I 87 15).toNatClampNeg))) = 2 → Q (some (.int 0)) I)
    (k4 : ¬ (I 87 3) ≤ (I 87 15) → (fSort (I 90 ((I 87 15).toNatClampNeg))) = 2 → Q (some (.int 1)) I)
    : HGo E (mF E (d + 2) Q) me_X12_isNumber 0 [(0, .ref 87)] [] I := by
  refine h_aload_n dX12_isNumber_0 rfl 0 rfl ?_
  refine gf_10_15 dX12_isNumber_1 hl_X12_74 nl_87 zk_87 ?_
  refine h_aload_n dX12_isNumber_4 rfl 0 rfl ?_
  refine gf_10_3 dX12_isNumber_5 hl_X12_66 nl_87 zk_87 ?_
  refine h_icmp_ge (tgt := 31) dX12_isNumber_8 (by decide) (fun c1 => ?_) (fun c1 => ?_)
  ·
    refine h_iconst (v := 0) dX12_isNumber_31 (by decide) ?_
    exact h_zret dX12_isNumber_32 rfl rfl (k1 c1)
  ·
    refine h_aload_n dX12_isNumber_11 rfl 0 rfl ?_
    refine gf_10_2 dX12_isNumber_12 hl_X12_17 nl_87 zk_87 zp_87_2 ?_
    refine h_aload_n dX12_isNumber_15 rfl 0 rfl ?_
    refine gf_10_15 dX12_isNumber_16 hl_X12_74 nl_87 zk_87 ?_
    refine h_iald dX12_isNumber_19 nl_90 zk_90 (by rw [zn_90]; exact k2 c1) ?_
    refine h_invS (As := [.int (I 90 ((I 87 15).toNatClampNeg))]) (st := []) dX12_isNumber_20 lk_X12_77 (h_room (by decide)) rfl rfl (Nat.le_of_ble_eq_true rfl) ?_
    refine c1_sort ?_
    refine h_iconst (v := 2) dX12_isNumber_23 (by decide) ?_
    refine h_icmp_ne (tgt := 31) dX12_isNumber_24 (by decide) (fun c2 => ?_) (fun c2 => ?_)
    ·
      refine h_iconst (v := 0) dX12_isNumber_31 (by decide) ?_
      exact h_zret dX12_isNumber_32 rfl rfl (k3 c1 c2)
    ·
      refine h_iconst (v := 1) dX12_isNumber_27 (by decide) ?_
      refine h_goto (tgt := 32) dX12_isNumber_28 (by decide) ?_
      exact h_zret dX12_isNumber_32 rfl rfl (k4 c1 c2)
set_option maxHeartbeats 1000000 in
set_option maxRecDepth 20000 in
theorem sg_X12_tellCoins_0 {E : HEn} {d : Nat} {Q : Option Value → HIh → Prop} {I : HIh} {a : Int32}
    (k1 : vp_in (a + 1) 120)
    (k2 : HGo E (mF E (d + 1) Q) me_X12_tellCoins 14 [(0, .ref 87), (1, .int a), (2, .int 0)] [] (setI I 87 (upd (I 87) 6 (I 91 ((a + 1).toNatClampNeg)))))
    : HGo E (mF E (d + 1) Q) me_X12_tellCoins 0 [(0, .ref 87), (1, .int a)] [] I := by
  refine h_aload_n dX12_tellCoins_0 rfl 0 rfl ?_
  refine h_aload_n dX12_tellCoins_1 rfl 0 rfl ?_
  refine gf_10_4 dX12_tellCoins_2 hl_X12_20 nl_87 zk_87 zp_87_4 ?_
  refine h_iload_n dX12_tellCoins_5 rfl 1 rfl ?_
  refine h_iconst (v := 1) dX12_tellCoins_6 (by decide) ?_
  refine h_iadd dX12_tellCoins_7 ?_
  refine h_iald dX12_tellCoins_8 nl_91 zk_91 (by rw [zn_91]; exact k1) ?_
  refine pf_10_6 dX12_tellCoins_9 hl_X12_23 nl_87 zk_87 ?_
  refine h_iconst (v := 0) dX12_tellCoins_12 (by decide) ?_
  refine h_istore_n (L' := [(2, .int 0), (0, .ref 87), (1, .int a)]) dX12_tellCoins_13 rfl (by decide) rfl ?_
  refine h_pick [1, 2, 0] [(0, .ref 87), (1, .int a), (2, .int 0)] rfl ?_
  exact k2
set_option maxHeartbeats 1000000 in
set_option maxRecDepth 20000 in
theorem sg_X12_tellCoins_14 {E : HEn} {d : Nat} {Q : Option Value → HIh → Prop} {I : HIh} {x1 : Int32} {x2 : Int32}
    (k1 : (I 87 6) ≤ x2 → HGo E (mF E (d + 1) Q) me_X12_tellCoins 46 [(0, .ref 87), (2, .int 0)] [] I)
    (k2 : ¬ (I 87 6) ≤ x2 → vp_in ((x1 + 2) + x2) 120)
    (k3 : ¬ (I 87 6) ≤ x2 → vp_in x2 6)
    (k4 : ¬ (I 87 6) ≤ x2 → HGo E (mF E (d + 1) Q) me_X12_tellCoins 14 [(0, .ref 87), (1, .int x1), (2, .int (x2 + 1))] [] (setI I 92 (upd (I 92) x2.toNatClampNeg (I 91 (((x1 + 2) + x2).toNatClampNeg)))))
    : HGo E (mF E (d + 1) Q) me_X12_tellCoins 14 [(0, .ref 87), (1, .int x1), (2, .int x2)] [] I := by
  refine h_iload_n dX12_tellCoins_14 rfl 2 rfl ?_
  refine h_aload_n dX12_tellCoins_15 rfl 0 rfl ?_
  refine gf_10_6 dX12_tellCoins_16 hl_X12_23 nl_87 zk_87 ?_
  refine h_icmp_ge (tgt := 44) dX12_tellCoins_19 (by decide) (fun c1 => ?_) (fun c1 => ?_)
  ·
    refine h_iconst (v := 0) dX12_tellCoins_44 (by decide) ?_
    refine h_istore_n (L' := [(2, .int 0), (0, .ref 87), (1, .int x1)]) dX12_tellCoins_45 rfl (by decide) rfl ?_
    refine h_pick [1, 0] [(0, .ref 87), (2, .int 0)] rfl ?_
    exact k1 c1
  ·
    refine h_aload_n dX12_tellCoins_22 rfl 0 rfl ?_
    refine gf_10_7 dX12_tellCoins_23 hl_X12_27 nl_87 zk_87 zp_87_7 ?_
    refine h_iload_n dX12_tellCoins_26 rfl 2 rfl ?_
    refine h_aload_n dX12_tellCoins_27 rfl 0 rfl ?_
    refine gf_10_4 dX12_tellCoins_28 hl_X12_20 nl_87 zk_87 zp_87_4 ?_
    refine h_iload_n dX12_tellCoins_31 rfl 1 rfl ?_
    refine h_iconst (v := 2) dX12_tellCoins_32 (by decide) ?_
    refine h_iadd dX12_tellCoins_33 ?_
    refine h_iload_n dX12_tellCoins_34 rfl 2 rfl ?_
    refine h_iadd dX12_tellCoins_35 ?_
    refine h_iald dX12_tellCoins_36 nl_91 zk_91 (by rw [zn_91]; exact k2 c1) ?_
    refine h_iast dX12_tellCoins_37 nl_92 zk_92 (by rw [zn_92]; exact k3 c1) ?_
    refine h_iinc (v := (x2 + 1)) (L' := [(2, .int (x2 + 1)), (0, .ref 87), (1, .int x1)]) dX12_tellCoins_38 2 rfl rfl (by decide) rfl ?_
    refine h_goto (tgt := 14) dX12_tellCoins_41 (by decide) ?_
    refine h_pick [1, 2, 0] [(0, .ref 87), (1, .int x1), (2, .int (x2 + 1))] rfl ?_
    exact k4 c1
set_option maxHeartbeats 1000000 in
set_option maxRecDepth 20000 in
theorem sg_X12_tellCoins_46 {E : HEn} {d : Nat} {Q : Option Value → HIh → Prop} {I : HIh} {x2 : Int32}
    (k1 : 30 ≤ x2 → Q none I)
    (k2 : ¬ 30 ≤ x2 → vp_in x2 30)
    (k3 : ¬ 30 ≤ x2 → HGo E (mF E (d + 1) Q) me_X12_tellCoins 46 [(0, .ref 87), (2, .int (x2 + 1))] [] (setI I 93 (upd (I 93) x2.toNatClampNeg 0)))
    : HGo E (mF E (d + 1) Q) me_X12_tellCoins 46 [(0, .ref 87), (2, .int x2)] [] I := by
  refine h_iload_n dX12_tellCoins_46 rfl 1 rfl ?_
  refine h_bipush (v := 30) dX12_tellCoins_47 (by decide) ?_
  refine h_icmp_ge (tgt := 65) dX12_tellCoins_49 (by decide) (fun c1 => ?_) (fun c1 => ?_)
  ·
    exact h_vret dX12_tellCoins_65 rfl (k1 c1)
  ·
    refine h_aload_n dX12_tellCoins_52 rfl 0 rfl ?_
    refine gf_10_8 dX12_tellCoins_53 hl_X12_30 nl_87 zk_87 zp_87_8 ?_
    refine h_iload_n dX12_tellCoins_56 rfl 1 rfl ?_
    refine h_iconst (v := 0) dX12_tellCoins_57 (by decide) ?_
    refine h_iast dX12_tellCoins_58 nl_93 zk_93 (by rw [zn_93]; exact k2 c1) ?_
    refine h_iinc (v := (x2 + 1)) (L' := [(2, .int (x2 + 1)), (0, .ref 87)]) dX12_tellCoins_59 1 rfl rfl (by decide) rfl ?_
    refine h_goto (tgt := 46) dX12_tellCoins_62 (by decide) ?_
    refine h_pick [1, 0] [(0, .ref 87), (2, .int (x2 + 1))] rfl ?_
    exact k3 c1
set_option maxHeartbeats 1000000 in
set_option maxRecDepth 20000 in
theorem sg_X12_tellCome_0 {E : HEn} {d : Nat} {Q : Option Value → HIh → Prop} {I : HIh} {a : Int32}
    (k1 : HGo E (mF E (d + 1) Q) me_X12_tellCome 2 [(0, .ref 87), (1, .int a), (2, .int 0)] [] I)
    : HGo E (mF E (d + 1) Q) me_X12_tellCome 0 [(0, .ref 87), (1, .int a)] [] I := by
  refine h_iconst (v := 0) dX12_tellCome_0 (by decide) ?_
  refine h_istore_n (L' := [(2, .int 0), (0, .ref 87), (1, .int a)]) dX12_tellCome_1 rfl (by decide) rfl ?_
  refine h_pick [1, 2, 0] [(0, .ref 87), (1, .int a), (2, .int 0)] rfl ?_
  exact k1
set_option maxHeartbeats 1000000 in
set_option maxRecDepth 20000 in
theorem sg_X12_tellCome_2 {E : HEn} {d : Nat} {Q : Option Value → HIh → Prop} {I : HIh} {x1 : Int32} {x2 : Int32}
    (k1 : vp_in (x1 + 1) 120)
    (k2 : (I 91 ((x1 + 1).toNatClampNeg)) ≤ x2 → Q none I)
    (k3 : ¬ (I 91 ((x1 + 1).toNatClampNeg)) ≤ x2 → vp_in ((x1 + 2) + x2) 120)
    (k4 : ¬ (I 91 ((x1 + 1).toNatClampNeg)) ≤ x2 → vp_in (I 87 13) 24)
    (k5 : ¬ (I 91 ((x1 + 1).toNatClampNeg)) ≤ x2 → HGo E (mF E (d + 1) Q) me_X12_tellCome 2 [(0, .ref 87), (1, .int x1), (2, .int (x2 + 1))] [] (setI (setI I 96 (upd (I 96) (I 87 13).toNatClampNeg (I 91 (((x1 + 2) + x2).toNatClampNeg)))) 87 (upd (I 87) 13 ((I 87 13) + 1))))
    : HGo E (mF E (d + 1) Q) me_X12_tellCome 2 [(0, .ref 87), (1, .int x1), (2, .int x2)] [] I := by
  refine h_iload_n dX12_tellCome_2 rfl 2 rfl ?_
  refine h_aload_n dX12_tellCome_3 rfl 0 rfl ?_
  refine gf_10_4 dX12_tellCome_4 hl_X12_20 nl_87 zk_87 zp_87_4 ?_
  refine h_iload_n dX12_tellCome_7 rfl 1 rfl ?_
  refine h_iconst (v := 1) dX12_tellCome_8 (by decide) ?_
  refine h_iadd dX12_tellCome_9 ?_
  refine h_iald dX12_tellCome_10 nl_91 zk_91 (by rw [zn_91]; exact k1) ?_
  refine h_icmp_ge (tgt := 49) dX12_tellCome_11 (by decide) (fun c1 => ?_) (fun c1 => ?_)
  ·
    exact h_vret dX12_tellCome_49 rfl (k2 c1)
  ·
    refine h_aload_n dX12_tellCome_14 rfl 0 rfl ?_
    refine gf_10_12 dX12_tellCome_15 hl_X12_39 nl_87 zk_87 zp_87_12 ?_
    refine h_aload_n dX12_tellCome_18 rfl 0 rfl ?_
    refine gf_10_13 dX12_tellCome_19 hl_X12_147 nl_87 zk_87 ?_
    refine h_aload_n dX12_tellCome_22 rfl 0 rfl ?_
    refine gf_10_4 dX12_tellCome_23 hl_X12_20 nl_87 zk_87 zp_87_4 ?_
    refine h_iload_n dX12_tellCome_26 rfl 1 rfl ?_
    refine h_iconst (v := 2) dX12_tellCome_27 (by decide) ?_
    refine h_iadd dX12_tellCome_28 ?_
    refine h_iload_n dX12_tellCome_29 rfl 2 rfl ?_
    refine h_iadd dX12_tellCome_30 ?_
    refine h_iald dX12_tellCome_31 nl_91 zk_91 (by rw [zn_91]; exact k3 c1) ?_
    refine h_iast dX12_tellCome_32 nl_96 zk_96 (by rw [zn_96]; exact k4 c1) ?_
    refine h_aload_n dX12_tellCome_33 rfl 0 rfl ?_
    refine h_dup dX12_tellCome_34 rfl ?_
    refine gf_10_13 dX12_tellCome_35 hl_X12_147 nl_87 zk_87 ?_
    refine h_iconst (v := 1) dX12_tellCome_38 (by decide) ?_
    refine h_iadd dX12_tellCome_39 ?_
    refine pf_10_13 dX12_tellCome_40 hl_X12_147 nl_87 zk_87 ?_
    refine h_iinc (v := (x2 + 1)) (L' := [(2, .int (x2 + 1)), (0, .ref 87), (1, .int x1)]) dX12_tellCome_43 2 rfl rfl (by decide) rfl ?_
    refine h_goto (tgt := 2) dX12_tellCome_46 (by decide) ?_
    refine h_pick [1, 2, 0] [(0, .ref 87), (1, .int x1), (2, .int (x2 + 1))] rfl ?_
    exact k5 c1
set_option maxHeartbeats 1000000 in
set_option maxRecDepth 20000 in
theorem sg_X12_coin_0 {E : HEn} {d : Nat} {Q : Option Value → HIh → Prop} {I : HIh} {a : Int32} {b : Int32}
    (k1 : (0 : Int32) ≤ a → a ≤ (I 87 6) - 1 → ¬ b = 0 → ¬ b = 1 → Q (some (.int (-3))) I)
    (k2 : (0 : Int32) ≤ a → a ≤ (I 87 6) - 1 → ¬ b = 0 → b = 1 → vp_in (0 + a) 341)
    (k3 : (0 : Int32) ≤ a → a ≤ (I 87 6) - 1 → ¬ b = 0 → b = 1 → Q (some (.int (I 88 ((0 + a).toNatClampNeg)))) I)
    (k4 : (0 : Int32) ≤ a → a ≤ (I 87 6) - 1 → b = 0 → vp_in a 6)
    (k5 : (0 : Int32) ≤ a → a ≤ (I 87 6) - 1 → b = 0 → Q (some (.int (I 92 a.toNatClampNeg))) I)
    (k6 : ¬ ((0 : Int32) ≤ a ∧ a ≤ (I 87 6) - 1) → Q (some (.int (-2))) I)
    : HGo E (mF E (d + 3) Q) me_X12_coin 0 [(0, .ref 87), (1, .int a), (2, .int b)] [] I := by
  refine h_aload_n dX12_coin_0 rfl 0 rfl ?_
  refine h_iload_n dX12_coin_1 rfl 1 rfl ?_
  refine h_invV (As := [.int a]) (st := []) dX12_coin_2 lk_X12_177 (h_room (by decide)) nl_87 zk_87 (by decide) rfl rfl rfl (Nat.le_of_ble_eq_true rfl) ?_
  refine c_X12_isKind (fun c1 c2 => ?_) (fun c3 => ?_)
  ·
    refine h_if_ne (tgt := 11) dX12_coin_5 (by decide) (fun _ => ?_) (fun c => absurd c (by decide))
    refine h_iload_n dX12_coin_11 rfl 2 rfl ?_
    refine h_if_ne (tgt := 24) dX12_coin_12 (by decide) (fun c4 => ?_) (fun c4 => ?_)
    ·
      refine h_iload_n dX12_coin_24 rfl 2 rfl ?_
      refine h_iconst (v := 1) dX12_coin_25 (by decide) ?_
      refine h_icmp_ne (tgt := 40) dX12_coin_26 (by decide) (fun c5 => ?_) (fun c5 => ?_)
      ·
        refine h_bipush (v := (-3)) dX12_coin_40 (by decide) ?_
        exact h_iret dX12_coin_42 rfl (k1 c1 c2 c4 c5)
      ·
        refine h_aload_n dX12_coin_29 rfl 0 rfl ?_
        refine gf_10_0 dX12_coin_30 hl_X12_7 nl_87 zk_87 zp_87_0 ?_
        refine h_iconst (v := 0) dX12_coin_33 (by decide) ?_
        refine h_iload_n dX12_coin_34 rfl 1 rfl ?_
        refine h_iadd dX12_coin_35 ?_
        refine h_iald dX12_coin_36 nl_88 zk_88 (by rw [zn_88]; exact k2 c1 c2 c4 c5) ?_
        refine h_goto (tgt := 42) dX12_coin_37 (by decide) ?_
        exact h_iret dX12_coin_42 rfl (k3 c1 c2 c4 c5)
    ·
      refine h_aload_n dX12_coin_15 rfl 0 rfl ?_
      refine gf_10_7 dX12_coin_16 hl_X12_27 nl_87 zk_87 zp_87_7 ?_
      refine h_iload_n dX12_coin_19 rfl 1 rfl ?_
      refine h_iald dX12_coin_20 nl_92 zk_92 (by rw [zn_92]; exact k4 c1 c2 c4) ?_
      refine h_goto (tgt := 42) dX12_coin_21 (by decide) ?_
      exact h_iret dX12_coin_42 rfl (k5 c1 c2 c4)
  ·
    refine h_if_ne (tgt := 11) dX12_coin_5 (by decide) (fun c => absurd c (by decide)) (fun _ => ?_)
    refine h_bipush (v := (-2)) dX12_coin_8 (by decide) ?_
    exact h_iret dX12_coin_10 rfl (k6 c3)
set_option maxHeartbeats 1000000 in
set_option maxRecDepth 20000 in
theorem sg_X12_purse_0 {E : HEn} {d : Nat} {Q : Option Value → HIh → Prop} {I : HIh} {a : Int32} {b : Int32}
    (k1 : (0 : Int32) ≤ a → a < 4 → (0 : Int32) ≤ b → b ≤ (I 87 6) - 1 → vp_in ((6 + (6 * a)) + b) 341)
    (k2 : (0 : Int32) ≤ a → a < 4 → (0 : Int32) ≤ b → b ≤ (I 87 6) - 1 → Q (some (.int (I 88 (((6 + (6 * a)) + b).toNatClampNeg)))) I)
    (k3 : (0 : Int32) ≤ a → a < 4 → ¬ ((0 : Int32) ≤ b ∧ b ≤ (I 87 6) - 1) → Q (some (.int (-2))) I)
    (k4 : ¬ ((0 : Int32) ≤ a ∧ a < 4) → Q (some (.int (-2))) I)
    : HGo E (mF E (d + 3) Q) me_X12_purse 0 [(0, .ref 87), (1, .int a), (2, .int b)] [] I := by
  refine h_iload_n dX12_purse_0 rfl 1 rfl ?_
  refine h_invS (As := [.int a]) (st := []) dX12_purse_1 lk_X12_180 (h_room (by decide)) rfl rfl (Nat.le_of_ble_eq_true rfl) ?_
  refine c_X12_isPerson (fun c1 c2 => ?_) (fun c3 => ?_)
  ·
    refine h_if_eq (tgt := 32) dX12_purse_4 (by decide) (fun c => absurd c (by decide)) (fun _ => ?_)
    refine h_aload_n dX12_purse_7 rfl 0 rfl ?_
    refine h_iload_n dX12_purse_8 rfl 2 rfl ?_
    refine h_invV (As := [.int b]) (st := []) dX12_purse_9 lk_X12_177 (h_room (by decide)) nl_87 zk_87 (by decide) rfl rfl rfl (Nat.le_of_ble_eq_true rfl) ?_
    refine c_X12_isKind (fun c4 c5 => ?_) (fun c6 => ?_)
    ·
      refine h_if_eq (tgt := 32) dX12_purse_12 (by decide) (fun c => absurd c (by decide)) (fun _ => ?_)
      refine h_aload_n dX12_purse_15 rfl 0 rfl ?_
      refine gf_10_0 dX12_purse_16 hl_X12_7 nl_87 zk_87 zp_87_0 ?_
      refine h_bipush (v := 6) dX12_purse_19 (by decide) ?_
      refine h_bipush (v := 6) dX12_purse_21 (by decide) ?_
      refine h_iload_n dX12_purse_23 rfl 1 rfl ?_
      refine h_imul dX12_purse_24 ?_
      refine h_iadd dX12_purse_25 ?_
      refine h_iload_n dX12_purse_26 rfl 2 rfl ?_
      refine h_iadd dX12_purse_27 ?_
      refine h_iald dX12_purse_28 nl_88 zk_88 (by rw [zn_88]; exact k1 c1 c2 c4 c5) ?_
      refine h_goto (tgt := 34) dX12_purse_29 (by decide) ?_
      exact h_iret dX12_purse_34 rfl (k2 c1 c2 c4 c5)
    ·
      refine h_if_eq (tgt := 32) dX12_purse_12 (by decide) (fun _ => ?_) (fun c => absurd c (by decide))
      refine h_bipush (v := (-2)) dX12_purse_32 (by decide) ?_
      exact h_iret dX12_purse_34 rfl (k3 c1 c2 c6)
  ·
    refine h_if_eq (tgt := 32) dX12_purse_4 (by decide) (fun _ => ?_) (fun c => absurd c (by decide))
    refine h_bipush (v := (-2)) dX12_purse_32 (by decide) ?_
    exact h_iret dX12_purse_34 rfl (k4 c3)
set_option maxHeartbeats 1000000 in
set_option maxRecDepth 20000 in
theorem sg_X12_worthOf_0 {E : HEn} {d : Nat} {Q : Option Value → HIh → Prop} {I : HIh} {a : Int32} {b : Int32}
    (k1 : HGo E (mF E (d + 1) Q) me_X12_worthOf 5 [(0, .ref 87), (1, .int a), (2, .int b), (3, .int 0), (4, .int 0)] [] I)
    : HGo E (mF E (d + 1) Q) me_X12_worthOf 0 [(0, .ref 87), (1, .int a), (2, .int b)] [] I := by
  refine h_iconst (v := 0) dX12_worthOf_0 (by decide) ?_
  refine h_istore_n (L' := [(3, .int 0), (0, .ref 87), (1, .int a), (2, .int b)]) dX12_worthOf_1 rfl (by decide) rfl ?_
  refine h_iconst (v := 0) dX12_worthOf_2 (by decide) ?_
  refine h_istore (L' := [(4, .int 0), (3, .int 0), (0, .ref 87), (1, .int a), (2, .int b)]) dX12_worthOf_3 (by decide) rfl ?_
  refine h_pick [2, 3, 4, 1, 0] [(0, .ref 87), (1, .int a), (2, .int b), (3, .int 0), (4, .int 0)] rfl ?_
  exact k1
set_option maxHeartbeats 1000000 in
set_option maxRecDepth 20000 in
theorem sg_X12_worthOf_5 {E : HEn} {d : Nat} {Q : Option Value → HIh → Prop} {I : HIh} {x1 : Int32} {x2 : Int32} {x3 : Int32} {x4 : Int32}
    (k1 : (I 87 6) ≤ x4 → Q (some (.int x3)) I)
    (k2 : ¬ (I 87 6) ≤ x4 → vp_in (((x1 + 6) + (6 * x2)) + x4) 341)
    (k3 : ¬ (I 87 6) ≤ x4 → vp_in x4 6)
    (k4 : ¬ (I 87 6) ≤ x4 → HGo E (mF E (d + 1) Q) me_X12_worthOf 5 [(0, .ref 87), (1, .int x1), (2, .int x2), (3, .int (x3 + ((I 88 ((((x1 + 6) + (6 * x2)) + x4).toNatClampNeg)) * (I 92 x4.toNatClampNeg)))), (4, .int (x4 + 1))] [] I)
    : HGo E (mF E (d + 1) Q) me_X12_worthOf 5 [(0, .ref 87), (1, .int x1), (2, .int x2), (3, .int x3), (4, .int x4)] [] I := by
  refine h_iload dX12_worthOf_5 4 rfl ?_
  refine h_aload_n dX12_worthOf_7 rfl 0 rfl ?_
  refine gf_10_6 dX12_worthOf_8 hl_X12_23 nl_87 zk_87 ?_
  refine h_icmp_ge (tgt := 48) dX12_worthOf_11 (by decide) (fun c1 => ?_) (fun c1 => ?_)
  ·
    refine h_iload_n dX12_worthOf_48 rfl 3 rfl ?_
    exact h_iret dX12_worthOf_49 rfl (k1 c1)
  ·
    refine h_iload_n dX12_worthOf_14 rfl 3 rfl ?_
    refine h_aload_n dX12_worthOf_15 rfl 0 rfl ?_
    refine gf_10_0 dX12_worthOf_16 hl_X12_7 nl_87 zk_87 zp_87_0 ?_
    refine h_iload_n dX12_worthOf_19 rfl 1 rfl ?_
    refine h_bipush (v := 6) dX12_worthOf_20 (by decide) ?_
    refine h_iadd dX12_worthOf_22 ?_
    refine h_bipush (v := 6) dX12_worthOf_23 (by decide) ?_
    refine h_iload_n dX12_worthOf_25 rfl 2 rfl ?_
    refine h_imul dX12_worthOf_26 ?_
    refine h_iadd dX12_worthOf_27 ?_
    refine h_iload dX12_worthOf_28 4 rfl ?_
    refine h_iadd dX12_worthOf_30 ?_
    refine h_iald dX12_worthOf_31 nl_88 zk_88 (by rw [zn_88]; exact k2 c1) ?_
    refine h_aload_n dX12_worthOf_32 rfl 0 rfl ?_
    refine gf_10_7 dX12_worthOf_33 hl_X12_27 nl_87 zk_87 zp_87_7 ?_
    refine h_iload dX12_worthOf_36 4 rfl ?_
    refine h_iald dX12_worthOf_38 nl_92 zk_92 (by rw [zn_92]; exact k3 c1) ?_
    refine h_imul dX12_worthOf_39 ?_
    refine h_iadd dX12_worthOf_40 ?_
    refine h_istore_n (L' := [(3, .int (x3 + ((I 88 ((((x1 + 6) + (6 * x2)) + x4).toNatClampNeg)) * (I 92 x4.toNatClampNeg)))), (0, .ref 87), (1, .int x1), (2, .int x2), (4, .int x4)]) dX12_worthOf_41 rfl (by decide) rfl ?_
    refine h_iinc (v := (x4 + 1)) (L' := [(4, .int (x4 + 1)), (3, .int (x3 + ((I 88 ((((x1 + 6) + (6 * x2)) + x4).toNatClampNeg)) * (I 92 x4.toNatClampNeg)))), (0, .ref 87), (1, .int x1), (2, .int x2)]) dX12_worthOf_42 4 rfl rfl (by decide) rfl ?_
    refine h_goto (tgt := 5) dX12_worthOf_45 (by decide) ?_
    refine h_pick [2, 3, 4, 1, 0] [(0, .ref 87), (1, .int x1), (2, .int x2), (3, .int (x3 + ((I 88 ((((x1 + 6) + (6 * x2)) + x4).toNatClampNeg)) * (I 92 x4.toNatClampNeg)))), (4, .int (x4 + 1))] rfl ?_
    exact k4 c1
set_option maxHeartbeats 1000000 in
set_option maxRecDepth 20000 in
theorem sg_X12_leftOf_0 {E : HEn} {d : Nat} {Q : Option Value → HIh → Prop} {I : HIh} {a : Int32}
    (k1 : HGo E (mF E (d + 2) Q) me_X12_leftOf 10 [(0, .ref 87), (1, .int a), (2, .int 0), (3, .int (I 88 30))] [] I)
    : HGo E (mF E (d + 2) Q) me_X12_leftOf 0 [(0, .ref 87), (1, .int a)] [] I := by
  refine h_iconst (v := 0) dX12_leftOf_0 (by decide) ?_
  refine h_istore_n (L' := [(2, .int 0), (0, .ref 87), (1, .int a)]) dX12_leftOf_1 rfl (by decide) rfl ?_
  refine h_aload_n dX12_leftOf_2 rfl 1 rfl ?_
  refine gf_10_0 dX12_leftOf_3 hl_X12_7 nl_87 zk_87 zp_87_0 ?_
  refine h_bipush (v := 30) dX12_leftOf_6 (by decide) ?_
  refine h_iald dX12_leftOf_8 nl_88 zk_88 (vp_lit (by rw [zn_88]; decide)) ?_
  refine h_istore_n (L' := [(3, .int (I 88 30)), (2, .int 0), (0, .ref 87), (1, .int a)]) dX12_leftOf_9 rfl (by decide) rfl ?_
  refine h_pick [2, 3, 1, 0] [(0, .ref 87), (1, .int a), (2, .int 0), (3, .int (I 88 30))] rfl ?_
  exact k1
set_option maxHeartbeats 1000000 in
set_option maxRecDepth 20000 in
theorem sg_X12_leftOf_10 {E : HEn} {d : Nat} {Q : Option Value → HIh → Prop} {I : HIh} {x1 : Int32} {x2 : Int32} {x3 : Int32}
    (k1 : (I 87 13) ≤ x3 → Q (some (.int x2)) I)
    (k2 : ¬ (I 87 13) ≤ x3 → vp_in x3 24)
    (k3 : ¬ (I 87 13) ≤ x3 → (x1 >>> ((I 96 x3.toNatClampNeg) &&& 31)) &&& 1 = 1 → HGo E (mF E (d + 2) Q) me_X12_leftOf 10 [(0, .ref 87), (1, .int x1), (2, .int (x2 + 1)), (3, .int (x3 + 1))] [] I)
    (k4 : ¬ (I 87 13) ≤ x3 → ¬ (x1 >>> ((I 96 x3.toNatClampNeg) &&& 31)) &&& 1 = 1 → HGo E (mF E (d + 2) Q) me_X12_leftOf 10 [(0, .ref 87), (1, .int x1), (2, .int (x2 + 0)), (3, .int (x3 + 1))] [] I)
    : HGo E (mF E (d + 2) Q) me_X12_leftOf 10 [(0, .ref 87), (1, .int x1), (2, .int x2), (3, .int x3)] [] I := by
  refine h_iload_n dX12_leftOf_10 rfl 3 rfl ?_
  refine h_aload_n dX12_leftOf_11 rfl 0 rfl ?_
  refine gf_10_13 dX12_leftOf_12 hl_X12_147 nl_87 zk_87 ?_
  refine h_icmp_ge (tgt := 45) dX12_leftOf_15 (by decide) (fun c1 => ?_) (fun c1 => ?_)
  ·
    refine h_iload_n dX12_leftOf_45 rfl 2 rfl ?_
    exact h_iret dX12_leftOf_46 rfl (k1 c1)
  ·
    refine h_iload_n dX12_leftOf_18 rfl 2 rfl ?_
    refine h_iload_n dX12_leftOf_19 rfl 1 rfl ?_
    refine h_aload_n dX12_leftOf_20 rfl 0 rfl ?_
    refine gf_10_12 dX12_leftOf_21 hl_X12_39 nl_87 zk_87 zp_87_12 ?_
    refine h_iload_n dX12_leftOf_24 rfl 3 rfl ?_
    refine h_iald dX12_leftOf_25 nl_96 zk_96 (by rw [zn_96]; exact k2 c1) ?_
    refine h_invS (As := [.int x1, .int (I 96 x3.toNatClampNeg)]) (st := [.int x2]) dX12_leftOf_26 lk_X12_183 (h_room (by decide)) rfl rfl (Nat.le_of_ble_eq_true rfl) ?_
    refine c_X12_has (fun c2 => ?_) (fun c3 => ?_)
    ·
      refine h_if_eq (tgt := 36) dX12_leftOf_29 (by decide) (fun c => absurd c (by decide)) (fun _ => ?_)
      refine h_iconst (v := 1) dX12_leftOf_32 (by decide) ?_
      refine h_goto (tgt := 37) dX12_leftOf_33 (by decide) ?_
      refine h_iadd dX12_leftOf_37 ?_
      refine h_istore_n (L' := [(2, .int (x2 + 1)), (0, .ref 87), (1, .int x1), (3, .int x3)]) dX12_leftOf_38 rfl (by decide) rfl ?_
      refine h_iinc (v := (x3 + 1)) (L' := [(3, .int (x3 + 1)), (2, .int (x2 + 1)), (0, .ref 87), (1, .int x1)]) dX12_leftOf_39 3 rfl rfl (by decide) rfl ?_
      refine h_goto (tgt := 10) dX12_leftOf_42 (by decide) ?_
      refine h_pick [2, 3, 1, 0] [(0, .ref 87), (1, .int x1), (2, .int (x2 + 1)), (3, .int (x3 + 1))] rfl ?_
      exact k3 c1 c2
    ·
      refine h_if_eq (tgt := 36) dX12_leftOf_29 (by decide) (fun _ => ?_) (fun c => absurd c (by decide))
      refine h_iconst (v := 0) dX12_leftOf_36 (by decide) ?_
      refine h_iadd dX12_leftOf_37 ?_
      refine h_istore_n (L' := [(2, .int (x2 + 0)), (0, .ref 87), (1, .int x1), (3, .int x3)]) dX12_leftOf_38 rfl (by decide) rfl ?_
      refine h_iinc (v := (x3 + 1)) (L' := [(3, .int (x3 + 1)), (2, .int (x2 + 0)), (0, .ref 87), (1, .int x1)]) dX12_leftOf_39 3 rfl rfl (by decide) rfl ?_
      refine h_goto (tgt := 10) dX12_leftOf_42 (by decide) ?_
      refine h_pick [2, 3, 1, 0] [(0, .ref 87), (1, .int x1), (2, .int (x2 + 0)), (3, .int (x3 + 1))] rfl ?_
      exact k4 c1 c3
set_option maxHeartbeats 1000000 in
set_option maxRecDepth 20000 in
theorem sg_X12_layTakes_0 {E : HEn} {d : Nat} {Q : Option Value → HIh → Prop} {I : HIh} {a : Int32} {b : Int32}
    (k1 : HGo E (mF E (d + 1) Q) me_X12_layTakes 8 [(0, .ref 87), (1, .int a), (2, .int b), (3, .int 0), (4, .int (-1)), (5, .int 0)] [] I)
    : HGo E (mF E (d + 1) Q) me_X12_layTakes 0 [(0, .ref 87), (1, .int a), (2, .int b)] [] I := by
  refine h_iconst (v := 0) dX12_layTakes_0 (by decide) ?_
  refine h_istore_n (L' := [(3, .int 0), (0, .ref 87), (1, .int a), (2, .int b)]) dX12_layTakes_1 rfl (by decide) rfl ?_
  refine h_iconst (v := (-1)) dX12_layTakes_2 (by decide) ?_
  refine h_istore (L' := [(4, .int (-1)), (3, .int 0), (0, .ref 87), (1, .int a), (2, .int b)]) dX12_layTakes_3 (by decide) rfl ?_
  refine h_iconst (v := 0) dX12_layTakes_5 (by decide) ?_
  refine h_istore (L' := [(5, .int 0), (4, .int (-1)), (3, .int 0), (0, .ref 87), (1, .int a), (2, .int b)]) dX12_layTakes_6 (by decide) rfl ?_
  refine h_pick [3, 4, 5, 2, 1, 0] [(0, .ref 87), (1, .int a), (2, .int b), (3, .int 0), (4, .int (-1)), (5, .int 0)] rfl ?_
  exact k1
set_option maxHeartbeats 1000000 in
set_option maxRecDepth 20000 in
theorem sg_X12_layTakes_8 {E : HEn} {d : Nat} {Q : Option Value → HIh → Prop} {I : HIh} {x1 : Int32} {x2 : Int32} {x3 : Int32} {x4 : Int32} {x5 : Int32}
    (k1 : (I 87 6) ≤ x5 → HGo E (mF E (d + 1) Q) me_X12_layTakes 55 [(0, .ref 87), (1, .int x1), (2, .int x2), (3, .int x3), (4, .int x4), (5, .int 0)] [] I)
    (k2 : ¬ (I 87 6) ≤ x5 → x2 ≤ x5 → HGo E (mF E (d + 1) Q) me_X12_layTakes 8 [(0, .ref 87), (1, .int x1), (2, .int x2), (3, .int x3), (4, .int x4), (5, .int (x5 + 1))] [] I)
    (k3 : ¬ (I 87 6) ≤ x5 → ¬ x2 ≤ x5 → vp_in ((x1 + 0) + x5) 341)
    (k4 : ¬ (I 87 6) ≤ x5 → ¬ x2 ≤ x5 → (I 88 (((x1 + 0) + x5).toNatClampNeg)) ≤ 0 → HGo E (mF E (d + 1) Q) me_X12_layTakes 8 [(0, .ref 87), (1, .int x1), (2, .int x2), (3, .int x3), (4, .int x4), (5, .int (x5 + 1))] [] I)
    (k5 : ¬ (I 87 6) ≤ x5 → ¬ x2 ≤ x5 → ¬ (I 88 (((x1 + 0) + x5).toNatClampNeg)) ≤ 0 → HGo E (mF E (d + 1) Q) me_X12_layTakes 8 [(0, .ref 87), (1, .int x1), (2, .int x2), (3, .int x3), (4, .int x5), (5, .int (x5 + 1))] [] I)
    : HGo E (mF E (d + 1) Q) me_X12_layTakes 8 [(0, .ref 87), (1, .int x1), (2, .int x2), (3, .int x3), (4, .int x4), (5, .int x5)] [] I := by
  refine h_iload dX12_layTakes_8 5 rfl ?_
  refine h_aload_n dX12_layTakes_10 rfl 0 rfl ?_
  refine gf_10_6 dX12_layTakes_11 hl_X12_23 nl_87 zk_87 ?_
  refine h_icmp_ge (tgt := 52) dX12_layTakes_14 (by decide) (fun c1 => ?_) (fun c1 => ?_)
  ·
    refine h_iconst (v := 0) dX12_layTakes_52 (by decide) ?_
    refine h_istore (L' := [(5, .int 0), (0, .ref 87), (1, .int x1), (2, .int x2), (3, .int x3), (4, .int x4)]) dX12_layTakes_53 (by decide) rfl ?_
    refine h_pick [1, 2, 3, 4, 5, 0] [(0, .ref 87), (1, .int x1), (2, .int x2), (3, .int x3), (4, .int x4), (5, .int 0)] rfl ?_
    exact k1 c1
  ·
    refine h_iload dX12_layTakes_17 5 rfl ?_
    refine h_iload_n dX12_layTakes_19 rfl 2 rfl ?_
    refine h_icmp_ge (tgt := 42) dX12_layTakes_20 (by decide) (fun c2 => ?_) (fun c2 => ?_)
    ·
      refine h_iload dX12_layTakes_42 4 rfl ?_
      refine h_istore (L' := [(4, .int x4), (0, .ref 87), (1, .int x1), (2, .int x2), (3, .int x3), (5, .int x5)]) dX12_layTakes_44 (by decide) rfl ?_
      refine h_iinc (v := (x5 + 1)) (L' := [(5, .int (x5 + 1)), (4, .int x4), (0, .ref 87), (1, .int x1), (2, .int x2), (3, .int x3)]) dX12_layTakes_46 5 rfl rfl (by decide) rfl ?_
      refine h_goto (tgt := 8) dX12_layTakes_49 (by decide) ?_
      refine h_pick [2, 3, 4, 5, 1, 0] [(0, .ref 87), (1, .int x1), (2, .int x2), (3, .int x3), (4, .int x4), (5, .int (x5 + 1))] rfl ?_
      exact k2 c1 c2
    ·
      refine h_aload_n dX12_layTakes_23 rfl 0 rfl ?_
      refine gf_10_0 dX12_layTakes_24 hl_X12_7 nl_87 zk_87 zp_87_0 ?_
      refine h_iload_n dX12_layTakes_27 rfl 1 rfl ?_
      refine h_iconst (v := 0) dX12_layTakes_28 (by decide) ?_
      refine h_iadd dX12_layTakes_29 ?_
      refine h_iload dX12_layTakes_30 5 rfl ?_
      refine h_iadd dX12_layTakes_32 ?_
      refine h_iald dX12_layTakes_33 nl_88 zk_88 (by rw [zn_88]; exact k3 c1 c2) ?_
      refine h_if_le (tgt := 42) dX12_layTakes_34 (by decide) (fun c3 => ?_) (fun c3 => ?_)
      ·
        refine h_iload dX12_layTakes_42 4 rfl ?_
        refine h_istore (L' := [(4, .int x4), (0, .ref 87), (1, .int x1), (2, .int x2), (3, .int x3), (5, .int x5)]) dX12_layTakes_44 (by decide) rfl ?_
        refine h_iinc (v := (x5 + 1)) (L' := [(5, .int (x5 + 1)), (4, .int x4), (0, .ref 87), (1, .int x1), (2, .int x2), (3, .int x3)]) dX12_layTakes_46 5 rfl rfl (by decide) rfl ?_
        refine h_goto (tgt := 8) dX12_layTakes_49 (by decide) ?_
        refine h_pick [2, 3, 4, 5, 1, 0] [(0, .ref 87), (1, .int x1), (2, .int x2), (3, .int x3), (4, .int x4), (5, .int (x5 + 1))] rfl ?_
        exact k4 c1 c2 c3
      ·
        refine h_iload dX12_layTakes_37 5 rfl ?_
        refine h_goto (tgt := 44) dX12_layTakes_39 (by decide) ?_
        refine h_istore (L' := [(4, .int x5), (0, .ref 87), (1, .int x1), (2, .int x2), (3, .int x3), (5, .int x5)]) dX12_layTakes_44 (by decide) rfl ?_
        refine h_iinc (v := (x5 + 1)) (L' := [(5, .int (x5 + 1)), (4, .int x5), (0, .ref 87), (1, .int x1), (2, .int x2), (3, .int x3)]) dX12_layTakes_46 5 rfl rfl (by decide) rfl ?_
        refine h_goto (tgt := 8) dX12_layTakes_49 (by decide) ?_
        refine h_pick [2, 3, 4, 5, 1, 0] [(0, .ref 87), (1, .int x1), (2, .int x2), (3, .int x3), (4, .int x5), (5, .int (x5 + 1))] rfl ?_
        exact k5 c1 c2 c3
set_option maxHeartbeats 1000000 in
set_option maxRecDepth 20000 in
theorem sg_X12_layTakes_55 {E : HEn} {d : Nat} {Q : Option Value → HIh → Prop} {I : HIh} {x1 : Int32} {x2 : Int32} {x3 : Int32} {x4 : Int32} {x5 : Int32}
    (k1 : (I 87 6) ≤ x5 → Q (some (.int x3)) I)
    (k2 : ¬ (I 87 6) ≤ x5 → vp_in ((x1 + 0) + x5) 341)
    (k3 : ¬ (I 87 6) ≤ x5 → ¬ (I 87 11) = 0 → ¬ (I 87 11) = 1 → x5 = x4 → ¬ (I 87 11) = 2 → HGo E (mF E (d + 1) Q) me_X12_layTakes 153 [(0, .ref 87), (1, .int x1), (2, .int x2), (3, .int x3), (4, .int x4), (5, .int x5)] [.int (I 88 (((x1 + 0) + x5).toNatClampNeg)), .int x5, .ref 97] I)
    (k4 : ¬ (I 87 6) ≤ x5 → ¬ (I 87 11) = 0 → ¬ (I 87 11) = 1 → x5 = x4 → (I 87 11) = 2 → HGo E (mF E (d + 1) Q) me_X12_layTakes 153 [(0, .ref 87), (1, .int x1), (2, .int x2), (3, .int x3), (4, .int x4), (5, .int x5)] [.int 1, .int x5, .ref 97] I)
    (k5 : ¬ (I 87 6) ≤ x5 → ¬ (I 87 11) = 0 → ¬ (I 87 11) = 1 → ¬ x5 = x4 → HGo E (mF E (d + 1) Q) me_X12_layTakes 153 [(0, .ref 87), (1, .int x1), (2, .int x2), (3, .int x3), (4, .int x4), (5, .int x5)] [.int 0, .int x5, .ref 97] I)
    (k6 : ¬ (I 87 6) ≤ x5 → ¬ (I 87 11) = 0 → (I 87 11) = 1 → x2 < x5 → HGo E (mF E (d + 1) Q) me_X12_layTakes 153 [(0, .ref 87), (1, .int x1), (2, .int x2), (3, .int x3), (4, .int x4), (5, .int x5)] [.int 0, .int x5, .ref 97] I)
    (k7 : ¬ (I 87 6) ≤ x5 → ¬ (I 87 11) = 0 → (I 87 11) = 1 → ¬ x2 < x5 → HGo E (mF E (d + 1) Q) me_X12_layTakes 153 [(0, .ref 87), (1, .int x1), (2, .int x2), (3, .int x3), (4, .int x4), (5, .int x5)] [.int (I 88 (((x1 + 0) + x5).toNatClampNeg)), .int x5, .ref 97] I)
    (k8 : ¬ (I 87 6) ≤ x5 → (I 87 11) = 0 → x2 ≤ x5 → HGo E (mF E (d + 1) Q) me_X12_layTakes 153 [(0, .ref 87), (1, .int x1), (2, .int x2), (3, .int x3), (4, .int x4), (5, .int x5)] [.int 0, .int x5, .ref 97] I)
    (k9 : ¬ (I 87 6) ≤ x5 → (I 87 11) = 0 → ¬ x2 ≤ x5 → HGo E (mF E (d + 1) Q) me_X12_layTakes 153 [(0, .ref 87), (1, .int x1), (2, .int x2), (3, .int x3), (4, .int x4), (5, .int x5)] [.int (I 88 (((x1 + 0) + x5).toNatClampNeg)), .int x5, .ref 97] I)
    : HGo E (mF E (d + 1) Q) me_X12_layTakes 55 [(0, .ref 87), (1, .int x1), (2, .int x2), (3, .int x3), (4, .int x4), (5, .int x5)] [] I := by
  refine h_iload dX12_layTakes_55 5 rfl ?_
  refine h_aload_n dX12_layTakes_57 rfl 0 rfl ?_
  refine gf_10_6 dX12_layTakes_58 hl_X12_23 nl_87 zk_87 ?_
  refine h_icmp_ge (tgt := 178) dX12_layTakes_61 (by decide) (fun c1 => ?_) (fun c1 => ?_)
  ·
    refine h_iload_n dX12_layTakes_178 rfl 3 rfl ?_
    exact h_iret dX12_layTakes_179 rfl (k1 c1)
  ·
    refine h_aload_n dX12_layTakes_64 rfl 0 rfl ?_
    refine gf_10_0 dX12_layTakes_65 hl_X12_7 nl_87 zk_87 zp_87_0 ?_
    refine h_iload_n dX12_layTakes_68 rfl 1 rfl ?_
    refine h_iconst (v := 0) dX12_layTakes_69 (by decide) ?_
    refine h_iadd dX12_layTakes_70 ?_
    refine h_iload dX12_layTakes_71 5 rfl ?_
    refine h_iadd dX12_layTakes_73 ?_
    refine h_iald dX12_layTakes_74 nl_88 zk_88 (by rw [zn_88]; exact k2 c1) ?_
    refine h_istore (L' := [(6, .int (I 88 (((x1 + 0) + x5).toNatClampNeg))), (0, .ref 87), (1, .int x1), (2, .int x2), (3, .int x3), (4, .int x4), (5, .int x5)]) dX12_layTakes_75 (by decide) rfl ?_
    refine h_aload_n dX12_layTakes_77 rfl 1 rfl ?_
    refine gf_10_19 dX12_layTakes_78 hl_X12_42 nl_87 zk_87 zp_87_19 ?_
    refine h_iload dX12_layTakes_81 6 rfl ?_
    refine h_aload_n dX12_layTakes_83 rfl 1 rfl ?_
    refine gf_10_11 dX12_layTakes_84 hl_X12_160 nl_87 zk_87 ?_
    refine h_if_ne (tgt := 105) dX12_layTakes_87 (by decide) (fun c2 => ?_) (fun c2 => ?_)
    ·
      refine h_aload_n dX12_layTakes_105 rfl 1 rfl ?_
      refine gf_10_11 dX12_layTakes_106 hl_X12_160 nl_87 zk_87 ?_
      refine h_iconst (v := 1) dX12_layTakes_109 (by decide) ?_
      refine h_icmp_ne (tgt := 128) dX12_layTakes_110 (by decide) (fun c3 => ?_) (fun c3 => ?_)
      ·
        refine h_iload dX12_layTakes_128 6 rfl ?_
        refine h_iload dX12_layTakes_130 5 rfl ?_
        refine h_icmp_eq (tgt := 139) dX12_layTakes_132 (by decide) (fun c4 => ?_) (fun c4 => ?_)
        ·
          refine h_aload_n dX12_layTakes_139 rfl 1 rfl ?_
          refine gf_10_11 dX12_layTakes_140 hl_X12_160 nl_87 zk_87 ?_
          refine h_iconst (v := 2) dX12_layTakes_143 (by decide) ?_
          refine h_icmp_ne (tgt := 151) dX12_layTakes_144 (by decide) (fun c5 => ?_) (fun c5 => ?_)
          ·
            refine h_iload dX12_layTakes_151 0 rfl ?_
            refine h_pick [1, 2, 3, 4, 5, 6] [(0, .ref 87), (1, .int x1), (2, .int x2), (3, .int x3), (4, .int x4), (5, .int x5)] rfl ?_
            exact k3 c1 c2 c3 c4 c5
          ·
            refine h_iconst (v := 1) dX12_layTakes_147 (by decide) ?_
            refine h_goto (tgt := 153) dX12_layTakes_148 (by decide) ?_
            refine h_pick [1, 2, 3, 4, 5, 6] [(0, .ref 87), (1, .int x1), (2, .int x2), (3, .int x3), (4, .int x4), (5, .int x5)] rfl ?_
            exact k4 c1 c2 c3 c4 c5
        ·
          refine h_iconst (v := 0) dX12_layTakes_135 (by decide) ?_
          refine h_goto (tgt := 153) dX12_layTakes_136 (by decide) ?_
          refine h_pick [1, 2, 3, 4, 5, 6] [(0, .ref 87), (1, .int x1), (2, .int x2), (3, .int x3), (4, .int x4), (5, .int x5)] rfl ?_
          exact k5 c1 c2 c3 c4
      ·
        refine h_iload dX12_layTakes_113 6 rfl ?_
        refine h_iload_n dX12_layTakes_115 rfl 3 rfl ?_
        refine h_icmp_gt (tgt := 124) dX12_layTakes_116 (by decide) (fun c6 => ?_) (fun c6 => ?_)
        ·
          refine h_iconst (v := 0) dX12_layTakes_124 (by decide) ?_
          refine h_goto (tgt := 153) dX12_layTakes_125 (by decide) ?_
          refine h_pick [1, 2, 3, 4, 5, 6] [(0, .ref 87), (1, .int x1), (2, .int x2), (3, .int x3), (4, .int x4), (5, .int x5)] rfl ?_
          exact k6 c1 c2 c3 c6
        ·
          refine h_iload dX12_layTakes_119 0 rfl ?_
          refine h_goto (tgt := 153) dX12_layTakes_121 (by decide) ?_
          refine h_pick [1, 2, 3, 4, 5, 6] [(0, .ref 87), (1, .int x1), (2, .int x2), (3, .int x3), (4, .int x4), (5, .int x5)] rfl ?_
          exact k7 c1 c2 c3 c6
    ·
      refine h_iload dX12_layTakes_90 6 rfl ?_
      refine h_iload_n dX12_layTakes_92 rfl 3 rfl ?_
      refine h_icmp_ge (tgt := 101) dX12_layTakes_93 (by decide) (fun c7 => ?_) (fun c7 => ?_)
      ·
        refine h_iconst (v := 0) dX12_layTakes_101 (by decide) ?_
        refine h_goto (tgt := 153) dX12_layTakes_102 (by decide) ?_
        refine h_pick [1, 2, 3, 4, 5, 6] [(0, .ref 87), (1, .int x1), (2, .int x2), (3, .int x3), (4, .int x4), (5, .int x5)] rfl ?_
        exact k8 c1 c2 c7
      ·
        refine h_iload dX12_layTakes_96 0 rfl ?_
        refine h_goto (tgt := 153) dX12_layTakes_98 (by decide) ?_
        refine h_pick [1, 2, 3, 4, 5, 6] [(0, .ref 87), (1, .int x1), (2, .int x2), (3, .int x3), (4, .int x4), (5, .int x5)] rfl ?_
        exact k9 c1 c2 c7
set_option maxHeartbeats 1000000 in
set_option maxRecDepth 20000 in
theorem sg_X12_layTakes_153 {E : HEn} {d : Nat} {Q : Option Value → HIh → Prop} {I : HIh} {x1 : Int32} {x2 : Int32} {x3 : Int32} {x4 : Int32} {x5 : Int32} {s0 : Int32} {s1 : Int32}
    (k1 : vp_in s1 6)
    (k2 : vp_in x5 6)
    (k3 : HGo E (mF E (d + 1) Q) me_X12_layTakes 55 [(0, .ref 87), (1, .int x1), (2, .int x2), (3, .int (x3 + (((upd (I 97) s1.toNatClampNeg s0) x5.toNatClampNeg) * (I 92 x5.toNatClampNeg)))), (4, .int x4), (5, .int (x5 + 1))] [] (setI I 97 (upd (I 97) s1.toNatClampNeg s0)))
    : HGo E (mF E (d + 1) Q) me_X12_layTakes 153 [(0, .ref 87), (1, .int x1), (2, .int x2), (3, .int x3), (4, .int x4), (5, .int x5)] [.int s0, .int s1, .ref 97] I := by
  refine h_iast dX12_layTakes_153 nl_97 zk_97 (by rw [zn_97]; exact k1) ?_
  refine h_iload_n dX12_layTakes_154 rfl 3 rfl ?_
  refine h_aload_n dX12_layTakes_155 rfl 0 rfl ?_
  refine gf_10_19 dX12_layTakes_156 hl_X12_42 nl_87 zk_87 zp_87_19 ?_
  refine h_iload dX12_layTakes_159 5 rfl ?_
  refine h_iald dX12_layTakes_161 nl_97 zk_97 (by rw [zn_97]; exact k2) ?_
  refine h_aload_n dX12_layTakes_162 rfl 0 rfl ?_
  refine gf_10_7 dX12_layTakes_163 hl_X12_27 nl_87 zk_87 zp_87_7 ?_
  refine h_iload dX12_layTakes_166 5 rfl ?_
  refine h_iald dX12_layTakes_168 nl_92 zk_92 (by rw [zn_92]; exact k2) ?_
  refine h_imul dX12_layTakes_169 ?_
  refine h_iadd dX12_layTakes_170 ?_
  refine h_istore_n (L' := [(3, .int (x3 + (((upd (I 97) s1.toNatClampNeg s0) x5.toNatClampNeg) * (I 92 x5.toNatClampNeg)))), (0, .ref 87), (1, .int x1), (2, .int x2), (4, .int x4), (5, .int x5)]) dX12_layTakes_171 rfl (by decide) rfl ?_
  refine h_iinc (v := (x5 + 1)) (L' := [(5, .int (x5 + 1)), (3, .int (x3 + (((upd (I 97) s1.toNatClampNeg s0) x5.toNatClampNeg) * (I 92 x5.toNatClampNeg)))), (0, .ref 87), (1, .int x1), (2, .int x2), (4, .int x4)]) dX12_layTakes_172 5 rfl rfl (by decide) rfl ?_
  refine h_goto (tgt := 55) dX12_layTakes_175 (by decide) ?_
  refine h_pick [2, 3, 4, 1, 5, 0] [(0, .ref 87), (1, .int x1), (2, .int x2), (3, .int (x3 + (((upd (I 97) s1.toNatClampNeg s0) x5.toNatClampNeg) * (I 92 x5.toNatClampNeg)))), (4, .int x4), (5, .int (x5 + 1))] rfl ?_
  exact k3
set_option maxHeartbeats 1000000 in
set_option maxRecDepth 20000 in
theorem sg_X12_isHad_0 {E : HEn} {d : Nat} {Q : Option Value → HIh → Prop} {I : HIh} {a : Int32} {b : Int32} {e : Int32}
    (k1 : vp_in (((a + 6) + (6 * b)) + e) 341)
    (k2 : (I 88 ((((a + 6) + (6 * b)) + e).toNatClampNeg)) ≤ 0 → Q (some (.int 0)) I)
    (k3 : ¬ (I 88 ((((a + 6) + (6 * b)) + e).toNatClampNeg)) ≤ 0 → Q (some (.int 1)) I)
    : HGo E (mF E (d + 1) Q) me_X12_isHad 0 [(0, .ref 87), (1, .int a), (2, .int b), (3, .int e)] [] I := by
  refine h_aload_n dX12_isHad_0 rfl 0 rfl ?_
  refine gf_10_0 dX12_isHad_1 hl_X12_7 nl_87 zk_87 zp_87_0 ?_
  refine h_iload_n dX12_isHad_4 rfl 1 rfl ?_
  refine h_bipush (v := 6) dX12_isHad_5 (by decide) ?_
  refine h_iadd dX12_isHad_7 ?_
  refine h_bipush (v := 6) dX12_isHad_8 (by decide) ?_
  refine h_iload_n dX12_isHad_10 rfl 2 rfl ?_
  refine h_imul dX12_isHad_11 ?_
  refine h_iadd dX12_isHad_12 ?_
  refine h_iload_n dX12_isHad_13 rfl 3 rfl ?_
  refine h_iadd dX12_isHad_14 ?_
  refine h_iald dX12_isHad_15 nl_88 zk_88 (by rw [zn_88]; exact k1) ?_
  refine h_if_le (tgt := 23) dX12_isHad_16 (by decide) (fun c1 => ?_) (fun c1 => ?_)
  ·
    refine h_iconst (v := 0) dX12_isHad_23 (by decide) ?_
    exact h_zret dX12_isHad_24 rfl rfl (k2 c1)
  ·
    refine h_iconst (v := 1) dX12_isHad_19 (by decide) ?_
    refine h_goto (tgt := 24) dX12_isHad_20 (by decide) ?_
    exact h_zret dX12_isHad_24 rfl rfl (k3 c1)
set_option maxHeartbeats 1000000 in
set_option maxRecDepth 20000 in
theorem sg_X12_come_0 {E : HEn} {d : Nat} {Q : Option Value → HIh → Prop} {I : HIh} {a : Int32}
    (k1 : 0 ≤ a → (I 87 13) ≤ a → Q (some (.int (-1))) I)
    (k2 : 0 ≤ a → ¬ (I 87 13) ≤ a → vp_in a 24)
    (k3 : 0 ≤ a → ¬ (I 87 13) ≤ a → Q (some (.int (I 96 a.toNatClampNeg))) I)
    (k4 : ¬ 0 ≤ a → Q (some (.int (-3))) I)
    : HGo E (mF E (d + 1) Q) me_X12_come 0 [(0, .ref 87), (1, .int a)] [] I := by
  refine h_iload_n dX12_come_0 rfl 1 rfl ?_
  refine h_if_ge (tgt := 9) dX12_come_1 (by decide) (fun c1 => ?_) (fun c1 => ?_)
  ·
    refine h_iload_n dX12_come_9 rfl 1 rfl ?_
    refine h_aload_n dX12_come_10 rfl 0 rfl ?_
    refine gf_10_13 dX12_come_11 hl_X12_147 nl_87 zk_87 ?_
    refine h_icmp_ge (tgt := 26) dX12_come_14 (by decide) (fun c2 => ?_) (fun c2 => ?_)
    ·
      refine h_iconst (v := (-1)) dX12_come_26 (by decide) ?_
      exact h_iret dX12_come_27 rfl (k1 c1 c2)
    ·
      refine h_aload_n dX12_come_17 rfl 0 rfl ?_
      refine gf_10_12 dX12_come_18 hl_X12_39 nl_87 zk_87 zp_87_12 ?_
      refine h_iload_n dX12_come_21 rfl 1 rfl ?_
      refine h_iald dX12_come_22 nl_96 zk_96 (by rw [zn_96]; exact k2 c1 c2) ?_
      refine h_goto (tgt := 27) dX12_come_23 (by decide) ?_
      exact h_iret dX12_come_27 rfl (k3 c1 c2)
  ·
    refine h_bipush (v := (-3)) dX12_come_4 (by decide) ?_
    refine h_goto (tgt := 27) dX12_come_6 (by decide) ?_
    exact h_iret dX12_come_27 rfl (k4 c1)
set_option maxHeartbeats 1000000 in
set_option maxRecDepth 20000 in
theorem sg_X12_copy_0 {E : HEn} {d : Nat} {Q : Option Value → HIh → Prop} {I : HIh} {a : Int32} {b : Int32}
    (k1 : HGo E (mF E (d + 1) Q) me_X12_copy 2 [(0, .ref 87), (1, .int a), (2, .int b), (3, .int 0)] [] I)
    : HGo E (mF E (d + 1) Q) me_X12_copy 0 [(0, .ref 87), (1, .int a), (2, .int b)] [] I := by
  refine h_iconst (v := 0) dX12_copy_0 (by decide) ?_
  refine h_istore_n (L' := [(3, .int 0), (0, .ref 87), (1, .int a), (2, .int b)]) dX12_copy_1 rfl (by decide) rfl ?_
  refine h_pick [1, 2, 3, 0] [(0, .ref 87), (1, .int a), (2, .int b), (3, .int 0)] rfl ?_
  exact k1
set_option maxHeartbeats 1000000 in
set_option maxRecDepth 20000 in
theorem sg_X12_copy_2 {E : HEn} {d : Nat} {Q : Option Value → HIh → Prop} {I : HIh} {x1 : Int32} {x2 : Int32} {x3 : Int32}
    (k1 : 31 ≤ x3 → Q none I)
    (k2 : ¬ 31 ≤ x3 → vp_in ((31 * x1) + x3) 341)
    (k3 : ¬ 31 ≤ x3 → vp_in ((31 * x2) + x3) 341)
    (k4 : ¬ 31 ≤ x3 → HGo E (mF E (d + 1) Q) me_X12_copy 2 [(0, .ref 87), (1, .int x1), (2, .int x2), (3, .int (x3 + 1))] [] (setI I 88 (upd (I 88) ((31 * x2) + x3).toNatClampNeg (I 88 (((31 * x1) + x3).toNatClampNeg)))))
    : HGo E (mF E (d + 1) Q) me_X12_copy 2 [(0, .ref 87), (1, .int x1), (2, .int x2), (3, .int x3)] [] I := by
  refine h_iload_n dX12_copy_2 rfl 3 rfl ?_
  refine h_bipush (v := 31) dX12_copy_3 (by decide) ?_
  refine h_icmp_ge (tgt := 36) dX12_copy_5 (by decide) (fun c1 => ?_) (fun c1 => ?_)
  ·
    exact h_vret dX12_copy_36 rfl (k1 c1)
  ·
    refine h_aload_n dX12_copy_8 rfl 0 rfl ?_
    refine gf_10_0 dX12_copy_9 hl_X12_7 nl_87 zk_87 zp_87_0 ?_
    refine h_bipush (v := 31) dX12_copy_12 (by decide) ?_
    refine h_iload_n dX12_copy_14 rfl 2 rfl ?_
    refine h_imul dX12_copy_15 ?_
    refine h_iload_n dX12_copy_16 rfl 3 rfl ?_
    refine h_iadd dX12_copy_17 ?_
    refine h_aload_n dX12_copy_18 rfl 0 rfl ?_
    refine gf_10_0 dX12_copy_19 hl_X12_7 nl_87 zk_87 zp_87_0 ?_
    refine h_bipush (v := 31) dX12_copy_22 (by decide) ?_
    refine h_iload_n dX12_copy_24 rfl 1 rfl ?_
    refine h_imul dX12_copy_25 ?_
    refine h_iload_n dX12_copy_26 rfl 3 rfl ?_
    refine h_iadd dX12_copy_27 ?_
    refine h_iald dX12_copy_28 nl_88 zk_88 (by rw [zn_88]; exact k2 c1) ?_
    refine h_iast dX12_copy_29 nl_88 zk_88 (by rw [zn_88]; exact k3 c1) ?_
    refine h_iinc (v := (x3 + 1)) (L' := [(3, .int (x3 + 1)), (0, .ref 87), (1, .int x1), (2, .int x2)]) dX12_copy_30 3 rfl rfl (by decide) rfl ?_
    refine h_goto (tgt := 2) dX12_copy_33 (by decide) ?_
    refine h_pick [1, 2, 3, 0] [(0, .ref 87), (1, .int x1), (2, .int x2), (3, .int (x3 + 1))] rfl ?_
    exact k4 c1
set_option maxHeartbeats 1000000 in
set_option maxRecDepth 20000 in
theorem sg_X12_powerOf_0 {E : HEn} {d : Nat} {Q : Option Value → HIh → Prop} {I : HIh} {a : Int32}
    (k1 : HGo E (mF E (d + 1) Q) me_X12_powerOf 4 [(0, .int a), (1, .int 1), (2, .int 0)] [] I)
    : HGo E (mF E (d + 1) Q) me_X12_powerOf 0 [(0, .int a)] [] I := by
  refine h_iconst (v := 1) dX12_powerOf_0 (by decide) ?_
  refine h_istore_n (L' := [(1, .int 1), (0, .int a)]) dX12_powerOf_1 rfl (by decide) rfl ?_
  refine h_iconst (v := 0) dX12_powerOf_2 (by decide) ?_
  refine h_istore_n (L' := [(2, .int 0), (1, .int 1), (0, .int a)]) dX12_powerOf_3 rfl (by decide) rfl ?_
  refine h_pick [2, 1, 0] [(0, .int a), (1, .int 1), (2, .int 0)] rfl ?_
  exact k1
set_option maxHeartbeats 1000000 in
set_option maxRecDepth 20000 in
theorem sg_X12_powerOf_4 {E : HEn} {d : Nat} {Q : Option Value → HIh → Prop} {I : HIh} {x0 : Int32} {x1 : Int32} {x2 : Int32}
    (k1 : x0 ≤ x2 → Q (some (.int x1)) I)
    (k2 : ¬ x0 ≤ x2 → HGo E (mF E (d + 1) Q) me_X12_powerOf 4 [(0, .int x0), (1, .int (x1 * 7)), (2, .int (x2 + 1))] [] I)
    : HGo E (mF E (d + 1) Q) me_X12_powerOf 4 [(0, .int x0), (1, .int x1), (2, .int x2)] [] I := by
  refine h_iload_n dX12_powerOf_4 rfl 2 rfl ?_
  refine h_iload_n dX12_powerOf_5 rfl 0 rfl ?_
  refine h_icmp_ge (tgt := 20) dX12_powerOf_6 (by decide) (fun c1 => ?_) (fun c1 => ?_)
  ·
    refine h_iload_n dX12_powerOf_20 rfl 1 rfl ?_
    exact h_iret dX12_powerOf_21 rfl (k1 c1)
  ·
    refine h_iload_n dX12_powerOf_9 rfl 1 rfl ?_
    refine h_bipush (v := 7) dX12_powerOf_10 (by decide) ?_
    refine h_imul dX12_powerOf_12 ?_
    refine h_istore_n (L' := [(1, .int (x1 * 7)), (0, .int x0), (2, .int x2)]) dX12_powerOf_13 rfl (by decide) rfl ?_
    refine h_iinc (v := (x2 + 1)) (L' := [(2, .int (x2 + 1)), (1, .int (x1 * 7)), (0, .int x0)]) dX12_powerOf_14 2 rfl rfl (by decide) rfl ?_
    refine h_goto (tgt := 4) dX12_powerOf_17 (by decide) ?_
    refine h_pick [2, 1, 0] [(0, .int x0), (1, .int (x1 * 7)), (2, .int (x2 + 1))] rfl ?_
    exact k2 c1
set_option maxHeartbeats 1000000 in
set_option maxRecDepth 20000 in
theorem sg_X12_takeUp_0 {E : HEn} {d : Nat} {Q : Option Value → HIh → Prop} {I : HIh} {a : Int32} {b : Int32}
    (k1 : vp_in a 8)
    (k2 : (I 98 a.toNatClampNeg) = 0 → HGo E (mF E (d + 1) Q) me_X12_takeUp 36 [(0, .ref 87), (1, .int a), (3, .int 0)] [] I)
    (k3 : ¬ (I 98 a.toNatClampNeg) = 0 → vp_in (((4 * a) + 4) + b) 32)
    (k4 : ¬ (I 98 a.toNatClampNeg) = 0 → vp_in ((4 * a) + b) 32)
    (k5 : ¬ (I 98 a.toNatClampNeg) = 0 → (I 99 ((((4 * a) + 4) + b).toNatClampNeg)) ≤ (I 99 (((4 * a) + b).toNatClampNeg)) → Q none I)
    (k6 : ¬ (I 98 a.toNatClampNeg) = 0 → ¬ (I 99 ((((4 * a) + 4) + b).toNatClampNeg)) ≤ (I 99 (((4 * a) + b).toNatClampNeg)) → HGo E (mF E (d + 1) Q) me_X12_takeUp 36 [(0, .ref 87), (1, .int a), (3, .int 0)] [] I)
    : HGo E (mF E (d + 1) Q) me_X12_takeUp 0 [(0, .ref 87), (1, .int a), (2, .int b)] [] I := by
  refine h_aload_n dX12_takeUp_0 rfl 0 rfl ?_
  refine gf_10_22 dX12_takeUp_1 hl_X12_45 nl_87 zk_87 zp_87_22 ?_
  refine h_iload_n dX12_takeUp_4 rfl 1 rfl ?_
  refine h_iald dX12_takeUp_5 nl_98 zk_98 (by rw [zn_98]; exact k1) ?_
  refine h_if_eq (tgt := 34) dX12_takeUp_6 (by decide) (fun c1 => ?_) (fun c1 => ?_)
  ·
    refine h_iconst (v := 0) dX12_takeUp_34 (by decide) ?_
    refine h_istore_n (L' := [(3, .int 0), (0, .ref 87), (1, .int a), (2, .int b)]) dX12_takeUp_35 rfl (by decide) rfl ?_
    refine h_pick [1, 2, 0] [(0, .ref 87), (1, .int a), (3, .int 0)] rfl ?_
    exact k2 c1
  ·
    refine h_aload_n dX12_takeUp_9 rfl 0 rfl ?_
    refine gf_10_23 dX12_takeUp_10 hl_X12_48 nl_87 zk_87 zp_87_23 ?_
    refine h_iconst (v := 4) dX12_takeUp_13 (by decide) ?_
    refine h_iload_n dX12_takeUp_14 rfl 1 rfl ?_
    refine h_imul dX12_takeUp_15 ?_
    refine h_iconst (v := 4) dX12_takeUp_16 (by decide) ?_
    refine h_iadd dX12_takeUp_17 ?_
    refine h_iload_n dX12_takeUp_18 rfl 2 rfl ?_
    refine h_iadd dX12_takeUp_19 ?_
    refine h_iald dX12_takeUp_20 nl_99 zk_99 (by rw [zn_99]; exact k3 c1) ?_
    refine h_aload_n dX12_takeUp_21 rfl 0 rfl ?_
    refine gf_10_23 dX12_takeUp_22 hl_X12_48 nl_87 zk_87 zp_87_23 ?_
    refine h_iconst (v := 4) dX12_takeUp_25 (by decide) ?_
    refine h_iload_n dX12_takeUp_26 rfl 1 rfl ?_
    refine h_imul dX12_takeUp_27 ?_
    refine h_iload_n dX12_takeUp_28 rfl 2 rfl ?_
    refine h_iadd dX12_takeUp_29 ?_
    refine h_iald dX12_takeUp_30 nl_99 zk_99 (by rw [zn_99]; exact k4 c1) ?_
    refine h_icmp_le (tgt := 125) dX12_takeUp_31 (by decide) (fun c2 => ?_) (fun c2 => ?_)
    ·
      exact h_vret dX12_takeUp_125 rfl (k5 c1 c2)
    ·
      refine h_iconst (v := 0) dX12_takeUp_34 (by decide) ?_
      refine h_istore_n (L' := [(3, .int 0), (0, .ref 87), (1, .int a), (2, .int b)]) dX12_takeUp_35 rfl (by decide) rfl ?_
      refine h_pick [1, 2, 0] [(0, .ref 87), (1, .int a), (3, .int 0)] rfl ?_
      exact k6 c1 c2
set_option maxHeartbeats 1000000 in
set_option maxRecDepth 20000 in
theorem sg_X12_takeUp_36 {E : HEn} {d : Nat} {Q : Option Value → HIh → Prop} {I : HIh} {x1 : Int32} {x3 : Int32}
    (k1 : 4 ≤ x3 → vp_in x1 8)
    (k2 : 4 ≤ x3 → vp_in (7 * x1) 56)
    (k3 : 4 ≤ x3 → HGo E (mF E (d + 1) Q) me_X12_takeUp 86 [(0, .ref 87), (1, .int x1), (3, .int 0)] [] (setI I 100 (upd (I 100) (7 * x1).toNatClampNeg (I 98 x1.toNatClampNeg))))
    (k4 : ¬ 4 ≤ x3 → vp_in (((4 * x1) + 4) + x3) 32)
    (k5 : ¬ 4 ≤ x3 → vp_in ((4 * x1) + x3) 32)
    (k6 : ¬ 4 ≤ x3 → HGo E (mF E (d + 1) Q) me_X12_takeUp 36 [(0, .ref 87), (1, .int x1), (3, .int (x3 + 1))] [] (setI I 99 (upd (I 99) ((4 * x1) + x3).toNatClampNeg (I 99 ((((4 * x1) + 4) + x3).toNatClampNeg)))))
    : HGo E (mF E (d + 1) Q) me_X12_takeUp 36 [(0, .ref 87), (1, .int x1), (3, .int x3)] [] I := by
  refine h_iload_n dX12_takeUp_36 rfl 2 rfl ?_
  refine h_iconst (v := 4) dX12_takeUp_37 (by decide) ?_
  refine h_icmp_ge (tgt := 69) dX12_takeUp_38 (by decide) (fun c1 => ?_) (fun c1 => ?_)
  ·
    refine h_aload_n dX12_takeUp_69 rfl 0 rfl ?_
    refine gf_10_24 dX12_takeUp_70 hl_X12_51 nl_87 zk_87 zp_87_24 ?_
    refine h_bipush (v := 7) dX12_takeUp_73 (by decide) ?_
    refine h_iload_n dX12_takeUp_75 rfl 1 rfl ?_
    refine h_imul dX12_takeUp_76 ?_
    refine h_aload_n dX12_takeUp_77 rfl 0 rfl ?_
    refine gf_10_22 dX12_takeUp_78 hl_X12_45 nl_87 zk_87 zp_87_22 ?_
    refine h_iload_n dX12_takeUp_81 rfl 1 rfl ?_
    refine h_iald dX12_takeUp_82 nl_98 zk_98 (by rw [zn_98]; exact k1 c1) ?_
    refine h_iast dX12_takeUp_83 nl_100 zk_100 (by rw [zn_100]; exact k2 c1) ?_
    refine h_iconst (v := 0) dX12_takeUp_84 (by decide) ?_
    refine h_istore_n (L' := [(3, .int 0), (0, .ref 87), (1, .int x1)]) dX12_takeUp_85 rfl (by decide) rfl ?_
    refine h_pick [1, 2, 0] [(0, .ref 87), (1, .int x1), (3, .int 0)] rfl ?_
    exact k3 c1
  ·
    refine h_aload_n dX12_takeUp_41 rfl 0 rfl ?_
    refine gf_10_23 dX12_takeUp_42 hl_X12_48 nl_87 zk_87 zp_87_23 ?_
    refine h_iconst (v := 4) dX12_takeUp_45 (by decide) ?_
    refine h_iload_n dX12_takeUp_46 rfl 1 rfl ?_
    refine h_imul dX12_takeUp_47 ?_
    refine h_iload_n dX12_takeUp_48 rfl 2 rfl ?_
    refine h_iadd dX12_takeUp_49 ?_
    refine h_aload_n dX12_takeUp_50 rfl 0 rfl ?_
    refine gf_10_23 dX12_takeUp_51 hl_X12_48 nl_87 zk_87 zp_87_23 ?_
    refine h_iconst (v := 4) dX12_takeUp_54 (by decide) ?_
    refine h_iload_n dX12_takeUp_55 rfl 1 rfl ?_
    refine h_imul dX12_takeUp_56 ?_
    refine h_iconst (v := 4) dX12_takeUp_57 (by decide) ?_
    refine h_iadd dX12_takeUp_58 ?_
    refine h_iload_n dX12_takeUp_59 rfl 2 rfl ?_
    refine h_iadd dX12_takeUp_60 ?_
    refine h_iald dX12_takeUp_61 nl_99 zk_99 (by rw [zn_99]; exact k4 c1) ?_
    refine h_iast dX12_takeUp_62 nl_99 zk_99 (by rw [zn_99]; exact k5 c1) ?_
    refine h_iinc (v := (x3 + 1)) (L' := [(3, .int (x3 + 1)), (0, .ref 87), (1, .int x1)]) dX12_takeUp_63 2 rfl rfl (by decide) rfl ?_
    refine h_goto (tgt := 36) dX12_takeUp_66 (by decide) ?_
    refine h_pick [1, 2, 0] [(0, .ref 87), (1, .int x1), (3, .int (x3 + 1))] rfl ?_
    exact k6 c1
set_option maxHeartbeats 1000000 in
set_option maxRecDepth 20000 in
theorem sg_X12_takeUp_86 {E : HEn} {d : Nat} {Q : Option Value → HIh → Prop} {I : HIh} {x1 : Int32} {x3 : Int32}
    (k1 : 6 ≤ x3 → Q none I)
    (k2 : ¬ 6 ≤ x3 → vp_in (((7 * x1) + 7) + x3) 56)
    (k3 : ¬ 6 ≤ x3 → vp_in (((7 * x1) + 1) + x3) 56)
    (k4 : ¬ 6 ≤ x3 → HGo E (mF E (d + 1) Q) me_X12_takeUp 86 [(0, .ref 87), (1, .int x1), (3, .int (x3 + 1))] [] (setI I 100 (upd (I 100) (((7 * x1) + 1) + x3).toNatClampNeg (I 100 ((((7 * x1) + 7) + x3).toNatClampNeg)))))
    : HGo E (mF E (d + 1) Q) me_X12_takeUp 86 [(0, .ref 87), (1, .int x1), (3, .int x3)] [] I := by
  refine h_iload_n dX12_takeUp_86 rfl 2 rfl ?_
  refine h_bipush (v := 6) dX12_takeUp_87 (by decide) ?_
  refine h_icmp_ge (tgt := 125) dX12_takeUp_89 (by decide) (fun c1 => ?_) (fun c1 => ?_)
  ·
    exact h_vret dX12_takeUp_125 rfl (k1 c1)
  ·
    refine h_aload_n dX12_takeUp_92 rfl 0 rfl ?_
    refine gf_10_24 dX12_takeUp_93 hl_X12_51 nl_87 zk_87 zp_87_24 ?_
    refine h_bipush (v := 7) dX12_takeUp_96 (by decide) ?_
    refine h_iload_n dX12_takeUp_98 rfl 1 rfl ?_
    refine h_imul dX12_takeUp_99 ?_
    refine h_iconst (v := 1) dX12_takeUp_100 (by decide) ?_
    refine h_iadd dX12_takeUp_101 ?_
    refine h_iload_n dX12_takeUp_102 rfl 2 rfl ?_
    refine h_iadd dX12_takeUp_103 ?_
    refine h_aload_n dX12_takeUp_104 rfl 0 rfl ?_
    refine gf_10_24 dX12_takeUp_105 hl_X12_51 nl_87 zk_87 zp_87_24 ?_
    refine h_bipush (v := 7) dX12_takeUp_108 (by decide) ?_
    refine h_iload_n dX12_takeUp_110 rfl 1 rfl ?_
    refine h_imul dX12_takeUp_111 ?_
    refine h_bipush (v := 7) dX12_takeUp_112 (by decide) ?_
    refine h_iadd dX12_takeUp_114 ?_
    refine h_iload_n dX12_takeUp_115 rfl 2 rfl ?_
    refine h_iadd dX12_takeUp_116 ?_
    refine h_iald dX12_takeUp_117 nl_100 zk_100 (by rw [zn_100]; exact k2 c1) ?_
    refine h_iast dX12_takeUp_118 nl_100 zk_100 (by rw [zn_100]; exact k3 c1) ?_
    refine h_iinc (v := (x3 + 1)) (L' := [(3, .int (x3 + 1)), (0, .ref 87), (1, .int x1)]) dX12_takeUp_119 2 rfl rfl (by decide) rfl ?_
    refine h_goto (tgt := 86) dX12_takeUp_122 (by decide) ?_
    refine h_pick [1, 2, 0] [(0, .ref 87), (1, .int x1), (3, .int (x3 + 1))] rfl ?_
    exact k4 c1
set_option maxHeartbeats 1000000 in
set_option maxRecDepth 20000 in
theorem sg_X12_divisor_0 {E : HEn} {d : Nat} {Q : Option Value → HIh → Prop} {I : HIh} {a : Int64} {b : Int64}
    (k1 : HGo E (mF E (d + 1) Q) me_X12_divisor 6 [(4, .long a), (6, .long b)] [] I)
    : HGo E (mF E (d + 1) Q) me_X12_divisor 0 [(0, .long a), (2, .long b)] [] I := by
  refine h_lload_n dX12_divisor_0 rfl 0 rfl ?_
  refine h_lstore (L' := [(4, .long a), (0, .long a), (2, .long b)]) dX12_divisor_1 (by decide) rfl ?_
  refine h_lload_n dX12_divisor_3 rfl 2 rfl ?_
  refine h_lstore (L' := [(6, .long b), (4, .long a), (0, .long a), (2, .long b)]) dX12_divisor_4 (by decide) rfl ?_
  refine h_pick [1, 0] [(4, .long a), (6, .long b)] rfl ?_
  exact k1
set_option maxHeartbeats 1000000 in
set_option maxRecDepth 20000 in
theorem sg_X12_divisor_6 {E : HEn} {d : Nat} {Q : Option Value → HIh → Prop} {I : HIh} {x4 : Int64} {x6 : Int64}
    (k1 : (lg_cmp x6 0) = 0 → Q (some (.long x4)) I)
    (k2 : ¬ (lg_cmp x6 0) = 0 → ¬ x6 = 0)
    (k3 : ¬ (lg_cmp x6 0) = 0 → HGo E (mF E (d + 1) Q) me_X12_divisor 6 [(4, .long x6), (6, .long (x4 - x4 / x6 * x6))] [] I)
    : HGo E (mF E (d + 1) Q) me_X12_divisor 6 [(4, .long x4), (6, .long x6)] [] I := by
  refine h_lload dX12_divisor_6 1 rfl ?_
  refine h_lconst (v := 0) dX12_divisor_8 (by decide) ?_
  refine h_lcmp dX12_divisor_9 ?_
  refine h_if_eq (tgt := 31) dX12_divisor_10 (by decide) (fun c1 => ?_) (fun c1 => ?_)
  ·
    refine h_lload dX12_divisor_31 0 rfl ?_
    exact h_lret dX12_divisor_33 rfl (k1 c1)
  ·
    refine h_lload dX12_divisor_13 0 rfl ?_
    refine h_lload dX12_divisor_15 1 rfl ?_
    refine h_lrem dX12_divisor_17 (k2 c1) ?_
    refine h_lstore (L' := [(8, .long (x4 - x4 / x6 * x6)), (4, .long x4), (6, .long x6)]) dX12_divisor_18 (by decide) rfl ?_
    refine h_lload dX12_divisor_20 2 rfl ?_
    refine h_lstore (L' := [(4, .long x6), (8, .long (x4 - x4 / x6 * x6)), (6, .long x6)]) dX12_divisor_22 (by decide) rfl ?_
    refine h_lload dX12_divisor_24 1 rfl ?_
    refine h_lstore (L' := [(6, .long (x4 - x4 / x6 * x6)), (4, .long x6), (8, .long (x4 - x4 / x6 * x6))]) dX12_divisor_26 (by decide) rfl ?_
    refine h_goto (tgt := 6) dX12_divisor_28 (by decide) ?_
    refine h_pick [1, 0] [(4, .long x6), (6, .long (x4 - x4 / x6 * x6))] rfl ?_
    exact k3 c1
set_option maxHeartbeats 1000000 in
set_option maxRecDepth 20000 in
theorem sg_X12_note_0 {E : HEn} {d : Nat} {Q : Option Value → HIh → Prop} {I : HIh} {a : Int32} {b : Int32}
    (k1 : (0 : Int32) ≤ a → a ≤ (I 87 6) - 1 → (0 : Int64) ≤ b.toInt64 → (b.toInt64 : Int64) ≤ 9999 → ¬ (I 87 27) = 6 → vp_in (I 87 27) 6)
    (k2 : (0 : Int32) ≤ a → a ≤ (I 87 6) - 1 → (0 : Int64) ≤ b.toInt64 → (b.toInt64 : Int64) ≤ 9999 → ¬ (I 87 27) = 6 → Q (some (.int ((I 87 27) + 1))) (setI (setI (setI I 101 (upd (I 101) (I 87 27).toNatClampNeg a)) 102 (upd (I 102) (I 87 27).toNatClampNeg b)) 87 (upd (I 87) 27 ((I 87 27) + 1))))
    (k3 : (0 : Int32) ≤ a → a ≤ (I 87 6) - 1 → (0 : Int64) ≤ b.toInt64 → (b.toInt64 : Int64) ≤ 9999 → (I 87 27) = 6 → Q (some (.int (-5))) I)
    (k4 : (0 : Int32) ≤ a → a ≤ (I 87 6) - 1 → ¬ ((0 : Int64) ≤ b.toInt64 ∧ (b.toInt64 : Int64) ≤ 9999) → Q (some (.int (-3))) I)
    (k5 : ¬ ((0 : Int32) ≤ a ∧ a ≤ (I 87 6) - 1) → Q (some (.int (-2))) I)
    : HGo E (mF E (d + 3) Q) me_X12_note 0 [(0, .ref 87), (1, .int a), (2, .int b)] [] I := by
  refine h_aload_n dX12_note_0 rfl 0 rfl ?_
  refine h_iload_n dX12_note_1 rfl 1 rfl ?_
  refine h_invV (As := [.int a]) (st := []) dX12_note_2 lk_X12_177 (h_room (by decide)) nl_87 zk_87 (by decide) rfl rfl rfl (Nat.le_of_ble_eq_true rfl) ?_
  refine c_X12_isKind (fun c1 c2 => ?_) (fun c3 => ?_)
  ·
    refine h_if_ne (tgt := 11) dX12_note_5 (by decide) (fun _ => ?_) (fun c => absurd c (by decide))
    refine h_iload_n dX12_note_11 rfl 2 rfl ?_
    refine h_i2l dX12_note_12 ?_
    refine h_lconst (v := 0) dX12_note_13 (by decide) ?_
    refine h_ldc2 dX12_note_14 wt_1143 rfl ?_
    refine h_invS (As := [.long b.toInt64, .long 0, .long 9999]) (st := []) dX12_note_17 lk_X12_62 (h_room (by decide)) rfl rfl (Nat.le_of_ble_eq_true rfl) ?_
    refine c_X12_in (fun c4 c5 => ?_) (fun c6 => ?_)
    ·
      refine h_if_ne (tgt := 26) dX12_note_20 (by decide) (fun _ => ?_) (fun c => absurd c (by decide))
      refine h_aload_n dX12_note_26 rfl 0 rfl ?_
      refine gf_10_27 dX12_note_27 hl_X12_172 nl_87 zk_87 ?_
      refine h_bipush (v := 6) dX12_note_30 (by decide) ?_
      refine h_icmp_ne (tgt := 38) dX12_note_32 (by decide) (fun c7 => ?_) (fun c7 => ?_)
      ·
        refine h_aload_n dX12_note_38 rfl 0 rfl ?_
        refine gf_10_25 dX12_note_39 hl_X12_54 nl_87 zk_87 zp_87_25 ?_
        refine h_aload_n dX12_note_42 rfl 0 rfl ?_
        refine gf_10_27 dX12_note_43 hl_X12_172 nl_87 zk_87 ?_
        refine h_iload_n dX12_note_46 rfl 1 rfl ?_
        refine h_iast dX12_note_47 nl_101 zk_101 (by rw [zn_101]; exact k1 c1 c2 c4 c5 c7) ?_
        refine h_aload_n dX12_note_48 rfl 0 rfl ?_
        refine gf_10_26 dX12_note_49 hl_X12_57 nl_87 zk_87 zp_87_26 ?_
        refine h_aload_n dX12_note_52 rfl 0 rfl ?_
        refine gf_10_27 dX12_note_53 hl_X12_172 nl_87 zk_87 ?_
        refine h_iload_n dX12_note_56 rfl 2 rfl ?_
        refine h_iast dX12_note_57 nl_102 zk_102 (by rw [zn_102]; exact k1 c1 c2 c4 c5 c7) ?_
        refine h_aload_n dX12_note_58 rfl 0 rfl ?_
        refine h_dup dX12_note_59 rfl ?_
        refine gf_10_27 dX12_note_60 hl_X12_172 nl_87 zk_87 ?_
        refine h_iconst (v := 1) dX12_note_63 (by decide) ?_
        refine h_iadd dX12_note_64 ?_
        refine pf_10_27 dX12_note_65 hl_X12_172 nl_87 zk_87 ?_
        refine h_aload_n dX12_note_68 rfl 0 rfl ?_
        refine gf_10_27 dX12_note_69 hl_X12_172 nl_87 zk_87 ?_
        exact h_iret dX12_note_72 rfl (k2 c1 c2 c4 c5 c7)
      ·
        refine h_bipush (v := (-5)) dX12_note_35 (by decide) ?_
        exact h_iret dX12_note_37 rfl (k3 c1 c2 c4 c5 c7)
    ·
      refine h_if_ne (tgt := 26) dX12_note_20 (by decide) (fun c => absurd c (by decide)) (fun _ => ?_)
      refine h_bipush (v := (-3)) dX12_note_23 (by decide) ?_
      exact h_iret dX12_note_25 rfl (k4 c1 c2 c6)
  ·
    refine h_if_ne (tgt := 11) dX12_note_5 (by decide) (fun c => absurd c (by decide)) (fun _ => ?_)
    refine h_bipush (v := (-2)) dX12_note_8 (by decide) ?_
    exact h_iret dX12_note_10 rfl (k5 c3)
set_option maxHeartbeats 1000000 in
set_option maxRecDepth 20000 in
theorem sg_X12_forget_0 {E : HEn} {d : Nat} {Q : Option Value → HIh → Prop} {I : HIh} 
    (k1 : Q (some (.int (I 87 27))) (setI I 87 (upd (I 87) 27 0)))
    : HGo E (mF E (d + 1) Q) me_X12_forget 0 [(0, .ref 87)] [] I := by
  refine h_aload_n dX12_forget_0 rfl 0 rfl ?_
  refine gf_10_27 dX12_forget_1 hl_X12_172 nl_87 zk_87 ?_
  refine h_istore_n (L' := [(1, .int (I 87 27)), (0, .ref 87)]) dX12_forget_4 rfl (by decide) rfl ?_
  refine h_aload_n dX12_forget_5 rfl 1 rfl ?_
  refine h_iconst (v := 0) dX12_forget_6 (by decide) ?_
  refine pf_10_27 dX12_forget_7 hl_X12_172 nl_87 zk_87 ?_
  refine h_iload_n dX12_forget_10 rfl 0 rfl ?_
  exact h_iret dX12_forget_11 rfl (k1)
set_option maxHeartbeats 1000000 in
set_option maxRecDepth 20000 in
theorem sg_X12_layOf_0 {E : HEn} {d : Nat} {Q : Option Value → HIh → Prop} {I : HIh} {a : Int32} {b : Int32}
    (k1 : Q (some (.int ((a >>> ((2 * (((I 87 6) - 1) - b)) &&& 31)) &&& 3))) I)
    : HGo E (mF E (d + 1) Q) me_X12_layOf 0 [(0, .ref 87), (1, .int a), (2, .int b)] [] I := by
  refine h_iload_n dX12_layOf_0 rfl 1 rfl ?_
  refine h_iconst (v := 2) dX12_layOf_1 (by decide) ?_
  refine h_aload_n dX12_layOf_2 rfl 0 rfl ?_
  refine gf_10_6 dX12_layOf_3 hl_X12_23 nl_87 zk_87 ?_
  refine h_iconst (v := 1) dX12_layOf_6 (by decide) ?_
  refine h_isub dX12_layOf_7 ?_
  refine h_iload_n dX12_layOf_8 rfl 2 rfl ?_
  refine h_isub dX12_layOf_9 ?_
  refine h_imul dX12_layOf_10 ?_
  refine h_ishr dX12_layOf_11 ?_
  refine h_iconst (v := 3) dX12_layOf_12 (by decide) ?_
  refine h_iand dX12_layOf_13 ?_
  exact h_iret dX12_layOf_14 rfl (k1)
set_option maxHeartbeats 1000000 in
set_option maxRecDepth 20000 in
theorem sg_X12_worthThere_0 {E : HEn} {d : Nat} {Q : Option Value → HIh → Prop} {I : HIh} 
    (k1 : HGo E (mF E (d + 1) Q) me_X12_worthThere 4 [(0, .ref 87), (1, .int 0), (2, .int 0)] [] I)
    : HGo E (mF E (d + 1) Q) me_X12_worthThere 0 [(0, .ref 87)] [] I := by
  refine h_iconst (v := 0) dX12_worthThere_0 (by decide) ?_
  refine h_istore_n (L' := [(1, .int 0), (0, .ref 87)]) dX12_worthThere_1 rfl (by decide) rfl ?_
  refine h_iconst (v := 0) dX12_worthThere_2 (by decide) ?_
  refine h_istore_n (L' := [(2, .int 0), (1, .int 0), (0, .ref 87)]) dX12_worthThere_3 rfl (by decide) rfl ?_
  refine h_pick [2, 1, 0] [(0, .ref 87), (1, .int 0), (2, .int 0)] rfl ?_
  exact k1
set_option maxHeartbeats 1000000 in
set_option maxRecDepth 20000 in
theorem sg_X12_worthThere_4 {E : HEn} {d : Nat} {Q : Option Value → HIh → Prop} {I : HIh} {x1 : Int32} {x2 : Int32}
    (k1 : (I 87 6) ≤ x2 → Q (some (.int x1)) I)
    (k2 : ¬ (I 87 6) ≤ x2 → vp_in (0 + x2) 341)
    (k3 : ¬ (I 87 6) ≤ x2 → vp_in x2 6)
    (k4 : ¬ (I 87 6) ≤ x2 → HGo E (mF E (d + 1) Q) me_X12_worthThere 4 [(0, .ref 87), (1, .int (x1 + ((I 88 ((0 + x2).toNatClampNeg)) * (I 92 x2.toNatClampNeg)))), (2, .int (x2 + 1))] [] I)
    : HGo E (mF E (d + 1) Q) me_X12_worthThere 4 [(0, .ref 87), (1, .int x1), (2, .int x2)] [] I := by
  refine h_iload_n dX12_worthThere_4 rfl 2 rfl ?_
  refine h_aload_n dX12_worthThere_5 rfl 0 rfl ?_
  refine gf_10_6 dX12_worthThere_6 hl_X12_23 nl_87 zk_87 ?_
  refine h_icmp_ge (tgt := 36) dX12_worthThere_9 (by decide) (fun c1 => ?_) (fun c1 => ?_)
  ·
    refine h_iload_n dX12_worthThere_36 rfl 1 rfl ?_
    exact h_iret dX12_worthThere_37 rfl (k1 c1)
  ·
    refine h_iload_n dX12_worthThere_12 rfl 1 rfl ?_
    refine h_aload_n dX12_worthThere_13 rfl 0 rfl ?_
    refine gf_10_0 dX12_worthThere_14 hl_X12_7 nl_87 zk_87 zp_87_0 ?_
    refine h_iconst (v := 0) dX12_worthThere_17 (by decide) ?_
    refine h_iload_n dX12_worthThere_18 rfl 2 rfl ?_
    refine h_iadd dX12_worthThere_19 ?_
    refine h_iald dX12_worthThere_20 nl_88 zk_88 (by rw [zn_88]; exact k2 c1) ?_
    refine h_aload_n dX12_worthThere_21 rfl 0 rfl ?_
    refine gf_10_7 dX12_worthThere_22 hl_X12_27 nl_87 zk_87 zp_87_7 ?_
    refine h_iload_n dX12_worthThere_25 rfl 2 rfl ?_
    refine h_iald dX12_worthThere_26 nl_92 zk_92 (by rw [zn_92]; exact k3 c1) ?_
    refine h_imul dX12_worthThere_27 ?_
    refine h_iadd dX12_worthThere_28 ?_
    refine h_istore_n (L' := [(1, .int (x1 + ((I 88 ((0 + x2).toNatClampNeg)) * (I 92 x2.toNatClampNeg)))), (0, .ref 87), (2, .int x2)]) dX12_worthThere_29 rfl (by decide) rfl ?_
    refine h_iinc (v := (x2 + 1)) (L' := [(2, .int (x2 + 1)), (1, .int (x1 + ((I 88 ((0 + x2).toNatClampNeg)) * (I 92 x2.toNatClampNeg)))), (0, .ref 87)]) dX12_worthThere_30 2 rfl rfl (by decide) rfl ?_
    refine h_goto (tgt := 4) dX12_worthThere_33 (by decide) ?_
    refine h_pick [2, 1, 0] [(0, .ref 87), (1, .int (x1 + ((I 88 ((0 + x2).toNatClampNeg)) * (I 92 x2.toNatClampNeg)))), (2, .int (x2 + 1))] rfl ?_
    exact k4 c1
