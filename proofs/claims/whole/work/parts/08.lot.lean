set_option maxHeartbeats 1000000 in
set_option maxRecDepth 4000 in
theorem sg_X4_of_0 {E : HEn} {d : Nat} {Q : Option Value → HIh → Prop} {I : HIh} {h c : Nat} (hh1 : h < NL) (hh2 : Zk h = 3) (hh3 : Zp h 0 = c) (hc1 : c < NL) (hc2 : Zk c = 11) (hc3 : Zn c = 30)  {o : Int32} {k : Int32}
    (k1 : o < 0 → Q (some (.int 0)) I)
    (k2 : ¬ o < 0 → 5 ≤ o → Q (some (.int 0)) I)
    (k3 : ¬ o < 0 → ¬ 5 ≤ o → k < 0 → Q (some (.int 0)) I)
    (k4 : ¬ o < 0 → ¬ 5 ≤ o → ¬ k < 0 → 6 ≤ k → Q (some (.int 0)) I)
    (k5 : ¬ o < 0 → ¬ 5 ≤ o → ¬ k < 0 → ¬ 6 ≤ k → vp_in ((o * 6) + k) 30)
    (k6 : ¬ o < 0 → ¬ 5 ≤ o → ¬ k < 0 → ¬ 6 ≤ k → Q (some (.int (I c ((o * 6) + k).toNatClampNeg))) I)
    : HGo E (mF E (d + 1) Q) me_X4_of 0 [(0, .ref h), (1, .int o), (2, .int k)] [] I := by
  refine h_iload_n dX4_of_0 rfl 1 rfl ?_
  refine h_if_lt (tgt := 23) dX4_of_1 (by decide) (fun c1 => ?_) (fun c1 => ?_)
  ·
    refine h_iconst (v := 0) dX4_of_23 (by decide) ?_
    refine h_istore_n (L' := [(3, .int 0), (0, .ref h), (1, .int o), (2, .int k)]) dX4_of_24 rfl (by decide) rfl ?_
    refine h_iload_n dX4_of_25 rfl 0 rfl ?_
    refine h_if_eq (tgt := 43) dX4_of_26 (by decide) (fun _ => ?_) (fun c => absurd c (by decide))
    refine h_iconst (v := 0) dX4_of_43 (by decide) ?_
    exact h_iret dX4_of_44 rfl (k1 c1)
  ·
    refine h_iload_n dX4_of_4 rfl 1 rfl ?_
    refine h_iconst (v := 5) dX4_of_5 (by decide) ?_
    refine h_icmp_ge (tgt := 23) dX4_of_6 (by decide) (fun c2 => ?_) (fun c2 => ?_)
    ·
      refine h_iconst (v := 0) dX4_of_23 (by decide) ?_
      refine h_istore_n (L' := [(3, .int 0), (0, .ref h), (1, .int o), (2, .int k)]) dX4_of_24 rfl (by decide) rfl ?_
      refine h_iload_n dX4_of_25 rfl 0 rfl ?_
      refine h_if_eq (tgt := 43) dX4_of_26 (by decide) (fun _ => ?_) (fun c => absurd c (by decide))
      refine h_iconst (v := 0) dX4_of_43 (by decide) ?_
      exact h_iret dX4_of_44 rfl (k2 c1 c2)
    ·
      refine h_iload_n dX4_of_9 rfl 2 rfl ?_
      refine h_if_lt (tgt := 23) dX4_of_10 (by decide) (fun c3 => ?_) (fun c3 => ?_)
      ·
        refine h_iconst (v := 0) dX4_of_23 (by decide) ?_
        refine h_istore_n (L' := [(3, .int 0), (0, .ref h), (1, .int o), (2, .int k)]) dX4_of_24 rfl (by decide) rfl ?_
        refine h_iload_n dX4_of_25 rfl 0 rfl ?_
        refine h_if_eq (tgt := 43) dX4_of_26 (by decide) (fun _ => ?_) (fun c => absurd c (by decide))
        refine h_iconst (v := 0) dX4_of_43 (by decide) ?_
        exact h_iret dX4_of_44 rfl (k3 c1 c2 c3)
      ·
        refine h_iload_n dX4_of_13 rfl 2 rfl ?_
        refine h_bipush (v := 6) dX4_of_14 (by decide) ?_
        refine h_icmp_ge (tgt := 23) dX4_of_16 (by decide) (fun c4 => ?_) (fun c4 => ?_)
        ·
          refine h_iconst (v := 0) dX4_of_23 (by decide) ?_
          refine h_istore_n (L' := [(3, .int 0), (0, .ref h), (1, .int o), (2, .int k)]) dX4_of_24 rfl (by decide) rfl ?_
          refine h_iload_n dX4_of_25 rfl 0 rfl ?_
          refine h_if_eq (tgt := 43) dX4_of_26 (by decide) (fun _ => ?_) (fun c => absurd c (by decide))
          refine h_iconst (v := 0) dX4_of_43 (by decide) ?_
          exact h_iret dX4_of_44 rfl (k4 c1 c2 c3 c4)
        ·
          refine h_iconst (v := 1) dX4_of_19 (by decide) ?_
          refine h_goto (tgt := 24) dX4_of_20 (by decide) ?_
          refine h_istore_n (L' := [(3, .int 1), (0, .ref h), (1, .int o), (2, .int k)]) dX4_of_24 rfl (by decide) rfl ?_
          refine h_iload_n dX4_of_25 rfl 0 rfl ?_
          refine h_if_eq (tgt := 43) dX4_of_26 (by decide) (fun c => absurd c (by decide)) (fun _ => ?_)
          refine h_aload_n dX4_of_29 rfl 1 rfl ?_
          refine gf_3_0 dX4_of_30 hl_X4_9 hh1 hh2 hh3 ?_
          refine h_iload_n dX4_of_33 rfl 2 rfl ?_
          refine h_bipush (v := 6) dX4_of_34 (by decide) ?_
          refine h_imul dX4_of_36 ?_
          refine h_iload_n dX4_of_37 rfl 3 rfl ?_
          refine h_iadd dX4_of_38 ?_
          refine h_iald dX4_of_39 hc1 hc2 (by rw [hc3]; exact k5 c1 c2 c3 c4) ?_
          refine h_goto (tgt := 44) dX4_of_40 (by decide) ?_
          exact h_iret dX4_of_44 rfl (k6 c1 c2 c3 c4)
set_option maxHeartbeats 1000000 in
set_option maxRecDepth 4000 in
theorem sg_X4_add_0 {E : HEn} {d : Nat} {Q : Option Value → HIh → Prop} {I : HIh} {h c : Nat} (hh1 : h < NL) (hh2 : Zk h = 3) (hh3 : Zp h 0 = c) (hc1 : c < NL) (hc2 : Zk c = 11) (hc3 : Zn c = 30)  {o : Int32} {k : Int32} {z : Int32}
    (k1 : o < 0 → Q none I)
    (k2 : ¬ o < 0 → 5 ≤ o → Q none I)
    (k3 : ¬ o < 0 → ¬ 5 ≤ o → k < 0 → Q none I)
    (k4 : ¬ o < 0 → ¬ 5 ≤ o → ¬ k < 0 → 6 ≤ k → Q none I)
    (k5 : ¬ o < 0 → ¬ 5 ≤ o → ¬ k < 0 → ¬ 6 ≤ k → vp_in ((o * 6) + k) 30)
    (k6 : ¬ o < 0 → ¬ 5 ≤ o → ¬ k < 0 → ¬ 6 ≤ k → Q none (setI I c (upd (I c) ((o * 6) + k).toNatClampNeg ((I c ((o * 6) + k).toNatClampNeg) + z))))
    : HGo E (mF E (d + 1) Q) me_X4_add 0 [(0, .ref h), (1, .int o), (2, .int k), (3, .int z)] [] I := by
  refine h_iload_n dX4_add_0 rfl 1 rfl ?_
  refine h_if_lt (tgt := 34) dX4_add_1 (by decide) (fun c1 => ?_) (fun c1 => ?_)
  ·
    exact h_vret dX4_add_34 rfl (k1 c1)
  ·
    refine h_iload_n dX4_add_4 rfl 1 rfl ?_
    refine h_iconst (v := 5) dX4_add_5 (by decide) ?_
    refine h_icmp_ge (tgt := 34) dX4_add_6 (by decide) (fun c2 => ?_) (fun c2 => ?_)
    ·
      exact h_vret dX4_add_34 rfl (k2 c1 c2)
    ·
      refine h_iload_n dX4_add_9 rfl 2 rfl ?_
      refine h_if_lt (tgt := 34) dX4_add_10 (by decide) (fun c3 => ?_) (fun c3 => ?_)
      ·
        exact h_vret dX4_add_34 rfl (k3 c1 c2 c3)
      ·
        refine h_iload_n dX4_add_13 rfl 2 rfl ?_
        refine h_bipush (v := 6) dX4_add_14 (by decide) ?_
        refine h_icmp_ge (tgt := 34) dX4_add_16 (by decide) (fun c4 => ?_) (fun c4 => ?_)
        ·
          exact h_vret dX4_add_34 rfl (k4 c1 c2 c3 c4)
        ·
          refine h_aload_n dX4_add_19 rfl 0 rfl ?_
          refine gf_3_0 dX4_add_20 hl_X4_9 hh1 hh2 hh3 ?_
          refine h_iload_n dX4_add_23 rfl 1 rfl ?_
          refine h_bipush (v := 6) dX4_add_24 (by decide) ?_
          refine h_imul dX4_add_26 ?_
          refine h_iload_n dX4_add_27 rfl 2 rfl ?_
          refine h_iadd dX4_add_28 ?_
          refine h_dup2 dX4_add_29 rfl rfl ?_
          refine h_iald dX4_add_30 hc1 hc2 (by rw [hc3]; exact k5 c1 c2 c3 c4) ?_
          refine h_iload_n dX4_add_31 rfl 3 rfl ?_
          refine h_iadd dX4_add_32 ?_
          refine h_iast dX4_add_33 hc1 hc2 (by rw [hc3]; exact k5 c1 c2 c3 c4) ?_
          exact h_vret dX4_add_34 rfl (k6 c1 c2 c3 c4)
set_option maxHeartbeats 1000000 in
set_option maxRecDepth 4000 in
theorem sg_X4_empty_0 {E : HEn} {d : Nat} {Q : Option Value → HIh → Prop} {I : HIh} {h c : Nat} (hh1 : h < NL) (hh2 : Zk h = 3) (hh3 : Zp h 0 = c) (hc1 : c < NL) (hc2 : Zk c = 11) (hc3 : Zn c = 30) 
    (k1 : HGo E (mF E (d + 1) Q) me_X4_empty 2 [(0, .ref h), (1, .int 0)] [] I)
    : HGo E (mF E (d + 1) Q) me_X4_empty 0 [(0, .ref h)] [] I := by
  refine h_iconst (v := 0) dX4_empty_0 (by decide) ?_
  refine h_istore_n (L' := [(1, .int 0), (0, .ref h)]) dX4_empty_1 rfl (by decide) rfl ?_
  refine h_pick [1, 0] [(0, .ref h), (1, .int 0)] rfl ?_
  exact k1
set_option maxHeartbeats 1000000 in
set_option maxRecDepth 4000 in
theorem sg_X4_empty_2 {E : HEn} {d : Nat} {Q : Option Value → HIh → Prop} {I : HIh} {h c : Nat} (hh1 : h < NL) (hh2 : Zk h = 3) (hh3 : Zp h 0 = c) (hc1 : c < NL) (hc2 : Zk c = 11) (hc3 : Zn c = 30)  {x1 : Int32}
    (k1 : 30 ≤ x1 → Q none I)
    (k2 : ¬ 30 ≤ x1 → vp_in x1 30)
    (k3 : ¬ 30 ≤ x1 → HGo E (mF E (d + 1) Q) me_X4_empty 2 [(0, .ref h), (1, .int (x1 + 1))] [] (setI I c (upd (I c) x1.toNatClampNeg 0)))
    : HGo E (mF E (d + 1) Q) me_X4_empty 2 [(0, .ref h), (1, .int x1)] [] I := by
  refine h_iload_n dX4_empty_2 rfl 1 rfl ?_
  refine h_aload_n dX4_empty_3 rfl 0 rfl ?_
  refine gf_3_0 dX4_empty_4 hl_X4_9 hh1 hh2 hh3 ?_
  refine h_alen (v := 30) dX4_empty_7 hc1 hc2 (by rw [hc3]; rfl) ?_
  refine h_icmp_ge (tgt := 24) dX4_empty_8 (by decide) (fun c1 => ?_) (fun c1 => ?_)
  ·
    exact h_vret dX4_empty_24 rfl (k1 c1)
  ·
    refine h_aload_n dX4_empty_11 rfl 0 rfl ?_
    refine gf_3_0 dX4_empty_12 hl_X4_9 hh1 hh2 hh3 ?_
    refine h_iload_n dX4_empty_15 rfl 1 rfl ?_
    refine h_iconst (v := 0) dX4_empty_16 (by decide) ?_
    refine h_iast dX4_empty_17 hc1 hc2 (by rw [hc3]; exact k2 c1) ?_
    refine h_iinc (v := (x1 + 1)) (L' := [(1, .int (x1 + 1)), (0, .ref h)]) dX4_empty_18 1 rfl rfl (by decide) rfl ?_
    refine h_goto (tgt := 2) dX4_empty_21 (by decide) ?_
    refine h_pick [1, 0] [(0, .ref h), (1, .int (x1 + 1))] rfl ?_
    exact k3 c1
