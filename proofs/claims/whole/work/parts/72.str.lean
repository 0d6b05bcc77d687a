/-! strings: length, charAt, and the class's readWord -/
abbrev me_J0_length : HMe := (yJ0_length_8abf5, cJ0_length_8abf5, 1, some .int)
abbrev me_J0_coder : HMe := (yJ0_coder_7d493, cJ0_coder_7d493, 1, some .byte)
abbrev me_J0_charAt : HMe := (yJ0_charAt_5068e, cJ0_charAt_5068e, 2, some .char)
abbrev me_J0_isLatin1 : HMe := (yJ0_isLatin1_aae02, cJ0_isLatin1_aae02, 1, some .boolean)
abbrev me_J0_checkIndex : HMe := (yJ0_checkIndex_df160, cJ0_checkIndex_df160, 2, none)
abbrev me_J1_charAt : HMe := (yJ1_charAt_3b067, cJ1_charAt_3b067, 2, some .char)
abbrev me_J3_checkIndex : HMe := (yJ3_checkIndex_8e157, cJ3_checkIndex_8e157, 3, some .int)
theorem lkJ_118 : HLV RX7 118 me_J0_length 0 := ⟨wt_326, wt_327, wt_328, wt_16, wt_329, by decide +kernel, by decide +kernel, by decide +kernel⟩
theorem lkJ_335 : HLV RJ0 335 me_J0_coder 0 := ⟨wt_330, wt_331, wt_332, wt_16, wt_333, by decide +kernel, by decide +kernel, by decide +kernel⟩
theorem lkJ_123 : HLV RX7 123 me_J0_charAt 1 := ⟨wt_336, wt_337, wt_338, wt_16, wt_339, by decide +kernel, by decide +kernel, by decide +kernel⟩
theorem lkJ_492 : HLV RJ0 492 me_J0_isLatin1 0 := ⟨wt_340, wt_341, wt_342, wt_16, wt_343, by decide +kernel, by decide +kernel, by decide +kernel⟩
theorem lkJ_495 : HLS RJ0 495 me_J1_charAt 2 := ⟨wt_344, wt_345, wt_17, wt_346, by decide +kernel, by decide +kernel, by decide +kernel⟩
theorem lkJ_9 : HLS RJ1 9 me_J0_checkIndex 2 := ⟨wt_347, wt_348, wt_16, wt_349, by decide +kernel, by decide +kernel, by decide +kernel⟩
theorem lkJ_1059 : HLS RJ0 1059 me_J3_checkIndex 3 := ⟨wt_352, wt_353, wt_18, wt_354, by decide +kernel, by decide +kernel, by decide +kernel⟩
section STR
variable {E : HEn} {F : HFx} {me me' : HMe} {pc idx n d : Nat} {L : List (Nat × Value)} {st stk : List Value} {I : HIh} {Q : Option Value → HIh → Prop}
theorem h_i2c {x v : Int32} (hd : decode me.2.1 pc = .ok (.i2c, 1)) (hv : (x.toUInt32 % 65536).toInt32 = v) (h : HGo E F me (pc + 1) L (.int v :: st) I) : HGo E F me pc L (.int x :: st) I := by
  intro p e s m args below meth c H locs ls C hP hS hl
  exact lv_i2c C.1 C.2.1 hd hv (h p e s m args below meth c H locs ls C hP hS hl)
theorem h_nret {v : Int32} {ty : FieldType} (hd : decode me.2.1 pc = .ok (.ireturn, 1)) (hr : me.2.2.2 = some ty) (hn : narrow ty (.int v) = .int v) (h : Q (some (.int v)) I) : HGo E (mF E d Q) me pc L [.int v] I := by
  intro p e s m args below meth c H locs ls C hP hS hl
  exact W.zret C.1 C.2.1 (C.2.2.1.trans hr) hn (fun t ht hW => ⟨⟨some (.int v), I, rfl, h, by rw [ht]; exact hP⟩, va_S.F hS ht⟩) hS.2.2 hd C.2.2.2.2.2.2.1
theorem h_compact (hd : decode me.2.1 pc = .ok (.getstatic 38, 3)) (hc : me.1.cls = "java/lang/String") (h : HGo E F me (pc + 3) L (.int 1 :: st) I) : HGo E F me pc L st I := by
  intro p e s m args below meth c H locs ls C hP hS hl
  have hown := C.2.2.2.2.1
  rw [hc] at hown
  exact va_gets C.1 C.2.1 C.2.2.2.2.2.2.2.2.2.1.2.2.1 hS hown (C.2.2.2.2.2.1 _ wt_334) (fun x hx => hx) hd (h p e s m args below meth c H locs ls C hP hS hl)
theorem h_sioobe (hd : decode me.2.1 pc = .ok (.getstatic 1053, 3)) (hc : me.1.cls = "java/lang/String") (h0 : HGo E F me (pc + 3) L (.null :: st) I) (h1 : HGo E F me (pc + 3) L (.ref 3000 :: st) I) : HGo E F me pc L st I := by
  intro p e s m args below meth c H locs ls C hP hS hl
  have hown := C.2.2.2.2.1
  rw [hc] at hown
  rcases C.2.2.2.2.2.2.2.2.2.1.2.2.2 with hZ | hZ
  · exact va_gets C.1 C.2.1 hZ hS hown (C.2.2.2.2.2.1 _ wt_350) (fun x hx => hx) hd (h0 p e s m args below meth c H locs ls C hP hS hl)
  · exact va_gets C.1 C.2.1 hZ hS hown (C.2.2.2.2.2.1 _ wt_350) (fun x hx => hx) hd (h1 p e s m args below meth c H locs ls C hP hS hl)
theorem h_strV {i : Nat} (hi : i < 10) (hd : decode me.2.1 pc = .ok (.getfield 9, 3)) (hc : me.1.cls = "java/lang/String") (h : HGo E F me (pc + 3) L (.ref (2000 + i) :: st) I) : HGo E F me pc L (.ref (1000 + i) :: st) I := by
  intro p e s m args below meth c H locs ls C hP hS hl
  have hown := C.2.2.2.2.1
  rw [hc] at hown
  exact vk_getf C.1 C.2.1 (C.2.2.2.2.2.2.2.2.2.1.1.1 i hi).2.2.1 hS hown (C.2.2.2.2.2.1 _ wt_1182) (fun x hx => hx) hd (h p e s m args below meth c H locs ls C hP hS hl)
theorem h_strC {i : Nat} (hi : i < 10) (hd : decode me.2.1 pc = .ok (.getfield 15, 3)) (hc : me.1.cls = "java/lang/String") (h : HGo E F me (pc + 3) L (.int 0 :: st) I) : HGo E F me pc L (.ref (1000 + i) :: st) I := by
  intro p e s m args below meth c H locs ls C hP hS hl
  have hown := C.2.2.2.2.1
  rw [hc] at hown
  exact vk_getf C.1 C.2.1 (C.2.2.2.2.2.2.2.2.2.1.1.1 i hi).2.1 hS hown (C.2.2.2.2.2.1 _ wt_1183) (fun x hx => hx) hd (h p e s m args below meth c H locs ls C hP hS hl)
theorem h_strL {i : Nat} (hi : i < 10) (hd : decode me.2.1 pc = .ok (.arraylength, 1)) (h : HGo E F me (pc + 1) L (.int (nI (strLen.getD i 0)) :: st) I) : HGo E F me pc L (.ref (2000 + i) :: st) I := by
  intro p e s m args below meth c H locs ls C hP hS hl
  exact va_tlen C.1 C.2.1 (C.2.2.2.2.2.2.2.2.2.1.1.1 i hi).2.2.2 hS rfl hd (h p e s m args below meth c H locs ls C hP hS hl)
theorem h_strB {i k : Nat} (hi : i < 10) (hk : k < strLen.getD i 0) (hk2 : k < 100) (hd : decode me.2.1 pc = .ok (.baload, 1)) (h : HGo E F me (pc + 1) L (.int ((strByt.getD i []).getD k 0) :: st) I) : HGo E F me pc L (.int (nI k) :: .ref (2000 + i) :: st) I := by
  intro p e s m args below meth c H locs ls C hP hS hl
  have hlen : ∀ i, i < 10 → strLen.getD i 0 < 100 := by decide +kernel
  exact va_tb C.1 C.2.1 (C.2.2.2.2.2.2.2.2.2.1.1.1 i hi).2.2.2 hS (vp_in_nI hk (by have := hlen i hi; omega)) (by rw [nI_clamp (by omega)]; rfl) hd (h p e s m args below meth c H locs ls C hP hS hl)
theorem h_invStr {i : Nat} {As : List Value} (hi : i < 10) (hd : decode me.2.1 pc = .ok (.invokevirtual idx, 3)) (hl' : HLV me.1.cls idx me' n) (hs : me'.1.cls = "java/lang/String") (hrm : HRm F d me') (hstk : stk = As.reverse ++ .ref (1000 + i) :: st) (hn : As.length = n) (hcat : (st.map fun v => v.category).sum ≤ 8)
    (h : HCall E me' d (.ref (1000 + i) :: As) I (fun v I' => HGo E F me (pc + 3) L (v.toList ++ st) I')) : HGo E F me pc L stk I := by
  intro p e s m args below meth c H locs ls C hP hS hl
  obtain ⟨w1, w2, w3, w4, w5, w6⟩ := hl'
  have hts : ∀ w ∈ TB, w.before args s = true := C.2.2.2.2.2.1
  have hG : GoodIn TB (wsV me.1.cls idx me'.1.cls me'.1 (cdW me' :: TB)) := tb_goodIn' (fun w hw => by
    simp only [wsV, List.cons_append, List.nil_append, List.mem_cons] at hw
    rcases hw with rfl | rfl | rfl | rfl | rfl | hw
    · exact w1
    · exact w2
    · exact w3
    · exact w4
    · exact w5
    · exact hw)
  have hrun := va_runV (e := e) (below := below) (meth := meth) (As := As.map (lif E)) (rest := st.map (lif E)) (g := F0 m pc ls (stk.map (lif E))) (H := H) (locs := locs) (cells := F.2.1) (slots := F.2.2.1) ⟨C.1, C.2.1, C.2.2.2.1, C.2.2.2.2.1, hts⟩ h (cwV n hts hG rfl rfl rfl ⟨rfl, w6⟩ hrm.1)
    ⟨HPre.blind, by rw [hs]; exact vk_recv (i := i) (adK := fun i => E.2.2.2 (1000 + i)) C.2.2.2.2.2.2.2.2.2.1.1 hi hS, fun U hU hW => ⟨rfl, HPre.of C hP hS hU hW⟩⟩ rfl (by rw [List.length_map]; exact hn) hl.1 (h_stkV E hstk) (h_cats E st hcat m pc ls _) hd hrm.2
  refine h_back hrun hS (fun a ⟨q, hq, ha⟩ => by rw [ha]; exact C.2.2.2.2.2.2.2.2.2.2.2 q hq) (fun v I' H1 locs1 hQ hP1 hS1 => ?_)
  rw [h_toL]
  exact hQ p e s m args below meth c H1 locs1 ls C hP1 hS1 hl
theorem str_len : ∀ i, i < 10 → strLen.getD i 0 = (wd i).length ∧ (nI (strLen.getD i 0) >>> ((0 : Int32) &&& 31)) = nI (wd i).length ∧ (wd i).length ≤ 7 := by decide +kernel
theorem str_chr : ∀ i, i < 10 → ∀ k, k < (wd i).length → ((((strByt.getD i []).getD k 0) &&& 255).toUInt32 % 65536).toInt32 = nI ((wd i).getD k 0) ∧ (wd i).getD k 0 < 128 := by decide +kernel
theorem chr_n : ∀ b, b < 128 → narrow .char (.int (nI b)) = .int (nI b) := by decide +kernel
theorem s_coder {i : Nat} (hi : i < 10) (q : Q (some (.int 0)) I) : HCall E me_J0_coder d [.ref (1000 + i)] I Q := by
  refine h_met (by decide) rfl (Nat.le_of_ble_eq_true rfl) ?_
  refine h_compact dJ0_coder_7d493_0 rfl ?_
  refine h_if_eq (tgt := 13) dJ0_coder_7d493_3 (by decide) (fun z => absurd z (by decide)) (fun _ => ?_)
  refine h_aload_n dJ0_coder_7d493_6 rfl 0 rfl ?_
  refine h_strC hi dJ0_coder_7d493_7 rfl ?_
  refine h_goto (tgt := 14) dJ0_coder_7d493_10 (by decide) ?_
  exact h_nret dJ0_coder_7d493_14 rfl rfl q
theorem s_isLatin1 {i : Nat} (hi : i < 10) (q : Q (some (.int 1)) I) : HCall E me_J0_isLatin1 d [.ref (1000 + i)] I Q := by
  refine h_met (by decide) rfl (Nat.le_of_ble_eq_true rfl) ?_
  refine h_compact dJ0_isLatin1_aae02_0 rfl ?_
  refine h_if_eq (tgt := 17) dJ0_isLatin1_aae02_3 (by decide) (fun z => absurd z (by decide)) (fun _ => ?_)
  refine h_aload_n dJ0_isLatin1_aae02_6 rfl 0 rfl ?_
  refine h_strC hi dJ0_isLatin1_aae02_7 rfl ?_
  refine h_if_ne (tgt := 17) dJ0_isLatin1_aae02_10 (by decide) (fun z => absurd rfl z) (fun _ => ?_)
  refine h_iconst (v := 1) dJ0_isLatin1_aae02_13 (by decide) ?_
  refine h_goto (tgt := 18) dJ0_isLatin1_aae02_14 (by decide) ?_
  exact h_nret dJ0_isLatin1_aae02_18 rfl rfl q
theorem s_length {i : Nat} (hi : i < 10) (q : Q (some (.int (nI (wd i).length))) I) : HCall E me_J0_length (d + 1) [.ref (1000 + i)] I Q := by
  refine h_met (by decide) rfl (Nat.le_of_ble_eq_true rfl) ?_
  refine h_aload_n dJ0_length_8abf5_0 rfl 0 rfl ?_
  refine h_strV hi dJ0_length_8abf5_1 rfl ?_
  refine h_strL hi dJ0_length_8abf5_4 ?_
  refine h_aload_n dJ0_length_8abf5_5 rfl 0 rfl ?_
  refine h_invStr (As := []) (st := [.int (nI (strLen.getD i 0))]) hi dJ0_length_8abf5_6 lkJ_335 rfl (h_room (by decide)) rfl rfl (Nat.le_of_ble_eq_true rfl) ?_
  refine s_coder hi ?_
  refine h_ishr dJ0_length_8abf5_9 ?_
  rw [(str_len i hi).2.1]
  exact h_iret dJ0_length_8abf5_10 rfl q
theorem s_check3 {k n : Nat} {v : Value} (hv : v.category = 1) (hk : k < n) (hn : n ≤ 7) (q : Q (some (.int (nI k))) I) : HCall E me_J3_checkIndex d [.int (nI k), .int (nI n), v] I Q := by
  have hc : lv_args 0 [.int (nI k), .int (nI n), v] = [(0, .int (nI k)), (1, .int (nI n)), (2, v)] := rfl
  refine h_met (by decide) hc (by show 1 + (1 + (v.category + 0)) ≤ 3; omega) ?_
  refine h_iload_n dJ3_checkIndex_8e157_0 rfl 0 rfl ?_
  refine h_if_lt (tgt := 9) dJ3_checkIndex_8e157_1 (by decide) (fun z => absurd z (nI_pos (by omega))) (fun _ => ?_)
  refine h_iload_n dJ3_checkIndex_8e157_4 rfl 0 rfl ?_
  refine h_iload_n dJ3_checkIndex_8e157_5 rfl 1 rfl ?_
  refine h_icmp_lt (tgt := 16) dJ3_checkIndex_8e157_6 (by decide) (fun _ => ?_) (fun z => absurd (nI_lt hk (by omega)) z)
  refine h_iload_n dJ3_checkIndex_8e157_16 rfl 0 rfl ?_
  exact h_iret dJ3_checkIndex_8e157_17 rfl q
theorem s_check0 {k n : Nat} (hk : k < n) (hn : n ≤ 7) (q : Q none I) : HCall E me_J0_checkIndex (d + 1) [.int (nI k), .int (nI n)] I Q := by
  refine h_met (by decide) rfl (Nat.le_of_ble_eq_true rfl) ?_
  refine h_iload_n dJ0_checkIndex_df160_0 rfl 0 rfl ?_
  refine h_iload_n dJ0_checkIndex_df160_1 rfl 1 rfl ?_
  refine h_sioobe dJ0_checkIndex_df160_2 rfl ?_ ?_
  · refine h_invS (As := [.int (nI k), .int (nI n), .null]) (st := []) dJ0_checkIndex_df160_5 lkJ_1059 (h_room (by decide)) rfl rfl (Nat.le_of_ble_eq_true rfl) ?_
    refine s_check3 rfl hk hn ?_
    refine h_pop dJ0_checkIndex_df160_8 rfl ?_
    exact h_vret dJ0_checkIndex_df160_9 rfl q
  · refine h_invS (As := [.int (nI k), .int (nI n), .ref 3000]) (st := []) dJ0_checkIndex_df160_5 lkJ_1059 (h_room (by decide)) rfl rfl (Nat.le_of_ble_eq_true rfl) ?_
    refine s_check3 rfl hk hn ?_
    refine h_pop dJ0_checkIndex_df160_8 rfl ?_
    exact h_vret dJ0_checkIndex_df160_9 rfl q
theorem s_char1 {i k : Nat} (hi : i < 10) (hk : k < (wd i).length) (q : Q (some (.int (nI ((wd i).getD k 0)))) I) : HCall E me_J1_charAt (d + 2) [.ref (2000 + i), .int (nI k)] I Q := by
  obtain ⟨l1, l2, l3⟩ := str_len i hi
  obtain ⟨c1, c2⟩ := str_chr i hi k hk
  refine h_met (by decide) rfl (Nat.le_of_ble_eq_true rfl) ?_
  refine h_iload_n dJ1_charAt_3b067_0 rfl 1 rfl ?_
  refine h_aload_n dJ1_charAt_3b067_1 rfl 0 rfl ?_
  refine h_strL hi dJ1_charAt_3b067_2 ?_
  rw [l1]
  refine h_invS (As := [.int (nI k), .int (nI (wd i).length)]) (st := []) dJ1_charAt_3b067_3 lkJ_9 (h_room (by decide)) rfl rfl (Nat.le_of_ble_eq_true rfl) ?_
  refine s_check0 hk l3 ?_
  refine h_aload_n dJ1_charAt_3b067_6 rfl 0 rfl ?_
  refine h_iload_n dJ1_charAt_3b067_7 rfl 1 rfl ?_
  refine h_strB hi (by omega) (by omega) dJ1_charAt_3b067_8 ?_
  refine h_sipush (v := 255) dJ1_charAt_3b067_9 (by decide) ?_
  refine h_iand dJ1_charAt_3b067_12 ?_
  refine h_i2c dJ1_charAt_3b067_13 c1 ?_
  exact h_nret dJ1_charAt_3b067_14 rfl (chr_n _ c2) q
theorem s_charAt {i k : Nat} (hi : i < 10) (hk : k < (wd i).length) (q : Q (some (.int (nI ((wd i).getD k 0)))) I) : HCall E me_J0_charAt (d + 3) [.ref (1000 + i), .int (nI k)] I Q := by
  obtain ⟨c1, c2⟩ := str_chr i hi k hk
  refine h_met (by decide) rfl (Nat.le_of_ble_eq_true rfl) ?_
  refine h_aload_n dJ0_charAt_5068e_0 rfl 0 rfl ?_
  refine h_invStr (As := []) (st := []) hi dJ0_charAt_5068e_1 lkJ_492 rfl (h_room (by decide)) rfl rfl (Nat.le_of_ble_eq_true rfl) ?_
  refine s_isLatin1 hi ?_
  refine h_if_eq (tgt := 16) dJ0_charAt_5068e_4 (by decide) (fun z => absurd z (by decide)) (fun _ => ?_)
  refine h_aload_n dJ0_charAt_5068e_7 rfl 0 rfl ?_
  refine h_strV hi dJ0_charAt_5068e_8 rfl ?_
  refine h_iload_n dJ0_charAt_5068e_11 rfl 1 rfl ?_
  refine h_invS (As := [.ref (2000 + i), .int (nI k)]) (st := []) dJ0_charAt_5068e_12 lkJ_495 (h_room (by decide)) rfl rfl (Nat.le_of_ble_eq_true rfl) ?_
  refine s_char1 hi hk ?_
  exact h_nret dJ0_charAt_5068e_15 rfl (chr_n _ c2) q
theorem rw_28 {f : Nat → Nat} {n P i : Nat} (hi : i < 10) (ht : TkX I f n P) (hK : tK f n P = 1) (hE : tE f n P - P = (wd i).length) (q1 : tokB f n P = wd i → ∀ K, Fr 19 [4, 5, 6] I K → TkX K f n (tN f n P) → Q (some (.int 1)) K) (q0 : ¬ tokB f n P = wd i → Q (some (.int 0)) I) : ∀ (m k : Nat), k + m = (wd i).length → (∀ j, j < k → f (P + j) = (wd i).getD j 0) → HGo E (mF E (d + 4) Q) me_X7_readWord 28 [(2, .int (nI k)), (0, .ref 19), (1, .ref (1000 + i))] [] I
  | m, k, hk, hm => by
    obtain ⟨l1, l2, l3⟩ := str_len i hi
    have ht' := ht
    obtain ⟨⟨x1, x2, x3⟩, hPn, t4, t5, t6⟩ := ht
    have hEb := tE_b (f := f) hPn
    refine h_iload_n dX7_readWord_28 rfl 0 rfl ?_
    refine h_aload_n dX7_readWord_29 rfl 2 rfl ?_
    refine h_invStr (As := []) (st := [.int (nI k)]) hi dX7_readWord_30 lkJ_118 rfl (h_room (by decide)) rfl rfl (Nat.le_of_ble_eq_true rfl) ?_
    refine s_length (d := d + 2) hi ?_
    refine h_icmp_ge (tgt := 62) dX7_readWord_33 (by decide) (fun z => ?_) (fun z => ?_)
    all_goals rw [nI_leI (by omega) (by omega)] at z
    · refine h_aload_n dX7_readWord_62 rfl 1 rfl ?_
      refine h_invV (As := []) (st := []) dX7_readWord_63 lk_X7_33 (h_room (by decide)) nl_19 zk_19 (by decide) rfl rfl rfl (Nat.le_of_ble_eq_true rfl) ?_
      refine c_nextToken (d := d + 1) (p := tE f n P) ⟨x1, x2, x3⟩ hEb.2.1 t5 (fun J f1 f4 f5 f6 => ?_)
      refine h_iconst (v := 1) dX7_readWord_66 (by decide) ?_
      refine h_zret dX7_readWord_67 rfl rfl ?_
      exact q1 (tokB_eq.mpr ⟨hE, fun j hj => hm j (by omega)⟩) J f1 ⟨(show TxX I f n from ⟨x1, x2, x3⟩).fr f1 (by decide), tN_le hPn, f4, f5, f6⟩
    · obtain ⟨m, rfl⟩ : ∃ j, m = j + 1 := ⟨m - 1, by omega⟩
      have hk' : k < (wd i).length := by omega
      have hb := (x3 (P + k) (by omega)).1
      have hc2 := (str_chr i hi k hk').2
      refine h_aload_n dX7_readWord_36 rfl 1 rfl ?_
      refine h_aload_n dX7_readWord_37 rfl 1 rfl ?_
      refine gf_6_4 dX7_readWord_38 hl_X7_43 nl_19 zk_19 ?_
      refine h_iload_n dX7_readWord_41 rfl 0 rfl ?_
      refine h_iadd dX7_readWord_42 ?_
      rw [t4, nI_add]
      refine h_invV (As := [.int (nI (P + k))]) (st := []) dX7_readWord_43 lk_X7_52 (h_room (by decide)) nl_19 zk_19 (by decide) rfl rfl rfl (Nat.le_of_ble_eq_true rfl) ?_
      refine c_X7_byteAt (d := d + 2) ?_
      rw [x1, fByte_n _ (by omega) x2, (x3 (P + k) (by omega)).2]
      refine h_aload_n dX7_readWord_46 rfl 2 rfl ?_
      refine h_iload_n dX7_readWord_47 rfl 0 rfl ?_
      refine h_invStr (As := [.int (nI k)]) (st := [.int (nI (f (P + k)))]) hi dX7_readWord_48 lkJ_123 rfl (h_room (by decide)) rfl rfl (Nat.le_of_ble_eq_true rfl) ?_
      refine s_charAt hi hk' ?_
      refine h_icmp_eq (tgt := 56) dX7_readWord_51 (by decide) (fun y => ?_) (fun y => ?_)
      all_goals rw [nI_eq (by omega) (by omega)] at y
      · refine h_iinc (v := nI (k + 1)) (L' := [(2, .int (nI (k + 1))), (0, .ref 19), (1, .ref (1000 + i))]) dX7_readWord_56 0 rfl (nI_1 k) (by decide) rfl ?_
        refine h_goto (tgt := 28) dX7_readWord_59 (by decide) ?_
        refine rw_28 hi ht' hK hE q1 q0 m (k + 1) (by omega) (fun j hj => ?_)
        by_cases e : j = k
        · subst e; exact y
        · exact hm j (by omega)
      · refine h_iconst (v := 0) dX7_readWord_54 (by decide) ?_
        refine h_zret dX7_readWord_55 rfl rfl ?_
        exact q0 (fun u => y ((tokB_eq.mp u).2 k hk'))
theorem wd_first : ∀ i, i < 10 → 0 < (wd i).length ∧ srt ((wd i).getD 0 0) = 1 := by decide +kernel
theorem rword (E : HEn) : RWord E := by
  intro d Q J f n P i hi ht q1 q0
  obtain ⟨l1, l2, l3⟩ := str_len i hi
  have ht' := ht
  obtain ⟨⟨x1, x2, x3⟩, hPn, t4, t5, t6⟩ := ht
  have hEb := tE_b (f := f) hPn
  have k3 := tK_le f n P
  have e6 : J 19 6 = 1 ↔ tK f n P = 1 := by rw [t6]; exact nI_eq (b := 1) (by omega) (by decide)
  have e54 : J 19 5 - J 19 4 = nI (wd i).length ↔ tE f n P - P = (wd i).length := by rw [t5, t4, nI_sub (by omega) (by omega), nI_eq (by omega) (by omega)]
  have no : HGo E (mF E (d + 4) Q) me_X7_readWord 24 [(0, .ref 19), (1, .ref (1000 + i))] [] J ∨ tokB f n P = wd i := by
    by_cases h : tokB f n P = wd i
    · exact Or.inr h
    · refine Or.inl ?_
      refine h_iconst (v := 0) dX7_readWord_24 (by decide) ?_
      exact h_zret dX7_readWord_25 rfl rfl (q0 h)
  refine h_met (by decide) rfl (Nat.le_of_ble_eq_true rfl) ?_
  refine h_aload_n dX7_readWord_0 rfl 0 rfl ?_
  refine gf_6_6 dX7_readWord_1 hl_X7_46 nl_19 zk_19 ?_
  refine h_iconst (v := 1) dX7_readWord_4 (by decide) ?_
  refine h_icmp_ne (tgt := 24) dX7_readWord_5 (by decide) (fun z => ?_) (fun z => ?_)
  all_goals rw [e6] at z
  · refine no.resolve_right (fun u => z ?_)
    have hb := tokB_eq.mp u
    have wf := wd_first i hi
    have h0 := hb.2 0 wf.1
    rw [Nat.add_zero] at h0
    have hPl : P < n := by
      have := hb.1
      by_cases q : P < n
      · exact q
      · have : tE f n P = P := by unfold tE; rw [if_neg q]
        omega
    unfold tK
    rw [if_pos hPl, h0, wf.2]; rfl
  · refine h_aload_n dX7_readWord_8 rfl 0 rfl ?_
    refine gf_6_5 dX7_readWord_9 hl_X7_30 nl_19 zk_19 ?_
    refine h_aload_n dX7_readWord_12 rfl 0 rfl ?_
    refine gf_6_4 dX7_readWord_13 hl_X7_43 nl_19 zk_19 ?_
    refine h_isub dX7_readWord_16 ?_
    refine h_aload_n dX7_readWord_17 rfl 1 rfl ?_
    refine h_invStr (As := []) (st := [.int (J 19 5 - J 19 4)]) hi dX7_readWord_18 lkJ_118 rfl (h_room (by decide)) rfl rfl (Nat.le_of_ble_eq_true rfl) ?_
    refine s_length (d := d + 2) hi ?_
    refine h_icmp_eq (tgt := 26) dX7_readWord_21 (by decide) (fun y => ?_) (fun y => ?_)
    all_goals rw [e54] at y
    · refine h_iconst (v := 0) dX7_readWord_26 (by decide) ?_
      refine h_istore_n (L' := [(2, .int 0), (0, .ref 19), (1, .ref (1000 + i))]) dX7_readWord_27 rfl (by decide) rfl ?_
      exact rw_28 hi ht' z y q1 q0 (wd i).length 0 (by omega) (fun j hj => absurd hj (Nat.not_lt_zero _))
    · exact no.resolve_right (fun u => y (tokB_eq.mp u).1)
end STR
