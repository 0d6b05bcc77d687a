/-! the text, side by side: fault and sunday -/
theorem cpy_in {f g : Nat → Int32} {n j : Nat} (h : j < n) : va_cpy f g 0 0 n j = f j := by
  unfold va_cpy
  rw [if_pos ⟨Nat.zero_le _, by omega⟩, show 0 + (j - 0) = j by omega]
theorem numsP_le {f : Nat → Nat} {n : Nat} {stp : Int32 → Int32} {hi : Int32} {blk : Nat → Bool} : ∀ (m i P : Nat) (ab : Int32), P ≤ n → (numsP f n stp hi blk m i P ab).2.2 ≤ n
  | 0, _, _, _, h => h
  | m + 1, i, P, ab, h => by
    unfold numsP
    split
    · exact h
    · split
      · exact h
      · split
        · exact h
        · exact numsP_le m (i + 1) _ _ (tN_le h)
theorem fixP_le {f : Nat → Nat} {n : Nat} : ∀ (t : List (Int32 × Int32)) (P : Nat), P ≤ n → (fixP f n t P).2.2 ≤ n
  | [], _, h => h
  | (a, b) :: t, P, h => by
    unfold fixP
    split
    · exact h
    · exact fixP_le t _ (tN_le h)
theorem restP_le {f : Nat → Nat} {n k vc w P : Nat} (h : P ≤ n) : (restP f n k vc w P).2.2 ≤ n := by
  unfold restP
  repeat' split
  all_goals first | exact numsP_le _ _ _ _ h | exact fixP_le _ _ h | exact h
theorem fltP_b {f : Nat → Nat} {n : Nat} : ∀ (m P k vc : Nat), P ≤ n → (∀ p, (fltP f n m P k vc).1 = some p → p ≤ n) ∧ (fltP f n m P k vc).2.length ≤ m
  | 0, P, _, _, h => ⟨fun p e => by cases e; exact h, Nat.le_refl _⟩
  | m + 1, P, k, vc, h => by
    have hr : (restP f n k vc (wO f n P).toNatClampNeg (tN f n P)).2.2 ≤ n := restP_le (tN_le h)
    unfold fltP
    split
    · exact ⟨fun p e => by cases e; exact h, Nat.zero_le _⟩
    split
    · exact ⟨fun p e => by cases e; exact hr, Nat.zero_le _⟩
    split
    · exact ⟨fun p e => (by cases e), Nat.succ_le_succ (Nat.zero_le _)⟩
    split
    · have ih := fltP_b (f := f) (n := n) m (tN f n (restP f n k vc (wO f n P).toNatClampNeg (tN f n P)).2.2) (kN k (wO f n P).toNatClampNeg (restP f n k vc (wO f n P).toNatClampNeg (tN f n P)).2.1) (vN2 vc (wO f n P).toNatClampNeg (restP f n k vc (wO f n P).toNatClampNeg (tN f n P)).2.1) (tN_le hr)
      exact ⟨ih.1, Nat.succ_le_succ ih.2⟩
    · exact ⟨fun p e => by cases e; exact hr, Nat.succ_le_succ (Nat.zero_le _)⟩
theorem text_f {I : HIh} (h : RText I) : ∃ f n, TxX I f n ∧ TxM I f n := by
  obtain ⟨n, h1, h2, h3, h4⟩ := h
  refine ⟨fun j => (I 20 j).toNatClampNeg, n, ⟨h2, h1, fun j hj => ?_⟩, ⟨h3, h1, fun j hj => ?_⟩⟩
  · obtain ⟨e, b, hb, eb⟩ := h4 j hj
    dsimp only
    rw [eb, nI_clamp (by omega)]
    exact ⟨hb, rfl⟩
  · obtain ⟨e, b, hb, eb⟩ := h4 j hj
    dsimp only
    rw [← e, eb, nI_clamp (by omega)]
    exact ⟨hb, rfl⟩
theorem text_s {I : HIh} {c : HCf} (hc : CC I c) (hf : RFst I) : ∃ s0 : HCn, SOk (c, s0) ∧ DX (setI (setI (setI (setI (setI (setI (setI (setI (setI I 26 (va_cpy (I 6) (I 26) 0 0 6)) 27 (va_cpy (I 7) (I 27) 0 0 4)) 28 (va_cpy (I 8) (I 28) 0 0 4)) 29 (va_cpy (I 9) (I 29) 0 0 24)) 31 (va_cpy (I 11) (I 31) 0 0 30)) 30 (upd (I 30) 1 (I 10 1))) 21 (upd (I 21) 9 (I 1 9))) 21 (upd (upd (I 21) 9 (I 1 9)) 10 (I 1 10))) 21 (upd (upd (upd (I 21) 9 (I 1 9)) 10 (I 1 10)) 11 (I 1 11))) (c, s0) ∧ (MC I c → DM I (c, s0)) := by
  obtain ⟨e10, s0, l0, r0, b0⟩ := hf
  obtain ⟨h1, h2, h3, h4, h5, h6, h7, h8⟩ := hc
  have hK := h8.2.1
  have hV := h8.2.2.2.2.2.2.1
  refine ⟨s0, ⟨h8, b0⟩, ⟨h1, h2, h3, fun k hk => ?_, fun i hi => ?_, fun i hi hc => ?_, fun t ht => ?_, ?_⟩, fun hm => ?_⟩
  · show va_cpy (I 6) (I 26) 0 0 6 k = _
    have hk' : k < cK c := hk
    rw [cpy_in (by omega)]; exact h4 k hk
  · show va_cpy (I 7) (I 27) 0 0 4 i = _
    rw [cpy_in hi]; exact h5 i hi
  · show va_cpy (I 8) (I 28) 0 0 4 i = _
    rw [cpy_in hi]; exact h6 i hi hc
  · show va_cpy (I 9) (I 29) 0 0 24 t = _
    have ht' : t < cv c := ht
    rw [cpy_in (by omega)]; exact h7 t ht
  · show LotC (va_cpy (I 11) (I 31) 0 0 30) s0
    exact l0.cpy
  · obtain ⟨m1, m2, m3, m4, m5, m6, m7, m8⟩ := hm
    exact ⟨m1, m2, m3, m4, m5, m6, m7, r0⟩
theorem Rel.mv {I J : HIh} (h : Rel I) (e : ∀ a, a ∈ keyL → a ≠ 19 → a ≠ 87 → J a = I a) (e19 : J 19 2 = I 19 2) (e87 : ∀ j, j ∉ [5, 14, 15, 16, 17, 18] → J 87 j = I 87 j) : Rel J := by
  obtain ⟨c, s, t, hc, hm, hn, hk, ht, ho, hf, ha⟩ := h
  have g : ∀ a : Nat, a ∈ keyL → a ≠ 19 → a ≠ 87 → ∀ j, J a j = I a j := fun a ha h1 h2 j => congrFun (e a ha h1 h2) j
  refine ⟨c, s, t, hc.of ⟨e 1 (by decide) (by decide) (by decide), e 6 (by decide) (by decide) (by decide), e 7 (by decide) (by decide) (by decide), e 8 (by decide) (by decide) (by decide), e 9 (by decide) (by decide) (by decide)⟩, hm.of ⟨e87 6 (by decide), e87 13 (by decide), e87 11 (by decide), e 92 (by decide) (by decide) (by decide), e 94 (by decide) (by decide) (by decide), e 95 (by decide) (by decide) (by decide), e 96 (by decide) (by decide) (by decide)⟩, hn.of ⟨e 13 (by decide) (by decide) (by decide), g 12 (by decide) (by decide) (by decide) 1, fun x _ => g 88 (by decide) (by decide) (by decide) x⟩, hk.of ⟨g 0 (by decide) (by decide) (by decide) 6, e 89 (by decide) (by decide) (by decide), e 15 (by decide) (by decide) (by decide), e 16 (by decide) (by decide) (by decide), e 17 (by decide) (by decide) (by decide), e 18 (by decide) (by decide) (by decide), fun x _ _ => g 88 (by decide) (by decide) (by decide) x⟩, ht.of ⟨e19, e87 3 (by decide), e 20 (by decide) (by decide) (by decide), e 90 (by decide) (by decide) (by decide)⟩, ho.of ⟨g 80 (by decide) (by decide) (by decide) 6, e87 27 (by decide), e 83 (by decide) (by decide) (by decide), e 84 (by decide) (by decide) (by decide), e 101 (by decide) (by decide) (by decide), e 102 (by decide) (by decide) (by decide)⟩, hf.of ⟨g 10 (by decide) (by decide) (by decide) 1, e 11 (by decide) (by decide) (by decide), e 93 (by decide) (by decide) (by decide)⟩, ha.of ⟨g 32 (by decide) (by decide) (by decide) 4, g 32 (by decide) (by decide) (by decide) 5, e 57 (by decide) (by decide) (by decide), e 69 (by decide) (by decide) (by decide)⟩⟩
theorem keyD : ∀ a, a ∈ keyL → a ≠ 19 → a ∉ [19, 21, 26, 27, 28, 29, 30, 31] := by decide +kernel
theorem keyN : ∀ a, a ∈ keyL → a ≠ 91 := by decide +kernel
theorem Rel.txt {I K K2 : HIh} (h : Rel I) (k1 : ∀ a, a ∉ [19, 21, 26, 27, 28, 29, 30, 31] → K a = I a) (k2 : ∀ j, j ∉ [3, 4, 5, 6, 7] → K 19 j = I 19 j) (ff : FrF K K2) : Rel K2 := by
  refine h.mv (fun a ha n19 n87 => (ff.1 a n87 (keyN a ha)).trans (k1 a (keyD a ha n19))) ?_ (fun j hj => (ff.2 j hj).trans (by rw [k1 87 (by decide)]))
  rw [ff.1 19 (by decide) (by decide)]; exact k2 2 (by decide)
theorem TxM.mv {I J : HIh} {f : Nat → Nat} {n : Nat} (h : TxM I f n) (e : J 87 = I 87 ∧ J 90 = I 90) : TxM J f n := by
  obtain ⟨e1, e2⟩ := e
  unfold TxM; rw [e1, e2]; exact h
section OPTXT
variable {E : HEn} {d : Nat} {I : HIh}
theorem t_fault (hrw : RWord E) (h : Rel I) : Twin E d me_X11_fault me_X12_fault [.ref 0] [.ref 87] I := by
  have H := h
  obtain ⟨c, s, t, hc, hm, hn, hk, ht, ho, hf, ha⟩ := h
  have hV : cv c ≤ 24 := hc.2.2.2.2.2.2.2.2.2.2.2.2.2.1
  obtain ⟨f, n, tx, tm⟩ := text_f ht
  obtain ⟨s0, h0, hx, hd⟩ := text_s hc hf
  refine h_met (by decide) rfl (Nat.le_of_ble_eq_true rfl) (sg_X11_fault_0 (c_readOver (d := d + 63) hrw h0 hx tx (fun K k1 k2 k3 _ => sg_X11_fault_11 ?_)))
  refine m_fault (d := d + 63) (f := f) (n := n) (k := cK c) (vc := cv c) (tm.mv ⟨k1 87 (by decide), k1 90 (by decide)⟩) (by rw [k1 87 (by decide)]; exact hm.1) (by rw [k1 87 (by decide)]; exact hm.2.1) hV (fun K2 ff _ => ?_)
  exact ⟨_, rfl, rfl, H.txt k1 k2 ff⟩
theorem t_sunday (hrw : RWord E) (h : Rel I) : Twin E d me_X11_sunday me_X12_sunday [.ref 0] [.ref 87] I := by
  have H := h
  obtain ⟨c, s, t, hc, hm, hn, hk, ht, ho, hf, ha⟩ := h
  have hV : cv c ≤ 24 := hc.2.2.2.2.2.2.2.2.2.2.2.2.2.1
  have h10 : I 10 1 = 0 := hf.1
  obtain ⟨f, n, tx, tm⟩ := text_f ht
  obtain ⟨s0, h0, hx, hd⟩ := text_s hc hf
  have hb := fltP_b (f := f) (n := n) 10 (tP f n 0) (cK c) (cv c) (tP_b (Nat.zero_le n)).2
  have hn200 := tx.2.1
  refine h_met (by decide) rfl (Nat.le_of_ble_eq_true rfl) (sg_X11_sunday_0 (c_readOver (d := d + 63) hrw h0 hx tx (fun K k1 k2 k3 hD => ?_)))
  generalize hR : fltP f n 10 (tP f n 0) (cK (c, s0).1) (cv (c, s0).1) = R at *
  have hR' : fltP f n 10 (tP f n 0) (cK c) (cv c) = R := hR
  obtain ⟨r, L⟩ := R
  have e87 : K 87 = I 87 := k1 87 (by decide)
  cases r with
  | some p =>
    have hp := hb.1 p rfl
    have hne : ¬ nI p = -1 := nI_nm1 (by omega)
    refine sg_X11_sunday_11 (fun z => absurd z hne) (fun _ => ?_)
    refine h_met (by decide) rfl (Nat.le_of_ble_eq_true rfl) (sg_X12_sunday_0 ?_)
    refine m_fault (d := d + 62) (f := f) (n := n) (k := cK c) (vc := cv c) (tm.mv ⟨e87, k1 90 (by decide)⟩) (by rw [e87]; exact hm.1) (by rw [e87]; exact hm.2.1) hV (fun K2 ff _ => ?_)
    rw [hR']
    exact sg_X12_sunday_4 (fun z => absurd z hne) (fun _ => ⟨_, rfl, rfl, H.txt k1 k2 ff⟩)
  | none =>
    obtain ⟨⟨dx, ok⟩, h3⟩ := hD rfl
    dsimp only at dx ok h3 hb
    have hS := okAll_ok h0 ok
    refine sg_X11_sunday_11 (fun _ => ?_) (fun z => absurd rfl z)
    refine h_met (by decide) rfl (Nat.le_of_ble_eq_true rfl) (sg_X9_copyFrom_0 (d := d + 67) (sg_X11_sunday_32 ?_))
    generalize hY : (setI (setI (setI (setI (setI (setI (setI (setI (setI K 6 (va_cpy (K 26) (K 6) 0 0 6)) 7 (va_cpy (K 27) (K 7) 0 0 4)) 8 (va_cpy (K 28) (K 8) 0 0 4)) 9 (va_cpy (K 29) (K 9) 0 0 24)) 11 (va_cpy (K 31) (K 11) 0 0 30)) 10 (upd (K 10) 1 (K 30 1))) 1 (upd (K 1) 9 (K 21 9))) 1 (upd (upd (K 1) 9 (K 21 9)) 10 (K 21 10))) 1 (upd (upd (upd (K 1) 9 (K 21 9)) 10 (K 21 10)) 11 (K 21 11))) = Y
    have y1 : Y 1 9 = K 21 9 ∧ Y 1 10 = K 21 10 ∧ Y 1 11 = K 21 11 := by rw [← hY]; exact ⟨rfl, rfl, rfl⟩
    have y6 : Y 6 = va_cpy (K 26) (K 6) 0 0 6 ∧ Y 7 = va_cpy (K 27) (K 7) 0 0 4 ∧ Y 8 = va_cpy (K 28) (K 8) 0 0 4 ∧ Y 9 = va_cpy (K 29) (K 9) 0 0 24 ∧ Y 11 = va_cpy (K 31) (K 11) 0 0 30 ∧ Y 10 1 = K 30 1 := by rw [← hY]; exact ⟨rfl, rfl, rfl, rfl, rfl, rfl⟩
    have y0 : Y 19 = K 19 ∧ (∀ a, 82 ≤ a → Y a = K a) := by
      rw [← hY]
      refine ⟨rfl, fun a ha => ?_⟩
      rw [setI_ne _ _ (by omega), setI_ne _ _ (by omega), setI_ne _ _ (by omega), setI_ne _ _ (by omega), setI_ne _ _ (by omega), setI_ne _ _ (by omega), setI_ne _ _ (by omega), setI_ne _ _ (by omega), setI_ne _ _ (by omega)]
    clear hY
    obtain ⟨y11, y12, y13⟩ := y1
    obtain ⟨z6, z7, z8, z9, z11, z10⟩ := y6
    obtain ⟨y19, y87⟩ := y0
    obtain ⟨d1, d2, d3, d4, d5, d6, d7, d8⟩ := dx
    generalize hS' : L.foldl tellP (c, s0) = S at *
    have hK6 := hS.1.2.1
    have hV6 := hS.1.2.2.2.2.2.2.1
    have cY : CC Y S.1 := ⟨y11.trans d1, y12.trans d2, y13.trans d3, fun k hk => by rw [z6, cpy_in (by omega)]; exact d4 k hk, fun i hi => by rw [z7, cpy_in hi]; exact d5 i hi, fun i hi hc => by rw [z8, cpy_in hi]; exact d6 i hi hc, fun t ht => by rw [z9, cpy_in (by omega)]; exact d7 t ht, hS.1⟩
    have lY : LotC (Y 11) S.2 := by rw [z11]; exact d8.cpy
    have g19 : Y 19 3 = nI L.length := by rw [y19]; exact h3
    have g10 : Y 10 1 = 0 := by rw [z10, k3]; exact h10
    generalize hX : (setI (setI (setI (setI (setI (setI Y 13 (va_cpy (Y 11) (Y 13) 0 0 30)) 12 (upd (Y 12) 1 (Y 10 1))) 19 (upd (Y 19) 2 0)) 80 (upd (Y 80) 6 0)) 0 (upd (Y 0) 6 0)) 32 (upd (Y 32) 4 (-1))) = X
    have xs : X 13 = va_cpy (Y 11) (Y 13) 0 0 30 ∧ X 12 1 = Y 10 1 ∧ X 19 2 = 0 ∧ X 80 6 = 0 ∧ X 0 6 = 0 ∧ X 32 4 = -1 ∧ X 10 = Y 10 ∧ X 11 = Y 11 := by rw [← hX]; exact ⟨rfl, rfl, rfl, rfl, rfl, rfl, rfl, rfl⟩
    have xc : CC X S.1 := cY.of (by rw [← hX]; exact ⟨rfl, rfl, rfl, rfl, rfl⟩)
    have x87 : ∀ a, 82 ≤ a → X a = I a := fun a ha => by
      rw [← hX, setI_ne _ _ (by omega), setI_ne _ _ (by omega), setI_ne _ _ (by omega), setI_ne _ _ (by omega), setI_ne _ _ (by omega), setI_ne _ _ (by omega), y87 a ha]
      exact k1 a (fun w => by simp at w; omega)
    clear hX
    obtain ⟨x13, x12, x19, x80, x0, x32, x10, x11⟩ := xs
    refine h_met (by decide) rfl (Nat.le_of_ble_eq_true rfl) (sg_X12_sunday_0 ?_)
    refine m_fault (d := d + 62) (f := f) (n := n) (k := cK c) (vc := cv c) (tm.mv ⟨x87 87 (by decide), x87 90 (by decide)⟩) (by rw [x87 87 (by decide)]; exact hm.1) (by rw [x87 87 (by decide)]; exact hm.2.1) hV (fun K2 ff hr => ?_)
    rw [hR'] at hr ⊢
    obtain ⟨r5, rL⟩ := hr rfl
    dsimp only at r5 rL
    refine sg_X12_sunday_4 (fun _ => ?_) (fun z => absurd rfl z)
    have f87 : ∀ a, 88 ≤ a → a ≠ 91 → K2 a = I a := fun a ha n91 => (ff.1 a (by omega) n91).trans (x87 a (by omega))
    have dm0 : DM K2 (c, s0) := by
      obtain ⟨m1, m2, m3, m4, m5, m6, m7, m8⟩ := hd hm
      have e : ∀ j, j ∉ [5, 14, 15, 16, 17, 18] → K2 87 j = I 87 j := fun j hj => (ff.2 j hj).trans (by rw [x87 87 (by decide)])
      exact ⟨(e 6 (by decide)).trans m1, (e 13 (by decide)).trans m2, (e 11 (by decide)).trans m3, by rw [f87 92 (by decide) (by decide)]; exact m4, by rw [f87 94 (by decide) (by decide)]; exact m5, by rw [f87 95 (by decide) (by decide)]; exact m6, by rw [f87 96 (by decide) (by decide)]; exact m7, by rw [f87 93 (by decide) (by decide)]; exact m8⟩
    refine m_tells (d := d + 62) (n := L.length) L 0 (c, s0) K2 (by omega) hb.2 h0 ok dm0 r5 (fun j hj => by rw [Nat.zero_add]; exact (rL j hj).1) (fun K3 e3 dm => ?_)
    rw [hS'] at dm
    refine m_begin (d := d + 68) (fun g g1 g2 g3 => sg_X12_sunday_39 ?_)
    obtain ⟨m1, m2, m3, m4, m5, m6, m7, m8⟩ := dm
    have a5 : (setI K3 88 g) 87 5 = nI L.length := by rw [setI_ne _ _ (by decide)]; exact (e3.2 5 (by decide)).trans r5
    refine ⟨nI L.length, vI g19, vI a5, ?_⟩
    have lo : ∀ a, a < 87 → K3 a = X a := fun a ha => by
      rw [e3.1 a (fun w => by simp at w; omega), ff.1 a (by omega) (by omega)]
    generalize hZ : (setI (setI (setI (setI (setI K3 88 g) 87 (upd ((setI K3 88 g) 87) 27 0)) 89 (upd ((setI K3 88 g) 89) 0 0)) 89 (upd (upd ((setI K3 88 g) 89) 0 0) 1 0)) 87 (upd (upd ((setI K3 88 g) 87) 27 0) 3 0)) = Z
    have zlo : ∀ a, a < 87 → Z a = X a := fun a ha => by
      rw [← hZ, setI_ne _ _ (by omega), setI_ne _ _ (by omega), setI_ne _ _ (by omega), setI_ne _ _ (by omega), setI_ne _ _ (by omega)]
      exact lo a ha
    have zs : Z 87 6 = K3 87 6 ∧ Z 87 13 = K3 87 13 ∧ Z 87 11 = K3 87 11 ∧ Z 87 27 = 0 ∧ Z 87 3 = 0 ∧ Z 89 0 = 0 ∧ Z 89 1 = 0 ∧ Z 88 = g := by rw [← hZ]; exact ⟨rfl, rfl, rfl, rfl, rfl, rfl, rfl, rfl⟩
    have zh : Z 92 = K3 92 ∧ Z 93 = K3 93 ∧ Z 94 = K3 94 ∧ Z 95 = K3 95 ∧ Z 96 = K3 96 := by rw [← hZ]; exact ⟨rfl, rfl, rfl, rfl, rfl⟩
    clear hZ
    obtain ⟨q6, q13, q11, q27, q3, q890, q891, q88⟩ := zs
    obtain ⟨q92, q93, q94, q95, q96⟩ := zh
    have rowg : RowC (Z 88) 0 S.2 := by
      rw [q88]
      exact m8.same (fun j hj => by rw [Nat.zero_add]; exact g1 j hj)
    have lotX : LotC (Z 11) S.2 := by rw [zlo 11 (by decide), x11]; exact lY
    refine ⟨S.1, S.2, 0, xc.of ⟨zlo 1 (by decide), zlo 6 (by decide), zlo 7 (by decide), zlo 8 (by decide), zlo 9 (by decide)⟩, ⟨q6.trans m1, q13.trans m2, q11.trans m3, by rw [q92]; exact m4, by rw [q94]; exact m5, by rw [q95]; exact m6, by rw [q96]; exact m7, hS.1⟩, ⟨?_, ?_, rowg, by rw [q88]; exact g2, fun k hk => ?_, Nat.zero_le _⟩, ⟨0, by decide, ?_, fun k hk => ⟨?_, fun z => ?_⟩⟩, ⟨0, Nat.zero_le _, ?_, q3, fun j hj => absurd hj (Nat.not_lt_zero _)⟩, ⟨0, Nat.zero_le _, ?_, q27, fun j hj => absurd hj (Nat.not_lt_zero _)⟩, ⟨?_, S.2, lotX, by rw [q93]; exact m8, hS.2⟩, Or.inl ?_⟩
    · rw [zlo 13 (by decide), x13]; exact lY.cpy
    · rw [zlo 12 (by decide), x12]; exact g10
    · have b0 := hS.2 0 (by decide) k hk
      have b1 := hS.2 1 (by decide) k hk
      have b2 := hS.2 2 (by decide) k hk
      have b3 := hS.2 3 (by decide) k hk
      have b4 := hS.2 4 (by decide) k hk
      omega
    · rw [zlo 0 (by decide)]; exact x0
    · rw [Nat.zero_testBit, if_neg (by decide)]
      rcases (show k = 0 ∨ k = 1 by omega) with rfl | rfl
      · exact q890
      · exact q891
    · rw [Nat.zero_testBit] at z; cases z
    · rw [zlo 19 (by decide)]; exact x19
    · rw [zlo 80 (by decide)]; exact x80
    · rw [zlo 10 (by decide), x10]; exact g10
    · rw [zlo 32 (by decide)]; exact x32
end OPTXT
