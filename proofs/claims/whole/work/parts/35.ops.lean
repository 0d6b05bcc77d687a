/-! the calls, side by side: kept ones, people, counts -/
theorem LotC.cpy {f g : Nat → Int32} {s : HCn} (h : LotC f s) : LotC (va_cpy f g 0 0 30) s := fun o ho k hk => by
  unfold va_cpy
  rw [if_pos ⟨by omega, by omega⟩, show 0 + (6 * o + k - 0) = 6 * o + k by omega]
  exact h o ho k hk
theorem RowC.cpy {f g : Nat → Int32} {s : HCn} {a b : Nat} (h : RowC f (31 * a) s) (e : ∀ j, j < 31 → g (31 * b + j) = f (31 * a + j)) : RowC g (31 * b) s :=
  ⟨fun k hk => by rw [e k (by omega)]; exact h.1 k hk, fun i hi k hk => by
    have := h.2 i hi k hk
    rw [show 31 * b + 6 + 6 * i + k = 31 * b + (6 + 6 * i + k) by omega, e _ (by omega), show 31 * a + (6 + 6 * i + k) = 31 * a + 6 + 6 * i + k by omega]
    exact this⟩
theorem RowC.same {f g : Nat → Int32} {s : HCn} {b : Nat} (h : RowC f b s) (e : ∀ j, j < 30 → g (b + j) = f (b + j)) : RowC g b s :=
  ⟨fun k hk => by rw [e k (by omega)]; exact h.1 k hk, fun i hi k hk => by
    rw [show b + 6 + 6 * i + k = b + (6 + 6 * i + k) by omega, e _ (by omega), show b + (6 + 6 * i + k) = b + 6 + 6 * i + k by omega]
    exact h.2 i hi k hk⟩
theorem bit_or : ∀ b, b < 4 → ∀ k, k < 2 → (b ||| 1 <<< k) < 4 ∧ nI b ||| ((1 : Int32) <<< (nI k &&& 31)) = nI (b ||| 1 <<< k) ∧ (∀ j, j < 2 → (b ||| 1 <<< k).testBit j = (b.testBit j || decide (j = k))) ∧ ((((nI b >>> (nI k &&& 31)) &&& 1) = 0) ↔ b.testBit k = false) := by decide +kernel
section OPS4
variable {E : HEn} {d : Nat} {I : HIh}
theorem keep_out {Q : Option Value → HIh → Prop} {a : Int32} (c : ¬ (0 ≤ a ∧ a < 2)) (q : Q (some (.int (-2))) I) : HGo E (mF E (d + 2) Q) me_X11_keep 0 [(0, .ref 0), (1, .int a)] [] I := by
  refine h_iload_n dX11_keep_0 rfl 1 rfl ?_
  refine h_if_lt (tgt := 9) dX11_keep_1 (by decide) (fun c1 => ?_) (fun c1 => ?_)
  · refine h_bipush (v := (-2)) dX11_keep_9 (by decide) ?_
    exact h_iret dX11_keep_11 rfl q
  · refine h_iload_n dX11_keep_4 rfl 1 rfl ?_
    refine h_iconst (v := 2) dX11_keep_5 (by decide) ?_
    refine h_icmp_lt (tgt := 12) dX11_keep_6 (by decide) (fun c2 => absurd ⟨i_nlt c1, c2⟩ c) (fun c2 => ?_)
    refine h_bipush (v := (-2)) dX11_keep_9 (by decide) ?_
    exact h_iret dX11_keep_11 rfl q
theorem back_out {Q : Option Value → HIh → Prop} {a : Int32} (c : ¬ (0 ≤ a ∧ a < 2)) (q : Q (some (.int (-2))) I) : HGo E (mF E (d + 2) Q) me_X11_back 0 [(0, .ref 0), (1, .int a)] [] I := by
  refine h_iload_n dX11_back_0 rfl 1 rfl ?_
  refine h_if_lt (tgt := 9) dX11_back_1 (by decide) (fun c1 => ?_) (fun c1 => ?_)
  · refine h_bipush (v := (-2)) dX11_back_9 (by decide) ?_
    exact h_iret dX11_back_11 rfl q
  · refine h_iload_n dX11_back_4 rfl 1 rfl ?_
    refine h_iconst (v := 2) dX11_back_5 (by decide) ?_
    refine h_icmp_lt (tgt := 12) dX11_back_6 (by decide) (fun c2 => absurd ⟨i_nlt c1, c2⟩ c) (fun c2 => ?_)
    refine h_bipush (v := (-2)) dX11_back_9 (by decide) ?_
    exact h_iret dX11_back_11 rfl q
theorem win01 {a : Int32} : ((0 : Int64) ≤ a.toInt64 ∧ (a.toInt64 : Int64) ≤ 1) ↔ (0 ≤ a ∧ a < 2) := by
  rw [show ((0 : Int64) ≤ a.toInt64 ∧ (a.toInt64 : Int64) ≤ 1) ↔ (0 ≤ a ∧ a ≤ 1) from win a 0 1, i_le a 1, i_lt a 2, z1, show (2 : Int32).toInt = 2 from rfl]
  constructor <;> intro h <;> exact ⟨h.1, by omega⟩
theorem t_keep0 (h : Rel I) : Twin E d me_X11_keep me_X12_keep [.ref 0, .int (nI 0)] [.ref 87, .int (nI 0)] I := by
  have H := h
  obtain ⟨c, s, t, hc, hm, hn, hk, ht, ho, hf, ha⟩ := h
  obtain ⟨r1, r2, r3, r4, r5, r6⟩ := hn
  obtain ⟨bits, b1, b2, b3⟩ := hk
  obtain ⟨o1, o2, o3, -⟩ := bit_or bits b1 0 (by decide)
  have cl : (nI 0).toNatClampNeg = 0 := nI_clamp (by decide)
  refine h_met (by decide) rfl (Nat.le_of_ble_eq_true rfl) (sg_X11_keep_0 (h := 15) (c := 16) (by decide) (by decide) (by decide) (by decide) (by decide) (by decide) (by decide) (fun z => absurd z (by decide)) (fun _ _ => vp_in_nI (by decide) (by decide)) (fun _ _ => ?_) (fun _ z => absurd (by decide) z))
  refine h_met (by decide) rfl (Nat.le_of_ble_eq_true rfl) (sg_X12_keep_0 (fun _ _ => ?_) (fun z => absurd (win01.mpr (by decide)) z))
  refine m_copy (a := 0) (b := 1 + 0) (by decide) (by decide) (by decide) (fun g g1 g2 => ?_)
  refine sg_X12_keep_21 (vp_in_nI (by decide) (by decide)) ?_
  refine ⟨nI t, vI r2, vI ?_, c, s, t, hc.of ⟨rfl, rfl, rfl, rfl, rfl⟩, hm.of ⟨rfl, rfl, rfl, rfl, rfl, rfl, rfl⟩, ⟨r1, r2, r3.same fun j hj => g2 _ (by omega), (g2 30 (by omega)).trans r4, r5, r6⟩, ⟨bits ||| 1 <<< 0, o1, ?_, fun k hk => ?_⟩, ht.of ⟨rfl, rfl, rfl, rfl⟩, ho.of ⟨rfl, rfl, rfl, rfl, rfl, rfl⟩, hf.of ⟨rfl, rfl, rfl⟩, ha.of ⟨rfl, rfl, rfl, rfl⟩⟩
  · exact (g2 30 (by omega)).trans r4
  · show I 0 6 ||| _ = _
    rw [b2]; exact o2
  · rw [o3 k hk]
    rcases (show k = 0 ∨ k = 1 by omega) with rfl | rfl
    · refine ⟨by rw [show (bits.testBit 0 || decide (0 = 0)) = true from by rw [decide_eq_true rfl, Bool.or_true], if_pos rfl]; show upd (I 89) (nI 0).toNatClampNeg 1 0 = 1; rw [cl, upd_at _ rfl], fun _ => ⟨s, t, LotC.cpy r1, r2, ?_, ?_, r5, r6⟩⟩
      · exact RowC.cpy (a := 0) (b := 1 + 0) (f := I 88) r3 g1
      · exact (g1 30 (by omega)).trans r4
    · rw [show (bits.testBit 1 || decide (1 = 0)) = bits.testBit 1 from by rw [show decide (1 = 0) = false from rfl, Bool.or_false]]
      refine ⟨by show upd (I 89) (nI 0).toNatClampNeg 1 1 = _; rw [cl, upd_off _ (by decide)]; exact (b3 1 (by decide)).1, fun w => ?_⟩
      obtain ⟨s2, t2, a1, a2, a3, a4, a5, a6⟩ := (b3 1 (by decide)).2 w
      exact ⟨s2, t2, a1, a2, a3.same fun j hj => g2 _ (by omega), (g2 _ (by omega)).trans a4, a5, a6⟩
theorem t_back0 (h : Rel I) : Twin E d me_X11_back me_X12_back [.ref 0, .int (nI 0)] [.ref 87, .int (nI 0)] I := by
  have H := h
  obtain ⟨c, s, t, hc, hm, hn, hk, ht, ho, hf, ha⟩ := h
  have hk0 := hk
  obtain ⟨bits, b1, b2, b3⟩ := hk
  obtain ⟨-, -, -, o4⟩ := bit_or bits b1 0 (by decide)
  rw [← b2] at o4
  refine h_met (by decide) rfl (Nat.le_of_ble_eq_true rfl) (sg_X11_back_0 (h := 15) (c := 16) (by decide) (by decide) (by decide) (by decide) (by decide) (by decide) (by decide) (fun z => absurd z (by decide)) (fun _ _ _ => vp_in_nI (by decide) (by decide)) (fun _ _ z => ?_) (fun _ _ z => ?_) (fun _ z => absurd (by decide) z))
  · have bt : bits.testBit 0 = true := by
      cases e : bits.testBit 0 with
      | true => rfl
      | false => exact absurd (o4.mpr e) z
    obtain ⟨s2, t2, a1, a2, a3, a4, a5, a6⟩ := (b3 0 (by decide)).2 bt
    have e89 : I 89 (nI 0).toNatClampNeg = 1 := by rw [nI_clamp (by decide), (b3 0 (by decide)).1, if_pos bt]
    refine h_met (by decide) rfl (Nat.le_of_ble_eq_true rfl) (sg_X12_back_0 (fun _ _ => vp_in_nI (by decide) (by decide)) (fun _ _ _ => ?_) (fun _ _ w => absurd (e89.symm.trans w) (by decide)) (fun z => absurd (win01.mpr (by decide)) z))
    refine m_copy (a := 1 + 0) (b := 0) (by decide) (by decide) (by decide) (fun g g1 g2 => ?_)
    refine sg_X12_back_33 ?_
    refine ⟨nI t2, vI a2, vI ?_, Rel.visited (s' := s2) (t' := t2) hc hm hk0 ht ho hf (fun a ha n1 n2 n3 n4 => vs3 n1 n2 n3 n4) (LotC.cpy a1) a2 ?_ ?_ a5 a6 (fun x hx => g2 x (by omega)) rfl⟩
    · exact (g1 30 (by omega)).trans a4
    · exact RowC.cpy (a := 1 + 0) (b := 0) (f := I 88) a3 g1
    · exact (g1 30 (by omega)).trans a4
  · have bt : bits.testBit 0 = false := o4.mp z
    have e89 : I 89 (nI 0).toNatClampNeg = 0 := by rw [nI_clamp (by decide), (b3 0 (by decide)).1, if_neg (by rw [bt]; decide)]
    exact h_met (by decide) rfl (Nat.le_of_ble_eq_true rfl) (sg_X12_back_0 (fun _ _ => vp_in_nI (by decide) (by decide)) (fun _ _ w => absurd e89 w) (fun _ _ _ => ⟨_, rfl, rfl, H⟩) (fun z => absurd (win01.mpr (by decide)) z))
theorem t_keep1 (h : Rel I) : Twin E d me_X11_keep me_X12_keep [.ref 0, .int (nI 1)] [.ref 87, .int (nI 1)] I := by
  have H := h
  obtain ⟨c, s, t, hc, hm, hn, hk, ht, ho, hf, ha⟩ := h
  obtain ⟨r1, r2, r3, r4, r5, r6⟩ := hn
  obtain ⟨bits, b1, b2, b3⟩ := hk
  obtain ⟨o1, o2, o3, -⟩ := bit_or bits b1 1 (by decide)
  have cl : (nI 1).toNatClampNeg = 1 := nI_clamp (by decide)
  refine h_met (by decide) rfl (Nat.le_of_ble_eq_true rfl) (sg_X11_keep_0 (h := 17) (c := 18) (by decide) (by decide) (by decide) (by decide) (by decide) (by decide) (by decide) (fun z => absurd z (by decide)) (fun _ _ => vp_in_nI (by decide) (by decide)) (fun _ _ => ?_) (fun _ z => absurd (by decide) z))
  refine h_met (by decide) rfl (Nat.le_of_ble_eq_true rfl) (sg_X12_keep_0 (fun _ _ => ?_) (fun z => absurd (win01.mpr (by decide)) z))
  refine m_copy (a := 0) (b := 1 + 1) (by decide) (by decide) (by decide) (fun g g1 g2 => ?_)
  refine sg_X12_keep_21 (vp_in_nI (by decide) (by decide)) ?_
  refine ⟨nI t, vI r2, vI ?_, c, s, t, hc.of ⟨rfl, rfl, rfl, rfl, rfl⟩, hm.of ⟨rfl, rfl, rfl, rfl, rfl, rfl, rfl⟩, ⟨r1, r2, r3.same fun j hj => g2 _ (by omega), (g2 30 (by omega)).trans r4, r5, r6⟩, ⟨bits ||| 1 <<< 1, o1, ?_, fun k hk => ?_⟩, ht.of ⟨rfl, rfl, rfl, rfl⟩, ho.of ⟨rfl, rfl, rfl, rfl, rfl, rfl⟩, hf.of ⟨rfl, rfl, rfl⟩, ha.of ⟨rfl, rfl, rfl, rfl⟩⟩
  · exact (g2 30 (by omega)).trans r4
  · show I 0 6 ||| _ = _
    rw [b2]; exact o2
  · rw [o3 k hk]
    rcases (show k = 1 ∨ k = 0 by omega) with rfl | rfl
    · refine ⟨by rw [show (bits.testBit 1 || decide (1 = 1)) = true from by rw [decide_eq_true rfl, Bool.or_true], if_pos rfl]; show upd (I 89) (nI 1).toNatClampNeg 1 1 = 1; rw [cl, upd_at _ rfl], fun _ => ⟨s, t, LotC.cpy r1, r2, ?_, ?_, r5, r6⟩⟩
      · exact RowC.cpy (a := 0) (b := 1 + 1) (f := I 88) r3 g1
      · exact (g1 30 (by omega)).trans r4
    · rw [show (bits.testBit 0 || decide (0 = 1)) = bits.testBit 0 from by rw [show decide (0 = 1) = false from rfl, Bool.or_false]]
      refine ⟨by show upd (I 89) (nI 1).toNatClampNeg 1 0 = _; rw [cl, upd_off _ (by decide)]; exact (b3 0 (by decide)).1, fun w => ?_⟩
      obtain ⟨s2, t2, a1, a2, a3, a4, a5, a6⟩ := (b3 0 (by decide)).2 w
      exact ⟨s2, t2, a1, a2, a3.same fun j hj => g2 _ (by omega), (g2 _ (by omega)).trans a4, a5, a6⟩
theorem t_back1 (h : Rel I) : Twin E d me_X11_back me_X12_back [.ref 0, .int (nI 1)] [.ref 87, .int (nI 1)] I := by
  have H := h
  obtain ⟨c, s, t, hc, hm, hn, hk, ht, ho, hf, ha⟩ := h
  have hk0 := hk
  obtain ⟨bits, b1, b2, b3⟩ := hk
  obtain ⟨-, -, -, o4⟩ := bit_or bits b1 1 (by decide)
  rw [← b2] at o4
  refine h_met (by decide) rfl (Nat.le_of_ble_eq_true rfl) (sg_X11_back_0 (h := 17) (c := 18) (by decide) (by decide) (by decide) (by decide) (by decide) (by decide) (by decide) (fun z => absurd z (by decide)) (fun _ _ _ => vp_in_nI (by decide) (by decide)) (fun _ _ z => ?_) (fun _ _ z => ?_) (fun _ z => absurd (by decide) z))
  · have bt : bits.testBit 1 = true := by
      cases e : bits.testBit 1 with
      | true => rfl
      | false => exact absurd (o4.mpr e) z
    obtain ⟨s2, t2, a1, a2, a3, a4, a5, a6⟩ := (b3 1 (by decide)).2 bt
    have e89 : I 89 (nI 1).toNatClampNeg = 1 := by rw [nI_clamp (by decide), (b3 1 (by decide)).1, if_pos bt]
    refine h_met (by decide) rfl (Nat.le_of_ble_eq_true rfl) (sg_X12_back_0 (fun _ _ => vp_in_nI (by decide) (by decide)) (fun _ _ _ => ?_) (fun _ _ w => absurd (e89.symm.trans w) (by decide)) (fun z => absurd (win01.mpr (by decide)) z))
    refine m_copy (a := 1 + 1) (b := 0) (by decide) (by decide) (by decide) (fun g g1 g2 => ?_)
    refine sg_X12_back_33 ?_
    refine ⟨nI t2, vI a2, vI ?_, Rel.visited (s' := s2) (t' := t2) hc hm hk0 ht ho hf (fun a ha n1 n2 n3 n4 => vs3 n1 n2 n3 n4) (LotC.cpy a1) a2 ?_ ?_ a5 a6 (fun x hx => g2 x (by omega)) rfl⟩
    · exact (g1 30 (by omega)).trans a4
    · exact RowC.cpy (a := 1 + 1) (b := 0) (f := I 88) a3 g1
    · exact (g1 30 (by omega)).trans a4
  · have bt : bits.testBit 1 = false := o4.mp z
    have e89 : I 89 (nI 1).toNatClampNeg = 0 := by rw [nI_clamp (by decide), (b3 1 (by decide)).1, if_neg (by rw [bt]; decide)]
    exact h_met (by decide) rfl (Nat.le_of_ble_eq_true rfl) (sg_X12_back_0 (fun _ _ => vp_in_nI (by decide) (by decide)) (fun _ _ w => absurd e89 w) (fun _ _ _ => ⟨_, rfl, rfl, H⟩) (fun z => absurd (win01.mpr (by decide)) z))
theorem k01 {a : Int32} (h : 0 ≤ a ∧ a < 2) : a = nI 0 ∨ a = nI 1 := by
  obtain ⟨k, hk, rfl⟩ := i_nat' h.1 (n := 2) (by decide) h.2
  rcases (show k = 0 ∨ k = 1 by omega) with rfl | rfl
  · exact Or.inl rfl
  · exact Or.inr rfl
theorem t_keep {a : Int32} (h : Rel I) : Twin E d me_X11_keep me_X12_keep [.ref 0, .int a] [.ref 87, .int a] I := by
  by_cases q : (0 : Int32) ≤ a ∧ a < 2
  · rcases k01 q with rfl | rfl
    · exact t_keep0 h
    · exact t_keep1 h
  · refine h_met (by decide) rfl (Nat.le_of_ble_eq_true rfl) (keep_out q ?_)
    exact h_met (by decide) rfl (Nat.le_of_ble_eq_true rfl) (sg_X12_keep_0 (fun z y => absurd (win01.mp ⟨z, y⟩) q) (fun _ => ⟨_, rfl, rfl, h⟩))
theorem t_back {a : Int32} (h : Rel I) : Twin E d me_X11_back me_X12_back [.ref 0, .int a] [.ref 87, .int a] I := by
  by_cases q : (0 : Int32) ≤ a ∧ a < 2
  · rcases k01 q with rfl | rfl
    · exact t_back0 h
    · exact t_back1 h
  · refine h_met (by decide) rfl (Nat.le_of_ble_eq_true rfl) (back_out q ?_)
    exact h_met (by decide) rfl (Nat.le_of_ble_eq_true rfl) (sg_X12_back_0 (fun z y => absurd (win01.mp ⟨z, y⟩) q) (fun z y => absurd (win01.mp ⟨z, y⟩) q) (fun z y => absurd (win01.mp ⟨z, y⟩) q) (fun _ => ⟨_, rfl, rfl, h⟩))
theorem bitp : ∀ p, p < 4 → ∀ j, j < 4 → ((((1 : Int32) <<< (nI p &&& 31)) >>> ((nI j) &&& 31)) &&& 1 = 1 ∨ (((1 : Int32) <<< (nI p &&& 31)) >>> ((nI j) &&& 31)) &&& 1 = 0) := by decide +kernel
theorem x_there_loop {Q : Option Value → HIh → Prop} {c : HCf} {s : HCn} (hm : MC I c) (hr : RowC (I 88) 0 s) (q : Q (some (.int (nI (wealth c s 4)))) I) : ∀ (n j : Nat), j + n = cK c → HGo E (mF E (d + 1) Q) me_X12_worthThere 4 [(0, .ref 87), (1, .int (nI (sm (fun k => cw c k * s 4 k) j))), (2, .int (nI j))] [] I
  | n, j, hj => by
    have hK : cK c ≤ 6 := hm.2.2.2.2.2.2.2.2.1
    have hz : ¬ (I 87 6) ≤ nI j → j < cK c := fun z => by rw [hm.1, nI_leI (by omega) (by omega)] at z; omega
    refine sg_X12_worthThere_4 (fun z => ?_) (fun z => ?_) (fun z => ?_) (fun z => ?_)
    · rw [hm.1, nI_leI (by omega) (by omega)] at z
      have e : j = cK c := by omega
      subst e; exact q
    · have := hz z; rw [show (0 : Int32) = nI 0 from rfl, nI_add]; exact vp_in_nI (by omega) (by decide)
    · have := hz z; exact vp_in_nI (by omega) (by decide)
    · have := hz z
      obtain ⟨n, rfl⟩ : ∃ k, n = k + 1 := ⟨n - 1, by omega⟩
      rw [row_lie hr (by omega), nI_clamp (by omega), hm.2.2.2.1 j (by omega), pk_mul, Nat.mul_comm, nI_add, nI_1]
      exact x_there_loop hm hr q n (j + 1) (by omega)
theorem m_there {Q : Option Value → HIh → Prop} {c : HCf} {s : HCn} (hm : MC I c) (hr : RowC (I 88) 0 s) (q : Q (some (.int (nI (wealth c s 4)))) I) : HCall E me_X12_worthThere (d + 1) [.ref 87] I Q :=
  h_met (by decide) rfl (Nat.le_of_ble_eq_true rfl) (sg_X12_worthThere_0 (x_there_loop hm hr q (cK c) 0 (by omega)))
theorem c_all {Q : Option Value → HIh → Prop} {c : HCf} {s : HCn} (hc : CC I c) (hs : LotC (I 13) s) (q : Q (some (.int (nI (wealth c s 0 + wealth c s 1 + wealth c s 2 + wealth c s 3 + wealth c s 4)))) I) : HCall E me_X11_wealthOfAll (d + 3) [.ref 0] I Q := by
  have st : ∀ {o x : Nat}, o < 5 → HGo E (mF E (d + 3) Q) me_X11_wealthOfAll 4 [(0, .ref 0), (1, .int (nI (x + wealth c s o))), (2, .int (nI (o + 1)))] [] I → HGo E (mF E (d + 3) Q) me_X11_wealthOfAll 4 [(0, .ref 0), (1, .int (nI x)), (2, .int (nI o))] [] I := fun {o x} ho g => by
    refine sg_X11_wealthOfAll_4 (fun z => ?_) (fun _ => ?_)
    · rw [i_le, nI_toInt (by omega), show (5 : Int32).toInt = 5 from rfl] at z; omega
    · refine c_wealth (h := 12) hc (by decide) hs ho (sg_X11_wealthOfAll_22 ?_)
      rw [nI_add, nI_1]; exact g
  refine h_met (by decide) rfl (Nat.le_of_ble_eq_true rfl) (sg_X11_wealthOfAll_0 ?_)
  refine st (o := 0) (x := 0) (by decide) (st (o := 1) (by decide) (st (o := 2) (by decide) (st (o := 3) (by decide) (st (o := 4) (by decide) ?_))))
  refine sg_X11_wealthOfAll_4 (fun _ => ?_) (fun z => absurd (by decide) z)
  rw [Nat.zero_add]; exact q
theorem t_count {a : Int32} (h : Rel I) : Twin E d me_X11_count me_X12_count [.ref 0, .int a] [.ref 87, .int a] I := by
  have H := h
  obtain ⟨c, s, t, hc, hm, hn, hk, ht, ho, hf, ha⟩ := h
  obtain ⟨r1, r2, r3, r4, r5, r6⟩ := hn
  obtain ⟨n, n1, n2, n3, n4⟩ := ht
  obtain ⟨m, m1, m2, m3, m4⟩ := ho
  have e0 := hc.1.trans hm.1.symm
  have e2 := hc.2.2.1.trans hm.2.2.1.symm
  have e3 := hc.2.1.trans hm.2.1.symm
  have e4 := r2.trans r4.symm
  have e5 := m2.trans m3.symm
  have e6 := n2.trans n3.symm
  refine h_met (by decide) rfl (Nat.le_of_ble_eq_true rfl) ?_
  apply sg_X11_count_0
  all_goals intros
  case k2 => 
    refine c_wealth (h := 12) (o := 4) hc (by decide) r1 (by decide) (sg_X11_count_68 ?_)
    refine h_met (by decide) rfl (Nat.le_of_ble_eq_true rfl) ?_
    apply sg_X12_count_0
    all_goals intros
    all_goals first
      | (subst a; contradiction)
      | exact m_there hm r3 (sg_X12_count_57 ⟨_, rfl, rfl, H⟩)
  case k8 =>
    refine c_all hc r1 (sg_X11_count_113 ?_)
    refine h_met (by decide) rfl (Nat.le_of_ble_eq_true rfl) ?_
    apply sg_X12_count_0
    all_goals intros
    all_goals first
      | (subst a; contradiction)
      | (refine m_there hm r3 (sg_X12_count_90 ?_)
         refine m_worthOf (b := 0) (i := 0) hm r3 (by decide) (by decide) (sg_X12_count_96 ?_)
         refine m_worthOf (b := 0) (i := 1) hm r3 (by decide) (by decide) (sg_X12_count_103 ?_)
         refine m_worthOf (b := 0) (i := 2) hm r3 (by decide) (by decide) (sg_X12_count_110 ?_)
         refine m_worthOf (b := 0) (i := 3) hm r3 (by decide) (by decide) (sg_X12_count_117 ?_)
         refine ⟨_, rfl, vI ?_, H⟩
         rw [nI_add, nI_add, nI_add, nI_add]
         congr 1
         omega)
  all_goals refine h_met (by decide) rfl (Nat.le_of_ble_eq_true rfl) ?_
  all_goals apply sg_X12_count_0
  all_goals intros
  all_goals first
    | (subst a; contradiction)
    | exact ⟨_, rfl, rfl, H⟩
    | exact ⟨_, rfl, vI e0.symm, H⟩
    | exact ⟨_, rfl, vI e2.symm, H⟩
    | exact ⟨_, rfl, vI e3.symm, H⟩
    | exact ⟨_, rfl, vI e4.symm, H⟩
    | exact ⟨_, rfl, vI e5.symm, H⟩
    | exact ⟨_, rfl, vI e6.symm, H⟩
    | contradiction
end OPS4
