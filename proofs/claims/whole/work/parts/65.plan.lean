/-! plan and league: the reference, and side by side -/
theorem frN_sm (c : HCf) (m : Nat) : ∀ (n t : Nat), frN c m n t = sm (fun j => if m.testBit (cp c (t + j)) = true then 1 else 0) n
  | 0, _ => rfl
  | n + 1, t => by
    have hs : ∀ (f : Nat → Nat) (n : Nat), sm f (n + 1) = f 0 + sm (fun j => f (j + 1)) n := by
      intro f n
      induction n with
      | zero => show 0 + f 0 = f 0 + 0; omega
      | succ m ih => show sm f (m + 1) + f (m + 1) = f 0 + (sm (fun j => f (j + 1)) m + f (m + 1)); rw [ih]; omega
    rw [hs]
    show (if m.testBit (cp c t) = true then 1 else 0) + frN c m n (t + 1) = _
    rw [frN_sm c m n (t + 1), Nat.add_zero]
    congr 1
    refine sm_congr (fun j _ => ?_)
    rw [show t + 1 + j = t + (j + 1) by omega]
theorem fLeft_n {c : HCf} {m t : Nat} (hm : m < 16) : ∀ n, (∀ j, j < n → cp c (t + j) < 4) → fLeft c (nI m) t n = nI (sm (fun j => if m.testBit (cp c (t + j)) = true then 1 else 0) n)
  | 0, _ => rfl
  | n + 1, h => by
    show fLeft c (nI m) t n + _ = nI (_ + _)
    rw [fLeft_n hm n (fun j hj => h j (by omega)), goal_bit m hm _ (h n (by omega)), ← nI_add]
    dsimp only
    by_cases b : m.testBit (cp c (t + n)) = true
    · rw [if_pos b, if_pos b]; rfl
    · rw [if_neg b, if_neg b]; rfl
theorem goal_01 : ∀ m, m < 16 → ∀ p : Nat, p < 4 → (nI m >>> (nI p &&& 31)) &&& 1 = 1 ∨ (nI m >>> (nI p &&& 31)) &&& 1 = 0 := by decide +kernel
theorem bit_1 {m p : Nat} (hm : m < 16) (hp : p < 4) : ((nI m >>> (nI p &&& 31)) &&& 1 = 1) ↔ m.testBit p = true := by
  rw [goal_bit m hm p hp]
  by_cases b : m.testBit p = true
  · rw [if_pos b]; exact ⟨fun _ => b, fun _ => rfl⟩
  · rw [if_neg b]; exact ⟨fun z => absurd z (by decide), fun z => absurd z b⟩
def FrR (I J : HIh) : Prop := (∀ a, a ≠ 88 → a ≠ 97 → J a = I a) ∧ ∀ x, (x < 93 ∨ 341 ≤ x) → J 88 x = I 88 x
theorem FrR.tr {I J K : HIh} (h : FrR I J) (e : FrR J K) : FrR I K := ⟨fun a a1 a2 => (e.1 a a1 a2).trans (h.1 a a1 a2), fun x hx => (e.2 x hx).trans (h.2 x hx)⟩
theorem FrR.mk' {I : HIh} {b : Nat} (hb : 93 ≤ b) (hb2 : b ≤ 310) (ft g : Nat → Int32) (h : ∀ x, (x < b ∨ b + 31 ≤ x) → g x = I 88 x) : FrR I (setI (setI I 97 ft) 88 g) := ⟨fun a a1 a2 => by rw [setI_ne _ _ a1, setI_ne _ _ a2], fun x hx => by rw [setI_same]; exact h x (by omega)⟩
theorem FrR.mc {I J : HIh} {c : HCf} (h : FrR I J) (hm : MC I c) : MC J c := hm.of ⟨by rw [h.1 87 (by decide) (by decide)], by rw [h.1 87 (by decide) (by decide)], by rw [h.1 87 (by decide) (by decide)], h.1 92 (by decide) (by decide), h.1 94 (by decide) (by decide), h.1 95 (by decide) (by decide), h.1 96 (by decide) (by decide)⟩
theorem FrR.row {I J : HIh} {s : HCn} (h : FrR I J) (hr : RowC (I 88) 0 s) : RowC (J 88) 0 s := hr.same (fun j hj => by rw [Nat.zero_add]; exact h.2 j (by omega))
section GOROW
variable {E : HEn} {d : Nat} {Q : Option Value → HIh → Prop} {I : HIh}
theorem go_140 {c : HCf} {s : HCn} {m : Nat} {J : HIh} (hm16 : m < 16) (hm : MC J c) (hr : RowC (J 88) 93 s) (q : Q (some (.int (nI (gval m (fun p => wealth c s p))))) J) : ∀ (n j : Nat), j + n = 4 → HGo E (mF E (d + 5) Q) me_X12_goRow 140 [(0, .ref 87), (1, .int (nI m)), (4, .int (nI 93)), (6, .int (nI (sm (fun p => if m.testBit p = true then wealth c s p else 0) j))), (7, .int (nI j))] [] J
  | n, j, hj => by
    have le : (4 : Int32) ≤ nI j ↔ 4 ≤ j := nI_leI (a := 4) (by omega) (by omega)
    refine sg_X12_goRow_140 (fun z => ?_) (fun z y => ?_) (fun z y => ?_)
    all_goals rw [le] at z
    · have : j = 4 := by omega
      subst this; exact q
    all_goals
      rw [bit_1 hm16 (by omega)] at y
      obtain ⟨n, rfl⟩ : ∃ k, n = k + 1 := ⟨n - 1, by omega⟩
    · refine m_worthOf (d := d + 3) (b := 93) hm hr (by decide) (by omega) (sg_X12_goRow_165 ?_)
      rw [nI_add, nI_1]
      have := go_140 hm16 hm hr q n (j + 1) (by omega)
      have e : sm (fun p => if m.testBit p = true then wealth c s p else 0) (j + 1) = sm (fun p => if m.testBit p = true then wealth c s p else 0) j + wealth c s j := by
        show _ + (if m.testBit j = true then wealth c s j else 0) = _
        rw [if_pos y]
      rw [e] at this
      exact this
    · rw [show (0 : Int32) = nI 0 from rfl, nI_add, nI_1]
      have := go_140 hm16 hm hr q n (j + 1) (by omega)
      have e : sm (fun p => if m.testBit p = true then wealth c s p else 0) (j + 1) = sm (fun p => if m.testBit p = true then wealth c s p else 0) j + 0 := by
        show _ + (if m.testBit j = true then wealth c s j else 0) = _
        rw [if_neg y]
      rw [e] at this
      exact this
theorem go_25' {c : HCf} {m v : Nat} (hm16 : m < 16) (hv : v < 2 ^ 31) : ∀ (n t : Nat) (s : HCn) (J : HIh) (Q : Option Value → HIh → Prop), t + n = cv c → frN c m n t ≤ 10 → MC J c → RowC (J 88) 93 s → CnOk s → (∀ K x, FrR J K → x.toInt = goR c m n t s (7 ^ frN c m n t) v → Q (some (.int x)) K) → HGo E (mF E (d + 5) Q) me_X12_goRow 25 [(0, .ref 87), (1, .int (nI m)), (2, .int (nI v)), (4, .int (nI 93)), (5, .int (nI (7 ^ frN c m n t))), (6, .int (nI t))] [] J
  | 0, t, s, J, Q, ht, hF, hm, hr, hok, q => by
    have hV : cv c ≤ 24 := hm.2.2.2.2.2.2.2.2.2.2.2.2.2.1
    have y : J 87 13 ≤ nI t := by rw [hm.2.1, nI_leI (by omega) (by omega)]; omega
    have gb := gval_b (m := m) (e := fun p => wealth c s p) (b := 599400) (fun p hp => wealth_lt hm.2.2.2.2.2.2.2 hok (by omega))
    refine sg_X12_goRow_25 (fun _ => ?_) (fun z => absurd y z) (fun z => absurd y z) (fun z => absurd y z) (fun z => absurd y z) (fun z => absurd y z) (fun z => absurd y z) (fun z => absurd y z)
    exact go_140 hm16 hm hr (q J _ ⟨fun _ _ _ => rfl, fun _ _ => rfl⟩ (nI_toInt (by omega))) 4 0 rfl
  | n + 1, t, s, J, Q, ht, hF, hm, hr, hok, q => by
    have hcf := hm.2.2.2.2.2.2.2
    have hK : cK c ≤ 6 := hcf.2.1
    have hV : cv c ≤ 24 := hcf.2.2.2.2.2.2.1
    have hcp : cp c t < 4 := hcf.2.2.2.2.2.2.2 t (by omega)
    have ny : ¬ J 87 13 ≤ nI t := by rw [hm.2.1, nI_leI (by omega) (by omega)]; omega
    have ev : J 96 (nI t).toNatClampNeg = nI (cp c t) := by rw [nI_clamp (by omega)]; exact hm.2.2.2.2.2.2.1 t (by omega)
    have eb : ((nI m >>> ((J 96 (nI t).toNatClampNeg) &&& 31)) &&& 1 = 1) ↔ m.testBit (cp c t) = true := by rw [ev]; exact bit_1 hm16 hcp
    by_cases b : m.testBit (cp c t) = true
    · have hfr : frN c m (n + 1) t = frN c m n (t + 1) + 1 := by
        show (if m.testBit (cp c t) = true then 1 else 0) + _ = _
        rw [if_pos b, Nat.add_comm]
      rw [hfr] at hF ⊢
      have hq : ∀ K x, FrR J K → x.toInt = (if v / 7 ^ frN c m n (t + 1) % 7 = 0 then goR c m n (t + 1) s (7 ^ frN c m n (t + 1)) v else if cK c ≤ v / 7 ^ frN c m n (t + 1) % 7 - 1 ∨ s (cp c t) (v / 7 ^ frN c m n (t + 1) % 7 - 1) = 0 then -1 else goR c m n (t + 1) (thr c s (cp c t) (v / 7 ^ frN c m n (t + 1) % 7 - 1)) (7 ^ frN c m n (t + 1)) v) → Q (some (.int x)) K := fun K x fr hx => by
        refine q K x fr ?_
        have hu : 7 ^ (frN c m n (t + 1) + 1) / 7 = 7 ^ frN c m n (t + 1) := by rw [Nat.pow_succ]; exact Nat.mul_div_cancel _ (by decide)
        rw [hfr]
        conv => rhs; unfold goR
        rw [if_pos b, hu]
        exact hx
      have IH := fun s J Q => go_25' (c := c) hm16 hv n (t + 1) s J Q (by omega) (by omega)
      clear q
      generalize frN c m n (t + 1) = F at *
      have hp := pow_le (n := F + 1) (by omega)
      have hu : nI (7 ^ (F + 1)) / 7 = nI (7 ^ F) := by
        rw [show (7 : Int32) = nI 7 from rfl, nI_div (by omega) (by decide)]
        congr 1
        rw [Nat.pow_succ]; exact Nat.mul_div_cancel _ (by decide)
      have hp0 := pow_le (n := F) (by omega)
      have hpp := p7 F
      have hdig : nI v / (nI (7 ^ (F + 1)) / 7) - nI v / (nI (7 ^ (F + 1)) / 7) / 7 * 7 = nI (v / 7 ^ F % 7) := by
        have h1 := Nat.div_le_self v (7 ^ F)
        rw [hu, nI_div hv (by omega), show (7 : Int32) = nI 7 from rfl, nI_mod (by omega) (by decide)]
      have hd7 : v / 7 ^ F % 7 < 7 := Nat.mod_lt _ (by decide)
      rw [hu] at hdig
      have G := @sg_X12_goRow_25 E d Q J (nI m) (nI v) (nI 93) (nI (7 ^ (F + 1))) (nI t)
      rw [hu, hdig] at G
      generalize v / 7 ^ F % 7 = dgt at *
      rcases Nat.eq_zero_or_pos dgt with d0 | d0
      · subst d0
        have c1 : nI 0 - 1 = -1 := by decide
        rw [c1] at G
        refine G (fun z => absurd z ny) (fun _ => vp_in_nI (by omega) (by decide)) (fun _ _ z => ?_) (fun _ _ z => ?_) (fun _ _ _ _ _ => ?_) (fun _ _ _ _ z => absurd rfl z) (fun _ _ _ z => absurd rfl z) (fun _ z => absurd (eb.mpr b) z)
        · exact absurd ((nI_eq (b := 0) (by omega) (by decide)).mp z) (by omega)
        · exfalso; rw [hm.1, i_le, nI_toInt (by omega), zm1] at z; omega
        · rw [nI_1]
          exact IH s J Q hm hr hok (fun K x fr hx => hq K x fr (by rw [if_pos rfl]; exact hx))
      · obtain ⟨k, rfl⟩ : ∃ k, dgt = k + 1 := ⟨dgt - 1, by omega⟩
        have c1 : nI (k + 1) - 1 = nI k := nI_pred k
        have km : ¬ nI k = -1 := nI_nm1 (by omega)
        have dne : ¬ (k + 1 = 0) := by omega
        rw [c1] at G
        simp only [dne, if_false, Nat.add_sub_cancel] at hq
        refine G (fun z => absurd z ny) (fun _ => vp_in_nI (by omega) (by decide)) (fun _ _ z => ?_) (fun _ _ z => ?_) (fun _ _ _ z => absurd z km) (fun _ _ _ z => absurd z km) (fun _ _ z _ => ?_) (fun _ z => absurd (eb.mpr b) z)
        · exact absurd ((nI_eq (b := 0) (by omega) (by decide)).mp z) (by omega)
        · rw [hm.1, nI_leI (by omega) (by omega)] at z
          exact hq J (-1) ⟨fun _ _ _ => rfl, fun _ _ => rfl⟩ (by rw [if_pos (Or.inl z)]; rfl)
        · rw [hm.1, nI_leI (by omega) (by omega)] at z
          rw [ev]
          refine m_isHad (d := d + 3) (b := 93) hr (by decide) hok.l2 hcp (by omega) (fun w => ?_) (fun w => ?_)
          · refine sg_X12_goRow_95 (fun _ u => absurd u km) (fun _ _ => ?_) (fun u => absurd u (by decide))
            refine m_throwsOne (d := d + 2) (b := 93) hm hr (by decide) hok.l2 hcp (by omega) w (fun ft g hg ho => sg_X12_goRow_116 ?_)
            have fr : FrR J (setI (setI J 97 ft) 88 g) := FrR.mk' (b := 93) (by decide) (by decide) ft g (fun x hx => ho x (by omega))
            rw [nI_1]
            refine IH (thr c s (cp c t) k) _ Q (fr.mc hm) (by rw [setI_same]; exact hg) (thr_ok hok hcp w) (fun K x fr2 hx => hq K x (fr.tr fr2) ?_)
            rw [if_neg (fun u => by rcases u with u | u <;> omega)]; exact hx
          · refine sg_X12_goRow_95 (fun u => absurd rfl u) (fun u => absurd rfl u) (fun _ => ?_)
            exact hq J (-1) ⟨fun _ _ _ => rfl, fun _ _ => rfl⟩ (by rw [if_pos (Or.inr w)]; rfl)
    · have hfr : frN c m (n + 1) t = frN c m n (t + 1) := by
        show (if m.testBit (cp c t) = true then 1 else 0) + _ = _
        rw [if_neg b, Nat.zero_add]
      rw [hfr] at hF ⊢
      have nb := fun z => b (eb.mp z)
      refine sg_X12_goRow_25 (fun z => absurd z ny) (fun _ => vp_in_nI (by omega) (by decide)) (fun _ z => absurd z nb) (fun _ z => absurd z nb) (fun _ z => absurd z nb) (fun _ z => absurd z nb) (fun _ z => absurd z nb) (fun _ _ => ?_)
      rw [ev]
      refine m_visitsBy (d := d) (b := 93) hm hr (by decide) hok.l2 hcp (fun ft g hg ho => sg_X12_goRow_127 ?_)
      have fr : FrR J (setI (setI J 97 ft) 88 g) := FrR.mk' (b := 93) (by decide) (by decide) ft g (fun x hx => ho x (by omega))
      rw [nI_1]
      refine go_25' hm16 hv n (t + 1) _ _ Q (by omega) hF (fr.mc hm) (by rw [setI_same]; exact hg) (vst_ok hok hcp (fun k e => (hab_lt e).2)) (fun K x fr2 hx => q K x (fr.tr fr2) ?_)
      rw [hfr]
      conv => rhs; unfold goR
      rw [if_neg b]
      exact hx
theorem m_goRow {c : HCf} {s : HCn} {m v t : Nat} (hm16 : m < 16) (hv : v < 2 ^ 31) (ht : t ≤ cv c) (hF : frN c m (cv c - t) t ≤ 10) (hm : MC I c) (hr : RowC (I 88) 0 s) (hg : I 88 30 = nI t) (hok : CnOk s) (q : ∀ K x, FrR I K → x.toInt = goR c m (cv c - t) t s (7 ^ frN c m (cv c - t) t) v → Q (some (.int x)) K) : HCall E me_X12_goRow (d + 5) [.ref 87, .int (nI m), .int (nI v), .int (nI (frN c m (cv c - t) t))] I Q := by
  refine h_met (by decide) rfl (Nat.le_of_ble_eq_true rfl) (sg_X12_goRow_0 (m_copy (d := d + 3) (a := 0) (b := 3) (by decide) (by decide) (by decide) (fun g g1 g2 => sg_X12_goRow_6 (m_powerOf (d := d + 3) hF (sg_X12_goRow_14 ?_)))))
  have fr : FrR I (setI I 88 g) := ⟨fun a a1 a2 => setI_ne _ _ a1, fun x hx => by rw [setI_same]; exact g2 x (by omega)⟩
  have e30 : (setI I 88 g) 88 30 = nI t := by rw [setI_same, g2 30 (by omega)]; exact hg
  rw [e30]
  have row : RowC ((setI I 88 g) 88) 93 s := by
    rw [setI_same]
    have h0 : RowC (I 88) (31 * 0) s := hr
    have := h0.cpy (b := 3) (g := g) (fun j hj => g1 j hj)
    exact this
  exact go_25' hm16 hv (cv c - t) t s _ Q (by omega) hF (fr.mc hm) row hok (fun K x fr2 hx => q K x (fr.tr fr2) hx)
/-- what layPlan leaves -/
def FrL2 (I J : HIh) : Prop := (∀ a, a ≠ 87 → a ≠ 88 → a ≠ 97 → J a = I a) ∧ (∀ j, j ≠ 20 → j ≠ 21 → J 87 j = I 87 j) ∧ ∀ x, x < 93 → J 88 x = I 88 x
theorem FrL2.mc {I J : HIh} {c : HCf} (h : FrL2 I J) (hm : MC I c) : MC J c := hm.of ⟨h.2.1 6 (by decide) (by decide), h.2.1 13 (by decide) (by decide), h.2.1 11 (by decide) (by decide), h.1 92 (by decide) (by decide) (by decide), h.1 94 (by decide) (by decide) (by decide), h.1 95 (by decide) (by decide) (by decide), h.1 96 (by decide) (by decide) (by decide)⟩
theorem FrL2.row {I J : HIh} {s : HCn} (h : FrL2 I J) (hr : RowC (I 88) 0 s) : RowC (J 88) 0 s := hr.same (fun j hj => by rw [Nat.zero_add]; exact h.2.2 j (by omega))
theorem FrL2.frR {I J K : HIh} (h : FrL2 I J) (e : FrR J K) : FrL2 I K := ⟨fun a a1 a2 a3 => (e.1 a a2 a3).trans (h.1 a a1 a2 a3), fun j j1 j2 => by rw [e.1 87 (by decide) (by decide)]; exact h.2.1 j j1 j2, fun x hx => (e.2 x (by omega)).trans (h.2.2 x hx)⟩
theorem lp_12 {c : HCf} {s : HCn} {m t : Nat} (hm16 : m < 16) (ht : t ≤ cv c) (hF : frN c m (cv c - t) t ≤ 10) (hm : MC I c) (hr : RowC (I 88) 0 s) (hg : I 88 30 = nI t) (hok : CnOk s) (q : ∀ J, FrL2 I J → (J 87 20).toInt = (mx (goR c m (cv c - t) t s (7 ^ frN c m (cv c - t) t)) (7 ^ frN c m (cv c - t) t)).1 → J 87 21 = nI (mx (goR c m (cv c - t) t s (7 ^ frN c m (cv c - t) t)) (7 ^ frN c m (cv c - t) t)).2 → Q none J) : ∀ (n v : Nat) (J : HIh), v + n = 7 ^ frN c m (cv c - t) t → FrL2 I J → (J 87 20).toInt = (mx (goR c m (cv c - t) t s (7 ^ frN c m (cv c - t) t)) v).1 → J 87 21 = nI (mx (goR c m (cv c - t) t s (7 ^ frN c m (cv c - t) t)) v).2 → HGo E (mF E (d + 6) Q) me_X12_layPlan 12 [(0, .ref 87), (1, .int (nI m)), (2, .int (nI (frN c m (cv c - t) t))), (3, .int (nI v))] [] J
  | n, v, J, hv, fr, h20, h21 => by
    have hp := pow_le hF
    refine sg_X12_layPlan_12 (m_powerOf (d := d + 4) hF (sg_X12_layPlan_17 (fun z => ?_) (fun z => ?_)))
    all_goals rw [nI_leI (by omega) (by omega)] at z
    · have : v = 7 ^ frN c m (cv c - t) t := by omega
      rw [this] at h20 h21
      exact q J fr h20 h21
    · obtain ⟨n, rfl⟩ : ∃ k, n = k + 1 := ⟨n - 1, by omega⟩
      refine m_goRow (d := d) hm16 (by omega) ht hF (fr.mc hm) (fr.row hr) ((fr.2.2 30 (by decide)).trans hg) hok (fun K x fr2 hx => ?_)
      have frk := fr.frR fr2
      have k20 : (K 87 20).toInt = (mx (goR c m (cv c - t) t s (7 ^ frN c m (cv c - t) t)) v).1 := by rw [fr2.1 87 (by decide) (by decide)]; exact h20
      have k21 : K 87 21 = nI (mx (goR c m (cv c - t) t s (7 ^ frN c m (cv c - t) t)) v).2 := by rw [fr2.1 87 (by decide) (by decide)]; exact h21
      have hst : mx (goR c m (cv c - t) t s (7 ^ frN c m (cv c - t) t)) (v + 1) = if (mx (goR c m (cv c - t) t s (7 ^ frN c m (cv c - t) t)) v).1 < goR c m (cv c - t) t s (7 ^ frN c m (cv c - t) t) v then (goR c m (cv c - t) t s (7 ^ frN c m (cv c - t) t) v, v) else mx (goR c m (cv c - t) t s (7 ^ frN c m (cv c - t) t)) v := rfl
      refine sg_X12_layPlan_27 (fun y => ?_) (fun y => ?_)
      all_goals
        rw [i_le, hx, k20] at y
        rw [nI_1]
      · rw [if_neg (by omega)] at hst
        exact lp_12 hm16 ht hF hm hr hg hok q n (v + 1) K (by omega) frk (by rw [hst]; exact k20) (by rw [hst]; exact k21)
      · rw [if_pos (by omega)] at hst
        refine lp_12 hm16 ht hF hm hr hg hok q n (v + 1) _ (by omega) ⟨fun a a1 a2 a3 => ?_, fun j j1 j2 => ?_, fun x hx => ?_⟩ ?_ ?_
        · rw [setI_ne _ _ a1, setI_ne _ _ a1]; exact frk.1 a a1 a2 a3
        · rw [setI_same, upd_off _ j2, upd_off _ j1]; exact frk.2.1 j j1 j2
        · rw [setI_ne _ _ (by decide), setI_ne _ _ (by decide)]; exact frk.2.2 x hx
        · rw [setI_same, upd_off _ (by decide), upd_at _ rfl, hst]; exact hx
        · rw [setI_same, upd_at _ rfl, hst]
theorem m_layPlan {c : HCf} {s : HCn} {m t : Nat} (hm16 : m < 16) (ht : t ≤ cv c) (hF : frN c m (cv c - t) t ≤ 10) (hm : MC I c) (hr : RowC (I 88) 0 s) (hg : I 88 30 = nI t) (hok : CnOk s) (q : ∀ J, FrL2 I J → (J 87 20).toInt = (mx (goR c m (cv c - t) t s (7 ^ frN c m (cv c - t) t)) (7 ^ frN c m (cv c - t) t)).1 → J 87 21 = nI (mx (goR c m (cv c - t) t s (7 ^ frN c m (cv c - t) t)) (7 ^ frN c m (cv c - t) t)).2 → Q none J) : HCall E me_X12_layPlan (d + 6) [.ref 87, .int (nI m), .int (nI (frN c m (cv c - t) t))] I Q := by
  refine h_met (by decide) rfl (Nat.le_of_ble_eq_true rfl) (sg_X12_layPlan_0 ?_)
  refine lp_12 hm16 ht hF hm hr hg hok q (7 ^ frN c m (cv c - t) t) 0 _ (by omega) ⟨fun a a1 a2 a3 => ?_, fun j j1 j2 => ?_, fun x hx => ?_⟩ ?_ ?_
  · rw [setI_ne _ _ a1, setI_ne _ _ a1]
  · rw [setI_same, upd_off _ j2, upd_off _ j1]
  · rw [setI_ne _ _ (by decide), setI_ne _ _ (by decide)]
  · rw [setI_same, upd_off _ (by decide), upd_at _ rfl]; rfl
  · rw [setI_same, upd_at _ rfl]; rfl
end GOROW
