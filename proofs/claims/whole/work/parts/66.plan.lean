/-! plan and league, side by side -/
theorem pow_bit : ∀ p, p < 4 → ∀ q, q < 4 → (2 ^ p).testBit q = decide (q = p) := by decide +kernel
theorem pow_bit2 : ∀ a, a < 4 → ∀ b, b < 4 → a = b ∨ ∀ q, q < 4 → (2 ^ a + 2 ^ b).testBit q = (decide (q = a) || decide (q = b)) := by decide +kernel
theorem gval_pow {p : Nat} (hp : p < 4) (e : Nat → Nat) : gval (2 ^ p) e = e p := by
  have := sm_one (f := e) hp
  rw [← this]
  refine sm_congr (fun q hq => ?_)
  rw [pow_bit p hp q hq]
  by_cases h : q = p
  · rw [if_pos h, if_pos (decide_eq_true h)]
  · rw [if_neg h, if_neg (fun z => h (of_decide_eq_true z))]
theorem gval_pow2 {a b : Nat} (ha : a < 4) (hb : b < 4) (hab : a ≠ b) (e : Nat → Nat) : gval (2 ^ a + 2 ^ b) e = e a + e b := by
  have h1 := sm_one (f := e) ha
  have h2 := sm_one (f := e) hb
  have h3 := sm_add (fun j => if j = a then e j else 0) (fun j => if j = b then e j else 0) 4
  rw [h1, h2] at h3
  rw [← h3]
  have hbit := (pow_bit2 a ha b hb).resolve_left hab
  refine sm_congr (fun q hq => ?_)
  rw [hbit q hq]
  by_cases x : q = a
  · have y : ¬ q = b := fun z => hab (x.symm.trans z)
    simp [x]
    intro z; exact absurd z hab
  · by_cases y : q = b
    · have hba : ¬ b = a := fun z => hab z.symm
      simp [y, hba]
    · simp [x, y]
theorem keyF : ∀ a, a ∈ keyL → a ∉ [32, 57, 69] → a ≠ 32 ∧ ¬ (34 ≤ a ∧ a < 56) ∧ ¬ (57 ≤ a ∧ a < 68) ∧ ¬ (69 ≤ a ∧ a < 80) ∧ a ≠ 97 ∧ a ≠ 98 ∧ a ≠ 99 ∧ a ≠ 100 := by decide +kernel
theorem Rel.fore {I J K : HIh} {c : HCf} {s : HCn} {t : Nat} {z : Int32} (hc : CC I c) (hm : MC I c) (hn : RNow I c s t) (hk : RKept I c) (ht : RText I) (ho : RNote I c) (hf : RFst I) (hJ : Fore I J c s t z) (e : ∀ a, a ≠ 87 → a ≠ 88 → a ≠ 97 → a ≠ 98 → a ≠ 99 → a ≠ 100 → K a = J a) (e87 : ∀ j, j ∈ [3, 6, 11, 13, 27] → K 87 j = J 87 j) (e88 : ∀ x, x < 93 → K 88 x = J 88 x) : Rel K := by
  have h87 : J 87 = I 87 := hJ.1 87 (by decide) (by decide) (by decide) (by decide)
  have h88 : J 88 = I 88 := hJ.1 88 (by decide) (by decide) (by decide) (by decide)
  refine Rel.mk3 hc hm hn hk ht ho hf (fun a ha n87 n88 na => ?_) (fun j hj => by rw [e87 j hj, h87]) (fun x hx => by rw [e88 x hx, h88]) ?_
  · have q := keyF a ha na
    rw [e a n87 n88 q.2.2.2.2.1 q.2.2.2.2.2.1 q.2.2.2.2.2.2.1 q.2.2.2.2.2.2.2]
    exact hJ.1 a q.1 q.2.1 q.2.2.1 q.2.2.2.1
  · exact hJ.cache.of ⟨by rw [e 32 (by decide) (by decide) (by decide) (by decide) (by decide) (by decide)], by rw [e 32 (by decide) (by decide) (by decide) (by decide) (by decide) (by decide)], e 57 (by decide) (by decide) (by decide) (by decide) (by decide) (by decide), e 69 (by decide) (by decide) (by decide) (by decide) (by decide) (by decide)⟩
theorem Fore.mc {I J : HIh} {c : HCf} {s : HCn} {t : Nat} {z : Int32} (h : Fore I J c s t z) (hm : MC I c) : MC J c := by
  have e := h.1
  exact hm.of ⟨by rw [e 87 (by decide) (by decide) (by decide) (by decide)], by rw [e 87 (by decide) (by decide) (by decide) (by decide)], by rw [e 87 (by decide) (by decide) (by decide) (by decide)], e 92 (by decide) (by decide) (by decide) (by decide), e 94 (by decide) (by decide) (by decide) (by decide), e 95 (by decide) (by decide) (by decide) (by decide), e 96 (by decide) (by decide) (by decide) (by decide)⟩
theorem Fore.cc {I J : HIh} {c : HCf} {s : HCn} {t : Nat} {z : Int32} (h : Fore I J c s t z) (hc : CC I c) : CC J c := by
  have e := h.1
  exact hc.of ⟨e 1 (by decide) (by decide) (by decide) (by decide), e 6 (by decide) (by decide) (by decide) (by decide), e 7 (by decide) (by decide) (by decide) (by decide), e 8 (by decide) (by decide) (by decide) (by decide), e 9 (by decide) (by decide) (by decide) (by decide)⟩
theorem dg_oI (o : Option Nat) : oI o + 1 = nI (dg o) := by
  cases o with
  | none => rfl
  | some k => exact nI_1 k
theorem left_n {c : HCf} (ok : CfOk c) {m t : Nat} (hm : m < 16) : fLeft c (nI m) t (cv c - t) = nI (frN c m (cv c - t) t) ∧ fLeftM c (nI m) t (cv c - t) = nI (frN c m (cv c - t) t) := by
  have h : ∀ j, j < cv c - t → cp c (t + j) < 4 := fun j hj => ok.2.2.2.2.2.2.2 _ (by omega)
  have e := fLeft_n (c := c) (t := t) hm (cv c - t) h
  refine ⟨by rw [e, frN_sm], ?_⟩
  rw [← fLeft_eq c (nI m) t (fun p hp => goal_01 m hm p hp) (cv c - t) h, e, frN_sm]
theorem frN_le (c : HCf) (m : Nat) : ∀ (n t : Nat), frN c m n t ≤ n
  | 0, _ => Nat.le_refl _
  | n + 1, t => by
    have := frN_le c m n (t + 1)
    unfold frN
    split <;> omega
section OPPLAN
variable {E : HEn} {d : Nat} {I : HIh}
theorem m_plan {Q : Option Value → HIh → Prop} {c : HCf} {s : HCn} {t p : Nat} {z b : Int32} (hp : p < 4) (hz : PlanG z (2 ^ p)) (h1 : (1 : Int32) <<< (nI p &&& 31) = nI (2 ^ p)) (ht : t ≤ cv c) (hF : frN c (2 ^ p) (cv c - t) t ≤ 5) (hm : MC I c) (hr : RowC (I 88) 0 s) (hg : I 88 30 = nI t) (hok : CnOk s) (hb : -1 ≤ b)
    (qm : b = -1 → ∀ K, FrL2 I K → Q (some (.int (nI ((play c (glOf z) (cv c - t) t s).1 p)))) K)
    (qo : ¬ b = -1 → nI (frN c (2 ^ p) (cv c - t) t) ≤ b → ∀ K, FrL2 I K → Q (some (.int (-1))) K)
    (qi : ∀ i, i < frN c (2 ^ p) (cv c - t) t → b = nI i → ∀ K, FrL2 I K → Q (some (.int (oI ((play c (glOf z) (cv c - t) t s).2.getD i none) + 1))) K) : HCall E me_X12_plan (d + 7) [.ref 87, .int (nI p), .int b] I Q := by
  have hcf := hm.2.2.2.2.2.2.2
  have hK : cK c ≤ 6 := hcf.2.1
  have hV : cv c ≤ 24 := hcf.2.2.2.2.2.2.1
  have p1 : (0 : Int32) ≤ nI p := nI_pos' (by omega)
  have p2 : nI p < 4 := nI_lt hp (by decide)
  have hcp : ∀ j, j < cv c - t → cp c (t + j) < 4 := fun j hj => hcf.2.2.2.2.2.2.2 _ (by omega)
  have hpl := plan_mx (c := c) (s := s) hK hz (cv c - t) t hcp
  have hln := play_frN (c := c) hz (cv c - t) t s hcp
  have hdg : ∀ o, o ∈ (play c (glOf z) (cv c - t) t s).2 → dg o < 7 := fun o ho => by
    cases o with
    | none => decide
    | some k => have := play_ok (cv c - t) t s _ ho k rfl; show k + 1 < 7; omega
  have hpb := play_b hcf (gl := glOf z) (cv c - t) t s (by omega) hok
  refine h_met (by decide) rfl (Nat.le_of_ble_eq_true rfl) (sg_X12_plan_0 (fun _ _ _ => ?_) (fun _ _ y => absurd hb y) (fun y => absurd ⟨p1, p2⟩ y))
  rw [h1]
  refine m_leftOf (d := d + 4) hm hg ht ?_
  rw [(left_n hcf (m := 2 ^ p) (t := t) hz.2.1).2]
  have le5 : nI (frN c (2 ^ p) (cv c - t) t) ≤ 5 := by
    show nI _ ≤ nI 5
    rw [nI_leI (by omega) (by decide)]; exact hF
  refine sg_X12_plan_25 (fun _ => ?_) (fun y => absurd le5 y)
  rw [h1]
  refine m_layPlan (d := d) hz.2.1 ht (by omega) hm hr hg hok (fun K fr k20 k21 => ?_)
  rw [hpl] at k20 k21
  dsimp only at k20 k21
  rw [gval_pow hp] at k20
  have k20' : K 87 20 = nI ((play c (glOf z) (cv c - t) t s).1 p) := by
    rw [i_eq, k20, nI_toInt (by have := hpb p hp; omega)]
  refine sg_X12_plan_42 (fun y w => qo y w K fr) (fun y w => ?_) (fun y => by rw [k20']; exact qm y K fr)
  have hb0 : 0 ≤ b := by
    rw [i_le, zm1] at hb; rw [i_eq, zm1] at y; rw [i_le, z0]; omega
  obtain ⟨i, hi, rfl⟩ := i_nat' hb0 (by omega) (i_nle w)
  rw [c_pred (by omega), nI_sub (by omega) (by omega), k21]
  have hp10 := pow_le (n := frN c (2 ^ p) (cv c - t) t - 1 - i) (by omega)
  have henc := enc_lt hdg
  have hp5 := pow_le (n := frN c (2 ^ p) (cv c - t) t) (by omega)
  rw [hln] at henc
  refine m_powerOf (d := d + 5) (by omega) (sg_X12_plan_71 (fun u => ?_) ?_)
  · have := (nI_eq (b := 0) (by omega) (by decide)).mp u
    have := p7 (frN c (2 ^ p) (cv c - t) t - 1 - i)
    omega
  · have h1 := Nat.div_le_self (enc (play c (glOf z) (cv c - t) t s).2) (7 ^ (frN c (2 ^ p) (cv c - t) t - 1 - i))
    have hd := enc_dig hdg i (by rw [hln]; exact hi)
    rw [hln] at hd
    rw [nI_div (by omega) (by omega), show (7 : Int32) = nI 7 from rfl, nI_mod (by omega) (by decide), hd, ← dg_oI]
    exact qi i hi rfl K fr
theorem t_plan {a b : Int32} (h : Rel I) : Twin E d me_X11_plan me_X12_plan [.ref 0, .int a, .int b] [.ref 87, .int a, .int b] I := by
  have H := h
  obtain ⟨c, s, t, hc, hm, hn, hk, htx, ho, hf, ha⟩ := h
  have hcf := hc.2.2.2.2.2.2.2
  have hV : cv c ≤ 24 := hcf.2.2.2.2.2.2.1
  obtain ⟨n1, n2, n3, n4, n5, n6⟩ := hn
  refine h_met (by decide) rfl (Nat.le_of_ble_eq_true rfl) (sg_X11_plan_0 (d := d + 28) (fun p1 p2 b1 => ?_) (fun p1 p2 b1 => ?_) (fun p1 => ?_))
  · obtain ⟨p, hp, rfl⟩ := px.mp ⟨p1, p2⟩
    obtain ⟨hz, h1⟩ := planG_1 p hp
    have hlf := frN_le c (2 ^ p) (cv c - t) t
    rw [h1]
    refine c_visitsLeft (d := d + 67) hc (by decide) n2 n6 ?_
    rw [(left_n hcf (m := 2 ^ p) (t := t) hz.2.1).1]
    have le5 : nI (frN c (2 ^ p) (cv c - t) t) ≤ 5 ↔ frN c (2 ^ p) (cv c - t) t ≤ 5 := nI_leI (b := 5) (by omega) (by decide)
    refine sg_X11_plan_34 (fun y => ?_) (fun y => ?_)
    all_goals rw [le5] at y
    · rw [h1] at hz
      have hln := play_frN (c := c) hz (cv c - t) t s (fun j hj => hcf.2.2.2.2.2.2.2 _ (by omega))
      refine c_foresee (d := d + 28) hz.1 hc n1 n2 n6 n5 ha (by omega) (fun J fJ => ?_)
      have e87 : J 87 = I 87 := fJ.1 87 (by decide) (by decide) (by decide) (by decide)
      have e88 : J 88 = I 88 := fJ.1 88 (by decide) (by decide) (by decide) (by decide)
      have mm : ∀ (Q : Option Value → HIh → Prop), (b = -1 → ∀ K, FrL2 J K → Q (some (.int (nI ((play c (glOf (nI (2 ^ p) <<< (4 * nI p &&& 31))) (cv c - t) t s).1 p)))) K) → (¬ b = -1 → nI (frN c (2 ^ p) (cv c - t) t) ≤ b → ∀ K, FrL2 J K → Q (some (.int (-1))) K) → (∀ i, i < frN c (2 ^ p) (cv c - t) t → b = nI i → ∀ K, FrL2 J K → Q (some (.int (oI ((play c (glOf (nI (2 ^ p) <<< (4 * nI p &&& 31))) (cv c - t) t s).2.getD i none) + 1))) K) → HCall E me_X12_plan (d + 63 + 7) [.ref 87, .int (nI p), .int b] J Q := fun Q q1 q2 q3 =>
        m_plan hp hz h1 n6 y (fJ.mc hm) (by rw [e88]; exact n3) (by rw [e88]; exact n4) n5 b1 q1 q2 q3
      have rel : ∀ K, FrL2 J K → Rel K := fun K fr => Rel.fore hc hm ⟨n1, n2, n3, n4, n5, n6⟩ hk htx ho hf fJ (fun a a1 a2 a3 _ _ _ => fr.1 a a1 a2 a3) (fun j hj => fr.2.1 j (fun w => by subst w; exact absurd hj (by decide)) (fun w => by subst w; exact absurd hj (by decide))) fr.2.2
      refine sg_X11_plan_57 (fun w => ?_) (fun w => ?_)
      · have hb0 : 0 ≤ b := by
          rw [i_le, zm1] at b1; rw [i_eq, zm1] at w; rw [i_le, z0]; omega
        refine c_step (d := d + 68) hb0 (by omega) fJ.2.2.2.1 (fun u => sg_X11_plan_81 ?_) (fun i hi e => sg_X11_plan_81 ?_)
        · rw [hln] at u
          refine mm _ (fun v => absurd v w) (fun _ _ K fr => ⟨_, rfl, rfl, rel K fr⟩) (fun i hi e K fr => ?_)
          exfalso
          rw [e, nI_leI (by omega) (by omega)] at u; omega
        · subst e
          rw [fJ.2.2.2.2 i hi]
          rw [hln] at hi
          refine mm _ (fun v => absurd v w) (fun _ u K fr => ?_) (fun j hj e K fr => ?_)
          · exfalso
            rw [nI_leI (by omega) (by omega)] at u; omega
          · have : i = j := (nI_eq (by omega) (by omega)).mp e
            subst this
            exact ⟨_, rfl, rfl, rel K fr⟩
      · refine c_endOf (d := d + 67) hp (fJ.2.2.1 p hp) (sg_X11_plan_70 ?_)
        refine mm _ (fun _ K fr => ⟨_, rfl, rfl, rel K fr⟩) (fun v => absurd w v) (fun i hi e K fr => ?_)
        exact absurd (e.symm.trans w) (nI_nm1 (by omega))
    · refine h_met (by decide) rfl (Nat.le_of_ble_eq_true rfl) (sg_X12_plan_0 (d := d + 63) (fun _ _ _ => ?_) (fun _ _ w => absurd b1 w) (fun w => absurd ⟨p1, p2⟩ w))
      rw [h1]
      refine m_leftOf (d := d + 67) hm n4 n6 ?_
      rw [(left_n hcf (m := 2 ^ p) (t := t) hz.2.1).2]
      exact sg_X12_plan_25 (fun w => absurd (le5.mp w) y) (fun _ => ⟨_, rfl, rfl, H⟩)
  · exact h_met (by decide) rfl (Nat.le_of_ble_eq_true rfl) (sg_X12_plan_0 (d := d + 63) (fun _ _ w => absurd w b1) (fun _ _ _ => ⟨_, rfl, rfl, H⟩) (fun w => absurd ⟨p1, p2⟩ w))
  · exact h_met (by decide) rfl (Nat.le_of_ble_eq_true rfl) (sg_X12_plan_0 (d := d + 63) (fun w y _ => absurd ⟨w, y⟩ p1) (fun w y _ => absurd ⟨w, y⟩ p1) (fun _ => ⟨_, rfl, rfl, H⟩))
theorem t_league {a b : Int32} (h : Rel I) : Twin E d me_X11_league me_X12_league [.ref 0, .int a, .int b] [.ref 87, .int a, .int b] I := by
  have H := h
  obtain ⟨c, s, t, hc, hm, hn, hk, htx, ho, hf, ha⟩ := h
  have hcf := hc.2.2.2.2.2.2.2
  have hK : cK c ≤ 6 := hcf.2.1
  have hV : cv c ≤ 24 := hcf.2.2.2.2.2.2.1
  obtain ⟨n1, n2, n3, n4, n5, n6⟩ := hn
  refine h_met (by decide) rfl (Nat.le_of_ble_eq_true rfl) (sg_X11_league_0 (d := d + 28) (fun p1 p2 p3 p4 ne => ?_) (fun p1 p2 p3 p4 e => ?_) (fun p1 p2 p3 => ?_) (fun p1 => ?_))
  · obtain ⟨p, hp, rfl⟩ := px.mp ⟨p1, p2⟩
    obtain ⟨r, hr, rfl⟩ := px.mp ⟨p3, p4⟩
    have hpr : p ≠ r := fun e => ne (by rw [e])
    obtain ⟨hz, h1⟩ := planG_2 hp hr hpr
    have hlf := frN_le c (2 ^ p + 2 ^ r) (cv c - t) t
    rw [h1]
    refine c_visitsLeft (d := d + 67) hc (by decide) n2 n6 ?_
    rw [(left_n hcf (m := 2 ^ p + 2 ^ r) (t := t) hz.2.1).1]
    have le5 : nI (frN c (2 ^ p + 2 ^ r) (cv c - t) t) ≤ 5 ↔ frN c (2 ^ p + 2 ^ r) (cv c - t) t ≤ 5 := nI_leI (b := 5) (by omega) (by decide)
    refine sg_X11_league_45 (fun y => ?_) (fun y => ?_)
    all_goals rw [le5] at y
    · rw [h1] at hz
      have hcp : ∀ j, j < cv c - t → cp c (t + j) < 4 := fun j hj => hcf.2.2.2.2.2.2.2 _ (by omega)
      have hln := play_frN (c := c) hz (cv c - t) t s hcp
      have hpl := plan_mx (c := c) (s := s) hK hz (cv c - t) t hcp
      refine c_foresee (d := d + 28) hz.1 hc n1 n2 n6 n5 ha (by omega) (fun J fJ => ?_)
      have e87 : J 87 = I 87 := fJ.1 87 (by decide) (by decide) (by decide) (by decide)
      have e88 : J 88 = I 88 := fJ.1 88 (by decide) (by decide) (by decide) (by decide)
      have rel : ∀ K, FrL2 J K → Rel K := fun K fr => Rel.fore hc hm ⟨n1, n2, n3, n4, n5, n6⟩ hk htx ho hf fJ (fun a a1 a2 a3 _ _ _ => fr.1 a a1 a2 a3) (fun j hj => fr.2.1 j (fun w => by subst w; exact absurd hj (by decide)) (fun w => by subst w; exact absurd hj (by decide))) fr.2.2
      have hpb := play_b hcf (gl := glOf ((nI (2 ^ p + 2 ^ r) <<< (4 * nI p &&& 31)) ||| (nI (2 ^ p + 2 ^ r) <<< (4 * nI r &&& 31)))) (cv c - t) t s (by omega) n5
      have hbp := hpb p hp
      have hbr := hpb r hr
      refine sg_X11_league_74 (c_endOf (d := d + 67) hp (fJ.2.2.1 p hp) (sg_X11_league_82 (c_endOf (d := d + 67) hr (fJ.2.2.1 r hr) (sg_X11_league_90 ?_))))
      refine h_met (by decide) rfl (Nat.le_of_ble_eq_true rfl) (sg_X12_league_0 (d := d + 63) (fun _ _ _ _ _ => ?_) (fun _ _ _ _ w => absurd w ne) (fun _ _ w => absurd ⟨p3, p4⟩ w) (fun w => absurd ⟨p1, p2⟩ w))
      rw [h1]
      refine m_leftOf (d := d + 67) (fJ.mc hm) (by rw [e88]; exact n4) n6 ?_
      rw [(left_n hcf (m := 2 ^ p + 2 ^ r) (t := t) hz.2.1).2]
      refine sg_X12_league_38 (fun _ => ?_) (fun w => absurd (le5.mpr y) w)
      refine m_layPlan (d := d + 63) hz.2.1 n6 (by omega) (fJ.mc hm) (by rw [e88]; exact n3) (by rw [e88]; exact n4) n5 (fun K fr k20 k21 => sg_X12_league_56 ?_)
      rw [hpl] at k20
      dsimp only at k20
      rw [gval_pow2 hp hr hpr] at k20
      refine ⟨_, rfl, vI ?_, rel K fr⟩
      rw [i_eq, k20, nI_add, nI_toInt (by omega)]
    · refine h_met (by decide) rfl (Nat.le_of_ble_eq_true rfl) (sg_X12_league_0 (d := d + 63) (fun _ _ _ _ _ => ?_) (fun _ _ _ _ w => absurd w ne) (fun _ _ w => absurd ⟨p3, p4⟩ w) (fun w => absurd ⟨p1, p2⟩ w))
      rw [h1]
      refine m_leftOf (d := d + 67) hm n4 n6 ?_
      rw [(left_n hcf (m := 2 ^ p + 2 ^ r) (t := t) hz.2.1).2]
      exact sg_X12_league_38 (fun w => absurd (le5.mp w) y) (fun _ => ⟨_, rfl, rfl, H⟩)
  · exact h_met (by decide) rfl (Nat.le_of_ble_eq_true rfl) (sg_X12_league_0 (d := d + 63) (fun _ _ _ _ w => absurd e w) (fun _ _ _ _ _ => ⟨_, rfl, rfl, H⟩) (fun _ _ w => absurd ⟨p3, p4⟩ w) (fun w => absurd ⟨p1, p2⟩ w))
  · exact h_met (by decide) rfl (Nat.le_of_ble_eq_true rfl) (sg_X12_league_0 (d := d + 63) (fun _ _ w y => absurd ⟨w, y⟩ p3) (fun _ _ w y => absurd ⟨w, y⟩ p3) (fun _ _ _ => ⟨_, rfl, rfl, H⟩) (fun w => absurd ⟨p1, p2⟩ w))
  · exact h_met (by decide) rfl (Nat.le_of_ble_eq_true rfl) (sg_X12_league_0 (d := d + 63) (fun w y => absurd ⟨w, y⟩ p1) (fun w y => absurd ⟨w, y⟩ p1) (fun w y => absurd ⟨w, y⟩ p1) (fun _ => ⟨_, rfl, rfl, H⟩))
end OPPLAN
