/-! what is to be expected: the reference, and side by side -/
def TwinL (E : HEn) (d : Nat) (me me' : HMe) (as as' : List Value) (I : HIh) : Prop := HCall E me (d + 70) as I (fun v J => HCall E me' (d + 70) as' J (fun v' J' => ∃ r : Int64, v = some (.long r) ∧ v' = some (.long r) ∧ Rel J'))
section MEANM
variable {E : HEn} {d : Nat} {Q : Option Value → HIh → Prop} {I : HIh}
theorem div_6 : ∀ (b a : Nat) (Q : Option Value → HIh → Prop), a < 2 ^ 63 → b < 2 ^ 63 → Q (some (.long (lN (Nat.gcd a b)))) I → HGo E (mF E (d + 1) Q) me_X12_divisor 6 [(4, .long (lN a)), (6, .long (lN b))] [] I := by
  intro b
  induction b using Nat.strongRecOn with
  | _ b ih =>
    intro a Q ha hb q
    have z0' : lN b = 0 ↔ b = 0 := pk_lEQ (b := 0) hb (by decide)
    refine sg_X12_divisor_6 (fun z => ?_) (fun z => ?_) (fun z => ?_)
    all_goals rw [lg_cmp_eq, z0'] at z
    · subst z
      rw [Nat.gcd_zero_right] at q
      exact q
    · exact fun w => z (z0'.mp w)
    · rw [pk_lRem ha (by omega) hb]
      refine ih (a % b) (Nat.mod_lt _ (by omega)) b Q hb (by have := Nat.mod_lt a (show 0 < b by omega); omega) ?_
      have e : Nat.gcd b (a % b) = Nat.gcd a b := by rw [Nat.gcd_comm a b, Nat.gcd_rec b a, Nat.gcd_comm]
      rw [e]; exact q
theorem m_divisor {a b : Nat} (ha : a < 2 ^ 63) (hb : b < 2 ^ 63) (q : Q (some (.long (lN (Nat.gcd a b)))) I) : HCall E me_X12_divisor (d + 1) [.long (lN a), .long (lN b)] I Q :=
  h_met (by decide) rfl (Nat.le_of_ble_eq_true rfl) (sg_X12_divisor_0 (div_6 b a Q ha hb q))
theorem wb_17 {c : HCf} {p th : Nat} (hp : p < 4) (hth : th < 2 ^ 31) : ∀ (n t k : Nat) (s : HCn) (J : HIh) (Q : Option Value → HIh → Prop), t + n = cv c → k + n ≤ 11 → MC J c → RowC (J 88) 93 s → CnOk s → (∀ K, FrR J K → Q (some (.int (nI (bW c p n t s k th)))) K) → HGo E (mF E (d + 5) Q) me_X12_worthBy 17 [(0, .ref 87), (1, .int (nI p)), (2, .int (nI th)), (3, .int (nI k)), (4, .int (nI t))] [] J
  | 0, t, k, s, J, Q, ht, hk, hm, hr, hok, q => by
    have hV : cv c ≤ 24 := hm.2.2.2.2.2.2.2.2.2.2.2.2.2.1
    have y : J 87 13 ≤ nI t := by rw [hm.2.1, nI_leI (by omega) (by omega)]; omega
    refine sg_X12_worthBy_17 (fun _ => ?_) (fun z => absurd y z) (fun z => absurd y z) (fun z => absurd y z) (fun z => absurd y z) (fun z => absurd y z) (fun z => absurd y z)
    exact m_worthOf (d := d + 3) (b := 93) hm hr (by decide) hp (sg_X12_worthBy_97 (q J ⟨fun _ _ _ => rfl, fun _ _ => rfl⟩))
  | n + 1, t, k, s, J, Q, ht, hk, hm, hr, hok, q => by
    have hcf := hm.2.2.2.2.2.2.2
    have hV : cv c ≤ 24 := hcf.2.2.2.2.2.2.1
    have hcp : cp c t < 4 := hcf.2.2.2.2.2.2.2 t (by omega)
    have ny : ¬ J 87 13 ≤ nI t := by rw [hm.2.1, nI_leI (by omega) (by omega)]; omega
    have ev : J 96 (nI t).toNatClampNeg = nI (cp c t) := by rw [nI_clamp (by omega)]; exact hm.2.2.2.2.2.2.1 t (by omega)
    have ep : J 96 (nI t).toNatClampNeg = nI p ↔ cp c t = p := by rw [ev]; exact nI_eq (by omega) (by omega)
    have vt : vp_in (nI t) 24 := vp_in_nI (by omega) (by decide)
    have bt := th_bit hth (show k < 11 by omega)
    refine sg_X12_worthBy_17 (fun z => absurd z ny) (fun _ => vt) (fun _ _ _ => vt) (fun _ z y => ?_) (fun _ z y => ?_) (fun _ _ => vt) (fun _ z => ?_)
    all_goals rw [ep] at z
    · rw [bt] at y
      rw [ev]
      refine m_visitsBy (d := d) (b := 93) hm hr (by decide) hok.l2 hcp (fun ft g hg ho => sg_X12_worthBy_70 (fun _ => ?_) (fun u => absurd rfl u))
      have fr : FrR J (setI (setI J 97 ft) 88 g) := FrR.mk' (b := 93) (by decide) (by decide) ft g (fun x hx => ho x (by omega))
      rw [nI_1, nI_1]
      refine wb_17 hp hth n (t + 1) (k + 1) _ _ Q (by omega) (by omega) (fr.mc hm) (by rw [setI_same]; exact hg) (vst_ok hok hcp (fun k e => (hab_lt e).2)) (fun K fr2 => ?_)
      have := q K (fr.tr fr2)
      unfold bW at this
      rw [if_neg z, if_pos y] at this
      exact this
    · rw [bt] at y
      rw [nI_1, nI_1]
      refine wb_17 hp hth n (t + 1) (k + 1) s J Q (by omega) (by omega) hm hr hok (fun K fr2 => ?_)
      have := q K fr2
      unfold bW at this
      rw [if_neg z, if_neg y] at this
      exact this
    · rw [ev, z]
      refine m_visitsBy (d := d) (b := 93) hm hr (by decide) hok.l2 hp (fun ft g hg ho => sg_X12_worthBy_70 (fun u => absurd u (by decide)) (fun _ => ?_))
      have fr : FrR J (setI (setI J 97 ft) 88 g) := FrR.mk' (b := 93) (by decide) (by decide) ft g (fun x hx => ho x (by omega))
      rw [show (0 : Int32) = nI 0 from rfl, nI_add, nI_1]
      refine wb_17 hp hth n (t + 1) k _ _ Q (by omega) (by omega) (fr.mc hm) (by rw [setI_same]; exact hg) (vst_ok hok hp (fun k e => (hab_lt e).2)) (fun K fr2 => ?_)
      have := q K (fr.tr fr2)
      unfold bW at this
      rw [if_pos z] at this
      exact this
theorem m_worthBy {c : HCf} {s : HCn} {p th t : Nat} (hp : p < 4) (hth : th < 2 ^ 31) (ht : t ≤ cv c) (hn : cv c - t ≤ 10) (hm : MC I c) (hr : RowC (I 88) 0 s) (hg : I 88 30 = nI t) (hok : CnOk s) (q : ∀ K, FrR I K → Q (some (.int (nI (bW c p (cv c - t) t s 0 th)))) K) : HCall E me_X12_worthBy (d + 5) [.ref 87, .int (nI p), .int (nI th)] I Q := by
  refine h_met (by decide) rfl (Nat.le_of_ble_eq_true rfl) (sg_X12_worthBy_0 (m_copy (d := d + 3) (a := 0) (b := 3) (by decide) (by decide) (by decide) (fun g g1 g2 => sg_X12_worthBy_6 ?_)))
  have fr : FrR I (setI I 88 g) := ⟨fun a a1 a2 => setI_ne _ _ a1, fun x hx => by rw [setI_same]; exact g2 x (by omega)⟩
  have e30 : (setI I 88 g) 88 30 = nI t := by rw [setI_same, g2 30 (by omega)]; exact hg
  rw [e30]
  have row : RowC ((setI I 88 g) 88) 93 s := by
    rw [setI_same]
    have h0 : RowC (I 88) (31 * 0) s := hr
    exact h0.cpy (b := 3) (g := g) (fun j hj => g1 j hj)
  exact wb_17 hp hth (cv c - t) t 0 s _ Q (by omega) (by omega) (fr.mc hm) row hok (fun K fr2 => q K (fr.tr fr2))
theorem mean_119 {q th N wth : Nat} {x3 x1 : Int32} {x5 x7 : Int64} (hq : q ≤ 10) (hth : th < 2 ^ 31) (hN : N ≤ 10) (k : HGo E (mF E (d + 6) Q) me_X12_mean 97 [(0, .ref 87), (1, .int x1), (2, .int (nI q)), (3, .int x3), (4, .int (nI N)), (5, .long (x5 + lN (wth * prd q th N))), (7, .long x7), (9, .int (nI (th + 1)))] [] I) : ∀ (m j : Nat), j + m = N → HGo E (mF E (d + 6) Q) me_X12_mean 119 [(0, .ref 87), (1, .int x1), (2, .int (nI q)), (3, .int x3), (4, .int (nI N)), (5, .long x5), (7, .long x7), (9, .int (nI th)), (10, .long (lN (wth * prd q th j))), (12, .int (nI j))] [] I
  | m, j, hj => by
    have le : nI N ≤ nI j ↔ N ≤ j := nI_leI (by omega) (by omega)
    refine sg_X12_mean_119 (fun z => ?_) (fun z y => ?_) (fun z y => ?_)
    all_goals rw [le] at z
    · have : j = N := by omega
      subst this
      rw [nI_1]; exact k
    all_goals
      rw [th_bit hth (by omega)] at y
      obtain ⟨m, rfl⟩ : ∃ k, m = k + 1 := ⟨m - 1, by omega⟩
    · rw [nI_l (by omega), lN_mul, nI_1, Nat.mul_assoc]
      have := mean_119 hq hth hN k m (j + 1) (by omega)
      have e : prd q th (j + 1) = prd q th j * q := by
        show prd q th j * (if th.testBit j = true then q else 10 - q) = _
        rw [if_pos y]
      rw [e] at this
      exact this
    · rw [show (10 : Int32) = nI 10 from rfl, nI_sub (by decide) hq, nI_l (by omega), lN_mul, nI_1, Nat.mul_assoc]
      have := mean_119 hq hth hN k m (j + 1) (by omega)
      have e : prd q th (j + 1) = prd q th j * (10 - q) := by
        show prd q th j * (if th.testBit j = true then q else 10 - q) = _
        rw [if_neg y]
      rw [e] at this
      exact this
theorem mean_97 {c : HCf} {s : HCn} {p q t N : Nat} {x3 : Int32} (hp : p < 4) (hq : q ≤ 10) (ht : t ≤ cv c) (hn : cv c - t ≤ 10) (hm : MC I c) (hr : RowC (I 88) 0 s) (hg : I 88 30 = nI t) (hok : CnOk s) (hN : othN c p (cv c - t) t = N)
    (k : ∀ K, FrR I K → HCall E me_X12_divisor (d + 5) [.long (lN (mnW c p q (cv c - t) t s)), .long (lN (10 ^ N))] K (fun v9 J => HGo E (mF E (d + 6) Q) me_X12_mean 177 [(3, .int x3), (5, .long (lN (mnW c p q (cv c - t) t s))), (7, .long (lN (10 ^ N)))] (v9.toList ++ []) J)) : ∀ (m th : Nat) (J : HIh), th + m = 2 ^ N → FrR I J → HGo E (mF E (d + 6) Q) me_X12_mean 97 [(0, .ref 87), (1, .int (nI p)), (2, .int (nI q)), (3, .int x3), (4, .int (nI N)), (5, .long (lN (sm (fun th => bW c p (cv c - t) t s 0 th * prd q th N) th))), (7, .long (lN (10 ^ N))), (9, .int (nI th))] [] J
  | m, th, J, hth, fr => by
    have hol := othN_le c p (cv c - t) t
    have p2 := p2_n N (by omega)
    have le : (1 : Int32) <<< (nI N &&& 31) ≤ nI th ↔ 2 ^ N ≤ th := by rw [p2.1, nI_leI (by omega) (by omega)]
    have hV : cv c ≤ 24 := hm.2.2.2.2.2.2.2.2.2.2.2.2.2.1
    refine sg_X12_mean_97 (fun z => ?_) (fun z => ?_)
    all_goals rw [le] at z
    · have e : th = 2 ^ N := by omega
      subst e
      have ms := mean_sum c p q (cv c - t) t s
      rw [hN] at ms
      rw [ms]
      exact k J fr
    · obtain ⟨m, rfl⟩ : ∃ k, m = k + 1 := ⟨m - 1, by omega⟩
      have hms := hm
      refine m_worthBy (d := d) (c := c) (s := s) (t := t) hp (by omega) ht hn (fr.mc hm) (fr.row hr) ((fr.2 30 (by decide)).trans hg) hok (fun K fr2 => sg_X12_mean_113 ?_)
      have hbw : bW c p (cv c - t) t s 0 th < 2 ^ 31 := by
        have : ∀ (n t : Nat) (s : HCn) (k : Nat), t + n = cv c → CnOk s → bW c p n t s k th ≤ 599400 := by
          intro n
          induction n with
          | zero => intro t s k _ hs; exact wealth_lt hm.2.2.2.2.2.2.2 hs (by omega)
          | succ n ih =>
            intro t s k ht hs
            have hcp := hm.2.2.2.2.2.2.2.2.2.2.2.2.2.2 t (by omega)
            unfold bW
            split
            · exact ih _ _ _ (by omega) (vst_ok hs hp (fun k e => (hab_lt e).2))
            · split
              · exact ih _ _ _ (by omega) (vst_ok hs hcp (fun k e => (hab_lt e).2))
              · exact ih _ _ _ (by omega) hs
        have := this (cv c - t) t s 0 (by omega) hok
        omega
      rw [nI_l hbw]
      have G := mean_119 (E := E) (d := d) (Q := Q) (I := K) (q := q) (th := th) (N := N) (wth := bW c p (cv c - t) t s 0 th) (x3 := x3) (x1 := nI p) (x5 := lN (sm (fun th => bW c p (cv c - t) t s 0 th * prd q th N) th)) (x7 := lN (10 ^ N)) hq (by omega) (by omega) (by
        rw [lN_add]
        exact mean_97 hp hq ht hn hm hr hg hok hN k m (th + 1) K (by omega) (fr.tr fr2)) N 0 (by omega)
      rw [show prd q th 0 = 1 from rfl, Nat.mul_one] at G
      exact G
theorem mean_73 {N : Nat} {x1 x2 x3 : Int32} (hN : N ≤ 10) (k : HGo E (mF E (d + 6) Q) me_X12_mean 97 [(0, .ref 87), (1, .int x1), (2, .int x2), (3, .int x3), (4, .int (nI N)), (5, .long 0), (7, .long (lN (10 ^ N))), (9, .int 0)] [] I) : ∀ (m j : Nat), j + m = N → HGo E (mF E (d + 6) Q) me_X12_mean 73 [(0, .ref 87), (1, .int x1), (2, .int x2), (3, .int x3), (4, .int (nI N)), (5, .long 0), (7, .long (lN (10 ^ j))), (9, .int (nI j))] [] I
  | m, j, hj => by
    have le : nI N ≤ nI j ↔ N ≤ j := nI_leI (by omega) (by omega)
    refine sg_X12_mean_73 (fun z => ?_) (fun z => ?_)
    all_goals rw [le] at z
    · have : j = N := by omega
      subst this; exact k
    · obtain ⟨m, rfl⟩ : ∃ k, m = k + 1 := ⟨m - 1, by omega⟩
      rw [show (10 : Int64) = lN 10 from rfl, lN_mul, ← Nat.pow_succ, nI_1]
      exact mean_73 hN k m (j + 1) (by omega)
theorem m_mean {c : HCf} {s : HCn} {p q t : Nat} {e : Int32} (hp : p < 4) (hq : q ≤ 10) (he : 0 ≤ e ∧ e ≤ 1) (ht : t ≤ cv c) (hn : cv c - t ≤ 10) (hm : MC I c) (hr : RowC (I 88) 0 s) (hg : I 88 30 = nI t) (hok : CnOk s) (k0 : e = 0 → ∀ K, FrR I K → Q (some (.long (lN (mnW c p q (cv c - t) t s / Nat.gcd (mnW c p q (cv c - t) t s) (10 ^ othN c p (cv c - t) t))))) K) (k1 : ¬ e = 0 → ∀ K, FrR I K → Q (some (.long (lN (10 ^ othN c p (cv c - t) t / Nat.gcd (mnW c p q (cv c - t) t s) (10 ^ othN c p (cv c - t) t))))) K) : HCall E me_X12_mean (d + 6) [.ref 87, .int (nI p), .int (nI q), .int e] I Q := by
  have hcf := hm.2.2.2.2.2.2.2
  have hV : cv c ≤ 24 := hcf.2.2.2.2.2.2.1
  have hcp : ∀ j, j < cv c - t → cp c (t + j) < 4 := fun j hj => hcf.2.2.2.2.2.2.2 _ (by omega)
  have hol := othN_le c p (cv c - t) t
  have hof := oth_fr (c := c) hp (cv c - t) t hcp
  have p1 : (0 : Int32) ≤ nI p := nI_pos' (by omega)
  have p2 : nI p < 4 := nI_lt hp (by decide)
  have wq : ((0 : Int64) ≤ (nI q).toInt64 ∧ ((nI q).toInt64 : Int64) ≤ 10) := (win (nI q) 0 10).mpr ⟨nI_pos' (by omega), by show nI q ≤ nI 10; rw [nI_leI (by omega) (by decide)]; exact hq⟩
  have we : ((0 : Int64) ≤ e.toInt64 ∧ (e.toInt64 : Int64) ≤ 1) := (win e 0 1).mpr he
  have le10 : I 87 13 - I 88 30 ≤ 10 := by rw [hm.2.1, hg, nI_sub (by omega) ht]; exact (nI_leI (b := 10) (by omega) (by decide)).mpr hn
  obtain ⟨hz, h1⟩ := planG_1 p hp
  have hb := mnW_b hcf hp hq (cv c - t) t s (by omega) hok
  have hpN : 10 ^ othN c p (cv c - t) t ≤ 10000000000 := Nat.le_trans (Nat.pow_le_pow_right (by decide) (show othN c p (cv c - t) t ≤ 10 by omega)) (by decide)
  have hp0 : 0 < 10 ^ othN c p (cv c - t) t := Nat.pow_pos (by decide)
  have hG : 0 < Nat.gcd (mnW c p q (cv c - t) t s) (10 ^ othN c p (cv c - t) t) := Nat.gcd_pos_of_pos_right _ hp0
  have hGle : Nat.gcd (mnW c p q (cv c - t) t s) (10 ^ othN c p (cv c - t) t) ≤ 10 ^ othN c p (cv c - t) t := Nat.gcd_le_right _ hp0
  refine h_met (by decide) rfl (Nat.le_of_ble_eq_true rfl) (sg_X12_mean_0 (fun _ _ _ _ _ _ _ => ?_) (fun _ _ _ _ _ _ z => absurd le10 z) (fun _ _ _ _ z => absurd we z) (fun _ _ z => absurd wq z) (fun z => absurd ⟨p1, p2⟩ z))
  rw [h1]
  refine m_leftOf (d := d + 3) hm hg ht (sg_X12_mean_61 ?_)
  rw [(left_n hcf (m := 2 ^ p) (t := t) hz.2.1).2, hm.2.1, hg, nI_sub (by omega) ht, nI_sub (by omega) (by omega)]
  have eN : cv c - t - frN c (2 ^ p) (cv c - t) t = othN c p (cv c - t) t := by omega
  rw [eN]
  refine mean_73 (by omega) ?_ (othN c p (cv c - t) t) 0 (by omega)
  refine mean_97 (c := c) (s := s) hp hq ht hn hm hr hg hok rfl (fun K fr => ?_) (2 ^ othN c p (cv c - t) t) 0 I (by omega) ⟨fun _ _ _ => rfl, fun _ _ => rfl⟩
  refine m_divisor (d := d + 4) (by omega) (by omega) ?_
  have gz : ¬ lN (Nat.gcd (mnW c p q (cv c - t) t s) (10 ^ othN c p (cv c - t) t)) = 0 := fun z => by
    have := (pk_lEQ (b := 0) (by omega) (by decide)).mp z; omega
  refine sg_X12_mean_177 (fun _ => gz) (fun z => ?_) (fun _ => gz) (fun z => ?_)
  · rw [pk_lDiv (by omega) hG (by omega)]; exact k1 z K fr
  · rw [pk_lDiv (by omega) hG (by omega)]; exact k0 z K fr
theorem t_mean {a b e : Int32} (h : Rel I) : TwinL E d me_X11_mean me_X12_mean [.ref 0, .int a, .int b, .int e] [.ref 87, .int a, .int b, .int e] I := by
  have H := h
  obtain ⟨c, s, t, hc, hm, hn, hk, htx, ho, hf, ha⟩ := h
  have hcf := hc.2.2.2.2.2.2.2
  have hV : cv c ≤ 24 := hcf.2.2.2.2.2.2.1
  obtain ⟨n1, n2, n3, n4, n5, n6⟩ := hn
  have wb : ((0 : Int64) ≤ b.toInt64 ∧ (b.toInt64 : Int64) ≤ 10) ↔ (0 ≤ b ∧ b ≤ 10) := win b 0 10
  have we : ((0 : Int64) ≤ e.toInt64 ∧ (e.toInt64 : Int64) ≤ 1) ↔ (0 ≤ e ∧ e ≤ 1) := win e 0 1
  have le10 : I 87 13 - I 88 30 ≤ 10 ↔ cv c - t ≤ 10 := by rw [hm.2.1, n4, nI_sub (by omega) n6]; exact nI_leI (b := 10) (by omega) (by decide)
  have le10x : I 1 10 - I 12 1 ≤ 10 ↔ cv c - t ≤ 10 := by rw [hc.2.1, n2, nI_sub (by omega) n6]; exact nI_leI (b := 10) (by omega) (by decide)
  have nb : ¬ (0 ≤ b ∧ b ≤ 10) → (0 : Int32) ≤ a → a < 4 → HCall E me_X12_mean (d + 64 + 6) [.ref 87, .int a, .int b, .int e] I (fun v' J' => ∃ r : Int64, (some (Value.long (-3)) = some (.long r)) ∧ v' = some (.long r) ∧ Rel J') := fun z p1 p2 =>
    h_met (by decide) rfl (Nat.le_of_ble_eq_true rfl) (sg_X12_mean_0 (d := d + 64) (fun _ _ u v => absurd (wb.mp ⟨u, v⟩) z) (fun _ _ u v => absurd (wb.mp ⟨u, v⟩) z) (fun _ _ u v => absurd (wb.mp ⟨u, v⟩) z) (fun _ _ _ => ⟨_, rfl, rfl, H⟩) (fun w => absurd ⟨p1, p2⟩ w))
  have ne : (0 ≤ b ∧ b ≤ 10) → ¬ (0 ≤ e ∧ e ≤ 1) → (0 : Int32) ≤ a → a < 4 → HCall E me_X12_mean (d + 64 + 6) [.ref 87, .int a, .int b, .int e] I (fun v' J' => ∃ r : Int64, (some (Value.long (-3)) = some (.long r)) ∧ v' = some (.long r) ∧ Rel J') := fun hb z p1 p2 =>
    h_met (by decide) rfl (Nat.le_of_ble_eq_true rfl) (sg_X12_mean_0 (d := d + 64) (fun _ _ _ _ u v => absurd (we.mp ⟨u, v⟩) z) (fun _ _ _ _ u v => absurd (we.mp ⟨u, v⟩) z) (fun _ _ _ _ _ => ⟨_, rfl, rfl, H⟩) (fun _ _ u => absurd (wb.mpr hb) u) (fun w => absurd ⟨p1, p2⟩ w))
  refine h_met (by decide) rfl (Nat.le_of_ble_eq_true rfl) (sg_X11_mean_0 (d := d + 8) (fun p1 p2 z => ?_) (fun p1 p2 z y => ?_) (fun p1 p2 z y u => ?_) (fun p1 p2 z y u v w => ?_) (fun p1 p2 z y u v w => ?_) (fun p1 p2 z y u v => ?_) (fun p1 => ?_))
  · exact nb (fun w => i_lt_n z w.1) p1 p2
  · exact nb (fun w => i_lt_n y w.2) p1 p2
  · exact ne ⟨i_nlt z, i_nlt y⟩ (fun w => i_lt_n u w.1) p1 p2
  · rw [le10x] at w
    obtain ⟨p, hp, rfl⟩ := px.mp ⟨p1, p2⟩
    obtain ⟨q, hq, rfl⟩ := i_nat' (x := b) (i_nlt z) (n := 11) (by decide) (by
      have := i_nlt y
      rw [i_le, show (10 : Int32).toInt = 10 from rfl] at this
      rw [i_lt, nI_toInt (by decide)]; omega)
    have rel : ∀ J K, FrE I J → FrR J K → Rel K := fun J K fe fr => by
      refine Rel.mk3 hc hm ⟨n1, n2, n3, n4, n5, n6⟩ hk htx ho hf (fun a ha n87 n88 na => ?_) (fun j _ => by rw [fr.1 87 (by decide) (by decide), fe.1 87 (by decide) (by decide)]) (fun x hx => by rw [fr.2 x (Or.inl hx), fe.1 88 (by decide) (by decide)]) ?_
      · have q := keyF a ha na
        rw [fr.1 a n88 q.2.2.2.2.1, fe.1 a q.1 q.2.1]
      · exact ha.of ⟨by rw [fr.1 32 (by decide) (by decide)]; exact fe.2 4 (by decide) (by decide), by rw [fr.1 32 (by decide) (by decide)]; exact fe.2 5 (by decide) (by decide), by rw [fr.1 57 (by decide) (by decide), fe.1 57 (by decide) (by decide)], by rw [fr.1 69 (by decide) (by decide), fe.1 69 (by decide) (by decide)]⟩
    have mm : ∀ J, FrE I J → ∀ R : Option Value → HIh → Prop, (e = 0 → ∀ K, FrR J K → R (some (.long (lN (mnW c p q (cv c - t) t s / Nat.gcd (mnW c p q (cv c - t) t s) (10 ^ othN c p (cv c - t) t))))) K) → (¬ e = 0 → ∀ K, FrR J K → R (some (.long (lN (10 ^ othN c p (cv c - t) t / Nat.gcd (mnW c p q (cv c - t) t s) (10 ^ othN c p (cv c - t) t))))) K) → HCall E me_X12_mean (d + 64 + 6) [.ref 87, .int (nI p), .int (nI q), .int e] J R := fun J fe R r0 r1 =>
      m_mean (c := c) (s := s) (t := t) hp (by omega) ⟨i_nlt u, v⟩ n6 w (hm.of ⟨by rw [fe.1 87 (by decide) (by decide)], by rw [fe.1 87 (by decide) (by decide)], by rw [fe.1 87 (by decide) (by decide)], fe.1 92 (by decide) (by decide), fe.1 94 (by decide) (by decide), fe.1 95 (by decide) (by decide), fe.1 96 (by decide) (by decide)⟩) (by rw [fe.1 88 (by decide) (by decide)]; exact n3) (by rw [fe.1 88 (by decide) (by decide)]; exact n4) n5 r0 r1
    refine c_expected (d := d + 8) hp (by omega) hc n1 n2 n6 n5 w (fun ez J fe => sg_X11_mean_72 ?_) (fun ez J fe => sg_X11_mean_72 ?_)
    · exact mm J fe _ (fun _ K fr => ⟨_, rfl, rfl, rel J K fe fr⟩) (fun nz => absurd ez nz)
    · exact mm J fe _ (fun nz => absurd nz ez) (fun _ K fr => ⟨_, rfl, rfl, rel J K fe fr⟩)
  · rw [le10x] at w
    exact h_met (by decide) rfl (Nat.le_of_ble_eq_true rfl) (sg_X12_mean_0 (d := d + 64) (fun _ _ _ _ _ _ x => absurd (le10.mp x) w) (fun _ _ _ _ _ _ _ => ⟨_, rfl, rfl, H⟩) (fun _ _ _ _ x => absurd (we.mpr ⟨i_nlt u, v⟩) x) (fun _ _ x => absurd (wb.mpr ⟨i_nlt z, i_nlt y⟩) x) (fun w => absurd ⟨p1, p2⟩ w))
  · exact ne ⟨i_nlt z, i_nlt y⟩ (fun w => v w.2) p1 p2
  · exact h_met (by decide) rfl (Nat.le_of_ble_eq_true rfl) (sg_X12_mean_0 (d := d + 64) (fun x y => absurd ⟨x, y⟩ p1) (fun x y => absurd ⟨x, y⟩ p1) (fun x y => absurd ⟨x, y⟩ p1) (fun x y => absurd ⟨x, y⟩ p1) (fun _ => ⟨_, rfl, rfl, H⟩))
end MEANM
