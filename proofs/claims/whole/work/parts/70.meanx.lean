/-! what is to be expected: the class -/
def FrW (L : Nat) (I J : HIh) : Prop := ∀ a, ¬ (34 + 2 * L ≤ a ∧ a < 56) → J a = I a
theorem FrW.tr {L : Nat} {I J K : HIh} (h : FrW L I J) (e : FrW L J K) : FrW L I K := fun a a1 => (e a a1).trans (h a a1)
theorem FrW.up {L : Nat} {I J : HIh} (h : FrW (L + 1) I J) : FrW L I J := fun a a1 => h a (fun w => a1 ⟨by omega, w.2⟩)
theorem FrW.cc {L : Nat} {I J : HIh} {c : HCf} (h : FrW L I J) (hc : CC I c) : CC J c := hc.of ⟨h 1 (by omega), h 6 (by omega), h 7 (by omega), h 8 (by omega), h 9 (by omega)⟩
theorem lI {x y : Int64} (h : x = y) : some (Value.long x) = some (Value.long y) := by rw [h]
section MEANX
variable {E : HEn} {d : Nat} {Q : Option Value → HIh → Prop} {I : HIh}
theorem x_weigh {c : HCf} {p q : Nat} (hp : p < 4) (hq : q ≤ 10) : ∀ (n t : Nat) (s : HCn) (L dd : Nat) (I : HIh) (Q : Option Value → HIh → Prop) (w : Nat), t + n = cv c → CC I c → I 32 6 = nI p → I 32 7 = nI q → LotC (I (35 + 2 * L)) s → I (34 + 2 * L) 1 = nI t → CnOk s → L + othN c p n t ≤ 10 → 2 * othN c p n t ≤ dd → (∀ J, FrW L I J → Q (some (.long (lN (w * mnW c p q n t s)))) J) → HGo E (mF E (dd + 10) Q) me_X2_weigh 27 [(0, .ref 32), (1, .int (nI L)), (2, .ref (34 + 2 * L)), (3, .long (lN w)), (5, .int (nI t))] [] I
  | 0, t, s, L, dd, I, Q, w, ht, hc, h6, h7, hs, hgn, hok, hL, hdd, k => by
    obtain ⟨⟨l1, l2⟩, -, -⟩ := fp_lab L (by omega)
    obtain ⟨⟨a1, a2, a3, a4, a5, a6⟩, -, -⟩ := lot_f _ l1
    have hV : cv c ≤ 24 := hc.2.2.2.2.2.2.2.2.2.2.2.2.2.1
    have y : I 1 10 ≤ nI t := by rw [hc.2.1, nI_leI (by omega) (by omega)]; omega
    have hw := wealth_lt hc.2.2.2.2.2.2.2 hok (show p < 5 by omega)
    refine sg_X2_weigh_27 a1 a2 (fun _ => ?_) (fun z => absurd y z) (fun z => absurd y z)
    rw [h6]
    refine c_wealth (d := dd + 7) hc l1 (by rw [show 34 + 2 * L + 1 = 35 + 2 * L by omega]; exact hs) (by omega) (sg_X2_weigh_167 ?_)
    rw [nI_l (by omega), lN_mul]
    exact k I (fun _ _ => rfl)
  | n + 1, t, s, L, dd, I, Q, w, ht, hc, h6, h7, hs, hgn, hok, hL, hdd, k => by
    have hcf := hc.2.2.2.2.2.2.2
    have hV : cv c ≤ 24 := hcf.2.2.2.2.2.2.1
    have hK : cK c ≤ 6 := hcf.2.1
    have htc : t < cv c := by omega
    have hcp : cp c t < 4 := hcf.2.2.2.2.2.2.2 t htc
    obtain ⟨⟨l1, l2⟩, -, -⟩ := fp_lab L (by omega)
    obtain ⟨⟨a1, a2, a3, a4, a5, a6⟩, m1, m2⟩ := lot_f _ l1
    have ny : ¬ I 1 10 ≤ nI t := by rw [hc.2.1, nI_leI (by omega) (by omega)]; omega
    have hvis : fVis (I 1 10) (I 9) (nI t) = nI (cp c t) := by rw [hc.2.1, fVis_n _ htc hV, hc.2.2.2.2.2.2.1 t htc]
    have eqp : fVis (I 1 10) (I 9) (nI t) = I 32 6 ↔ cp c t = p := by rw [hvis, h6]; exact nI_eq (by omega) (by omega)
    have hs' : LotC (I (34 + 2 * L + 1)) s := by rw [show 34 + 2 * L + 1 = 35 + 2 * L by omega]; exact hs
    -- the visit goes, and on
    have on : ∀ (x6 : Int32) (o : Option Nat) (w' : Nat), (∀ k, o = some k → k < cK c ∧ 0 < s (cp c t) k) → (x6 = 0 → lN w * 10 = lN w') → (¬ x6 = 0 → lN w * 1 = lN w') → L + othN c p n (t + 1) ≤ 10 → 2 * othN c p n (t + 1) ≤ dd → (∀ J, FrW L I J → Q (some (.long (lN (w' * mnW c p q n (t + 1) (vst c s (cp c t) o))))) J) → HCall E me_X9_letVisit (dd + 9) [.ref 1, .ref (34 + 2 * L), .int (oI o)] I (fun v9 J => HGo E (mF E (dd + 10) Q) me_X2_weigh 133 [(0, .ref 32), (1, .int (nI L)), (2, .ref (34 + 2 * L)), (3, .long (lN w)), (5, .int (nI t)), (6, .int x6)] (v9.toList ++ []) J) := fun x6 o w' ho e0 e1 b1 b2 kk => by
      refine c_letVisit (d := dd + 6) hc l1 hs' hok.l2 hgn htc ho (fun f' hf' => ?_)
      have go : HGo E (mF E (dd + 10) Q) me_X2_weigh 27 [(0, .ref 32), (1, .int (nI L)), (2, .ref (34 + 2 * L)), (3, .long (lN w')), (5, .int (nI (t + 1)))] [] (setI (setI I (34 + 2 * L + 1) f') (34 + 2 * L) (upd (I (34 + 2 * L)) 1 (nI (t + 1)))) := by
        refine x_weigh hp hq n (t + 1) _ L dd _ Q w' (by omega) ((hc.set f' m2).set _ m1) ?_ ?_ ?_ ?_ (vst_ok hok hcp (fun k e => (ho k e).2)) b1 b2 (fun J fr => kk J (fun a ha => ?_))
        · rw [setI_ne _ _ (by omega), setI_ne _ _ (by omega)]; exact h6
        · rw [setI_ne _ _ (by omega), setI_ne _ _ (by omega)]; exact h7
        · rw [setI_ne _ _ (by omega), show 35 + 2 * L = 34 + 2 * L + 1 by omega, setI_same]; exact hf'
        · rw [setI_same, upd_at _ rfl]
        · rw [fr a ha, setI_ne _ _ (fun w => ha (by omega)), setI_ne _ _ (fun w => ha (by omega))]
      refine sg_X2_weigh_133 a1 a2 (fun z => ?_) (fun z => ?_)
      · rw [e0 z, nI_1]; exact go
      · rw [e1 z, nI_1]; exact go
    by_cases hcpp : cp c t = p
    · have ho : othN c p (n + 1) t = othN c p n (t + 1) := by
        show (if cp c t = p then 0 else 1) + _ = _
        rw [if_pos hcpp, Nat.zero_add]
      have hm : mnW c p q (n + 1) t s = mnW c p q n (t + 1) (vst c s (cp c t) (hab c s (cp c t))) := by
        show (if cp c t = p then _ else _) = _
        rw [if_pos hcpp, hcpp]
      rw [ho] at hL hdd
      rw [hm] at k
      refine sg_X2_weigh_27 a1 a2 (fun z => absurd z ny) (fun _ z => absurd (eqp.mpr hcpp) z) (fun _ _ => ?_)
      refine c_habitual (d := dd + 5) hc l1 hs' hok.l2 hgn htc (sg_X2_weigh_70 a1 a2 (fun _ => ?_) (fun z => absurd z (by decide)) (fun z => absurd z (by decide)))
      exact on 1 (hab c s (cp c t)) w (fun k e => hab_lt e) (fun z => absurd z (by decide)) (fun _ => by rw [Int64.mul_one]) hL hdd k
    · have ho : othN c p (n + 1) t = othN c p n (t + 1) + 1 := by
        show (if cp c t = p then 0 else 1) + _ = _
        rw [if_neg hcpp, Nat.add_comm]
      have hm : mnW c p q (n + 1) t s = (10 - q) * mnW c p q n (t + 1) s + q * mnW c p q n (t + 1) (vst c s (cp c t) (hab c s (cp c t))) := by
        show (if cp c t = p then _ else _) = _
        rw [if_neg hcpp]
      rw [ho] at hL hdd
      rw [hm] at k
      refine sg_X2_weigh_27 a1 a2 (fun z => absurd z ny) (fun _ _ => ?_) (fun _ z => absurd (eqp.mp z) hcpp)
      refine c_habitual (d := dd + 5) hc l1 hs' hok.l2 hgn htc ?_
      have hsl : ∀ t', hab c s (cp c t) = some t' → t' < 2 ^ 31 := fun t' ht' => by have := (hab_lt ht').1; omega
      refine sg_X2_weigh_70 a1 a2 (fun z => absurd rfl z) (fun _ z => ?_) (fun _ z => ?_)
      · have hn := (oI_none hsl).mp z
        rw [hn] at k ⊢
        refine on 0 none (w * 10) (fun k e => by cases e) (fun _ => lN_mul w 10) (fun z => absurd rfl z) (by omega) (by omega) (fun J fr => ?_)
        have := k J fr
        have e : (10 - q) * mnW c p q n (t + 1) s + q * mnW c p q n (t + 1) (vst c s (cp c t) none) = 10 * mnW c p q n (t + 1) s := by
          show (10 - q) * mnW c p q n (t + 1) s + q * mnW c p q n (t + 1) s = _
          rw [← Nat.add_mul]; congr 1; omega
        rw [e, ← Nat.mul_assoc] at this
        exact this
      · obtain ⟨dd, rfl⟩ : ∃ e, dd = e + 2 := ⟨dd - 2, by omega⟩
        obtain ⟨⟨k1, k2⟩, -, -⟩ := fp_lab (L + 1) (by omega)
        obtain ⟨⟨b1, b2, b3, b4, b5, b6⟩, n1, n2⟩ := lot_f _ k1
        have hsz : (nI L + 1).toNatClampNeg = L + 1 := by rw [nI_1, nI_clamp (by omega)]
        have np : ¬ nI L < 0 := nI_pos (by omega)
        have l1lt : nI L + 1 < 11 := by rw [nI_1]; exact nI_lt (b := 11) (by omega) (by decide)
        have wn : ∀ (o : Option Nat) (J : HIh) (R : Option Value → HIh → Prop), (∀ k, o = some k → k < cK c ∧ 0 < s (cp c t) k) → FrW (L + 1) I J → (∀ J', FrW (L + 1) I J' → R (some (.long (lN (mnW c p q n (t + 1) (vst c s (cp c t) o))))) J') → HCall E me_X2_weighNext (dd + 2 + 9) [.ref 32, .int (nI L), .int (oI o)] J R := fun o J R ho fr kk => by
          have jc := fr.cc hc
          have js : LotC (J (34 + 2 * L + 1)) s := by rw [fr _ (by omega)]; exact hs'
          have jg : J (34 + 2 * L) 1 = nI t := by rw [fr _ (by omega)]; exact hgn
          refine h_met (by decide) rfl (Nat.le_of_ble_eq_true rfl) (sg_X2_weighNext_0 (d := dd + 1) a1 a2 a3 a4 a5 a6 b1 b2 b3 b4 b5 b6 (by rw [hsz]; exact k2) (by rw [nI_clamp (by omega)]; exact l2) (fun z => absurd z np) (fun _ _ => by rw [nI_1]; exact vp_in_nI (by omega) (by decide)) (fun _ _ => vp_in_nI (by omega) (by decide)) (fun _ _ => ?_) (fun _ z => absurd l1lt z))
          rw [setI_ne J _ (show 34 + 2 * L ≠ 34 + 2 * (L + 1) + 1 by omega), jg]
          refine c_letVisit (d := dd + 7) (c := c) (s := s) (t := t) ((jc.set _ n2).set _ n1) k1 ?_ hok.l2 (by rw [setI_same, upd_at _ rfl]) htc ho (fun f' hf' => sg_X2_weighNext_47 ?_)
          · rw [setI_ne _ _ (by omega), setI_same]; exact js.cpy
          · rw [nI_1]
            refine h_met (by decide) rfl (Nat.le_of_ble_eq_true rfl) (sg_X2_weigh_0 b1 b2 (by rw [nI_clamp (by omega)]; exact k2) (fun z => absurd z (nI_pos (by omega))) (fun _ _ => vp_in_nI (by omega) (by decide)) (fun _ _ => ?_) (fun _ z => absurd (nI_lt (b := 11) (by omega) (by decide)) z))
            rw [setI_same, upd_at _ rfl]
            refine x_weigh hp hq n (t + 1) (vst c s (cp c t) o) (L + 1) dd _ _ 1 (by omega) (((((jc.set _ n2).set _ n1).set f' n2)).set _ n1) ?_ ?_ ?_ ?_ (vst_ok hok hcp (fun k e => (ho k e).2)) (by omega) (by omega) (fun J' fr' => sg_X2_weighNext_54 ?_)
            · rw [setI_ne _ _ (by omega), setI_ne _ _ (by omega), setI_ne _ _ (by omega), setI_ne _ _ (by omega), fr 32 (by omega)]; exact h6
            · rw [setI_ne _ _ (by omega), setI_ne _ _ (by omega), setI_ne _ _ (by omega), setI_ne _ _ (by omega), fr 32 (by omega)]; exact h7
            · rw [setI_ne _ _ (by omega), show 35 + 2 * (L + 1) = 34 + 2 * (L + 1) + 1 by omega, setI_same]; exact hf'
            · rw [setI_same, upd_at _ rfl]
            · rw [Nat.one_mul]
              exact kk J' (fun a ha => by
                rw [fr' a ha, setI_ne _ _ (fun w => ha (by omega)), setI_ne _ _ (fun w => ha (by omega)), setI_ne _ _ (fun w => ha (by omega)), setI_ne _ _ (fun w => ha (by omega)), fr a ha])
        have hab2 : ∀ k, hab c s (cp c t) = some k → k < cK c ∧ 0 < s (cp c t) k := fun k e => hab_lt e
        refine wn none I _ (fun k e => by cases e) (fun _ _ => rfl) (fun J1 fr1 => sg_X2_weigh_97 ?_)
        refine wn (hab c s (cp c t)) J1 _ hab2 fr1 (fun J2 fr2 => sg_X2_weigh_112 ?_)
        have e10 : (10 - I 32 7).toInt64 = lN (10 - q) := by
          rw [h7, show (10 : Int32) = nI 10 from rfl, nI_sub (by decide) hq, nI_l (by omega)]
        have eq : (J1 32 7).toInt64 = lN q := by rw [fr1 32 (by omega), h7, nI_l (by omega)]
        rw [e10, eq, lN_mul, lN_mul, lN_add, lN_mul]
        exact k J2 fr2.up
theorem ex_51 {c : HCf} {p N : Nat} {x4 : Int32} {x6 : Int64} (hN : N ≤ 10) (k : HGo E (mF E (d + 61) Q) me_X2_expected 82 [(4, .int x4), (5, .int (nI N)), (6, .long x6), (8, .long (lN (10 ^ N))), (10, .int 0)] [] I) : ∀ (m j : Nat), j + m = N → HGo E (mF E (d + 61) Q) me_X2_expected 51 [(4, .int x4), (5, .int (nI N)), (6, .long x6), (8, .long (lN (10 ^ j))), (10, .int (nI j))] [] I
  | m, j, hj => by
    have le : nI N ≤ nI j ↔ N ≤ j := nI_leI (by omega) (by omega)
    refine sg_X2_expected_51 (fun z => ?_) (fun z y => ?_) (fun z y => ?_)
    all_goals rw [le] at z
    · have : j = N := by omega
      subst this; exact k
    · have y' : nI 10 ≤ nI j := y
      rw [nI_leI (by omega) (by omega)] at y'; omega
    · obtain ⟨m, rfl⟩ : ∃ k, m = k + 1 := ⟨m - 1, by omega⟩
      rw [show (10 : Int64) = lN 10 from rfl, lN_mul, ← Nat.pow_succ, nI_1]
      exact ex_51 (c := c) (p := p) hN k m (j + 1) (by omega)
theorem ex_82 {a0 N : Nat} {x4 : Int32} (hN : N ≤ 10) (ha0 : a0 < 2 ^ 63) (k0 : x4 = 0 → Q (some (.long (lN (a0 / Nat.gcd a0 (10 ^ N))))) I) (k1 : ¬ x4 = 0 → Q (some (.long (lN (10 ^ N / Nat.gcd a0 (10 ^ N))))) I) : ∀ (m j a b : Nat), j + m = N → a = a0 / Nat.gcd a0 (10 ^ j) → b = 10 ^ N / Nat.gcd a0 (10 ^ j) → HGo E (mF E (d + 61) Q) me_X2_expected 82 [(4, .int x4), (5, .int (nI N)), (6, .long (lN a)), (8, .long (lN b)), (10, .int (nI j))] [] I
  | m, j, a, b, hj, ha, hb => by
    have le : nI N ≤ nI j ↔ N ≤ j := nI_leI (by omega) (by omega)
    have hpN : 10 ^ N ≤ 10000000000 := Nat.le_trans (Nat.pow_le_pow_right (by decide) hN) (by decide)
    have haB : a < 2 ^ 63 := by rw [ha]; have := Nat.div_le_self a0 (Nat.gcd a0 (10 ^ j)); omega
    have hbB : b < 2 ^ 63 := by rw [hb]; have := Nat.div_le_self (10 ^ N) (Nat.gcd a0 (10 ^ j)); omega
    have st := red_step a0 N j a b ha hb
    have e2 : lN a - lN a / 2 * 2 = lN (a % 2) := pk_lRem (b := 2) haB (by decide) (by decide)
    have d2 : lN a / 2 = lN (a / 2) := pk_lDiv (b := 2) haB (by decide) (by decide)
    have db2 : lN b / 2 = lN (b / 2) := pk_lDiv (b := 2) hbB (by decide) (by decide)
    have d5 : lN a / 5 = lN (a / 5) := pk_lDiv (b := 5) haB (by decide) (by decide)
    have db5 : lN b / 5 = lN (b / 5) := pk_lDiv (b := 5) hbB (by decide) (by decide)
    have e5 : lN a - lN a / 5 * 5 = lN (a % 5) := pk_lRem (b := 5) haB (by decide) (by decide)
    have ha2 : a / 2 < 2 ^ 63 := by have := Nat.div_le_self a 2; omega
    have hb2 : b / 2 < 2 ^ 63 := by have := Nat.div_le_self b 2; omega
    have e25 : lN (a / 2) - lN (a / 2) / 5 * 5 = lN (a / 2 % 5) := pk_lRem (b := 5) ha2 (by decide) (by decide)
    have d25 : lN (a / 2) / 5 = lN (a / 2 / 5) := pk_lDiv (b := 5) ha2 (by decide) (by decide)
    have db25 : lN (b / 2) / 5 = lN (b / 2 / 5) := pk_lDiv (b := 5) hb2 (by decide) (by decide)
    have z2 : lN (a % 2) = 0 ↔ a % 2 = 0 := pk_lEQ (b := 0) (by omega) (by decide)
    have z5 : lN (a % 5) = 0 ↔ a % 5 = 0 := pk_lEQ (b := 0) (by omega) (by decide)
    have z25 : lN (a / 2 % 5) = 0 ↔ a / 2 % 5 = 0 := pk_lEQ (b := 0) (by omega) (by decide)
    have G := @sg_X2_expected_82 E d Q I x4 (nI N) (lN a) (lN b) (nI j)
    rw [e2, e5, d2, db2, e25, d5, db5, d25, db25] at G
    refine G (fun z y => ?_) (fun z y => ?_) (fun z y => ?_) (fun z y => ?_) (fun z _ y u => ?_) (fun z _ y u => ?_) (fun z _ y u => ?_) (fun z _ y u => ?_)
    all_goals rw [le] at z
    · have : j = N := by omega
      subst this
      have := k1 y
      rw [← hb] at this; exact this
    · have : j = N := by omega
      subst this
      have := k0 y
      rw [← ha] at this; exact this
    · have y' : nI 10 ≤ nI j := y
      rw [nI_leI (by omega) (by omega)] at y'; omega
    · have y' : nI 10 ≤ nI j := y
      rw [nI_leI (by omega) (by omega)] at y'; omega
    all_goals
      rw [lg_cmp_eq] at y u
      obtain ⟨m, rfl⟩ : ∃ k, m = k + 1 := ⟨m - 1, by omega⟩
      rw [nI_1]
    · rw [z2] at y; rw [z5] at u
      exact ex_82 hN ha0 k0 k1 m (j + 1) _ _ (by omega) (st.2.2.2 y u).1 (st.2.2.2 y u).2
    · rw [z2] at y; rw [z5] at u
      exact ex_82 hN ha0 k0 k1 m (j + 1) _ _ (by omega) (st.2.2.1 y u).1 (st.2.2.1 y u).2
    · rw [z2] at y; rw [z25] at u
      exact ex_82 hN ha0 k0 k1 m (j + 1) _ _ (by omega) (st.2.1 y u).1 (st.2.1 y u).2
    · rw [z2] at y; rw [z25] at u
      exact ex_82 hN ha0 k0 k1 m (j + 1) _ _ (by omega) (st.1 y u).1 (st.1 y u).2
def FrE (I J : HIh) : Prop := (∀ a, a ≠ 32 → ¬ (34 ≤ a ∧ a < 56) → J a = I a) ∧ ∀ j, j ≠ 6 → j ≠ 7 → J 32 j = I 32 j
theorem c_expected {c : HCf} {s : HCn} {t p q : Nat} {w : Int32} (hp : p < 4) (hq : q ≤ 10) (hc : CC I c) (hs : LotC (I 13) s) (hg : I 12 1 = nI t) (ht : t ≤ cv c) (hok : CnOk s) (hn : cv c - t ≤ 10) (k0 : w = 0 → ∀ J, FrE I J → Q (some (.long (lN (mnW c p q (cv c - t) t s / Nat.gcd (mnW c p q (cv c - t) t s) (10 ^ othN c p (cv c - t) t))))) J) (k1 : ¬ w = 0 → ∀ J, FrE I J → Q (some (.long (lN (10 ^ othN c p (cv c - t) t / Nat.gcd (mnW c p q (cv c - t) t s) (10 ^ othN c p (cv c - t) t))))) J) : HCall E me_X2_expected (d + 61) [.ref 32, .ref 12, .int (nI p), .int (nI q), .int w] I Q := by
  obtain ⟨⟨a1, a2, a3, a4, a5, a6⟩, -, -⟩ := lot_f 12 (by decide)
  obtain ⟨⟨b1, b2, b3, b4, b5, b6⟩, m1, m2⟩ := lot_f 34 (by decide)
  have hcf := hc.2.2.2.2.2.2.2
  have hcp : ∀ j, j < cv c - t → cp c (t + j) < 4 := fun j hj => hcf.2.2.2.2.2.2.2 _ (by omega)
  have hol := othN_le c p (cv c - t) t
  refine h_met (by decide) rfl (Nat.le_of_ble_eq_true rfl) (sg_X2_expected_0 a1 a2 a3 a4 a5 a6 ?_)
  rw [(bitC p hp).2.2]
  generalize hX : (setI (setI (setI (setI I 32 (upd (I 32) 6 (nI p))) 32 (upd (upd (I 32) 6 (nI p)) 7 (nI q))) 35 (va_cpy ((setI (setI I 32 (upd (I 32) 6 (nI p))) 32 (upd (upd (I 32) 6 (nI p)) 7 (nI q))) 13) (I 35) 0 0 30)) 34 (upd (I 34) 1 ((setI (setI (setI I 32 (upd (I 32) 6 (nI p))) 32 (upd (upd (I 32) 6 (nI p)) 7 (nI q))) 35 (va_cpy ((setI (setI I 32 (upd (I 32) 6 (nI p))) 32 (upd (upd (I 32) 6 (nI p)) 7 (nI q))) 13) (I 35) 0 0 30)) 12 1))) = X
  have x35 : X 35 = va_cpy (I 13) (I 35) 0 0 30 ∧ X 34 1 = I 12 1 ∧ X 32 6 = nI p ∧ X 32 7 = nI q ∧ X 12 = I 12 := by rw [← hX]; exact ⟨rfl, rfl, rfl, rfl, rfl⟩
  have xe : FrE I X := by
    rw [← hX]
    refine ⟨fun a h1 h2 => ?_, fun j h1 h2 => ?_⟩
    · rw [setI_ne _ _ (by omega), setI_ne _ _ (by omega), setI_ne _ _ h1, setI_ne _ _ h1]
    · rw [setI_ne _ _ (by decide), setI_ne _ _ (by decide), setI_same, upd_off _ h2, upd_off _ h1]
  clear hX
  obtain ⟨y35, y34, y6, y7, y12⟩ := x35
  have xc : CC X c := hc.of ⟨xe.1 1 (by decide) (by decide), xe.1 6 (by decide) (by decide), xe.1 7 (by decide) (by decide), xe.1 8 (by decide) (by decide), xe.1 9 (by decide) (by decide)⟩
  refine c_visitsLeft (d := d + 58) xc (by decide) (by rw [y12]; exact hg) ht (sg_X2_expected_36 ?_)
  rw [(left_n hcf (m := 15 - 2 ^ p) (t := t) (bitC p hp).2.1).1, oth_fr2 hp (cv c - t) t hcp]
  have hb := mnW_b hcf hp hq (cv c - t) t s (by omega) hok
  have hpN : 10 ^ othN c p (cv c - t) t ≤ 10000000000 := Nat.le_trans (Nat.pow_le_pow_right (by decide) (show othN c p (cv c - t) t ≤ 10 by omega)) (by decide)
  refine h_met (by decide) rfl (Nat.le_of_ble_eq_true rfl) (sg_X2_weigh_0 b1 b2 rfl (fun z => absurd z (by decide)) (fun _ _ => (show vp_in (nI 0) 11 from vp_in_nI (by omega) (by decide))) (fun _ _ => ?_) (fun _ z => absurd (by decide) z))
  rw [y34, hg]
  refine x_weigh (c := c) hp hq (cv c - t) t s 0 (d + 50) X _ 1 (by omega) xc y6 y7 (by rw [show 35 + 2 * 0 = 35 from rfl, y35]; exact hs.cpy) (by rw [show 34 + 2 * 0 = 34 from rfl, y34]; exact hg) hok (by omega) (by omega) (fun J fr => sg_X2_expected_43 ?_)
  have fe : FrE I J := ⟨fun a h1 h2 => (fr a h2).trans (xe.1 a h1 h2), fun j h1 h2 => by rw [fr 32 (by omega)]; exact xe.2 j h1 h2⟩
  rw [Nat.one_mul]
  refine ex_51 (c := c) (p := p) (by omega) ?_ (othN c p (cv c - t) t) 0 (by omega)
  refine ex_82 (by omega) (by omega) (fun z => k0 z J fe) (fun z => k1 z J fe) (othN c p (cv c - t) t) 0 _ _ (by omega) ?_ ?_
  · rw [Nat.pow_zero, Nat.gcd_one_right, Nat.div_one]
  · rw [Nat.pow_zero, Nat.gcd_one_right, Nat.div_one]
end MEANX
