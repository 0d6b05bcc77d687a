/-! several who each want most: as the class plays it -/
theorem fp_lab : ∀ L, L < 11 → (34 + 2 * L ∈ lotL ∧ Zp 33 L = 34 + 2 * L) ∧ (57 + L < NL ∧ Zk (57 + L) = 11 ∧ Zn (57 + L) = 4 ∧ Zp 56 L = 57 + L) ∧ (69 + L < NL ∧ Zk (69 + L) = 11 ∧ Zn (69 + L) = 11 ∧ Zp 68 L = 69 + L) := by decide +kernel
/-- what a level's play changes -/
def FrP (L : Nat) (I J : HIh) : Prop := ∀ a, ¬ (34 + 2 * L ≤ a ∧ a < 56) → ¬ (57 + L ≤ a ∧ a < 68) → ¬ (69 + L ≤ a ∧ a < 80) → J a = I a
def POut (J : HIh) (L : Nat) (R : (Nat → Nat) × List (Option Nat)) : Prop := (∀ p, p < 4 → J (57 + L) p = nI (R.1 p)) ∧ ∀ i, i < R.2.length → J (69 + L) (L + i) = oI (R.2.getD i none)
theorem FrP.tr {L : Nat} {I J K : HIh} (h : FrP L I J) (e : FrP L J K) : FrP L I K := fun a a1 a2 a3 => (e a a1 a2 a3).trans (h a a1 a2 a3)
theorem FrP.up {L : Nat} {I J : HIh} (h : FrP (L + 1) I J) : FrP L I J := fun a a1 a2 a3 => h a (fun w => a1 ⟨by omega, w.2⟩) (fun w => a2 ⟨by omega, w.2⟩) (fun w => a3 ⟨by omega, w.2⟩)
theorem FrP.cc {L : Nat} {I J : HIh} {c : HCf} (h : FrP L I J) (hc : CC I c) : CC J c := hc.of ⟨h 1 (by omega) (by omega) (by omega), h 6 (by omega) (by omega) (by omega), h 7 (by omega) (by omega) (by omega), h 8 (by omega) (by omega) (by omega), h 9 (by omega) (by omega) (by omega)⟩
section PLAYX
variable {E : HEn} {d : Nat} {Q : Option Value → HIh → Prop} {I : HIh}
theorem settle_loop {L : Nat} {c : HCf} {s : HCn} (hL : L < 11) (hc : CC I c) (hs : LotC (I (35 + 2 * L)) s) (q : ∀ e, (∀ p, p < 4 → e p = nI (wealth c s p)) → Q none (setI I (57 + L) e)) : ∀ (m j : Nat) (e : Nat → Int32), j + m = 4 → (∀ p, p < j → e p = nI (wealth c s p)) → HGo E (mF E (d + 3) Q) me_X2_settle 2 [(0, .ref 32), (1, .int (nI L)), (2, .int (nI j))] [] (setI I (57 + L) e)
  | m, j, e, hj, he => by
    obtain ⟨⟨l1, l2⟩, ⟨e1, e2, e3, e4⟩, -⟩ := fp_lab L hL
    obtain ⟨⟨a1, a2, a3, a4, a5, a6⟩, -, -⟩ := lot_f _ l1
    have le : (4 : Int32) ≤ nI j ↔ 4 ≤ j := nI_leI (a := 4) (by omega) (by omega)
    refine sg_X2_settle_2 a1 a2 e1 e2 e3 (by rw [nI_clamp (by omega)]; exact e4) (by rw [nI_clamp (by omega)]; exact l2) (fun z => ?_) (fun z => vp_in_nI (by omega) (by decide)) (fun z => ?_)
    all_goals rw [le] at z
    · exact q e (fun p hp => he p (by omega))
    · obtain ⟨m, rfl⟩ : ∃ k, m = k + 1 := ⟨m - 1, by omega⟩
      refine c_wealth (c := c) (s := s) (hc.set e (by omega)) l1 (by rw [setI_ne _ _ (by omega), show 34 + 2 * L + 1 = 35 + 2 * L by omega]; exact hs) (by omega) (sg_X2_settle_28 e1 e2 e3 (vp_in_nI (by omega) (by decide)) ?_)
      rw [setI_setI, setI_same, nI_clamp (by omega), nI_1]
      refine settle_loop hL hc hs q m (j + 1) _ (by omega) (fun p hp => ?_)
      by_cases w : p = j
      · subst w; exact upd_at _ rfl _
      · rw [upd_off _ w]; exact he p (by omega)
theorem c_settle {L : Nat} {c : HCf} {s : HCn} (hL : L < 11) (hc : CC I c) (hs : LotC (I (35 + 2 * L)) s) (q : ∀ e, (∀ p, p < 4 → e p = nI (wealth c s p)) → Q none (setI I (57 + L) e)) : HCall E me_X2_settle (d + 3) [.ref 32, .int (nI L)] I Q := by
  refine h_met (by decide) rfl (Nat.le_of_ble_eq_true rfl) (sg_X2_settle_0 ?_)
  have := settle_loop (E := E) (d := d) hL hc hs q 4 0 (I (57 + L)) rfl (fun p hp => absurd hp (Nat.not_lt_zero _))
  rw [setI_id] at this
  exact this
theorem reached_loop {L w m : Nat} {en : Nat → Nat} (hL : L < 11) (he : ∀ p, p < 4 → I (57 + L) p = nI (en p)) (hm : m < 16) (hg : fGoal (I 32 4) (nI w) = nI m) (q : Q (some (.int (nI (gval m en)))) I) : ∀ (n j : Nat), j + n = 4 → HGo E (mF E (d + 3) Q) me_X2_reached 5 [(0, .ref 32), (1, .int (nI L)), (2, .int (nI w)), (3, .int (nI (sm (fun p => if m.testBit p then en p else 0) j))), (4, .int (nI j))] [] I
  | n, j, hj => by
    obtain ⟨-, ⟨e1, e2, e3, e4⟩, -⟩ := fp_lab L hL
    have le : (4 : Int32) ≤ nI j ↔ 4 ≤ j := nI_leI (a := 4) (by omega) (by omega)
    refine sg_X2_reached_5 e1 e2 e3 (by rw [nI_clamp (by omega)]; exact e4) (fun z => ?_) (fun _ => vp_in_nI (by omega) (by decide)) (fun z => ?_) (fun z => ?_)
    all_goals rw [le] at z
    · have : j = 4 := by omega
      subst this; exact q
    · exact vp_in_nI (by omega) (by decide)
    · obtain ⟨n, rfl⟩ : ∃ k, n = k + 1 := ⟨n - 1, by omega⟩
      have ev : ((fGoal (I 32 4) (nI w) >>> (nI j &&& 31)) &&& 1) * I (57 + L) (nI j).toNatClampNeg = nI (if m.testBit j then en j else 0) := by
        rw [hg, goal_bit m hm j (by omega), nI_clamp (by omega), he j (by omega)]
        by_cases b : m.testBit j = true
        · rw [if_pos b, if_pos b, Int32.one_mul]
        · rw [if_neg b, if_neg b, Int32.zero_mul]; rfl
      rw [ev, nI_add, nI_1]
      exact reached_loop hL he hm hg q n (j + 1) (by omega)
theorem c_reached {L w m : Nat} {en : Nat → Nat} (hL : L < 11) (he : ∀ p, p < 4 → I (57 + L) p = nI (en p)) (hm : m < 16) (hg : fGoal (I 32 4) (nI w) = nI m) (q : Q (some (.int (nI (gval m en)))) I) : HCall E me_X2_reached (d + 3) [.ref 32, .int (nI L), .int (nI w)] I Q :=
  h_met (by decide) rfl (Nat.le_of_ble_eq_true rfl) (sg_X2_reached_0 (reached_loop hL he hm hg q 4 0 rfl))
theorem again_loop {c : HCf} {w : Nat} {g : Int32} {t : Nat} (hg : g ∈ goalsL) (h4 : I 32 4 = g) (hc : CC I c) (hw : w < 4) (q1 : (∃ j, t < j ∧ j < cv c ∧ glOf g (cp c j) = glOf g w) → Q (some (.int 1)) I) (q0 : (∀ j, t < j → j < cv c → glOf g (cp c j) ≠ glOf g w) → Q (some (.int 0)) I) : ∀ (m j : Nat), j + m = cv c → t < j → (∀ i, t < i → i < j → glOf g (cp c i) ≠ glOf g w) → HGo E (mF E (d + 3) Q) me_X2_comesAgain 4 [(0, .ref 32), (1, .int (nI w)), (3, .int (nI j))] [] I
  | m, j, hj, htj, hno => by
    have hV : cv c ≤ 24 := hc.2.2.2.2.2.2.2.2.2.2.2.2.2.1
    have le : I 1 10 ≤ nI j ↔ cv c ≤ j := by rw [hc.2.1, nI_leI (by omega) (by omega)]
    have eq : j < cv c → (fGoal (I 32 4) (fVis (I 1 10) (I 9) (nI j)) = fGoal (I 32 4) (nI w) ↔ glOf g (cp c j) = glOf g w) := fun h => by
      have hp := hc.2.2.2.2.2.2.2.2.2.2.2.2.2.2 j h
      have g1 := goals_ok g hg _ hp
      have g2 := goals_ok g hg _ hw
      rw [hc.2.1, fVis_n _ h hV, hc.2.2.2.2.2.2.1 j h, h4, g1.2.1, g2.2.1]
      exact nI_eq (by omega) (by omega)
    refine sg_X2_comesAgain_4 (fun z => ?_) (fun z y => ?_) (fun z y => ?_)
    all_goals rw [le] at z
    · exact q0 (fun i h1 h2 => hno i h1 (by omega))
    · rw [eq (by omega)] at y
      obtain ⟨m, rfl⟩ : ∃ k, m = k + 1 := ⟨m - 1, by omega⟩
      rw [nI_1]
      refine again_loop hg h4 hc hw q1 q0 m (j + 1) (by omega) (by omega) (fun i h1 h2 => ?_)
      by_cases e : i = j
      · subst e; exact y
      · exact hno i h1 (by omega)
    · rw [eq (by omega)] at y
      exact q1 ⟨j, htj, by omega, y⟩
theorem c_comesAgain {c : HCf} {w : Nat} {g : Int32} {t : Nat} (hg : g ∈ goalsL) (h4 : I 32 4 = g) (hc : CC I c) (hw : w < 4) (ht : t < cv c) (q1 : (∃ j, t < j ∧ j < cv c ∧ glOf g (cp c j) = glOf g w) → Q (some (.int 1)) I) (q0 : (∀ j, t < j → j < cv c → glOf g (cp c j) ≠ glOf g w) → Q (some (.int 0)) I) : HCall E me_X2_comesAgain (d + 3) [.ref 32, .int (nI w), .int (nI t)] I Q := by
  refine h_met (by decide) rfl (Nat.le_of_ble_eq_true rfl) (sg_X2_comesAgain_0 ?_)
  rw [nI_1]
  exact again_loop hg h4 hc hw q1 q0 (cv c - (t + 1)) (t + 1) (by omega) (by omega) (fun i h1 h2 => by omega)
theorem c_takeOver {L : Nat} {k : Int32} (hL : L < 10) (q : ∀ J, (∀ a, a ≠ 57 + L → a ≠ 69 + L → J a = I a) → (∀ p, p < 4 → J (57 + L) p = I (58 + L) p) → J (69 + L) L = k → (∀ i, i < 11 → i ≠ L → J (69 + L) i = I (70 + L) i) → Q none J) : HCall E me_X2_takeOver (d + 1) [.ref 32, .int (nI L), .int k] I Q := by
  obtain ⟨-, ⟨e1, e2, e3, e4⟩, ⟨r1, r2, r3, r4⟩⟩ := fp_lab L (by omega)
  obtain ⟨-, ⟨f1, f2, f3, f4⟩, ⟨s1, s2, s3, s4⟩⟩ := fp_lab (L + 1) (by omega)
  have c1 : (nI L + 1).toNatClampNeg = L + 1 := by rw [nI_1, nI_clamp (by omega)]
  have c0 : (nI L).toNatClampNeg = L := nI_clamp (by omega)
  refine h_met (by decide) rfl (Nat.le_of_ble_eq_true rfl) (sg_X2_takeOver_0 f1 f2 f3 e1 e2 e3 s1 s2 s3 r1 r2 r3 (by rw [c1]; exact f4) (by rw [c0]; exact e4) (by rw [c1]; exact s4) (by rw [c0]; exact r4) (by rw [nI_1]; exact vp_in_nI (by omega) (by decide)) (vp_in_nI (by omega) (by decide)) ?_)
  rw [c0]
  refine q _ (fun a n1 n2 => ?_) (fun p hp => ?_) ?_ (fun i hi hne => ?_)
  · rw [setI_ne _ _ n2, setI_ne _ _ n2, setI_ne _ _ n1]
  · rw [setI_ne _ _ (by omega), setI_ne _ _ (by omega), setI_same, cpy_in hp, show 57 + (L + 1) = 58 + L by omega]
  · rw [setI_same, upd_at _ rfl]
  · rw [setI_same, upd_off _ hne, setI_same, cpy_in hi, setI_ne _ _ (by omega), show 69 + (L + 1) = 70 + L by omega]
theorem fFree_n {g : Int32} (hg : g ∈ goalsL) {p : Nat} (hp : p < 4) : fFree g (nI p) = 0 ↔ glOf g p = 0 := by
  have := goals_ok g hg p hp
  unfold fFree
  rw [this.2.1]
  have e : nI (glOf g p) = 0 ↔ glOf g p = 0 := nI_eq (b := 0) (by omega) (by decide)
  by_cases h : nI (glOf g p) = 0
  · rw [if_pos h]; exact ⟨fun _ => e.mp h, fun _ => rfl⟩
  · rw [if_neg h]; exact ⟨fun z => absurd z (by decide), fun z => absurd (e.mpr z) h⟩
theorem x_play {c : HCf} {g : Int32} (hg : g ∈ goalsL) : ∀ (n t : Nat) (s : HCn) (L dd : Nat) (I : HIh) (Q : Option Value → HIh → Prop), t + n = cv c → CC I c → I 32 4 = g → LotC (I (35 + 2 * L)) s → I (34 + 2 * L) 1 = nI t → CnOk s → L + (play c (glOf g) n t s).2.length ≤ 10 → (play c (glOf g) n t s).2.length ≤ dd → (∀ J, FrP L I J → POut J L (play c (glOf g) n t s) → Q none J) → HGo E (mF E (dd + 10) Q) me_X2_playOn 23 [(0, .ref 32), (1, .int (nI L)), (2, .ref (34 + 2 * L)), (3, .int (nI t))] [] I
  | 0, t, s, L, dd, I, Q, ht, hc, h4, hs, hgn, hok, hL, hdd, q => by
    obtain ⟨⟨l1, l2⟩, -, -⟩ := fp_lab L (by omega)
    obtain ⟨⟨a1, a2, a3, a4, a5, a6⟩, -, -⟩ := lot_f _ l1
    have hV : cv c ≤ 24 := hc.2.2.2.2.2.2.2.2.2.2.2.2.2.1
    have le : I 1 10 ≤ nI t ↔ cv c ≤ t := by rw [hc.2.1, nI_leI (by omega) (by omega)]
    have y : I 1 10 ≤ nI t := le.mpr (by omega)
    refine sg_X2_playOn_23 a1 a2 (fun _ _ => ?_) (fun _ z => absurd (by rw [hgn]; exact y) z) (fun _ z => absurd (by rw [hgn]; exact y) z) (fun z => absurd y z) (fun z => absurd y z) (fun z => absurd y z) (fun z => absurd y z)
    refine c_settle (d := dd + 6) (by omega) hc hs (fun e he => sg_X2_playOn_98 (q _ (fun a _ h2 _ => setI_ne _ _ (fun w => h2 (by omega))) ⟨fun p hp => by rw [setI_same]; exact he p hp, fun i hi => absurd hi (Nat.not_lt_zero _)⟩))
  | n + 1, t, s, L, dd, I, Q, ht, hc, h4, hs, hgn, hok, hL, hdd, q => by
    have hV : cv c ≤ 24 := hc.2.2.2.2.2.2.2.2.2.2.2.2.2.1
    have hcfk := hc.2.2.2.2.2.2.2
    have hK : cK c ≤ 6 := hcfk.2.1
    have htc : t < cv c := by omega
    have hcp : cp c t < 4 := hcfk.2.2.2.2.2.2.2 t htc
    have nle : ¬ I 1 10 ≤ nI t := by rw [hc.2.1, nI_leI (by omega) (by omega)]; omega
    have nle' : ¬ I 1 10 ≤ I (34 + 2 * L) 1 := by rw [hgn]; exact nle
    have hvis : fVis (I 1 10) (I 9) (nI t) = nI (cp c t) := by rw [hc.2.1, fVis_n _ htc hV, hc.2.2.2.2.2.2.1 t htc]
    have free := fFree_n hg hcp
    by_cases hgl : glOf g (cp c t) = 0
    · have hL10 : L < 11 := by omega
      obtain ⟨⟨l1, l2⟩, -, -⟩ := fp_lab L hL10
      obtain ⟨⟨a1, a2, a3, a4, a5, a6⟩, m1, m2⟩ := lot_f _ l1
      rw [play_hab hgl] at hL hdd q
      have nf : ¬ ¬ fFree (I 32 4) (fVis (I 1 10) (I 9) (nI t)) = 0 := fun z => z (by rw [h4, hvis]; exact free.mpr hgl)
      refine sg_X2_playOn_23 a1 a2 (fun z => absurd z nle) (fun z => absurd z nle) (fun z => absurd z nle) (fun _ z => absurd z nf) (fun _ z => absurd z nf) (fun _ z => absurd z nf) (fun _ _ => ?_)
      have hs' : LotC (I (34 + 2 * L + 1)) s := by rw [show 34 + 2 * L + 1 = 35 + 2 * L by omega]; exact hs
      refine c_habitual (d := dd + 5) hc l1 hs' hok.l2 hgn htc (sg_X2_playOn_62 a1 a2 ?_)
      refine c_letVisit (d := dd + 6) hc l1 hs' hok.l2 hgn htc (fun k e => hab_lt e) (fun f' hf' => sg_X2_playOn_65 a1 a2 ?_)
      rw [nI_1]
      refine x_play hg n (t + 1) _ L dd _ Q (by omega) ((hc.set f' m2).set _ m1) ?_ ?_ ?_ (vst_ok hok hcp (fun k e => (hab_lt e).2)) hL hdd (fun J fr po => q J (fun a h1 h2 h3 => ?_) po)
      · rw [setI_ne _ _ (by omega), setI_ne _ _ (by omega)]; exact h4
      · rw [setI_ne _ _ (by omega), show 35 + 2 * L = 34 + 2 * L + 1 by omega, setI_same]; exact hf'
      · rw [setI_same, upd_at _ rfl]
      · rw [fr a h1 h2 h3, setI_ne _ _ (fun w => h1 (by omega)), setI_ne _ _ (fun w => h1 (by omega))]
    · have hpf := play_free (c := c) (gl := glOf g) (n := n) (s := s) hgl
      rw [hpf] at hL hdd q
      have hb := bestOf_is (fun r => gval (glOf g (cp c t)) r.1) (fun o => play c (glOf g) n (t + 1) (vst c s (cp c t) o)) (fun k => decide (0 < s (cp c t) k)) (cK c)
      have hlen : ∀ o, (play c (glOf g) n (t + 1) (vst c s (cp c t) o)).2.length = sm (fun j => if glOf g (cp c (t + 1 + j)) = 0 then 0 else 1) n := fun o => play_len n (t + 1) _
      have hlb : ((bestOf (fun r => gval (glOf g (cp c t)) r.1) (fun o => play c (glOf g) n (t + 1) (vst c s (cp c t) o)) (fun k => decide (0 < s (cp c t) k)) (cK c)).1 :: (bestOf (fun r => gval (glOf g (cp c t)) r.1) (fun o => play c (glOf g) n (t + 1) (vst c s (cp c t) o)) (fun k => decide (0 < s (cp c t) k)) (cK c)).2.2).length = sm (fun j => if glOf g (cp c (t + 1 + j)) = 0 then 0 else 1) n + 1 := by
        rw [List.length_cons, hb.1]; exact congrArg (· + 1) (hlen _)
      dsimp only at hL hdd
      rw [hlb] at hL hdd
      generalize hM : sm (fun j => if glOf g (cp c (t + 1 + j)) = 0 then 0 else 1) n = M at *
      obtain ⟨dd, rfl⟩ : ∃ k, dd = k + 1 := ⟨dd - 1, by omega⟩
      have hL10 : L < 10 := by omega
      obtain ⟨⟨l1, l2⟩, ⟨e1, e2, e3, e4⟩, ⟨r1, r2, r3, r4⟩⟩ := fp_lab L (by omega)
      obtain ⟨⟨a1, a2, a3, a4, a5, a6⟩, m1, m2⟩ := lot_f _ l1
      obtain ⟨⟨k1, k2⟩, -, -⟩ := fp_lab (L + 1) (by omega)
      obtain ⟨⟨b1, b2, b3, b4, b5, b6⟩, n1, n2⟩ := lot_f _ k1
      have hgm := goals_ok g hg _ hcp
      generalize hW : cp c t = w at *
      generalize hmm : glOf g w = m at *
      have fb : ∀ o : Option Nat, (∀ k, o = some k → k < cK c ∧ 0 < s w k) → ∀ p, p < 4 → (play c (glOf g) n (t + 1) (vst c s w o)).1 p ≤ 599400 := fun o ho p hp => play_b hcfk n (t + 1) _ (by omega) (vst_ok hok hcp (fun k e => (ho k e).2)) p hp
      have gb : ∀ o : Option Nat, (∀ k, o = some k → k < cK c ∧ 0 < s w k) → gval m (play c (glOf g) n (t + 1) (vst c s w o)).1 ≤ 2397600 := fun o ho => gval_b (b := 599400) (fb o ho)
      -- one try
      have tr : ∀ (o : Option Nat) (J : HIh) (x4 x5 x6 : Int32), (∀ k, o = some k → k < cK c ∧ 0 < s w k) → CC J c → J 32 4 = g → J (34 + 2 * L) 1 = nI t → LotC (J (35 + 2 * L)) s → (∀ J', FrP (L + 1) J J' → POut J' (L + 1) (play c (glOf g) n (t + 1) (vst c s w o)) → HGo E (mF E (dd + 1 + 10) Q) me_X2_playOn 253 [(0, .ref 32), (1, .int (nI L)), (2, .ref (34 + 2 * L)), (3, .int (nI w)), (4, .int x4), (5, .int x5), (6, .int x6), (7, .int (oI o))] [.int (nI (gval m (play c (glOf g) n (t + 1) (vst c s w o)).1))] J') → HCall E me_X9_letVisit (dd + 1 + 9) [.ref 1, .ref (34 + 2 * (L + 1)), .int (oI o)] (setI (setI J (34 + 2 * (L + 1) + 1) (va_cpy (J (34 + 2 * L + 1)) (J (34 + 2 * (L + 1) + 1)) 0 0 30)) (34 + 2 * (L + 1)) (upd ((setI J (34 + 2 * (L + 1) + 1) (va_cpy (J (34 + 2 * L + 1)) (J (34 + 2 * (L + 1) + 1)) 0 0 30)) (34 + 2 * (L + 1))) 1 ((setI J (34 + 2 * (L + 1) + 1) (va_cpy (J (34 + 2 * L + 1)) (J (34 + 2 * (L + 1) + 1)) 0 0 30)) (34 + 2 * L) 1))) (fun v9 J => HGo E (mF E (dd + 1 + 10) Q) me_X2_playOn 238 [(0, .ref 32), (1, .int (nI L)), (2, .ref (34 + 2 * L)), (3, .int (nI w)), (4, .int x4), (5, .int x5), (6, .int x6), (7, .int (oI o))] (v9.toList ++ []) J) := by
        intro o J x4 x5 x6 ho jc j4 jg js kk
        rw [setI_ne J _ (show 34 + 2 * L ≠ 34 + 2 * (L + 1) + 1 by omega), jg]
        refine c_letVisit (d := dd + 7) (c := c) (s := s) (t := t) ((jc.set _ n2).set _ n1) k1 ?_ hok.l2 (by rw [setI_same, upd_at _ rfl]) htc (by rw [hW]; exact ho) (fun f' hf' => sg_X2_playOn_238 a1 a2 ?_)
        · rw [setI_ne _ _ (by omega), setI_same, show 34 + 2 * L + 1 = 35 + 2 * L by omega]; exact js.cpy
        · rw [hW] at hf'
          rw [nI_1]
          refine h_met (by decide) rfl (Nat.le_of_ble_eq_true rfl) (sg_X2_playOn_0 b1 b2 (by rw [nI_clamp (by omega)]; exact k2) (fun z => absurd z (nI_pos (by omega))) (fun _ _ => vp_in_nI (by omega) (by decide)) (fun _ _ => ?_) (fun _ z => absurd (nI_lt (b := 11) (by omega) (by decide)) z))
          rw [setI_same, upd_at _ rfl]
          refine x_play hg n (t + 1) (vst c s w o) (L + 1) dd _ _ (by omega) (((((jc.set _ n2).set _ n1).set f' n2)).set _ n1) ?_ ?_ ?_ (vst_ok hok hcp (fun k e => (ho k e).2)) (by rw [hlen]; omega) (by rw [hlen]; omega) (fun J' fr po => sg_X2_playOn_245 a1 a2 ?_)
          · rw [setI_ne _ _ (by omega), setI_ne _ _ (by omega), setI_ne _ _ (by omega), setI_ne _ _ (by omega)]; exact j4
          · rw [setI_ne _ _ (by omega), show 35 + 2 * (L + 1) = 34 + 2 * (L + 1) + 1 by omega, setI_same]; exact hf'
          · rw [setI_same, upd_at _ rfl]
          · have fr' : FrP (L + 1) J J' := fun a h1 h2 h3 => by
              rw [fr a h1 h2 h3, setI_ne _ _ (fun w => h1 (by omega)), setI_ne _ _ (fun w => h1 (by omega)), setI_ne _ _ (fun w => h1 (by omega)), setI_ne _ _ (fun w => h1 (by omega))]
            have g4 : J' 32 4 = g := by rw [fr' 32 (by omega) (by omega) (by omega)]; exact j4
            rw [nI_1]
            exact c_reached (d := dd + 7) (by omega) po.1 (by omega) (by rw [g4]; exact hgm.2.1) (kk J' fr' po)
      -- a better one is taken over
      have ov : ∀ (o : Option Nat) (J' : HIh) (C : Option Value → HIh → Prop), POut J' (L + 1) (play c (glOf g) n (t + 1) (vst c s w o)) → (∀ J2, (∀ a, a ≠ 57 + L → a ≠ 69 + L → J2 a = J' a) → POut J2 L ((play c (glOf g) n (t + 1) (vst c s w o)).1, o :: (play c (glOf g) n (t + 1) (vst c s w o)).2) → C none J2) → HCall E me_X2_takeOver (dd + 1 + 9) [.ref 32, .int (nI L), .int (oI o)] J' C := by
        intro o J' C po kk
        refine c_takeOver (d := dd + 9) hL10 (fun J2 h1 h2 h3 h4' => kk J2 h1 ⟨fun p hp => (h2 p hp).trans ?_, fun i hi => ?_⟩)
        · have := po.1 p hp
          rw [show 57 + (L + 1) = 58 + L by omega] at this
          exact this
        · rw [List.length_cons, hlen] at hi
          cases i with
          | zero => exact h3
          | succ i =>
            rw [h4' (L + (i + 1)) (by omega) (by omega)]
            have := po.2 i (by rw [hlen]; omega)
            rw [show 69 + (L + 1) = 70 + L by omega, show L + 1 + i = L + (i + 1) by omega] at this
            exact this
      have bas : ∀ {J J'}, FrP (L + 1) J J' → (CC J c → CC J' c) ∧ (J 32 4 = g → J' 32 4 = g) ∧ (J (34 + 2 * L) 1 = nI t → J' (34 + 2 * L) 1 = nI t) ∧ (LotC (J (35 + 2 * L)) s → LotC (J' (35 + 2 * L)) s) := fun {J J'} fr => ⟨fr.cc, fun h => by rw [fr 32 (by omega) (by omega) (by omega)]; exact h, fun h => by rw [fr (34 + 2 * L) (by omega) (by omega) (by omega)]; exact h, fun h => by rw [fr (35 + 2 * L) (by omega) (by omega) (by omega)]; exact h⟩
      have basT : ∀ {J' J2 : HIh}, (∀ a, a ≠ 57 + L → a ≠ 69 + L → J2 a = J' a) → FrP L J' J2 ∧ (CC J' c → CC J2 c) ∧ (J' 32 4 = g → J2 32 4 = g) ∧ (J' (34 + 2 * L) 1 = nI t → J2 (34 + 2 * L) 1 = nI t) ∧ (LotC (J' (35 + 2 * L)) s → LotC (J2 (35 + 2 * L)) s) := fun {J' J2} h => ⟨fun a _ h2 h3 => h a (fun w => h2 (by omega)) (fun w => h3 (by omega)), fun hc => hc.of ⟨h 1 (by omega) (by omega), h 6 (by omega) (by omega), h 7 (by omega) (by omega), h 8 (by omega) (by omega), h 9 (by omega) (by omega)⟩, fun e => by rw [h 32 (by omega) (by omega)]; exact e, fun e => by rw [h _ (by omega) (by omega)]; exact e, fun e => by rw [h _ (by omega) (by omega)]; exact e⟩
      have hsz : (nI L + 1).toNatClampNeg = L + 1 := by rw [nI_1, nI_clamp (by omega)]
      have vpL : vp_in (nI L + 1) 11 := by rw [nI_1]; exact vp_in_nI (by omega) (by decide)
      have l1lt : nI L + 1 < 11 := by rw [nI_1]; exact nI_lt (b := 11) (by omega) (by decide)
      have nfz : ¬ fFree (I 32 4) (fVis (I 1 10) (I 9) (nI t)) = 0 := fun z => by rw [h4, hvis] at z; exact hgl (free.mp z)
      refine sg_X2_playOn_23 a1 a2 (fun z => absurd z nle) (fun z => absurd z nle) (fun z => absurd z nle) (fun _ _ z => absurd z nle') (fun _ _ _ _ => ?_) (fun _ _ _ z => absurd l1lt z) (fun _ z => absurd z nfz)
      rw [hgn, hvis]
      refine c_comesAgain (d := dd + 7) hg h4 hc hcp htc (fun _ => sg_X2_playOn_120 a1 a2 (fun _ => ?_) (fun z => absurd z (by decide))) (fun hno => sg_X2_playOn_120 a1 a2 (fun z => absurd rfl z) (fun _ => ?_))
      · -- he comes again: all is tried
        have loop : ∀ (mm k : Nat) (J : HIh), k + mm = cK c → FrP L I J → CC J c → J 32 4 = g → J (34 + 2 * L) 1 = nI t → LotC (J (35 + 2 * L)) s → POut J L ((bestOf (fun r => gval m r.1) (fun o => play c (glOf g) n (t + 1) (vst c s w o)) (fun k => decide (0 < s w k)) k).2.1, (bestOf (fun r => gval m r.1) (fun o => play c (glOf g) n (t + 1) (vst c s w o)) (fun k => decide (0 < s w k)) k).1 :: (bestOf (fun r => gval m r.1) (fun o => play c (glOf g) n (t + 1) (vst c s w o)) (fun k => decide (0 < s w k)) k).2.2) → HGo E (mF E (dd + 1 + 10) Q) me_X2_playOn 163 [(0, .ref 32), (1, .int (nI L)), (2, .ref (34 + 2 * L)), (3, .int (nI w)), (4, .int 0), (5, .int (-1)), (6, .int (nI (gval m (bestOf (fun r => gval m r.1) (fun o => play c (glOf g) n (t + 1) (vst c s w o)) (fun k => decide (0 < s w k)) k).2.1))), (7, .int (nI k))] [] J := by
          intro mm
          induction mm with
          | zero =>
            intro k J hk fr jc j4 jg js po
            have : k = cK c := by omega
            subst this
            have y : J 1 9 ≤ nI (cK c) := by rw [jc.1, nI_leI (by omega) (by omega)]; omega
            exact sg_X2_playOn_163 a1 a2 a3 a4 a5 a6 b1 b2 b3 b4 b5 b6 (by rw [hsz]; exact k2) (fun _ => q J fr po) (fun z => absurd y z) (fun z => absurd y z) (fun z => absurd y z) (fun z => absurd y z) (fun z => absurd y z) (fun z => absurd y z) (fun z => absurd y z) (fun z => absurd y z)
          | succ mm ih =>
            intro k J hk fr jc j4 jg js po
            have ny : ¬ J 1 9 ≤ nI k := by rw [jc.1, nI_leI (by omega) (by omega)]; omega
            have km : ¬ nI k = -1 := nI_nm1 (by omega)
            have hof : fOf (J (34 + 2 * L + 1)) (nI w) (nI k) = nI (s w k) := by rw [fOf_n _ (by omega) (by omega), show 34 + 2 * L + 1 = 35 + 2 * L by omega]; exact js w (by omega) k (by omega)
            have h100 : s w k ≤ 100 := hok.le (by omega) (by omega)
            have e0 : nI (s w k) = 0 ↔ s w k = 0 := nI_eq (b := 0) (by omega) (by decide)
            have bk := bestOf_is (fun r => gval m r.1) (fun o => play c (glOf g) n (t + 1) (vst c s w o)) (fun k => decide (0 < s w k)) k
            have bval : ∀ j, (bestOf (fun r => gval m r.1) (fun o => play c (glOf g) n (t + 1) (vst c s w o)) (fun k => decide (0 < s w k)) k).1 = some j → j < cK c ∧ 0 < s w j := fun j e => by have := bk.2 j e; exact ⟨by omega, of_decide_eq_true this.2⟩
            have bgb := gb _ bval
            rw [← bk.1] at bgb
            have stay : ¬ (0 < s w k ∧ gval m (bestOf (fun r => gval m r.1) (fun o => play c (glOf g) n (t + 1) (vst c s w o)) (fun k => decide (0 < s w k)) k).2.1 < gval m (play c (glOf g) n (t + 1) (vst c s w (some k))).1) → bestOf (fun r => gval m r.1) (fun o => play c (glOf g) n (t + 1) (vst c s w o)) (fun k => decide (0 < s w k)) (k + 1) = bestOf (fun r => gval m r.1) (fun o => play c (glOf g) n (t + 1) (vst c s w o)) (fun k => decide (0 < s w k)) k := fun h => by
              show (if _ then _ else _) = _
              rw [if_neg (fun z => h ⟨of_decide_eq_true z.1, z.2⟩)]
            have take : 0 < s w k → gval m (bestOf (fun r => gval m r.1) (fun o => play c (glOf g) n (t + 1) (vst c s w o)) (fun k => decide (0 < s w k)) k).2.1 < gval m (play c (glOf g) n (t + 1) (vst c s w (some k))).1 → bestOf (fun r => gval m r.1) (fun o => play c (glOf g) n (t + 1) (vst c s w o)) (fun k => decide (0 < s w k)) (k + 1) = (some k, play c (glOf g) n (t + 1) (vst c s w (some k))) := fun h1 h2 => by
              show (if _ then _ else _) = _
              rw [if_pos ⟨decide_eq_true h1, h2⟩]
            refine sg_X2_playOn_163 a1 a2 a3 a4 a5 a6 b1 b2 b3 b4 b5 b6 (by rw [hsz]; exact k2) (fun z => absurd z ny) (fun _ _ z => absurd z km) (fun _ _ z => absurd z km) (fun _ _ _ _ => vpL) (fun _ _ _ z => ?_) (fun _ _ _ z => ?_) (fun _ z => absurd rfl z) (fun _ z => absurd rfl z) (fun _ z => absurd rfl z)
            · rw [hof, e0] at z
              have ho : ∀ j, some k = some j → j < cK c ∧ 0 < s w j := fun j e => by cases e; exact ⟨by omega, by omega⟩
              have gbk := gb (some k) ho
              refine tr (some k) J 0 (-1) _ ho jc j4 jg js (fun J' fr' po' => ?_)
              have B := bas fr'
              refine sg_X2_playOn_253 a1 a2 (fun y => ?_) (fun y => ?_)
              · rw [nI_leI (by omega) (by omega)] at y
                have hst := stay (by omega)
                have := ih (k + 1) J' (by omega) (fr.tr fr'.up) (B.1 jc) (B.2.1 j4) (B.2.2.1 jg) (B.2.2.2 js) (by
                  rw [hst]
                  refine ⟨fun p hp => ?_, fun i hi => ?_⟩
                  · rw [fr' (57 + L) (by omega) (by omega) (by omega)]; exact po.1 p hp
                  · rw [fr' (69 + L) (by omega) (by omega) (by omega)]; exact po.2 i hi)
                rw [hst] at this
                show HGo E _ _ 163 _ [] J'
                rw [show oI (some k) + 1 = nI (k + 1) from nI_1 k]
                exact this
              · rw [nI_leI (by omega) (by omega)] at y
                have htk := take (by omega) (by omega)
                refine ov (some k) J' _ po' (fun J2 hJ2 po2 => sg_X2_playOn_273 a1 a2 ?_)
                have T := basT hJ2
                have := ih (k + 1) J2 (by omega) ((fr.tr fr'.up).tr T.1) (T.2.1 (B.1 jc)) (T.2.2.1 (B.2.1 j4)) (T.2.2.2.1 (B.2.2.1 jg)) (T.2.2.2.2 (B.2.2.2 js)) (by rw [htk]; exact po2)
                rw [htk] at this
                rw [show oI (some k) + 1 = nI (k + 1) from nI_1 k]
                exact this
            · rw [hof, e0] at z
              have hst := stay (by omega)
              have := ih (k + 1) J (by omega) fr jc j4 jg js (by rw [hst]; exact po)
              rw [hst] at this
              rw [nI_1]
              exact this
        have ny : ¬ I 1 9 ≤ (-1 : Int32) := by rw [hc.1, i_le, nI_toInt (by omega), zm1]; omega
        refine sg_X2_playOn_163 a1 a2 a3 a4 a5 a6 b1 b2 b3 b4 b5 b6 (by rw [hsz]; exact k2) (fun z => absurd z ny) (fun _ _ _ => vpL) (fun _ _ _ => ?_) (fun _ _ z => absurd rfl z) (fun _ _ z => absurd rfl z) (fun _ _ z => absurd rfl z) (fun _ z => absurd rfl z) (fun _ z => absurd rfl z) (fun _ z => absurd rfl z)
        have hno : ∀ j, (none : Option Nat) = some j → j < cK c ∧ 0 < s w j := fun j e => by cases e
        have gbk := gb none hno
        refine tr none I 0 (-1) (-1) hno hc h4 hgn hs (fun J' fr' po' => ?_)
        have B := bas fr'
        refine sg_X2_playOn_253 a1 a2 (fun y => ?_) (fun y => ?_)
        · exfalso; rw [i_le, nI_toInt (by omega), zm1] at y; omega
        · refine ov none J' _ po' (fun J2 hJ2 po2 => sg_X2_playOn_273 a1 a2 ?_)
          have T := basT hJ2
          exact loop (cK c) 0 J2 (by omega) (fr'.up.tr T.1) (T.2.1 (B.1 hc)) (T.2.2.1 (B.2.1 h4)) (T.2.2.2.1 (B.2.2.1 hgn)) (T.2.2.2.2 (B.2.2.2 hs)) po2
      · -- his last visit: the greatest gain
        have hlast := last_best (c := c) (gl := glOf g) (n := n) (t := t + 1) (i := w) (s := s) (goals_GoalOk hg) hcp (by rw [hmm]; exact hgl) (fun j hj => ⟨hcfk.2.2.2.2.2.2.2 _ (by omega), hno (t + 1 + j) (by omega) (by omega)⟩)
        rw [hmm] at hlast
        rw [hlast] at q
        have hs' : LotC (I (34 + 2 * L + 1)) s := by rw [show 34 + 2 * L + 1 = 35 + 2 * L by omega]; exact hs
        refine c_would_G (d := dd + 7) hc l1 hs' hok.l2 hcp (sg_X2_playOn_151 a1 a2 ?_)
        have hgrd : ∀ j, grd c s w = some j → j < cK c ∧ 0 < s w j := fun j e => grd_lt e
        generalize grd c s w = o at *
        have gbo := gb o hgrd
        have skip : ∀ (mm k : Nat) (J : HIh) (x6 : Int32), k + mm = cK c → CC J c → (∀ i, k ≤ i → i < cK c → ¬ nI i = oI o) → Q none J → HGo E (mF E (dd + 1 + 10) Q) me_X2_playOn 163 [(0, .ref 32), (1, .int (nI L)), (2, .ref (34 + 2 * L)), (3, .int (nI w)), (4, .int 1), (5, .int (oI o)), (6, .int x6), (7, .int (nI k))] [] J := by
          intro mm
          induction mm with
          | zero =>
            intro k J x6 hk jc hne hq
            have y : J 1 9 ≤ nI k := by rw [jc.1, nI_leI (by omega) (by omega)]; omega
            exact sg_X2_playOn_163 a1 a2 a3 a4 a5 a6 b1 b2 b3 b4 b5 b6 (by rw [hsz]; exact k2) (fun _ => hq) (fun z => absurd y z) (fun z => absurd y z) (fun z => absurd y z) (fun z => absurd y z) (fun z => absurd y z) (fun z => absurd y z) (fun z => absurd y z) (fun z => absurd y z)
          | succ mm ih =>
            intro k J x6 hk jc hne hq
            have ny : ¬ J 1 9 ≤ nI k := by rw [jc.1, nI_leI (by omega) (by omega)]; omega
            have nk := hne k (Nat.le_refl _) (by omega)
            refine sg_X2_playOn_163 a1 a2 a3 a4 a5 a6 b1 b2 b3 b4 b5 b6 (by rw [hsz]; exact k2) (fun z => absurd z ny) (fun _ z => absurd z (by decide)) (fun _ z => absurd z (by decide)) (fun _ z => absurd z (by decide)) (fun _ z => absurd z (by decide)) (fun _ z => absurd z (by decide)) (fun _ _ z => absurd z nk) (fun _ _ z => absurd z nk) (fun _ _ _ => ?_)
            rw [nI_1]
            exact ih (k + 1) J x6 (by omega) jc (fun i h1 h2 => hne i (by omega) h2) hq
        have fin : ∀ (k : Nat) (x7 : Int32), x7 = oI o → x7 + 1 = nI k → ¬ I 1 9 ≤ x7 → k ≤ cK c → (∀ i, k ≤ i → i < cK c → ¬ nI i = oI o) → HGo E (mF E (dd + 1 + 10) Q) me_X2_playOn 163 [(0, .ref 32), (1, .int (nI L)), (2, .ref (34 + 2 * L)), (3, .int (nI w)), (4, .int 1), (5, .int (oI o)), (6, .int (-1)), (7, .int x7)] [] I := by
          intro k x7 hx hx1 ny hk hne
          subst hx
          refine sg_X2_playOn_163 a1 a2 a3 a4 a5 a6 b1 b2 b3 b4 b5 b6 (by rw [hsz]; exact k2) (fun z => absurd z ny) (fun _ z => absurd z (by decide)) (fun _ z => absurd z (by decide)) (fun _ z => absurd z (by decide)) (fun _ z => absurd z (by decide)) (fun _ z => absurd z (by decide)) (fun _ _ _ => vpL) (fun _ _ _ => ?_) (fun _ _ z => absurd rfl z)
          refine tr o I 1 (oI o) (-1) hgrd hc h4 hgn hs (fun J' fr' po' => ?_)
          have B := bas fr'
          refine sg_X2_playOn_253 a1 a2 (fun y => ?_) (fun y => ?_)
          · exfalso; rw [i_le, nI_toInt (by omega), zm1] at y; omega
          · refine ov o J' _ po' (fun J2 hJ2 po2 => sg_X2_playOn_273 a1 a2 ?_)
            have T := basT hJ2
            rw [hx1]
            exact skip (cK c - k) k J2 _ (by omega) (T.2.1 (B.1 hc)) hne (q J2 (fr'.up.tr T.1) po2)
        have nym : ¬ I 1 9 ≤ (-1 : Int32) := by rw [hc.1, i_le, nI_toInt (by omega), zm1]; omega
        cases o with
        | none => exact fin 0 (-1) rfl (by decide) nym (Nat.zero_le _) (fun i _ hi => nI_nm1 (by omega))
        | some j =>
          have hj := (hgrd j rfl).1
          have at_j := fin (j + 1) (nI j) rfl (nI_1 j) (by rw [hc.1, nI_leI (by omega) (by omega)]; omega) (by omega) (fun i h1 h2 e => by
            have e' : nI i = nI j := e
            rw [nI_eq (by omega) (by omega)] at e'; omega)
          have pre : ∀ (mm k : Nat), k + mm = j → HGo E (mF E (dd + 1 + 10) Q) me_X2_playOn 163 [(0, .ref 32), (1, .int (nI L)), (2, .ref (34 + 2 * L)), (3, .int (nI w)), (4, .int 1), (5, .int (oI (some j))), (6, .int (-1)), (7, .int (nI k))] [] I := by
            intro mm
            induction mm with
            | zero => intro k hk; have : k = j := by omega
                      subst this; exact at_j
            | succ mm ih =>
              intro k hk
              have ny : ¬ I 1 9 ≤ nI k := by rw [hc.1, nI_leI (by omega) (by omega)]; omega
              have nk : ¬ nI k = oI (some j) := fun e => by
                have e' : nI k = nI j := e
                rw [nI_eq (by omega) (by omega)] at e'; omega
              refine sg_X2_playOn_163 a1 a2 a3 a4 a5 a6 b1 b2 b3 b4 b5 b6 (by rw [hsz]; exact k2) (fun z => absurd z ny) (fun _ z => absurd z (by decide)) (fun _ z => absurd z (by decide)) (fun _ z => absurd z (by decide)) (fun _ z => absurd z (by decide)) (fun _ z => absurd z (by decide)) (fun _ _ z => absurd z nk) (fun _ _ z => absurd z nk) (fun _ _ _ => ?_)
              rw [nI_1]
              exact ih (k + 1) (by omega)
          have nk : ¬ (-1 : Int32) = oI (some j) := fun e => nI_nm1 (k := j) (by omega) e.symm
          refine sg_X2_playOn_163 a1 a2 a3 a4 a5 a6 b1 b2 b3 b4 b5 b6 (by rw [hsz]; exact k2) (fun z => absurd z nym) (fun _ z => absurd z (by decide)) (fun _ z => absurd z (by decide)) (fun _ z => absurd z (by decide)) (fun _ z => absurd z (by decide)) (fun _ z => absurd z (by decide)) (fun _ _ z => absurd z nk) (fun _ _ z => absurd z nk) (fun _ _ _ => ?_)
          exact pre j 0 (by omega)
end PLAYX
