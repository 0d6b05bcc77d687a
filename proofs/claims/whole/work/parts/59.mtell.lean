/-! the reference tells a line -/
def DM (J : HIh) (S : HTl) : Prop := J 87 6 = nI (cK S.1) ∧ J 87 13 = nI (cv S.1) ∧ J 87 11 = nI (cl S.1) ∧ (∀ k, k < cK S.1 → J 92 k = nI (cw S.1 k)) ∧ (∀ i, i < 4 → J 94 i = nI (ch S.1 i)) ∧ (∀ i, i < 4 → ch S.1 i = 2 → J 95 i = nI (cb S.1 i)) ∧ (∀ t, t < cv S.1 → J 96 t = nI (cp S.1 t)) ∧ RowC (J 93) 0 S.2
theorem DM.hab {J K : HIh} {S : HTl} {l : List Int32} {w : Nat} {b g : Int32} (h : DM J S) (hw : w = 3 ∨ w = 4 ∨ w = 5 ∨ w = 6) (hb : b = nI (w - 3)) (hg : w = 5 → g = nI (lG l 1)) (e : K 87 = J 87 ∧ K 92 = J 92 ∧ K 96 = J 96 ∧ K 93 = J 93) (e27 : K 94 = upd (J 94) (lG l 0) b) (e28 : K 95 = upd (J 95) (lG l 0) g) : DM K (tellP S (w, l)) := by
  obtain ⟨d1, d2, d3, d4, d5, d6, d7, d8⟩ := h
  obtain ⟨e1, e2, e3, e4⟩ := e
  rw [tell_h S l hw]
  refine ⟨by rw [e1]; exact d1, by rw [e1]; exact d2, by rw [e1]; exact d3, by rw [e2]; exact d4, fun i hi => ?_, fun i hi hc => ?_, by rw [e3]; exact d7, by rw [e4]; exact d8⟩
  · rw [e27]
    by_cases u : i = lG l 0
    · rw [upd_at _ u.symm, hb]; exact congrArg nI (if_pos u).symm
    · rw [upd_off _ u]; exact (d5 i hi).trans (congrArg nI (if_neg u).symm)
  · rw [e28]
    have hc' : (if i = lG l 0 then w - 3 else ch S.1 i) = 2 := hc
    by_cases u : i = lG l 0
    · rw [if_pos u] at hc'
      have h5 : w = 5 := by omega
      rw [upd_at _ u.symm, hg h5]
      exact congrArg nI ((if_pos u).trans (if_pos h5)).symm
    · rw [if_neg u] at hc'
      rw [upd_off _ u]; exact (d6 i hi hc').trans (congrArg nI (if_neg u).symm)
theorem row_put {f : Nat → Int32} {s : HCn} {x o k b : Nat} (h : RowC f 0 s) (ho : o < 5) (hk : k < 6) (hx : x = if o = 4 then k else 6 + 6 * o + k) : RowC (upd f x (nI b)) 0 (fun o' k' => if o' = o ∧ k' = k then b else s o' k') := by
  refine ⟨fun k' hk' => ?_, fun i hi k' hk' => ?_⟩
  · by_cases w : (4 = o ∧ k' = k)
    · obtain ⟨rfl, rfl⟩ := w
      rw [if_pos rfl] at hx
      rw [upd_at _ (by omega)]; exact congrArg nI (if_pos ⟨rfl, rfl⟩).symm
    · rw [upd_off _ (by intro u; split at hx <;> omega)]
      exact (h.1 k' hk').trans (congrArg nI (if_neg w).symm)
  · by_cases w : (i = o ∧ k' = k)
    · obtain ⟨rfl, rfl⟩ := w
      rw [if_neg (by omega)] at hx
      rw [upd_at _ (by omega)]; exact congrArg nI (if_pos ⟨rfl, rfl⟩).symm
    · rw [upd_off _ (by intro u; split at hx <;> omega)]
      exact (h.2 i hi k' hk').trans (congrArg nI (if_neg w).symm)
def FrT (J K : HIh) : Prop := (∀ a, a ∉ [87, 92, 93, 94, 95, 96] → K a = J a) ∧ ∀ j, j ∉ [6, 11, 13] → K 87 j = J 87 j
theorem FrT.set {J : HIh} {q : Nat} (f : Nat → Int32) (hq : q ∈ [92, 93, 94, 95, 96]) : FrT J (setI J q f) := by
  refine ⟨fun a ha => setI_ne _ _ (fun w => ha (by rw [w]; exact List.mem_cons_of_mem _ hq)), fun j hj => ?_⟩
  rw [setI_ne _ _ (fun w => by rw [← w] at hq; exact absurd hq (by decide))]
theorem FrT.st7 {J : HIh} {i : Nat} (x : Int32) (hi : i ∈ [6, 11, 13]) : FrT J (setI J 87 (upd (J 87) i x)) :=
  ⟨fun a ha => setI_ne _ _ (fun w => ha (by rw [w]; decide)), fun j hj => by rw [setI_same, upd_off _ (fun w => hj (by rw [w]; exact hi))]⟩
theorem FrT.tr {I J K : HIh} (h : FrT I J) (e : FrT J K) : FrT I K := ⟨fun a ha => (e.1 a ha).trans (h.1 a ha), fun j hj => (e.2 j hj).trans (h.2 j hj)⟩
section MTELL
variable {E : HEn} {d : Nat} {Q : Option Value → HIh → Prop} {I : HIh}
theorem tc_46 {J : HIh} (q : ∀ f, (∀ x, x < 30 → f x = 0) → Q none (setI J 93 f)) : ∀ (m j : Nat) (f : Nat → Int32), j + m = 30 → (∀ x, x < j → f x = 0) → HGo E (mF E (d + 1) Q) me_X12_tellCoins 46 [(0, .ref 87), (2, .int (nI j))] [] (setI J 93 f)
  | m, j, f, hj, hf => by
    have le : (30 : Int32) ≤ nI j ↔ 30 ≤ j := nI_leI (a := 30) (by omega) (by omega)
    refine sg_X12_tellCoins_46 (fun z => ?_) (fun z => ?_) (fun z => ?_)
    all_goals rw [le] at z
    · exact q f (fun x hx => hf x (by omega))
    · exact vp_in_nI (by omega) (by decide)
    · obtain ⟨m, rfl⟩ : ∃ k, m = k + 1 := ⟨m - 1, by omega⟩
      rw [setI_setI, setI_same, nI_clamp (by omega), nI_1]
      refine tc_46 q m (j + 1) _ (by omega) (fun x hx => ?_)
      by_cases e : x = j
      · subst e; exact upd_at _ rfl _
      · rw [upd_off _ e]; exact hf x (by omega)
theorem tc_14 {J : HIh} {r : Nat} {l : List Int32} (hr : r ≤ 9) (hl : l.length ≤ 6) (h6 : J 87 6 = nI l.length) (hrec : ∀ j, j < l.length → J 91 (12 * r + 2 + j) = l.getD j 0) (q : ∀ g, (∀ x, x < l.length → g x = l.getD x 0) → HGo E (mF E (d + 1) Q) me_X12_tellCoins 46 [(0, .ref 87), (2, .int 0)] [] (setI J 92 g)) : ∀ (m j : Nat) (g : Nat → Int32), j + m = l.length → (∀ x, x < j → g x = l.getD x 0) → HGo E (mF E (d + 1) Q) me_X12_tellCoins 14 [(0, .ref 87), (1, .int (nI (12 * r))), (2, .int (nI j))] [] (setI J 92 g)
  | m, j, g, hj, hg => by
    have e6 : (setI J 92 g) 87 6 = nI l.length := by rw [setI_ne _ _ (by decide)]; exact h6
    have le : (setI J 92 g) 87 6 ≤ nI j ↔ l.length ≤ j := by rw [e6, nI_leI (by omega) (by omega)]
    have c2 : nI (12 * r) + 2 + nI j = nI (12 * r + 2 + j) := by rw [show (2 : Int32) = nI 2 from rfl, nI_add, nI_add]
    refine sg_X12_tellCoins_14 (fun z => ?_) (fun z => ?_) (fun z => ?_) (fun z => ?_)
    all_goals rw [le] at z
    · have : m = 0 := by omega
      subst this
      exact q g (fun x hx => hg x (by omega))
    · rw [c2]; exact vp_in_nI (by omega) (by decide)
    · exact vp_in_nI (by omega) (by decide)
    · obtain ⟨m, rfl⟩ : ∃ k, m = k + 1 := ⟨m - 1, by omega⟩
      rw [setI_setI, setI_same, setI_ne J g (show 91 ≠ 92 by decide), c2, nI_clamp (by omega), nI_clamp (by omega), hrec j (by omega), nI_1]
      refine tc_14 hr hl h6 hrec q m (j + 1) _ (by omega) (fun x hx => ?_)
      by_cases e : x = j
      · subst e; exact upd_at _ rfl _
      · rw [upd_off _ e]; exact hg x (by omega)
theorem m_tellCoins {J : HIh} {r : Nat} {l : List Int32} (hr : r ≤ 9) (hl : l.length ≤ 6) (hrec : RecM J r 0 l) (q : ∀ f g, (∀ x, x < 30 → f x = 0) → (∀ x, x < l.length → g x = l.getD x 0) → Q none (setI (setI (setI J 87 (upd (J 87) 6 (nI l.length))) 92 g) 93 f)) : HCall E me_X12_tellCoins (d + 1) [.ref 87, .int (nI (12 * r))] J Q := by
  have c1 : nI (12 * r) + 1 = nI (12 * r + 1) := nI_1 _
  refine h_met (by decide) rfl (Nat.le_of_ble_eq_true rfl) (sg_X12_tellCoins_0 (by rw [c1]; exact vp_in_nI (by omega) (by decide)) ?_)
  rw [c1, nI_clamp (by omega), hrec.2.1]
  have := tc_14 (E := E) (d := d) (Q := Q) (J := setI J 87 (upd (J 87) 6 (nI l.length))) hr hl (by rw [setI_same, upd_at _ rfl]) (fun j hj => hrec.2.2 j hj) (fun g hg => ?_) l.length 0 (J 92) (by omega) (fun x hx => absurd hx (Nat.not_lt_zero _))
  · rw [show J 92 = (setI J 87 (upd (J 87) 6 (nI l.length))) 92 from rfl, setI_id] at this
    exact this
  · have t2 := tc_46 (E := E) (d := d) (Q := Q) (J := setI (setI J 87 (upd (J 87) 6 (nI l.length))) 92 g) (fun f hf => q f g hf hg) 30 0 (J 93) rfl (fun x hx => absurd hx (Nat.not_lt_zero _))
    rw [show J 93 = (setI (setI J 87 (upd (J 87) 6 (nI l.length))) 92 g) 93 from rfl, setI_id] at t2
    exact t2
theorem m_tellCome {J : HIh} {r vc : Nat} {l : List Int32} (hr : r ≤ 9) (hl : l.length ≤ 9) (hv : vc + l.length ≤ 24) (h13 : J 87 13 = nI vc) (hrec : RecM J r 7 l) (q : ∀ K, (∀ a, a ≠ 87 → a ≠ 96 → K a = J a) → (∀ j, j ≠ 13 → K 87 j = J 87 j) → K 87 13 = nI (vc + l.length) → (∀ t, t < vc → K 96 t = J 96 t) → (∀ i, i < l.length → K 96 (vc + i) = l.getD i 0) → Q none K) : ∀ (m j : Nat) (K : HIh), j + m = l.length → (∀ a, a ≠ 87 → a ≠ 96 → K a = J a) → (∀ j, j ≠ 13 → K 87 j = J 87 j) → K 87 13 = nI (vc + j) → (∀ t, t < vc → K 96 t = J 96 t) → (∀ i, i < j → K 96 (vc + i) = l.getD i 0) → HGo E (mF E (d + 1) Q) me_X12_tellCome 2 [(0, .ref 87), (1, .int (nI (12 * r))), (2, .int (nI j))] [] K
  | m, j, K, hj, k1, k2, k3, k4, k5 => by
    have c1 : nI (12 * r) + 1 = nI (12 * r + 1) := nI_1 _
    have c2 : nI (12 * r) + 2 + nI j = nI (12 * r + 2 + j) := by rw [show (2 : Int32) = nI 2 from rfl, nI_add, nI_add]
    have e91 : K 91 = J 91 := k1 91 (by decide) (by decide)
    have le : K 91 (nI (12 * r) + 1).toNatClampNeg ≤ nI j ↔ l.length ≤ j := by rw [e91, c1, nI_clamp (by omega), hrec.2.1, nI_leI (by omega) (by omega)]
    refine sg_X12_tellCome_2 (by rw [c1]; exact vp_in_nI (by omega) (by decide)) (fun z => ?_) (fun z => ?_) (fun z => ?_) (fun z => ?_)
    all_goals rw [le] at z
    · have : m = 0 := by omega
      subst this
      have : j = l.length := by omega
      subst this
      exact q K k1 k2 k3 k4 k5
    · rw [c2]; exact vp_in_nI (by omega) (by decide)
    · rw [k3]; exact vp_in_nI (by omega) (by decide)
    · obtain ⟨m, rfl⟩ : ∃ k, m = k + 1 := ⟨m - 1, by omega⟩
      rw [k3, c2, nI_clamp (by omega), nI_clamp (by omega), e91, hrec.2.2 j (by omega), nI_1, nI_1]
      refine m_tellCome hr hl hv h13 hrec q m (j + 1) _ (by omega) (fun a n1 n2 => ?_) (fun i hi => ?_) ?_ (fun t ht => ?_) (fun i hi => ?_)
      · rw [setI_ne _ _ n1, setI_ne _ _ n2]; exact k1 a n1 n2
      · rw [setI_same, upd_off _ hi]; exact k2 i hi
      · rw [setI_same, upd_at _ rfl]; congr 1
      · rw [setI_ne _ _ (by decide), setI_same, upd_off _ (by omega)]; exact k4 t ht
      · rw [setI_ne _ _ (by decide), setI_same]
        by_cases e : i = j
        · subst e; exact upd_at _ rfl _
        · rw [upd_off _ (by omega)]; exact k5 i (by omega)
theorem m_tell {J : HIh} {S : HTl} {r w : Nat} {l : List Int32} (hS : SOk S) (ho : okL S (w, l)) (hm : DM J S) (hr : r ≤ 9) (hrec : RecM J r w l) (q : ∀ K, FrT J K → DM K (tellP S (w, l)) → Q none K) : HCall E me_X12_tell (d + 2) [.ref 87, .int (nI (12 * r))] J Q := by
  have hK1 : 1 ≤ cK S.1 := hS.1.1
  have hK : cK S.1 ≤ 6 := hS.1.2.1
  have hV : cv S.1 ≤ 24 := hS.1.2.2.2.2.2.2.1
  have c2 : nI (12 * r) + 2 = nI (12 * r + 2) := by rw [show (2 : Int32) = nI 2 from rfl, nI_add]
  have c3 : nI (12 * r) + 3 = nI (12 * r + 3) := by rw [show (3 : Int32) = nI 3 from rfl, nI_add]
  have c4 : nI (12 * r) + 4 = nI (12 * r + 4) := by rw [show (4 : Int32) = nI 4 from rfl, nI_add]
  have v0 : vp_in (nI (12 * r)) 120 := vp_in_nI (by omega) (by decide)
  have v2 : vp_in (nI (12 * r) + 2) 120 := by rw [c2]; exact vp_in_nI (by omega) (by decide)
  have v3 : vp_in (nI (12 * r) + 3) 120 := by rw [c3]; exact vp_in_nI (by omega) (by decide)
  have v4 : vp_in (nI (12 * r) + 4) 120 := by rw [c4]; exact vp_in_nI (by omega) (by decide)
  have e91 : J 91 (nI (12 * r)).toNatClampNeg = nI w := by rw [nI_clamp (by omega)]; exact hrec.1
  have g2 : ∀ m, 0 < l.length → inL l 0 m → m < 2 ^ 31 → J 91 (nI (12 * r) + 2).toNatClampNeg = nI (lG l 0) := fun m h0 h1 h2 => by
    rw [c2, nI_clamp (by omega)]; exact (hrec.2.2 0 h0).trans (h1.g h2).2
  have g3 : ∀ m, 1 < l.length → inL l 1 m → m < 2 ^ 31 → J 91 (nI (12 * r) + 3).toNatClampNeg = nI (lG l 1) := fun m h0 h1 h2 => by
    rw [c3, nI_clamp (by omega)]; exact (hrec.2.2 1 h0).trans (h1.g h2).2
  have g4 : ∀ m, 2 < l.length → inL l 2 m → m < 2 ^ 31 → J 91 (nI (12 * r) + 4).toNatClampNeg = nI (lG l 2) := fun m h0 h1 h2 => by
    rw [c4, nI_clamp (by omega)]; exact (hrec.2.2 2 h0).trans (h1.g h2).2
  have hab : ∀ (hw : w = 3 ∨ w = 4 ∨ w = 5 ∨ w = 6) (b : Int32), b = nI (w - 3) → inL l 0 3 → 0 < l.length → (w = 5 → J 91 (nI (12 * r) + 3).toNatClampNeg = nI (lG l 1)) → Q none (setI (setI J 94 (upd (J 94) (J 91 (nI (12 * r) + 2).toNatClampNeg).toNatClampNeg b)) 95 (upd (J 95) (J 91 (nI (12 * r) + 2).toNatClampNeg).toNatClampNeg (J 91 (nI (12 * r) + 3).toNatClampNeg))) := fun hw b hb h0 h1 h5 => by
    have := (h0.g (by decide)).1
    rw [g2 3 h1 h0 (by decide), nI_clamp (by omega)]
    exact q _ ((FrT.set _ (by decide)).tr (FrT.set _ (by decide))) (hm.hab hw hb h5 ⟨rfl, rfl, rfl, rfl⟩ rfl rfl)
  have vh : inL l 0 3 → 0 < l.length → vp_in (J 91 (nI (12 * r) + 2).toNatClampNeg) 4 := fun h0 h1 => by
    have := (h0.g (by decide)).1
    rw [g2 3 h1 h0 (by decide)]; exact vp_in_nI (by omega) (by decide)
  obtain ⟨x0, x1, x2, x3, x4, x5, x6, x7⟩ := ho
  dsimp only at x0 x1 x2 x3 x4 x5 x6 x7
  refine h_met (by decide) rfl (Nat.le_of_ble_eq_true rfl) ?_
  have G := @sg_X12_tell_0 E d Q J (nI (12 * r))
  rw [e91] at G
  have hm' := hm
  obtain ⟨d1, d2, d3, d4, d5, d6, d7, d8⟩ := hm
  rcases (show w = 0 ∨ w = 1 ∨ w = 2 ∨ w = 3 ∨ w = 4 ∨ w = 5 ∨ w = 6 ∨ w = 7 ∨ w = 8 ∨ w = 9 by omega) with rfl | rfl | rfl | rfl | rfl | rfl | rfl | rfl | rfl | rfl
  · obtain ⟨y1, y2, y3⟩ := x1 rfl
    have K : HCall E me_X12_tellCoins (d + 1) [.ref 87, .int (nI (12 * r))] J (fun v9 J => HGo E (mF E (d + 2) Q) me_X12_tell 73 [] (v9.toList ++ []) J) := by
      refine m_tellCoins hr y2 hrec (fun f g hf hg => sg_X12_tell_73 (q _ (((FrT.st7 _ (by decide)).tr (FrT.set _ (by decide))).tr (FrT.set _ (by decide))) ?_))
      rw [tell_0]
      refine ⟨?_, ?_, ?_, fun j hj => (hg j hj).trans ((y3 j hj).g (by decide)).2, d5, d6, d7, fun k hk => hf _ (by omega), fun i hi k hk => hf _ (by omega)⟩
      · show upd (J 87) 6 (nI l.length) 6 = _
        rw [upd_at _ rfl]; rfl
      · show upd (J 87) 6 (nI l.length) 13 = _
        rw [upd_off _ (by decide)]; exact d2
      · show upd (J 87) 6 (nI l.length) 11 = _
        rw [upd_off _ (by decide)]; exact d3
    apply G <;> intros <;> first | contradiction | (with_reducible exact v0) | (with_reducible exact v2) | (with_reducible exact K)
  · obtain ⟨y1, y2, y3⟩ := x2 rfl
    have b0 := (y2.g (by omega)).1
    have z2 := g2 _ (by omega) y2 (by omega)
    have z3 := g3 _ (by omega) y3 (by decide)
    have c0 : 0 + nI (lG l 0) = nI (lG l 0) := by rw [show (0 : Int32) = nI 0 from rfl, nI_add, Nat.zero_add]
    have va : vp_in (0 + J 91 (nI (12 * r) + 2).toNatClampNeg) 30 := by rw [z2, c0]; exact vp_in_nI (by omega) (by decide)
    have K : Q none (setI J 93 (upd (J 93) (0 + J 91 (nI (12 * r) + 2).toNatClampNeg).toNatClampNeg (J 91 (nI (12 * r) + 3).toNatClampNeg))) := by
      rw [z2, z3, c0, nI_clamp (by omega)]
      refine q _ (FrT.set _ (by decide)) ?_
      rw [tell_1]
      exact ⟨d1, d2, d3, d4, d5, d6, d7, row_put (o := 4) d8 (by decide) (by omega) rfl⟩
    apply G <;> intros <;> first | contradiction | (with_reducible exact v0) | (with_reducible exact v2) | (with_reducible exact v3) | (with_reducible exact va) | (with_reducible exact K)
  · obtain ⟨y1, y2, y3, y4⟩ := x3 rfl
    have b0 := (y2.g (by omega)).1
    have b1 := (y3.g (by omega)).1
    have z2 := g2 _ (by omega) y2 (by omega)
    have z3 := g3 _ (by omega) y3 (by omega)
    have z4 := g4 _ (by omega) y4 (by omega)
    have c0 : 6 + 6 * nI (lG l 0) + nI (lG l 1) = nI (6 + 6 * lG l 0 + lG l 1) := by rw [show (6 : Int32) = nI 6 from rfl, pk_mul, nI_add, nI_add]
    have va : vp_in (6 + 6 * J 91 (nI (12 * r) + 2).toNatClampNeg + J 91 (nI (12 * r) + 3).toNatClampNeg) 30 := by rw [z2, z3, c0]; exact vp_in_nI (by omega) (by decide)
    have K : Q none (setI J 93 (upd (J 93) (6 + 6 * J 91 (nI (12 * r) + 2).toNatClampNeg + J 91 (nI (12 * r) + 3).toNatClampNeg).toNatClampNeg (J 91 (nI (12 * r) + 4).toNatClampNeg))) := by
      rw [z2, z3, z4, c0, nI_clamp (by omega)]
      refine q _ (FrT.set _ (by decide)) ?_
      rw [tell_2]
      exact ⟨d1, d2, d3, d4, d5, d6, d7, row_put (o := lG l 0) d8 (by omega) (by omega) (by rw [if_neg (by omega)])⟩
    apply G <;> intros <;> first | contradiction | (with_reducible exact v0) | (with_reducible exact v2) | (with_reducible exact v3) | (with_reducible exact v4) | (with_reducible exact va) | (with_reducible exact K)
  · obtain ⟨y1, y2⟩ := x6 (by decide)
    have K := hab (by decide) (nI 3 - 3) rfl y2 (by omega) (fun z => absurd z (by decide))
    have va := vh y2 (by omega)
    apply G <;> intros <;> first | contradiction | (with_reducible exact v0) | (with_reducible exact v2) | (with_reducible exact v3) | (with_reducible exact va) | (with_reducible exact K)
  · obtain ⟨y1, y2⟩ := x6 (by decide)
    have K := hab (by decide) (nI 4 - 3) rfl y2 (by omega) (fun z => absurd z (by decide))
    have va := vh y2 (by omega)
    apply G <;> intros <;> first | contradiction | (with_reducible exact v0) | (with_reducible exact v2) | (with_reducible exact v3) | (with_reducible exact va) | (with_reducible exact K)
  · obtain ⟨y1, y2, y3⟩ := x7 rfl
    have K := hab (by decide) (nI 5 - 3) rfl y2 (by omega) (fun _ => g3 _ (by omega) y3 (by decide))
    have va := vh y2 (by omega)
    apply G <;> intros <;> first | contradiction | (with_reducible exact v0) | (with_reducible exact v2) | (with_reducible exact v3) | (with_reducible exact va) | (with_reducible exact K)
  · obtain ⟨y1, y2⟩ := x6 (by decide)
    have K := hab (by decide) (nI 6 - 3) rfl y2 (by omega) (fun z => absurd z (by decide))
    have va := vh y2 (by omega)
    apply G <;> intros <;> first | contradiction | (with_reducible exact v0) | (with_reducible exact v2) | (with_reducible exact v3) | (with_reducible exact va) | (with_reducible exact K)
  · obtain ⟨y1, y2, y3⟩ := x4 rfl
    have K : HCall E me_X12_tellCome (d + 1) [.ref 87, .int (nI (12 * r))] J (fun v9 J => HGo E (mF E (d + 2) Q) me_X12_tell 126 [] (v9.toList ++ []) J) := by
      refine h_met (by decide) rfl (Nat.le_of_ble_eq_true rfl) (sg_X12_tellCome_0 (m_tellCome (vc := cv S.1) hr y2 y1 d2 hrec (fun K k1 k2 k3 k4 k5 => sg_X12_tell_126 (q K ⟨fun a ha => k1 a (fun w => ha (by rw [w]; decide)) (fun w => ha (by rw [w]; decide)), fun j hj => k2 j (fun w => hj (by rw [w]; decide))⟩ ?_)) l.length 0 J (by omega) (fun _ _ _ => rfl) (fun _ _ => rfl) d2 (fun _ _ => rfl) (fun i hi => absurd hi (Nat.not_lt_zero _))))
      rw [tell_7]
      refine ⟨(k2 6 (by decide)).trans d1, k3, (k2 11 (by decide)).trans d3, ?_, ?_, ?_, fun t ht => ?_, ?_⟩
      · rw [k1 92 (by decide) (by decide)]; exact d4
      · rw [k1 94 (by decide) (by decide)]; exact d5
      · rw [k1 95 (by decide) (by decide)]; exact d6
      · by_cases u : t < cv S.1
        · rw [k4 t u]; exact (d7 t u).trans (congrArg nI (if_pos u).symm)
        · have ht' : t < cv S.1 + l.length := ht
          have h6 := k5 (t - cv S.1) (by omega)
          rw [show cv S.1 + (t - cv S.1) = t by omega] at h6
          exact (h6.trans ((y3 (t - cv S.1) (by omega)).g (by decide)).2).trans (congrArg nI (if_neg u).symm)
      · rw [k1 93 (by decide) (by decide)]; exact d8
    apply G <;> intros <;> first | contradiction | (with_reducible exact v0) | (with_reducible exact v2) | (with_reducible exact K)
  · obtain ⟨y1, y2⟩ := x5 rfl
    have z2 := g2 _ (by omega) y2 (by decide)
    have K : Q none (setI J 87 (upd (J 87) 11 (J 91 (nI (12 * r) + 2).toNatClampNeg))) := by
      rw [z2]
      refine q _ (FrT.st7 _ (by decide)) ?_
      rw [tell_8]
      refine ⟨?_, ?_, ?_, d4, d5, d6, d7, d8⟩
      · rw [setI_same, upd_off _ (by decide)]; exact d1
      · rw [setI_same, upd_off _ (by decide)]; exact d2
      · rw [setI_same, upd_at _ rfl]; rfl
    apply G <;> intros <;> first | contradiction | (with_reducible exact v0) | (with_reducible exact v2) | (with_reducible exact K)
  · have K : Q none (setI J 87 (upd (J 87) 13 0)) := by
      refine q _ (FrT.st7 _ (by decide)) ?_
      rw [tell_9]
      refine ⟨?_, ?_, ?_, d4, d5, d6, fun t ht => absurd ht (Nat.not_lt_zero _), d8⟩
      · rw [setI_same, upd_off _ (by decide)]; exact d1
      · rw [setI_same, upd_at _ rfl]; rfl
      · rw [setI_same, upd_off _ (by decide)]; exact d3
    apply G <;> intros <;> first | contradiction | (with_reducible exact v0) | (with_reducible exact v2) | (with_reducible exact K)
/-- all lines, one after another -/
theorem m_tells {n : Nat} : ∀ (L : List (Nat × List Int32)) (i : Nat) (S : HTl) (J : HIh), i + L.length = n → n ≤ 10 → SOk S → okAll S L → DM J S → J 87 5 = nI n → (∀ j (h : j < L.length), RecM J (i + j) (L[j]).1 (L[j]).2) → (∀ K, FrT J K → DM K (L.foldl tellP S) → HCall E me_X12_begin (d + 7) [.ref 87] K (fun v9 J => HGo E (mF E (d + 8) Q) me_X12_sunday 39 [(0, .ref 87)] (v9.toList ++ []) J)) → HGo E (mF E (d + 8) Q) me_X12_sunday 13 [(0, .ref 87), (1, .int (nI i))] [] J
  | [], i, S, J, hi, hn, hS, ho, hm, h5, hrec, q => by
    have hi' : i = n := hi
    refine sg_X12_sunday_13 (fun _ => q J ⟨fun _ _ => rfl, fun _ _ => rfl⟩ hm) (fun z => ?_)
    rw [h5, nI_leI (by omega) (by omega)] at z; omega
  | x :: t, i, S, J, hi, hn, hS, ho, hm, h5, hrec, q => by
    rw [List.length_cons] at hi
    refine sg_X12_sunday_13 (fun z => ?_) (fun _ => ?_)
    · rw [h5, nI_leI (by omega) (by omega)] at z; omega
    · rw [show (12 : Int32) = nI 12 from rfl, pk_mul]
      have h0 := hrec 0 (by rw [List.length_cons]; omega)
      refine m_tell (d := d + 5) (w := x.1) (l := x.2) hS ho.1 hm (by omega) h0 (fun K e hK => sg_X12_sunday_29 ?_)
      rw [nI_1]
      refine m_tells t (i + 1) (tellP S x) K (by omega) hn (tellP_ok hS ho.1) ho.2 hK ((e.2 5 (by decide)).trans h5) (fun j hj => ?_) (fun K2 e2 => q K2 (e.tr e2))
      have h1 := hrec (j + 1) (by rw [List.length_cons]; omega)
      rw [show i + (j + 1) = i + 1 + j by omega] at h1
      have e91 : K 91 = J 91 := e.1 91 (by decide)
      unfold RecM at h1 ⊢
      rw [e91]; exact h1
theorem begin_loop (h30 : ∀ x, x < 30 → I 93 x = I 93 x) (q : ∀ g, (∀ x, x < 30 → g x = I 93 x) → g 30 = 0 → (∀ x, 31 ≤ x → g x = I 88 x) → Q none (setI I 88 g)) : ∀ (m j : Nat) (g : Nat → Int32), j + m = 30 → (∀ x, x < j → g x = I 93 x) → (∀ x, 31 ≤ x → g x = I 88 x) → HGo E (mF E (d + 1) Q) me_X12_begin 2 [(0, .ref 87), (1, .int (nI j))] [] (setI I 88 g)
  | m, j, g, hj, g1, g2 => by
    have le : (30 : Int32) ≤ nI j ↔ 30 ≤ j := nI_leI (a := 30) (by omega) (by omega)
    refine sg_X12_begin_2 (fun z => ?_) (fun z => ?_) (fun z => ?_) (fun z => ?_)
    all_goals rw [le] at z
    · rw [setI_setI, setI_same]
      refine q _ (fun x hx => ?_) (upd_at _ rfl _) (fun x hx => ?_)
      · rw [upd_off _ (by omega)]; exact g1 x (by omega)
      · rw [upd_off _ (by omega)]; exact g2 x hx
    · exact vp_in_nI (by omega) (by decide)
    · exact vp_in_nI (by omega) (by decide)
    · obtain ⟨m, rfl⟩ : ∃ k, m = k + 1 := ⟨m - 1, by omega⟩
      rw [setI_setI, setI_same, setI_ne I g (show 93 ≠ 88 by decide), nI_clamp (by omega), nI_1]
      refine begin_loop h30 q m (j + 1) _ (by omega) (fun x hx => ?_) (fun x hx => ?_)
      · by_cases e : x = j
        · subst e; exact upd_at _ rfl _
        · rw [upd_off _ e]; exact g1 x (by omega)
      · rw [upd_off _ (by omega)]; exact g2 x hx
theorem m_begin (q : ∀ g, (∀ x, x < 30 → g x = I 93 x) → g 30 = 0 → (∀ x, 31 ≤ x → g x = I 88 x) → Q none (setI I 88 g)) : HCall E me_X12_begin (d + 1) [.ref 87] I Q := by
  refine h_met (by decide) rfl (Nat.le_of_ble_eq_true rfl) (sg_X12_begin_0 ?_)
  have := begin_loop (E := E) (d := d) (fun _ _ => rfl) q 30 0 (I 88) rfl (fun x hx => absurd hx (Nat.not_lt_zero _)) (fun _ _ => rfl)
  rw [setI_id] at this
  exact this
end MTELL
