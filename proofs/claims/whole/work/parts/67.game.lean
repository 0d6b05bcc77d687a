/-! the game: the reference goes by tries -/
def FrG (L : Nat) (I J : HIh) : Prop := (∀ a, a ∉ [88, 97, 98, 99, 100] → J a = I a) ∧ (∀ x, x < 31 * (4 + L) → J 88 x = I 88 x) ∧ (∀ x, x < L → J 98 x = I 98 x) ∧ (∀ x, x < 4 * L → J 99 x = I 99 x) ∧ ∀ x, x < 7 * L → J 100 x = I 100 x
theorem FrG.rf (L : Nat) (I : HIh) : FrG L I I := ⟨fun _ _ => rfl, fun _ _ => rfl, fun _ _ => rfl, fun _ _ => rfl, fun _ _ => rfl⟩
theorem FrG.tr {L : Nat} {I J K : HIh} (h : FrG L I J) (e : FrG L J K) : FrG L I K :=
  ⟨fun a ha => (e.1 a ha).trans (h.1 a ha), fun x hx => (e.2.1 x hx).trans (h.2.1 x hx), fun x hx => (e.2.2.1 x hx).trans (h.2.2.1 x hx), fun x hx => (e.2.2.2.1 x hx).trans (h.2.2.2.1 x hx), fun x hx => (e.2.2.2.2 x hx).trans (h.2.2.2.2 x hx)⟩
theorem FrG.up {L : Nat} {I J : HIh} (h : FrG (L + 1) I J) : FrG L I J :=
  ⟨h.1, fun x hx => h.2.1 x (by omega), fun x hx => h.2.2.1 x (by omega), fun x hx => h.2.2.2.1 x (by omega), fun x hx => h.2.2.2.2 x (by omega)⟩
theorem FrG.mc {L : Nat} {I J : HIh} {c : HCf} (h : FrG L I J) (hm : MC I c) : MC J c := hm.of ⟨by rw [h.1 87 (by decide)], by rw [h.1 87 (by decide)], by rw [h.1 87 (by decide)], h.1 92 (by decide), h.1 94 (by decide), h.1 95 (by decide), h.1 96 (by decide)⟩
theorem FrG.g30 {L : Nat} {I J : HIh} (h : FrG L I J) : J 88 30 = I 88 30 := h.2.1 30 (by omega)
theorem FrG.row {L : Nat} {I J : HIh} {s : HCn} (h : FrG L I J) (hr : RowC (I 88) (31 * (3 + L)) s) : RowC (J 88) (31 * (3 + L)) s := hr.same (fun j hj => h.2.1 _ (by omega))
def GOut (J : HIh) (L : Nat) (R : (Nat → Nat) × List (Option Nat)) : Prop := (∀ p, p < 4 → J 99 (4 * L + p) = nI (R.1 p)) ∧ ∀ i, i < R.2.length → J 100 (7 * L + i) = nI (dg (R.2.getD i none))
theorem gl_game : ∀ p, p < 4 → glOf 33825 p = 2 ^ p ∧ (33825 : Int32) ∈ goalsL := by decide +kernel
section GAME
variable {E : HEn} {d : Nat} {Q : Option Value → HIh → Prop} {I : HIh}
theorem tu_86 {L : Nat} {g0 : Nat → Int32} (hL : L ≤ 6) (q : ∀ g, (∀ k, k < 6 → g (7 * L + 1 + k) = g0 (7 * (L + 1) + k)) → (∀ x, (x < 7 * L + 1 ∨ 7 * L + 7 ≤ x) → g x = g0 x) → Q none (setI I 100 g)) : ∀ (m j : Nat) (g : Nat → Int32), j + m = 6 → (∀ k, k < j → g (7 * L + 1 + k) = g0 (7 * (L + 1) + k)) → (∀ x, (x < 7 * L + 1 ∨ 7 * L + 1 + j ≤ x) → g x = g0 x) → HGo E (mF E (d + 1) Q) me_X12_takeUp 86 [(0, .ref 87), (1, .int (nI L)), (3, .int (nI j))] [] (setI I 100 g)
  | m, j, g, hj, h1, h2 => by
    have le : (6 : Int32) ≤ nI j ↔ 6 ≤ j := nI_leI (a := 6) (by omega) (by omega)
    have c1 : 7 * nI L + 7 + nI j = nI (7 * L + 7 + j) := by rw [show (7 : Int32) = nI 7 from rfl, pk_mul, nI_add, nI_add]
    have c2 : 7 * nI L + 1 + nI j = nI (7 * L + 1 + j) := by rw [show (7 : Int32) = nI 7 from rfl, pk_mul, show (1 : Int32) = nI 1 from rfl, nI_add, nI_add]
    refine sg_X12_takeUp_86 (fun z => ?_) (fun z => ?_) (fun z => ?_) (fun z => ?_)
    all_goals rw [le] at z
    · exact q g (fun k hk => h1 k (by omega)) (fun x hx => h2 x (by omega))
    · rw [c1]; exact vp_in_nI (by omega) (by decide)
    · rw [c2]; exact vp_in_nI (by omega) (by decide)
    · obtain ⟨m, rfl⟩ : ∃ k, m = k + 1 := ⟨m - 1, by omega⟩
      rw [setI_setI, setI_same, c1, c2, nI_clamp (by omega), nI_clamp (by omega), nI_1, h2 (7 * L + 7 + j) (by omega)]
      refine tu_86 hL q m (j + 1) _ (by omega) (fun k hk => ?_) (fun x hx => ?_)
      · by_cases e : k = j
        · subst e; rw [upd_at _ rfl]; rfl
        · rw [upd_off _ (by omega)]; exact h1 k (by omega)
      · rw [upd_off _ (by omega)]; exact h2 x (by omega)
theorem tu_36 {L : Nat} {e0 : Nat → Int32} (hL : L ≤ 6) (q : ∀ e, (∀ p, p < 4 → e (4 * L + p) = e0 (4 * (L + 1) + p)) → (∀ x, (x < 4 * L ∨ 4 * L + 4 ≤ x) → e x = e0 x) → HGo E (mF E (d + 1) Q) me_X12_takeUp 86 [(0, .ref 87), (1, .int (nI L)), (3, .int 0)] [] (setI (setI I 99 e) 100 (upd (I 100) (7 * L) (I 98 L)))) : ∀ (m j : Nat) (e : Nat → Int32), j + m = 4 → (∀ p, p < j → e (4 * L + p) = e0 (4 * (L + 1) + p)) → (∀ x, (x < 4 * L ∨ 4 * L + j ≤ x) → e x = e0 x) → HGo E (mF E (d + 1) Q) me_X12_takeUp 36 [(0, .ref 87), (1, .int (nI L)), (3, .int (nI j))] [] (setI I 99 e)
  | m, j, e, hj, h1, h2 => by
    have le : (4 : Int32) ≤ nI j ↔ 4 ≤ j := nI_leI (a := 4) (by omega) (by omega)
    have c1 : 4 * nI L + 4 + nI j = nI (4 * L + 4 + j) := by rw [show (4 : Int32) = nI 4 from rfl, pk_mul, nI_add, nI_add]
    have c2 : 4 * nI L + nI j = nI (4 * L + j) := by rw [show (4 : Int32) = nI 4 from rfl, pk_mul, nI_add]
    have c3 : 7 * nI L = nI (7 * L) := by rw [show (7 : Int32) = nI 7 from rfl, pk_mul]
    refine sg_X12_takeUp_36 (fun z => vp_in_nI (by omega) (by decide)) (fun z => ?_) (fun z => ?_) (fun z => ?_) (fun z => ?_) (fun z => ?_)
    all_goals rw [le] at z
    · rw [c3]; exact vp_in_nI (by omega) (by decide)
    · rw [c3, nI_clamp (by omega), nI_clamp (by omega), setI_ne I e (show 100 ≠ 99 by decide), setI_ne I e (show 98 ≠ 99 by decide)]
      exact q e (fun p hp => h1 p (by omega)) (fun x hx => h2 x (by omega))
    · rw [c1]; exact vp_in_nI (by omega) (by decide)
    · rw [c2]; exact vp_in_nI (by omega) (by decide)
    · obtain ⟨m, rfl⟩ : ∃ k, m = k + 1 := ⟨m - 1, by omega⟩
      rw [setI_setI, setI_same, c1, c2, nI_clamp (by omega), nI_clamp (by omega), nI_1, h2 (4 * L + 4 + j) (by omega)]
      refine tu_36 hL q m (j + 1) _ (by omega) (fun p hp => ?_) (fun x hx => ?_)
      · by_cases e : p = j
        · subst e; rw [upd_at _ rfl]; rfl
        · rw [upd_off _ (by omega)]; exact h1 p (by omega)
      · rw [upd_off _ (by omega)]; exact h2 x (by omega)
theorem m_takeUp {L w j : Nat} {a b : Int32} (hL : L ≤ 6) (hw : w < 4) (hj : j < 2 ^ 31) (h98 : I 98 L = nI j) (ha : I 99 (4 * (L + 1) + w) = a) (hb : I 99 (4 * L + w) = b) (q0 : j ≠ 0 → a ≤ b → Q none I) (q1 : j = 0 ∨ ¬ a ≤ b → ∀ K, (∀ x, x ≠ 99 → x ≠ 100 → K x = I x) → (∀ x, x < 4 * L → K 99 x = I 99 x) → (∀ p, p < 4 → K 99 (4 * L + p) = I 99 (4 * (L + 1) + p)) → (∀ x, x < 7 * L → K 100 x = I 100 x) → K 100 (7 * L) = nI j → (∀ k, k < 6 → K 100 (7 * L + 1 + k) = I 100 (7 * (L + 1) + k)) → Q none K) : HCall E me_X12_takeUp (d + 1) [.ref 87, .int (nI L), .int (nI w)] I Q := by
  have c1 : 4 * nI L + 4 + nI w = nI (4 * L + 4 + w) := by rw [show (4 : Int32) = nI 4 from rfl, pk_mul, nI_add, nI_add]
  have c2 : 4 * nI L + nI w = nI (4 * L + w) := by rw [show (4 : Int32) = nI 4 from rfl, pk_mul, nI_add]
  have e98 : I 98 (nI L).toNatClampNeg = nI j := by rw [nI_clamp (by omega)]; exact h98
  have e0 : I 98 (nI L).toNatClampNeg = 0 ↔ j = 0 := by rw [e98]; exact nI_eq (b := 0) hj (by decide)
  have go : (j = 0 ∨ ¬ a ≤ b) → HGo E (mF E (d + 1) Q) me_X12_takeUp 36 [(0, .ref 87), (1, .int (nI L)), (3, .int 0)] [] I := fun hh => by
    have := tu_36 (E := E) (d := d) (Q := Q) (I := I) (e0 := I 99) hL (fun e h1 h2 => ?_) 4 0 (I 99) rfl (fun p hp => absurd hp (Nat.not_lt_zero _)) (fun _ _ => rfl)
    · rw [setI_id] at this; exact this
    · have t2 := tu_86 (E := E) (d := d) (Q := Q) (I := setI I 99 e) (g0 := upd (I 100) (7 * L) (I 98 L)) hL (fun g g1 g2 => ?_) 6 0 (upd (I 100) (7 * L) (I 98 L)) rfl (fun p hp => absurd hp (Nat.not_lt_zero _)) (fun _ _ => rfl)
      · exact t2
      · refine q1 hh _ (fun x n1 n2 => by rw [setI_ne _ _ n2, setI_ne _ _ n1]) (fun x hx => ?_) (fun p hp => ?_) (fun x hx => ?_) ?_ (fun k hk => ?_)
        · rw [setI_ne _ _ (by decide), setI_same]; exact h2 x (by omega)
        · rw [setI_ne _ _ (by decide), setI_same]; exact h1 p hp
        · rw [setI_same, g2 x (by omega), upd_off _ (by omega)]
        · rw [setI_same, g2 _ (by omega), upd_at _ rfl]; exact h98
        · rw [setI_same, g1 k hk, upd_off _ (by omega)]
  refine h_met (by decide) rfl (Nat.le_of_ble_eq_true rfl) (sg_X12_takeUp_0 (vp_in_nI (by omega) (by decide)) (fun z => go (Or.inl (e0.mp z))) (fun _ => ?_) (fun _ => ?_) (fun z y => ?_) (fun z y => ?_))
  · rw [c1]; exact vp_in_nI (by omega) (by decide)
  · rw [c2]; exact vp_in_nI (by omega) (by decide)
  all_goals
    rw [c1, c2, nI_clamp (by omega), nI_clamp (by omega), hb, show 4 * L + 4 + w = 4 * (L + 1) + w by omega, ha] at y
  · exact q0 (fun w => z (e0.mpr w)) y
  · exact go (Or.inr y)
theorem m_opens {c : HCf} {s : HCn} {L w j : Nat} (hL : L ≤ 6) (hw : w < 4) (hj : j ≤ cK c) (hm : MC I c) (hr : RowC (I 88) (31 * (3 + L)) s) (hok : CnOk s) (h98 : I 98 L = nI j) (q0 : ∀ k, j = k + 1 → s w k = 0 → Q (some (.int 0)) I) (q1 : ∀ o, j = dg o → (∀ k, o = some k → k < cK c ∧ 0 < s w k) → ∀ K, (∀ a, a ∉ [88, 97, 98] → K a = I a) → (∀ x, x < 31 * (4 + L) → K 88 x = I 88 x) → (∀ x, x ≠ L + 1 → K 98 x = I 98 x) → K 98 (L + 1) = 0 → RowC (K 88) (31 * (3 + (L + 1))) (vst c s w o) → Q (some (.int 1)) K) : HCall E me_X12_opens (d + 3) [.ref 87, .int (nI L), .int (nI w)] I Q := by
  have hcf := hm.2.2.2.2.2.2.2
  have hK : cK c ≤ 6 := hcf.2.1
  have e98 : I 98 (nI L).toNatClampNeg = nI j := by rw [nI_clamp (by omega)]; exact h98
  have b1 : (3 : Int32) + nI L = nI (3 + L) := by rw [show (3 : Int32) = nI 3 from rfl, nI_add]
  have b2 : (31 : Int32) * (3 + nI L) = nI (31 * (3 + L)) := by rw [b1, show (31 : Int32) = nI 31 from rfl, pk_mul]
  have G := @sg_X12_opens_0 E d Q I (nI L) (nI w)
  rw [e98, b2, b1, nI_1] at G
  refine h_met (by decide) rfl (Nat.le_of_ble_eq_true rfl) ?_
  -- the row behind, laid
  have cp2 : ∀ (o : Option Nat), j = dg o → (∀ k, o = some k → k < cK c ∧ 0 < s w k) → ∀ x4 : Int32, x4 = oI o → HCall E me_X12_copy (d + 2) [.ref 87, .int (nI (3 + L)), .int (nI (3 + L + 1))] I (fun v9 J => HGo E (mF E (d + 3) Q) me_X12_opens 48 [(0, .ref 87), (1, .int (nI L)), (2, .int (nI w)), (3, .int (nI (31 * (3 + L)))), (4, .int x4)] (v9.toList ++ []) J) := fun o ho hv x4 hx4 => by
    subst hx4
    refine m_copy (d := d + 1) (a := 3 + L) (b := 3 + L + 1) (by omega) (by omega) (by omega) (fun g g1 g2 => ?_)
    have row : RowC g (31 * (3 + L + 1)) s := hr.cpy g1
    have v8 : vp_in (nI L + 1) 8 := by rw [nI_1]; exact vp_in_nI (by omega) (by decide)
    have c8 : (nI L + 1).toNatClampNeg = L + 1 := by rw [nI_1, nI_clamp (by omega)]
    cases o with
    | none =>
      refine sg_X12_opens_48 (fun _ => v8) (fun _ => ?_) (fun z => absurd rfl z)
      rw [c8]
      refine q1 none ho hv _ (fun a ha => ?_) (fun x hx => ?_) (fun x hx => ?_) ?_ ?_
      · rw [setI_ne _ _ (fun w => ha (by rw [w]; decide)), setI_ne _ _ (fun w => ha (by rw [w]; decide))]
      · rw [setI_ne _ _ (by decide), setI_same]; exact g2 x (by omega)
      · rw [setI_same, upd_off _ hx, setI_ne _ _ (by decide)]
      · rw [setI_same, upd_at _ rfl]
      · rw [setI_ne _ _ (by decide), setI_same]; exact row
    | some k =>
      have hk := hv k rfl
      refine sg_X12_opens_48 (fun z => absurd z (nI_nm1 (by omega))) (fun z => absurd z (nI_nm1 (by omega))) (fun _ => ?_)
      rw [show (31 : Int32) = nI 31 from rfl, nI_add]
      have e : 31 * (3 + L) + 31 = 31 * (3 + L + 1) := by omega
      rw [e]
      refine m_throwsOne (d := d) (b := 31 * (3 + L + 1)) (hm.set (q := 88) g (by decide)) (by rw [setI_same]; exact row) (by omega) hok.l2 hw hk.1 hk.2 (fun ft g' hg' ho' => sg_X12_opens_65 v8 ?_)
      rw [c8]
      refine q1 (some k) ho hv _ (fun a ha => ?_) (fun x hx => ?_) (fun x hx => ?_) ?_ ?_
      · rw [setI_ne _ _ (fun w => ha (by rw [w]; decide)), setI_ne _ _ (fun w => ha (by rw [w]; decide)), setI_ne _ _ (fun w => ha (by rw [w]; decide)), setI_ne _ _ (fun w => ha (by rw [w]; decide))]
      · rw [setI_ne _ _ (by decide), setI_same, ho' x (by omega), setI_same]; exact g2 x (by omega)
      · rw [setI_same, upd_off _ hx, setI_ne _ _ (by decide), setI_ne _ _ (by decide), setI_ne _ _ (by decide)]
      · rw [setI_same, upd_at _ rfl]
      · rw [setI_ne _ _ (by decide), setI_same]; exact hg'
  refine G (vp_in_nI (by omega) (by decide)) (fun z => ?_) (fun z => ?_)
  · have hj0 : j = 0 := by
      rcases Nat.eq_zero_or_pos j with h | h
      · exact h
      · exfalso
        obtain ⟨k, rfl⟩ : ∃ k, j = k + 1 := ⟨j - 1, by omega⟩
        rw [nI_pred] at z
        exact nI_nm1 (by omega) z
    exact cp2 none hj0 (fun k e => by cases e) _ z
  · have hj0 : j ≠ 0 := fun h => z (by rw [h]; decide)
    obtain ⟨k, rfl⟩ : ∃ k, j = k + 1 := ⟨j - 1, by omega⟩
    rw [nI_pred]
    refine m_isHad (d := d + 1) (b := 31 * (3 + L)) hr (by omega) hok.l2 hw (by omega) (fun h => ?_) (fun h => ?_)
    · refine sg_X12_opens_31 (fun _ => ?_) (fun u => absurd u (by decide))
      rw [b1, nI_1]
      exact cp2 (some k) rfl (fun k' e => by cases e; exact ⟨by omega, h⟩) _ rfl
    · exact sg_X12_opens_31 (fun u => absurd rfl u) (fun _ => q0 k rfl h)
end GAME
