/-! a line: the reference -/
theorem wO_cases (f : Nat → Nat) (n P : Nat) : wO f n P = -1 ∨ ∃ w, w ≤ 9 ∧ wO f n P = nI w ∧ tokB f n P = wd w := by
  unfold wO
  by_cases h3 : tokB f n P = wd 3
  · exact Or.inr ⟨3, by decide, if_pos h3, h3⟩
  rw [if_neg h3]
  by_cases h4 : tokB f n P = wd 4
  · exact Or.inr ⟨4, by decide, if_pos h4, h4⟩
  rw [if_neg h4]
  by_cases h5 : tokB f n P = wd 5
  · exact Or.inr ⟨5, by decide, if_pos h5, h5⟩
  rw [if_neg h5]
  by_cases h6 : tokB f n P = wd 6
  · exact Or.inr ⟨6, by decide, if_pos h6, h6⟩
  rw [if_neg h6]
  by_cases h0 : tokB f n P = wd 0
  · exact Or.inr ⟨0, by decide, if_pos h0, h0⟩
  rw [if_neg h0]
  by_cases h1 : tokB f n P = wd 1
  · exact Or.inr ⟨1, by decide, if_pos h1, h1⟩
  rw [if_neg h1]
  by_cases h2 : tokB f n P = wd 2
  · exact Or.inr ⟨2, by decide, if_pos h2, h2⟩
  rw [if_neg h2]
  by_cases h7 : tokB f n P = wd 7
  · exact Or.inr ⟨7, by decide, if_pos h7, h7⟩
  rw [if_neg h7]
  by_cases h8 : tokB f n P = wd 8
  · exact Or.inr ⟨8, by decide, if_pos h8, h8⟩
  rw [if_neg h8]
  by_cases h9 : tokB f n P = wd 9
  · exact Or.inr ⟨9, by decide, if_pos h9, h9⟩
  rw [if_neg h9]
  exact Or.inl rfl
/-- kinds, and visits, behind a line -/
def kN (k w : Nat) (l : List Int32) : Nat := if w = 0 then l.length else k
def vN2 (vc w : Nat) (l : List Int32) : Nat := if w = 7 then vc + l.length else if w = 9 then 0 else vc
/-- a line that the reference has read -/
def RecM (J : HIh) (r w : Nat) (l : List Int32) : Prop := J 91 (12 * r) = nI w ∧ J 91 (12 * r + 1) = nI l.length ∧ ∀ j, j < l.length → J 91 (12 * r + 2 + j) = l.getD j 0
def FrL (I J : HIh) (r : Nat) : Prop := (∀ a, a ≠ 87 → a ≠ 91 → J a = I a) ∧ (∀ j, j ∉ [5, 14, 15, 16, 17, 18] → J 87 j = I 87 j) ∧ ∀ x, (x < 12 * r ∨ 12 * r + 12 ≤ x) → J 91 x = I 91 x
section LINE
variable {E : HEn} {d : Nat} {Q : Option Value → HIh → Prop} {I : HIh}
theorem m_readsLine {f : Nat → Nat} {n k vc P r : Nat} (hr : r ≤ 9) (h5 : I 87 5 = nI r) (h17 : I 87 17 = nI k) (h18 : I 87 18 = nI vc) (hvc : vc ≤ 24) (ht : TkM I f n P) (q0 : wO f n P = -1 → Q (some (.int 0)) I) (q1 : ∀ w, w ≤ 9 → tokB f n P = wd w → (restP f n k vc w (tN f n P)).1 = false → ∀ K, FrL I K r → TkM K f n (restP f n k vc w (tN f n P)).2.2 → Q (some (.int 0)) K) (q2 : ∀ w, w ≤ 9 → tokB f n P = wd w → (restP f n k vc w (tN f n P)).1 = true → ∀ K, FrL I K r → TkM K f n (restP f n k vc w (tN f n P)).2.2 → K 87 5 = nI (r + 1) → K 87 17 = nI (kN k w (restP f n k vc w (tN f n P)).2.1) → K 87 18 = nI (vN2 vc w (restP f n k vc w (tN f n P)).2.1) → RecM K r w (restP f n k vc w (tN f n P)).2.1 → Q (some (.int 1)) K) : HCall E me_X12_readsLine (d + 6) [.ref 87] I Q := by
  have b0 : 12 * I 87 5 = nI (12 * r) := by rw [h5, show (12 : Int32) = nI 12 from rfl, pk_mul]
  refine h_met (by decide) rfl (Nat.le_of_ble_eq_true rfl) (sg_X12_readsLine_0 ?_)
  refine m_wordOf ht ?_
  rcases wO_cases f n P with hw | ⟨w, hw9, hw, htok⟩
  · rw [hw]
    exact sg_X12_readsLine_4 (fun z => absurd rfl z) (fun z => absurd rfl z) (fun z => absurd rfl z) (fun _ => q0 hw)
  · rw [hw]
    have hne : ¬ nI w = -1 := nI_nm1 (by omega)
    have c1 : nI (12 * r) + 1 = nI (12 * r + 1) := nI_1 _
    refine sg_X12_readsLine_4 (fun _ => ?_) (fun _ => ?_) (fun _ => ?_) (fun z => absurd z hne)
    · rw [b0]; exact vp_in_nI (by omega) (by decide)
    · rw [b0, c1]; exact vp_in_nI (by omega) (by decide)
    · rw [b0, c1, nI_clamp (by omega), nI_clamp (by omega), setI_setI]
      obtain ⟨x, hPn, t4, t5, t6⟩ := ht
      have tx : TxM (setI I 91 (upd (upd (I 91) (12 * r) (nI w)) (12 * r + 1) 0)) f n := x
      refine m_token tx (tE_b hPn).2.1 t4 (fun J f1 f4 f5 f6 => sg_X12_readsLine_40 ?_)
      have g : ∀ j, j ∉ [14, 15, 16] → J 87 j = I 87 j := fun j hj => f1.2 j hj
      have J91 : J 91 = upd (upd (I 91) (12 * r) (nI w)) (12 * r + 1) 0 := f1.1 91 (by decide)
      have h0 : InM J J r [] := ⟨fun _ _ _ => rfl, fun _ _ => rfl, fun _ _ => rfl, by rw [J91, upd_at _ rfl]; rfl, fun j hj => absurd hj (Nat.not_lt_zero _)⟩
      refine m_readsRest (I := J) (k := k) (vc := vc) hr ((g 5 (by decide)).trans h5) ((g 17 (by decide)).trans h17) ((g 18 (by decide)).trans h18) hvc hw9 h0 ⟨tx.fr f1 (by decide), tN_le hPn, f4, f5, f6⟩ (fun K k1 k2 => ?_)
      generalize hR : restP f n k vc w (tN f n P) = R at *
      have q1' := q1 w hw9 htok
      have q2' := q2 w hw9 htok
      rw [hR] at q1' q2'
      obtain ⟨i1, i2, i3, i4, i5⟩ := k1
      have K12 : K 91 (12 * r) = nI w := by rw [i3 _ (by omega), J91, upd_off _ (by omega), upd_at _ rfl]
      have fl : FrL I K r := ⟨fun a n1 n2 => (i1 a n1 n2).trans ((f1.1 a n1).trans (setI_ne _ _ n2)), fun j hj => (i2 j (fun w => hj (by simp at w ⊢; omega))).trans (g j (fun w => hj (by simp at w ⊢; omega))), fun x hx => by rw [i3 x (by omega), J91, upd_off _ (by omega), upd_off _ (by omega)]⟩
      have e5 : K 87 5 = nI r := (i2 5 (by decide)).trans ((g 5 (by decide)).trans h5)
      have e17 : K 87 17 = nI k := (i2 17 (by decide)).trans ((g 17 (by decide)).trans h17)
      have e18 : K 87 18 = nI vc := (i2 18 (by decide)).trans ((g 18 (by decide)).trans h18)
      have v1 : vp_in (nI (12 * r) + 1) 120 := by rw [c1]; exact vp_in_nI (by omega) (by decide)
      have ec : K 91 (nI (12 * r) + 1).toNatClampNeg = nI R.2.1.length := by rw [c1, nI_clamp (by omega)]; exact i4
      cases hb : R.1 with
      | false =>
        refine sg_X12_readsLine_45 ?_ ?_ ?_ ?_ ?_ ?_ ?_ ?_ ?_ (fun _ => q1' hb K fl k2) <;> intro z <;> exact absurd rfl z
      | true =>
        have fin : ∀ a b : Int32, a = nI (kN k w R.2.1) → b = nI (vN2 vc w R.2.1) → Q (some (.int 1)) (setI (setI (setI K 87 (upd (K 87) 17 a)) 87 (upd (upd (K 87) 17 a) 18 b)) 87 (upd (upd (upd (K 87) 17 a) 18 b) 5 (K 87 5 + 1))) := fun a b ha hb' => by
          rw [setI_setI, setI_setI]
          obtain ⟨y, y2, y4, y5, y6⟩ := k2
          obtain ⟨fl1, fl2, fl3⟩ := fl
          have off : ∀ j, j ≠ 5 → j ≠ 17 → j ≠ 18 → (setI K 87 (upd (upd (upd (K 87) 17 a) 18 b) 5 (K 87 5 + 1))) 87 j = K 87 j := fun j n5 n17 n18 => by
            rw [setI_same, upd_off _ n5, upd_off _ n18, upd_off _ n17]
          refine q2' hb _ ⟨fun c n1 n2 => by rw [setI_ne _ _ n1]; exact fl1 c n1 n2, fun j hj => ?_, fl3⟩ ⟨⟨?_, y.2.1, y.2.2⟩, y2, ?_, ?_, ?_⟩ ?_ ?_ ?_ ⟨K12, i4, i5⟩
          · rw [off j (fun w => hj (by rw [w]; decide)) (fun w => hj (by rw [w]; decide)) (fun w => hj (by rw [w]; decide))]; exact fl2 j hj
          · rw [off 3 (by decide) (by decide) (by decide)]; exact y.1
          · rw [off 14 (by decide) (by decide) (by decide)]; exact y4
          · rw [off 15 (by decide) (by decide) (by decide)]; exact y5
          · rw [off 16 (by decide) (by decide) (by decide)]; exact y6
          · rw [setI_same, upd_at _ rfl, e5, nI_1]
          · rw [setI_same, upd_off _ (by decide), upd_off _ (by decide), upd_at _ rfl]; exact ha
          · rw [setI_same, upd_off _ (by decide), upd_at _ rfl]; exact hb'
        have w0 : nI w = 0 ↔ w = 0 := nI_eq (b := 0) (by omega) (by decide)
        have w7 : nI w = 7 ↔ w = 7 := nI_eq (b := 7) (by omega) (by decide)
        have w9 : nI w = 9 ↔ w = 9 := nI_eq (b := 9) (by omega) (by decide)
        refine sg_X12_readsLine_45 (fun _ a b c => ?_) (fun _ a b c => ?_) (fun _ _ _ => v1) (fun _ a b => ?_) (fun _ _ => v1) (fun _ a b c => ?_) (fun _ a b c => ?_) (fun _ _ _ => v1) (fun _ a b => ?_) (fun z => absurd z (by decide))
        all_goals rw [w0] at a
        all_goals rw [w7] at b
        · rw [w9] at c
          exact fin _ _ (by unfold kN; rw [if_neg a]; exact e17) (by unfold vN2; rw [if_neg b, if_neg c]; exact e18)
        · rw [w9] at c
          exact fin _ _ (by unfold kN; rw [if_neg a]; exact e17) (by unfold vN2; rw [if_neg b, if_pos c]; rfl)
        · exact fin _ _ (by unfold kN; rw [if_neg a]; exact e17) (by unfold vN2; rw [if_pos b, ec, e18, nI_add])
        · rw [w9] at c
          exact fin _ _ (by unfold kN; rw [if_pos a]; exact ec) (by unfold vN2; rw [if_neg b, if_neg c]; exact e18)
        · rw [w9] at c; omega
        · omega
end LINE
