/-! the whole text into the draft, when a line is held -/
def FrD (I J : HIh) : Prop := (∀ a, a ∉ [19, 21, 26, 27, 28, 29, 31] → J a = I a) ∧ ∀ j, j ∉ [4, 5, 6, 7] → J 19 j = I 19 j
def FrO (I J : HIh) : Prop := (∀ a, a ∉ [19, 21, 26, 27, 28, 29, 31] → J a = I a) ∧ ∀ j, j ∉ [3, 4, 5, 6, 7] → J 19 j = I 19 j
/-- what is wanted of a line, for what the draft then tells (DI) -/
def LineX (E : HEn) (f : Nat → Nat) (n : Nat) (DI : List (Nat × List Int32) → HIh → Prop) : Prop := ∀ (d : Nat) (Q : Option Value → HIh → Prop) (L : List (Nat × List Int32)) (J : HIh) (P k vc : Nat), DI L J → TkX J f n P → J 21 9 = nI k → J 21 10 = nI vc → vc ≤ 24 →
  (wO f n P = -1 → ∀ K, FrD J K → TkX K f n P → Q (some (.int 0)) K) →
  (∀ w, w ≤ 9 → tokB f n P = wd w → (restP f n k vc w (tN f n P)).1 = false → ∀ K, FrD J K → TkX K f n (restP f n k vc w (tN f n P)).2.2 → Q (some (.int 0)) K) →
  (∀ w, w ≤ 9 → tokB f n P = wd w → (restP f n k vc w (tN f n P)).1 = true → ∀ K, FrD J K → TkX K f n (restP f n k vc w (tN f n P)).2.2 → K 21 9 = nI (kN k w (restP f n k vc w (tN f n P)).2.1) → K 21 10 = nI (vN2 vc w (restP f n k vc w (tN f n P)).2.1) → DI (L ++ [(w, (restP f n k vc w (tN f n P)).2.1)]) K → Q (some (.int 1)) K) →
  HCall E me_X7_readLine (d + 5) [.ref 19] J Q
section OVER
variable {E : HEn} {d : Nat} {Q : Option Value → HIh → Prop} {I : HIh}
theorem over_loop {f : Nat → Nat} {n : Nat} {DI : List (Nat × List Int32) → HIh → Prop} (hl : LineX E f n DI) (hs : ∀ L J K, (∀ a, a ≠ 19 → K a = J a) → DI L J → DI L K) {RT : Option Nat × List (Nat × List Int32)} (q : ∀ K, FrO I K → (RT.1 = none → DI RT.2 K ∧ K 19 3 = nI RT.2.length) → Q (some (.int (oP RT.1))) K) : ∀ (m P k vc : Nat) (L : List (Nat × List Int32)) (J : HIh), L.length + (m + 1) = 10 → FrO I J → TkX J f n P → J 19 3 = nI (L.length + 1) → J 21 9 = nI k → J 21 10 = nI vc → vc ≤ 24 → DI L J → RT = ((fltP f n (m + 1) P k vc).1, L ++ (fltP f n (m + 1) P k vc).2) → HGo E (mF E (d + 6) Q) me_X7_readOver 22 [(0, .ref 19)] [] J
  | m, P, k, vc, L, J, hm, hf, ht, h3, h9, h10, hvc, hD, hRT => by
    have frO : ∀ {K}, FrD J K → FrO I K := fun {K} e => ⟨fun a ha => (e.1 a ha).trans (hf.1 a ha), fun j hj => (e.2 j (fun w => hj (by simp at w ⊢; omega))).trans (hf.2 j hj)⟩
    have bad : ∀ K P', FrD J K → TkX K f n P' → RT.1 = some P' → Q (some (.int (K 19 4))) K := fun K P' e t h => by
      have := q K (frO e) (fun z => by rw [h] at z; cases z)
      rw [h] at this
      rw [t.2.2.1]
      exact this
    refine sg_X7_readOver_22 (fun z => ?_) (fun _ => ?_)
    · rw [h3, i_lt, nI_toInt (by omega), show (10 : Int32).toInt = 10 from rfl] at z; omega
    · refine hl d _ L J P k vc hD ht h9 h10 hvc (fun hw K e t => ?_) (fun w hw ht' hb K e t => ?_) (fun w hw ht' hb K e t e9 e10 hD' => ?_)
      · refine sg_X7_readOver_35 (fun z => absurd rfl z) (fun z => absurd rfl z) (fun _ => bad K P e t ?_)
        rw [hRT]; unfold fltP; rw [if_pos hw]
      all_goals
        have hwo : wO f n P = nI w := wO_wd (by omega) ht'
        have hne : ¬ wO f n P = -1 := by rw [hwo]; exact nI_nm1 (by omega)
        have hcl : (wO f n P).toNatClampNeg = w := by rw [hwo, nI_clamp (by omega)]
        unfold fltP at hRT
        rw [if_neg hne, hcl] at hRT
        generalize hR : restP f n k vc w (tN f n P) = R at *
      · rw [if_pos hb] at hRT
        exact sg_X7_readOver_35 (fun z => absurd rfl z) (fun z => absurd rfl z) (fun _ => bad K _ e t (by rw [hRT]))
      · have nb : ¬ R.1 = false := by rw [hb]; decide
        rw [if_neg nb] at hRT
        have hvc' : vN2 vc w R.2.1 ≤ 24 := by rw [← hR]; exact restP_vc hvc
        have k3 := tK_le f n R.2.2
        have e6 : K 19 6 = 0 ↔ n ≤ R.2.2 := by
          rw [t.2.2.2.2]
          refine (nI_eq (b := 0) (by omega) (by decide)).trans ?_
          unfold tK
          by_cases u : R.2.2 < n
          · rw [if_pos u]
            have := srt_le (f R.2.2)
            constructor
            · intro z; split at z <;> omega
            · intro z; omega
          · rw [if_neg u]; exact ⟨fun _ => by omega, fun _ => rfl⟩
        have e3 : K 19 3 = nI (L.length + 1) := (e.2 3 (by decide)).trans h3
        refine sg_X7_readOver_35 (fun _ z => ?_) (fun _ z => ?_) (fun z => absurd z (by decide))
        · rw [e6] at z
          rw [if_neg z] at hRT
          have nosemi : ¬ (f R.2.2 = 59 ∧ 0 < m) → Q (some (.int (K 19 4))) K := fun u => by
            rw [if_neg u] at hRT
            exact bad K _ e t (by rw [hRT])
          refine c_isSemicolon t (fun _ u => ?_) (fun u => sg_X7_readOver_56 (fun _ => nosemi (fun v => u ⟨by omega, v.1⟩)) (fun z => absurd rfl z) (fun z => absurd rfl z))
          have e310 : K 19 3 = 10 ↔ m = 0 := by
            rw [e3]; exact (nI_eq (b := 10) (by omega) (by decide)).trans (by omega)
          refine sg_X7_readOver_56 (fun z => absurd z (by decide)) (fun _ v => ?_) (fun _ v => ?_)
          · rw [e310] at v
            rw [if_pos ⟨u, by omega⟩] at hRT
            obtain ⟨m, rfl⟩ : ∃ j, m = j + 1 := ⟨m - 1, by omega⟩
            refine c_nextToken t.1 (tE_b t.2.1).2.1 t.2.2.2.1 (fun J2 g1 g4 g5 g6 => sg_X7_readOver_77 ?_)
            have g3 : J2 19 3 + 1 = nI (L.length + 1 + 1) := by rw [g1.2 3 (by decide), e3, nI_1]
            rw [g3]
            have oth : ∀ a, a ≠ 19 → (setI J2 19 (upd (J2 19) 3 (nI (L.length + 1 + 1)))) a = K a := fun a ha => (setI_ne _ _ ha).trans (g1.1 a ha)
            have sl : ∀ j, j ≠ 3 → (setI J2 19 (upd (J2 19) 3 (nI (L.length + 1 + 1)))) 19 j = J2 19 j := fun j hj => by rw [setI_same, upd_off _ hj]
            have ff := frO e
            obtain ⟨⟨y1, y2, y3⟩, y4, -, -, -⟩ := t
            refine over_loop hl hs q m (tN f n R.2.2) (kN k w R.2.1) (vN2 vc w R.2.1) (L ++ [(w, R.2.1)]) _ (by rw [List.length_append, List.length_singleton]; omega) ⟨fun a ha => ?_, fun j hj => ?_⟩ ⟨⟨?_, y2, fun j hj => ?_⟩, tN_le y4, ?_, ?_, ?_⟩ ?_ ?_ ?_ hvc' (hs _ _ _ oth hD') (by rw [hRT, List.append_assoc]; rfl)
            · rw [oth a (fun w => ha (by rw [w]; decide))]; exact ff.1 a ha
            · rw [sl j (fun w => hj (by rw [w]; decide)), g1.2 j (fun w => hj (by simp at w ⊢; omega))]; exact ff.2 j hj
            · rw [sl 2 (by decide), g1.2 2 (by decide)]; exact y1
            · rw [oth 20 (by decide)]; exact y3 j hj
            · rw [sl 4 (by decide)]; exact g4
            · rw [sl 5 (by decide)]; exact g5
            · rw [sl 6 (by decide)]; exact g6
            · rw [setI_same, upd_at _ rfl, List.length_append]; rfl
            · rw [oth 21 (by decide)]; exact e9
            · rw [oth 21 (by decide)]; exact e10
          · rw [e310] at v
            exact nosemi (fun t => by omega)
        · rw [e6] at z
          rw [if_pos z] at hRT
          have h1 : RT.1 = none := by rw [hRT]
          have h2 : RT.2 = L ++ [(w, R.2.1)] := by rw [hRT]
          have := q K (frO e) (fun _ => by rw [h2]; exact ⟨hD', by rw [e3, List.length_append]; rfl⟩)
          rw [h1] at this
          exact this
end OVER
