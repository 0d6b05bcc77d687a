/-! the whole text: the reference -/
theorem numsP_len {f : Nat → Nat} {n : Nat} {stp : Int32 → Int32} {hi : Int32} {blk : Nat → Bool} : ∀ (m i P : Nat) (ab : Int32), (numsP f n stp hi blk m i P ab).2.1.length ≤ m
  | 0, _, _, _ => Nat.le_refl _
  | m + 1, i, P, ab => by
    unfold numsP
    split
    · exact Nat.zero_le _
    · split
      · exact Nat.zero_le _
      · split
        · exact Nat.zero_le _
        · exact Nat.succ_le_succ (numsP_len m (i + 1) _ _)
theorem numsP_vc {f : Nat → Nat} {n vc : Nat} : ∀ (m i P : Nat) (ab : Int32), vc + i ≤ 24 → vc + i + (numsP f n (fun _ => 0) 3 (fun i => decide (24 ≤ vc + i)) m i P ab).2.1.length ≤ 24
  | 0, _, _, _, h => h
  | m + 1, i, P, ab, h => by
    unfold numsP
    split
    · exact h
    · split
      · exact h
      · rename_i hb
        have hb' : ¬ 24 ≤ vc + i := fun z => hb (decide_eq_true z)
        split
        · exact h
        · have := numsP_vc (f := f) (n := n) (vc := vc) m (i + 1) (tN f n P) ‹Int32› (by omega)
          show vc + i + ((numsP f n _ 3 _ m (i + 1) (tN f n P) _).2.1.length + 1) ≤ 24
          omega
theorem fixP_len {f : Nat → Nat} {n : Nat} : ∀ (t : List (Int32 × Int32)) (P : Nat), (fixP f n t P).2.1.length ≤ t.length
  | [], _ => Nat.le_refl _
  | (a, b) :: t, P => by
    unfold fixP
    split
    · exact Nat.zero_le _
    · exact Nat.succ_le_succ (fixP_len t _)
theorem restP_len {f : Nat → Nat} {n k vc w P : Nat} : (restP f n k vc w P).2.1.length ≤ 9 := by
  unfold restP
  split
  · exact Nat.le_trans (numsP_len _ _ _ _) (by decide)
  split
  · exact Nat.le_trans (fixP_len _ _) (Nat.le_of_ble_eq_true rfl)
  split
  · exact Nat.le_trans (fixP_len _ _) (Nat.le_of_ble_eq_true rfl)
  split
  · exact Nat.le_trans (fixP_len _ _) (Nat.le_of_ble_eq_true rfl)
  split
  · exact numsP_len _ _ _ _
  split
  · exact Nat.zero_le _
  · exact Nat.le_trans (fixP_len _ _) (Nat.le_of_ble_eq_true rfl)
theorem restP_vc {f : Nat → Nat} {n k vc w P : Nat} (h : vc ≤ 24) : vN2 vc w (restP f n k vc w P).2.1 ≤ 24 := by
  unfold vN2
  by_cases e : w = 7
  · subst e
    rw [if_pos rfl]
    exact numsP_vc (f := f) (n := n) (vc := vc) 9 0 P 0 h
  · rw [if_neg e]; split <;> omega
/-- where the text breaks off (none: nowhere), and the lines read -/
def fltP (f : Nat → Nat) (n : Nat) : Nat → Nat → Nat → Nat → Option Nat × List (Nat × List Int32)
  | 0, P, _, _ => (some P, [])
  | m + 1, P, k, vc =>
    if wO f n P = -1 then (some P, [])
    else if (restP f n k vc (wO f n P).toNatClampNeg (tN f n P)).1 = false then (some (restP f n k vc (wO f n P).toNatClampNeg (tN f n P)).2.2, [])
    else if n ≤ (restP f n k vc (wO f n P).toNatClampNeg (tN f n P)).2.2 then (none, [((wO f n P).toNatClampNeg, (restP f n k vc (wO f n P).toNatClampNeg (tN f n P)).2.1)])
    else if f (restP f n k vc (wO f n P).toNatClampNeg (tN f n P)).2.2 = 59 ∧ 0 < m then
      ((fltP f n m (tN f n (restP f n k vc (wO f n P).toNatClampNeg (tN f n P)).2.2) (kN k (wO f n P).toNatClampNeg (restP f n k vc (wO f n P).toNatClampNeg (tN f n P)).2.1) (vN2 vc (wO f n P).toNatClampNeg (restP f n k vc (wO f n P).toNatClampNeg (tN f n P)).2.1)).1,
       ((wO f n P).toNatClampNeg, (restP f n k vc (wO f n P).toNatClampNeg (tN f n P)).2.1) :: (fltP f n m (tN f n (restP f n k vc (wO f n P).toNatClampNeg (tN f n P)).2.2) (kN k (wO f n P).toNatClampNeg (restP f n k vc (wO f n P).toNatClampNeg (tN f n P)).2.1) (vN2 vc (wO f n P).toNatClampNeg (restP f n k vc (wO f n P).toNatClampNeg (tN f n P)).2.1)).2)
    else (some (restP f n k vc (wO f n P).toNatClampNeg (tN f n P)).2.2, [((wO f n P).toNatClampNeg, (restP f n k vc (wO f n P).toNatClampNeg (tN f n P)).2.1)])
def oP (r : Option Nat) : Int32 := match r with
  | none => -1
  | some p => nI p
def FrF (I J : HIh) : Prop := (∀ a, a ≠ 87 → a ≠ 91 → J a = I a) ∧ ∀ j, j ∉ [5, 14, 15, 16, 17, 18] → J 87 j = I 87 j
def RecsM (J : HIh) (L : List (Nat × List Int32)) : Prop := ∀ i (h : i < L.length), RecM J i (L[i]).1 (L[i]).2 ∧ (L[i]).2.length ≤ 9
theorem RecM.fr {I J : HIh} {r i w : Nat} {l : List Int32} (h : RecM I i w l) (hl : l.length ≤ 9) (e : FrL I J r) (hi : i < r) : RecM J i w l := by
  obtain ⟨h1, h2, h3⟩ := h
  exact ⟨by rw [e.2.2 _ (by omega)]; exact h1, by rw [e.2.2 _ (by omega)]; exact h2, fun j hj => by rw [e.2.2 _ (by omega)]; exact h3 j hj⟩
theorem RecsM.app {I J : HIh} {L : List (Nat × List Int32)} {w : Nat} {l : List Int32} (h : RecsM I L) (e : FrL I J L.length) (hr : RecM J L.length w l) (hl : l.length ≤ 9) : RecsM J (L ++ [(w, l)]) := by
  intro i hi
  rw [List.length_append, List.length_singleton] at hi
  by_cases q : i = L.length
  · subst q
    rw [List.getElem_append_right (Nat.le_refl _)]
    simp only [Nat.sub_self, List.getElem_singleton]
    exact ⟨hr, hl⟩
  · have hi' : i < L.length := by omega
    rw [List.getElem_append_left hi']
    exact ⟨(h i hi').1.fr (h i hi').2 e hi', (h i hi').2⟩
section FAULT
variable {E : HEn} {d : Nat} {Q : Option Value → HIh → Prop} {I : HIh}
theorem flt_loop {f : Nat → Nat} {n : Nat} {RT : Option Nat × List (Nat × List Int32)} (q : ∀ K, FrF I K → (RT.1 = none → K 87 5 = nI RT.2.length ∧ RecsM K RT.2) → Q (some (.int (oP RT.1))) K) : ∀ (m P k vc : Nat) (L : List (Nat × List Int32)) (J : HIh) (C : Option Value → HIh → Prop), L.length + (m + 1) = 10 → FrF I J → TkM J f n P → J 87 5 = nI L.length → J 87 17 = nI k → J 87 18 = nI vc → vc ≤ 24 → RecsM J L → RT = ((fltP f n (m + 1) P k vc).1, L ++ (fltP f n (m + 1) P k vc).2) → (∀ K, HGo E (mF E (d + 7) Q) me_X12_fault 42 [(0, .ref 87)] [] K → C (some (.int 1)) K) → (∀ K, Q (some (.int (K 87 15))) K → C (some (.int 0)) K) → HCall E me_X12_readsLine (d + 6) [.ref 87] J C
  | m, P, k, vc, L, J, C, hm, hf, ht, h5, h17, h18, hvc, hL, hRT, c1, c0 => by
    have frF : ∀ {K r}, FrL J K r → FrF I K := fun {K r} e => ⟨fun a n1 n2 => (e.1 a n1 n2).trans (hf.1 a n1 n2), fun j hj => (e.2.1 j hj).trans (hf.2 j hj)⟩
    refine m_readsLine (r := L.length) (k := k) (vc := vc) (by omega) h5 h17 h18 hvc ht (fun hw => c0 _ ?_) (fun w hw ht' hb K e tk => c0 _ ?_) (fun w hw ht' hb K e tk e5 e17 e18 hrec => c1 _ ?_)
    · have : RT.1 = some P := by rw [hRT]; unfold fltP; rw [if_pos hw]
      have := q J hf (fun z => by rw [this] at z; cases z)
      rw [ht.2.2.2.1]
      rw [‹RT.1 = some P›] at this
      exact this
    all_goals
      have hwo : wO f n P = nI w := by
        rcases wO_cases f n P with u | ⟨w', u1, u2, u3⟩
        · exfalso
          unfold wO at u
          have : ∀ i, i ≤ 9 → tokB f n P = wd i → w = i := fun i hi z => by
            have hh : wd w = wd i := ht'.symm.trans z
            have inj : ∀ a, a < 10 → ∀ b, b < 10 → wd a = wd b → a = b := by decide +kernel
            exact inj w (by omega) i (by omega) hh
          split at u <;> (try (exact absurd u (by decide)))
          split at u <;> (try (exact absurd u (by decide)))
          split at u <;> (try (exact absurd u (by decide)))
          split at u <;> (try (exact absurd u (by decide)))
          split at u <;> (try (exact absurd u (by decide)))
          split at u <;> (try (exact absurd u (by decide)))
          split at u <;> (try (exact absurd u (by decide)))
          split at u <;> (try (exact absurd u (by decide)))
          split at u <;> (try (exact absurd u (by decide)))
          split at u <;> (try (exact absurd u (by decide)))
          rcases (show w = 0 ∨ w = 1 ∨ w = 2 ∨ w = 3 ∨ w = 4 ∨ w = 5 ∨ w = 6 ∨ w = 7 ∨ w = 8 ∨ w = 9 by omega) with rfl | rfl | rfl | rfl | rfl | rfl | rfl | rfl | rfl | rfl <;> contradiction
        · have inj : ∀ a, a < 10 → ∀ b, b < 10 → wd a = wd b → a = b := by decide +kernel
          rw [u2, inj w' (by omega) w (by omega) (u3.symm.trans ht')]
      have hne : ¬ wO f n P = -1 := by rw [hwo]; exact nI_nm1 (by omega)
      have hcl : (wO f n P).toNatClampNeg = w := by rw [hwo, nI_clamp (by omega)]
      unfold fltP at hRT
      rw [if_neg hne, hcl] at hRT
      generalize hR : restP f n k vc w (tN f n P) = R at *
    · rw [if_pos hb] at hRT
      have h1 : RT.1 = some R.2.2 := by rw [hRT]
      have := q K (frF e) (fun z => by rw [h1] at z; cases z)
      rw [tk.2.2.2.1]
      rw [h1] at this
      exact this
    · have nb : ¬ R.1 = false := by rw [hb]; decide
      rw [if_neg nb] at hRT
      have hlen : R.2.1.length ≤ 9 := by rw [← hR]; exact restP_len
      have hvc' : vN2 vc w R.2.1 ≤ 24 := by rw [← hR]; exact restP_vc hvc
      have hL' := hL.app e hrec hlen
      obtain ⟨⟨y1, y2, y3⟩, y4, y5, y6, y7⟩ := tk
      have tk' : TkM K f n R.2.2 := ⟨⟨y1, y2, y3⟩, y4, y5, y6, y7⟩
      have hE := tE_b (f := f) y4
      have le : K 87 3 ≤ K 87 15 ↔ n ≤ R.2.2 := by rw [y1, y6, nI_leI (by omega) (by omega)]
      have e1 : K 87 16 - K 87 15 = 1 ↔ tE f n R.2.2 - R.2.2 = 1 := by rw [y7, y6, nI_sub (by omega) (by omega)]; exact nI_eq (b := 1) (by omega) (by decide)
      have e59 : R.2.2 < n → (K 90 (K 87 15).toNatClampNeg = 59 ↔ f R.2.2 = 59) := fun w => by
        rw [y6, nI_clamp (by omega), (y3 _ w).2]; exact nI_eq (b := 59) (by have := (y3 _ w).1; omega) (by decide)
      have le10 : (10 : Int32) ≤ K 87 5 ↔ m = 0 := by
        rw [e5]; exact (nI_leI (a := 10) (by omega) (by omega)).trans (by omega)
      have semi : R.2.2 < n → f R.2.2 = 59 → tE f n R.2.2 - R.2.2 = 1 := fun w u => by
        unfold tE; rw [if_pos w, u, if_pos (by decide)]; omega
      have bad : ¬ n ≤ R.2.2 → ¬ (f R.2.2 = 59 ∧ 0 < m) → Q (some (.int (K 87 15))) K := fun z u => by
        rw [if_neg z, if_neg u] at hRT
        have h1 : RT.1 = some R.2.2 := by rw [hRT]
        have := q K (frF e) (fun z => by rw [h1] at z; cases z)
        rw [y6]
        rw [h1] at this
        exact this
      refine sg_X12_fault_42 (fun z => ?_) (fun z u => ?_) (fun z _ => ?_) (fun z _ u => ?_) (fun z _ u v => ?_) (fun z _ u v => ?_)
      all_goals rw [le] at z
      · rw [if_pos z] at hRT
        have h1 : RT.1 = none := by rw [hRT]
        have h2 : RT.2 = L ++ [(w, R.2.1)] := by rw [hRT]
        have := q K (frF e) (fun _ => by rw [h2]; exact ⟨by rw [e5, List.length_append]; rfl, hL'⟩)
        rw [h1] at this
        exact this
      · rw [e1] at u
        exact bad z (fun v => u (semi (by omega) v.1))
      · rw [y6]; exact vp_in_nI (by omega) (by decide)
      · rw [e59 (by omega)] at u
        exact bad z (fun v => u v.1)
      · rw [le10] at v
        exact bad z (fun t => by omega)
      · rw [e59 (by omega)] at u; rw [le10] at v
        rw [if_neg z, if_pos ⟨u, by omega⟩] at hRT
        obtain ⟨m, rfl⟩ : ∃ j, m = j + 1 := ⟨m - 1, by omega⟩
        refine m_token ⟨y1, y2, y3⟩ hE.2.1 y5 (fun J2 g1 g4 g5 g6 => sg_X12_fault_103 ?_)
        have fl2 : FrL K J2 (L.length + 1) := ⟨fun a n1 _ => g1.1 a n1, fun j hj => g1.2 j (fun w => hj (by simp at w ⊢; omega)), fun x _ => by rw [g1.1 91 (by decide)]⟩
        have ff := frF e
        refine flt_loop q m (tN f n R.2.2) (kN k w R.2.1) (vN2 vc w R.2.1) (L ++ [(w, R.2.1)]) J2 _ (by rw [List.length_append, List.length_singleton]; omega) ⟨fun a n1 n2 => (fl2.1 a n1 n2).trans (ff.1 a n1 n2), fun j hj => (fl2.2.1 j hj).trans (ff.2 j hj)⟩ ⟨(show TxM K f n from ⟨y1, y2, y3⟩).fr g1 (by decide), tN_le y4, g4, g5, g6⟩ ((g1.2 5 (by decide)).trans (by rw [e5, List.length_append]; rfl)) ((g1.2 17 (by decide)).trans e17) ((g1.2 18 (by decide)).trans e18) hvc' (fun i hi => ?_) (by rw [hRT, List.append_assoc]; rfl) (fun K2 h => sg_X12_fault_107 (fun _ => h) (fun z => absurd z (by decide))) (fun K2 h => sg_X12_fault_107 (fun z => absurd rfl z) (fun _ => h))
        have hi2 : i < L.length + 1 := by rw [List.length_append, List.length_singleton] at hi; exact hi
        exact ⟨(hL' i hi).1.fr (hL' i hi).2 fl2 hi2, (hL' i hi).2⟩
end FAULT
