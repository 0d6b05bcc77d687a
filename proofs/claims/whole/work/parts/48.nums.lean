/-! rows of numbers -/
def numsP (f : Nat → Nat) (n : Nat) (stp : Int32 → Int32) (hi : Int32) (blk : Nat → Bool) : Nat → Nat → Nat → Int32 → Bool × List Int32 × Nat
  | 0, _, P, _ => (true, [], P)
  | m + 1, i, P, ab =>
    if 0 < i ∧ ¬ tK f n P = 2 then (true, [], P)
    else if blk i = true then (false, [], P)
    else match rdN f n P (stp ab) hi with
      | none => (false, [], P)
      | some v => ((numsP f n stp hi blk m (i + 1) (tN f n P) v).1, v :: (numsP f n stp hi blk m (i + 1) (tN f n P) v).2.1, (numsP f n stp hi blk m (i + 1) (tN f n P) v).2.2)
/-- the whole is what was read, and what is still to be read -/
def GoesN (R : Bool × List Int32 × Nat) (l : List Int32) (r : Bool × List Int32 × Nat) : Prop := R = (r.1, l ++ r.2.1, r.2.2)
theorem in7 {j : Nat} (h : j ∉ [4, 5, 6, 7]) : j ∉ [7] := fun w => h (by simp at w; subst w; decide)
theorem getD_app {l : List Int32} {v : Int32} {j : Nat} (h : j < l.length) : (l ++ [v]).getD j 0 = l.getD j 0 := by
  simp [List.getD_eq_getElem?_getD, List.getElem?_append_left h]
theorem getD_last {l : List Int32} {v : Int32} : (l ++ [v]).getD l.length 0 = v := by
  simp [List.getD_eq_getElem?_getD]
theorem numsP_stop {f : Nat → Nat} {n : Nat} {stp : Int32 → Int32} {hi : Int32} {blk : Nat → Bool} {m i P : Nat} {ab : Int32} (h : m = 0 ∨ (0 < i ∧ ¬ tK f n P = 2)) : numsP f n stp hi blk m i P ab = (true, [], P) := by
  rcases h with rfl | h
  · rfl
  · cases m with
    | zero => rfl
    | succ m => unfold numsP; rw [if_pos h]
theorem numsP_blk {f : Nat → Nat} {n : Nat} {stp : Int32 → Int32} {hi : Int32} {blk : Nat → Bool} {m i P : Nat} {ab : Int32} (h : ¬ (0 < i ∧ ¬ tK f n P = 2)) (hb : blk i = true) : numsP f n stp hi blk (m + 1) i P ab = (false, [], P) := by
  unfold numsP; rw [if_neg h, if_pos hb]
theorem numsP_none {f : Nat → Nat} {n : Nat} {stp : Int32 → Int32} {hi : Int32} {blk : Nat → Bool} {m i P : Nat} {ab : Int32} (h : ¬ (0 < i ∧ ¬ tK f n P = 2)) (hb : ¬ blk i = true) (hr : rdN f n P (stp ab) hi = none) : numsP f n stp hi blk (m + 1) i P ab = (false, [], P) := by
  unfold numsP; rw [if_neg h, if_neg hb, hr]
theorem numsP_some {f : Nat → Nat} {n : Nat} {stp : Int32 → Int32} {hi : Int32} {blk : Nat → Bool} {m i P : Nat} {ab v : Int32} (h : ¬ (0 < i ∧ ¬ tK f n P = 2)) (hb : ¬ blk i = true) (hr : rdN f n P (stp ab) hi = some v) : numsP f n stp hi blk (m + 1) i P ab = ((numsP f n stp hi blk m (i + 1) (tN f n P) v).1, v :: (numsP f n stp hi blk m (i + 1) (tN f n P) v).2.1, (numsP f n stp hi blk m (i + 1) (tN f n P) v).2.2) := by
  conv => lhs; unfold numsP
  rw [if_neg h, if_neg hb, hr]
theorem GoesN.step {R r : Bool × List Int32 × Nat} {l : List Int32} {v : Int32} (h : GoesN R l (r.1, v :: r.2.1, r.2.2)) : GoesN R (l ++ [v]) r := by
  unfold GoesN at *
  rw [h, List.append_assoc]; rfl
/-- the draft with the kinds read so far -/
def InC (I J : HIh) (l : List Int32) : Prop := (∀ a, a ≠ 19 → a ≠ 21 → a ≠ 26 → J a = I a) ∧ (∀ j, j ∉ [4, 5, 6, 7] → J 19 j = I 19 j) ∧ (∀ j, j ≠ 9 → J 21 j = I 21 j) ∧ J 21 9 = nI l.length ∧ ∀ j, j < l.length → J 26 j = l.getD j 0
/-- the draft with the visits read so far -/
def InV (I J : HIh) (vc : Nat) (l : List Int32) : Prop := (∀ a, a ≠ 19 → a ≠ 21 → a ≠ 29 → J a = I a) ∧ (∀ j, j ∉ [4, 5, 6, 7] → J 19 j = I 19 j) ∧ (∀ j, j ≠ 10 → J 21 j = I 21 j) ∧ J 21 10 = nI (vc + l.length) ∧ (∀ j, j < vc → J 29 j = I 29 j) ∧ ∀ j, j < l.length → J 29 (vc + j) = l.getD j 0
/-- the reference's line with the numbers read so far -/
def InM (I J : HIh) (r : Nat) (l : List Int32) : Prop := (∀ a, a ≠ 87 → a ≠ 91 → J a = I a) ∧ (∀ j, j ∉ [14, 15, 16] → J 87 j = I 87 j) ∧ (∀ x, (x < 12 * r + 1 ∨ 12 * r + 12 ≤ x) → J 91 x = I 91 x) ∧ J 91 (12 * r + 1) = nI l.length ∧ ∀ j, j < l.length → J 91 (12 * r + 2 + j) = l.getD j 0
theorem InM.rd {I J K : HIh} {r : Nat} {l : List Int32} {v : Int32} (h : InM I J r l) (hl : l.length ≤ 9) (e : RdM J K r l.length v) : InM I K r (l ++ [v]) := by
  obtain ⟨h1, h2, h3, h4, h5⟩ := h
  obtain ⟨e1, e2, e3⟩ := e
  refine ⟨fun a n1 n2 => (e1 a n1 n2).trans (h1 a n1 n2), fun j hj => (e2 j hj).trans (h2 j hj), fun x hx => ?_, ?_, fun j hj => ?_⟩
  · rw [e3, upd_off _ (by omega), upd_off _ (by omega)]; exact h3 x hx
  · rw [e3, upd_at _ rfl, List.length_append]; rfl
  · rw [List.length_append, List.length_singleton] at hj
    rw [e3, upd_off _ (by omega)]
    by_cases w : j = l.length
    · subst w; rw [upd_at _ rfl, getD_last]
    · rw [upd_off _ (by omega), getD_app (by omega)]; exact h5 j (by omega)
theorem TkX.fr7 {I J : HIh} {f : Nat → Nat} {n P : Nat} (h : TkX I f n P) (e : Fr 19 [7] I J) : TkX J f n P := by
  obtain ⟨h1, h2, h3, h4, h5⟩ := h
  exact ⟨h1.fr e (by decide), h2, (e.2 4 (by decide)).trans h3, (e.2 5 (by decide)).trans h4, (e.2 6 (by decide)).trans h5⟩
theorem TkX.same {I J : HIh} {f : Nat → Nat} {n P : Nat} (h : TkX I f n P) (e19 : J 19 = I 19) (e20 : J 20 = I 20) : TkX J f n P := by
  obtain ⟨⟨h0, h1, h2⟩, h3, h4, h5, h6⟩ := h
  refine ⟨⟨by rw [e19]; exact h0, h1, fun j hj => by rw [e20]; exact h2 j hj⟩, h3, by rw [e19]; exact h4, by rw [e19]; exact h5, by rw [e19]; exact h6⟩
section NUMS
variable {E : HEn} {d : Nat} {Q : Option Value → HIh → Prop} {I : HIh}
theorem TkX.num {J : HIh} {f : Nat → Nat} {n P : Nat} (h : TkX J f n P) : J 19 6 = 2 ↔ tK f n P = 2 := by
  have := tK_le f n P
  rw [h.2.2.2.2]; exact nI_eq (b := 2) (by omega) (by decide)
theorem coins_x {f : Nat → Nat} {n : Nat} {R : Bool × List Int32 × Nat} (q : ∀ J, InC I J R.2.1 → TkX J f n R.2.2 → Q (some (.int (if R.1 = true then 1 else 0))) J) : ∀ (m : Nat) (l : List Int32) (P : Nat) (ab : Int32) (J : HIh), l.length + m = 6 → InC I J l → TkX J f n P → GoesN R l (numsP f n (fun v => v + 1) 999 (fun _ => false) m l.length P ab) → HGo E (mF E (d + 4) Q) me_X7_readCoins 22 [(0, .ref 19), (1, .int ab), (2, .int (nI l.length))] [] J
  | m, l, P, ab, J, hm, hi, ht, hg => by
    have le6 : (6 : Int32) ≤ nI l.length ↔ 6 ≤ l.length := nI_leI (a := 6) (by omega) (by omega)
    have le0 : nI l.length ≤ 0 ↔ l.length = 0 := nI_le0 (by omega)
    have stop : ∀ b : Bool, numsP f n (fun v => v + 1) 999 (fun _ => false) m l.length P ab = (b, [], P) → ∀ J, InC I J l → TkX J f n P → Q (some (.int (if b = true then 1 else 0))) J := fun b h J hi ht => by
      rw [h] at hg
      have hg' : R = (b, l ++ [], P) := hg
      rw [List.append_nil] at hg'
      rw [hg'] at q
      exact q J hi ht
    have rd : ¬ 6 ≤ l.length → ¬ (0 < l.length ∧ ¬ tK f n P = 2) → HCall E me_X7_readNumber (d + 3) [.ref 19, .int (ab + 1), .int 999] J (fun v9 J => HGo E (mF E (d + 4) Q) me_X7_readCoins 52 [(0, .ref 19), (2, .int (nI l.length))] (v9.toList ++ []) J) := fun h6 h0 => by
      obtain ⟨m, rfl⟩ : ∃ j, m = j + 1 := ⟨m - 1, by omega⟩
      refine c_readNumber ht (fun hn J' e => ?_) (fun v hv J' e t7 h7 => ?_)
      · refine sg_X7_readCoins_52 (fun z => absurd rfl z) (fun _ => ?_)
        have hi' : InC I J' l := by
          obtain ⟨i1, i2, i3, i4, i5⟩ := hi
          exact ⟨fun a n1 n2 n3 => (e.1 a n1).trans (i1 a n1 n2 n3), fun j hj => (e.2 j (in7 hj)).trans (i2 j hj), fun j hj => by rw [e.1 21 (by decide)]; exact i3 j hj, by rw [e.1 21 (by decide)]; exact i4, fun j hj => by rw [e.1 26 (by decide)]; exact i5 j hj⟩
        exact stop false (numsP_none h0 Bool.false_ne_true hn) J' hi' (ht.fr7 e)
      · refine sg_X7_readCoins_52 (fun _ => ?_) (fun z => absurd z (by decide))
        obtain ⟨i1, i2, i3, i4, i5⟩ := hi
        have e9 : J' 21 9 = nI l.length := by rw [e.1 21 (by decide)]; exact i4
        rw [h7]
        refine h_met (by decide) rfl (Nat.le_of_ble_eq_true rfl) (sg_X9_addKind_0 (fun z => ?_) (fun _ z => ?_) (fun _ _ => ?_) (fun _ _ => sg_X7_readCoins_73 ?_))
        · rw [e9, i_lt, nI_toInt (by omega), z0] at z; omega
        · rw [e9] at z; exact absurd (le6.mp z) h6
        · rw [e9]; exact vp_in_nI (by omega) (by decide)
        · rw [e9, nI_clamp (by omega), nI_1]
          have hl : (l ++ [v]).length = l.length + 1 := by rw [List.length_append]; rfl
          rw [numsP_some (stp := fun v => v + 1) (hi := 999) (blk := fun _ => false) (ab := ab) (m := m) h0 Bool.false_ne_true hv] at hg
          have hg' := hg.step
          rw [← hl] at hg' ⊢
          refine coins_x q m (l ++ [v]) (tN f n P) v _ (by omega) ⟨fun a n1 n2 n3 => ?_, fun j hj => ?_, fun j hj => ?_, ?_, fun j hj => ?_⟩ (t7.same rfl rfl) hg'
          · rw [setI_ne _ _ n2, setI_ne _ _ n3]; exact (e.1 a n1).trans (i1 a n1 n2 n3)
          · exact (e.2 j hj).trans (i2 j hj)
          · rw [setI_same, upd_off _ hj, e.1 21 (by decide)]; exact i3 j hj
          · rw [setI_same, upd_at _ rfl]
          · show upd (J' 26) l.length v j = _
            by_cases w : j = l.length
            · subst w; rw [upd_at _ rfl, getD_last]
            · rw [upd_off _ w, e.1 26 (by decide), getD_app (by omega)]; exact i5 j (by omega)
    refine sg_X7_readCoins_22 (fun z => ?_) (fun z y => ?_) (fun z y w => ?_) (fun z y w => ?_)
    all_goals rw [le6] at z
    · exact stop true (numsP_stop (Or.inl (by omega))) J hi ht
    all_goals rw [le0] at y
    · exact rd z (fun u => by omega)
    · rw [ht.num] at w
      exact rd z (fun u => u.2 w)
    · rw [ht.num] at w
      exact stop true (numsP_stop (Or.inr ⟨by omega, w⟩)) J hi ht
end NUMS
