/-! rows of numbers: visits, and the reference's -/
section NUMS2
variable {E : HEn} {d : Nat} {Q : Option Value → HIh → Prop} {I : HIh}
theorem visits_x {f : Nat → Nat} {n vc : Nat} {R : Bool × List Int32 × Nat} (q : ∀ J, InV I J vc R.2.1 → TkX J f n R.2.2 → Q (some (.int (if R.1 = true then 1 else 0))) J) : ∀ (m : Nat) (l : List Int32) (P : Nat) (ab : Int32) (J : HIh), l.length + m = 9 → vc + l.length ≤ 24 → InV I J vc l → TkX J f n P → GoesN R l (numsP f n (fun _ => 0) 3 (fun i => decide (24 ≤ vc + i)) m l.length P ab) → HGo E (mF E (d + 4) Q) me_X7_readVisits 2 [(0, .ref 19), (1, .int (nI l.length))] [] J
  | m, l, P, ab, J, hm, hvc, hi, ht, hg => by
    have le9 : (9 : Int32) ≤ nI l.length ↔ 9 ≤ l.length := nI_leI (a := 9) (by omega) (by omega)
    have le0 : nI l.length ≤ 0 ↔ l.length = 0 := nI_le0 (by omega)
    have e10 : J 21 10 = nI (vc + l.length) := hi.2.2.2.1
    have le24 : (24 : Int32) ≤ J 21 10 ↔ 24 ≤ vc + l.length := by rw [e10]; exact nI_leI (a := 24) (by omega) (by omega)
    have stop : ∀ b : Bool, numsP f n (fun _ => 0) 3 (fun i => decide (24 ≤ vc + i)) m l.length P ab = (b, [], P) → ∀ J, InV I J vc l → TkX J f n P → Q (some (.int (if b = true then 1 else 0))) J := fun b h J hi ht => by
      rw [h] at hg
      have hg' : R = (b, l ++ [], P) := hg
      rw [List.append_nil] at hg'
      rw [hg'] at q
      exact q J hi ht
    have blk : ¬ 9 ≤ l.length → 24 ≤ vc + l.length → ¬ (0 < l.length ∧ ¬ tK f n P = 2) → Q (some (.int 0)) J := fun h9 hb h0 => by
      obtain ⟨m, rfl⟩ : ∃ j, m = j + 1 := ⟨m - 1, by omega⟩
      exact stop false (numsP_blk h0 (decide_eq_true hb)) J hi ht
    have rd : ¬ 9 ≤ l.length → ¬ 24 ≤ vc + l.length → ¬ (0 < l.length ∧ ¬ tK f n P = 2) → HCall E me_X7_readNumber (d + 3) [.ref 19, .int 0, .int 3] J (fun v9 J => HGo E (mF E (d + 4) Q) me_X7_readVisits 40 [(0, .ref 19), (1, .int (nI l.length))] (v9.toList ++ []) J) := fun h9 hb h0 => by
      obtain ⟨m, rfl⟩ : ∃ j, m = j + 1 := ⟨m - 1, by omega⟩
      have nb : ¬ decide (24 ≤ vc + l.length) = true := fun z => hb (of_decide_eq_true z)
      refine c_readNumber ht (fun hn J' e => ?_) (fun v hv J' e t7 h7 => ?_)
      · refine sg_X7_readVisits_40 (fun z => absurd rfl z) (fun _ => ?_)
        have hi' : InV I J' vc l := by
          obtain ⟨i1, i2, i3, i4, i5, i6⟩ := hi
          exact ⟨fun a n1 n2 n3 => (e.1 a n1).trans (i1 a n1 n2 n3), fun j hj => (e.2 j (in7 hj)).trans (i2 j hj), fun j hj => by rw [e.1 21 (by decide)]; exact i3 j hj, by rw [e.1 21 (by decide)]; exact i4, fun j hj => by rw [e.1 29 (by decide)]; exact i5 j hj, fun j hj => by rw [e.1 29 (by decide)]; exact i6 j hj⟩
        exact stop false (numsP_none (blk := fun i => decide (24 ≤ vc + i)) h0 nb hn) J' hi' (ht.fr7 e)
      · refine sg_X7_readVisits_40 (fun _ => ?_) (fun z => absurd z (by decide))
        obtain ⟨i1, i2, i3, i4, i5, i6⟩ := hi
        have e10' : J' 21 10 = nI (vc + l.length) := by rw [e.1 21 (by decide)]; exact i4
        rw [h7]
        refine h_met (by decide) rfl (Nat.le_of_ble_eq_true rfl) (sg_X9_addVisit_0 (fun z => ?_) (fun _ z => ?_) (fun _ _ => ?_) (fun _ _ => sg_X7_readVisits_56 ?_))
        · rw [e10', i_lt, nI_toInt (by omega), z0] at z; omega
        · rw [e10'] at z; exact absurd ((nI_leI (a := 24) (by omega) (by omega)).mp z) hb
        · rw [e10']; exact vp_in_nI (by omega) (by decide)
        · rw [e10', nI_clamp (by omega), nI_1, nI_1]
          have hl : (l ++ [v]).length = l.length + 1 := by rw [List.length_append]; rfl
          rw [numsP_some (stp := fun _ => 0) (hi := 3) (blk := fun i => decide (24 ≤ vc + i)) (ab := ab) (m := m) h0 nb hv] at hg
          have hg' := hg.step
          rw [← hl] at hg' ⊢
          refine visits_x q m (l ++ [v]) (tN f n P) v _ (by omega) (by omega) ⟨fun a n1 n2 n3 => ?_, fun j hj => ?_, fun j hj => ?_, ?_, fun j hj => ?_, fun j hj => ?_⟩ (t7.same rfl rfl) hg'
          · rw [setI_ne _ _ n2, setI_ne _ _ n3]; exact (e.1 a n1).trans (i1 a n1 n2 n3)
          · exact (e.2 j hj).trans (i2 j hj)
          · rw [setI_same, upd_off _ hj, e.1 21 (by decide)]; exact i3 j hj
          · rw [setI_same, upd_at _ rfl]; congr 1; omega
          · show upd (J' 29) (vc + l.length) v j = _
            rw [upd_off _ (by omega), e.1 29 (by decide)]; exact i5 j hj
          · show upd (J' 29) (vc + l.length) v (vc + j) = _
            by_cases w : j = l.length
            · subst w; rw [upd_at _ rfl, getD_last]
            · rw [upd_off _ (by omega), e.1 29 (by decide), getD_app (by omega)]; exact i6 j (by omega)
    refine sg_X7_readVisits_2 (fun z => ?_) (fun z y w => ?_) (fun z y w => ?_) (fun z y w u => ?_) (fun z y w u => ?_) (fun z y w => ?_)
    all_goals rw [le9] at z
    · exact stop true (numsP_stop (Or.inl (by omega))) J hi ht
    all_goals rw [le0] at y
    · rw [le24] at w
      exact blk z w (fun u => by omega)
    · rw [le24] at w
      exact rd z w (fun u => by omega)
    · rw [ht.num] at w; rw [le24] at u
      exact blk z u (fun t => t.2 w)
    · rw [ht.num] at w; rw [le24] at u
      exact rd z u (fun t => t.2 w)
    · rw [ht.num] at w
      exact stop true (numsP_stop (Or.inr ⟨by omega, w⟩)) J hi ht
theorem coins_m {f : Nat → Nat} {n r : Nat} {R : Bool × List Int32 × Nat} (hr : r ≤ 9) (h5 : I 87 5 = nI r) (q : ∀ J, InM I J r R.2.1 → TkM J f n R.2.2 → Q (some (.int (if R.1 = true then 1 else 0))) J) : ∀ (m : Nat) (l : List Int32) (P : Nat) (ab : Int32) (J : HIh), l.length + m = 6 → InM I J r l → TkM J f n P → GoesN R l (numsP f n (fun v => v + 1) 999 (fun _ => false) m l.length P ab) → HGo E (mF E (d + 4) Q) me_X12_readsCoins 10 [(0, .ref 87), (1, .int (nI (12 * r))), (2, .int (ab + 1))] [] J
  | m, l, P, ab, J, hm, hi, ht, hg => by
    have hi' := hi
    obtain ⟨i1, i2, i3, i4, i5⟩ := hi
    have cx : nI (12 * r) + 1 = nI (12 * r + 1) := nI_1 _
    have c1 : (nI (12 * r) + 1).toNatClampNeg = 12 * r + 1 := by rw [cx, nI_clamp (by omega)]
    have ec : J 91 (nI (12 * r) + 1).toNatClampNeg = nI l.length := by rw [c1]; exact i4
    have e0 : J 91 (nI (12 * r) + 1).toNatClampNeg = 0 ↔ l.length = 0 := by rw [ec]; exact nI_eq (b := 0) (by omega) (by decide)
    have le6 : (6 : Int32) ≤ J 91 (nI (12 * r) + 1).toNatClampNeg ↔ 6 ≤ l.length := by rw [ec]; exact nI_leI (a := 6) (by omega) (by omega)
    have v1 : vp_in (nI (12 * r) + 1) 120 := by rw [cx]; exact vp_in_nI (by omega) (by decide)
    have h5J : J 87 5 = nI r := (i2 5 (by decide)).trans h5
    have stop : ∀ b : Bool, numsP f n (fun v => v + 1) 999 (fun _ => false) m l.length P ab = (b, [], P) → Q (some (.int (if b = true then 1 else 0))) J := fun b h => by
      rw [h] at hg
      have hg' : R = (b, l ++ [], P) := hg
      rw [List.append_nil] at hg'
      rw [hg'] at q
      exact q J hi' ht
    have rd : ¬ 6 ≤ l.length → ¬ (0 < l.length ∧ ¬ tK f n P = 2) → HCall E me_X12_reads (d + 3) [.ref 87, .int (ab + 1), .int 999] J (fun v9 J => HGo E (mF E (d + 4) Q) me_X12_readsCoins 49 [(0, .ref 87), (1, .int (nI (12 * r)))] (v9.toList ++ []) J) := fun h6 h0 => by
      obtain ⟨m, rfl⟩ : ∃ j, m = j + 1 := ⟨m - 1, by omega⟩
      refine m_reads (r := r) (k := l.length) ht hr (by omega) h5J i4 (fun hn => ?_) (fun v hv J' e t7 => ?_)
      · exact sg_X12_readsCoins_49 (fun z => absurd rfl z) (fun z => absurd rfl z) (fun z => absurd rfl z) (fun _ => stop false (numsP_none h0 Bool.false_ne_true hn))
      · have hJ' := hi'.rd (by omega) e
        have hl : (l ++ [v]).length = l.length + 1 := by rw [List.length_append]; rfl
        have ec' : J' 91 (nI (12 * r) + 1).toNatClampNeg = nI (l.length + 1) := by rw [c1, ← hl]; exact hJ'.2.2.2.1
        have cl : (nI (12 * r) + 1) + J' 91 (nI (12 * r) + 1).toNatClampNeg = nI (12 * r + 2 + l.length) := by rw [ec', cx, nI_add]; congr 1; omega
        have lv : J' 91 ((nI (12 * r) + 1) + J' 91 (nI (12 * r) + 1).toNatClampNeg).toNatClampNeg = v := by
          rw [cl, nI_clamp (by omega)]
          have := hJ'.2.2.2.2 l.length (by omega)
          rw [getD_last] at this; exact this
        refine sg_X12_readsCoins_49 (fun _ => v1) (fun _ => ?_) (fun _ => ?_) (fun z => absurd z (by decide))
        · rw [cl]; exact vp_in_nI (by omega) (by decide)
        · rw [lv]
          rw [numsP_some (stp := fun v => v + 1) (hi := 999) (blk := fun _ => false) (ab := ab) (m := m) h0 Bool.false_ne_true hv] at hg
          have hg' := hg.step
          rw [← hl] at hg'
          exact coins_m hr h5 q m (l ++ [v]) (tN f n P) v J' (by omega) hJ' t7 hg'
    refine sg_X12_readsCoins_10 v1 (fun z => ?_) (fun z => ?_)
    · rw [e0] at z
      exact rd (by omega) (fun u => by omega)
    · rw [e0] at z
      refine m_isNumber ht (fun w => ?_) (fun w => ?_)
      · refine sg_X12_readsCoins_25 (fun z => absurd z (by decide)) (fun _ => v1) (fun _ y => ?_) (fun _ y => ?_)
        · rw [le6] at y
          exact stop true (numsP_stop (Or.inl (by omega)))
        · rw [le6] at y
          exact rd y (fun u => u.2 w)
      · exact sg_X12_readsCoins_25 (fun _ => stop true (numsP_stop (Or.inr ⟨by omega, w⟩))) (fun z => absurd rfl z) (fun z => absurd rfl z) (fun z => absurd rfl z)
theorem come_m {f : Nat → Nat} {n r vc : Nat} {R : Bool × List Int32 × Nat} (hr : r ≤ 9) (h5 : I 87 5 = nI r) (h18 : I 87 18 = nI vc) (q : ∀ J, InM I J r R.2.1 → TkM J f n R.2.2 → Q (some (.int (if R.1 = true then 1 else 0))) J) : ∀ (m : Nat) (l : List Int32) (P : Nat) (ab : Int32) (J : HIh), l.length + m = 9 → vc + l.length ≤ 24 → InM I J r l → TkM J f n P → GoesN R l (numsP f n (fun _ => 0) 3 (fun i => decide (24 ≤ vc + i)) m l.length P ab) → HGo E (mF E (d + 4) Q) me_X12_readsCome 8 [(0, .ref 87), (1, .int (nI (12 * r)))] [] J
  | m, l, P, ab, J, hm, hvc, hi, ht, hg => by
    have hi' := hi
    obtain ⟨i1, i2, i3, i4, i5⟩ := hi
    have cx : nI (12 * r) + 1 = nI (12 * r + 1) := nI_1 _
    have c1 : (nI (12 * r) + 1).toNatClampNeg = 12 * r + 1 := by rw [cx, nI_clamp (by omega)]
    have ec : J 91 (nI (12 * r) + 1).toNatClampNeg = nI l.length := by rw [c1]; exact i4
    have e0 : J 91 (nI (12 * r) + 1).toNatClampNeg = 0 ↔ l.length = 0 := by rw [ec]; exact nI_eq (b := 0) (by omega) (by decide)
    have le9 : (9 : Int32) ≤ J 91 (nI (12 * r) + 1).toNatClampNeg ↔ 9 ≤ l.length := by rw [ec]; exact nI_leI (a := 9) (by omega) (by omega)
    have v1 : vp_in (nI (12 * r) + 1) 120 := by rw [cx]; exact vp_in_nI (by omega) (by decide)
    have h5J : J 87 5 = nI r := (i2 5 (by decide)).trans h5
    have e24 : J 87 18 + J 91 (nI (12 * r) + 1).toNatClampNeg = 24 ↔ 24 ≤ vc + l.length := by
      rw [ec, (i2 18 (by decide)).trans h18, nI_add]
      exact (nI_eq (b := 24) (by omega) (by decide)).trans (by omega)
    have stop : ∀ b : Bool, numsP f n (fun _ => 0) 3 (fun i => decide (24 ≤ vc + i)) m l.length P ab = (b, [], P) → Q (some (.int (if b = true then 1 else 0))) J := fun b h => by
      rw [h] at hg
      have hg' : R = (b, l ++ [], P) := hg
      rw [List.append_nil] at hg'
      rw [hg'] at q
      exact q J hi' ht
    have blk : ¬ 9 ≤ l.length → 24 ≤ vc + l.length → ¬ (0 < l.length ∧ ¬ tK f n P = 2) → Q (some (.int 0)) J := fun h9 hb h0 => by
      obtain ⟨m, rfl⟩ : ∃ j, m = j + 1 := ⟨m - 1, by omega⟩
      exact stop false (numsP_blk h0 (decide_eq_true hb))
    have rd : ¬ 9 ≤ l.length → ¬ 24 ≤ vc + l.length → ¬ (0 < l.length ∧ ¬ tK f n P = 2) → HCall E me_X12_reads (d + 3) [.ref 87, .int 0, .int 3] J (fun v9 J => HGo E (mF E (d + 4) Q) me_X12_readsCome 63 [(0, .ref 87), (1, .int (nI (12 * r)))] (v9.toList ++ []) J) := fun h9 hb h0 => by
      obtain ⟨m, rfl⟩ : ∃ j, m = j + 1 := ⟨m - 1, by omega⟩
      have nb : ¬ decide (24 ≤ vc + l.length) = true := fun z => hb (of_decide_eq_true z)
      refine m_reads (r := r) (k := l.length) ht hr (by omega) h5J i4 (fun hn => ?_) (fun v hv J' e t7 => ?_)
      · exact sg_X12_readsCome_63 (fun z => absurd rfl z) (fun _ => stop false (numsP_none (blk := fun i => decide (24 ≤ vc + i)) h0 nb hn))
      · have hJ' := hi'.rd (by omega) e
        have hl : (l ++ [v]).length = l.length + 1 := by rw [List.length_append]; rfl
        refine sg_X12_readsCome_63 (fun _ => ?_) (fun z => absurd z (by decide))
        rw [numsP_some (stp := fun _ => 0) (hi := 3) (blk := fun i => decide (24 ≤ vc + i)) (ab := ab) (m := m) h0 nb hv] at hg
        have hg' := hg.step
        rw [← hl] at hg'
        exact come_m hr h5 h18 q m (l ++ [v]) (tN f n P) v J' (by omega) (by omega) hJ' t7 hg'
    refine sg_X12_readsCome_8 v1 (fun _ => v1) (fun z y => ?_) (fun z y => ?_) (fun z => ?_)
    · rw [e0] at z; rw [e24] at y
      exact blk (by omega) y (fun u => by omega)
    · rw [e0] at z; rw [e24] at y
      exact rd (by omega) y (fun u => by omega)
    · rw [e0] at z
      refine m_isNumber ht (fun w => ?_) (fun w => ?_)
      · refine sg_X12_readsCome_23 (fun z => absurd z (by decide)) (fun _ => v1) (fun _ y => ?_) (fun _ _ => v1) (fun _ y u => ?_) (fun _ y u => ?_)
        · rw [le9] at y
          exact stop true (numsP_stop (Or.inl (by omega)))
        · rw [le9] at y; rw [e24] at u
          exact blk y u (fun t => t.2 w)
        · rw [le9] at y; rw [e24] at u
          exact rd y u (fun t => t.2 w)
      · exact sg_X12_readsCome_23 (fun _ => stop true (numsP_stop (Or.inr ⟨by omega, w⟩))) (fun z => absurd rfl z) (fun z => absurd rfl z) (fun z => absurd rfl z) (fun z => absurd rfl z) (fun z => absurd rfl z)
end NUMS2
