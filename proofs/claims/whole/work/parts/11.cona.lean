/-! contracts of the small ones, which later stretches take in -/
theorem i_lt (a b : Int32) : a < b ↔ a.toInt < b.toInt := Int32.lt_iff_toInt_lt
theorem i_le (a b : Int32) : a ≤ b ↔ a.toInt ≤ b.toInt := Int32.le_iff_toInt_le
theorem i_eq (a b : Int32) : a = b ↔ a.toInt = b.toInt := Int32.toInt_inj.symm
theorem l_lt (a b : Int64) : a < b ↔ a.toInt < b.toInt := Int64.lt_iff_toInt_lt
theorem l_le (a b : Int64) : a ≤ b ↔ a.toInt ≤ b.toInt := Int64.le_iff_toInt_le
theorem l_eq (a b : Int64) : a = b ↔ a.toInt = b.toInt := Int64.toInt_inj.symm
theorem i_nlt {a b : Int32} (h : ¬ a < b) : b ≤ a := by rw [i_lt] at h; rw [i_le]; omega
theorem i_nle {a b : Int32} (h : ¬ a ≤ b) : b < a := by rw [i_le] at h; rw [i_lt]; omega
theorem i_lt_n {a b : Int32} (h : a < b) : ¬ b ≤ a := by rw [i_lt] at h; rw [i_le]; omega
theorem i_le_n {a b : Int32} (h : a ≤ b) : ¬ b < a := by rw [i_le] at h; rw [i_lt]; omega
section CONA
variable {E : HEn} {d : Nat} {Q : Option Value → HIh → Prop} {I : HIh}
theorem c_X11_isPerson {x : Int32} (h1 : 0 ≤ x → x < 4 → Q (some (.int 1)) I) (h0 : ¬ (0 ≤ x ∧ x < 4) → Q (some (.int 0)) I) : HCall E me_X11_isPerson (d + 1) [.int x] I Q :=
  h_met (by decide) rfl (Nat.le_of_ble_eq_true rfl) (sg_X11_isPerson_0 (fun c => h0 (fun q => i_lt_n c q.1)) (fun _ c => h0 (fun q => i_lt_n q.2 c)) (fun c1 c2 => h1 (i_nlt c1) (i_nle c2)))
theorem c_X12_in {v a b : Int64} (h1 : a ≤ v → v ≤ b → Q (some (.int 1)) I) (h0 : ¬ (a ≤ v ∧ v ≤ b) → Q (some (.int 0)) I) : HCall E me_X12_in (d + 1) [.long v, .long a, .long b] I Q := by
  refine h_met (by decide) rfl (Nat.le_of_ble_eq_true rfl) (sg_X12_in_0 (fun c => h0 (fun q => ?_)) (fun _ c => h0 (fun q => ?_)) (fun c1 c2 => h1 ?_ ?_))
  · rw [lg_cmp_lt, l_lt] at c; have := q.1; rw [l_le] at this; omega
  · rw [lg_cmp_gt, l_lt] at c; have := q.2; rw [l_le] at this; omega
  · rw [lg_cmp_lt, l_lt] at c1; rw [l_le]; omega
  · rw [lg_cmp_gt, l_lt] at c2; rw [l_le]; omega
theorem w_le (a b : Int32) : a.toInt64 ≤ b.toInt64 ↔ a ≤ b := by rw [l_le, i_le, Int32.toInt_toInt64, Int32.toInt_toInt64]
theorem c_X12_isPerson {x : Int32} (h1 : 0 ≤ x → x < 4 → Q (some (.int 1)) I) (h0 : ¬ (0 ≤ x ∧ x < 4) → Q (some (.int 0)) I) : HCall E me_X12_isPerson (d + 2) [.int x] I Q := by
  have e0 : (0 : Int64) = (0 : Int32).toInt64 := by decide
  have e3 : (3 : Int64) = (3 : Int32).toInt64 := by decide
  refine h_met (by decide) rfl (Nat.le_of_ble_eq_true rfl) (sg_X12_isPerson_0 (c_X12_in (fun c1 c2 => sg_X12_isPerson_9 rfl (h1 ?_ ?_)) (fun c => sg_X12_isPerson_9 rfl (h0 fun q => c ⟨?_, ?_⟩))))
  · rw [e0, w_le] at c1; exact c1
  · rw [e3, w_le, i_le] at c2; rw [i_lt]; have a1 : (3 : Int32).toInt = 3 := rfl; have a2 : (4 : Int32).toInt = 4 := rfl; omega
  · rw [e0, w_le]; exact q.1
  · rw [e3, w_le, i_le]; have := q.2; rw [i_lt] at this; have a1 : (3 : Int32).toInt = 3 := rfl; have a2 : (4 : Int32).toInt = 4 := rfl; omega
theorem c_X9_hasKind {k : Int32} (h1 : 0 ≤ k → k < I 1 9 → Q (some (.int 1)) I) (h0 : ¬ (0 ≤ k ∧ k < I 1 9) → Q (some (.int 0)) I) : HCall E me_X9_hasKind (d + 1) [.ref 1, .int k] I Q :=
  h_met (by decide) rfl (Nat.le_of_ble_eq_true rfl) (sg_X9_hasKind_0 (fun c => h0 (fun q => i_lt_n c q.1)) (fun _ c => h0 (fun q => i_lt_n q.2 c)) (fun c1 c2 => h1 (i_nlt c1) (i_nle c2)))
theorem c_X12_isKind {k : Int32} (h1 : 0 ≤ k → k ≤ I 87 6 - 1 → Q (some (.int 1)) I) (h0 : ¬ (0 ≤ k ∧ k ≤ I 87 6 - 1) → Q (some (.int 0)) I) : HCall E me_X12_isKind (d + 2) [.ref 87, .int k] I Q := by
  have e0 : (0 : Int64) = (0 : Int32).toInt64 := by decide
  refine h_met (by decide) rfl (Nat.le_of_ble_eq_true rfl) (sg_X12_isKind_0 (c_X12_in (fun c1 c2 => sg_X12_isKind_13 rfl (h1 ?_ ?_)) (fun c => sg_X12_isKind_13 rfl (h0 fun q => c ⟨?_, ?_⟩))))
  · rw [e0, w_le] at c1; exact c1
  · rw [w_le] at c2; exact c2
  · rw [e0, w_le]; exact q.1
  · rw [w_le]; exact q.2
theorem c_X12_visitsLeft (h : Q (some (.int ((I 87 13) - (I 88 30)))) I) : HCall E me_X12_visitsLeft (d + 1) [.ref 87] I Q := h_met (by decide) rfl (Nat.le_of_ble_eq_true rfl) (sg_X12_visitsLeft_0 h)
theorem c_X9_greatestTaken {k : Int32} (h1 : I 1 11 = 1 → Q (some (.int k)) I) (h0 : ¬ I 1 11 = 1 → Q (some (.int (k - 1))) I) : HCall E me_X9_greatestTaken (d + 1) [.ref 1, .int k] I Q := h_met (by decide) rfl (Nat.le_of_ble_eq_true rfl) (sg_X9_greatestTaken_0 h0 h1)
theorem c_X9_mostTakenOfKind (h1 : I 1 11 = 2 → Q (some (.int 1)) I) (h0 : ¬ I 1 11 = 2 → Q (some (.int 1000000)) I) : HCall E me_X9_mostTakenOfKind (d + 1) [.ref 1] I Q := h_met (by decide) rfl (Nat.le_of_ble_eq_true rfl) (sg_X9_mostTakenOfKind_0 h0 h1)
theorem c_X9_takesOneKind (h1 : I 1 11 = 2 ∨ I 1 11 = 3 → Q (some (.int 1)) I) (h0 : ¬ (I 1 11 = 2 ∨ I 1 11 = 3) → Q (some (.int 0)) I) : HCall E me_X9_takesOneKind (d + 1) [.ref 1] I Q :=
  h_met (by decide) rfl (Nat.le_of_ble_eq_true rfl) (sg_X9_takesOneKind_0 (fun c => h1 (Or.inl c)) (fun c1 c2 => h0 (fun q => q.elim c1 c2)) (fun _ c => h1 (Or.inr c)))
theorem c_X11_goalFor {p z : Int32} (h : Q (some (.int (z <<< ((4 * p) &&& 31)))) I) : HCall E me_X11_goalFor (d + 1) [.int p, .int z] I Q := h_met (by decide) rfl (Nat.le_of_ble_eq_true rfl) (sg_X11_goalFor_0 h)
theorem c_X12_has {z k : Int32} (h1 : (z >>> (k &&& 31)) &&& 1 = 1 → Q (some (.int 1)) I) (h0 : ¬ (z >>> (k &&& 31)) &&& 1 = 1 → Q (some (.int 0)) I) : HCall E me_X12_has (d + 1) [.int z, .int k] I Q := h_met (by decide) rfl (Nat.le_of_ble_eq_true rfl) (sg_X12_has_0 h0 h1)
theorem c_X12_sort {x : Int32} (h1 : 97 ≤ x ∧ x ≤ 122 → Q (some (.int 1)) I) (h2 : 48 ≤ x ∧ x ≤ 57 → Q (some (.int 2)) I) (h0 : ¬ (97 ≤ x ∧ x ≤ 122) → ¬ (48 ≤ x ∧ x ≤ 57) → Q (some (.int 0)) I) : HCall E me_X12_sort (d + 1) [.int x] I Q :=
  h_met (by decide) rfl (Nat.le_of_ble_eq_true rfl) (sg_X12_sort_0 (fun a b => h0 (fun q => i_lt_n a q.1) (fun q => i_lt_n b q.1)) (fun a _ c => h0 (fun q => i_lt_n a q.1) (fun q => i_lt_n c q.2)) (fun _ b c => h2 ⟨i_nlt b, i_nlt c⟩) (fun _ b c => h0 (fun q => i_lt_n b q.2) (fun q => i_lt_n c q.1)) (fun _ b _ e => h0 (fun q => i_lt_n b q.2) (fun q => i_lt_n e q.2)) (fun _ _ c e => h2 ⟨i_nlt c, i_nlt e⟩) (fun a b => h1 ⟨i_nlt a, i_nlt b⟩))
/-- 1 a letter, 2 a digit, 0 all else -/
def fSort (x : Int32) : Int32 := if 97 ≤ x ∧ x ≤ 122 then 1 else if 48 ≤ x ∧ x ≤ 57 then 2 else 0
theorem c1_sort {x : Int32} (q : Q (some (.int (fSort x))) I) : HCall E me_X12_sort (d + 1) [.int x] I Q := by
  unfold fSort at q
  refine c_X12_sort (fun h => by rw [if_pos h] at q; exact q) (fun h => ?_) (fun h1 h2 => by rw [if_neg h1, if_neg h2] at q; exact q)
  rw [if_neg, if_pos h] at q
  · exact q
  · intro z
    have a := z.1; have b := h.2
    rw [i_le] at a b
    have e1 : (97 : Int32).toInt = 97 := rfl
    have e2 : (57 : Int32).toInt = 57 := rfl
    omega
end CONA
section TSW
variable {x : Int32}
theorem tsw_out4 (c0 : ¬ x = 0) (c1 : ¬ x = 1) (c2 : ¬ x = 2) (c3 : ¬ x = 3) : x.toInt < 0 ∨ 3 < x.toInt := by
  have a0 := lv_neT c0 (a := 0) rfl; have a1 := lv_neT c1 (a := 1) rfl; have a2 := lv_neT c2 (a := 2) rfl; have a3 := lv_neT c3 (a := 3) rfl
  omega
theorem tsw_out103 (c1 : ¬ x = 1) (c2 : ¬ x = 2) (c3 : ¬ x = 3) : x.toInt < 1 ∨ 3 < x.toInt := by
  have a1 := lv_neT c1 (a := 1) rfl; have a2 := lv_neT c2 (a := 2) rfl; have a3 := lv_neT c3 (a := 3) rfl
  omega
theorem tsw_out5 (c0 : ¬ x = 0) (c1 : ¬ x = 1) (c2 : ¬ x = 2) (c3 : ¬ x = 3) (c4 : ¬ x = 4) : x.toInt < 0 ∨ 4 < x.toInt := by
  have a0 := lv_neT c0 (a := 0) rfl; have a1 := lv_neT c1 (a := 1) rfl; have a2 := lv_neT c2 (a := 2) rfl; have a3 := lv_neT c3 (a := 3) rfl; have a4 := lv_neT c4 (a := 4) rfl
  omega
theorem tsw_out8 (c0 : ¬ x = 0) (c1 : ¬ x = 1) (c2 : ¬ x = 2) (c3 : ¬ x = 3) (c4 : ¬ x = 4) (c5 : ¬ x = 5) (c6 : ¬ x = 6) (c7 : ¬ x = 7) : x.toInt < 0 ∨ 7 < x.toInt := by
  have a0 := lv_neT c0 (a := 0) rfl; have a1 := lv_neT c1 (a := 1) rfl; have a2 := lv_neT c2 (a := 2) rfl; have a3 := lv_neT c3 (a := 3) rfl; have a4 := lv_neT c4 (a := 4) rfl; have a5 := lv_neT c5 (a := 5) rfl; have a6 := lv_neT c6 (a := 6) rfl; have a7 := lv_neT c7 (a := 7) rfl
  omega
theorem tsw_out10 (c0 : ¬ x = 0) (c1 : ¬ x = 1) (c2 : ¬ x = 2) (c3 : ¬ x = 3) (c4 : ¬ x = 4) (c5 : ¬ x = 5) (c6 : ¬ x = 6) (c7 : ¬ x = 7) (c8 : ¬ x = 8) (c9 : ¬ x = 9) : x.toInt < 0 ∨ 9 < x.toInt := by
  have a0 := lv_neT c0 (a := 0) rfl; have a1 := lv_neT c1 (a := 1) rfl; have a2 := lv_neT c2 (a := 2) rfl; have a3 := lv_neT c3 (a := 3) rfl; have a4 := lv_neT c4 (a := 4) rfl; have a5 := lv_neT c5 (a := 5) rfl; have a6 := lv_neT c6 (a := 6) rfl; have a7 := lv_neT c7 (a := 7) rfl; have a8 := lv_neT c8 (a := 8) rfl; have a9 := lv_neT c9 (a := 9) rfl
  omega
end TSW
