/-! powers of seven -/
section POW
variable {E : HEn} {d : Nat} {Q : Option Value → HIh → Prop} {I : HIh}
theorem pow_le {n : Nat} (h : n ≤ 10) : 7 ^ n ≤ 282475249 := by
  have : ∀ n, n < 11 → 7 ^ n ≤ 282475249 := by decide +kernel
  exact this n (by omega)
theorem pow_loop {n : Nat} (hn : n ≤ 10) (q : Q (some (.int (nI (7 ^ n)))) I) : ∀ (m j : Nat), j + m = n → HGo E (mF E (d + 1) Q) me_X12_powerOf 4 [(0, .int (nI n)), (1, .int (nI (7 ^ j))), (2, .int (nI j))] [] I
  | m, j, hj => by
    refine sg_X12_powerOf_4 (fun z => ?_) (fun z => ?_)
    · rw [nI_leI (by omega) (by omega)] at z
      have : j = n := by omega
      subst this; exact q
    · rw [nI_leI (by omega) (by omega)] at z
      obtain ⟨m, rfl⟩ : ∃ k, m = k + 1 := ⟨m - 1, by omega⟩
      rw [show (7 : Int32) = nI 7 from rfl, pk_mul, ← Nat.pow_succ, nI_1]
      exact pow_loop hn q m (j + 1) (by omega)
theorem m_powerOf {n : Nat} (hn : n ≤ 10) (q : Q (some (.int (nI (7 ^ n)))) I) : HCall E me_X12_powerOf (d + 1) [.int (nI n)] I Q :=
  h_met (by decide) rfl (Nat.le_of_ble_eq_true rfl) (sg_X12_powerOf_0 (pow_loop hn q n 0 (by omega)))
end POW
