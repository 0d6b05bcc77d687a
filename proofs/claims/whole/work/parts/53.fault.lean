/-! fault: the reference -/
section FAULT2
variable {E : HEn} {d : Nat} {Q : Option Value → HIh → Prop} {I : HIh}
theorem m_fault {f : Nat → Nat} {n k vc : Nat} (ht : TxM I f n) (h6 : I 87 6 = nI k) (h13 : I 87 13 = nI vc) (hvc : vc ≤ 24) (q : ∀ K, FrF I K → ((fltP f n 10 (tP f n 0) k vc).1 = none → K 87 5 = nI (fltP f n 10 (tP f n 0) k vc).2.length ∧ RecsM K (fltP f n 10 (tP f n 0) k vc).2) → Q (some (.int (oP (fltP f n 10 (tP f n 0) k vc).1))) K) : HCall E me_X12_fault (d + 7) [.ref 87] I Q := by
  refine h_met (by decide) rfl (Nat.le_of_ble_eq_true rfl) (sg_X12_fault_0 ?_)
  rw [setI_setI, setI_setI, setI_setI]
  have off : ∀ j, j ≠ 14 → j ≠ 5 → j ≠ 17 → j ≠ 18 → (setI I 87 (upd (upd (upd (upd (I 87) 14 0) 5 0) 17 (I 87 6)) 18 (I 87 13))) 87 j = I 87 j := fun j a b c e => by
    rw [setI_same, upd_off _ e, upd_off _ c, upd_off _ b, upd_off _ a]
  have s5 : (setI I 87 (upd (upd (upd (upd (I 87) 14 0) 5 0) 17 (I 87 6)) 18 (I 87 13))) 87 5 = nI 0 := by rw [setI_same, upd_off _ (by decide), upd_off _ (by decide), upd_at _ rfl]; rfl
  have s14 : (setI I 87 (upd (upd (upd (upd (I 87) 14 0) 5 0) 17 (I 87 6)) 18 (I 87 13))) 87 14 = nI 0 := by rw [setI_same, upd_off _ (by decide), upd_off _ (by decide), upd_off _ (by decide), upd_at _ rfl]; rfl
  have s17 : (setI I 87 (upd (upd (upd (upd (I 87) 14 0) 5 0) 17 (I 87 6)) 18 (I 87 13))) 87 17 = nI k := by rw [setI_same, upd_off _ (by decide), upd_at _ rfl]; exact h6
  have s18 : (setI I 87 (upd (upd (upd (upd (I 87) 14 0) 5 0) 17 (I 87 6)) 18 (I 87 13))) 87 18 = nI vc := by rw [setI_same, upd_at _ rfl]; exact h13
  have oth : ∀ a, a ≠ 87 → (setI I 87 (upd (upd (upd (upd (I 87) 14 0) 5 0) 17 (I 87 6)) 18 (I 87 13))) a = I a := fun a ha => setI_ne _ _ ha
  generalize setI I 87 (upd (upd (upd (upd (I 87) 14 0) 5 0) 17 (I 87 6)) 18 (I 87 13)) = S at off s5 s14 s17 s18 oth
  obtain ⟨x1, x2, x3⟩ := ht
  have tx : TxM S f n := ⟨(off 3 (by decide) (by decide) (by decide) (by decide)).trans x1, x2, fun j hj => by rw [oth 90 (by decide)]; exact x3 j hj⟩
  refine m_token tx (Nat.zero_le n) s14 (fun J f1 f4 f5 f6 => sg_X12_fault_30 ?_)
  have ffr : FrF I J := ⟨fun a n1 _ => (f1.1 a n1).trans (oth a n1), fun j hj => (f1.2 j (fun w => hj (by simp at w ⊢; omega))).trans (off j (fun w => hj (by rw [w]; decide)) (fun w => hj (by rw [w]; decide)) (fun w => hj (by rw [w]; decide)) (fun w => hj (by rw [w]; decide)))⟩
  exact flt_loop q 9 (tP f n 0) k vc [] J _ rfl ffr ⟨tx.fr f1 (by decide), (tP_b (Nat.zero_le n)).2, f4, f5, f6⟩ ((f1.2 5 (by decide)).trans s5) ((f1.2 17 (by decide)).trans s17) ((f1.2 18 (by decide)).trans s18) hvc (fun i hi => absurd hi (Nat.not_lt_zero _)) rfl (fun K h => sg_X12_fault_34 (fun _ => h) (fun z => absurd z (by decide))) (fun K h => sg_X12_fault_34 (fun z => absurd rfl z) (fun _ => h))
end FAULT2
