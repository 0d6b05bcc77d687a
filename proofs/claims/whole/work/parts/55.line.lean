/-! a line into the draft: what is still wanted of the strings, and the ends of a line -/
/-- the contract of x's readWord (to be proved from the strings) -/
def RWord (E : HEn) : Prop := ∀ (d : Nat) (Q : Option Value → HIh → Prop) (J : HIh) (f : Nat → Nat) (n P i : Nat), i < 10 → TkX J f n P → (tokB f n P = wd i → ∀ K, Fr 19 [4, 5, 6] J K → TkX K f n (tN f n P) → Q (some (.int 1)) K) → (¬ tokB f n P = wd i → Q (some (.int 0)) J) → HCall E me_X7_readWord (d + 4) [.ref 19, .ref (1000 + i)] J Q
theorem wd_inj : ∀ a, a < 10 → ∀ b, b < 10 → wd a = wd b → a = b := by decide +kernel
theorem wO_wd {f : Nat → Nat} {n P w : Nat} (hw : w < 10) (h : tokB f n P = wd w) : wO f n P = nI w := by
  unfold wO
  rw [h]
  rcases (show w = 0 ∨ w = 1 ∨ w = 2 ∨ w = 3 ∨ w = 4 ∨ w = 5 ∨ w = 6 ∨ w = 7 ∨ w = 8 ∨ w = 9 by omega) with rfl | rfl | rfl | rfl | rfl | rfl | rfl | rfl | rfl | rfl <;> decide +kernel
theorem wO_no {f : Nat → Nat} {n P : Nat} (h : ∀ i, i < 10 → ¬ tokB f n P = wd i) : wO f n P = -1 := by
  unfold wO
  rw [if_neg (h 3 (by decide)), if_neg (h 4 (by decide)), if_neg (h 5 (by decide)), if_neg (h 6 (by decide)), if_neg (h 0 (by decide)), if_neg (h 1 (by decide)), if_neg (h 2 (by decide)), if_neg (h 7 (by decide)), if_neg (h 8 (by decide)), if_neg (h 9 (by decide))]
section LINEX
variable {E : HEn} {d : Nat} {Q : Option Value → HIh → Prop} {I : HIh}
theorem c_isSemicolon {f : Nat → Nat} {n P : Nat} (ht : TkX I f n P) (q1 : P < n → f P = 59 → Q (some (.int 1)) I) (q0 : ¬ (P < n ∧ f P = 59) → Q (some (.int 0)) I) : HCall E me_X7_isSemicolon (d + 2) [.ref 19] I Q := by
  obtain ⟨⟨x1, x2, x3⟩, hPn, t4, t5, t6⟩ := ht
  have k3 := tK_le f n P
  have e6 : I 19 6 = 3 ↔ tK f n P = 3 := by rw [t6]; exact nI_eq (b := 3) (by omega) (by decide)
  have e59 : P < n → (fByte (I 19 2) (I 20) (I 19 4) = 59 ↔ f P = 59) := fun w => by
    rw [x1, t4, fByte_n _ w x2, (x3 P w).2]; exact nI_eq (b := 59) (by have := (x3 P w).1; omega) (by decide)
  have lt3 : tK f n P = 3 → P < n := fun w => by
    unfold tK at w
    by_cases h : P < n
    · exact h
    · rw [if_neg h] at w; omega
  have semi : P < n ∧ f P = 59 → tK f n P = 3 := fun w => by
    unfold tK; rw [if_pos w.1, w.2, if_pos (by decide)]
  refine h_met (by decide) rfl (Nat.le_of_ble_eq_true rfl) (sg_X7_isSemicolon_0 (fun z => ?_) (fun z y => ?_) (fun z y => ?_))
  all_goals rw [e6] at z
  · exact q0 (fun w => z (semi w))
  · rw [e59 (lt3 z)] at y
    exact q0 (fun w => y w.2)
  · rw [e59 (lt3 z)] at y
    exact q1 (lt3 z) y
theorem c_leaveAlone (q : Q (some (.int 1)) (setI I 21 (upd (I 21) 10 0))) : HCall E me_X7_leaveAlone (d + 1) [.ref 19] I Q := h_met (by decide) rfl (Nat.le_of_ble_eq_true rfl) (sg_X7_leaveAlone_0 q)
end LINEX
