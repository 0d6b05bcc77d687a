/-! what may have lain there: side by side -/
theorem Rel.ofL {I J : HIh} (h : Rel I) (e : ∀ a, a ∈ keyL → a ≠ 80 → a ≠ 88 → J a = I a) (h80 : J 80 6 = I 80 6) (r : ∀ x, x < 93 → J 88 x = I 88 x) : Rel J := by
  obtain ⟨c, s, t, hc, hm, hn, hk, ht, ho, hf, ha⟩ := h
  have g : ∀ a : Nat, a ∈ keyL → a ≠ 80 → a ≠ 88 → ∀ j, J a j = I a j := fun a ha n m j => congrFun (e a ha n m) j
  refine ⟨c, s, t, hc.of ⟨e 1 (by decide) (by decide) (by decide), e 6 (by decide) (by decide) (by decide), e 7 (by decide) (by decide) (by decide), e 8 (by decide) (by decide) (by decide), e 9 (by decide) (by decide) (by decide)⟩, hm.of ⟨g 87 (by decide) (by decide) (by decide) 6, g 87 (by decide) (by decide) (by decide) 13, g 87 (by decide) (by decide) (by decide) 11, e 92 (by decide) (by decide) (by decide), e 94 (by decide) (by decide) (by decide), e 95 (by decide) (by decide) (by decide), e 96 (by decide) (by decide) (by decide)⟩, hn.of ⟨e 13 (by decide) (by decide) (by decide), g 12 (by decide) (by decide) (by decide) 1, fun x hx => r x (by omega)⟩, hk.of ⟨g 0 (by decide) (by decide) (by decide) 6, e 89 (by decide) (by decide) (by decide), e 15 (by decide) (by decide) (by decide), e 16 (by decide) (by decide) (by decide), e 17 (by decide) (by decide) (by decide), e 18 (by decide) (by decide) (by decide), fun x _ hx => r x hx⟩, ht.of ⟨g 19 (by decide) (by decide) (by decide) 2, g 87 (by decide) (by decide) (by decide) 3, e 20 (by decide) (by decide) (by decide), e 90 (by decide) (by decide) (by decide)⟩, ho.of ⟨h80, g 87 (by decide) (by decide) (by decide) 27, e 83 (by decide) (by decide) (by decide), e 84 (by decide) (by decide) (by decide), e 101 (by decide) (by decide) (by decide), e 102 (by decide) (by decide) (by decide)⟩, hf.of ⟨g 10 (by decide) (by decide) (by decide) 1, e 11 (by decide) (by decide) (by decide), e 93 (by decide) (by decide) (by decide)⟩, ha.of ⟨g 32 (by decide) (by decide) (by decide) 4, g 32 (by decide) (by decide) (by decide) 5, e 57 (by decide) (by decide) (by decide), e 69 (by decide) (by decide) (by decide)⟩⟩
section LAYT
variable {E : HEn} {d : Nat} {Q : Option Value → HIh → Prop} {I : HIh}
theorem x_lay_ok {c : HCf} {n : Nat} {x2 x3 : Int32} (hc : CC I c) (hn : (n ≤ 1 ∧ x2 = -1 ∧ x3 = -1) ∨ (10 ≤ n ∧ n - 10 < cK c ∧ x2 = nI n - 10 ∧ x3 = -1) ∨ (20 ≤ n ∧ n - 20 < cK c ∧ x2 = -1 ∧ x3 = nI n - 20)) (hle : I 1 9 ≤ 4) (k : HCall E me_X6_searchLayings (d + 4) [.ref 80] I (fun v9 J => HGo E (mF E (d + 5) Q) me_X11_lay 97 [(0, .ref 0), (1, .int (nI n)), (2, .int x2), (3, .int x3)] (v9.toList ++ []) J)) : HCall E me_X11_lay (d + 5) [.ref 0, .int (nI n)] I Q := by
  have hK : cK c ≤ 6 := hc.2.2.2.2.2.2.2.2.1
  refine h_met (by decide) rfl (Nat.le_of_ble_eq_true rfl) ?_
  rcases hn with ⟨h, rfl, rfl⟩ | ⟨h1, h2, rfl, rfl⟩ | ⟨h1, h2, rfl, rfl⟩
  · rcases (show n = 0 ∨ n = 1 by omega) with rfl | rfl <;> apply sg_X11_lay_0 <;> intros <;> first | contradiction | exact k
  · have hh : (0 : Int32) ≤ nI n - 10 ∧ nI n - 10 < I 1 9 := (kx hc).mpr ⟨n - 10, h2, nI_sub (b := 10) (by omega) (by omega)⟩
    rcases (show n = 10 ∨ n = 11 ∨ n = 12 ∨ n = 13 ∨ n = 14 ∨ n = 15 by omega) with rfl | rfl | rfl | rfl | rfl | rfl <;> apply sg_X11_lay_0 <;> intros <;> first | contradiction | exact k
  · have hh : (0 : Int32) ≤ nI n - 20 ∧ nI n - 20 < I 1 9 := (kx hc).mpr ⟨n - 20, h2, nI_sub (b := 20) (by omega) (by omega)⟩
    rcases (show n = 20 ∨ n = 21 ∨ n = 22 ∨ n = 23 ∨ n = 24 ∨ n = 25 by omega) with rfl | rfl | rfl | rfl | rfl | rfl <;> apply sg_X11_lay_0 <;> intros <;> first | contradiction | exact k
theorem x_lay_no {c : HCf} {n : Nat} (hc : CC I c) (hn : n ≤ 1 ∨ (10 ≤ n ∧ n - 10 < cK c) ∨ (20 ≤ n ∧ n - 20 < cK c)) (hle : ¬ I 1 9 ≤ 4) (k : Q (some (.int (-4))) I) : HCall E me_X11_lay (d + 5) [.ref 0, .int (nI n)] I Q := by
  have hK : cK c ≤ 6 := hc.2.2.2.2.2.2.2.2.1
  refine h_met (by decide) rfl (Nat.le_of_ble_eq_true rfl) ?_
  rcases hn with h | ⟨h1, h2⟩ | ⟨h1, h2⟩
  · rcases (show n = 0 ∨ n = 1 by omega) with rfl | rfl <;> apply sg_X11_lay_0 <;> intros <;> first | exact k | contradiction
  · have hh : (0 : Int32) ≤ nI n - 10 ∧ nI n - 10 < I 1 9 := (kx hc).mpr ⟨n - 10, h2, nI_sub (b := 10) (by omega) (by omega)⟩
    rcases (show n = 10 ∨ n = 11 ∨ n = 12 ∨ n = 13 ∨ n = 14 ∨ n = 15 by omega) with rfl | rfl | rfl | rfl | rfl | rfl <;> apply sg_X11_lay_0 <;> intros <;> first | exact k | contradiction
  · have hh : (0 : Int32) ≤ nI n - 20 ∧ nI n - 20 < I 1 9 := (kx hc).mpr ⟨n - 20, h2, nI_sub (b := 20) (by omega) (by omega)⟩
    rcases (show n = 20 ∨ n = 21 ∨ n = 22 ∨ n = 23 ∨ n = 24 ∨ n = 25 by omega) with rfl | rfl | rfl | rfl | rfl | rfl <;> apply sg_X11_lay_0 <;> intros <;> first | exact k | contradiction
theorem x_lay_out {a : Int32} (n0 : ¬ a = 0) (n1 : ¬ a = 1) (n10 : ¬ ((0 : Int32) ≤ a - 10 ∧ a - 10 < I 1 9)) (n20 : ¬ ((0 : Int32) ≤ a - 20 ∧ a - 20 < I 1 9)) (k : Q (some (.int (-3))) I) : HCall E me_X11_lay (d + 5) [.ref 0, .int a] I Q := by
  refine h_met (by decide) rfl (Nat.le_of_ble_eq_true rfl) ?_
  apply sg_X11_lay_0 <;> intros <;> first | exact k | contradiction | exact absurd (And.intro (by assumption) (by assumption)) n10 | exact absurd (And.intro (by assumption) (by assumption)) n20
theorem w10 {c : HCf} {a : Int32} {b : Nat} (hm : MC I c) (hb : b ≤ 20) : (nI b ≤ a ∧ a ≤ nI b - 1 + I 87 6) ↔ ∃ k, k < cK c ∧ a = nI (b + k) := by
  have hK : cK c ≤ 6 := hm.2.2.2.2.2.2.2.2.1
  have h1 : 1 ≤ cK c := hm.2.2.2.2.2.2.2.1
  rw [hm.1, i_le, i_le, fb_addI, fb_subI, nI_toInt (by omega), nI_toInt (by omega), z1]
  · constructor
    · rintro ⟨x, y⟩
      obtain ⟨j, hj, rfl⟩ := nI_of (x := a) (fun w => by rw [i_lt, z0] at w; omega)
      rw [nI_toInt (by omega)] at x y
      exact ⟨j - b, by omega, by congr 1; omega⟩
    · rintro ⟨k, hk, rfl⟩
      rw [nI_toInt (by omega)]; omega
  all_goals (try rw [fb_subI]) <;> (try rw [nI_toInt (show b < 2 ^ 31 by omega)]) <;> (try rw [nI_toInt (show cK c < 2 ^ 31 by omega)]) <;> (try rw [z1]) <;> omega
end LAYT
