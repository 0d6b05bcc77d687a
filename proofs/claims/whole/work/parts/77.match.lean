/-! the heap behind the two constructors, label by label -/
/-- the label's place in the order of making -/
def kpi (q : Nat) : Nat := if q < 34 then q else if q < 56 then q + 24 else if q < 80 then q - 22 else q
theorem kpi_lt {q : Nat} (h : q < 103) : kpi q < 103 := by
  unfold kpi
  by_cases h1 : q < 34
  · rw [if_pos h1]; omega
  · rw [if_neg h1]
    by_cases h2 : q < 56
    · rw [if_pos h2]; omega
    · rw [if_neg h2]
      by_cases h3 : q < 80
      · rw [if_pos h3]; omega
      · rw [if_neg h3]; omega
theorem kpi_inj {i j : Nat} (h : kpi i = kpi j) : i = j := by
  unfold kpi at h
  by_cases h1 : i < 34 <;> by_cases h2 : i < 56 <;> by_cases h3 : i < 80 <;> by_cases h4 : j < 34 <;> by_cases h5 : j < 56 <;> by_cases h6 : j < 80 <;> simp [h1, h2, h3, h4, h5, h6] at h <;> omega
/-- the start's ints -/
def i0 : HIh := fun q => if q = 1 ∨ q = 21 then (fun j => if j = 9 then 1 else 0) else if q = 6 ∨ q = 26 then upd (fun _ => 0) 0 1 else if q = 32 then (fun j => if j = 4 then -1 else 0) else if q = 87 then (fun j => if j = 6 then 1 else 0) else if q = 92 then upd (upd (upd (upd (upd (upd (fun _ => 0) 0 1) 1 0) 2 0) 3 0) 4 0) 5 0 else fun _ => 0
def kE (E : KEn) (g : Nat → Nat) : HEn := (E.1, E.2.1, E.2.2.1, fun q => if q < 103 then E.2.2.2 + kpi q else g q)
theorem kE_at {E : KEn} {g : Nat → Nat} {q : Nat} (h : q < 103) : (kE E g).2.2.2 q = E.2.2.2 + kpi q := if_pos h
def KM (E : KEn) (g : Nat → Nat) (X : Nat → va_E) (q : Nat) : Prop := ∀ (D : va_G) (H : Heap), va_at D vwCl (E.2.2.2 + kpi q, z_law E X (kpi q)) H → va_at D vwCl ((kE E g).2.2.2 q, cel (kE E g) (i0 q) q) H
theorem km_of {E : KEn} {g : Nat → Nat} {X : Nat → va_E} {q k : Nat} (hq : q < 103) (hk : kpi q = k) (e : z_law E X k = cel (kE E g) (i0 q) q) : KM E g X q := by
  intro D H h
  rw [kE_at hq, ← e, ← hk]
  exact h
theorem arrV_eq {cA : ClassId} {N : Nat} {f f' : Nat → Value} (h : ∀ j, j < N → f j = f' j) : arrV cA N f = arrV cA N f' := by
  unfold arrV
  congr 1
  apply Array.ext
  · simp
  · intro j h3 h4
    rw [Array.getElem_ofFn, Array.getElem_ofFn]
    exact h j (by simpa using h3)
theorem km_arr {E : KEn} {g : Nat → Nat} {X : Nat → va_E} {q k N : Nat} {cA : ClassId} {f f' : Nat → Option Nat} (hq : q < 103) (hk : kpi q = k) (e : z_law E X k = .inl (cA, N, .inr (.inr (.inr (.inr f))))) (e2 : cel (kE E g) (i0 q) q = .inl (cA, N, .inr (.inr (.inr (.inr f'))))) (hf : ∀ j, j < N → f j = f' j) : KM E g X q := by
  intro D H h
  rw [hk, e] at h
  rw [kE_at hq, e2, hk]
  have h2 : H[E.2.2.2 + k]? = some (arrV cA N (fun j => va_rf (f j))) := h
  show H[E.2.2.2 + k]? = some (arrV cA N (fun j => va_rf (f' j)))
  rw [h2, arrV_eq (fun j hj => by rw [hf j hj])]
section KMS
variable {E : KEn} {g : Nat → Nat} {X : Nat → va_E}
set_option maxRecDepth 100000 in
theorem km_0 : KM E g X 0 := km_of (q := 0) (k := 0) (by decide) rfl rfl
set_option maxRecDepth 100000 in
theorem km_1 : KM E g X 1 := km_of (q := 1) (k := 1) (by decide) rfl rfl
set_option maxRecDepth 100000 in
theorem km_2 : KM E g X 2 := km_of (q := 2) (k := 2) (by decide) rfl rfl
set_option maxRecDepth 100000 in
theorem km_3 : KM E g X 3 := km_of (q := 3) (k := 3) (by decide) rfl rfl
set_option maxRecDepth 100000 in
theorem km_4 : KM E g X 4 := km_of (q := 4) (k := 4) (by decide) rfl rfl
set_option maxRecDepth 100000 in
theorem km_5 : KM E g X 5 := km_of (q := 5) (k := 5) (by decide) rfl rfl
set_option maxRecDepth 100000 in
theorem km_6 : KM E g X 6 := km_of (q := 6) (k := 6) (by decide) rfl rfl
set_option maxRecDepth 100000 in
theorem km_7 : KM E g X 7 := km_of (q := 7) (k := 7) (by decide) rfl rfl
set_option maxRecDepth 100000 in
theorem km_8 : KM E g X 8 := km_of (q := 8) (k := 8) (by decide) rfl rfl
set_option maxRecDepth 100000 in
theorem km_9 : KM E g X 9 := km_of (q := 9) (k := 9) (by decide) rfl rfl
set_option maxRecDepth 100000 in
theorem km_10 : KM E g X 10 := km_of (q := 10) (k := 10) (by decide) rfl rfl
set_option maxRecDepth 100000 in
theorem km_11 : KM E g X 11 := km_of (q := 11) (k := 11) (by decide) rfl rfl
set_option maxRecDepth 100000 in
theorem km_12 : KM E g X 12 := km_of (q := 12) (k := 12) (by decide) rfl rfl
set_option maxRecDepth 100000 in
theorem km_13 : KM E g X 13 := km_of (q := 13) (k := 13) (by decide) rfl rfl
set_option maxRecDepth 100000 in
theorem km_14 : KM E g X 14 := km_arr (q := 14) (k := 14) (N := 2) (by decide) rfl rfl rfl (fun j hj => by
  rcases (show j = 0 ∨ j = 1 by omega) with rfl | rfl <;> rfl)
set_option maxRecDepth 100000 in
theorem km_15 : KM E g X 15 := km_of (q := 15) (k := 15) (by decide) rfl rfl
set_option maxRecDepth 100000 in
theorem km_16 : KM E g X 16 := km_of (q := 16) (k := 16) (by decide) rfl rfl
set_option maxRecDepth 100000 in
theorem km_17 : KM E g X 17 := km_of (q := 17) (k := 17) (by decide) rfl rfl
set_option maxRecDepth 100000 in
theorem km_18 : KM E g X 18 := km_of (q := 18) (k := 18) (by decide) rfl rfl
set_option maxRecDepth 100000 in
theorem km_19 : KM E g X 19 := km_of (q := 19) (k := 19) (by decide) rfl rfl
set_option maxRecDepth 100000 in
theorem km_20 : KM E g X 20 := km_of (q := 20) (k := 20) (by decide) rfl rfl
set_option maxRecDepth 100000 in
theorem km_21 : KM E g X 21 := km_of (q := 21) (k := 21) (by decide) rfl rfl
set_option maxRecDepth 100000 in
theorem km_22 : KM E g X 22 := km_of (q := 22) (k := 22) (by decide) rfl rfl
set_option maxRecDepth 100000 in
theorem km_23 : KM E g X 23 := km_of (q := 23) (k := 23) (by decide) rfl rfl
set_option maxRecDepth 100000 in
theorem km_24 : KM E g X 24 := km_of (q := 24) (k := 24) (by decide) rfl rfl
set_option maxRecDepth 100000 in
theorem km_25 : KM E g X 25 := km_of (q := 25) (k := 25) (by decide) rfl rfl
set_option maxRecDepth 100000 in
theorem km_26 : KM E g X 26 := km_of (q := 26) (k := 26) (by decide) rfl rfl
set_option maxRecDepth 100000 in
theorem km_27 : KM E g X 27 := km_of (q := 27) (k := 27) (by decide) rfl rfl
set_option maxRecDepth 100000 in
theorem km_28 : KM E g X 28 := km_of (q := 28) (k := 28) (by decide) rfl rfl
set_option maxRecDepth 100000 in
theorem km_29 : KM E g X 29 := km_of (q := 29) (k := 29) (by decide) rfl rfl
set_option maxRecDepth 100000 in
theorem km_30 : KM E g X 30 := km_of (q := 30) (k := 30) (by decide) rfl rfl
set_option maxRecDepth 100000 in
theorem km_31 : KM E g X 31 := km_of (q := 31) (k := 31) (by decide) rfl rfl
set_option maxRecDepth 100000 in
theorem km_32 : KM E g X 32 := km_of (q := 32) (k := 32) (by decide) rfl rfl
set_option maxRecDepth 100000 in
theorem km_33 : KM E g X 33 := km_arr (q := 33) (k := 33) (N := 11) (by decide) rfl rfl rfl (fun j hj => by
  rcases (show j = 0 ∨ j = 1 ∨ j = 2 ∨ j = 3 ∨ j = 4 ∨ j = 5 ∨ j = 6 ∨ j = 7 ∨ j = 8 ∨ j = 9 ∨ j = 10 by omega) with rfl | rfl | rfl | rfl | rfl | rfl | rfl | rfl | rfl | rfl | rfl <;> rfl)
set_option maxRecDepth 100000 in
theorem km_34 : KM E g X 34 := km_of (q := 34) (k := 58) (by decide) rfl rfl
set_option maxRecDepth 100000 in
theorem km_35 : KM E g X 35 := km_of (q := 35) (k := 59) (by decide) rfl rfl
set_option maxRecDepth 100000 in
theorem km_36 : KM E g X 36 := km_of (q := 36) (k := 60) (by decide) rfl rfl
set_option maxRecDepth 100000 in
theorem km_37 : KM E g X 37 := km_of (q := 37) (k := 61) (by decide) rfl rfl
set_option maxRecDepth 100000 in
theorem km_38 : KM E g X 38 := km_of (q := 38) (k := 62) (by decide) rfl rfl
set_option maxRecDepth 100000 in
theorem km_39 : KM E g X 39 := km_of (q := 39) (k := 63) (by decide) rfl rfl
set_option maxRecDepth 100000 in
theorem km_40 : KM E g X 40 := km_of (q := 40) (k := 64) (by decide) rfl rfl
set_option maxRecDepth 100000 in
theorem km_41 : KM E g X 41 := km_of (q := 41) (k := 65) (by decide) rfl rfl
set_option maxRecDepth 100000 in
theorem km_42 : KM E g X 42 := km_of (q := 42) (k := 66) (by decide) rfl rfl
set_option maxRecDepth 100000 in
theorem km_43 : KM E g X 43 := km_of (q := 43) (k := 67) (by decide) rfl rfl
set_option maxRecDepth 100000 in
theorem km_44 : KM E g X 44 := km_of (q := 44) (k := 68) (by decide) rfl rfl
set_option maxRecDepth 100000 in
theorem km_45 : KM E g X 45 := km_of (q := 45) (k := 69) (by decide) rfl rfl
set_option maxRecDepth 100000 in
theorem km_46 : KM E g X 46 := km_of (q := 46) (k := 70) (by decide) rfl rfl
set_option maxRecDepth 100000 in
theorem km_47 : KM E g X 47 := km_of (q := 47) (k := 71) (by decide) rfl rfl
set_option maxRecDepth 100000 in
theorem km_48 : KM E g X 48 := km_of (q := 48) (k := 72) (by decide) rfl rfl
set_option maxRecDepth 100000 in
theorem km_49 : KM E g X 49 := km_of (q := 49) (k := 73) (by decide) rfl rfl
set_option maxRecDepth 100000 in
theorem km_50 : KM E g X 50 := km_of (q := 50) (k := 74) (by decide) rfl rfl
set_option maxRecDepth 100000 in
theorem km_51 : KM E g X 51 := km_of (q := 51) (k := 75) (by decide) rfl rfl
set_option maxRecDepth 100000 in
theorem km_52 : KM E g X 52 := km_of (q := 52) (k := 76) (by decide) rfl rfl
set_option maxRecDepth 100000 in
theorem km_53 : KM E g X 53 := km_of (q := 53) (k := 77) (by decide) rfl rfl
set_option maxRecDepth 100000 in
theorem km_54 : KM E g X 54 := km_of (q := 54) (k := 78) (by decide) rfl rfl
set_option maxRecDepth 100000 in
theorem km_55 : KM E g X 55 := km_of (q := 55) (k := 79) (by decide) rfl rfl
set_option maxRecDepth 100000 in
theorem km_56 : KM E g X 56 := km_arr (q := 56) (k := 34) (N := 11) (by decide) rfl rfl rfl (fun j hj => by
  rcases (show j = 0 ∨ j = 1 ∨ j = 2 ∨ j = 3 ∨ j = 4 ∨ j = 5 ∨ j = 6 ∨ j = 7 ∨ j = 8 ∨ j = 9 ∨ j = 10 by omega) with rfl | rfl | rfl | rfl | rfl | rfl | rfl | rfl | rfl | rfl | rfl <;> rfl)
set_option maxRecDepth 100000 in
theorem km_57 : KM E g X 57 := km_of (q := 57) (k := 35) (by decide) rfl rfl
set_option maxRecDepth 100000 in
theorem km_58 : KM E g X 58 := km_of (q := 58) (k := 36) (by decide) rfl rfl
set_option maxRecDepth 100000 in
theorem km_59 : KM E g X 59 := km_of (q := 59) (k := 37) (by decide) rfl rfl
set_option maxRecDepth 100000 in
theorem km_60 : KM E g X 60 := km_of (q := 60) (k := 38) (by decide) rfl rfl
set_option maxRecDepth 100000 in
theorem km_61 : KM E g X 61 := km_of (q := 61) (k := 39) (by decide) rfl rfl
set_option maxRecDepth 100000 in
theorem km_62 : KM E g X 62 := km_of (q := 62) (k := 40) (by decide) rfl rfl
set_option maxRecDepth 100000 in
theorem km_63 : KM E g X 63 := km_of (q := 63) (k := 41) (by decide) rfl rfl
set_option maxRecDepth 100000 in
theorem km_64 : KM E g X 64 := km_of (q := 64) (k := 42) (by decide) rfl rfl
set_option maxRecDepth 100000 in
theorem km_65 : KM E g X 65 := km_of (q := 65) (k := 43) (by decide) rfl rfl
set_option maxRecDepth 100000 in
theorem km_66 : KM E g X 66 := km_of (q := 66) (k := 44) (by decide) rfl rfl
set_option maxRecDepth 100000 in
theorem km_67 : KM E g X 67 := km_of (q := 67) (k := 45) (by decide) rfl rfl
set_option maxRecDepth 100000 in
theorem km_68 : KM E g X 68 := km_arr (q := 68) (k := 46) (N := 11) (by decide) rfl rfl rfl (fun j hj => by
  rcases (show j = 0 ∨ j = 1 ∨ j = 2 ∨ j = 3 ∨ j = 4 ∨ j = 5 ∨ j = 6 ∨ j = 7 ∨ j = 8 ∨ j = 9 ∨ j = 10 by omega) with rfl | rfl | rfl | rfl | rfl | rfl | rfl | rfl | rfl | rfl | rfl <;> rfl)
set_option maxRecDepth 100000 in
theorem km_69 : KM E g X 69 := km_of (q := 69) (k := 47) (by decide) rfl rfl
set_option maxRecDepth 100000 in
theorem km_70 : KM E g X 70 := km_of (q := 70) (k := 48) (by decide) rfl rfl
set_option maxRecDepth 100000 in
theorem km_71 : KM E g X 71 := km_of (q := 71) (k := 49) (by decide) rfl rfl
set_option maxRecDepth 100000 in
theorem km_72 : KM E g X 72 := km_of (q := 72) (k := 50) (by decide) rfl rfl
set_option maxRecDepth 100000 in
theorem km_73 : KM E g X 73 := km_of (q := 73) (k := 51) (by decide) rfl rfl
set_option maxRecDepth 100000 in
theorem km_74 : KM E g X 74 := km_of (q := 74) (k := 52) (by decide) rfl rfl
set_option maxRecDepth 100000 in
theorem km_75 : KM E g X 75 := km_of (q := 75) (k := 53) (by decide) rfl rfl
set_option maxRecDepth 100000 in
theorem km_76 : KM E g X 76 := km_of (q := 76) (k := 54) (by decide) rfl rfl
set_option maxRecDepth 100000 in
theorem km_77 : KM E g X 77 := km_of (q := 77) (k := 55) (by decide) rfl rfl
set_option maxRecDepth 100000 in
theorem km_78 : KM E g X 78 := km_of (q := 78) (k := 56) (by decide) rfl rfl
set_option maxRecDepth 100000 in
theorem km_79 : KM E g X 79 := km_of (q := 79) (k := 57) (by decide) rfl rfl
set_option maxRecDepth 100000 in
theorem km_80 : KM E g X 80 := km_of (q := 80) (k := 80) (by decide) rfl rfl
set_option maxRecDepth 100000 in
theorem km_81 : KM E g X 81 := km_of (q := 81) (k := 81) (by decide) rfl rfl
set_option maxRecDepth 100000 in
theorem km_82 : KM E g X 82 := km_of (q := 82) (k := 82) (by decide) rfl rfl
set_option maxRecDepth 100000 in
theorem km_83 : KM E g X 83 := km_of (q := 83) (k := 83) (by decide) rfl rfl
set_option maxRecDepth 100000 in
theorem km_84 : KM E g X 84 := km_of (q := 84) (k := 84) (by decide) rfl rfl
set_option maxRecDepth 100000 in
theorem km_85 : KM E g X 85 := km_of (q := 85) (k := 85) (by decide) rfl rfl
set_option maxRecDepth 100000 in
theorem km_86 : KM E g X 86 := km_of (q := 86) (k := 86) (by decide) rfl rfl
set_option maxRecDepth 100000 in
theorem km_87 : KM E g X 87 := km_of (q := 87) (k := 87) (by decide) rfl rfl
set_option maxRecDepth 100000 in
theorem km_88 : KM E g X 88 := km_of (q := 88) (k := 88) (by decide) rfl rfl
set_option maxRecDepth 100000 in
theorem km_89 : KM E g X 89 := km_of (q := 89) (k := 89) (by decide) rfl rfl
set_option maxRecDepth 100000 in
theorem km_90 : KM E g X 90 := km_of (q := 90) (k := 90) (by decide) rfl rfl
set_option maxRecDepth 100000 in
theorem km_91 : KM E g X 91 := km_of (q := 91) (k := 91) (by decide) rfl rfl
set_option maxRecDepth 100000 in
theorem km_92 : KM E g X 92 := km_of (q := 92) (k := 92) (by decide) rfl rfl
set_option maxRecDepth 100000 in
theorem km_93 : KM E g X 93 := km_of (q := 93) (k := 93) (by decide) rfl rfl
set_option maxRecDepth 100000 in
theorem km_94 : KM E g X 94 := km_of (q := 94) (k := 94) (by decide) rfl rfl
set_option maxRecDepth 100000 in
theorem km_95 : KM E g X 95 := km_of (q := 95) (k := 95) (by decide) rfl rfl
set_option maxRecDepth 100000 in
theorem km_96 : KM E g X 96 := km_of (q := 96) (k := 96) (by decide) rfl rfl
set_option maxRecDepth 100000 in
theorem km_97 : KM E g X 97 := km_of (q := 97) (k := 97) (by decide) rfl rfl
set_option maxRecDepth 100000 in
theorem km_98 : KM E g X 98 := km_of (q := 98) (k := 98) (by decide) rfl rfl
set_option maxRecDepth 100000 in
theorem km_99 : KM E g X 99 := km_of (q := 99) (k := 99) (by decide) rfl rfl
set_option maxRecDepth 100000 in
theorem km_100 : KM E g X 100 := km_of (q := 100) (k := 100) (by decide) rfl rfl
set_option maxRecDepth 100000 in
theorem km_101 : KM E g X 101 := km_of (q := 101) (k := 101) (by decide) rfl rfl
set_option maxRecDepth 100000 in
theorem km_102 : KM E g X 102 := km_of (q := 102) (k := 102) (by decide) rfl rfl
theorem kmc_0 {q : Nat} (h1 : 0 ≤ q) (h2 : q < 13) : KM E g X q := by
  rcases (show q = 0 ∨ q = 1 ∨ q = 2 ∨ q = 3 ∨ q = 4 ∨ q = 5 ∨ q = 6 ∨ q = 7 ∨ q = 8 ∨ q = 9 ∨ q = 10 ∨ q = 11 ∨ q = 12 by omega) with rfl | rfl | rfl | rfl | rfl | rfl | rfl | rfl | rfl | rfl | rfl | rfl | rfl
  · exact km_0
  · exact km_1
  · exact km_2
  · exact km_3
  · exact km_4
  · exact km_5
  · exact km_6
  · exact km_7
  · exact km_8
  · exact km_9
  · exact km_10
  · exact km_11
  · exact km_12
theorem kmc_13 {q : Nat} (h1 : 13 ≤ q) (h2 : q < 26) : KM E g X q := by
  rcases (show q = 13 ∨ q = 14 ∨ q = 15 ∨ q = 16 ∨ q = 17 ∨ q = 18 ∨ q = 19 ∨ q = 20 ∨ q = 21 ∨ q = 22 ∨ q = 23 ∨ q = 24 ∨ q = 25 by omega) with rfl | rfl | rfl | rfl | rfl | rfl | rfl | rfl | rfl | rfl | rfl | rfl | rfl
  · exact km_13
  · exact km_14
  · exact km_15
  · exact km_16
  · exact km_17
  · exact km_18
  · exact km_19
  · exact km_20
  · exact km_21
  · exact km_22
  · exact km_23
  · exact km_24
  · exact km_25
theorem kmc_26 {q : Nat} (h1 : 26 ≤ q) (h2 : q < 39) : KM E g X q := by
  rcases (show q = 26 ∨ q = 27 ∨ q = 28 ∨ q = 29 ∨ q = 30 ∨ q = 31 ∨ q = 32 ∨ q = 33 ∨ q = 34 ∨ q = 35 ∨ q = 36 ∨ q = 37 ∨ q = 38 by omega) with rfl | rfl | rfl | rfl | rfl | rfl | rfl | rfl | rfl | rfl | rfl | rfl | rfl
  · exact km_26
  · exact km_27
  · exact km_28
  · exact km_29
  · exact km_30
  · exact km_31
  · exact km_32
  · exact km_33
  · exact km_34
  · exact km_35
  · exact km_36
  · exact km_37
  · exact km_38
theorem kmc_39 {q : Nat} (h1 : 39 ≤ q) (h2 : q < 52) : KM E g X q := by
  rcases (show q = 39 ∨ q = 40 ∨ q = 41 ∨ q = 42 ∨ q = 43 ∨ q = 44 ∨ q = 45 ∨ q = 46 ∨ q = 47 ∨ q = 48 ∨ q = 49 ∨ q = 50 ∨ q = 51 by omega) with rfl | rfl | rfl | rfl | rfl | rfl | rfl | rfl | rfl | rfl | rfl | rfl | rfl
  · exact km_39
  · exact km_40
  · exact km_41
  · exact km_42
  · exact km_43
  · exact km_44
  · exact km_45
  · exact km_46
  · exact km_47
  · exact km_48
  · exact km_49
  · exact km_50
  · exact km_51
theorem kmc_52 {q : Nat} (h1 : 52 ≤ q) (h2 : q < 65) : KM E g X q := by
  rcases (show q = 52 ∨ q = 53 ∨ q = 54 ∨ q = 55 ∨ q = 56 ∨ q = 57 ∨ q = 58 ∨ q = 59 ∨ q = 60 ∨ q = 61 ∨ q = 62 ∨ q = 63 ∨ q = 64 by omega) with rfl | rfl | rfl | rfl | rfl | rfl | rfl | rfl | rfl | rfl | rfl | rfl | rfl
  · exact km_52
  · exact km_53
  · exact km_54
  · exact km_55
  · exact km_56
  · exact km_57
  · exact km_58
  · exact km_59
  · exact km_60
  · exact km_61
  · exact km_62
  · exact km_63
  · exact km_64
theorem kmc_65 {q : Nat} (h1 : 65 ≤ q) (h2 : q < 78) : KM E g X q := by
  rcases (show q = 65 ∨ q = 66 ∨ q = 67 ∨ q = 68 ∨ q = 69 ∨ q = 70 ∨ q = 71 ∨ q = 72 ∨ q = 73 ∨ q = 74 ∨ q = 75 ∨ q = 76 ∨ q = 77 by omega) with rfl | rfl | rfl | rfl | rfl | rfl | rfl | rfl | rfl | rfl | rfl | rfl | rfl
  · exact km_65
  · exact km_66
  · exact km_67
  · exact km_68
  · exact km_69
  · exact km_70
  · exact km_71
  · exact km_72
  · exact km_73
  · exact km_74
  · exact km_75
  · exact km_76
  · exact km_77
theorem kmc_78 {q : Nat} (h1 : 78 ≤ q) (h2 : q < 91) : KM E g X q := by
  rcases (show q = 78 ∨ q = 79 ∨ q = 80 ∨ q = 81 ∨ q = 82 ∨ q = 83 ∨ q = 84 ∨ q = 85 ∨ q = 86 ∨ q = 87 ∨ q = 88 ∨ q = 89 ∨ q = 90 by omega) with rfl | rfl | rfl | rfl | rfl | rfl | rfl | rfl | rfl | rfl | rfl | rfl | rfl
  · exact km_78
  · exact km_79
  · exact km_80
  · exact km_81
  · exact km_82
  · exact km_83
  · exact km_84
  · exact km_85
  · exact km_86
  · exact km_87
  · exact km_88
  · exact km_89
  · exact km_90
theorem kmc_91 {q : Nat} (h1 : 91 ≤ q) (h2 : q < 103) : KM E g X q := by
  rcases (show q = 91 ∨ q = 92 ∨ q = 93 ∨ q = 94 ∨ q = 95 ∨ q = 96 ∨ q = 97 ∨ q = 98 ∨ q = 99 ∨ q = 100 ∨ q = 101 ∨ q = 102 by omega) with rfl | rfl | rfl | rfl | rfl | rfl | rfl | rfl | rfl | rfl | rfl | rfl
  · exact km_91
  · exact km_92
  · exact km_93
  · exact km_94
  · exact km_95
  · exact km_96
  · exact km_97
  · exact km_98
  · exact km_99
  · exact km_100
  · exact km_101
  · exact km_102
theorem km_all {q : Nat} (h : q < 103) : KM E g X q := by
  rcases Nat.lt_or_ge q 13 with h13 | h13
  · exact kmc_0 (by omega) h13
  rcases Nat.lt_or_ge q 26 with h26 | h26
  · exact kmc_13 (by omega) h26
  rcases Nat.lt_or_ge q 39 with h39 | h39
  · exact kmc_26 (by omega) h39
  rcases Nat.lt_or_ge q 52 with h52 | h52
  · exact kmc_39 (by omega) h52
  rcases Nat.lt_or_ge q 65 with h65 | h65
  · exact kmc_52 (by omega) h65
  rcases Nat.lt_or_ge q 78 with h78 | h78
  · exact kmc_65 (by omega) h78
  rcases Nat.lt_or_ge q 91 with h91 | h91
  · exact kmc_78 (by omega) h91
  exact kmc_91 (by omega) h
/-- the world of the calls stands -/
theorem km_world {D : va_G} {H : Heap} (hP : va_P D vwCl (kws E.2.2.2 (z_law E X) 103) H) : va_P D vwCl (wld (kE E g) i0) H := by
  intro i q hq
  have hi : i < NL := by rw [← wld_len (kE E g) i0]; exact (List.getElem?_eq_some_iff.mp hq).1
  rw [wld_get hi] at hq
  cases hq
  exact km_all hi D H (kP_at hP (kpi_lt hi))
theorem km_inj : HInj (kE E g) := by
  intro i j hi hj h
  rw [kE_at hi, kE_at hj] at h
  exact kpi_inj (Nat.add_left_cancel h)
end KMS
/-- the start: one kind, of worth 1; nobody holds a coin -/
def c0 : HCf := (1, (fun k => if k = 0 then 1 else 0), 0, (fun _ => 0), (fun _ => 0), 0, (fun _ => 0))
theorem rel_i0 : Rel i0 := by
  have hz : ∀ q, q ≠ 1 → q ≠ 21 → q ≠ 6 → q ≠ 26 → q ≠ 32 → q ≠ 87 → q ≠ 92 → i0 q = fun _ => 0 := by
    intro q h1 h2 h3 h4 h5 h6 h7
    unfold i0
    rw [if_neg (by omega), if_neg (by omega), if_neg h5, if_neg h6, if_neg h7]
  have ok : CfOk c0 := by
    refine ⟨by decide, by decide, fun k _ => ?_, by decide, fun _ _ => Nat.zero_le _, fun _ _ => Nat.zero_le _, by decide, fun t ht => absurd ht (Nat.not_lt_zero _)⟩
    show (if k = 0 then 1 else 0) ≤ 999
    by_cases h : k = 0
    · rw [if_pos h]; decide
    · rw [if_neg h]; decide
  have hl : ∀ q, i0 q = (fun _ => 0) → LotC (i0 q) (fun _ _ => 0) := fun q h o _ k _ => by rw [h]; rfl
  have hr : ∀ q, i0 q = (fun _ => 0) → ∀ b, RowC (i0 q) b (fun _ _ => 0) := fun q h b => by
    rw [h]; exact ⟨fun k _ => rfl, fun i _ k _ => rfl⟩
  refine ⟨c0, fun _ _ => 0, 0, ⟨rfl, rfl, rfl, fun k hk => ?_, fun _ _ => rfl, fun _ _ _ => rfl, fun _ _ => rfl, ok⟩, ⟨rfl, rfl, rfl, fun k hk => ?_, fun _ _ => rfl, fun _ _ _ => rfl, fun _ _ => rfl, ok⟩, ⟨hl 13 (by exact rfl), rfl, hr 88 rfl 0, rfl, fun _ _ => (by decide : (0 : Nat) + 0 + 0 + 0 + 0 ≤ 100), Nat.le_refl _⟩, ⟨0, by decide, rfl, fun k hk => ⟨by rw [Nat.zero_testBit]; rfl, fun h => by rw [Nat.zero_testBit] at h; cases h⟩⟩, ⟨0, by decide, rfl, rfl, fun j hj => absurd hj (Nat.not_lt_zero _)⟩, ⟨0, by decide, rfl, rfl, fun j hj => absurd hj (Nat.not_lt_zero _)⟩, ⟨rfl, fun _ _ => 0, hl 11 rfl, hr 93 rfl 0, fun _ _ _ _ => Nat.zero_le _⟩, Or.inl rfl⟩
  · have hk : k < 1 := hk
    obtain rfl : k = 0 := by omega
    rfl
  · have hk : k < 1 := hk
    obtain rfl : k = 0 := by omega
    rfl
