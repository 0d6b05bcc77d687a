/-! plain facts of numbers (starting texts of the kit, a few) and the choice by habit -/
theorem fb_rng (x : Int32) : -2147483648 ≤ x.toInt ∧ x.toInt < 2147483648 := by
  have h1 := Int32.le_toInt x
  have h2 := Int32.toInt_lt x
  omega
theorem fb_bmod {z : Int} (h1 : -2147483648 ≤ z) (h2 : z < 2147483648) : z.bmod (2 ^ 32) = z := by
  rw [Int.bmod_eq_of_le (by omega) (by omega)]
theorem fb_addI {x y : Int32} (h1 : -2147483648 ≤ x.toInt + y.toInt) (h2 : x.toInt + y.toInt < 2147483648) : (x + y).toInt = x.toInt + y.toInt := by
  rw [Int32.toInt_add, fb_bmod h1 h2]
theorem fb_subI {x y : Int32} (h1 : -2147483648 ≤ x.toInt - y.toInt) (h2 : x.toInt - y.toInt < 2147483648) : (x - y).toInt = x.toInt - y.toInt := by
  rw [Int32.toInt_sub, fb_bmod h1 h2]
theorem fb_mulI {x y : Int32} (h1 : -2147483648 ≤ x.toInt * y.toInt) (h2 : x.toInt * y.toInt < 2147483648) : (x * y).toInt = x.toInt * y.toInt := by
  rw [Int32.toInt_mul, fb_bmod h1 h2]
theorem fb_rngL (x : Int64) : -9223372036854775808 ≤ x.toInt ∧ x.toInt < 9223372036854775808 := by
  have h1 := Int64.le_toInt x
  have h2 := Int64.toInt_lt x
  omega
theorem fb_bmodL {z : Int} (h1 : -9223372036854775808 ≤ z) (h2 : z < 9223372036854775808) : z.bmod (2 ^ 64) = z := by
  rw [Int.bmod_eq_of_le (by omega) (by omega)]
theorem fb_addL {x y : Int64} (h1 : -9223372036854775808 ≤ x.toInt + y.toInt) (h2 : x.toInt + y.toInt < 9223372036854775808) : (x + y).toInt = x.toInt + y.toInt := by
  rw [Int64.toInt_add, fb_bmodL h1 h2]
theorem fb_mulL {x y : Int64} (h1 : -9223372036854775808 ≤ x.toInt * y.toInt) (h2 : x.toInt * y.toInt < 9223372036854775808) : (x * y).toInt = x.toInt * y.toInt := by
  rw [Int64.toInt_mul, fb_bmodL h1 h2]
/-- gain of a throw of kind k -/
def gainI (c : HCf) (φ : Nat → Nat) (k : Nat) : Int := (gsum c φ k : Int) - cw c k
/-- kinds looked through from 0 on: the best so far, and how much is enough now -/
def scan (all : Bool) (g : Nat → Int) (has : Nat → Bool) (en : Int) : Nat → Option Nat × Int
  | 0 => (none, en)
  | n + 1 => if has n = true ∧ (scan all g has en n).2 ≤ g n ∧ (all = true ∨ (scan all g has en n).1 = none) then (some n, g n + 1) else scan all g has en n
def oI (r : Option Nat) : Int32 := match r with
  | none => -1
  | some k => nI k
theorem scan_stay {g : Nat → Int} {has : Nat → Bool} {en : Int} {m k : Nat} (h : (scan false g has en m).1 = some k) : ∀ {n : Nat}, m ≤ n → (scan false g has en n).1 = some k
  | 0, hn => by have : m = 0 := by omega
                subst this; exact h
  | n + 1, hn => by
    by_cases e : m = n + 1
    · subst e; exact h
    · have ih := scan_stay h (show m ≤ n by omega)
      have : scan false g has en (n + 1) = scan false g has en n := by
        show (if _ then _ else _) = _
        rw [if_neg]
        rintro ⟨-, -, q⟩
        rcases q with q | q
        · exact absurd q (by decide)
        · rw [ih] at q; cases q
      rw [this]; exact ih
theorem scan_lt {all : Bool} {g : Nat → Int} {has : Nat → Bool} {en : Int} : ∀ {n k : Nat}, (scan all g has en n).1 = some k → k < n ∧ has k = true
  | 0, k, h => by exact absurd h (by simp [scan])
  | n + 1, k, h => by
    unfold scan at h
    split at h
    · rename_i q
      have e : n = k := Option.some.inj h
      subst e; exact ⟨Nat.lt_succ_self _, q.1⟩
    · have := scan_lt h
      exact ⟨Nat.lt_succ_of_lt this.1, this.2⟩
/-- what he throws by habit -/
def hab (c : HCf) (s : HCn) (i : Nat) : Option Nat := if ch c i = 0 then none else (scan (!decide (ch c i = 3)) (gainI c (s 4)) (fun k => decide (0 < s i k)) (if ch c i = 2 then max 1 (cb c i : Int) else 1) (cK c)).1
/-- what a greedy one would throw -/
def grd (c : HCf) (s : HCn) (i : Nat) : Option Nat := (scan true (gainI c (s 4)) (fun k => decide (0 < s i k)) 1 (cK c)).1
theorem hab_lt {c : HCf} {s : HCn} {i k : Nat} (h : hab c s i = some k) : k < cK c ∧ 0 < s i k := by
  unfold hab at h
  split at h
  · cases h
  · have := scan_lt h
    exact ⟨this.1, of_decide_eq_true this.2⟩
theorem grd_lt {c : HCf} {s : HCn} {i k : Nat} (h : grd c s i = some k) : k < cK c ∧ 0 < s i k := by
  have := scan_lt h
  exact ⟨this.1, of_decide_eq_true this.2⟩
theorem gainI_b {c : HCf} (ok : CfOk c) {φ : Nat → Nat} (hφ : ∀ j, j < 6 → φ j ≤ 200) {k : Nat} (hk : k < cK c) : -999 ≤ gainI c φ k ∧ gainI c φ k ≤ 1198800 := by
  have h1 := gsum_lt ok hφ k
  have h2 := ok.2.2.1 k hk
  unfold gainI
  omega
theorem gain_int {c : HCf} (ok : CfOk c) {φ : Nat → Nat} (hφ : ∀ j, j < 6 → φ j ≤ 200) {k : Nat} (hk : k < cK c) : (nI (gsum c φ k) - nI (cw c k)).toInt = gainI c φ k := by
  have h1 := gsum_lt ok hφ k
  have h2 := ok.2.2.1 k hk
  exact pk_sub_toInt (by omega) (by omega)
