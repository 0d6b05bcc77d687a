/-! what is to be expected: plain facts -/
def mnW (c : HCf) (p q : Nat) : Nat → Nat → HCn → Nat
  | 0, _, s => wealth c s p
  | n + 1, t, s => if cp c t = p then mnW c p q n (t + 1) (vst c s p (hab c s p)) else (10 - q) * mnW c p q n (t + 1) s + q * mnW c p q n (t + 1) (vst c s (cp c t) (hab c s (cp c t)))
def othN (c : HCf) (p : Nat) : Nat → Nat → Nat
  | 0, _ => 0
  | n + 1, t => (if cp c t = p then 0 else 1) + othN c p n (t + 1)
theorem othN_le (c : HCf) (p : Nat) : ∀ (n t : Nat), othN c p n t ≤ n
  | 0, _ => Nat.le_refl _
  | n + 1, t => by
    have := othN_le c p n (t + 1)
    unfold othN
    split <;> omega
theorem oth_fr {c : HCf} {p : Nat} (hp : p < 4) : ∀ (n t : Nat), (∀ j, j < n → cp c (t + j) < 4) → frN c (2 ^ p) n t + othN c p n t = n
  | 0, _, _ => rfl
  | n + 1, t, h => by
    have h0 := h 0 (by omega)
    rw [Nat.add_zero] at h0
    have ih := oth_fr hp n (t + 1) (fun j hj => by
      have := h (j + 1) (by omega)
      rw [show t + (j + 1) = t + 1 + j by omega] at this; exact this)
    unfold frN othN
    rw [pow_bit p hp _ h0]
    by_cases e : cp c t = p
    · rw [if_pos (decide_eq_true e), if_pos e]; omega
    · rw [if_neg (fun z => e (of_decide_eq_true z)), if_neg e]; omega
theorem bitC : ∀ p, p < 4 → (∀ q, q < 4 → (15 - 2 ^ p).testBit q = !decide (q = p)) ∧ 15 - 2 ^ p < 16 ∧ (15 : Int32) &&& (((1 : Int32) <<< (nI p &&& 31)) ^^^ (-1)) = nI (15 - 2 ^ p) := by decide +kernel
theorem oth_fr2 {c : HCf} {p : Nat} (hp : p < 4) : ∀ (n t : Nat), (∀ j, j < n → cp c (t + j) < 4) → frN c (15 - 2 ^ p) n t = othN c p n t
  | 0, _, _ => rfl
  | n + 1, t, h => by
    have h0 := h 0 (by omega)
    rw [Nat.add_zero] at h0
    have ih := oth_fr2 hp n (t + 1) (fun j hj => by
      have := h (j + 1) (by omega)
      rw [show t + (j + 1) = t + 1 + j by omega] at this; exact this)
    unfold frN othN
    rw [(bitC p hp).1 _ h0, ih]
    by_cases e : cp c t = p
    · rw [if_neg (by simp [e]), if_pos e]
    · rw [if_pos (by simp [e]), if_neg e]
theorem mnW_b {c : HCf} (ok : CfOk c) {p q : Nat} (hp : p < 4) (hq : q ≤ 10) : ∀ (n t : Nat) (s : HCn), t + n = cv c → CnOk s → mnW c p q n t s ≤ 599400 * 10 ^ othN c p n t
  | 0, t, s, _, h => by
    have := wealth_lt ok h (show p < 5 by omega)
    show wealth c s p ≤ 599400 * 1
    omega
  | n + 1, t, s, ht, h => by
    have hcp : cp c t < 4 := ok.2.2.2.2.2.2.2 t (by omega)
    unfold mnW othN
    by_cases e : cp c t = p
    · rw [if_pos e, if_pos e, Nat.zero_add]
      exact mnW_b ok hp hq n (t + 1) _ (by omega) (vst_ok h hp (fun k e => (hab_lt e).2))
    · rw [if_neg e, if_neg e, Nat.add_comm 1, Nat.pow_succ, ← Nat.mul_assoc]
      have h1 := mnW_b ok hp hq n (t + 1) s (by omega) h
      have h2 := mnW_b ok hp hq n (t + 1) (vst c s (cp c t) (hab c s (cp c t))) (by omega) (vst_ok h hcp (fun k e => (hab_lt e).2))
      generalize 599400 * 10 ^ othN c p n (t + 1) = B at *
      have a1 := Nat.mul_le_mul_left (10 - q) h1
      have a2 := Nat.mul_le_mul_left q h2
      have a3 : (10 - q) * B + q * B = B * 10 := by rw [← Nat.add_mul, Nat.mul_comm]; congr 1; omega
      omega
/-- what one's purse comes to, if of the others those of a set are there -/
def bW (c : HCf) (p : Nat) : Nat → Nat → HCn → Nat → Nat → Nat
  | 0, _, s, _, _ => wealth c s p
  | n + 1, t, s, k, th => if cp c t = p then bW c p n (t + 1) (vst c s p (hab c s p)) k th else if th.testBit k = true then bW c p n (t + 1) (vst c s (cp c t) (hab c s (cp c t))) (k + 1) th else bW c p n (t + 1) s (k + 1) th
def prd (q th : Nat) : Nat → Nat
  | 0 => 1
  | k + 1 => prd q th k * (if th.testBit k = true then q else 10 - q)
theorem bW_sh (c : HCf) (p : Nat) : ∀ (n t : Nat) (s : HCn) (k th : Nat), bW c p n t s (k + 1) th = bW c p n t s k (th / 2)
  | 0, _, _, _, _ => rfl
  | n + 1, t, s, k, th => by
    unfold bW
    rw [bW_sh c p n (t + 1) _ k th, bW_sh c p n (t + 1) _ (k + 1) th, bW_sh c p n (t + 1) _ (k + 1) th, Nat.testBit_succ]
theorem prd_sh (q th : Nat) : ∀ N, prd q th (N + 1) = (if th.testBit 0 = true then q else 10 - q) * prd q (th / 2) N
  | 0 => by
    show 1 * _ = _ * 1
    rw [Nat.one_mul, Nat.mul_one]
  | N + 1 => by
    show prd q th (N + 1) * (if th.testBit (N + 1) = true then q else 10 - q) = _ * (prd q (th / 2) N * (if (th / 2).testBit N = true then q else 10 - q))
    rw [prd_sh q th N, Nat.testBit_succ, Nat.mul_assoc]
theorem sm_mul (a : Nat) (f : Nat → Nat) : ∀ n, sm (fun j => a * f j) n = a * sm f n
  | 0 => rfl
  | n + 1 => by
    show sm (fun j => a * f j) n + a * f n = a * (sm f n + f n)
    rw [sm_mul a f n, Nat.mul_add]
theorem sm_two (g : Nat → Nat) : ∀ m, sm g (2 * m) = sm (fun j => g (2 * j) + g (2 * j + 1)) m
  | 0 => rfl
  | m + 1 => by
    show sm g (2 * m) + g (2 * m) + g (2 * m + 1) = sm _ m + (g (2 * m) + g (2 * m + 1))
    rw [sm_two g m, Nat.add_assoc]
theorem mean_sum (c : HCf) (p q : Nat) : ∀ (n t : Nat) (s : HCn), sm (fun th => bW c p n t s 0 th * prd q th (othN c p n t)) (2 ^ othN c p n t) = mnW c p q n t s
  | 0, t, s => by
    show 0 + wealth c s p * 1 = wealth c s p
    omega
  | n + 1, t, s => by
    unfold bW othN mnW
    by_cases e : cp c t = p
    · rw [if_pos e, if_pos e]
      simp only [if_pos e, Nat.zero_add]
      exact mean_sum c p q n (t + 1) _
    · rw [if_neg e, if_neg e, Nat.add_comm 1]
      simp only [if_neg e]
      rw [Nat.pow_succ, Nat.mul_comm _ 2, sm_two, ← mean_sum c p q n (t + 1) s, ← mean_sum c p q n (t + 1) (vst c s (cp c t) (hab c s (cp c t))), ← sm_mul, ← sm_mul, ← sm_add]
      refine sm_congr (fun j _ => ?_)
      have b0 : (2 * j).testBit 0 = false := by rw [Nat.testBit_zero]; simp
      have b1 : (2 * j + 1).testBit 0 = true := by rw [Nat.testBit_zero]; simp
      rw [prd_sh, prd_sh, b0, b1, bW_sh, bW_sh, bW_sh, bW_sh, show 2 * j / 2 = j by omega, show (2 * j + 1) / 2 = j by omega]
      simp only [Bool.false_eq_true, if_false, if_true]
      rw [← Nat.mul_assoc, ← Nat.mul_assoc, Nat.mul_comm _ (10 - q), Nat.mul_comm _ q, Nat.mul_assoc, Nat.mul_assoc]
/-! lowest terms -/
theorem gcd_10 (a : Nat) : Nat.gcd a 10 = if a % 2 = 0 then (if (a / 2) % 5 = 0 then 10 else 2) else (if a % 5 = 0 then 5 else 1) := by
  have h : ∀ x, x < 10 → Nat.gcd x 10 = if x % 2 = 0 then (if x % 5 = 0 then 10 else 2) else (if x % 5 = 0 then 5 else 1) := by decide +kernel
  have e : Nat.gcd a 10 = Nat.gcd (a % 10) 10 := by rw [Nat.gcd_comm a 10, Nat.gcd_rec]
  rw [e, h (a % 10) (Nat.mod_lt _ (by decide))]
  have h2 : a % 10 % 2 = a % 2 := by omega
  have h5 : a % 10 % 5 = a % 5 := by omega
  rw [h2, h5]
  by_cases x : a % 2 = 0
  · rw [if_pos x, if_pos x]
    by_cases y : a % 5 = 0
    · rw [if_pos y, if_pos (by omega)]
    · rw [if_neg y, if_neg (by omega)]
  · rw [if_neg x, if_neg x]
theorem gcd_step (a0 j : Nat) : Nat.gcd a0 (10 ^ (j + 1)) = Nat.gcd a0 (10 ^ j) * Nat.gcd (a0 / Nat.gcd a0 (10 ^ j)) 10 := by
  have hG : 0 < Nat.gcd a0 (10 ^ j) := Nat.gcd_pos_of_pos_right _ (Nat.pow_pos (by decide))
  have hc := Nat.coprime_div_gcd_div_gcd hG
  have h1 : Nat.gcd a0 (10 ^ j) * (a0 / Nat.gcd a0 (10 ^ j)) = a0 := Nat.mul_div_cancel' (Nat.gcd_dvd_left _ _)
  have h2 : Nat.gcd a0 (10 ^ j) * (10 ^ j / Nat.gcd a0 (10 ^ j)) = 10 ^ j := Nat.mul_div_cancel' (Nat.gcd_dvd_right _ _)
  have e : Nat.gcd a0 (10 ^ (j + 1)) = Nat.gcd (Nat.gcd a0 (10 ^ j) * (a0 / Nat.gcd a0 (10 ^ j))) (Nat.gcd a0 (10 ^ j) * (10 ^ j / Nat.gcd a0 (10 ^ j) * 10)) := by
    rw [h1, ← Nat.mul_assoc, h2, Nat.pow_succ]
  rw [e, Nat.gcd_mul_left, Nat.mul_comm (10 ^ j / _) 10]
  congr 1
  exact hc.symm.gcd_mul_right_cancel_right 10
/-- by a row of halves and fifths -/
theorem red_step (a0 N j : Nat) : ∀ a b, a = a0 / Nat.gcd a0 (10 ^ j) → b = 10 ^ N / Nat.gcd a0 (10 ^ j) → (a % 2 = 0 → (a / 2) % 5 = 0 → a / 2 / 5 = a0 / Nat.gcd a0 (10 ^ (j + 1)) ∧ b / 2 / 5 = 10 ^ N / Nat.gcd a0 (10 ^ (j + 1))) ∧ (a % 2 = 0 → ¬ (a / 2) % 5 = 0 → a / 2 = a0 / Nat.gcd a0 (10 ^ (j + 1)) ∧ b / 2 = 10 ^ N / Nat.gcd a0 (10 ^ (j + 1))) ∧ (¬ a % 2 = 0 → a % 5 = 0 → a / 5 = a0 / Nat.gcd a0 (10 ^ (j + 1)) ∧ b / 5 = 10 ^ N / Nat.gcd a0 (10 ^ (j + 1))) ∧ (¬ a % 2 = 0 → ¬ a % 5 = 0 → a = a0 / Nat.gcd a0 (10 ^ (j + 1)) ∧ b = 10 ^ N / Nat.gcd a0 (10 ^ (j + 1))) := by
  intro a b ha hb
  have hs := gcd_step a0 j
  rw [← ha, gcd_10] at hs
  rw [hs, ← Nat.div_div_eq_div_mul, ← Nat.div_div_eq_div_mul, ← ha, ← hb]
  refine ⟨fun x y => ?_, fun x y => ?_, fun x y => ?_, fun x y => ?_⟩
  · rw [if_pos x, if_pos y, Nat.div_div_eq_div_mul, Nat.div_div_eq_div_mul]; exact ⟨rfl, rfl⟩
  · rw [if_pos x, if_neg y]; exact ⟨rfl, rfl⟩
  · rw [if_neg x, if_pos y]; exact ⟨rfl, rfl⟩
  · rw [if_neg x, if_neg y, Nat.div_one, Nat.div_one]; exact ⟨rfl, rfl⟩
theorem th_bit {th k : Nat} (h : th < 2 ^ 31) (hk : k < 11) : ((nI th >>> (nI k &&& 31)) &&& 1 = 1) ↔ th.testBit k = true := by
  have hs : ∀ k, k < 11 → ((nI k &&& 31).toBitVec.smod 32).toNat = k := by decide +kernel
  rw [pk_shrN h (nI k &&& 31) k (hs k hk), pk_andN (n := th / 2 ^ k) (by have := Nat.div_le_self th (2 ^ k); omega) 1 (by decide), Nat.testBit_eq_decide_div_mod_eq, decide_eq_true_eq]
  exact nI_eq (b := 1) (by omega) (by decide)
theorem p2_n : ∀ n, n < 11 → (1 : Int32) <<< (nI n &&& 31) = nI (2 ^ n) ∧ 2 ^ n ≤ 1024 := by decide +kernel
