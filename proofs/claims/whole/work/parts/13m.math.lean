/-! the laws of a throw, in plain numbers -/
abbrev HCf : Type := Nat × (Nat → Nat) × Nat × (Nat → Nat) × (Nat → Nat) × Nat × (Nat → Nat)
def cK (c : HCf) : Nat := c.1
def cw (c : HCf) : Nat → Nat := c.2.1
def cl (c : HCf) : Nat := c.2.2.1
def ch (c : HCf) : Nat → Nat := c.2.2.2.1
def cb (c : HCf) : Nat → Nat := c.2.2.2.2.1
def cv (c : HCf) : Nat := c.2.2.2.2.2.1
def cp (c : HCf) : Nat → Nat := c.2.2.2.2.2.2
def CfOk (c : HCf) : Prop := 1 ≤ cK c ∧ cK c ≤ 6 ∧ (∀ k, k < cK c → cw c k ≤ 999) ∧ cl c ≤ 3 ∧ (∀ i, i < 4 → ch c i ≤ 3) ∧ (∀ i, i < 4 → cb c i ≤ 99) ∧ cv c ≤ 24 ∧ ∀ t, t < cv c → cp c t < 4
def sm (f : Nat → Nat) : Nat → Nat
  | 0 => 0
  | n + 1 => sm f n + f n
theorem sm_congr {f g : Nat → Nat} : ∀ {n : Nat}, (∀ j, j < n → f j = g j) → sm f n = sm g n
  | 0, _ => rfl
  | n + 1, h => by
    show sm f n + f n = sm g n + g n
    rw [sm_congr (fun j hj => h j (Nat.lt_succ_of_lt hj)), h n (Nat.lt_succ_self n)]
theorem sm_le {f g : Nat → Nat} : ∀ {n : Nat}, (∀ j, j < n → f j ≤ g j) → sm f n ≤ sm g n
  | 0, _ => Nat.le_refl _
  | n + 1, h => Nat.add_le_add (sm_le (fun j hj => h j (Nat.lt_succ_of_lt hj))) (h n (Nat.lt_succ_self n))
theorem sm_bound {f : Nat → Nat} {b : Nat} : ∀ {n : Nat}, (∀ j, j < n → f j ≤ b) → sm f n ≤ n * b
  | 0, _ => Nat.zero_le _
  | n + 1, h => by
    have h1 := sm_bound (n := n) (fun j hj => h j (Nat.lt_succ_of_lt hj))
    have h2 := h n (Nat.lt_succ_self n)
    show sm f n + f n ≤ (n + 1) * b
    rw [Nat.succ_mul]; omega
theorem sm_zero {f : Nat → Nat} : ∀ {n : Nat}, (∀ j, j < n → f j = 0) → sm f n = 0
  | 0, _ => rfl
  | n + 1, h => by
    show sm f n + f n = 0
    rw [sm_zero (fun j hj => h j (Nat.lt_succ_of_lt hj)), h n (Nat.lt_succ_self n)]
theorem sm_stop {f : Nat → Nat} {m : Nat} : ∀ {n : Nat}, m ≤ n → (∀ j, m ≤ j → j < n → f j = 0) → sm f n = sm f m
  | 0, h, _ => by have : m = 0 := by omega
                  subst this; rfl
  | n + 1, h, z => by
    by_cases e : m = n + 1
    · subst e; rfl
    · show sm f n + f n = sm f m
      rw [z n (by omega) (Nat.lt_succ_self n), sm_stop (by omega) (fun j h1 h2 => z j h1 (Nat.lt_succ_of_lt h2))]; rfl
theorem sm_add (f g : Nat → Nat) : ∀ n, sm (fun j => f j + g j) n = sm f n + sm g n
  | 0 => rfl
  | n + 1 => by
    show sm (fun j => f j + g j) n + (f n + g n) = (sm f n + f n) + (sm g n + g n)
    rw [sm_add f g n]; omega
def topB (φ : Nat → Nat) (k j : Nat) : Bool := decide (j < k) && (decide (0 < φ j) && (List.range k).all (fun i => decide (i ≤ j) || decide (φ i = 0)))
theorem topB_iff {φ : Nat → Nat} {k j : Nat} : topB φ k j = true ↔ j < k ∧ 0 < φ j ∧ ∀ i, j < i → i < k → φ i = 0 := by
  unfold topB
  simp only [Bool.and_eq_true, decide_eq_true_eq, List.all_eq_true, List.mem_range, Bool.or_eq_true]
  constructor
  · rintro ⟨a, b, c⟩
    exact ⟨a, b, fun i h1 h2 => (c i h2).elim (fun q => absurd q (by omega)) id⟩
  · rintro ⟨a, b, c⟩
    exact ⟨a, b, fun i h2 => by
      by_cases q : i ≤ j
      · exact Or.inl q
      · exact Or.inr (c i (by omega) h2)⟩
/-- how many coins of kind j one takes for one of kind k, by law l, of what lies there -/
def tk (l : Nat) (φ : Nat → Nat) (k j : Nat) : Nat := if l = 0 then (if j < k then φ j else 0) else if l = 1 then (if j ≤ k then φ j else 0) else if topB φ k j = true then (if l = 2 then 1 else φ j) else 0
theorem tk_le (l : Nat) (φ : Nat → Nat) (k j : Nat) : tk l φ k j ≤ φ j := by
  unfold tk
  by_cases h0 : l = 0
  · simp only [h0, if_true]; split <;> omega
  · by_cases h1 : l = 1
    · subst h1; rw [if_neg (by decide), if_pos rfl]; split <;> omega
    · simp only [h0, h1, if_false]
      by_cases ht : topB φ k j = true
      · have := (topB_iff.mp ht).2.1
        simp only [ht, if_true]; split <;> omega
      · simp only [ht]; simp
/-- the place behind the greatest kind that can be taken -/
def tM (l k : Nat) : Nat := if l = 1 then k + 1 else k
theorem tk_out {l k j : Nat} (φ : Nat → Nat) (h : tM l k ≤ j) : tk l φ k j = 0 := by
  unfold tM at h
  unfold tk
  by_cases h0 : l = 0
  · subst h0; simp at h; simp [show ¬ j < k by omega]
  · by_cases h1 : l = 1
    · subst h1; simp at h; simp [show ¬ j ≤ k by omega]
    · simp only [h1, if_false] at h
      have ht : ¬ topB φ k j = true := fun q => by have := (topB_iff.mp q).1; omega
      simp only [h0, h1, if_false, ht]
      simp
/-- what is taken of one kind, when none is above it -/
def t1 (l n : Nat) : Nat := if l = 2 then min n 1 else n
theorem tk_in {l k j : Nat} {φ : Nat → Nat} (h : j < tM l k) (hz : 2 ≤ l → ∀ i, j < i → i < tM l k → φ i = 0) : tk l φ k j = t1 l (φ j) := by
  unfold tM at h hz
  unfold tk t1
  by_cases h0 : l = 0
  · subst h0; simp at h; simp [h]
  · by_cases h1 : l = 1
    · subst h1; simp at h; simp [show j ≤ k by omega]
    · simp only [h1, if_false] at h hz
      have hz2 := hz (by omega)
      simp only [h0, h1, if_false]
      by_cases hp : 0 < φ j
      · have ht : topB φ k j = true := topB_iff.mpr ⟨h, hp, hz2⟩
        simp only [ht, if_true]
        split <;> omega
      · have ht : ¬ topB φ k j = true := fun q => hp (topB_iff.mp q).2.1
        simp only [ht]
        simp
        split <;> omega
theorem tk_under {l k j n : Nat} {φ : Nat → Nat} (hl : 2 ≤ l) (hn : n < k) (hp : 0 < φ n) (hj : j < n) : tk l φ k j = 0 := by
  have ht : ¬ topB φ k j = true := fun q => by have := (topB_iff.mp q).2.2 n hj hn; omega
  unfold tk
  simp only [show ¬ l = 0 by omega, show ¬ l = 1 by omega, if_false, ht]
  simp
/-- the worth of what is taken -/
def gsum (c : HCf) (φ : Nat → Nat) (k : Nat) : Nat := sm (fun j => tk (cl c) φ k j * cw c j) (cK c)
theorem gsum_lt {c : HCf} (ok : CfOk c) {φ : Nat → Nat} (hφ : ∀ j, j < 6 → φ j ≤ 200) (k : Nat) : gsum c φ k ≤ 1198800 := by
  have h1 : gsum c φ k ≤ cK c * 199800 := by
    refine sm_bound (fun j hj => ?_)
    have a := Nat.le_trans (tk_le (cl c) φ k j) (hφ j (by have := ok.2.1; omega))
    have b := ok.2.2.1 j hj
    calc tk (cl c) φ k j * cw c j ≤ 200 * 999 := Nat.mul_le_mul a b
      _ = 199800 := rfl
  have h2 := ok.2.1
  have h3 : cK c * 199800 ≤ 6 * 199800 := Nat.mul_le_mul_right _ h2
  omega
/-- coins: of an owner (4 the fountain), of a kind -/
abbrev HCn : Type := Nat → Nat → Nat
def CnOk (s : HCn) : Prop := ∀ k, k < 6 → s 0 k + s 1 k + s 2 k + s 3 k + s 4 k ≤ 100
/-- the coins behind a throw -/
def thr (c : HCf) (s : HCn) (i k : Nat) : HCn := fun o j => if o = 4 then s 4 j - tk (cl c) (s 4) k j + (if j = k then 1 else 0) else if o = i then s i j + tk (cl c) (s 4) k j - (if j = k then 1 else 0) else s o j
theorem thr_ok {c : HCf} {s : HCn} (h : CnOk s) {i k : Nat} (hi : i < 4) (hk : 0 < s i k) : CnOk (thr c s i k) := by
  intro j hj
  have h1 := h j hj
  have h2 := tk_le (cl c) (s 4) k j
  unfold thr
  rcases (show i = 0 ∨ i = 1 ∨ i = 2 ∨ i = 3 by omega) with rfl | rfl | rfl | rfl <;> by_cases e : j = k <;> simp [e] at * <;> omega
/-- worth of an owner's coins -/
def wealth (c : HCf) (s : HCn) (o : Nat) : Nat := sm (fun k => cw c k * s o k) (cK c)
theorem CnOk.le {s : HCn} (h : CnOk s) {o k : Nat} (ho : o < 5) (hk : k < 6) : s o k ≤ 100 := by
  have := h k hk
  rcases (show o = 0 ∨ o = 1 ∨ o = 2 ∨ o = 3 ∨ o = 4 by omega) with rfl | rfl | rfl | rfl | rfl <;> omega
theorem wealth_lt {c : HCf} (ok : CfOk c) {s : HCn} (h : CnOk s) {o : Nat} (ho : o < 5) : wealth c s o ≤ 599400 := by
  have h1 : wealth c s o ≤ cK c * 99900 := by
    refine sm_bound (fun j hj => ?_)
    have a := h.le ho (by have := ok.2.1; omega : j < 6)
    have b := ok.2.2.1 j hj
    calc cw c j * s o j ≤ 999 * 100 := Nat.mul_le_mul b a
      _ = 99900 := rfl
  have h3 : cK c * 99900 ≤ 6 * 99900 := Nat.mul_le_mul_right _ ok.2.1
  omega
/-! what the cells hold -/
def lotL : List Nat := [10, 12, 15, 17, 30, 34, 36, 38, 40, 42, 44, 46, 48, 50, 52, 54, 81]
theorem lot_f : ∀ h, h ∈ lotL → (h < NL ∧ Zk h = 3 ∧ Zp h 0 = h + 1 ∧ h + 1 < NL ∧ Zk (h + 1) = 11 ∧ Zn (h + 1) = 30) ∧ (h ≠ 1 ∧ h ≠ 6 ∧ h ≠ 7 ∧ h ≠ 8 ∧ h ≠ 9) ∧ (h + 1 ≠ 1 ∧ h + 1 ≠ 6 ∧ h + 1 ≠ 7 ∧ h + 1 ≠ 8 ∧ h + 1 ≠ 9) := by decide +kernel
def CC (I : HIh) (c : HCf) : Prop := I 1 9 = nI (cK c) ∧ I 1 10 = nI (cv c) ∧ I 1 11 = nI (cl c) ∧ (∀ k, k < cK c → I 6 k = nI (cw c k)) ∧ (∀ i, i < 4 → I 7 i = nI (ch c i)) ∧ (∀ i, i < 4 → ch c i = 2 → I 8 i = nI (cb c i)) ∧ (∀ t, t < cv c → I 9 t = nI (cp c t)) ∧ CfOk c
theorem CC.set {I : HIh} {c : HCf} (h : CC I c) {q : Nat} (f : Nat → Int32) (n : q ≠ 1 ∧ q ≠ 6 ∧ q ≠ 7 ∧ q ≠ 8 ∧ q ≠ 9) : CC (setI I q f) c := by
  obtain ⟨h1, h2, h3, h4, h5, h6, h7, h8⟩ := h
  obtain ⟨n1, n6, n7, n8, n9⟩ := n
  refine ⟨?_, ?_, ?_, fun k hk => ?_, fun k hk => ?_, fun k hk => ?_, fun k hk => ?_, h8⟩
  · rw [setI_ne I f n1.symm]; exact h1
  · rw [setI_ne I f n1.symm]; exact h2
  · rw [setI_ne I f n1.symm]; exact h3
  · rw [setI_ne I f n6.symm]; exact h4 k hk
  · rw [setI_ne I f n7.symm]; exact h5 k hk
  · rw [setI_ne I f n8.symm]; exact h6 k hk
  · rw [setI_ne I f n9.symm]; exact h7 k hk
/-- a lot's coins; the fountain's alone -/
def LotC (f : Nat → Int32) (s : HCn) : Prop := ∀ o, o < 5 → ∀ k, k < 6 → f (6 * o + k) = nI (s o k)
def FtC (f : Nat → Int32) (φ : Nat → Nat) : Prop := ∀ k, k < 6 → f (24 + k) = nI (φ k)
theorem LotC.ft {f : Nat → Int32} {s : HCn} (h : LotC f s) : FtC f (s 4) := fun k hk => h 4 (by decide) k hk
