/-! layer 2: worth, visits left, gain, throw -/
def fFree (g p : Int32) : Int32 := if fGoal g p = 0 then 0 else 1
section CON2
variable {E : HEn} {d : Nat} {Q : Option Value → HIh → Prop} {I : HIh}
theorem c_X10_leastGain {p : Int32} (q : Q (some (.int (fMax 1 (fBnd (I 8) p)))) I) : HCall E me_X10_leastGain (d + 2) [.ref 4, .ref 1, .int p] I Q := h_met (by decide) rfl (Nat.le_of_ble_eq_true rfl) (sg_X10_leastGain_0 q)
theorem c_X10_waitsFor {p : Int32} (q : Q (some (.int (fBnd (I 8) p))) I) : HCall E me_X10_waitsFor (d + 2) [.ref 4, .ref 1, .int p] I Q := h_met (by decide) rfl (Nat.le_of_ble_eq_true rfl) (sg_X10_waitsFor_0 q)
theorem c_X2_isFree {p : Int32} (q : Q (some (.int (fFree (I 32 4) p))) I) : HCall E me_X2_isFree (d + 3) [.ref 32, .int p] I Q := by
  unfold fFree at q
  exact h_met (by decide) rfl (Nat.le_of_ble_eq_true rfl) (sg_X2_isFree_0 (fun h => by rw [if_pos h] at q; exact q) (fun h => by rw [if_neg h] at q; exact q))
theorem wealth_loop {h : Nat} {c : HCf} {s : HCn} {o : Nat} (hc : CC I c) (hh : h ∈ lotL) (hs : LotC (I (h + 1)) s) (ho : o < 5) (q : Q (some (.int (nI (wealth c s o)))) I) : ∀ (n j : Nat), j + n = cK c → HGo E (mF E (d + 2) Q) me_X9_wealth 5 [(0, .ref 1), (1, .ref h), (2, .int (nI o)), (3, .int (nI (sm (fun k => cw c k * s o k) j))), (4, .int (nI j))] [] I
  | n, j, hj => by
    obtain ⟨⟨a1, a2, a3, a4, a5, a6⟩, -, -⟩ := lot_f h hh
    have hK : cK c ≤ 6 := hc.2.2.2.2.2.2.2.2.1
    refine sg_X9_wealth_5 a1 a2 a3 a4 a5 a6 (fun z => ?_) (fun z => ?_)
    · rw [hc.1, nI_leI (by omega) (by omega)] at z
      have e : j = cK c := by omega
      subst e; exact q
    · rw [hc.1, nI_leI (by omega) (by omega)] at z
      obtain ⟨n, rfl⟩ : ∃ k, n = k + 1 := ⟨n - 1, by omega⟩
      rw [fWor_n _ (by omega), fOf_n _ ho (by omega), hc.2.2.2.1 j (by omega), hs o ho j (by omega), pk_mul, nI_add, nI_1]
      exact wealth_loop hc hh hs ho q n (j + 1) (by omega)
theorem c_wealth {h : Nat} {c : HCf} {s : HCn} {o : Nat} (hc : CC I c) (hh : h ∈ lotL) (hs : LotC (I (h + 1)) s) (ho : o < 5) (q : Q (some (.int (nI (wealth c s o)))) I) : HCall E me_X9_wealth (d + 2) [.ref 1, .ref h, .int (nI o)] I Q := by
  obtain ⟨⟨a1, a2, a3, a4, a5, a6⟩, -, -⟩ := lot_f h hh
  exact h_met (by decide) rfl (Nat.le_of_ble_eq_true rfl) (sg_X9_wealth_0 a1 a2 (wealth_loop hc hh hs ho q (cK c) 0 (by omega)))
theorem c_X2_putIn {x y z w : Int32} (q : Q none (setI (setI (setI I 35 (fAdd (I 35) 4 x w)) 35 (fAdd (fAdd (I 35) 4 x w) 4 y w)) 35 (fAdd (fAdd (fAdd (I 35) 4 x w) 4 y w) 4 z w))) : HCall E me_X2_putIn (d + 2) [.ref 32, .int x, .int y, .int z, .int w] I Q := h_met (by decide) rfl (Nat.le_of_ble_eq_true rfl) (sg_X2_putIn_0 q)
/-- the visits of a set of people that are left, counted as the machine counts -/
def fLeft (c : HCf) (z : Int32) (t : Nat) : Nat → Int32
  | 0 => 0
  | n + 1 => fLeft c z t n + ((z >>> ((nI (cp c (t + n))) &&& 31)) &&& 1)
theorem left_loop {c : HCf} {z : Int32} {t : Nat} (hc : CC I c) (ht : t ≤ cv c) (q : Q (some (.int (fLeft c z t (cv c - t)))) I) : ∀ (n j : Nat), j + n = cv c - t → HGo E (mF E (d + 2) Q) me_X9_visitsLeft 8 [(0, .ref 1), (2, .int z), (3, .int (fLeft c z t j)), (4, .int (nI (t + j)))] [] I
  | n, j, hj => by
    have hV : cv c ≤ 24 := hc.2.2.2.2.2.2.2.2.2.2.2.2.2.1
    refine sg_X9_visitsLeft_8 (fun y => ?_) (fun y => ?_)
    · rw [hc.2.1, nI_leI (by omega) (by omega)] at y
      have e : j = cv c - t := by omega
      subst e; exact q
    · rw [hc.2.1, nI_leI (by omega) (by omega)] at y
      obtain ⟨n, rfl⟩ : ∃ k, n = k + 1 := ⟨n - 1, by omega⟩
      rw [hc.2.1, fVis_n _ (by omega) (by omega), hc.2.2.2.2.2.2.1 (t + j) (by omega), nI_1]
      exact left_loop hc ht q n (j + 1) (by omega)
theorem c_visitsLeft {h : Nat} {c : HCf} {z : Int32} {t : Nat} (hc : CC I c) (hh : h ∈ lotL) (hg : I h 1 = nI t) (ht : t ≤ cv c) (q : Q (some (.int (fLeft c z t (cv c - t)))) I) : HCall E me_X9_visitsLeft (d + 2) [.ref 1, .ref h, .int z] I Q := by
  obtain ⟨⟨a1, a2, a3, a4, a5, a6⟩, -, -⟩ := lot_f h hh
  refine h_met (by decide) rfl (Nat.le_of_ble_eq_true rfl) (sg_X9_visitsLeft_0 a1 a2 ?_)
  rw [hg]
  exact left_loop hc ht q (cv c - t) 0 (by omega)
theorem fTop_n {l k : Nat} (hl : l ≤ 3) : fTop (nI l) (nI k) = nI (tM l k) - 1 := by
  unfold fTop tM
  by_cases h : l = 1
  · subst h; rw [if_pos (show nI 1 = 1 from rfl), if_pos rfl, nI_pred]
  · rw [if_neg, if_neg h]
    intro q
    exact h ((nI_eq (a := l) (b := 1) (by omega) (by decide)).mp q)
theorem t1_n {l n : Nat} (hl : l ≤ 3) (hn : n ≤ 200) : fMin (nI n) (fMost (nI l)) = nI (t1 l n) := by
  unfold fMin fMost t1
  by_cases h : l = 2
  · subst h
    rw [if_pos (show nI 2 = 2 from rfl), if_pos rfl]
    by_cases h2 : 1 < n
    · rw [if_pos (show (1 : Int32) < nI n from nI_lt (a := 1) h2 (by omega)), Nat.min_eq_right (by omega)]; rfl
    · rw [if_neg (show ¬ (1 : Int32) < nI n from nI_nlt (a := 1) (b := n) (by omega) (by decide)), Nat.min_eq_left (by omega)]
  · have h2 : ¬ nI l = (2 : Int32) := fun q => h ((nI_eq (a := l) (b := 2) (by omega) (by decide)).mp q)
    rw [if_neg h2, if_neg h]
    rw [if_neg]
    show ¬ nI 1000000 < nI n
    exact nI_nlt (by omega) (by omega)
theorem fOne_n {l : Nat} (hl : l ≤ 3) : fOne (nI l) = 0 ↔ l < 2 := by
  unfold fOne
  have e2 : nI l = 2 ↔ l = 2 := nI_eq (a := l) (b := 2) (by omega) (by decide)
  have e3 : nI l = 3 ↔ l = 3 := nI_eq (a := l) (b := 3) (by omega) (by decide)
  simp only [e2, e3]
  by_cases h : l = 2 ∨ l = 3
  · rw [if_pos h]
    constructor
    · intro q; exact absurd q (by decide)
    · intro q; omega
  · rw [if_neg h]
    constructor
    · intro _; omega
    · intro _; rfl
theorem nI_m1_lt {m : Nat} (h : m < 2 ^ 31) : nI m - 1 < 0 ↔ m = 0 := by
  cases m with
  | zero => exact ⟨fun _ => rfl, fun _ => by decide⟩
  | succ n =>
    rw [nI_pred]
    exact ⟨fun q => absurd q (nI_pos (by omega)), fun q => by omega⟩
theorem nI_le0 {n : Nat} (h : n < 2 ^ 31) : nI n ≤ 0 ↔ n = 0 := by
  rw [show (0 : Int32) = nI 0 from rfl, nI_leI h (by decide)]; omega
theorem gain_loop {h : Nat} {c : HCf} {φ : Nat → Nat} {k : Nat} (hc : CC I c) (hh : h ∈ lotL) (hφ : FtC (I (h + 1)) φ) (hb : ∀ j, j < 6 → φ j ≤ 200) (hk : k < cK c) (q : Q (some (.int (nI (gsum c φ k) - nI (cw c k)))) I) : ∀ (m : Nat), m ≤ tM (cl c) k → (2 ≤ cl c → ∀ i, m ≤ i → i < tM (cl c) k → φ i = 0) → ∀ x : Int32, x + nI (sm (fun j => tk (cl c) φ k j * cw c j) m) = nI (gsum c φ k) - nI (cw c k) → HGo E (mF E (d + 2) Q) me_X9_gainOf 14 [(0, .ref 1), (1, .ref h), (3, .int x), (4, .int (nI m - 1))] [] I
  | m, hm, hz, x, hx => by
    obtain ⟨⟨a1, a2, a3, a4, a5, a6⟩, -, -⟩ := lot_f h hh
    have hK : cK c ≤ 6 := hc.2.2.2.2.2.2.2.2.1
    have hl : cl c ≤ 3 := hc.2.2.2.2.2.2.2.2.2.2.1
    have hm6 : tM (cl c) k ≤ k + 1 := by unfold tM; split <;> omega
    have key : ∀ n, m = n + 1 → fMin (fOf (I (h + 1)) 4 (nI m - 1)) (fMost (I 1 11)) = nI (tk (cl c) φ k n) := by
      intro n e
      subst e
      have e4 : fOf (I (h + 1)) 4 (nI (n + 1) - 1) = nI (φ n) := by rw [nI_pred]; exact (fOf_n _ (o := 4) (by decide) (by omega)).trans (hφ n (by omega))
      rw [e4, hc.2.2.1, t1_n hl (hb n (by omega)), tk_in (by omega) (fun h2 i h3 h4 => hz h2 i (by omega) h4)]
    have tb : ∀ n, m = n + 1 → tk (cl c) φ k n < 2 ^ 31 := fun n e => by have := tk_le (cl c) φ k n; have := hb n (by omega); omega
    refine sg_X9_gainOf_14 a1 a2 a3 a4 a5 a6 (fun z => ?_) (fun z y => ?_) (fun z y w => ?_) (fun z y w => ?_)
    · rw [nI_m1_lt (by omega)] at z
      subst z
      have e0 : x = nI (gsum c φ k) - nI (cw c k) := by rw [← hx]; show x = x + nI 0; rw [nI_0]; simp
      rw [e0]; exact q
    all_goals
      rw [nI_m1_lt (by omega)] at z
      obtain ⟨n, rfl⟩ : ∃ n, m = n + 1 := ⟨m - 1, by omega⟩
      have e1 : fWor (I 6) (nI (n + 1) - 1) = nI (cw c n) := by rw [nI_pred, fWor_n _ (by omega)]; exact hc.2.2.2.1 n (by omega)
      rw [key n rfl] at y ⊢
      rw [e1, pk_mul, Nat.mul_comm (cw c n)]
      have e2 : nI (sm (fun j => tk (cl c) φ k j * cw c j) (n + 1)) = nI (tk (cl c) φ k n * cw c n) + nI (sm (fun j => tk (cl c) φ k j * cw c j) n) := by rw [nI_add]; exact congrArg nI (Nat.add_comm _ _)
      rw [e2, ← Int32.add_assoc] at hx
    · rw [nI_le0 (tb n rfl)] at y
      rw [show nI (n + 1) - 1 + -1 = nI n - 1 by rw [nI_pred]; exact (Int32.sub_eq_add_neg _ _).symm]
      refine gain_loop hc hh hφ hb hk q n (by omega) (fun h2 i h3 h4 => ?_) _ hx
      by_cases e : i = n
      · subst e
        rw [tk_in (by omega) (fun h2 i h3 h4 => hz h2 i (by omega) h4)] at y
        unfold t1 at y
        split at y <;> omega
      · exact hz h2 i (by omega) h4
    · rw [hc.2.2.1, fOne_n hl] at w
      rw [show nI (n + 1) - 1 + -1 = nI n - 1 by rw [nI_pred]; exact (Int32.sub_eq_add_neg _ _).symm]
      exact gain_loop hc hh hφ hb hk q n (by omega) (fun h2 => by omega) _ hx
    · rw [hc.2.2.1, fOne_n hl] at w
      rw [nI_le0 (tb n rfl)] at y
      have hp : 0 < φ n := by have := tk_le (cl c) φ k n; omega
      have hnk : n < k := by
        have : tM (cl c) k = k := by unfold tM; rw [if_neg (by omega)]
        omega
      have e3 : sm (fun j => tk (cl c) φ k j * cw c j) n = 0 := sm_zero (fun j hj => by
        show tk (cl c) φ k j * cw c j = 0
        rw [tk_under (by omega) hnk hp hj, Nat.zero_mul])
      rw [e3] at hx
      have e0 : x + nI (tk (cl c) φ k n * cw c n) = nI (gsum c φ k) - nI (cw c k) := by rw [← hx, nI_0]; simp
      rw [e0]; exact q
theorem gsum_stop (c : HCf) (φ : Nat → Nat) {k : Nat} (hk : k < cK c) : sm (fun j => tk (cl c) φ k j * cw c j) (tM (cl c) k) = gsum c φ k := by
  refine (sm_stop ?_ (fun j h1 _ => ?_)).symm
  · unfold tM; split <;> omega
  · show tk (cl c) φ k j * cw c j = 0
    rw [tk_out φ h1, Nat.zero_mul]
theorem c_gainOf {h : Nat} {c : HCf} {φ : Nat → Nat} {k : Nat} (hc : CC I c) (hh : h ∈ lotL) (hφ : FtC (I (h + 1)) φ) (hb : ∀ j, j < 6 → φ j ≤ 200) (hk : k < cK c) (q : Q (some (.int (nI (gsum c φ k) - nI (cw c k)))) I) : HCall E me_X9_gainOf (d + 2) [.ref 1, .ref h, .int (nI k)] I Q := by
  obtain ⟨⟨a1, a2, a3, a4, a5, a6⟩, -, -⟩ := lot_f h hh
  have hK : cK c ≤ 6 := hc.2.2.2.2.2.2.2.2.1
  refine h_met (by decide) rfl (Nat.le_of_ble_eq_true rfl) (sg_X9_gainOf_0 a1 a2 ?_)
  rw [hc.2.2.1, fTop_n hc.2.2.2.2.2.2.2.2.2.2.1, fWor_n _ (by omega), hc.2.2.2.1 k hk]
  refine gain_loop hc hh hφ hb hk q _ (Nat.le_refl _) (fun _ i h1 h2 => by omega) _ ?_
  rw [gsum_stop c φ hk, Int32.sub_eq_add_neg, Int32.add_comm]
/-- what a throw makes of a lot's coins -/
def ThrC (f0 f' : Nat → Int32) (l : Nat) (φ : Nat → Nat) (p k : Nat) : Prop := (∀ j, j < 6 → f' (24 + j) = nI (φ j - tk l φ k j + if j = k then 1 else 0)) ∧ (∀ j, j < 6 → f' (6 * p + j) = f0 (6 * p + j) + nI (tk l φ k j) - (if j = k then 1 else 0)) ∧ ∀ o, o < 4 → o ≠ p → ∀ j, j < 6 → f' (6 * o + j) = f0 (6 * o + j)
def ThrP (f0 f : Nat → Int32) (l : Nat) (φ : Nat → Nat) (p k m : Nat) : Prop := (∀ j, j < 6 → f (24 + j) = nI (if m ≤ j then φ j - tk l φ k j else φ j)) ∧ (∀ j, j < 6 → f (6 * p + j) = f0 (6 * p + j) + nI (if m ≤ j then tk l φ k j else 0)) ∧ ∀ o, o < 4 → o ≠ p → ∀ j, j < 6 → f (6 * o + j) = f0 (6 * o + j)
theorem upd_at (f : Nat → Int32) {i j : Nat} (h : i = j) (x : Int32) : upd f i x j = x := by unfold upd; rw [if_pos h.symm]
theorem upd_off (f : Nat → Int32) {i j : Nat} (h : j ≠ i) (x : Int32) : upd f i x j = f j := by unfold upd; rw [if_neg h]
theorem ThrP.step {f0 f : Nat → Int32} {l : Nat} {φ : Nat → Nat} {p k n : Nat} (hp : p < 4) (hn : n < 6) (h : ThrP f0 f l φ p k (n + 1)) : ThrP f0 (fAdd (fAdd f 4 (nI n) (-(nI (tk l φ k n)))) (nI p) (nI n) (nI (tk l φ k n))) l φ p k n := by
  have e4 : fAdd f 4 (nI n) (-(nI (tk l φ k n))) = upd f (24 + n) (f (24 + n) + -(nI (tk l φ k n))) := fAdd_n f (o := 4) (by decide) hn _
  rw [e4, fAdd_n _ (by omega) hn]
  obtain ⟨h1, h2, h3⟩ := h
  have hle := tk_le l φ k n
  refine ⟨fun j hj => ?_, fun j hj => ?_, fun o ho ho2 j hj => ?_⟩
  · rw [upd_off _ (by omega)]
    by_cases e : j = n
    · subst e
      rw [upd_at _ rfl, h1 j hj, if_neg (by omega), if_pos (Nat.le_refl _), ← Int32.sub_eq_add_neg, pk_sub hle]
    · rw [upd_off _ (by omega), h1 j hj]
      by_cases e2 : n ≤ j
      · rw [if_pos (by omega), if_pos e2]
      · rw [if_neg (by omega), if_neg e2]
  · by_cases e : j = n
    · subst e
      rw [upd_at _ rfl, upd_off _ (by omega), h2 j hj, if_neg (by omega), if_pos (Nat.le_refl _), nI_0]
      simp
    · rw [upd_off _ (by omega), upd_off _ (by omega), h2 j hj]
      by_cases e2 : n ≤ j
      · rw [if_pos (by omega), if_pos e2]
      · rw [if_neg (by omega), if_neg e2]
  · rw [upd_off _ (by omega), upd_off _ (by omega)]
    exact h3 o ho ho2 j hj
theorem ThrP.fin {f0 f : Nat → Int32} {l : Nat} {φ : Nat → Nat} {p k n : Nat} (hp : p < 4) (hk : k < 6) (h : ThrP f0 f l φ p k n) (hz : ∀ j, j < n → tk l φ k j = 0) : ThrC f0 (fAdd (fAdd f (nI p) (nI k) (-1)) 4 (nI k) 1) l φ p k := by
  rw [fAdd_n _ (by omega) hk]
  have e4 : ∀ g : Nat → Int32, fAdd g 4 (nI k) 1 = upd g (24 + k) (g (24 + k) + 1) := fun g => fAdd_n g (o := 4) (by decide) hk _
  rw [e4]
  obtain ⟨h1, h2, h3⟩ := h
  refine ⟨fun j hj => ?_, fun j hj => ?_, fun o ho ho2 j hj => ?_⟩
  · have ej : nI (if n ≤ j then φ j - tk l φ k j else φ j) = nI (φ j - tk l φ k j) := by
      by_cases e2 : n ≤ j
      · rw [if_pos e2]
      · rw [if_neg e2, hz j (by omega)]; rfl
    by_cases e : j = k
    · subst e
      rw [upd_at _ rfl, upd_off _ (by omega), h1 j hj, ej, if_pos rfl, nI_1]
    · rw [upd_off _ (by omega), upd_off _ (by omega), h1 j hj, ej, if_neg e]; rfl
  · have ej : nI (if n ≤ j then tk l φ k j else 0) = nI (tk l φ k j) := by
      by_cases e2 : n ≤ j
      · rw [if_pos e2]
      · rw [if_neg e2, hz j (by omega)]
    by_cases e : j = k
    · subst e
      rw [upd_off _ (by omega), upd_at _ rfl, h2 j hj, ej, if_pos rfl, Int32.sub_eq_add_neg]
    · rw [upd_off _ (by omega), upd_off _ (by omega), h2 j hj, ej, if_neg e]; simp
  · rw [upd_off _ (by omega), upd_off _ (by omega)]
    exact h3 o ho ho2 j hj
theorem throw_loop {h : Nat} {c : HCf} {φ : Nat → Nat} {p k : Nat} {f0 : Nat → Int32} (hc : CC I c) (hh : h ∈ lotL) (hb : ∀ j, j < 6 → φ j ≤ 200) (hp : p < 4) (hk : k < cK c) (q : ∀ f', ThrC f0 f' (cl c) φ p k → Q none (setI I (h + 1) f')) : ∀ (m : Nat) (f : Nat → Int32), m ≤ tM (cl c) k → (2 ≤ cl c → ∀ i, m ≤ i → i < tM (cl c) k → φ i = 0) → ThrP f0 f (cl c) φ p k m → HGo E (mF E (d + 2) Q) me_X9_throwCoin 7 [(0, .ref 1), (1, .ref h), (2, .int (nI p)), (3, .int (nI k)), (4, .int (nI m - 1))] [] (setI I (h + 1) f)
  | m, f, hm, hz, hf => by
    obtain ⟨⟨a1, a2, a3, a4, a5, a6⟩, -, n1⟩ := lot_f h hh
    have hc2 := hc.set f n1
    have hK : cK c ≤ 6 := hc.2.2.2.2.2.2.2.2.1
    have hl : cl c ≤ 3 := hc.2.2.2.2.2.2.2.2.2.2.1
    have hm6 : tM (cl c) k ≤ k + 1 := by unfold tM; split <;> omega
    have key : ∀ n, m = n + 1 → fMin (fOf f 4 (nI m - 1)) (fMost ((setI I (h + 1) f) 1 11)) = nI (tk (cl c) φ k n) := by
      intro n e
      subst e
      have e4 : fOf f 4 (nI (n + 1) - 1) = nI (φ n) := by
        rw [nI_pred]
        refine (fOf_n _ (o := 4) (by decide) (by omega)).trans ?_
        have := hf.1 n (by omega)
        rw [if_neg (by omega)] at this
        exact this
      rw [e4, hc2.2.2.1, t1_n hl (hb n (by omega)), tk_in (by omega) (fun h2 i h3 h4 => hz h2 i (by omega) h4)]
    have tb : ∀ n, m = n + 1 → tk (cl c) φ k n < 2 ^ 31 := fun n e => by have := tk_le (cl c) φ k n; have := hb n (by omega); omega
    refine sg_X9_throwCoin_7 a1 a2 a3 a4 a5 a6 (fun z => ?_) (fun z y => ?_) (fun z y w => ?_) (fun z y w => ?_)
    · rw [nI_m1_lt (by omega)] at z
      subst z
      simp only [setI_same, setI_setI]
      exact q _ (hf.fin hp (by omega) (fun j hj => absurd hj (Nat.not_lt_zero _)))
    all_goals
      rw [nI_m1_lt (by omega)] at z
      obtain ⟨n, rfl⟩ : ∃ n, m = n + 1 := ⟨m - 1, by omega⟩
      simp only [setI_same, setI_setI] at y ⊢
      rw [key n rfl] at y ⊢
    · rw [nI_le0 (tb n rfl)] at y
      rw [show nI (n + 1) - 1 + -1 = nI n - 1 by rw [nI_pred]; exact (Int32.sub_eq_add_neg _ _).symm, nI_pred]
      refine throw_loop hc hh hb hp hk q n _ (by omega) (fun h2 i h3 h4 => ?_) (hf.step hp (by omega))
      by_cases e : i = n
      · subst e
        rw [tk_in (by omega) (fun h2 i h3 h4 => hz h2 i (by omega) h4)] at y
        unfold t1 at y
        split at y <;> omega
      · exact hz h2 i (by omega) h4
    · have e11 : ∀ g, (setI I (h + 1) g) 1 11 = nI (cl c) := fun g => (hc.set g n1).2.2.1
      simp only [setI_same, setI_setI] at w
      rw [e11, fOne_n hl] at w
      rw [show nI (n + 1) - 1 + -1 = nI n - 1 by rw [nI_pred]; exact (Int32.sub_eq_add_neg _ _).symm, nI_pred]
      exact throw_loop hc hh hb hp hk q n _ (by omega) (fun h2 => by omega) (hf.step hp (by omega))
    · have e11 : ∀ g, (setI I (h + 1) g) 1 11 = nI (cl c) := fun g => (hc.set g n1).2.2.1
      simp only [setI_same, setI_setI] at w
      rw [e11, fOne_n hl] at w
      rw [nI_le0 (tb n rfl)] at y
      have hpn : 0 < φ n := by have := tk_le (cl c) φ k n; omega
      have hnk : n < k := by
        have : tM (cl c) k = k := by unfold tM; rw [if_neg (by omega)]
        omega
      rw [nI_pred]
      exact q _ ((hf.step hp (by omega)).fin hp (by omega) (fun j hj => tk_under (by omega) hnk hpn hj))
theorem c_throwCoin {h : Nat} {c : HCf} {φ : Nat → Nat} {p k : Nat} (hc : CC I c) (hh : h ∈ lotL) (hφ : FtC (I (h + 1)) φ) (hb : ∀ j, j < 6 → φ j ≤ 200) (hp : p < 4) (hk : k < cK c) (q : ∀ f', ThrC (I (h + 1)) f' (cl c) φ p k → Q none (setI I (h + 1) f')) : HCall E me_X9_throwCoin (d + 2) [.ref 1, .ref h, .int (nI p), .int (nI k)] I Q := by
  obtain ⟨⟨a1, a2, a3, a4, a5, a6⟩, -, -⟩ := lot_f h hh
  have hK : cK c ≤ 6 := hc.2.2.2.2.2.2.2.2.1
  refine h_met (by decide) rfl (Nat.le_of_ble_eq_true rfl) (sg_X9_throwCoin_0 a1 a2 ?_)
  rw [hc.2.2.1, fTop_n hc.2.2.2.2.2.2.2.2.2.2.1]
  have := throw_loop (E := E) (d := d) hc hh hb hp hk q (tM (cl c) k) (I (h + 1)) (Nat.le_refl _) (fun _ i h1 h2 => by omega) ⟨fun j hj => ?_, fun j hj => ?_, fun o _ _ j _ => rfl⟩
  · rw [setI_id] at this; exact this
  · rw [hφ j hj]
    by_cases e : tM (cl c) k ≤ j
    · rw [if_pos e, tk_out φ e]; rfl
    · rw [if_neg e]
  · by_cases e : tM (cl c) k ≤ j
    · rw [if_pos e, tk_out φ e, nI_0]; simp
    · rw [if_neg e, nI_0]; simp
end CON2
