/-! the reference: the laws of a throw, habits, a visit -/
def MC (I : HIh) (c : HCf) : Prop := I 87 6 = nI (cK c) ∧ I 87 13 = nI (cv c) ∧ I 87 11 = nI (cl c) ∧ (∀ k, k < cK c → I 92 k = nI (cw c k)) ∧ (∀ i, i < 4 → I 94 i = nI (ch c i)) ∧ (∀ i, i < 4 → ch c i = 2 → I 95 i = nI (cb c i)) ∧ (∀ t, t < cv c → I 96 t = nI (cp c t)) ∧ CfOk c
theorem MC.set {I : HIh} {c : HCf} (h : MC I c) {q : Nat} (f : Nat → Int32) (n : q ≠ 87 ∧ q ≠ 92 ∧ q ≠ 94 ∧ q ≠ 95 ∧ q ≠ 96) : MC (setI I q f) c := by
  obtain ⟨h1, h2, h3, h4, h5, h6, h7, h8⟩ := h
  obtain ⟨n1, n6, n7, n8, n9⟩ := n
  refine ⟨?_, ?_, ?_, fun k hk => ?_, fun k hk => ?_, fun k hk => ?_, fun k hk => ?_, h8⟩
  · rw [setI_ne I f n1.symm]; exact h1
  · rw [setI_ne I f n1.symm]; exact h2
  · rw [setI_ne I f n1.symm]; exact h3
  · rw [setI_ne I f n6.symm]; exact h4 k hk
  · rw [setI_ne I f n7.symm]; exact h5 k hk
  · rw [setI_ne I f n8.symm]; exact h6 k hk
  · rw [setI_ne I f n9.symm]; exact h7 k hk
/-- a row of coins at a base: what lies, then the purses -/
def RowF (f : Nat → Int32) (b : Nat) (φ : Nat → Nat) : Prop := ∀ k, k < 6 → f (b + k) = nI (φ k)
def RowC (f : Nat → Int32) (b : Nat) (s : HCn) : Prop := RowF f b (s 4) ∧ ∀ i, i < 4 → ∀ k, k < 6 → f (b + 6 + 6 * i + k) = nI (s i k)
/-- the last kind under k of which one lies there, looked for from 0 on -/
def lastP (φ : Nat → Nat) (k : Nat) : Nat → Option Nat
  | 0 => none
  | n + 1 => if n < k ∧ 0 < φ n then some n else lastP φ k n
theorem lastP_iff {φ : Nat → Nat} {k : Nat} : ∀ {n j : Nat}, lastP φ k n = some j ↔ j < n ∧ j < k ∧ 0 < φ j ∧ ∀ i, j < i → i < n → i < k → φ i = 0
  | 0, j => by
    constructor
    · intro h; cases h
    · intro h; omega
  | n + 1, j => by
    unfold lastP
    by_cases q : n < k ∧ 0 < φ n
    · rw [if_pos q]
      constructor
      · intro h; cases h; exact ⟨by omega, q.1, q.2, fun i h1 h2 => by omega⟩
      · rintro ⟨h1, h2, h3, h4⟩
        by_cases e : j = n
        · rw [e]
        · have := h4 n (by omega) (by omega) q.1; omega
    · rw [if_neg q, lastP_iff]
      constructor
      · rintro ⟨h1, h2, h3, h4⟩
        refine ⟨by omega, h2, h3, fun i a b c => ?_⟩
        by_cases e : i = n
        · subst e; by_cases z : 0 < φ i
          · exact absurd ⟨c, z⟩ q
          · omega
        · exact h4 i a (by omega) c
      · rintro ⟨h1, h2, h3, h4⟩
        refine ⟨?_, h2, h3, fun i a b c => h4 i a (by omega) c⟩
        by_cases e : j = n
        · subst e; exact absurd ⟨h2, h3⟩ q
        · omega
theorem lastP_top {φ : Nat → Nat} {k K j : Nat} (hk : k ≤ K) : lastP φ k K = some j ↔ topB φ k j = true := by
  rw [lastP_iff, topB_iff]
  constructor
  · rintro ⟨-, h2, h3, h4⟩
    exact ⟨h2, h3, fun i a b => h4 i a (by omega) b⟩
  · rintro ⟨h2, h3, h4⟩
    exact ⟨by omega, h2, h3, fun i a _ b => h4 i a b⟩
theorem oI_eq {r : Option Nat} {j : Nat} (hj : j < 2 ^ 31) (hr : ∀ k, r = some k → k < 2 ^ 31) : nI j = oI r ↔ r = some j := by
  cases r with
  | none =>
    constructor
    · intro h
      exfalso
      rw [i_eq, nI_toInt hj] at h
      have : (oI none).toInt = -1 := rfl
      omega
    · intro h; cases h
  | some k =>
    have := hr k rfl
    show nI j = nI k ↔ _
    rw [nI_eq hj this]
    exact ⟨fun h => by rw [h], fun h => by cases h; rfl⟩
theorem oI_none {r : Option Nat} (hr : ∀ k, r = some k → k < 2 ^ 31) : oI r = -1 ↔ r = none := by
  cases r with
  | none => exact ⟨fun _ => rfl, fun _ => rfl⟩
  | some k =>
    have := hr k rfl
    constructor
    · intro h
      exfalso
      have h2 : nI k = -1 := h
      rw [i_eq, nI_toInt this] at h2
      have : (-1 : Int32).toInt = -1 := rfl
      omega
    · intro h; cases h
theorem ix0 (b j : Nat) : nI b + 0 + nI j = nI (b + j) := by rw [show (0 : Int32) = nI 0 from rfl, nI_add, nI_add]; rfl
theorem ix6 (b i j : Nat) : nI b + 6 + 6 * nI i + nI j = nI (b + 6 + 6 * i + j) := by rw [show (6 : Int32) = nI 6 from rfl, pk_mul, nI_add, nI_add, nI_add]
section MOD
variable {E : HEn} {d : Nat} {Q : Option Value → HIh → Prop} {I : HIh}
theorem m_worth_loop {c : HCf} {s : HCn} {b i : Nat} (hm : MC I c) (hr : RowC (I 88) b s) (hb : b ≤ 310) (hi : i < 4) (q : Q (some (.int (nI (wealth c s i)))) I) : ∀ (n j : Nat), j + n = cK c → HGo E (mF E (d + 1) Q) me_X12_worthOf 5 [(0, .ref 87), (1, .int (nI b)), (2, .int (nI i)), (3, .int (nI (sm (fun k => cw c k * s i k) j))), (4, .int (nI j))] [] I
  | n, j, hj => by
    have hK : cK c ≤ 6 := hm.2.2.2.2.2.2.2.2.1
    have hz : ¬ (I 87 6) ≤ nI j → j < cK c := fun z => by rw [hm.1, nI_leI (by omega) (by omega)] at z; omega
    refine sg_X12_worthOf_5 (fun z => ?_) (fun z => ?_) (fun z => ?_) (fun z => ?_)
    · rw [hm.1, nI_leI (by omega) (by omega)] at z
      have e : j = cK c := by omega
      subst e; exact q
    · have := hz z; rw [ix6]; exact vp_in_nI (by omega) (by decide)
    · have := hz z; exact vp_in_nI (by omega) (by decide)
    · have := hz z
      obtain ⟨n, rfl⟩ : ∃ k, n = k + 1 := ⟨n - 1, by omega⟩
      rw [ix6, nI_clamp (by omega), nI_clamp (by omega), hr.2 i hi j (by omega), hm.2.2.2.1 j (by omega), pk_mul, Nat.mul_comm, nI_add, nI_1]
      exact m_worth_loop hm hr hb hi q n (j + 1) (by omega)
theorem m_worthOf {c : HCf} {s : HCn} {b i : Nat} (hm : MC I c) (hr : RowC (I 88) b s) (hb : b ≤ 310) (hi : i < 4) (q : Q (some (.int (nI (wealth c s i)))) I) : HCall E me_X12_worthOf (d + 1) [.ref 87, .int (nI b), .int (nI i)] I Q :=
  h_met (by decide) rfl (Nat.le_of_ble_eq_true rfl) (sg_X12_worthOf_0 (m_worth_loop hm hr hb hi q (cK c) 0 (by omega)))
theorem m_takes_loop {c : HCf} {φ : Nat → Nat} {b k : Nat} (hm : MC I c) (hφ : RowF (I 88) b φ) (hb : b ≤ 310) (hf : ∀ j, j < 6 → φ j ≤ 200) (hk : k < cK c) (q : ∀ f', (∀ j, j < cK c → f' j = nI (tk (cl c) φ k j)) → Q (some (.int (nI (gsum c φ k)))) (setI I 97 f')) : ∀ (n j : Nat) (f : Nat → Int32), j + n = cK c → (∀ i, i < j → f i = nI (tk (cl c) φ k i)) → HGo E (mF E (d + 1) Q) me_X12_layTakes 55 [(0, .ref 87), (1, .int (nI b)), (2, .int (nI k)), (3, .int (nI (sm (fun i => tk (cl c) φ k i * cw c i) j))), (4, .int (oI (lastP φ k (cK c)))), (5, .int (nI j))] [] (setI I 97 f)
  | n, j, f, hj, hfj => by
    have hok := hm.2.2.2.2.2.2.2
    have hK : cK c ≤ 6 := hok.2.1
    have hl : cl c ≤ 3 := hok.2.2.2.1
    have hm2 := hm.set (q := 97) f (by decide)
    have hz : ¬ (setI I 97 f) 87 6 ≤ nI j → j < cK c := fun z => by rw [hm2.1, nI_leI (by omega) (by omega)] at z; omega
    have hls : ∀ t, lastP φ k (cK c) = some t → t < 2 ^ 31 := fun t ht => by have := (lastP_iff.mp ht).1; omega
    have l0 : nI (cl c) = 0 ↔ cl c = 0 := nI_eq (b := 0) (by omega) (by decide)
    have l1 : nI (cl c) = 1 ↔ cl c = 1 := nI_eq (b := 1) (by omega) (by decide)
    have l2 : nI (cl c) = 2 ↔ cl c = 2 := nI_eq (b := 2) (by omega) (by decide)
    have hrd : j < cK c → (setI I 97 f) 88 (nI b + 0 + nI j).toNatClampNeg = nI (φ j) := fun h => by
      rw [ix0, nI_clamp (by omega), setI_ne I f (by decide)]; exact hφ j (by omega)
    have go : j < cK c → ∀ v : Int32, v = nI (tk (cl c) φ k j) → HGo E (mF E (d + 1) Q) me_X12_layTakes 153 [(0, .ref 87), (1, .int (nI b)), (2, .int (nI k)), (3, .int (nI (sm (fun i => tk (cl c) φ k i * cw c i) j))), (4, .int (oI (lastP φ k (cK c)))), (5, .int (nI j))] [.int v, .int (nI j), .ref 97] (setI I 97 f) := by
      intro h v hv
      subst hv
      obtain ⟨n, rfl⟩ : ∃ k, n = k + 1 := ⟨n - 1, by omega⟩
      refine sg_X12_layTakes_153 (vp_in_nI (by omega) (by decide)) (vp_in_nI (by omega) (by decide)) ?_
      rw [setI_setI, setI_same, nI_clamp (by omega), upd_at _ rfl, setI_ne I f (by decide), hm.2.2.2.1 j h, pk_mul, nI_add, nI_1]
      refine m_takes_loop hm hφ hb hf hk q n (j + 1) _ (by omega) (fun i hi => ?_)
      by_cases e : i = j
      · subst e; exact upd_at _ rfl _
      · rw [upd_off _ e]; exact hfj i (by omega)
    refine sg_X12_layTakes_55 (fun z => ?_) (fun z => ?_) (fun z a1 a2 a3 a4 => ?_) (fun z a1 a2 a3 a4 => ?_) (fun z a1 a2 a3 => ?_) (fun z a1 a2 a3 => ?_) (fun z a1 a2 a3 => ?_) (fun z a1 a2 => ?_) (fun z a1 a2 => ?_)
    · rw [hm2.1, nI_leI (by omega) (by omega)] at z
      have e : j = cK c := by omega
      subst e
      exact q f hfj
    · have := hz z; rw [ix0]; exact vp_in_nI (by omega) (by decide)
    all_goals
      have hj2 := hz z
      rw [hm2.2.2.1] at *
      refine go hj2 _ ?_
    · rw [l0] at a1; rw [l1] at a2; rw [oI_eq (by omega) hls, lastP_top (by omega)] at a3; rw [l2] at a4
      rw [hrd hj2]; unfold tk; rw [if_neg a1, if_neg a2, if_pos a3, if_neg a4]
    · rw [l0] at a1; rw [l1] at a2; rw [oI_eq (by omega) hls, lastP_top (by omega)] at a3; rw [l2] at a4
      unfold tk; rw [if_neg a1, if_neg a2, if_pos a3, if_pos a4]; rfl
    · rw [l0] at a1; rw [l1] at a2; rw [oI_eq (by omega) hls, lastP_top (by omega)] at a3
      unfold tk; rw [if_neg a1, if_neg a2, if_neg a3]; rfl
    · rw [l0] at a1; rw [l1] at a2; rw [nI_ltI (by omega) (by omega)] at a3
      unfold tk; rw [if_neg a1, if_pos a2, if_neg (by omega)]; rfl
    · rw [l0] at a1; rw [l1] at a2; rw [nI_ltI (by omega) (by omega)] at a3
      rw [hrd hj2]; unfold tk; rw [if_neg a1, if_pos a2, if_pos (by omega)]
    · rw [l0] at a1; rw [nI_leI (by omega) (by omega)] at a2
      unfold tk; rw [if_pos a1, if_neg (by omega)]; rfl
    · rw [l0] at a1; rw [nI_leI (by omega) (by omega)] at a2
      rw [hrd hj2]; unfold tk; rw [if_pos a1, if_pos (by omega)]
theorem m_last_loop {c : HCf} {φ : Nat → Nat} {b k : Nat} {x3 : Int32} (hm : MC I c) (hφ : RowF (I 88) b φ) (hb : b ≤ 310) (hf : ∀ j, j < 6 → φ j ≤ 200) (hk : k < cK c) (q : HGo E (mF E (d + 1) Q) me_X12_layTakes 55 [(0, .ref 87), (1, .int (nI b)), (2, .int (nI k)), (3, .int x3), (4, .int (oI (lastP φ k (cK c)))), (5, .int 0)] [] I) : ∀ (n j : Nat), j + n = cK c → HGo E (mF E (d + 1) Q) me_X12_layTakes 8 [(0, .ref 87), (1, .int (nI b)), (2, .int (nI k)), (3, .int x3), (4, .int (oI (lastP φ k j))), (5, .int (nI j))] [] I
  | n, j, hj => by
    have hK : cK c ≤ 6 := hm.2.2.2.2.2.2.2.2.1
    have hz : ¬ I 87 6 ≤ nI j → j < cK c := fun z => by rw [hm.1, nI_leI (by omega) (by omega)] at z; omega
    have hrd : j < cK c → I 88 (nI b + 0 + nI j).toNatClampNeg = nI (φ j) := fun h => by rw [ix0, nI_clamp (by omega)]; exact hφ j (by omega)
    have no : ¬ (j < k ∧ 0 < φ j) → lastP φ k (j + 1) = lastP φ k j := fun h => if_neg h
    have yes : (j < k ∧ 0 < φ j) → lastP φ k (j + 1) = some j := fun h => if_pos h
    refine sg_X12_layTakes_8 (fun z => ?_) (fun z a => ?_) (fun z a => ?_) (fun z a y => ?_) (fun z a y => ?_)
    · rw [hm.1, nI_leI (by omega) (by omega)] at z
      have e : j = cK c := by omega
      subst e; exact q
    · have hj2 := hz z
      rw [nI_leI (by omega) (by omega)] at a
      obtain ⟨n, rfl⟩ : ∃ k, n = k + 1 := ⟨n - 1, by omega⟩
      have := m_last_loop hm hφ hb hf hk q n (j + 1) (by omega)
      rw [no (by omega)] at this
      rw [nI_1]; exact this
    · have := hz z; rw [ix0]; exact vp_in_nI (by omega) (by decide)
    · have hj2 := hz z
      rw [nI_leI (by omega) (by omega)] at a
      rw [hrd hj2, nI_le0 (by have := hf j (by omega); omega)] at y
      obtain ⟨n, rfl⟩ : ∃ k, n = k + 1 := ⟨n - 1, by omega⟩
      have := m_last_loop hm hφ hb hf hk q n (j + 1) (by omega)
      rw [no (by omega)] at this
      rw [nI_1]; exact this
    · have hj2 := hz z
      rw [nI_leI (by omega) (by omega)] at a
      rw [hrd hj2, nI_le0 (by have := hf j (by omega); omega)] at y
      obtain ⟨n, rfl⟩ : ∃ k, n = k + 1 := ⟨n - 1, by omega⟩
      have := m_last_loop hm hφ hb hf hk q n (j + 1) (by omega)
      rw [yes ⟨by omega, by omega⟩] at this
      rw [nI_1]; exact this
theorem m_layTakes {c : HCf} {φ : Nat → Nat} {b k : Nat} (hm : MC I c) (hφ : RowF (I 88) b φ) (hb : b ≤ 310) (hf : ∀ j, j < 6 → φ j ≤ 200) (hk : k < cK c) (q : ∀ f', (∀ j, j < cK c → f' j = nI (tk (cl c) φ k j)) → Q (some (.int (nI (gsum c φ k)))) (setI I 97 f')) : HCall E me_X12_layTakes (d + 1) [.ref 87, .int (nI b), .int (nI k)] I Q := by
  refine h_met (by decide) rfl (Nat.le_of_ble_eq_true rfl) (sg_X12_layTakes_0 (m_last_loop hm hφ hb hf hk ?_ (cK c) 0 (by omega)))
  have := m_takes_loop (E := E) (d := d) hm hφ hb hf hk q (cK c) 0 (I 97) (by omega) (fun i hi => absurd hi (Nat.not_lt_zero _))
  rw [setI_id] at this
  exact this
theorem m_gainOf {c : HCf} {φ : Nat → Nat} {b k : Nat} (hm : MC I c) (hφ : RowF (I 88) b φ) (hb : b ≤ 310) (hf : ∀ j, j < 6 → φ j ≤ 200) (hk : k < cK c) (q : ∀ f', (∀ j, j < cK c → f' j = nI (tk (cl c) φ k j)) → Q (some (.int (nI (gsum c φ k) - nI (cw c k)))) (setI I 97 f')) : HCall E me_X12_gainOf (d + 2) [.ref 87, .int (nI b), .int (nI k)] I Q := by
  have hK : cK c ≤ 6 := hm.2.2.2.2.2.2.2.2.1
  refine h_met (by decide) rfl (Nat.le_of_ble_eq_true rfl) (sg_X12_gainOf_0 (m_layTakes hm hφ hb hf hk (fun f' hf' => sg_X12_gainOf_6 (vp_in_nI (by omega) (by decide)) ?_)))
  rw [nI_clamp (by omega), setI_ne I f' (by decide), hm.2.2.2.1 k hk]
  exact q f' hf'
def RowP (f0 g : Nat → Int32) (b : Nat) (l : Nat) (s : HCn) (p k j : Nat) : Prop := (∀ i, i < 6 → g (b + i) = nI (if i < j then s 4 i - tk l (s 4) k i else s 4 i)) ∧ (∀ i, i < 6 → g (b + 6 + 6 * p + i) = nI (if i < j then s p i + tk l (s 4) k i else s p i)) ∧ (∀ o, o < 4 → o ≠ p → ∀ i, i < 6 → g (b + 6 + 6 * o + i) = nI (s o i)) ∧ ∀ x, (x < b ∨ b + 30 ≤ x) → g x = f0 x
theorem m_thr_loop {c : HCf} {s : HCn} {b p k : Nat} {f0 : Nat → Int32} (hm : MC I c) (hb : b ≤ 310) (hf : ∀ o, o < 5 → ∀ j, j < 6 → s o j ≤ 200) (hp : p < 4) (hk : k < cK c) (hpk : 0 < s p k) {ft : Nat → Int32} (hft : ∀ j, j < cK c → ft j = nI (tk (cl c) (s 4) k j)) (q : ∀ g, RowC g b (thr c s p k) → (∀ x, (x < b ∨ b + 30 ≤ x) → g x = f0 x) → Q none (setI (setI I 97 ft) 88 g)) : ∀ (n j : Nat) (g : Nat → Int32), j + n = cK c → RowP f0 g b (cl c) s p k j → HGo E (mF E (d + 2) Q) me_X12_throwsOne 10 [(0, .ref 87), (1, .int (nI b)), (2, .int (nI p)), (3, .int (nI k)), (4, .int (nI j))] [] (setI (setI I 97 ft) 88 g)
  | n, j, g, hj, hg => by
    have hok := hm.2.2.2.2.2.2.2
    have hK : cK c ≤ 6 := hok.2.1
    have hm2 := (hm.set (q := 97) ft (by decide)).set (q := 88) g (by decide)
    obtain ⟨g1, g2, g3, g4⟩ := hg
    have hz : ¬ (setI (setI I 97 ft) 88 g) 87 6 ≤ nI j → j < cK c := fun z => by rw [hm2.1, nI_leI (by omega) (by omega)] at z; omega
    refine sg_X12_throwsOne_10 (fun z => ?_) (fun z => ?_) (fun z => ?_) (fun z => ?_) (fun z => ?_) (fun z => ?_) (fun z => ?_)
    · rw [ix0]; exact vp_in_nI (by omega) (by decide)
    · rw [ix6]; exact vp_in_nI (by omega) (by decide)
    · rw [hm2.1, nI_leI (by omega) (by omega)] at z
      have e : j = cK c := by omega
      subst e
      rw [ix0, ix6, nI_clamp (by omega), nI_clamp (by omega), setI_setI, setI_setI, setI_same, upd_off _ (by omega)]
      have hle := tk_le (cl c) (s 4) k
      have h1 : g (b + k) = nI (s 4 k - tk (cl c) (s 4) k k) := by rw [g1 k (by omega), if_pos hk]
      have h2 : g (b + 6 + 6 * p + k) = nI (s p k + tk (cl c) (s 4) k k) := by rw [g2 k (by omega), if_pos hk]
      rw [h1, h2, nI_1, show nI (s p k + tk (cl c) (s 4) k k) - 1 = nI (s p k + tk (cl c) (s 4) k k - 1) by
        rw [show s p k + tk (cl c) (s 4) k k = (s p k + tk (cl c) (s 4) k k - 1) + 1 by omega, nI_pred]; rfl]
      have hout : ∀ i, i < 6 → ¬ i < cK c → tk (cl c) (s 4) k i = 0 := fun i _ h => tk_out _ (by unfold tM; split <;> omega)
      refine q _ ⟨fun i hi => ?_, fun o ho i hi => ?_⟩ (fun x hx => ?_)
      · rw [upd_off _ (by omega)]
        unfold thr
        rw [if_pos rfl]
        by_cases e : i = k
        · subst e; rw [upd_at _ rfl, if_pos rfl]
        · rw [upd_off _ (by omega), if_neg e, g1 i hi]
          by_cases e2 : i < cK c
          · rw [if_pos e2]; rfl
          · rw [if_neg e2, hout i hi e2]; rfl
      · unfold thr
        rw [if_neg (show ¬ o = 4 by omega)]
        by_cases ep : o = p
        · subst ep
          rw [if_pos rfl]
          by_cases e : i = k
          · subst e; rw [upd_at _ rfl, if_pos rfl]
          · rw [upd_off _ (by omega), upd_off _ (by omega), if_neg e, g2 i hi]
            by_cases e2 : i < cK c
            · rw [if_pos e2]; rfl
            · rw [if_neg e2, hout i hi e2]; rfl
        · rw [if_neg ep, upd_off _ (by omega), upd_off _ (by omega)]
          exact g3 o ho ep i hi
      · rw [upd_off _ (by omega), upd_off _ (by omega)]
        exact g4 x hx
    all_goals have hj2 := hz z
    · rw [ix0]; exact vp_in_nI (by omega) (by decide)
    · exact vp_in_nI (by omega) (by decide)
    · rw [ix6]; exact vp_in_nI (by omega) (by decide)
    · obtain ⟨n, rfl⟩ : ∃ k, n = k + 1 := ⟨n - 1, by omega⟩
      have hle := tk_le (cl c) (s 4) k j
      rw [ix0, ix6, nI_clamp (by omega), nI_clamp (by omega), nI_clamp (by omega), setI_setI, setI_setI, setI_same, upd_off _ (by omega)]
      have ht : (setI (setI I 97 ft) 88 g) 97 j = nI (tk (cl c) (s 4) k j) := by rw [setI_ne _ _ (by decide), setI_same]; exact hft j hj2
      have h1 : g (b + j) = nI (s 4 j) := by rw [g1 j (by omega), if_neg (by omega)]
      have h2 : g (b + 6 + 6 * p + j) = nI (s p j) := by rw [g2 j (by omega), if_neg (by omega)]
      rw [ht, h1, h2, pk_sub hle, nI_add, nI_1]
      refine m_thr_loop hm hb hf hp hk hpk hft q n (j + 1) _ (by omega) ⟨fun i hi => ?_, fun i hi => ?_, fun o ho ep i hi => ?_, fun x hx => ?_⟩
      · rw [upd_off _ (by omega)]
        by_cases e : i = j
        · subst e; rw [upd_at _ rfl, if_pos (by omega)]
        · rw [upd_off _ (by omega), g1 i hi]
          by_cases e2 : i < j
          · rw [if_pos e2, if_pos (by omega)]
          · rw [if_neg e2, if_neg (by omega)]
      · by_cases e : i = j
        · subst e; rw [upd_at _ rfl, if_pos (by omega)]
        · rw [upd_off _ (by omega), upd_off _ (by omega), g2 i hi]
          by_cases e2 : i < j
          · rw [if_pos e2, if_pos (by omega)]
          · rw [if_neg e2, if_neg (by omega)]
      · rw [upd_off _ (by omega), upd_off _ (by omega)]; exact g3 o ho ep i hi
      · rw [upd_off _ (by omega), upd_off _ (by omega)]; exact g4 x hx
theorem m_throwsOne {c : HCf} {s : HCn} {b p k : Nat} (hm : MC I c) (hr : RowC (I 88) b s) (hb : b ≤ 310) (hf : Lot2 s) (hp : p < 4) (hk : k < cK c) (hpk : 0 < s p k) (q : ∀ ft g, RowC g b (thr c s p k) → (∀ x, (x < b ∨ b + 30 ≤ x) → g x = I 88 x) → Q none (setI (setI I 97 ft) 88 g)) : HCall E me_X12_throwsOne (d + 2) [.ref 87, .int (nI b), .int (nI p), .int (nI k)] I Q := by
  refine h_met (by decide) rfl (Nat.le_of_ble_eq_true rfl) (sg_X12_throwsOne_0 (m_layTakes hm hr.1 hb (fun j hj => hf 4 (by decide) j hj) hk (fun ft hft => sg_X12_throwsOne_6 ?_)))
  have := m_thr_loop (E := E) (d := d) (f0 := I 88) hm hb hf hp hk hpk hft (q ft) (cK c) 0 (I 88) (by omega) ⟨fun i hi => ?_, fun i hi => ?_, fun o ho ep i hi => hr.2 o ho i hi, fun _ _ => rfl⟩
  · have e : setI (setI I 97 ft) 88 (I 88) = setI I 97 ft := by
      rw [show I 88 = (setI I 97 ft) 88 from (setI_ne I ft (by decide)).symm, setI_id]
    rw [e] at this; exact this
  · rw [if_neg (Nat.not_lt_zero _)]; exact hr.1 i hi
  · rw [if_neg (Nat.not_lt_zero _)]; exact hr.2 p hp i hi
theorem m_isHad {s : HCn} {b i k : Nat} (hr : RowC (I 88) b s) (hb : b ≤ 310) (hf : Lot2 s) (hi : i < 4) (hk : k < 6) (q1 : 0 < s i k → Q (some (.int 1)) I) (q0 : s i k = 0 → Q (some (.int 0)) I) : HCall E me_X12_isHad (d + 1) [.ref 87, .int (nI b), .int (nI i), .int (nI k)] I Q := by
  have e : I 88 (nI b + 6 + 6 * nI i + nI k).toNatClampNeg = nI (s i k) := by rw [ix6, nI_clamp (by omega)]; exact hr.2 i hi k hk
  have hb2 := hf i (by omega) k hk
  refine h_met (by decide) rfl (Nat.le_of_ble_eq_true rfl) (sg_X12_isHad_0 (by rw [ix6]; exact vp_in_nI (by omega) (by decide)) (fun z => ?_) (fun z => ?_))
  · rw [e, nI_le0 (by omega)] at z; exact q0 z
  · rw [e, nI_le0 (by omega)] at z; exact q1 (by omega)
theorem m_copy_loop {a b : Nat} {f0 : Nat → Int32} (ha : a ≤ 10) (hb : b ≤ 10) (hab : a ≠ b) (q : ∀ g, (∀ j, j < 31 → g (31 * b + j) = f0 (31 * a + j)) → (∀ x, (x < 31 * b ∨ 31 * b + 31 ≤ x) → g x = f0 x) → Q none (setI I 88 g)) : ∀ (n j : Nat) (g : Nat → Int32), j + n = 31 → (∀ i, i < j → g (31 * b + i) = f0 (31 * a + i)) → (∀ x, (x < 31 * b ∨ 31 * b + 31 ≤ x) → g x = f0 x) → HGo E (mF E (d + 1) Q) me_X12_copy 2 [(0, .ref 87), (1, .int (nI a)), (2, .int (nI b)), (3, .int (nI j))] [] (setI I 88 g)
  | n, j, g, hj, h1, h2 => by
    have ix : ∀ x : Nat, 31 * nI x + nI j = nI (31 * x + j) := fun x => by rw [show (31 : Int32) = nI 31 from rfl, pk_mul, nI_add]
    have hz : ¬ 31 ≤ nI j → j < 31 := fun z => by rw [show (31 : Int32) = nI 31 from rfl, nI_leI (by omega) (by omega)] at z; omega
    refine sg_X12_copy_2 (fun z => ?_) (fun z => ?_) (fun z => ?_) (fun z => ?_)
    · rw [show (31 : Int32) = nI 31 from rfl, nI_leI (by omega) (by omega)] at z
      have e : j = 31 := by omega
      subst e
      exact q g h1 h2
    · have := hz z; rw [ix]; exact vp_in_nI (by omega) (by decide)
    · have := hz z; rw [ix]; exact vp_in_nI (by omega) (by decide)
    · have hj2 := hz z
      obtain ⟨n, rfl⟩ : ∃ k, n = k + 1 := ⟨n - 1, by omega⟩
      rw [ix, ix, nI_clamp (by omega), nI_clamp (by omega), setI_setI, setI_same, nI_1]
      have ea : g (31 * a + j) = f0 (31 * a + j) := h2 _ (by omega)
      refine m_copy_loop ha hb hab q n (j + 1) _ (by omega) (fun i hi => ?_) (fun x hx => ?_)
      · by_cases e : i = j
        · subst e; rw [upd_at _ rfl]; exact ea
        · rw [upd_off _ (by omega)]; exact h1 i (by omega)
      · rw [upd_off _ (by omega)]; exact h2 x hx
theorem m_copy {a b : Nat} (ha : a ≤ 10) (hb : b ≤ 10) (hab : a ≠ b) (q : ∀ g, (∀ j, j < 31 → g (31 * b + j) = I 88 (31 * a + j)) → (∀ x, (x < 31 * b ∨ 31 * b + 31 ≤ x) → g x = I 88 x) → Q none (setI I 88 g)) : HCall E me_X12_copy (d + 1) [.ref 87, .int (nI a), .int (nI b)] I Q := by
  refine h_met (by decide) rfl (Nat.le_of_ble_eq_true rfl) (sg_X12_copy_0 ?_)
  have := m_copy_loop (E := E) (d := d) ha hb hab q 31 0 (I 88) rfl (fun i hi => absurd hi (Nat.not_lt_zero _)) (fun _ _ => rfl)
  rw [setI_id] at this
  exact this
/-- the visits of a set that are left, as the reference counts -/
def fLeftM (c : HCf) (z : Int32) (t : Nat) : Nat → Int32
  | 0 => 0
  | n + 1 => fLeftM c z t n + if (z >>> ((nI (cp c (t + n))) &&& 31)) &&& 1 = 1 then 1 else 0
theorem m_left_loop {c : HCf} {z : Int32} {t : Nat} (hm : MC I c) (ht : t ≤ cv c) (q : Q (some (.int (fLeftM c z t (cv c - t)))) I) : ∀ (n j : Nat), j + n = cv c - t → HGo E (mF E (d + 2) Q) me_X12_leftOf 10 [(0, .ref 87), (1, .int z), (2, .int (fLeftM c z t j)), (3, .int (nI (t + j)))] [] I
  | n, j, hj => by
    have hV : cv c ≤ 24 := hm.2.2.2.2.2.2.2.2.2.2.2.2.2.1
    have hz : ¬ I 87 13 ≤ nI (t + j) → t + j < cv c := fun z => by rw [hm.2.1, nI_leI (by omega) (by omega)] at z; omega
    refine sg_X12_leftOf_10 (fun y => ?_) (fun y => ?_) (fun y w => ?_) (fun y w => ?_)
    · rw [hm.2.1, nI_leI (by omega) (by omega)] at y
      have e : j = cv c - t := by omega
      subst e; exact q
    · have := hz y; exact vp_in_nI (by omega) (by decide)
    all_goals
      have hj2 := hz y
      obtain ⟨n, rfl⟩ : ∃ k, n = k + 1 := ⟨n - 1, by omega⟩
      rw [nI_clamp (by omega), hm.2.2.2.2.2.2.1 (t + j) hj2] at w
      rw [nI_1]
    · have := m_left_loop hm ht q n (j + 1) (by omega)
      unfold fLeftM at this
      rw [if_pos w] at this; exact this
    · have := m_left_loop hm ht q n (j + 1) (by omega)
      unfold fLeftM at this
      rw [if_neg w] at this; exact this
theorem m_leftOf {c : HCf} {z : Int32} {t : Nat} (hm : MC I c) (hg : I 88 30 = nI t) (ht : t ≤ cv c) (q : Q (some (.int (fLeftM c z t (cv c - t)))) I) : HCall E me_X12_leftOf (d + 2) [.ref 87, .int z] I Q := by
  refine h_met (by decide) rfl (Nat.le_of_ble_eq_true rfl) (sg_X12_leftOf_0 ?_)
  rw [hg]
  exact m_left_loop hm ht q (cv c - t) 0 (by omega)
theorem fLeft_eq (c : HCf) (z : Int32) (t : Nat) (hb : ∀ p : Nat, p < 4 → (z >>> ((nI p) &&& 31)) &&& 1 = 1 ∨ (z >>> ((nI p) &&& 31)) &&& 1 = 0) : ∀ n, (∀ j, j < n → cp c (t + j) < 4) → fLeft c z t n = fLeftM c z t n
  | 0, _ => rfl
  | n + 1, h => by
    show fLeft c z t n + _ = fLeftM c z t n + _
    rw [fLeft_eq c z t hb n (fun j hj => h j (by omega))]
    rcases hb _ (h n (by omega)) with e | e
    · rw [e, if_pos rfl]
    · rw [e, if_neg (by decide)]
def mscan (cheap : Bool) (g : Nat → Int) (has : Nat → Bool) : Nat → Option Nat × Int
  | 0 => (none, 0)
  | n + 1 => if has n = true ∧ (mscan cheap g has n).2 < g n ∧ (cheap = false ∨ (mscan cheap g has n).1 = none) then (some n, g n) else mscan cheap g has n
theorem mscan_pos {cheap : Bool} {g : Nat → Int} {has : Nat → Bool} : ∀ {n : Nat}, 0 ≤ (mscan cheap g has n).2 ∧ ((mscan cheap g has n).1 = none ↔ (mscan cheap g has n).2 = 0)
  | 0 => ⟨Int.le_refl _, fun _ => rfl, fun _ => rfl⟩
  | n + 1 => by
    have ih := mscan_pos (cheap := cheap) (g := g) (has := has) (n := n)
    unfold mscan
    split
    · rename_i q
      have := q.2.1
      refine ⟨?_, fun h => ?_, fun h => ?_⟩
      · show 0 ≤ g n; omega
      · cases h
      · have h2 : g n = 0 := h
        omega
    · exact ih
theorem mscan_1 {all : Bool} {g : Nat → Int} {has : Nat → Bool} : ∀ {n : Nat}, (scan all g has 1 n).1 = (mscan (!all) g has n).1 ∧ (scan all g has 1 n).2 = (mscan (!all) g has n).2 + 1
  | 0 => ⟨rfl, rfl⟩
  | n + 1 => by
    obtain ⟨h1, h2⟩ := mscan_1 (all := all) (g := g) (has := has) (n := n)
    unfold scan mscan
    have e : (has n = true ∧ (scan all g has 1 n).2 ≤ g n ∧ (all = true ∨ (scan all g has 1 n).1 = none)) ↔ (has n = true ∧ (mscan (!all) g has n).2 < g n ∧ ((!all) = false ∨ (mscan (!all) g has n).1 = none)) := by
      rw [h1, h2]
      constructor
      · rintro ⟨a, b, c⟩; exact ⟨a, by omega, c.elim (fun q => Or.inl (by rw [q]; rfl)) Or.inr⟩
      · rintro ⟨a, b, c⟩; exact ⟨a, by omega, c.elim (fun q => Or.inl (by cases all <;> simp_all)) Or.inr⟩
    by_cases q : has n = true ∧ (scan all g has 1 n).2 ≤ g n ∧ (all = true ∨ (scan all g has 1 n).1 = none)
    · rw [if_pos q, if_pos (e.mp q)]; exact ⟨rfl, rfl⟩
    · rw [if_neg q, if_neg (fun z => q (e.mpr z))]; exact ⟨h1, h2⟩
theorem mscan_w {g : Nat → Int} {has : Nat → Bool} {en : Int} (he : 1 ≤ en) : ∀ {n : Nat}, scan true g has en n = if en ≤ (mscan false g has n).2 then ((mscan false g has n).1, (mscan false g has n).2 + 1) else (none, en)
  | 0 => by
    show (none, en) = if en ≤ 0 then _ else _
    rw [if_neg (by omega)]
  | n + 1 => by
    have ih := mscan_w (g := g) (has := has) he (n := n)
    have hM : mscan false g has (n + 1) = if has n = true ∧ (mscan false g has n).2 < g n then (some n, g n) else mscan false g has n := by
      show (if has n = true ∧ _ ∧ (false = false ∨ _) then _ else _) = _
      by_cases q : has n = true ∧ (mscan false g has n).2 < g n
      · rw [if_pos ⟨q.1, q.2, Or.inl rfl⟩, if_pos q]
      · rw [if_neg (fun z => q ⟨z.1, z.2.1⟩), if_neg q]
    have hS : scan true g has en (n + 1) = if has n = true ∧ (scan true g has en n).2 ≤ g n then (some n, g n + 1) else scan true g has en n := by
      show (if has n = true ∧ _ ∧ (true = true ∨ _) then _ else _) = _
      by_cases q : has n = true ∧ (scan true g has en n).2 ≤ g n
      · rw [if_pos ⟨q.1, q.2, Or.inl rfl⟩, if_pos q]
      · rw [if_neg (fun z => q ⟨z.1, z.2.1⟩), if_neg q]
    rw [hM, hS, ih]
    generalize mscan false g has n = M
    by_cases h1 : en ≤ M.2
    · rw [if_pos h1]
      by_cases q : has n = true ∧ M.2 < g n
      · rw [if_pos (c := has n = true ∧ M.2 + 1 ≤ g n) ⟨q.1, by have := q.2; omega⟩, if_pos q, if_pos (by show en ≤ g n; have := q.2; omega)]
      · rw [if_neg (c := has n = true ∧ M.2 + 1 ≤ g n) (fun z => q ⟨z.1, by have := z.2; omega⟩), if_neg q, if_pos h1]
    · rw [if_neg h1]
      by_cases q : has n = true ∧ M.2 < g n
      · rw [if_pos q]
        by_cases q2 : en ≤ g n
        · rw [if_pos (c := has n = true ∧ en ≤ g n) ⟨q.1, q2⟩, if_pos q2]
        · rw [if_neg (c := has n = true ∧ en ≤ g n) (fun z => q2 z.2), if_neg q2]
      · rw [if_neg (c := has n = true ∧ en ≤ g n) (fun z => q ⟨z.1, by have := z.2; omega⟩), if_neg q, if_neg h1]
theorem hab_m (c : HCf) (s : HCn) (i : Nat) : hab c s i = if ch c i = 0 then none else if ch c i = 2 ∧ (mscan (decide (ch c i = 3)) (gainI c (s 4)) (fun k => decide (0 < s i k)) (cK c)).2 < cb c i then none else (mscan (decide (ch c i = 3)) (gainI c (s 4)) (fun k => decide (0 < s i k)) (cK c)).1 := by
  unfold hab
  by_cases h0 : ch c i = 0
  · rw [if_pos h0, if_pos h0]
  · rw [if_neg h0, if_neg h0]
    by_cases h2 : ch c i = 2
    · have e3 : decide (ch c i = 3) = false := decide_eq_false (by omega)
      rw [if_pos h2, e3]
      have hp := mscan_pos (cheap := false) (g := gainI c (s 4)) (has := fun k => decide (0 < s i k)) (n := cK c)
      show (scan true _ _ _ _).1 = _
      rw [mscan_w (by omega)]
      by_cases q : (mscan false (gainI c (s 4)) (fun k => decide (0 < s i k)) (cK c)).2 < cb c i
      · rw [if_neg (by omega), if_pos ⟨h2, q⟩]
      · rw [if_neg (c := ch c i = 2 ∧ _) (fun z => q z.2)]
        by_cases q2 : max 1 (cb c i : Int) ≤ (mscan false (gainI c (s 4)) (fun k => decide (0 < s i k)) (cK c)).2
        · rw [if_pos q2]
        · rw [if_neg q2]
          exact (hp.2.mpr (by omega)).symm
    · rw [if_neg h2, if_neg (c := ch c i = 2 ∧ _) (fun z => h2 z.1)]
      have := (mscan_1 (all := !decide (ch c i = 3)) (g := gainI c (s 4)) (has := fun k => decide (0 < s i k)) (n := cK c)).1
      rw [Bool.not_not] at this
      exact this
theorem mscan_b {cheap : Bool} {g : Nat → Int} {has : Nat → Bool} : ∀ {n : Nat}, (∀ k, k < n → g k ≤ 1198800) → (mscan cheap g has n).2 ≤ 1198800
  | 0, _ => by show (0 : Int) ≤ _; omega
  | n + 1, hg => by
    unfold mscan
    split
    · exact hg n (Nat.lt_succ_self n)
    · exact mscan_b (fun k hk => hg k (Nat.lt_succ_of_lt hk))
theorem mscan_lt {cheap : Bool} {g : Nat → Int} {has : Nat → Bool} : ∀ {n k : Nat}, (mscan cheap g has n).1 = some k → k < n
  | 0, k, h => by cases h
  | n + 1, k, h => by
    unfold mscan at h
    split at h
    · cases h; exact Nat.lt_succ_self _
    · exact Nat.lt_succ_of_lt (mscan_lt h)
theorem m_hab_loop {c : HCf} {s : HCn} {b i : Nat} (hm : MC I c) (hr : RowC (I 88) b s) (hb : b ≤ 310) (hf : Lot2 s) (hi : i < 4) (q : ∀ ft, Q (some (.int (oI (hab c s i)))) (setI I 97 ft)) : ∀ (n j : Nat) (x4 : Int32) (f : Nat → Int32), j + n = cK c → x4.toInt = (mscan (decide (ch c i = 3)) (gainI c (s 4)) (fun k => decide (0 < s i k)) j).2 → HGo E (mF E (d + 3) Q) me_X12_byHabit 8 [(0, .ref 87), (1, .int (nI b)), (2, .int (nI i)), (3, .int (oI (mscan (decide (ch c i = 3)) (gainI c (s 4)) (fun k => decide (0 < s i k)) j).1)), (4, .int x4), (5, .int (nI j))] [] (setI I 97 f)
  | n, j, x4, f, hj, hx => by
    have hok := hm.2.2.2.2.2.2.2
    have hK : cK c ≤ 6 := hok.2.1
    have hm2 := hm.set (q := 97) f (by decide)
    have h3 := hok.2.2.2.2.1 i hi
    have hbd := hok.2.2.2.2.2.1 i hi
    have hr2 : RowC ((setI I 97 f) 88) b s := by rw [setI_ne I f (by decide)]; exact hr
    have hz : ¬ (setI I 97 f) 87 6 ≤ nI j → j < cK c := fun z => by rw [hm2.1, nI_leI (by omega) (by omega)] at z; omega
    have hgb : ∀ k, k < cK c → _ := fun k hk => gainI_b hok (φ := s 4) (fun x hx => hf 4 (by decide) x hx) hk
    have hsp := mscan_pos (cheap := decide (ch c i = 3)) (g := gainI c (s 4)) (has := fun k => decide (0 < s i k)) (n := j)
    have hsb := mscan_b (cheap := decide (ch c i = 3)) (g := gainI c (s 4)) (has := fun k => decide (0 < s i k)) (n := j) (fun k hk => (hgb k (by omega)).2)
    have hsl : ∀ t, (mscan (decide (ch c i = 3)) (gainI c (s 4)) (fun k => decide (0 < s i k)) j).1 = some t → t < 2 ^ 31 := fun t ht => by have := mscan_lt ht; omega
    have hh : (setI I 97 f) 94 (nI i).toNatClampNeg = nI (ch c i) := by rw [nI_clamp (by omega)]; exact hm2.2.2.2.2.1 i hi
    have e0 : nI (ch c i) = 0 ↔ ch c i = 0 := nI_eq (b := 0) (by omega) (by decide)
    have e2 : nI (ch c i) = 2 ↔ ch c i = 2 := nI_eq (b := 2) (by omega) (by decide)
    have e3 : nI (ch c i) = 3 ↔ ch c i = 3 := nI_eq (b := 3) (by omega) (by decide)
    have z0 : (0 : Int32).toInt = 0 := rfl
    have vi : vp_in (nI i) 4 := vp_in_nI hi (by decide)
    refine sg_X12_byHabit_8 (fun z => vi) (fun z a => ?_) (fun z a => vi) (fun z a y => ?_) (fun z a y => vi) (fun z a y w => ?_) (fun z a y w => ?_) (fun z => ?_)
    · rw [hh, e0] at a
      have := q f
      rw [hab_m, if_pos a] at this; exact this
    · rw [hm2.1, nI_leI (by omega) (by omega)] at z
      have ej : j = cK c := by omega
      subst ej
      rw [hh, e0] at a; rw [hh, e2] at y
      have := q f
      rw [hab_m, if_neg a, if_neg (fun t => y t.1)] at this; exact this
    · rw [hm2.1, nI_leI (by omega) (by omega)] at z
      have ej : j = cK c := by omega
      subst ej
      rw [hh, e0] at a; rw [hh, e2] at y
      rw [nI_clamp (by omega), hm2.2.2.2.2.2.1 i hi y, i_le, nI_toInt (by omega), hx] at w
      have := q f
      rw [hab_m, if_neg a, if_neg (fun t => by have := t.2; omega)] at this; exact this
    · rw [hm2.1, nI_leI (by omega) (by omega)] at z
      have ej : j = cK c := by omega
      subst ej
      rw [hh, e0] at a; rw [hh, e2] at y
      rw [nI_clamp (by omega), hm2.2.2.2.2.2.1 i hi y, i_le, nI_toInt (by omega), hx] at w
      have := q f
      rw [hab_m, if_neg a, if_pos ⟨y, by omega⟩] at this; exact this
    · have hj2 := hz z
      obtain ⟨n, rfl⟩ : ∃ k, n = k + 1 := ⟨n - 1, by omega⟩
      have stay : ¬ (0 < s i j ∧ (mscan (decide (ch c i = 3)) (gainI c (s 4)) (fun k => decide (0 < s i k)) j).2 < gainI c (s 4) j ∧ (decide (ch c i = 3) = false ∨ (mscan (decide (ch c i = 3)) (gainI c (s 4)) (fun k => decide (0 < s i k)) j).1 = none)) → ∀ f2 : Nat → Int32, HGo E (mF E (d + 3) Q) me_X12_byHabit 8 [(0, .ref 87), (1, .int (nI b)), (2, .int (nI i)), (3, .int (oI (mscan (decide (ch c i = 3)) (gainI c (s 4)) (fun k => decide (0 < s i k)) j).1)), (4, .int x4), (5, .int (nI j + 1))] [] (setI I 97 f2) := fun hno f2 => by
        have e : mscan (decide (ch c i = 3)) (gainI c (s 4)) (fun k => decide (0 < s i k)) (j + 1) = mscan (decide (ch c i = 3)) (gainI c (s 4)) (fun k => decide (0 < s i k)) j := if_neg (fun t => hno ⟨of_decide_eq_true t.1, t.2⟩)
        have := m_hab_loop hm hr hb hf hi q n (j + 1) x4 f2 (by omega) (by rw [e]; exact hx)
        rw [e] at this
        rw [nI_1]; exact this
      refine m_isHad hr2 hb hf hi (by omega) (fun hp => ?_) (fun hp => ?_)
      · refine sg_X12_byHabit_25 (fun a => absurd a (by decide)) (fun a => absurd a (by decide)) (fun a => absurd a (by decide)) (fun a => absurd a (by decide)) (fun a => absurd a (by decide)) (fun _ => ?_)
        refine m_gainOf hm2 hr2.1 hb (fun x hx => hf 4 (by decide) x hx) hj2 (fun f2 hf2 => ?_)
        rw [setI_setI]
        have hgi := gain_int hok (φ := s 4) (fun x hx => hf 4 (by decide) x hx) hj2
        have hh2 : (setI I 97 f2) 94 (nI i).toNatClampNeg = nI (ch c i) := by rw [nI_clamp (by omega)]; exact (hm.set (q := 97) f2 (by decide)).2.2.2.2.1 i hi
        have take : (mscan (decide (ch c i = 3)) (gainI c (s 4)) (fun k => decide (0 < s i k)) j).2 < gainI c (s 4) j → (decide (ch c i = 3) = false ∨ (mscan (decide (ch c i = 3)) (gainI c (s 4)) (fun k => decide (0 < s i k)) j).1 = none) → HGo E (mF E (d + 3) Q) me_X12_byHabit 8 [(0, .ref 87), (1, .int (nI b)), (2, .int (nI i)), (3, .int (nI j)), (4, .int (nI (gsum c (s 4) j) - nI (cw c j))), (5, .int (nI j + 1))] [] (setI I 97 f2) := fun h1 h2 => by
          have e : mscan (decide (ch c i = 3)) (gainI c (s 4)) (fun k => decide (0 < s i k)) (j + 1) = (some j, gainI c (s 4) j) := if_pos ⟨decide_eq_true hp, h1, h2⟩
          have := m_hab_loop hm hr hb hf hi q n (j + 1) (nI (gsum c (s 4) j) - nI (cw c j)) f2 (by omega) (by rw [e]; exact hgi)
          rw [e] at this
          rw [nI_1]; exact this
        refine sg_X12_byHabit_35 (fun a => ?_) (fun a => vi) (fun a y => ?_) (fun a y w => ?_) (fun a y w => ?_)
        · rw [i_le, hgi, hx] at a
          exact stay (fun t => by have := t.2.1; omega) f2
        · rw [i_le, hgi, hx] at a
          rw [hh2, e3] at y
          exact take (by omega) (Or.inl (decide_eq_false y))
        · rw [i_le, hgi, hx] at a
          rw [hh2, e3] at y
          rw [oI_none hsl] at w
          exact stay (fun t => t.2.2.elim (fun t => by rw [decide_eq_true y] at t; cases t) w) f2
        · rw [i_le, hgi, hx] at a
          rw [oI_none hsl] at w
          exact take (by omega) (Or.inr w)
      · refine sg_X12_byHabit_25 (fun _ _ => stay (fun t => by have := t.1; omega) f) (fun _ _ => vi) (fun _ a => ?_) (fun _ a => ?_) (fun _ a => ?_) (fun a => absurd rfl a)
        all_goals (exfalso; rw [i_le, hx, z0] at a; omega)
theorem m_byHabit {c : HCf} {s : HCn} {b i : Nat} (hm : MC I c) (hr : RowC (I 88) b s) (hb : b ≤ 310) (hf : Lot2 s) (hi : i < 4) (q : ∀ ft, Q (some (.int (oI (hab c s i)))) (setI I 97 ft)) : HCall E me_X12_byHabit (d + 3) [.ref 87, .int (nI b), .int (nI i)] I Q := by
  refine h_met (by decide) rfl (Nat.le_of_ble_eq_true rfl) (sg_X12_byHabit_0 ?_)
  have := m_hab_loop (E := E) (d := d) hm hr hb hf hi q (cK c) 0 0 (I 97) (by omega) rfl
  rw [setI_id] at this
  exact this
theorem m_visitsBy {c : HCf} {s : HCn} {b i : Nat} (hm : MC I c) (hr : RowC (I 88) b s) (hb : b ≤ 310) (hf : Lot2 s) (hi : i < 4) (q : ∀ ft g, RowC g b (vst c s i (hab c s i)) → (∀ x, (x < b ∨ b + 30 ≤ x) → g x = I 88 x) → Q (some (.int (if hab c s i = none then 0 else 1))) (setI (setI I 97 ft) 88 g)) : HCall E me_X12_visitsBy (d + 4) [.ref 87, .int (nI b), .int (nI i)] I Q := by
  have hok := hm.2.2.2.2.2.2.2
  have hK : cK c ≤ 6 := hok.2.1
  refine h_met (by decide) rfl (Nat.le_of_ble_eq_true rfl) (sg_X12_visitsBy_0 (m_byHabit hm hr hb hf hi (fun f => ?_)))
  have hsl : ∀ t, hab c s i = some t → t < 2 ^ 31 := fun t ht => by have := (hab_lt ht).1; omega
  have e88 : (setI I 97 f) 88 = I 88 := setI_ne I f (by decide)
  refine sg_X12_visitsBy_6 (fun a _ => ?_) (fun a b => absurd a b) (fun a => ?_)
  · rw [oI_none hsl] at a
    have := q f (I 88) (by rw [a]; exact hr) (fun _ _ => rfl)
    rw [← e88, setI_id, if_pos a] at this
    exact this
  · rw [oI_none hsl] at a
    obtain ⟨k, hk⟩ : ∃ k, hab c s i = some k := by cases h : hab c s i with
      | none => exact absurd h a
      | some k => exact ⟨k, rfl⟩
    rw [hk]
    have hkl := hab_lt hk
    refine m_throwsOne (k := k) (hm.set (q := 97) f (by decide)) (by rw [e88]; exact hr) hb hf hi hkl.1 hkl.2 (fun f2 g hg ho => ?_)
    rw [e88] at ho
    rw [setI_setI]
    have := q f2 g (by rw [hk]; exact hg) ho
    rw [if_neg a] at this
    refine sg_X12_visitsBy_19 (fun z => ?_) (fun _ => this)
    exfalso
    exact absurd ((oI_none (r := some k) (fun t ht => by cases ht; omega)).mp z) (by simp)
end MOD
