/-! the reference: the laws of a throw, habits, a visit -/
def MC (I : HIh) (c : HCf) : Prop := I 87 6 = nI (cK c) ∧ I 87 13 = nI (cv c) ∧ I 87 11 = nI (cl c) ∧ (∀ k, k < cK c → I 92 k = nI (cw c k)) ∧ (∀ i, i < 4 → I 94 i = nI (ch c i)) ∧ (∀ i, i < 4 → ch c i = 2 → I 95 i = nI (cb c i)) ∧ (∀ t, t < cv c → I 96 t = nI (cp c t)) ∧ CfOk c
theorem MC.set {I : HIh} {c : HCf} (h : MC I c) {q : Nat} (f : Nat → Int32) (n : q ≠ 87 ∧ q ≠ 92 ∧ q ≠ 94 ∧ q ≠ 95 ∧ q ≠ 96) : MC (setI I q f) c := by
  obtain ⟨h1, h2, h3, h4, h5, h6, h7, h8⟩ := h
  obtain ⟨n1, n6, n7, n8, n9⟩ := n
  refine ⟨?_, ?_, ?_, fun k hk => ?_, fun k hk => ?_, fun k hk => ?_, fun k hk => ?_, h8⟩
  · rw [setI_ne I f n1.symm]; exact h1
  · rw [setI_ne I f n1.symm]; exact h2
  · rw [setI_ne I f n1.symm]; exact h3
  · rw [setI_ne I f n6.symm]; exact h4 k hk
  · rw [setI_ne I f n7.symm]; exact h5 k hk
  · rw [setI_ne I f n8.symm]; exact h6 k hk
  · rw [setI_ne I f n9.symm]; exact h7 k hk
/-- a row of coins at a base: what lies, then the purses -/
def RowF (f : Nat → Int32) (b : Nat) (φ : Nat → Nat) : Prop := ∀ k, k < 6 → f (b + k) = nI (φ k)
def RowC (f : Nat → Int32) (b : Nat) (s : HCn) : Prop := RowF f b (s 4) ∧ ∀ i, i < 4 → ∀ k, k < 6 → f (b + 6 + 6 * i + k) = nI (s i k)
/-- the last kind under k of which one lies there, looked for from 0 on -/
def lastP (φ : Nat → Nat) (k : Nat) : Nat → Option Nat
  | 0 => none
  | n + 1 => if n < k ∧ 0 < φ n then some n else lastP φ k n
theorem lastP_iff {φ : Nat → Nat} {k : Nat} : ∀ {n j : Nat}, lastP φ k n = some j ↔ j < n ∧ j < k ∧ 0 < φ j ∧ ∀ i, j < i → i < n → i < k → φ i = 0
  | 0, j => by
    constructor
    · intro h; cases h
    · intro h; omega
  | n + 1, j => by
    unfold lastP
    by_cases q : n < k ∧ 0 < φ n
    · rw [if_pos q]
      constructor
      · intro h; cases h; exact ⟨by omega, q.1, q.2, fun i h1 h2 => by omega⟩
      · rintro ⟨h1, h2, h3, h4⟩
        by_cases e : j = n
        · rw [e]
        · have := h4 n (by omega) (by omega) q.1; omega
    · rw [if_neg q, lastP_iff]
      constructor
      · rintro ⟨h1, h2, h3, h4⟩
        refine ⟨by omega, h2, h3, fun i a b c => ?_⟩
        by_cases e : i = n
        · subst e; by_cases z : 0 < φ i
          · exact absurd ⟨c, z⟩ q
          · omega
        · exact h4 i a (by omega) c
      · rintro ⟨h1, h2, h3, h4⟩
        refine ⟨?_, h2, h3, fun i a b c => h4 i a (by omega) c⟩
        by_cases e : j = n
        · subst e; exact absurd ⟨h2, h3⟩ q
        · omega
theorem lastP_top {φ : Nat → Nat} {k K j : Nat} (hk : k ≤ K) : lastP φ k K = some j ↔ topB φ k j = true := by
  rw [lastP_iff, topB_iff]
  constructor
  · rintro ⟨-, h2, h3, h4⟩
    exact ⟨h2, h3, fun i a b => h4 i a (by omega) b⟩
  · rintro ⟨h2, h3, h4⟩
    exact ⟨by omega, h2, h3, fun i a _ b => h4 i a b⟩
theorem oI_eq {r : Option Nat} {j : Nat} (hj : j < 2 ^ 31) (hr : ∀ k, r = some k → k < 2 ^ 31) : nI j = oI r ↔ r = some j := by
  cases r with
  | none =>
    constructor
    · intro h
      exfalso
      rw [i_eq, nI_toInt hj] at h
      have : (oI none).toInt = -1 := rfl
      omega
    · intro h; cases h
  | some k =>
    have := hr k rfl
    show nI j = nI k ↔ _
    rw [nI_eq hj this]
    exact ⟨fun h => by rw [h], fun h => by cases h; rfl⟩
theorem oI_none {r : Option Nat} (hr : ∀ k, r = some k → k < 2 ^ 31) : oI r = -1 ↔ r = none := by
  cases r with
  | none => exact ⟨fun _ => rfl, fun _ => rfl⟩
  | some k =>
    have := hr k rfl
    constructor
    · intro h
      exfalso
      have h2 : nI k = -1 := h
      rw [i_eq, nI_toInt this] at h2
      have : (-1 : Int32).toInt = -1 := rfl
      omega
    · intro h; cases h
theorem ix0 (b j : Nat) : nI b + 0 + nI j = nI (b + j) := by rw [show (0 : Int32) = nI 0 from rfl, nI_add, nI_add]; rfl
theorem ix6 (b i j : Nat) : nI b + 6 + 6 * nI i + nI j = nI (b + 6 + 6 * i + j) := by rw [show (6 : Int32) = nI 6 from rfl, pk_mul, nI_add, nI_add, nI_add]
section MOD
variable {E : HEn} {d : Nat} {Q : Option Value → HIh → Prop} {I : HIh}
theorem m_worth_loop {c : HCf} {s : HCn} {b i : Nat} (hm : MC I c) (hr : RowC (I 88) b s) (hb : b ≤ 310) (hi : i < 4) (q : Q (some (.int (nI (wealth c s i)))) I) : ∀ (n j : Nat), j + n = cK c → HGo E (mF E (d + 1) Q) me_X12_worthOf 5 [(0, .ref 87), (1, .int (nI b)), (2, .int (nI i)), (3, .int (nI (sm (fun k => cw c k * s i k) j))), (4, .int (nI j))] [] I
  | n, j, hj => by
    have hK : cK c ≤ 6 := hm.2.2.2.2.2.2.2.2.1
    have hz : ¬ (I 87 6) ≤ nI j → j < cK c := fun z => by rw [hm.1, nI_leI (by omega) (by omega)] at z; omega
    refine sg_X12_worthOf_5 (fun z => ?_) (fun z => ?_) (fun z => ?_) (fun z => ?_)
    · rw [hm.1, nI_leI (by omega) (by omega)] at z
      have e : j = cK c := by omega
      subst e; exact q
    · have := hz z; rw [ix6]; exact vp_in_nI (by omega) (by decide)
    · have := hz z; exact vp_in_nI (by omega) (by decide)
    · have := hz z
      obtain ⟨n, rfl⟩ : ∃ k, n = k + 1 := ⟨n - 1, by omega⟩
      rw [ix6, nI_clamp (by omega), nI_clamp (by omega), hr.2 i hi j (by omega), hm.2.2.2.1 j (by omega), pk_mul, Nat.mul_comm, nI_add, nI_1]
      exact m_worth_loop hm hr hb hi q n (j + 1) (by omega)
theorem m_worthOf {c : HCf} {s : HCn} {b i : Nat} (hm : MC I c) (hr : RowC (I 88) b s) (hb : b ≤ 310) (hi : i < 4) (q : Q (some (.int (nI (wealth c s i)))) I) : HCall E me_X12_worthOf (d + 1) [.ref 87, .int (nI b), .int (nI i)] I Q :=
  h_met (by decide) rfl (Nat.le_of_ble_eq_true rfl) (sg_X12_worthOf_0 (m_worth_loop hm hr hb hi q (cK c) 0 (by omega)))
theorem m_takes_loop {c : HCf} {φ : Nat → Nat} {b k : Nat} (hm : MC I c) (hφ : RowF (I 88) b φ) (hb : b ≤ 310) (hf : ∀ j, j < 6 → φ j ≤ 200) (hk : k < cK c) (q : ∀ f', (∀ j, j < cK c → f' j = nI (tk (cl c) φ k j)) → Q (some (.int (nI (gsum c φ k)))) (setI I 97 f')) : ∀ (n j : Nat) (f : Nat → Int32), j + n = cK c → (∀ i, i < j → f i = nI (tk (cl c) φ k i)) → HGo E (mF E (d + 1) Q) me_X12_layTakes 55 [(0, .ref 87), (1, .int (nI b)), (2, .int (nI k)), (3, .int (nI (sm (fun i => tk (cl c) φ k i * cw c i) j))), (4, .int (oI (lastP φ k (cK c)))), (5, .int (nI j))] [] (setI I 97 f)
  | n, j, f, hj, hfj => by
    have hok := hm.2.2.2.2.2.2.2
    have hK : cK c ≤ 6 := hok.2.1
    have hl : cl c ≤ 3 := hok.2.2.2.1
    have hm2 := hm.set (q := 97) f (by decide)
    have hz : ¬ (setI I 97 f) 87 6 ≤ nI j → j < cK c := fun z => by rw [hm2.1, nI_leI (by omega) (by omega)] at z; omega
    have hls : ∀ t, lastP φ k (cK c) = some t → t < 2 ^ 31 := fun t ht => by have := (lastP_iff.mp ht).1; omega
    have l0 : nI (cl c) = 0 ↔ cl c = 0 := nI_eq (b := 0) (by omega) (by decide)
    have l1 : nI (cl c) = 1 ↔ cl c = 1 := nI_eq (b := 1) (by omega) (by decide)
    have l2 : nI (cl c) = 2 ↔ cl c = 2 := nI_eq (b := 2) (by omega) (by decide)
    have hrd : j < cK c → (setI I 97 f) 88 (nI b + 0 + nI j).toNatClampNeg = nI (φ j) := fun h => by
      rw [ix0, nI_clamp (by omega), setI_ne I f (by decide)]; exact hφ j (by omega)
    have go : j < cK c → ∀ v : Int32, v = nI (tk (cl c) φ k j) → HGo E (mF E (d + 1) Q) me_X12_layTakes 153 [(0, .ref 87), (1, .int (nI b)), (2, .int (nI k)), (3, .int (nI (sm (fun i => tk (cl c) φ k i * cw c i) j))), (4, .int (oI (lastP φ k (cK c)))), (5, .int (nI j))] [.int v, .int (nI j), .ref 97] (setI I 97 f) := by
      intro h v hv
      subst hv
      obtain ⟨n, rfl⟩ : ∃ k, n = k + 1 := ⟨n - 1, by omega⟩
      refine sg_X12_layTakes_153 (vp_in_nI (by omega) (by decide)) (vp_in_nI (by omega) (by decide)) ?_
      rw [setI_setI, setI_same, nI_clamp (by omega), upd_at _ rfl, setI_ne I f (by decide), hm.2.2.2.1 j h, pk_mul, nI_add, nI_1]
      refine m_takes_loop hm hφ hb hf hk q n (j + 1) _ (by omega) (fun i hi => ?_)
      by_cases e : i = j
      · subst e; exact upd_at _ rfl _
      · rw [upd_off _ e]; exact hfj i (by omega)
    refine sg_X12_layTakes_55 (fun z => ?_) (fun z => ?_) (fun z a1 a2 a3 a4 => ?_) (fun z a1 a2 a3 a4 => ?_) (fun z a1 a2 a3 => ?_) (fun z a1 a2 a3 => ?_) (fun z a1 a2 a3 => ?_) (fun z a1 a2 => ?_) (fun z a1 a2 => ?_)
    · rw [hm2.1, nI_leI (by omega) (by omega)] at z
      have e : j = cK c := by omega
      subst e
      exact q f hfj
    · have := hz z; rw [ix0]; exact vp_in_nI (by omega) (by decide)
    all_goals
      have hj2 := hz z
      rw [hm2.2.2.1] at *
      refine go hj2 _ ?_
    · rw [l0] at a1; rw [l1] at a2; rw [oI_eq (by omega) hls, lastP_top (by omega)] at a3; rw [l2] at a4
      rw [hrd hj2]; unfold tk; rw [if_neg a1, if_neg a2, if_pos a3, if_neg a4]
    · rw [l0] at a1; rw [l1] at a2; rw [oI_eq (by omega) hls, lastP_top (by omega)] at a3; rw [l2] at a4
      unfold tk; rw [if_neg a1, if_neg a2, if_pos a3, if_pos a4]; rfl
    · rw [l0] at a1; rw [l1] at a2; rw [oI_eq (by omega) hls, lastP_top (by omega)] at a3
      unfold tk; rw [if_neg a1, if_neg a2, if_neg a3]; rfl
    · rw [l0] at a1; rw [l1] at a2; rw [nI_ltI (by omega) (by omega)] at a3
      unfold tk; rw [if_neg a1, if_pos a2, if_neg (by omega)]; rfl
    · rw [l0] at a1; rw [l1] at a2; rw [nI_ltI (by omega) (by omega)] at a3
      rw [hrd hj2]; unfold tk; rw [if_neg a1, if_pos a2, if_pos (by omega)]
    · rw [l0] at a1; rw [nI_leI (by omega) (by omega)] at a2
      unfold tk; rw [if_pos a1, if_neg (by omega)]; rfl
    · rw [l0] at a1; rw [nI_leI (by omega) (by omega)] at a2
      rw [hrd hj2]; unfold tk; rw [if_pos a1, if_pos (by omega)]
theorem m_last_loop {c : HCf} {φ : Nat → Nat} {b k : Nat} {x3 : Int32} (hm : MC I c) (hφ : RowF (I 88) b φ) (hb : b ≤ 310) (hf : ∀ j, j < 6 → φ j ≤ 200) (hk : k < cK c) (q : HGo E (mF E (d + 1) Q) me_X12_layTakes 55 [(0, .ref 87), (1, .int (nI b)), (2, .int (nI k)), (3, .int x3), (4, .int (oI (lastP φ k (cK c)))), (5, .int 0)] [] I) : ∀ (n j : Nat), j + n = cK c → HGo E (mF E (d + 1) Q) me_X12_layTakes 8 [(0, .ref 87), (1, .int (nI b)), (2, .int (nI k)), (3, .int x3), (4, .int (oI (lastP φ k j))), (5, .int (nI j))] [] I
  | n, j, hj => by
    have hK : cK c ≤ 6 := hm.2.2.2.2.2.2.2.2.1
    have hz : ¬ I 87 6 ≤ nI j → j < cK c := fun z => by rw [hm.1, nI_leI (by omega) (by omega)] at z; omega
    have hrd : j < cK c → I 88 (nI b + 0 + nI j).toNatClampNeg = nI (φ j) := fun h => by rw [ix0, nI_clamp (by omega)]; exact hφ j (by omega)
    have no : ¬ (j < k ∧ 0 < φ j) → lastP φ k (j + 1) = lastP φ k j := fun h => if_neg h
    have yes : (j < k ∧ 0 < φ j) → lastP φ k (j + 1) = some j := fun h => if_pos h
    refine sg_X12_layTakes_8 (fun z => ?_) (fun z a => ?_) (fun z a => ?_) (fun z a y => ?_) (fun z a y => ?_)
    · rw [hm.1, nI_leI (by omega) (by omega)] at z
      have e : j = cK c := by omega
      subst e; exact q
    · have hj2 := hz z
      rw [nI_leI (by omega) (by omega)] at a
      obtain ⟨n, rfl⟩ : ∃ k, n = k + 1 := ⟨n - 1, by omega⟩
      have := m_last_loop hm hφ hb hf hk q n (j + 1) (by omega)
      rw [no (by omega)] at this
      rw [nI_1]; exact this
    · have := hz z; rw [ix0]; exact vp_in_nI (by omega) (by decide)
    · have hj2 := hz z
      rw [nI_leI (by omega) (by omega)] at a
      rw [hrd hj2, nI_le0 (by have := hf j (by omega); omega)] at y
      obtain ⟨n, rfl⟩ : ∃ k, n = k + 1 := ⟨n - 1, by omega⟩
      have := m_last_loop hm hφ hb hf hk q n (j + 1) (by omega)
      rw [no (by omega)] at this
      rw [nI_1]; exact this
    · have hj2 := hz z
      rw [nI_leI (by omega) (by omega)] at a
      rw [hrd hj2, nI_le0 (by have := hf j (by omega); omega)] at y
      obtain ⟨n, rfl⟩ : ∃ k, n = k + 1 := ⟨n - 1, by omega⟩
      have := m_last_loop hm hφ hb hf hk q n (j + 1) (by omega)
      rw [yes ⟨by omega, by omega⟩] at this
      rw [nI_1]; exact this
theorem m_layTakes {c : HCf} {φ : Nat → Nat} {b k : Nat} (hm : MC I c) (hφ : RowF (I 88) b φ) (hb : b ≤ 310) (hf : ∀ j, j < 6 → φ j ≤ 200) (hk : k < cK c) (q : ∀ f', (∀ j, j < cK c → f' j = nI (tk (cl c) φ k j)) → Q (some (.int (nI (gsum c φ k)))) (setI I 97 f')) : HCall E me_X12_layTakes (d + 1) [.ref 87, .int (nI b), .int (nI k)] I Q := by
  refine h_met (by decide) rfl (Nat.le_of_ble_eq_true rfl) (sg_X12_layTakes_0 (m_last_loop hm hφ hb hf hk ?_ (cK c) 0 (by omega)))
  have := m_takes_loop (E := E) (d := d) hm hφ hb hf hk q (cK c) 0 (I 97) (by omega) (fun i hi => absurd hi (Nat.not_lt_zero _))
  rw [setI_id] at this
  exact this
theorem m_gainOf {c : HCf} {φ : Nat → Nat} {b k : Nat} (hm : MC I c) (hφ : RowF (I 88) b φ) (hb : b ≤ 310) (hf : ∀ j, j < 6 → φ j ≤ 200) (hk : k < cK c) (q : ∀ f', (∀ j, j < cK c → f' j = nI (tk (cl c) φ k j)) → Q (some (.int (nI (gsum c φ k) - nI (cw c k)))) (setI I 97 f')) : HCall E me_X12_gainOf (d + 2) [.ref 87, .int (nI b), .int (nI k)] I Q := by
  have hK : cK c ≤ 6 := hm.2.2.2.2.2.2.2.2.1
  refine h_met (by decide) rfl (Nat.le_of_ble_eq_true rfl) (sg_X12_gainOf_0 (m_layTakes hm hφ hb hf hk (fun f' hf' => sg_X12_gainOf_6 (vp_in_nI (by omega) (by decide)) ?_)))
  rw [nI_clamp (by omega), setI_ne I f' (by decide), hm.2.2.2.1 k hk]
  exact q f' hf'
def RowP (f0 g : Nat → Int32) (b : Nat) (l : Nat) (s : HCn) (p k j : Nat) : Prop := (∀ i, i < 6 → g (b + i) = nI (if i < j then s 4 i - tk l (s 4) k i else s 4 i)) ∧ (∀ i, i < 6 → g (b + 6 + 6 * p + i) = nI (if i < j then s p i + tk l (s 4) k i else s p i)) ∧ (∀ o, o < 4 → o ≠ p → ∀ i, i < 6 → g (b + 6 + 6 * o + i) = nI (s o i)) ∧ ∀ x, (x < b ∨ b + 30 ≤ x) → g x = f0 x
theorem m_thr_loop {c : HCf} {s : HCn} {b p k : Nat} {f0 : Nat → Int32} (hm : MC I c) (hb : b ≤ 310) (hf : ∀ o, o < 5 → ∀ j, j < 6 → s o j ≤ 200) (hp : p < 4) (hk : k < cK c) (hpk : 0 < s p k) {ft : Nat → Int32} (hft : ∀ j, j < cK c → ft j = nI (tk (cl c) (s 4) k j)) (q : ∀ g, RowC g b (thr c s p k) → (∀ x, (x < b ∨ b + 30 ≤ x) → g x = f0 x) → Q none (setI (setI I 97 ft) 88 g)) : ∀ (n j : Nat) (g : Nat → Int32), j + n = cK c → RowP f0 g b (cl c) s p k j → HGo E (mF E (d + 2) Q) me_X12_throwsOne 10 [(0, .ref 87), (1, .int (nI b)), (2, .int (nI p)), (3, .int (nI k)), (4, .int (nI j))] [] (setI (setI I 97 ft) 88 g)
  | n, j, g, hj, hg => by
    have hok := hm.2.2.2.2.2.2.2
    have hK : cK c ≤ 6 := hok.2.1
    have hm2 := (hm.set (q := 97) ft (by decide)).set (q := 88) g (by decide)
    obtain ⟨g1, g2, g3, g4⟩ := hg
    have hz : ¬ (setI (setI I 97 ft) 88 g) 87 6 ≤ nI j → j < cK c := fun z => by rw [hm2.1, nI_leI (by omega) (by omega)] at z; omega
    refine sg_X12_throwsOne_10 (fun z => ?_) (fun z => ?_) (fun z => ?_) (fun z => ?_) (fun z => ?_) (fun z => ?_) (fun z => ?_)
    · rw [ix0]; exact vp_in_nI (by omega) (by decide)
    · rw [ix6]; exact vp_in_nI (by omega) (by decide)
    · rw [hm2.1, nI_leI (by omega) (by omega)] at z
      have e : j = cK c := by omega
      subst e
      rw [ix0, ix6, nI_clamp (by omega), nI_clamp (by omega), setI_setI, setI_setI, setI_same, upd_off _ (by omega)]
      have hle := tk_le (cl c) (s 4) k
      have h1 : g (b + k) = nI (s 4 k - tk (cl c) (s 4) k k) := by rw [g1 k (by omega), if_pos hk]
      have h2 : g (b + 6 + 6 * p + k) = nI (s p k + tk (cl c) (s 4) k k) := by rw [g2 k (by omega), if_pos hk]
      rw [h1, h2, nI_1, show nI (s p k + tk (cl c) (s 4) k k) - 1 = nI (s p k + tk (cl c) (s 4) k k - 1) by
        rw [show s p k + tk (cl c) (s 4) k k = (s p k + tk (cl c) (s 4) k k - 1) + 1 by omega, nI_pred]; rfl]
      have hout : ∀ i, i < 6 → ¬ i < cK c → tk (cl c) (s 4) k i = 0 := fun i _ h => tk_out _ (by unfold tM; split <;> omega)
      refine q _ ⟨fun i hi => ?_, fun o ho i hi => ?_⟩ (fun x hx => ?_)
      · rw [upd_off _ (by omega)]
        unfold thr
        rw [if_pos rfl]
        by_cases e : i = k
        · subst e; rw [upd_at _ rfl, if_pos rfl]
        · rw [upd_off _ (by omega), if_neg e, g1 i hi]
          by_cases e2 : i < cK c
          · rw [if_pos e2]; rfl
          · rw [if_neg e2, hout i hi e2]; rfl
      · unfold thr
        rw [if_neg (show ¬ o = 4 by omega)]
        by_cases ep : o = p
        · subst ep
          rw [if_pos rfl]
          by_cases e : i = k
          · subst e; rw [upd_at _ rfl, if_pos rfl]
          · rw [upd_off _ (by omega), upd_off _ (by omega), if_neg e, g2 i hi]
            by_cases e2 : i < cK c
            · rw [if_pos e2]; rfl
            · rw [if_neg e2, hout i hi e2]; rfl
        · rw [if_neg ep, upd_off _ (by omega), upd_off _ (by omega)]
          exact g3 o ho ep i hi
      · rw [upd_off _ (by omega), upd_off _ (by omega)]
        exact g4 x hx
    all_goals have hj2 := hz z
    · rw [ix0]; exact vp_in_nI (by omega) (by decide)
    · exact vp_in_nI (by omega) (by decide)
    · rw [ix6]; exact vp_in_nI (by omega) (by decide)
    · obtain ⟨n, rfl⟩ : ∃ k, n = k + 1 := ⟨n - 1, by omega⟩
      have hle := tk_le (cl c) (s 4) k j
      rw [ix0, ix6, nI_clamp (by omega), nI_clamp (by omega), nI_clamp (by omega), setI_setI, setI_setI, setI_same, upd_off _ (by omega)]
      have ht : (setI (setI I 97 ft) 88 g) 97 j = nI (tk (cl c) (s 4) k j) := by rw [setI_ne _ _ (by decide), setI_same]; exact hft j hj2
      have h1 : g (b + j) = nI (s 4 j) := by rw [g1 j (by omega), if_neg (by omega)]
      have h2 : g (b + 6 + 6 * p + j) = nI (s p j) := by rw [g2 j (by omega), if_neg (by omega)]
      rw [ht, h1, h2, pk_sub hle, nI_add, nI_1]
      refine m_thr_loop hm hb hf hp hk hpk hft q n (j + 1) _ (by omega) ⟨fun i hi => ?_, fun i hi => ?_, fun o ho ep i hi => ?_, fun x hx => ?_⟩
      · rw [upd_off _ (by omega)]
        by_cases e : i = j
        · subst e; rw [upd_at _ rfl, if_pos (by omega)]
        · rw [upd_off _ (by omega), g1 i hi]
          by_cases e2 : i < j
          · rw [if_pos e2, if_pos (by omega)]
          · rw [if_neg e2, if_neg (by omega)]
      · by_cases e : i = j
        · subst e; rw [upd_at _ rfl, if_pos (by omega)]
        · rw [upd_off _ (by omega), upd_off _ (by omega), g2 i hi]
          by_cases e2 : i < j
          · rw [if_pos e2, if_pos (by omega)]
          · rw [if_neg e2, if_neg (by omega)]
      · rw [upd_off _ (by omega), upd_off _ (by omega)]; exact g3 o ho ep i hi
      · rw [upd_off _ (by omega), upd_off _ (by omega)]; exact g4 x hx
theorem m_throwsOne {c : HCf} {s : HCn} {b p k : Nat} (hm : MC I c) (hr : RowC (I 88) b s) (hb : b ≤ 310) (hf : Lot2 s) (hp : p < 4) (hk : k < cK c) (hpk : 0 < s p k) (q : ∀ ft g, RowC g b (thr c s p k) → (∀ x, (x < b ∨ b + 30 ≤ x) → g x = I 88 x) → Q none (setI (setI I 97 ft) 88 g)) : HCall E me_X12_throwsOne (d + 2) [.ref 87, .int (nI b), .int (nI p), .int (nI k)] I Q := by
  refine h_met (by decide) rfl (Nat.le_of_ble_eq_true rfl) (sg_X12_throwsOne_0 (m_layTakes hm hr.1 hb (fun j hj => hf 4 (by decide) j hj) hk (fun ft hft => sg_X12_throwsOne_6 ?_)))
  have := m_thr_loop (E := E) (d := d) (f0 := I 88) hm hb hf hp hk hpk hft (q ft) (cK c) 0 (I 88) (by omega) ⟨fun i hi => ?_, fun i hi => ?_, fun o ho ep i hi => hr.2 o ho i hi, fun _ _ => rfl⟩
  · have e : setI (setI I 97 ft) 88 (I 88) = setI I 97 ft := by
      rw [show I 88 = (setI I 97 ft) 88 from (setI_ne I ft (by decide)).symm, setI_id]
    rw [e] at this; exact this
  · rw [if_neg (Nat.not_lt_zero _)]; exact hr.1 i hi
  · rw [if_neg (Nat.not_lt_zero _)]; exact hr.2 p hp i hi
theorem m_isHad {s : HCn} {b i k : Nat} (hr : RowC (I 88) b s) (hb : b ≤ 310) (hf : Lot2 s) (hi : i < 4) (hk : k < 6) (q1 : 0 < s i k → Q (some (.int 1)) I) (q0 : s i k = 0 → Q (some (.int 0)) I) : HCall E me_X12_isHad (d + 1) [.ref 87, .int (nI b), .int (nI i), .int (nI k)] I Q := by
  have e : I 88 (nI b + 6 + 6 * nI i + nI k).toNatClampNeg = nI (s i k) := by rw [ix6, nI_clamp (by omega)]; exact hr.2 i hi k hk
  have hb2 := hf i (by omega) k hk
  refine h_met (by decide) rfl (Nat.le_of_ble_eq_true rfl) (sg_X12_isHad_0 (by rw [ix6]; exact vp_in_nI (by omega) (by decide)) (fun z => ?_) (fun z => ?_))
  · rw [e, nI_le0 (by omega)] at z; exact q0 z
  · rw [e, nI_le0 (by omega)] at z; exact q1 (by omega)
theorem m_copy_loop {a b : Nat} {f0 : Nat → Int32} (ha : a ≤ 10) (hb : b ≤ 10) (hab : a ≠ b) (q : ∀ g, (∀ j, j < 31 → g (31 * b + j) = f0 (31 * a + j)) → (∀ x, (x < 31 * b ∨ 31 * b + 31 ≤ x) → g x = f0 x) → Q none (setI I 88 g)) : ∀ (n j : Nat) (g : Nat → Int32), j + n = 31 → (∀ i, i < j → g (31 * b + i) = f0 (31 * a + i)) → (∀ x, (x < 31 * b ∨ 31 * b + 31 ≤ x) → g x = f0 x) → HGo E (mF E (d + 1) Q) me_X12_copy 2 [(0, .ref 87), (1, .int (nI a)), (2, .int (nI b)), (3, .int (nI j))] [] (setI I 88 g)
  | n, j, g, hj, h1, h2 => by
    have ix : ∀ x : Nat, 31 * nI x + nI j = nI (31 * x + j) := fun x => by rw [show (31 : Int32) = nI 31 from rfl, pk_mul, nI_add]
    have hz : ¬ 31 ≤ nI j → j < 31 := fun z => by rw [show (31 : Int32) = nI 31 from rfl, nI_leI (by omega) (by omega)] at z; omega
    refine sg_X12_copy_2 (fun z => ?_) (fun z => ?_) (fun z => ?_) (fun z => ?_)
    · rw [show (31 : Int32) = nI 31 from rfl, nI_leI (by omega) (by omega)] at z
      have e : j = 31 := by omega
      subst e
      exact q g h1 h2
    · have := hz z; rw [ix]; exact vp_in_nI (by omega) (by decide)
    · have := hz z; rw [ix]; exact vp_in_nI (by omega) (by decide)
    · have hj2 := hz z
      obtain ⟨n, rfl⟩ : ∃ k, n = k + 1 := ⟨n - 1, by omega⟩
      rw [ix, ix, nI_clamp (by omega), nI_clamp (by omega), setI_setI, setI_same, nI_1]
      have ea : g (31 * a + j) = f0 (31 * a + j) := h2 _ (by omega)
      refine m_copy_loop ha hb hab q n (j + 1) _ (by omega) (fun i hi => ?_) (fun x hx => ?_)
      · by_cases e : i = j
        · subst e; rw [upd_at _ rfl]; exact ea
        · rw [upd_off _ (by omega)]; exact h1 i (by omega)
      · rw [upd_off _ (by omega)]; exact h2 x hx
theorem m_copy {a b : Nat} (ha : a ≤ 10) (hb : b ≤ 10) (hab : a ≠ b) (q : ∀ g, (∀ j, j < 31 → g (31 * b + j) = I 88 (31 * a + j)) → (∀ x, (x < 31 * b ∨ 31 * b + 31 ≤ x) → g x = I 88 x) → Q none (setI I 88 g)) : HCall E me_X12_copy (d + 1) [.ref 87, .int (nI a), .int (nI b)] I Q := by
  refine h_met (by decide) rfl (Nat.le_of_ble_eq_true rfl) (sg_X12_copy_0 ?_)
  have := m_copy_loop (E := E) (d := d) ha hb hab q 31 0 (I 88) rfl (fun i hi => absurd hi (Nat.not_lt_zero _)) (fun _ _ => rfl)
  rw [setI_id] at this
  exact this
/-- the visits of a set that are left, as the reference counts -/
def fLeftM (c : HCf) (z : Int32) (t : Nat) : Nat → Int32
  | 0 => 0
  | n + 1 => fLeftM c z t n + if (z >>> ((nI (cp c (t + n))) &&& 31)) &&& 1 = 1 then 1 else 0
theorem m_left_loop {c : HCf} {z : Int32} {t : Nat} (hm : MC I c) (ht : t ≤ cv c) (q : Q (some (.int (fLeftM c z t (cv c - t)))) I) : ∀ (n j : Nat), j + n = cv c - t → HGo E (mF E (d + 2) Q) me_X12_leftOf 10 [(0, .ref 87), (1, .int z), (2, .int (fLeftM c z t j)), (3, .int (nI (t + j)))] [] I
  | n, j, hj => by
    have hV : cv c ≤ 24 := hm.2.2.2.2.2.2.2.2.2.2.2.2.2.1
    have hz : ¬ I 87 13 ≤ nI (t + j) → t + j < cv c := fun z => by rw [hm.2.1, nI_leI (by omega) (by omega)] at z; omega
    refine sg_X12_leftOf_10 (fun y => ?_) (fun y => ?_) (fun y w => ?_) (fun y w => ?_)
    · rw [hm.2.1, nI_leI (by omega) (by omega)] at y
      have e : j = cv c - t := by omega
      subst e; exact q
    · have := hz y; exact vp_in_nI (by omega) (by decide)
    all_goals
      have hj2 := hz y
      obtain ⟨n, rfl⟩ : ∃ k, n = k + 1 := ⟨n - 1, by omega⟩
      rw [nI_clamp (by omega), hm.2.2.2.2.2.2.1 (t + j) hj2] at w
      rw [nI_1]
    · have := m_left_loop hm ht q n (j + 1) (by omega)
      unfold fLeftM at this
      rw [if_pos w] at this; exact this
    · have := m_left_loop hm ht q n (j + 1) (by omega)
      unfold fLeftM at this
      rw [if_neg w] at this; exact this
theorem m_leftOf {c : HCf} {z : Int32} {t : Nat} (hm : MC I c) (hg : I 88 30 = nI t) (ht : t ≤ cv c) (q : Q (some (.int (fLeftM c z t (cv c - t)))) I) : HCall E me_X12_leftOf (d + 2) [.ref 87, .int z] I Q := by
  refine h_met (by decide) rfl (Nat.le_of_ble_eq_true rfl) (sg_X12_leftOf_0 ?_)
  rw [hg]
  exact m_left_loop hm ht q (cv c - t) 0 (by omega)
theorem fLeft_eq (c : HCf) (z : Int32) (t : Nat) (hb : ∀ p : Nat, p < 4 → (z >>> ((nI p) &&& 31)) &&& 1 = 1 ∨ (z >>> ((nI p) &&& 31)) &&& 1 = 0) : ∀ n, (∀ j, j < n → cp c (t + j) < 4) → fLeft c z t n = fLeftM c z t n
  | 0, _ => rfl
  | n + 1, h => by
    show fLeft c z t n + _ = fLeftM c z t n + _
    rw [fLeft_eq c z t hb n (fun j hj => h j (by omega))]
    rcases hb _ (h n (by omega)) with e | e
    · rw [e, if_pos rfl]
    · rw [e, if_neg (by decide)]
end MOD
