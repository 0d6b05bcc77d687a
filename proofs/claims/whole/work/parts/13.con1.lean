/-! the leaf helpers, by plain functions of the cells' contents -/
theorem i_nat {x : Int32} (h : ¬ x < 0) {n : Nat} (hn : n < 2 ^ 31) (h2 : x < nI n) : ∃ j : Nat, j < n ∧ x = nI j := by
  obtain ⟨j, hj, rfl⟩ := nI_of h
  exact ⟨j, (nI_ltI hj hn).mp h2, rfl⟩
theorem i_nat' {x : Int32} (h : 0 ≤ x) {n : Nat} (hn : n < 2 ^ 31) (h2 : x < nI n) : ∃ j : Nat, j < n ∧ x = nI j := i_nat (i_le_n h) hn h2
theorem vp_n {x : Int32} (h : ¬ x < 0) {n : Nat} (hn : n < 2 ^ 31) (h2 : x < nI n) : vp_in x n := by
  obtain ⟨j, hj, rfl⟩ := i_nat h hn h2
  exact vp_in_nI hj hn
/-- a lot's coins, by owner and kind -/
def fOf (f : Nat → Int32) (o k : Int32) : Int32 := if 0 ≤ o ∧ o < 5 ∧ 0 ≤ k ∧ k < 6 then f (o * 6 + k).toNatClampNeg else 0
def fAdd (f : Nat → Int32) (o k z : Int32) : Nat → Int32 := if 0 ≤ o ∧ o < 5 ∧ 0 ≤ k ∧ k < 6 then upd f (o * 6 + k).toNatClampNeg (f (o * 6 + k).toNatClampNeg + z) else f
def fEmp (f : Nat → Int32) : Nat → Int32 := fun j => if j < 30 then 0 else f j
def fWor (f : Nat → Int32) (k : Int32) : Int32 := if 0 ≤ k ∧ k < 6 then f k.toNatClampNeg else 0
def fBnd (f : Nat → Int32) (p : Int32) : Int32 := if 0 ≤ p ∧ p < 4 then f p.toNatClampNeg else 0
def fVis (n : Int32) (f : Nat → Int32) (t : Int32) : Int32 := if 0 ≤ t ∧ t < n ∧ t < 24 then f t.toNatClampNeg else -1
def fGoal (g p : Int32) : Int32 := if 0 ≤ p ∧ p < 4 then (g >>> ((4 * p) &&& 31)) &&& 15 else 0
def fByte (n : Int32) (f : Nat → Int32) (p : Int32) : Int32 := if 0 ≤ p ∧ p < n ∧ p < 200 then f p.toNatClampNeg else -1
def fTok (b : Int32) : Int32 := if b = -1 then 0 else if 97 ≤ b ∧ b ≤ 122 then 1 else if 48 ≤ b ∧ b ≤ 57 then 2 else 3
def fFolk (f : Nat → Int32) (p : Int32) : Nat := if 0 ≤ p ∧ p < 4 then (if f p.toNatClampNeg = 1 then 3 else if f p.toNatClampNeg = 2 then 4 else if f p.toNatClampNeg = 3 then 5 else 2) else 2
def fMin (x y : Int32) : Int32 := if y < x then y else x
def fMax (x y : Int32) : Int32 := if x < y then y else x
def fTop (l k : Int32) : Int32 := if l = 1 then k else k - 1
def fMost (l : Int32) : Int32 := if l = 2 then 1 else 1000000
def fOne (l : Int32) : Int32 := if l = 2 ∨ l = 3 then 1 else 0
theorem fOf_n (f : Nat → Int32) {o k : Nat} (ho : o < 5) (hk : k < 6) : fOf f (nI o) (nI k) = f (6 * o + k) := by
  have h : (0 : Int32) ≤ nI o ∧ nI o < 5 ∧ (0 : Int32) ≤ nI k ∧ nI k < 6 := ⟨nI_pos' (by omega), nI_lt ho (by decide), nI_pos' (by omega), nI_lt hk (by decide)⟩
  unfold fOf
  rw [if_pos h, show (6 : Int32) = nI 6 from rfl, pk_mul, nI_add, nI_clamp (by omega), Nat.mul_comm]
theorem fAdd_n (f : Nat → Int32) {o k : Nat} (ho : o < 5) (hk : k < 6) (z : Int32) : fAdd f (nI o) (nI k) z = upd f (6 * o + k) (f (6 * o + k) + z) := by
  have h : (0 : Int32) ≤ nI o ∧ nI o < 5 ∧ (0 : Int32) ≤ nI k ∧ nI k < 6 := ⟨nI_pos' (by omega), nI_lt ho (by decide), nI_pos' (by omega), nI_lt hk (by decide)⟩
  unfold fAdd
  rw [if_pos h, show (6 : Int32) = nI 6 from rfl, pk_mul, nI_add, nI_clamp (by omega), Nat.mul_comm]
theorem fWor_n (f : Nat → Int32) {k : Nat} (hk : k < 6) : fWor f (nI k) = f k := by
  unfold fWor
  rw [if_pos ⟨nI_pos' (by omega), nI_lt hk (by decide)⟩, nI_clamp (by omega)]
theorem fBnd_n (f : Nat → Int32) {k : Nat} (hk : k < 4) : fBnd f (nI k) = f k := by
  unfold fBnd
  rw [if_pos ⟨nI_pos' (by omega), nI_lt hk (by decide)⟩, nI_clamp (by omega)]
theorem fVis_n (f : Nat → Int32) {t n : Nat} (ht : t < n) (hn : n ≤ 24) : fVis (nI n) f (nI t) = f t := by
  unfold fVis
  rw [if_pos ⟨nI_pos' (by omega), nI_lt ht (by omega), nI_lt (by omega : t < 24) (by decide)⟩, nI_clamp (by omega)]
theorem fVis_out (f : Nat → Int32) {t n : Nat} (ht : n ≤ t) (h2 : t < 2 ^ 31) : fVis (nI n) f (nI t) = -1 := by
  unfold fVis
  rw [if_neg]
  intro h
  exact nI_nlt ht h2 h.2.1
theorem fByte_n (f : Nat → Int32) {t n : Nat} (ht : t < n) (hn : n ≤ 200) : fByte (nI n) f (nI t) = f t := by
  unfold fByte
  rw [if_pos ⟨nI_pos' (by omega), nI_lt ht (by omega), nI_lt (by omega : t < 200) (by decide)⟩, nI_clamp (by omega)]
theorem fByte_out (f : Nat → Int32) {t n : Nat} (ht : n ≤ t) (h2 : t < 2 ^ 31) : fByte (nI n) f (nI t) = -1 := by
  unfold fByte
  rw [if_neg]
  intro h
  exact nI_nlt ht h2 h.2.1
theorem lot_ix {o k : Int32} (h1 : ¬ o < 0) (h2 : ¬ 5 ≤ o) (h3 : ¬ k < 0) (h4 : ¬ 6 ≤ k) : vp_in (o * 6 + k) 30 := by
  obtain ⟨a, ha, rfl⟩ := i_nat h1 (n := 5) (by decide) (i_nle h2)
  obtain ⟨b, hb, rfl⟩ := i_nat h3 (n := 6) (by decide) (i_nle h4)
  rw [show (6 : Int32) = nI 6 from rfl, pk_mul, nI_add]
  exact vp_in_nI (by omega) (by decide)
section CON1
variable {E : HEn} {d : Nat} {Q : Option Value → HIh → Prop} {I : HIh}
theorem c_X4_of {h c : Nat} {o k : Int32} (a_h : h < NL) (b_h : Zk h = 3) (p_h : Zp h 0 = c) (a_c : c < NL) (b_c : Zk c = 11) (n_c : Zn c = 30) (q : Q (some (.int (fOf (I c) o k))) I) : HCall E me_X4_of (d + 1) [.ref h, .int o, .int k] I Q := by
  have no : ∀ z : ¬ (0 ≤ o ∧ o < 5 ∧ 0 ≤ k ∧ k < 6), Q (some (.int 0)) I := fun z => by unfold fOf at q; rw [if_neg z] at q; exact q
  refine h_met (by decide) rfl (Nat.le_of_ble_eq_true rfl) (sg_X4_of_0 a_h b_h p_h a_c b_c n_c (fun a => no (fun z => i_lt_n a z.1)) (fun _ a => no (fun z => i_lt_n z.2.1 a)) (fun _ _ a => no (fun z => i_lt_n a z.2.2.1)) (fun _ _ _ a => no (fun z => i_lt_n z.2.2.2 a)) lot_ix (fun a1 a2 a3 a4 => ?_))
  unfold fOf at q
  rw [if_pos ⟨i_nlt a1, i_nle a2, i_nlt a3, i_nle a4⟩] at q
  exact q
theorem c_X4_add {h c : Nat} {o k z : Int32} (a_h : h < NL) (b_h : Zk h = 3) (p_h : Zp h 0 = c) (a_c : c < NL) (b_c : Zk c = 11) (n_c : Zn c = 30) (q : Q none (setI I c (fAdd (I c) o k z))) : HCall E me_X4_add (d + 1) [.ref h, .int o, .int k, .int z] I Q := by
  have no : ∀ y : ¬ (0 ≤ o ∧ o < 5 ∧ 0 ≤ k ∧ k < 6), Q none I := fun y => by unfold fAdd at q; rw [if_neg y, setI_id] at q; exact q
  refine h_met (by decide) rfl (Nat.le_of_ble_eq_true rfl) (sg_X4_add_0 a_h b_h p_h a_c b_c n_c (fun a => no (fun z => i_lt_n a z.1)) (fun _ a => no (fun z => i_lt_n z.2.1 a)) (fun _ _ a => no (fun z => i_lt_n a z.2.2.1)) (fun _ _ _ a => no (fun z => i_lt_n z.2.2.2 a)) lot_ix (fun a1 a2 a3 a4 => ?_))
  unfold fAdd at q
  rw [if_pos ⟨i_nlt a1, i_nle a2, i_nlt a3, i_nle a4⟩] at q
  exact q
theorem fEmp_loop {h c : Nat} (a_h : h < NL) (b_h : Zk h = 3) (p_h : Zp h 0 = c) (a_c : c < NL) (b_c : Zk c = 11) (n_c : Zn c = 30) (q : Q none (setI I c (fEmp (I c)))) : ∀ (n j : Nat), j + n = 30 → HGo E (mF E (d + 1) Q) me_X4_empty 2 [(0, .ref h), (1, .int (nI j))] [] (setI I c (fun i => if i < j then 0 else I c i))
  | 0, j, hj => by
    refine sg_X4_empty_2 a_h b_h p_h a_c b_c n_c (fun _ => ?_) (fun a => absurd (nI_le (by omega : 30 ≤ j) (by omega)) a) (fun a => absurd (nI_le (by omega : 30 ≤ j) (by omega)) a)
    have e : (fun i => if i < j then 0 else I c i) = fEmp (I c) := by
      have : j = 30 := by omega
      subst this; rfl
    rw [e]; exact q
  | n + 1, j, hj => by
    refine sg_X4_empty_2 a_h b_h p_h a_c b_c n_c (fun a => absurd a (nI_ge (by omega : j < 30) (by decide))) (fun _ => vp_in_nI (by omega) (by decide)) (fun _ => ?_)
    rw [setI_setI, nI_clamp (by omega), nI_1]
    have e : upd ((setI I c (fun i => if i < j then 0 else I c i)) c) j 0 = fun i => if i < j + 1 then 0 else I c i := by
      funext i
      rw [setI_same]
      unfold upd
      by_cases h1 : i = j
      · subst h1; simp
      · by_cases h2 : i < j
        · simp [h1, h2, Nat.lt_succ_of_lt h2]
        · simp [h1, h2, show ¬ i < j + 1 by omega]
    rw [e]
    exact fEmp_loop a_h b_h p_h a_c b_c n_c q n (j + 1) (by omega)
theorem c_X4_empty {h c : Nat} (a_h : h < NL) (b_h : Zk h = 3) (p_h : Zp h 0 = c) (a_c : c < NL) (b_c : Zk c = 11) (n_c : Zn c = 30) (q : Q none (setI I c (fEmp (I c)))) : HCall E me_X4_empty (d + 1) [.ref h] I Q := by
  refine h_met (by decide) rfl (Nat.le_of_ble_eq_true rfl) (sg_X4_empty_0 a_h b_h ?_)
  have := fEmp_loop (E := E) (d := d) a_h b_h p_h a_c b_c n_c q 30 0 rfl
  have e : setI I c (fun i => if i < 0 then 0 else I c i) = I := by
    have : (fun i => if i < 0 then 0 else I c i) = I c := by funext i; simp
    rw [this, setI_id]
  rw [e] at this
  exact this
theorem c_X4_copyFrom {h c g e : Nat} (a_h : h < NL) (b_h : Zk h = 3) (p_h : Zp h 0 = c) (a_c : c < NL) (b_c : Zk c = 11) (n_c : Zn c = 30) (a_g : g < NL) (b_g : Zk g = 3) (p_g : Zp g 0 = e) (a_e : e < NL) (b_e : Zk e = 11) (n_e : Zn e = 30)
    (q : Q none (setI (setI I c (va_cpy (I e) (I c) 0 0 30)) h (upd ((setI I c (va_cpy (I e) (I c) 0 0 30)) h) 1 ((setI I c (va_cpy (I e) (I c) 0 0 30)) g 1)))) : HCall E me_X4_copyFrom (d + 1) [.ref h, .ref g] I Q :=
  h_met (by decide) rfl (Nat.le_of_ble_eq_true rfl) (sg_X4_copyFrom_0 a_h b_h p_h a_c b_c n_c a_g b_g p_g a_e b_e n_e q)
theorem c_X9_worthOf {k : Int32} (q : Q (some (.int (fWor (I 6) k))) I) : HCall E me_X9_worthOf (d + 1) [.ref 1, .int k] I Q := by
  have no : ∀ z : ¬ (0 ≤ k ∧ k < 6), Q (some (.int 0)) I := fun z => by unfold fWor at q; rw [if_neg z] at q; exact q
  refine h_met (by decide) rfl (Nat.le_of_ble_eq_true rfl) (sg_X9_worthOf_0 (fun a => no (fun z => i_lt_n a z.1)) (fun _ a => no (fun z => i_lt_n z.2 a)) (fun a b => vp_n a (by decide) (i_nle b)) (fun a b => ?_))
  unfold fWor at q; rw [if_pos ⟨i_nlt a, i_nle b⟩] at q; exact q
theorem c_X9_boundOf {k : Int32} (q : Q (some (.int (fBnd (I 8) k))) I) : HCall E me_X9_boundOf (d + 1) [.ref 1, .int k] I Q := by
  have no : ∀ z : ¬ (0 ≤ k ∧ k < 4), Q (some (.int 0)) I := fun z => by unfold fBnd at q; rw [if_neg z] at q; exact q
  refine h_met (by decide) rfl (Nat.le_of_ble_eq_true rfl) (sg_X9_boundOf_0 (fun a => no (fun z => i_lt_n a z.1)) (fun _ a => no (fun z => i_lt_n z.2 a)) (fun a b => vp_n a (by decide) (i_nle b)) (fun a b => ?_))
  unfold fBnd at q; rw [if_pos ⟨i_nlt a, i_nle b⟩] at q; exact q
theorem c_X9_visitor {t : Int32} (q : Q (some (.int (fVis (I 1 10) (I 9) t))) I) : HCall E me_X9_visitor (d + 1) [.ref 1, .int t] I Q := by
  have no : ∀ z : ¬ (0 ≤ t ∧ t < I 1 10 ∧ t < 24), Q (some (.int (-1))) I := fun z => by unfold fVis at q; rw [if_neg z] at q; exact q
  refine h_met (by decide) rfl (Nat.le_of_ble_eq_true rfl) (sg_X9_visitor_0 (fun a => no (fun z => i_lt_n a z.1)) (fun _ a => no (fun z => i_lt_n z.2.1 a)) (fun _ _ a => no (fun z => i_lt_n z.2.2 a)) (fun a _ b => vp_n a (by decide) (i_nle b)) (fun a b c => ?_))
  unfold fVis at q; rw [if_pos ⟨i_nlt a, i_nle b, i_nle c⟩] at q; exact q
theorem c_X9_folkOf {p : Int32} (q : Q (some (.ref (fFolk (I 7) p))) I) : HCall E me_X9_folkOf (d + 2) [.ref 1, .int p] I Q := by
  refine h_met (by decide) rfl (Nat.le_of_ble_eq_true rfl) (sg_X9_folkOf_0 (fun a b => vp_n (i_le_n a) (by decide) b) (fun a b c => ?_) (fun a b c e => ?_) (fun a b c e f => ?_) (fun a b c e f => ?_) (fun a => ?_))
  · unfold fFolk at q; rw [if_pos ⟨a, b⟩, if_pos c] at q; exact q
  · unfold fFolk at q; rw [if_pos ⟨a, b⟩, if_neg c, if_pos e] at q; exact q
  · unfold fFolk at q; rw [if_pos ⟨a, b⟩, if_neg c, if_neg e, if_pos f] at q; exact q
  · unfold fFolk at q; rw [if_pos ⟨a, b⟩, if_neg c, if_neg e, if_neg f] at q; exact q
  · unfold fFolk at q; rw [if_neg a] at q; exact q
theorem c_X2_goalOf {p : Int32} (q : Q (some (.int (fGoal (I 32 4) p))) I) : HCall E me_X2_goalOf (d + 2) [.ref 32, .int p] I Q := by
  refine h_met (by decide) rfl (Nat.le_of_ble_eq_true rfl) (sg_X2_goalOf_0 (fun a b => ?_) (fun a => ?_))
  · unfold fGoal at q; rw [if_pos ⟨a, b⟩] at q; exact q
  · unfold fGoal at q; rw [if_neg a] at q; exact q
theorem c_X7_byteAt {p : Int32} (q : Q (some (.int (fByte (I 19 2) (I 20) p))) I) : HCall E me_X7_byteAt (d + 1) [.ref 19, .int p] I Q := by
  have no : ∀ z : ¬ (0 ≤ p ∧ p < I 19 2 ∧ p < 200), Q (some (.int (-1))) I := fun z => by unfold fByte at q; rw [if_neg z] at q; exact q
  refine h_met (by decide) rfl (Nat.le_of_ble_eq_true rfl) (sg_X7_byteAt_0 (fun a => no (fun z => i_lt_n a z.1)) (fun _ a => no (fun z => i_lt_n z.2.1 a)) (fun _ _ a => no (fun z => i_lt_n z.2.2 a)) (fun a _ b => vp_n a (by decide) (i_nle b)) (fun a b c => ?_))
  unfold fByte at q; rw [if_pos ⟨i_nlt a, i_nle b, i_nle c⟩] at q; exact q
theorem c_X7_tokenOf {b : Int32} (q : Q (some (.int (fTok b))) I) : HCall E me_X7_tokenOf (d + 1) [.int b] I Q := by
  unfold fTok at q
  refine h_met (by decide) rfl (Nat.le_of_ble_eq_true rfl) (sg_X7_tokenOf_0 (fun a b c => ?_) (fun a b c e => ?_) (fun a b c e => ?_) (fun a b c e => ?_) (fun a b c e f => ?_) (fun a b c e f => ?_) (fun a b c => ?_) (fun a => ?_))
  · rw [if_neg a, if_neg (fun z => i_lt_n b z.1), if_neg (fun z => i_lt_n c z.1)] at q; exact q
  · rw [if_neg a, if_neg (fun z => i_lt_n b z.1), if_neg (fun z => i_lt_n e z.2)] at q; exact q
  · rw [if_neg a, if_neg (fun z => i_lt_n b z.1), if_pos ⟨i_nlt c, i_nlt e⟩] at q; exact q
  · rw [if_neg a, if_neg (fun z => i_lt_n c z.2), if_neg (fun z => i_lt_n e z.1)] at q; exact q
  · rw [if_neg a, if_neg (fun z => i_lt_n c z.2), if_neg (fun z => i_lt_n f z.2)] at q; exact q
  · rw [if_neg a, if_neg (fun z => i_lt_n c z.2), if_pos ⟨i_nlt e, i_nlt f⟩] at q; exact q
  · rw [if_neg a, if_pos ⟨i_nlt b, i_nlt c⟩] at q; exact q
  · rw [if_pos a] at q; exact q
theorem c_X6_figureOf {v k : Int32} (q : Q (some (.int ((v >>> ((2 * (((I 1 9) - 1) - k)) &&& 31)) &&& 3))) I) : HCall E me_X6_figureOf (d + 1) [.ref 80, .int v, .int k] I Q := h_met (by decide) rfl (Nat.le_of_ble_eq_true rfl) (sg_X6_figureOf_0 q)
theorem c_X12_layOf {v k : Int32} (q : Q (some (.int ((v >>> ((2 * (((I 87 6) - 1) - k)) &&& 31)) &&& 3))) I) : HCall E me_X12_layOf (d + 1) [.ref 87, .int v, .int k] I Q := h_met (by decide) rfl (Nat.le_of_ble_eq_true rfl) (sg_X12_layOf_0 q)
theorem c_X2_becomeStale (q : Q none (setI I 32 (upd (I 32) 4 (-1)))) : HCall E me_X2_becomeStale (d + 1) [.ref 32] I Q := h_met (by decide) rfl (Nat.le_of_ble_eq_true rfl) (sg_X2_becomeStale_0 q)
theorem c1_greatestTaken {k : Int32} (q : Q (some (.int (fTop (I 1 11) k))) I) : HCall E me_X9_greatestTaken (d + 1) [.ref 1, .int k] I Q := by
  unfold fTop at q
  exact c_X9_greatestTaken (fun h => by rw [if_pos h] at q; exact q) (fun h => by rw [if_neg h] at q; exact q)
theorem c1_mostTaken (q : Q (some (.int (fMost (I 1 11)))) I) : HCall E me_X9_mostTakenOfKind (d + 1) [.ref 1] I Q := by
  unfold fMost at q
  exact c_X9_mostTakenOfKind (fun h => by rw [if_pos h] at q; exact q) (fun h => by rw [if_neg h] at q; exact q)
theorem c1_takesOne (q : Q (some (.int (fOne (I 1 11)))) I) : HCall E me_X9_takesOneKind (d + 1) [.ref 1] I Q := by
  unfold fOne at q
  exact c_X9_takesOneKind (fun h => by rw [if_pos h] at q; exact q) (fun h => by rw [if_neg h] at q; exact q)
theorem c_X3_comparesAll (q : Q (some (.int 1)) I) : HCall E me_X3_comparesAll (d + 1) [.ref 3] I Q := h_met (by decide) rfl (Nat.le_of_ble_eq_true rfl) (sg_X3_comparesAll_0 q)
theorem c_X3_comparesAll_W (q : Q (some (.int 1)) I) : HCall E me_X3_comparesAll (d + 1) [.ref 4] I Q := h_met (by decide) rfl (Nat.le_of_ble_eq_true rfl) (sg_X3_comparesAll_W_0 q)
theorem c_X0_comparesAll (q : Q (some (.int 0)) I) : HCall E me_X0_comparesAll (d + 1) [.ref 5] I Q := h_met (by decide) rfl (Nat.le_of_ble_eq_true rfl) (sg_X0_comparesAll_0 q)
theorem c_X8_leastGain_G {p : Int32} (q : Q (some (.int 1)) I) : HCall E me_X8_leastGain (d + 1) [.ref 3, .ref 1, .int p] I Q := h_met (by decide) rfl (Nat.le_of_ble_eq_true rfl) (sg_X8_leastGain_G_0 q)
theorem c_X8_leastGain_C {p : Int32} (q : Q (some (.int 1)) I) : HCall E me_X8_leastGain (d + 1) [.ref 5, .ref 1, .int p] I Q := h_met (by decide) rfl (Nat.le_of_ble_eq_true rfl) (sg_X8_leastGain_C_0 q)
theorem c_X1_waitsFor_N {p : Int32} (q : Q (some (.int (-1))) I) : HCall E me_X1_waitsFor (d + 1) [.ref 2, .ref 1, .int p] I Q := h_met (by decide) rfl (Nat.le_of_ble_eq_true rfl) (sg_X1_waitsFor_N_0 q)
theorem c_X1_waitsFor_G {p : Int32} (q : Q (some (.int (-1))) I) : HCall E me_X1_waitsFor (d + 1) [.ref 3, .ref 1, .int p] I Q := h_met (by decide) rfl (Nat.le_of_ble_eq_true rfl) (sg_X1_waitsFor_G_0 q)
theorem c_X1_waitsFor_C {p : Int32} (q : Q (some (.int (-1))) I) : HCall E me_X1_waitsFor (d + 1) [.ref 5, .ref 1, .int p] I Q := h_met (by decide) rfl (Nat.le_of_ble_eq_true rfl) (sg_X1_waitsFor_C_0 q)
theorem c_X0_habit (q : Q (some (.int 3)) I) : HCall E me_X0_habit (d + 1) [.ref 5] I Q := h_met (by decide) rfl (Nat.le_of_ble_eq_true rfl) (sg_X0_habit_0 q)
theorem c_X3_habit (q : Q (some (.int 1)) I) : HCall E me_X3_habit (d + 1) [.ref 3] I Q := h_met (by decide) rfl (Nat.le_of_ble_eq_true rfl) (sg_X3_habit_0 q)
theorem c_X5_habit (q : Q (some (.int 0)) I) : HCall E me_X5_habit (d + 1) [.ref 2] I Q := h_met (by decide) rfl (Nat.le_of_ble_eq_true rfl) (sg_X5_habit_0 q)
theorem c_X10_habit (q : Q (some (.int 2)) I) : HCall E me_X10_habit (d + 1) [.ref 4] I Q := h_met (by decide) rfl (Nat.le_of_ble_eq_true rfl) (sg_X10_habit_0 q)
theorem c_X5_wouldThrow {h : Nat} {p : Int32} (a_h : h < NL) (b_h : Zk h = 3) (q : Q (some (.int (-1))) I) : HCall E me_X5_wouldThrow (d + 1) [.ref 2, .ref 1, .ref h, .int p] I Q := h_met (by decide) rfl (Nat.le_of_ble_eq_true rfl) (sg_X5_wouldThrow_0 a_h b_h q)
end CON1
