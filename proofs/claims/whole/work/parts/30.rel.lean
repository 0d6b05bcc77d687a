/-! what holds between the calls: both tell the same -/
def RNow (I : HIh) (c : HCf) (s : HCn) (t : Nat) : Prop := LotC (I 13) s ∧ I 12 1 = nI t ∧ RowC (I 88) 0 s ∧ I 88 30 = nI t ∧ CnOk s ∧ t ≤ cv c
def RKept (I : HIh) (c : HCf) : Prop := ∃ bits : Nat, bits < 4 ∧ I 0 6 = nI bits ∧ ∀ k, k < 2 → I 89 k = (if bits.testBit k then 1 else 0) ∧ (bits.testBit k = true → ∃ (s : HCn) (t : Nat), LotC (I (16 + 2 * k)) s ∧ I (15 + 2 * k) 1 = nI t ∧ RowC (I 88) (31 * (1 + k)) s ∧ I 88 (31 * (1 + k) + 30) = nI t ∧ CnOk s ∧ t ≤ cv c)
def RText (I : HIh) : Prop := ∃ n, n ≤ 200 ∧ I 19 2 = nI n ∧ I 87 3 = nI n ∧ ∀ j, j < n → I 20 j = I 90 j ∧ ∃ b, b < 256 ∧ I 20 j = nI b
def RNote (I : HIh) (c : HCf) : Prop := ∃ m, m ≤ 6 ∧ I 80 6 = nI m ∧ I 87 27 = nI m ∧ ∀ j, j < m → (∃ k, k < cK c ∧ I 83 j = nI k ∧ I 101 j = nI k) ∧ ∃ w, w ≤ 9999 ∧ I 84 j = nI w ∧ I 102 j = nI w
def RFst (I : HIh) : Prop := I 10 1 = 0 ∧ ∃ s : HCn, LotC (I 11) s ∧ RowC (I 93) 0 s ∧ ∀ o, o < 5 → ∀ k, k < 6 → s o k ≤ 20
def RCache (I : HIh) (c : HCf) (s : HCn) (t : Nat) : Prop := I 32 4 = -1 ∨ ((∀ p, p < 4 → I 57 p = nI ((play c (glOf (I 32 4)) (cv c - t) t s).1 p)) ∧ I 32 5 = nI (play c (glOf (I 32 4)) (cv c - t) t s).2.length ∧ ∀ i, i < (play c (glOf (I 32 4)) (cv c - t) t s).2.length → I 69 i = oI ((play c (glOf (I 32 4)) (cv c - t) t s).2.getD i none))
def Rel (I : HIh) : Prop := ∃ (c : HCf) (s : HCn) (t : Nat), CC I c ∧ MC I c ∧ RNow I c s t ∧ RKept I c ∧ RText I ∧ RNote I c ∧ RFst I ∧ RCache I c s t
/-- the cells that a relation looks at, alike -/
def CCs (I J : HIh) : Prop := J 1 = I 1 ∧ J 6 = I 6 ∧ J 7 = I 7 ∧ J 8 = I 8 ∧ J 9 = I 9
def MCs (I J : HIh) : Prop := J 87 6 = I 87 6 ∧ J 87 13 = I 87 13 ∧ J 87 11 = I 87 11 ∧ J 92 = I 92 ∧ J 94 = I 94 ∧ J 95 = I 95 ∧ J 96 = I 96
theorem CC.of {I J : HIh} {c : HCf} (h : CC I c) (e : CCs I J) : CC J c := by
  obtain ⟨e1, e2, e3, e4, e5⟩ := e
  unfold CC; rw [e1, e2, e3, e4, e5]; exact h
theorem MC.of {I J : HIh} {c : HCf} (h : MC I c) (e : MCs I J) : MC J c := by
  obtain ⟨e1, e2, e3, e4, e5, e6, e7⟩ := e
  unfold MC; rw [e1, e2, e3, e4, e5, e6, e7]; exact h
theorem RNow.of {I J : HIh} {c : HCf} {s : HCn} {t : Nat} (h : RNow I c s t) (e : J 13 = I 13 ∧ J 12 1 = I 12 1 ∧ ∀ x, x < 31 → J 88 x = I 88 x) : RNow J c s t := by
  obtain ⟨h1, h2, h3, h4, h5⟩ := h
  obtain ⟨e1, e2, e3⟩ := e
  refine ⟨by rw [e1]; exact h1, by rw [e2]; exact h2, ⟨fun k hk => by rw [e3 _ (by omega)]; exact h3.1 k hk, fun i hi k hk => by rw [e3 _ (by omega)]; exact h3.2 i hi k hk⟩, by rw [e3 _ (by omega)]; exact h4, h5⟩
theorem RKept.of {I J : HIh} {c : HCf} (h : RKept I c) (e : J 0 6 = I 0 6 ∧ J 89 = I 89 ∧ J 15 = I 15 ∧ J 16 = I 16 ∧ J 17 = I 17 ∧ J 18 = I 18 ∧ ∀ x, 31 ≤ x → x < 93 → J 88 x = I 88 x) : RKept J c := by
  obtain ⟨bits, h1, h2, h3⟩ := h
  obtain ⟨e1, e2, e3, e4, e5, e6, e7⟩ := e
  refine ⟨bits, h1, by rw [e1]; exact h2, fun k hk => ⟨by rw [e2]; exact (h3 k hk).1, fun z => ?_⟩⟩
  obtain ⟨s, t, a1, a2, a3, a4, a5⟩ := (h3 k hk).2 z
  rcases (show k = 0 ∨ k = 1 by omega) with rfl | rfl
  · refine ⟨s, t, by show LotC (J 16) s; rw [e4]; exact a1, by show J 15 1 = _; rw [e3]; exact a2, ⟨fun k hk => by rw [e7 _ (by omega) (by omega)]; exact a3.1 k hk, fun i hi k hk => by rw [e7 _ (by omega) (by omega)]; exact a3.2 i hi k hk⟩, by rw [e7 _ (by omega) (by omega)]; exact a4, a5⟩
  · refine ⟨s, t, by show LotC (J 18) s; rw [e6]; exact a1, by show J 17 1 = _; rw [e5]; exact a2, ⟨fun k hk => by rw [e7 _ (by omega) (by omega)]; exact a3.1 k hk, fun i hi k hk => by rw [e7 _ (by omega) (by omega)]; exact a3.2 i hi k hk⟩, by rw [e7 _ (by omega) (by omega)]; exact a4, a5⟩
theorem RText.of {I J : HIh} (h : RText I) (e : J 19 2 = I 19 2 ∧ J 87 3 = I 87 3 ∧ J 20 = I 20 ∧ J 90 = I 90) : RText J := by
  obtain ⟨e1, e2, e3, e4⟩ := e
  unfold RText; rw [e1, e2, e3, e4]; exact h
theorem RNote.of {I J : HIh} {c : HCf} (h : RNote I c) (e : J 80 6 = I 80 6 ∧ J 87 27 = I 87 27 ∧ J 83 = I 83 ∧ J 84 = I 84 ∧ J 101 = I 101 ∧ J 102 = I 102) : RNote J c := by
  obtain ⟨e1, e2, e3, e4, e5, e6⟩ := e
  unfold RNote; rw [e1, e2, e3, e4, e5, e6]; exact h
theorem RFst.of {I J : HIh} (h : RFst I) (e : J 10 1 = I 10 1 ∧ J 11 = I 11 ∧ J 93 = I 93) : RFst J := by
  obtain ⟨e1, e2, e3⟩ := e
  unfold RFst; rw [e1, e2, e3]; exact h
theorem RCache.of {I J : HIh} {c : HCf} {s : HCn} {t : Nat} (h : RCache I c s t) (e : J 32 4 = I 32 4 ∧ J 32 5 = I 32 5 ∧ J 57 = I 57 ∧ J 69 = I 69) : RCache J c s t := by
  obtain ⟨e1, e2, e3, e4⟩ := e
  unfold RCache; rw [e1, e2, e3, e4]; exact h
/-- two calls, one behind the other, with one answer -/
def Twin (E : HEn) (d : Nat) (me me' : HMe) (as as' : List Value) (I : HIh) : Prop := HCall E me (d + 70) as I (fun v J => HCall E me' (d + 70) as' J (fun v' J' => ∃ r : Int32, v = some (.int r) ∧ v' = some (.int r) ∧ Rel J'))
