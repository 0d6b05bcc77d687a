/-! the text's words -/
def wds : List (List Nat) := [[99, 111, 105, 110, 115], [108, 105, 101, 115], [112, 117, 114, 115, 101], [110, 101, 118, 101, 114], [103, 114, 101, 101, 100, 121], [119, 97, 105, 116, 105, 110, 103], [99, 104, 101, 97, 112], [99, 111, 109, 101], [108, 97, 119], [97, 108, 111, 110, 101]]
def wd (i : Nat) : List Nat := wds.getD i []
/-- the bytes of the token at hand -/
def tokB (f : Nat → Nat) (n P : Nat) : List Nat := (List.range (tE f n P - P)).map (fun i => f (P + i))
theorem tokB_eq {f : Nat → Nat} {n P : Nat} {w : List Nat} : tokB f n P = w ↔ tE f n P - P = w.length ∧ ∀ i, i < w.length → f (P + i) = w.getD i 0 := by
  constructor
  · rintro rfl
    refine ⟨by simp [tokB], fun i hi => ?_⟩
    have hi' : i < tE f n P - P := by simpa [tokB] using hi
    simp [tokB, List.getD_eq_getElem?_getD, hi']
  · rintro ⟨h1, h2⟩
    show (List.range (tE f n P - P)).map (fun i => f (P + i)) = w
    apply List.ext_getElem
    · simp [h1]
    · intro i hi hw
      have := h2 i hw
      simp [List.getD_eq_getElem?_getD, hw] at this
      simp [this]
section WORD
variable {E : HEn} {d : Nat} {Q : Option Value → HIh → Prop} {I : HIh}
theorem isw_23 {f : Nat → Nat} {n P : Nat} {w : List Nat} {W : Int64} (ht : TkM I f n P) (hw : ∀ i, i < w.length → (96 + ((W >>> ((5 * nI i).toInt64 &&& 63)) &&& 31).toInt32) = nI (w.getD i 0) ∧ w.getD i 0 < 256) (hl : w.length ≤ 7) (hE : tE f n P - P = w.length) (q1 : tokB f n P = w → Q (some (.int 1)) I) (q0 : ¬ tokB f n P = w → Q (some (.int 0)) I) : ∀ (g i : Nat), i + g = w.length → (∀ j, j < i → f (P + j) = w.getD j 0) → HGo E (mF E (d + 1) Q) me_X12_isWord 23 [(0, .ref 87), (1, .long W), (3, .int (nI w.length)), (4, .int 1), (5, .int (nI i))] [] I
  | g, i, hi, hm => by
    obtain ⟨⟨x1, x2, x3⟩, hPn, t4, t5, t6⟩ := ht
    have hEb := tE_b (f := f) hPn
    have cx : (I 87 15 + nI i) = nI (P + i) := by rw [t5, nI_add]
    refine sg_X12_isWord_23 (fun z => absurd z (by decide)) (fun z => absurd z (by decide)) (fun _ _ => rfl) (fun _ z => ?_) (fun _ z => ?_) (fun _ z y => ?_) (fun _ z y => ?_)
    all_goals rw [nI_leI (by omega) (by omega)] at z
    · refine q1 (tokB_eq.mpr ⟨hE, fun j hj => hm j (by omega)⟩)
    · rw [cx]; exact vp_in_nI (by omega) (by decide)
    all_goals
      have hi' : i < w.length := by omega
      have hb := (x3 (P + i) (by omega)).1
      rw [cx, nI_clamp (by omega), (x3 (P + i) (by omega)).2, (hw i hi').1, nI_eq (by omega) (by have := (hw i hi').2; omega)] at y
    · have no : ¬ tokB f n P = w := fun u => y ((tokB_eq.mp u).2 i hi')
      exact sg_X12_isWord_23 (fun _ => rfl) (fun _ => q0 no) (fun z => absurd rfl z) (fun z => absurd rfl z) (fun z => absurd rfl z) (fun z => absurd rfl z) (fun z => absurd rfl z)
    · obtain ⟨g, rfl⟩ : ∃ j, g = j + 1 := ⟨g - 1, by omega⟩
      rw [nI_1]
      refine isw_23 ⟨⟨x1, x2, x3⟩, hPn, t4, t5, t6⟩ hw hl hE q1 q0 g (i + 1) (by omega) (fun j hj => ?_)
      by_cases e : j = i
      · subst e; exact y
      · exact hm j (by omega)
theorem m_isWord {f : Nat → Nat} {n P : Nat} {w : List Nat} {W : Int64} (ht : TkM I f n P) (hw : ∀ i, i < w.length → (96 + ((W >>> ((5 * nI i).toInt64 &&& 63)) &&& 31).toInt32) = nI (w.getD i 0) ∧ w.getD i 0 < 256) (hl : w.length ≤ 7) (q1 : tokB f n P = w → Q (some (.int 1)) I) (q0 : ¬ tokB f n P = w → Q (some (.int 0)) I) : HCall E me_X12_isWord (d + 1) [.ref 87, .long W, .int (nI w.length)] I Q := by
  have ht' := ht
  obtain ⟨⟨x1, x2, x3⟩, hPn, t4, t5, t6⟩ := ht
  have hEb := tE_b (f := f) hPn
  have e65 : I 87 16 - I 87 15 = nI w.length ↔ tE f n P - P = w.length := by rw [t6, t5, nI_sub (by omega) (by omega), nI_eq (by omega) (by omega)]
  refine h_met (by decide) rfl (Nat.le_of_ble_eq_true rfl) (sg_X12_isWord_0 (fun z => ?_) (fun z => ?_))
  · rw [e65] at z
    have no : ¬ tokB f n P = w := fun u => z (tokB_eq.mp u).1
    exact sg_X12_isWord_23 (fun _ => rfl) (fun _ => q0 no) (fun z => absurd rfl z) (fun z => absurd rfl z) (fun z => absurd rfl z) (fun z => absurd rfl z) (fun z => absurd rfl z)
  · rw [e65] at z
    exact isw_23 ht' hw hl z q1 q0 w.length 0 (by omega) (fun j hj => absurd hj (by omega))
theorem wk_0 : ∀ i, i < (wd 0).length → (96 + (((20391395 : Int64) >>> ((5 * nI i).toInt64 &&& 63)) &&& 31).toInt32) = nI ((wd 0).getD i 0) ∧ (wd 0).getD i 0 < 256 := by decide +kernel
theorem wk_1 : ∀ i, i < (wd 1).length → (96 + (((628012 : Int64) >>> ((5 * nI i).toInt64 &&& 63)) &&& 31).toInt32) = nI ((wd 1).getD i 0) ∧ (wd 1).getD i 0 < 256 := by decide +kernel
theorem wk_2 : ∀ i, i < (wd 2).length → (96 + (((5884592 : Int64) >>> ((5 * nI i).toInt64 &&& 63)) &&& 31).toInt32) = nI ((wd 2).getD i 0) ∧ (wd 2).getD i 0 < 256 := by decide +kernel
theorem wk_3 : ∀ i, i < (wd 3).length → (96 + (((19060910 : Int64) >>> ((5 * nI i).toInt64 &&& 63)) &&& 31).toInt32) = nI ((wd 3).getD i 0) ∧ (wd 3).getD i 0 < 256 := by decide +kernel
theorem wk_4 : ∀ i, i < (wd 4).length → (96 + (((843224647 : Int64) >>> ((5 * nI i).toInt64 &&& 63)) &&& 31).toInt32) = nI ((wd 4).getD i 0) ∧ (wd 4).getD i 0 < 256 := by decide +kernel
theorem wk_5 : ∀ i, i < (wd 5).length → (96 + (((7996056631 : Int64) >>> ((5 * nI i).toInt64 &&& 63)) &&& 31).toInt32) = nI ((wd 5).getD i 0) ∧ (wd 5).getD i 0 < 256 := by decide +kernel
theorem wk_6 : ∀ i, i < (wd 6).length → (96 + (((16815363 : Int64) >>> ((5 * nI i).toInt64 &&& 63)) &&& 31).toInt32) = nI ((wd 6).getD i 0) ∧ (wd 6).getD i 0 < 256 := by decide +kernel
theorem wk_7 : ∀ i, i < (wd 7).length → (96 + (((177635 : Int64) >>> ((5 * nI i).toInt64 &&& 63)) &&& 31).toInt32) = nI ((wd 7).getD i 0) ∧ (wd 7).getD i 0 < 256 := by decide +kernel
theorem wk_8 : ∀ i, i < (wd 8).length → (96 + (((23596 : Int64) >>> ((5 * nI i).toInt64 &&& 63)) &&& 31).toInt32) = nI ((wd 8).getD i 0) ∧ (wd 8).getD i 0 < 256 := by decide +kernel
theorem wk_9 : ∀ i, i < (wd 9).length → (96 + (((5717377 : Int64) >>> ((5 * nI i).toInt64 &&& 63)) &&& 31).toInt32) = nI ((wd 9).getD i 0) ∧ (wd 9).getD i 0 < 256 := by decide +kernel
/-- which word it is; none: -1 -/
def wO (f : Nat → Nat) (n P : Nat) : Int32 := if tokB f n P = wd 3 then 3 else if tokB f n P = wd 4 then 4 else if tokB f n P = wd 5 then 5 else if tokB f n P = wd 6 then 6 else if tokB f n P = wd 0 then 0 else if tokB f n P = wd 1 then 1 else if tokB f n P = wd 2 then 2 else if tokB f n P = wd 7 then 7 else if tokB f n P = wd 8 then 8 else if tokB f n P = wd 9 then 9 else -1
theorem m_wordOf {f : Nat → Nat} {n P : Nat} (ht : TkM I f n P) (q : Q (some (.int (wO f n P))) I) : HCall E me_X12_wordOf (d + 3) [.ref 87] I Q := by
  unfold wO at q
  refine h_met (by decide) rfl (Nat.le_of_ble_eq_true rfl) (sg_X12_wordOf_0 ?_)
  refine h_met (by decide) rfl (Nat.le_of_ble_eq_true rfl) (sg_X12_habitWord_0 ?_)
  refine m_isWord (w := wd 3) ht wk_3 (by decide) (fun e => ?_) (fun n3 => ?_)
  · rw [if_pos e] at q
    exact sg_X12_habitWord_8 (fun z => absurd z (by decide)) (fun _ => sg_X12_wordOf_4 (fun z => absurd z (by decide)) (fun _ => q))
  rw [if_neg n3] at q
  refine sg_X12_habitWord_8 (fun _ => ?_) (fun z => absurd rfl z)
  refine m_isWord (w := wd 4) ht wk_4 (by decide) (fun e => ?_) (fun n4 => ?_)
  · rw [if_pos e] at q
    exact sg_X12_habitWord_24 (fun z => absurd z (by decide)) (fun _ => sg_X12_wordOf_4 (fun z => absurd z (by decide)) (fun _ => q))
  rw [if_neg n4] at q
  refine sg_X12_habitWord_24 (fun _ => ?_) (fun z => absurd rfl z)
  refine m_isWord (w := wd 5) ht wk_5 (by decide) (fun e => ?_) (fun n5 => ?_)
  · rw [if_pos e] at q
    exact sg_X12_habitWord_40 (fun z => absurd z (by decide)) (fun _ => sg_X12_wordOf_4 (fun z => absurd z (by decide)) (fun _ => q))
  rw [if_neg n5] at q
  refine sg_X12_habitWord_40 (fun _ => ?_) (fun z => absurd rfl z)
  refine m_isWord (w := wd 6) ht wk_6 (by decide) (fun e => ?_) (fun n6 => ?_)
  · rw [if_pos e] at q
    exact sg_X12_habitWord_55 (fun z => absurd z (by decide)) (fun _ => sg_X12_wordOf_4 (fun z => absurd z (by decide)) (fun _ => q))
  rw [if_neg n6] at q
  refine sg_X12_habitWord_55 (fun _ => ?_) (fun z => absurd rfl z)
  refine sg_X12_wordOf_4 (fun _ => ?_) (fun z => absurd rfl z)
  refine m_isWord (w := wd 0) ht wk_0 (by decide) (fun e => ?_) (fun n0 => ?_)
  · rw [if_pos e] at q
    exact sg_X12_wordOf_22 (fun z => absurd z (by decide)) (fun _ => q)
  rw [if_neg n0] at q
  refine sg_X12_wordOf_22 (fun _ => ?_) (fun z => absurd rfl z)
  refine m_isWord (w := wd 1) ht wk_1 (by decide) (fun e => ?_) (fun n1 => ?_)
  · rw [if_pos e] at q
    exact sg_X12_wordOf_37 (fun z => absurd z (by decide)) (fun _ => q)
  rw [if_neg n1] at q
  refine sg_X12_wordOf_37 (fun _ => ?_) (fun z => absurd rfl z)
  refine m_isWord (w := wd 2) ht wk_2 (by decide) (fun e => ?_) (fun n2 => ?_)
  · rw [if_pos e] at q
    exact sg_X12_wordOf_52 (fun z => absurd z (by decide)) (fun _ => q)
  rw [if_neg n2] at q
  refine sg_X12_wordOf_52 (fun _ => ?_) (fun z => absurd rfl z)
  refine m_isWord (w := wd 7) ht wk_7 (by decide) (fun e => ?_) (fun n7 => ?_)
  · rw [if_pos e] at q
    exact sg_X12_wordOf_67 (fun z => absurd z (by decide)) (fun _ => q)
  rw [if_neg n7] at q
  refine sg_X12_wordOf_67 (fun _ => ?_) (fun z => absurd rfl z)
  refine m_isWord (w := wd 8) ht wk_8 (by decide) (fun e => ?_) (fun n8 => ?_)
  · rw [if_pos e] at q
    exact sg_X12_wordOf_83 (fun z => absurd z (by decide)) (fun _ => q)
  rw [if_neg n8] at q
  refine sg_X12_wordOf_83 (fun _ => ?_) (fun z => absurd rfl z)
  refine m_isWord (w := wd 9) ht wk_9 (by decide) (fun e => ?_) (fun n9 => ?_)
  · rw [if_pos e] at q
    exact sg_X12_wordOf_99 (fun z => absurd z (by decide)) (fun _ => q)
  rw [if_neg n9] at q
  exact sg_X12_wordOf_99 (fun _ => q) (fun z => absurd rfl z)
end WORD
