/-! what the lines tell, in plain numbers -/
abbrev HTl : Type := HCf × HCn
def lG (l : List Int32) (j : Nat) : Nat := (l.getD j 0).toNatClampNeg
def tellP (S : HTl) (x : Nat × List Int32) : HTl :=
  if x.1 = 0 then ((x.2.length, lG x.2, cl S.1, ch S.1, cb S.1, cv S.1, cp S.1), fun _ _ => 0)
  else if x.1 = 1 then (S.1, fun o k => if o = 4 ∧ k = lG x.2 0 then lG x.2 1 else S.2 o k)
  else if x.1 = 2 then (S.1, fun o k => if o = lG x.2 0 ∧ k = lG x.2 1 then lG x.2 2 else S.2 o k)
  else if x.1 = 7 then ((cK S.1, cw S.1, cl S.1, ch S.1, cb S.1, cv S.1 + x.2.length, fun t => if t < cv S.1 then cp S.1 t else lG x.2 (t - cv S.1)), S.2)
  else if x.1 = 8 then ((cK S.1, cw S.1, lG x.2 0, ch S.1, cb S.1, cv S.1, cp S.1), S.2)
  else if x.1 = 9 then ((cK S.1, cw S.1, cl S.1, ch S.1, cb S.1, 0, cp S.1), S.2)
  else ((cK S.1, cw S.1, cl S.1, (fun i => if i = lG x.2 0 then x.1 - 3 else ch S.1 i), (fun i => if i = lG x.2 0 then (if x.1 = 5 then lG x.2 1 else 0) else cb S.1 i), cv S.1, cp S.1), S.2)
/-- a line's number is there, and no more than m -/
def inL (l : List Int32) (j m : Nat) : Prop := ∃ a, a ≤ m ∧ l.getD j 0 = nI a
theorem inL.g {l : List Int32} {j m : Nat} (h : inL l j m) (hm : m < 2 ^ 31) : lG l j ≤ m ∧ l.getD j 0 = nI (lG l j) := by
  obtain ⟨a, h1, h2⟩ := h
  unfold lG
  rw [h2, nI_clamp (by omega)]
  exact ⟨h1, rfl⟩
def okL (S : HTl) (x : Nat × List Int32) : Prop :=
  x.1 ≤ 9 ∧ (x.1 = 0 → 1 ≤ x.2.length ∧ x.2.length ≤ 6 ∧ ∀ j, j < x.2.length → inL x.2 j 999) ∧ (x.1 = 1 → x.2.length = 2 ∧ inL x.2 0 (cK S.1 - 1) ∧ inL x.2 1 20) ∧ (x.1 = 2 → x.2.length = 3 ∧ inL x.2 0 3 ∧ inL x.2 1 (cK S.1 - 1) ∧ inL x.2 2 20) ∧ (x.1 = 7 → cv S.1 + x.2.length ≤ 24 ∧ x.2.length ≤ 9 ∧ ∀ j, j < x.2.length → inL x.2 j 3) ∧ (x.1 = 8 → x.2.length = 1 ∧ inL x.2 0 3) ∧ (x.1 = 3 ∨ x.1 = 4 ∨ x.1 = 6 → x.2.length = 1 ∧ inL x.2 0 3) ∧ (x.1 = 5 → x.2.length = 2 ∧ inL x.2 0 3 ∧ inL x.2 1 99)
def okAll : HTl → List (Nat × List Int32) → Prop
  | _, [] => True
  | S, x :: t => okL S x ∧ okAll (tellP S x) t
theorem okAll_app {x : Nat × List Int32} : ∀ {L : List (Nat × List Int32)} {S : HTl}, okAll S L → okL (L.foldl tellP S) x → okAll S (L ++ [x])
  | [], _, _, h => ⟨h, trivial⟩
  | _ :: _, _, h, h2 => ⟨h.1, okAll_app h.2 h2⟩
def SOk (S : HTl) : Prop := CfOk S.1 ∧ ∀ o, o < 5 → ∀ k, k < 6 → S.2 o k ≤ 20
theorem tellP_ok {S : HTl} {x : Nat × List Int32} (h : SOk S) (hx : okL S x) : SOk (tellP S x) := by
  obtain ⟨⟨a1, a2, a3, a4, a5, a6, a7, a8⟩, hs⟩ := h
  obtain ⟨w, l⟩ := x
  obtain ⟨x0, x1, x2, x3, x4, x5, x6, x7⟩ := hx
  dsimp only at x0 x1 x2 x3 x4 x5 x6 x7
  unfold tellP
  dsimp only
  by_cases e0 : w = 0
  · rw [if_pos e0]
    obtain ⟨y1, y2, y3⟩ := x1 e0
    exact ⟨⟨y1, y2, fun k hk => ((y3 k hk).g (by decide)).1, a4, a5, a6, a7, a8⟩, fun _ _ _ _ => Nat.zero_le _⟩
  rw [if_neg e0]
  by_cases e1 : w = 1
  · rw [if_pos e1]
    obtain ⟨y1, y2, y3⟩ := x2 e1
    refine ⟨⟨a1, a2, a3, a4, a5, a6, a7, a8⟩, fun o ho k hk => ?_⟩
    show (if _ then _ else _) ≤ 20
    split
    · exact (y3.g (by decide)).1
    · exact hs o ho k hk
  rw [if_neg e1]
  by_cases e2 : w = 2
  · rw [if_pos e2]
    obtain ⟨y1, y2, y3, y4⟩ := x3 e2
    refine ⟨⟨a1, a2, a3, a4, a5, a6, a7, a8⟩, fun o ho k hk => ?_⟩
    show (if _ then _ else _) ≤ 20
    split
    · exact (y4.g (by decide)).1
    · exact hs o ho k hk
  rw [if_neg e2]
  by_cases e7 : w = 7
  · rw [if_pos e7]
    obtain ⟨y1, y3, y2⟩ := x4 e7
    refine ⟨⟨a1, a2, a3, a4, a5, a6, y1, fun t ht => ?_⟩, hs⟩
    show (if _ then _ else _) < 4
    split
    · exact a8 t ‹_›
    · have ht' : t < cv S.1 + l.length := ht
      have := ((y2 (t - cv S.1) (by omega)).g (by decide)).1
      omega
  rw [if_neg e7]
  by_cases e8 : w = 8
  · rw [if_pos e8]
    exact ⟨⟨a1, a2, a3, ((x5 e8).2.g (by decide)).1, a5, a6, a7, a8⟩, hs⟩
  rw [if_neg e8]
  by_cases e9 : w = 9
  · rw [if_pos e9]
    exact ⟨⟨a1, a2, a3, a4, a5, a6, Nat.zero_le _, fun t ht => absurd ht (Nat.not_lt_zero _)⟩, hs⟩
  rw [if_neg e9]
  refine ⟨⟨a1, a2, a3, a4, fun i hi => ?_, fun i hi => ?_, a7, a8⟩, hs⟩
  · show (if _ then _ else _) ≤ 3
    split
    · have : w - 3 ≤ 3 := by omega
      exact this
    · exact a5 i hi
  · show (if _ then _ else _) ≤ 99
    split
    · split
      · exact ((x7 ‹_›).2.2.g (by decide)).1
      · omega
    · exact a6 i hi
theorem okAll_ok : ∀ {L : List (Nat × List Int32)} {S : HTl}, SOk S → okAll S L → SOk (L.foldl tellP S)
  | [], _, h, _ => h
  | x :: t, S, h, h2 => okAll_ok (L := t) (S := tellP S x) (tellP_ok h h2.1) h2.2
/-! what was read is as it must be -/
theorem rdN_n {f : Nat → Nat} {n P m : Nat} {a v : Int32} (ha : 0 ≤ a) (hm : m < 2147483647) (h : rdN f n P a (nI m) = some v) : ∃ x, x ≤ m ∧ v = nI x := by
  have := rdN_some h
  have h0 : (0 : Int32) ≤ v := by
    have h1 := this.1
    rw [i_le, z0] at *
    omega
  obtain ⟨x, hx, e⟩ := i_nat' (n := m + 1) h0 (by omega) (by
    have h2 := this.2
    rw [i_le, nI_toInt (by omega)] at h2
    rw [i_lt, nI_toInt (by omega)]
    omega)
  exact ⟨x, by omega, e⟩
theorem nums_in {f : Nat → Nat} {n : Nat} {stp : Int32 → Int32} {hi : Nat} {blk : Nat → Bool} (hst : ∀ v, 0 ≤ v ∧ v ≤ nI hi → 0 ≤ stp v) (hh : hi < 2147483647) : ∀ (m i P : Nat) (ab : Int32), 0 ≤ stp ab → ∀ j, j < (numsP f n stp (nI hi) blk m i P ab).2.1.length → inL (numsP f n stp (nI hi) blk m i P ab).2.1 j hi
  | 0, _, _, _, _, j, hj => absurd hj (Nat.not_lt_zero _)
  | m + 1, i, P, ab, h0, j, hj => by
    by_cases c1 : 0 < i ∧ ¬ tK f n P = 2
    · rw [numsP_stop (Or.inr c1)] at hj
      exact absurd hj (Nat.not_lt_zero _)
    by_cases c2 : blk i = true
    · rw [numsP_blk c1 c2] at hj
      exact absurd hj (Nat.not_lt_zero _)
    cases hr : rdN f n P (stp ab) (nI hi) with
    | none =>
      rw [numsP_none c1 c2 hr] at hj
      exact absurd hj (Nat.not_lt_zero _)
    | some v =>
      rw [numsP_some c1 c2 hr] at hj ⊢
      obtain ⟨x, hx, e⟩ := rdN_n h0 hh hr
      cases j with
      | zero => exact ⟨x, hx, e⟩
      | succ j =>
        have hv : 0 ≤ v ∧ v ≤ nI hi := by rw [e]; exact ⟨nI_pos' (by omega), by rw [nI_leI (by omega) (by omega)]; exact hx⟩
        exact nums_in hst hh m (i + 1) (tN f n P) v (hst v hv) j (Nat.lt_of_succ_lt_succ hj)
theorem nums_one {f : Nat → Nat} {n : Nat} {stp : Int32 → Int32} {hi : Int32} {blk : Nat → Bool} {m P : Nat} {ab : Int32} (h : (numsP f n stp hi blk (m + 1) 0 P ab).1 = true) : 1 ≤ (numsP f n stp hi blk (m + 1) 0 P ab).2.1.length := by
  have c1 : ¬ (0 < 0 ∧ ¬ tK f n P = 2) := fun w => absurd w.1 (by decide)
  by_cases c2 : blk 0 = true
  · rw [numsP_blk c1 c2] at h; cases h
  cases hr : rdN f n P (stp ab) hi with
  | none => rw [numsP_none c1 c2 hr] at h; cases h
  | some v => rw [numsP_some c1 c2 hr]; exact Nat.succ_le_succ (Nat.zero_le _)
theorem fix_len {f : Nat → Nat} {n : Nat} : ∀ {t : List (Int32 × Int32)} {P : Nat}, (fixP f n t P).1 = true → (fixP f n t P).2.1.length = t.length
  | [], _, _ => rfl
  | (a, b) :: t, P, h => by
    cases hr : rdN f n P a b with
    | none => rw [fixP_none hr] at h; cases h
    | some v =>
      rw [fixP_some hr] at h ⊢
      exact congrArg Nat.succ (fix_len (t := t) h)
theorem fix_in {f : Nat → Nat} {n : Nat} : ∀ {t : List (Int32 × Int32)} {P : Nat}, (fixP f n t P).1 = true → ∀ (j m : Nat), t[j]? = some (0, nI m) → m < 2147483647 → inL (fixP f n t P).2.1 j m
  | [], _, _, j, m, hj, _ => by cases hj
  | (a, b) :: t, P, h, j, m, hj, hm => by
    cases hr : rdN f n P a b with
    | none => rw [fixP_none hr] at h; cases h
    | some v =>
      rw [fixP_some hr] at h ⊢
      cases j with
      | zero =>
        have e : (a, b) = ((0 : Int32), nI m) := Option.some.inj hj
        cases e
        obtain ⟨x, hx, e⟩ := rdN_n (by decide) hm hr
        exact ⟨x, hx, e⟩
      | succ j => exact fix_in (t := t) h j m hj hm
theorem c_pred {k : Nat} (h : 1 ≤ k) : nI k - 1 = nI (k - 1) := by
  obtain ⟨m, rfl⟩ : ∃ m, k = m + 1 := ⟨k - 1, by omega⟩
  rw [nI_pred]; rfl
theorem rest_ok' {f : Nat → Nat} {n w P : Nat} {S : HTl} {l : List Int32} (h : SOk S) (hw : w ≤ 9) (ht : (restP f n (cK S.1) (cv S.1) w P).1 = true) (hl : (restP f n (cK S.1) (cv S.1) w P).2.1 = l) : okL S (w, l) := by
  obtain ⟨⟨a1, a2, a3, a4, a5, a6, a7, a8⟩, hs⟩ := h
  have hp := c_pred a1
  refine ⟨hw, fun e => ?_, fun e => ?_, fun e => ?_, fun e => ?_, fun e => ?_, fun e => ?_, fun e => ?_⟩
  all_goals dsimp only at e ⊢
  · subst e
    have ht' : (numsP f n (fun v => v + 1) 999 (fun _ => false) 6 0 P 0).1 = true := ht
    have hl' : (numsP f n (fun v => v + 1) 999 (fun _ => false) 6 0 P 0).2.1 = l := hl
    have h1 := nums_one ht'
    have h2 := numsP_len (f := f) (n := n) (stp := fun v => v + 1) (hi := 999) (blk := fun _ => false) 6 0 P 0
    have h3 := nums_in (f := f) (n := n) (stp := fun v => v + 1) (hi := 999) (blk := fun _ => false) (fun v hv => ?_) (by decide) 6 0 P 0 (by decide)
    · have h3' : ∀ j, j < (numsP f n (fun v => v + 1) 999 (fun _ => false) 6 0 P 0).2.1.length → inL (numsP f n (fun v => v + 1) 999 (fun _ => false) 6 0 P 0).2.1 j 999 := h3
      rw [hl'] at h1 h2 h3'
      exact ⟨h1, h2, h3'⟩
    · have h1 : v.toInt ≤ 999 := by have := hv.2; rw [i_le] at this; exact this
      have h2 : 0 ≤ v.toInt := by have := hv.1; rw [i_le, z0] at this; exact this
      rw [i_le, z0, fb_addI (by rw [z1]; omega) (by rw [z1]; omega), z1]; omega
  · subst e
    have ht' : (fixP f n [(0, nI (cK S.1) - 1), (0, 20)] P).1 = true := ht
    have hl' : (fixP f n [(0, nI (cK S.1) - 1), (0, 20)] P).2.1 = l := hl
    rw [hp] at ht' hl'
    have h1 := fix_len ht'
    have h2 := fix_in ht' 0 _ rfl (by omega)
    have h3 := fix_in ht' 1 20 rfl (by omega)
    rw [hl'] at h1 h2 h3
    exact ⟨h1, h2, h3⟩
  · subst e
    have ht' : (fixP f n [(0, 3), (0, nI (cK S.1) - 1), (0, 20)] P).1 = true := ht
    have hl' : (fixP f n [(0, 3), (0, nI (cK S.1) - 1), (0, 20)] P).2.1 = l := hl
    rw [hp] at ht' hl'
    have h1 := fix_len ht'
    have h2 := fix_in ht' 0 3 rfl (by omega)
    have h3 := fix_in ht' 1 _ rfl (by omega)
    have h4 := fix_in ht' 2 20 rfl (by omega)
    rw [hl'] at h1 h2 h3 h4
    exact ⟨h1, h2, h3, h4⟩
  · subst e
    have hl' : (numsP f n (fun _ => 0) 3 (fun i => decide (24 ≤ cv S.1 + i)) 9 0 P 0).2.1 = l := hl
    have h1 := numsP_vc (f := f) (n := n) (vc := cv S.1) 9 0 P 0 a7
    have h2 := numsP_len (f := f) (n := n) (stp := fun _ => 0) (hi := 3) (blk := fun i => decide (24 ≤ cv S.1 + i)) 9 0 P 0
    have h3 : ∀ j, j < (numsP f n (fun _ => 0) 3 (fun i => decide (24 ≤ cv S.1 + i)) 9 0 P 0).2.1.length → inL (numsP f n (fun _ => 0) 3 (fun i => decide (24 ≤ cv S.1 + i)) 9 0 P 0).2.1 j 3 := nums_in (f := f) (n := n) (stp := fun _ => 0) (hi := 3) (blk := fun i => decide (24 ≤ cv S.1 + i)) (fun v hv => by decide) (by decide) 9 0 P 0 (by decide)
    rw [hl'] at h1 h2 h3
    exact ⟨h1, h2, h3⟩
  · subst e
    have ht' : (fixP f n [(0, 3)] P).1 = true := ht
    have hl' : (fixP f n [(0, 3)] P).2.1 = l := hl
    have h1 := fix_len ht'
    have h2 := fix_in ht' 0 3 rfl (by omega)
    rw [hl'] at h1 h2
    exact ⟨h1, h2⟩
  · have hR : restP f n (cK S.1) (cv S.1) w P = fixP f n [(0, 3)] P := by
      unfold restP
      rw [if_neg (by omega), if_neg (by omega), if_neg (by omega), if_neg (by omega), if_neg (by omega), if_neg (by omega)]
    rw [hR] at ht hl
    have h1 := fix_len ht
    have h2 := fix_in ht 0 3 rfl (by omega)
    rw [hl] at h1 h2
    exact ⟨h1, h2⟩
  · subst e
    have ht' : (fixP f n [(0, 3), (0, 99)] P).1 = true := ht
    have hl' : (fixP f n [(0, 3), (0, 99)] P).2.1 = l := hl
    have h1 := fix_len ht'
    have h2 := fix_in ht' 0 3 rfl (by omega)
    have h3 := fix_in ht' 1 99 rfl (by omega)
    rw [hl'] at h1 h2 h3
    exact ⟨h1, h2, h3⟩
theorem rest_ok {f : Nat → Nat} {n w P : Nat} {S : HTl} (h : SOk S) (hw : w ≤ 9) (ht : (restP f n (cK S.1) (cv S.1) w P).1 = true) : okL S (w, (restP f n (cK S.1) (cv S.1) w P).2.1) := rest_ok' h hw ht rfl
theorem tell_kN (S : HTl) (w : Nat) (l : List Int32) : cK (tellP S (w, l)).1 = kN (cK S.1) w l := by
  unfold tellP kN
  dsimp only
  by_cases e0 : w = 0
  · rw [if_pos e0, if_pos e0]; rfl
  rw [if_neg e0, if_neg e0]
  repeat' split
  all_goals rfl
theorem tell_vN (S : HTl) {w : Nat} {l : List Int32} : cv (tellP S (w, l)).1 = vN2 (cv S.1) w l := by
  unfold tellP vN2
  dsimp only
  by_cases e7 : w = 7
  · subst e7; rfl
  by_cases e9 : w = 9
  · subst e9; rfl
  rw [if_neg e7, if_neg e7, if_neg e9, if_neg e9]
  repeat' split
  all_goals rfl
