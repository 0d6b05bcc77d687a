/-! the text's numbers -/
/-- a token at hand: it begins at P -/
def TkX (J : HIh) (f : Nat → Nat) (n P : Nat) : Prop := TxX J f n ∧ P ≤ n ∧ J 19 4 = nI P ∧ J 19 5 = nI (tE f n P) ∧ J 19 6 = nI (tK f n P)
def TkM (J : HIh) (f : Nat → Nat) (n P : Nat) : Prop := TxM J f n ∧ P ≤ n ∧ J 87 14 = nI (tE f n P) ∧ J 87 15 = nI P ∧ J 87 16 = nI (tE f n P)
def tN (f : Nat → Nat) (n P : Nat) : Nat := tP f n (tE f n P)
theorem tN_le {f : Nat → Nat} {n P : Nat} (h : P ≤ n) : tN f n P ≤ n := (tP_b (tE_b h).2.1).2
theorem TxX.fr {I J : HIh} {f : Nat → Nat} {n : Nat} {s : List Nat} (h : TxX I f n) (e : Fr 19 s I J) (hs : 2 ∉ s) : TxX J f n := by
  obtain ⟨h1, h2, h3⟩ := h
  exact ⟨(e.2 2 hs).trans h1, h2, fun j hj => by rw [e.1 20 (by decide)]; exact h3 j hj⟩
theorem TxM.fr {I J : HIh} {f : Nat → Nat} {n : Nat} {s : List Nat} (h : TxM I f n) (e : Fr 87 s I J) (hs : 3 ∉ s) : TxM J f n := by
  obtain ⟨h1, h2, h3⟩ := h
  exact ⟨(e.2 3 hs).trans h1, h2, fun j hj => by rw [e.1 90 (by decide)]; exact h3 j hj⟩
/-- what a row of figures comes to -/
def vN (f : Nat → Nat) (p : Nat) : Nat → Int32
  | 0 => 0
  | k + 1 => 10 * vN f p k + nI (f (p + k)) - 48
/-- the number at hand, if it may stand there -/
def rdN (f : Nat → Nat) (n P : Nat) (l m : Int32) : Option Int32 := if tK f n P = 2 ∧ tE f n P - P ≤ 3 ∧ l ≤ vN f P (tE f n P - P) ∧ vN f P (tE f n P - P) ≤ m then some (vN f P (tE f n P - P)) else none
theorem tK_le (f : Nat → Nat) (n P : Nat) : tK f n P ≤ 3 := by
  have := srt_le (f P)
  unfold tK; split
  · split <;> omega
  · omega
theorem tK_2 {f : Nat → Nat} {n P : Nat} : tK f n P = 2 ↔ P < n ∧ srt (f P) = 2 := by
  unfold tK
  by_cases h : P < n
  · rw [if_pos h]
    by_cases z : srt (f P) = 0
    · rw [if_pos z]; omega
    · rw [if_neg z]; exact ⟨fun w => ⟨h, w⟩, fun w => w.2⟩
  · rw [if_neg h]; omega
theorem rdN_some {f : Nat → Nat} {n P : Nat} {l m v : Int32} (h : rdN f n P l m = some v) : l ≤ v ∧ v ≤ m := by
  unfold rdN at h
  split at h
  · rename_i w; cases h; exact ⟨w.2.2.1, w.2.2.2⟩
  · cases h
section NUM
variable {E : HEn} {d : Nat} {Q : Option Value → HIh → Prop} {I : HIh}
theorem num_33 {f : Nat → Nat} {n P : Nat} {l m : Int32} (ht : TkX I f n P) (hP : tK f n P = 2) (h3 : tE f n P - P ≤ 3) (q0 : rdN f n P l m = none → ∀ J, Fr 19 [7] I J → Q (some (.int 0)) J) (q1 : ∀ v, rdN f n P l m = some v → ∀ J, Fr 19 [4, 5, 6, 7] I J → TkX J f n (tN f n P) → J 19 7 = v → Q (some (.int 1)) J) : ∀ (g k : Nat) (J : HIh), P + k + g = tE f n P → Fr 19 [7] I J → J 19 7 = vN f P k → HGo E (mF E (d + 3) Q) me_X7_readNumber 33 [(0, .ref 19), (1, .int l), (2, .int m), (3, .int (nI (P + k)))] [] J
  | g, k, J, hk, hf, h7 => by
    obtain ⟨t, hPn, t4, t5, t6⟩ := ht
    have t' := t
    obtain ⟨x1, x2, x3⟩ := t
    have hE := tE_b (f := f) hPn
    have e5 : J 19 5 = nI (tE f n P) := (hf.2 5 (by decide)).trans t5
    have le : J 19 5 ≤ nI (P + k) ↔ tE f n P ≤ P + k := by rw [e5, nI_leI (by omega) (by omega)]
    have kE : J 19 5 ≤ nI (P + k) → k = tE f n P - P := fun z => by rw [le] at z; omega
    have rn : J 19 5 ≤ nI (P + k) → ¬ (l ≤ J 19 7 ∧ J 19 7 ≤ m) → rdN f n P l m = none := fun z w => by
      rw [h7, kE z] at w
      unfold rdN
      rw [if_neg (fun u => w u.2.2)]
    refine sg_X7_readNumber_33 (fun z y => q0 (rn z (fun w => i_lt_n y w.1)) J hf) (fun z y w => ?_) (fun z y w => q0 (rn z (fun u => w u.2)) J hf) (fun z => ?_)
    · have rs : rdN f n P l m = some (J 19 7) := by
        rw [h7, kE z] at *
        unfold rdN
        rw [if_pos ⟨hP, h3, i_nlt y, w⟩]
      refine c_nextToken (t'.fr hf (by decide)) hE.2.1 e5 (fun J' f1 f4 f5 f6 => sg_X7_readNumber_89 ?_)
      have ff : Fr 19 [4, 5, 6, 7] I J' := ⟨fun a ha => (f1.1 a ha).trans (hf.1 a ha), fun j hj => (f1.2 j (fun w => hj (by
        rcases List.mem_cons.mp w with w | w
        · rw [w]; decide
        · rcases List.mem_cons.mp w with w | w
          · rw [w]; decide
          · rcases List.mem_cons.mp w with w | w
            · rw [w]; decide
            · cases w))).trans (hf.2 j (fun w => hj (by rcases List.mem_cons.mp w with w | w
                                                        · rw [w]; decide
                                                        · cases w)))⟩
      exact q1 _ rs J' ff ⟨t'.fr ff (by decide), tN_le hPn, f4, f5, f6⟩ (f1.2 7 (by decide))
    · rw [le] at z
      obtain ⟨g, rfl⟩ : ∃ j, g = j + 1 := ⟨g - 1, by omega⟩
      have e2 : J 19 2 = nI n := (hf.2 2 (by decide)).trans x1
      have e20 : J 20 = I 20 := hf.1 20 (by decide)
      rw [e2, e20, fByte_n _ (by omega) x2, (x3 _ (by omega)).2, h7, nI_1, Nat.add_assoc]
      refine num_33 ⟨⟨x1, x2, x3⟩, hPn, t4, t5, t6⟩ hP h3 q0 q1 g (k + 1) _ (by omega) (hf.upd (by decide) _) ?_
      rw [setI_same, upd_at _ rfl]; rfl
theorem c_readNumber {f : Nat → Nat} {n P : Nat} {l m : Int32} (ht : TkX I f n P) (q0 : rdN f n P l m = none → ∀ J, Fr 19 [7] I J → Q (some (.int 0)) J) (q1 : ∀ v, rdN f n P l m = some v → ∀ J, Fr 19 [4, 5, 6, 7] I J → TkX J f n (tN f n P) → J 19 7 = v → Q (some (.int 1)) J) : HCall E me_X7_readNumber (d + 3) [.ref 19, .int l, .int m] I Q := by
  have ht' := ht
  obtain ⟨t, hPn, t4, t5, t6⟩ := ht
  have hE := tE_b (f := f) hPn
  have h200 : n ≤ 200 := t.2.1
  have k3 := tK_le f n P
  have e6 : I 19 6 = 2 ↔ tK f n P = 2 := by rw [t6]; exact nI_eq (b := 2) (by omega) (by decide)
  have e54 : I 19 5 - I 19 4 ≤ 3 ↔ tE f n P - P ≤ 3 := by rw [t5, t4, nI_sub (by omega) (by omega)]; exact nI_leI (b := 3) (by omega) (by decide)
  refine h_met (by decide) rfl (Nat.le_of_ble_eq_true rfl) (sg_X7_readNumber_0 (fun z => ?_) (fun z y => ?_) (fun z y => ?_))
  · rw [e6] at z
    exact q0 (by unfold rdN; rw [if_neg (fun u => z u.1)]) I (Fr.refl _ _ _)
  · rw [e6] at z; rw [e54] at y
    rw [t4]
    exact num_33 ht' z y q0 q1 (tE f n P - P) 0 _ (by omega) ((Fr.refl 19 [7] I).upd (by decide) _) (by rw [setI_same, upd_at _ rfl]; rfl)
  · rw [e54] at y
    exact q0 (by unfold rdN; rw [if_neg (fun u => y u.2.1)]) I (Fr.refl _ _ _)
theorem m_isNumber {f : Nat → Nat} {n P : Nat} (ht : TkM I f n P) (q1 : tK f n P = 2 → Q (some (.int 1)) I) (q0 : ¬ tK f n P = 2 → Q (some (.int 0)) I) : HCall E me_X12_isNumber (d + 2) [.ref 87] I Q := by
  obtain ⟨⟨x1, x2, x3⟩, hPn, t4, t5, t6⟩ := ht
  have le : I 87 3 ≤ I 87 15 ↔ n ≤ P := by rw [x1, t5, nI_leI (by omega) (by omega)]
  have s : P < n → (fSort (I 90 (I 87 15).toNatClampNeg) = 2 ↔ srt (f P) = 2) := fun w => by
    have := srt_le (f P)
    rw [t5, nI_clamp (by omega), (x3 P w).2, fSort_n _ (x3 P w).1]
    exact nI_eq (b := 2) (by omega) (by decide)
  refine h_met (by decide) rfl (Nat.le_of_ble_eq_true rfl) (sg_X12_isNumber_0 (fun z => ?_) (fun z => ?_) (fun z y => ?_) (fun z y => ?_))
  all_goals rw [le] at z
  · exact q0 (fun w => by rw [tK_2] at w; omega)
  · rw [t5]; exact vp_in_nI (by omega) (by decide)
  · rw [s (by omega)] at y
    exact q0 (fun w => y (tK_2.mp w).2)
  · rw [s (by omega)] at y
    exact q1 (tK_2.mpr ⟨by omega, y⟩)
/-- a number more lies in the line at hand -/
def RdM (I J : HIh) (r k : Nat) (v : Int32) : Prop := (∀ a, a ≠ 87 → a ≠ 91 → J a = I a) ∧ (∀ j, j ∉ [14, 15, 16] → J 87 j = I 87 j) ∧ J 91 = upd (upd (I 91) (12 * r + 2 + k) v) (12 * r + 1) (nI (k + 1))
theorem reads_30 {f : Nat → Nat} {n P r k : Nat} {l m : Int32} (ht : TkM I f n P) (hr : r ≤ 9) (hk : k ≤ 9) (h5 : I 87 5 = nI r) (h91 : I 91 (12 * r + 1) = nI k) (hP : tK f n P = 2) (h3 : tE f n P - P ≤ 3) (q0 : rdN f n P l m = none → Q (some (.int 0)) I) (q1 : ∀ v, rdN f n P l m = some v → ∀ J, RdM I J r k v → TkM J f n (tN f n P) → Q (some (.int 1)) J) : ∀ (g i : Nat), P + i + g = tE f n P → HGo E (mF E (d + 3) Q) me_X12_reads 30 [(0, .ref 87), (1, .int l), (2, .int m), (3, .int (vN f P i)), (4, .int (nI (P + i)))] [] I
  | g, i, hi => by
    have ht' := ht
    obtain ⟨⟨x1, x2, x3⟩, hPn, t4, t5, t6⟩ := ht
    have hE := tE_b (f := f) hPn
    have le : I 87 16 ≤ nI (P + i) ↔ tE f n P ≤ P + i := by rw [t6, nI_leI (by omega) (by omega)]
    have iE : I 87 16 ≤ nI (P + i) → i = tE f n P - P := fun z => by rw [le] at z; omega
    have b1 : 12 * I 87 5 + 1 = nI (12 * r + 1) := by rw [h5, show (12 : Int32) = nI 12 from rfl, pk_mul, nI_1]
    have c1 : (12 * I 87 5 + 1).toNatClampNeg = 12 * r + 1 := by rw [b1, nI_clamp (by omega)]
    have b2 : (12 * I 87 5 + 2) + I 91 (12 * I 87 5 + 1).toNatClampNeg = nI (12 * r + 2 + k) := by rw [c1, h91, h5, show (12 : Int32) = nI 12 from rfl, pk_mul, show (2 : Int32) = nI 2 from rfl, nI_add, nI_add]
    have c2 : ((12 * I 87 5 + 2) + I 91 (12 * I 87 5 + 1).toNatClampNeg).toNatClampNeg = 12 * r + 2 + k := by rw [b2, nI_clamp (by omega)]
    refine sg_X12_reads_30 (fun _ _ _ => ?_) (fun _ _ _ => ?_) (fun z y w => ?_) (fun z y => ?_) (fun z => ?_) (fun z => ?_)
    · rw [b1]; exact vp_in_nI (by omega) (by decide)
    · rw [b2]; exact vp_in_nI (by omega) (by decide)
    · rw [w_le] at y w
      have rs : rdN f n P l m = some (vN f P i) := by
        rw [iE z] at *
        unfold rdN
        rw [if_pos ⟨hP, h3, y, w⟩]
      rw [setI_setI, c2, c1]
      have e1 : upd (I 91) (12 * r + 2 + k) (vN f P i) (12 * r + 1) + 1 = nI (k + 1) := by rw [upd_off _ (by omega), h91, nI_1]
      rw [e1]
      have tx : TxM (setI I 91 (upd (upd (I 91) (12 * r + 2 + k) (vN f P i)) (12 * r + 1) (nI (k + 1)))) f n := ⟨x1, x2, x3⟩
      refine m_token tx hE.2.1 t4 (fun J f1 f4 f5 f6 => sg_X12_reads_121 ?_)
      refine q1 _ rs J ⟨fun a n87 n91 => (f1.1 a n87).trans (setI_ne _ _ n91), fun j hj => (f1.2 j hj), (f1.1 91 (by decide)).trans (setI_same _ _ _)⟩ ⟨tx.fr f1 (by decide), tN_le hPn, f4, f5, f6⟩
    · rw [w_le, w_le, iE z] at y
      refine q0 ?_
      unfold rdN
      rw [if_neg (fun u => y u.2.2)]
    · rw [le] at z
      exact vp_in_nI (by omega) (by decide)
    · rw [le] at z
      obtain ⟨g, rfl⟩ : ∃ j, g = j + 1 := ⟨g - 1, by omega⟩
      rw [nI_clamp (by omega), (x3 _ (by omega)).2, nI_1, Nat.add_assoc]
      exact reads_30 ht' hr hk h5 h91 hP h3 q0 q1 g (i + 1) (by omega)
theorem m_reads {f : Nat → Nat} {n P r k : Nat} {l m : Int32} (ht : TkM I f n P) (hr : r ≤ 9) (hk : k ≤ 9) (h5 : I 87 5 = nI r) (h91 : I 91 (12 * r + 1) = nI k) (q0 : rdN f n P l m = none → Q (some (.int 0)) I) (q1 : ∀ v, rdN f n P l m = some v → ∀ J, RdM I J r k v → TkM J f n (tN f n P) → Q (some (.int 1)) J) : HCall E me_X12_reads (d + 3) [.ref 87, .int l, .int m] I Q := by
  have ht' := ht
  obtain ⟨⟨x1, x2, x3⟩, hPn, t4, t5, t6⟩ := ht
  have hE := tE_b (f := f) hPn
  have e65 : I 87 16 - I 87 15 ≤ 3 ↔ tE f n P - P ≤ 3 := by rw [t6, t5, nI_sub (by omega) (by omega)]; exact nI_leI (b := 3) (by omega) (by decide)
  refine h_met (by decide) rfl (Nat.le_of_ble_eq_true rfl) (sg_X12_reads_0 ?_)
  refine m_isNumber ht' (fun w => sg_X12_reads_4 (fun z => absurd z (by decide)) (fun _ y => ?_) (fun _ y => ?_)) (fun w => sg_X12_reads_4 (fun _ => ?_) (fun z => absurd rfl z) (fun z => absurd rfl z))
  · rw [e65] at y
    rw [t5]
    exact reads_30 ht' hr hk h5 h91 w y q0 q1 (tE f n P - P) 0 (by omega)
  · rw [e65] at y
    exact q0 (by unfold rdN; rw [if_neg (fun u => y u.2.1)])
  · exact q0 (by unfold rdN; rw [if_neg (fun u => w u.1)])
end NUM
