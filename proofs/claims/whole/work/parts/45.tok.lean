/-! the text's tokens -/
/-- 1 a letter, 2 a digit, 0 all else -/
def srt (b : Nat) : Nat := if 97 ≤ b ∧ b ≤ 122 then 1 else if 48 ≤ b ∧ b ≤ 57 then 2 else 0
theorem fSort_n : ∀ b, b < 256 → fSort (nI b) = nI (srt b) := by decide +kernel
theorem fTok_n : ∀ b, b < 256 → fTok (nI b) = nI (if srt b = 0 then 3 else srt b) := by decide +kernel
theorem srt_le (b : Nat) : srt b ≤ 2 := by unfold srt; split <;> (try split) <;> omega
def skp (f : Nat → Nat) (n : Nat) : Nat → Nat → Nat
  | 0, p => p
  | m + 1, p => if p < n ∧ f p = 32 then skp f n m (p + 1) else p
def run (f : Nat → Nat) (n k : Nat) : Nat → Nat → Nat
  | 0, p => p
  | m + 1, p => if p < n ∧ srt (f p) = k then run f n k m (p + 1) else p
/-- where the token behind a place begins -/
def tP (f : Nat → Nat) (n p : Nat) : Nat := skp f n (n - p) p
/-- where a token that begins at a place ends -/
def tE (f : Nat → Nat) (n p : Nat) : Nat := if p < n then (if srt (f p) = 0 then p + 1 else run f n (srt (f p)) (n - (p + 1)) (p + 1)) else p
/-- its kind: 0 the end, 1 a word, 2 a number, 3 another -/
def tK (f : Nat → Nat) (n p : Nat) : Nat := if p < n then (if srt (f p) = 0 then 3 else srt (f p)) else 0
theorem skp_b {f : Nat → Nat} {n : Nat} : ∀ (m p : Nat), p + m = n → p ≤ skp f n m p ∧ skp f n m p ≤ n
  | 0, p, h => ⟨Nat.le_refl _, by show p ≤ n; omega⟩
  | m + 1, p, h => by
    unfold skp
    split
    · have := skp_b (f := f) (n := n) m (p + 1) (by omega)
      exact ⟨by omega, this.2⟩
    · exact ⟨Nat.le_refl _, by omega⟩
theorem run_b {f : Nat → Nat} {n k : Nat} : ∀ (m p : Nat), p + m = n → p ≤ run f n k m p ∧ run f n k m p ≤ n
  | 0, p, h => ⟨Nat.le_refl _, by show p ≤ n; omega⟩
  | m + 1, p, h => by
    unfold run
    split
    · have := run_b (f := f) (n := n) (k := k) m (p + 1) (by omega)
      exact ⟨by omega, this.2⟩
    · exact ⟨Nat.le_refl _, by omega⟩
theorem tP_b {f : Nat → Nat} {n p : Nat} (h : p ≤ n) : p ≤ tP f n p ∧ tP f n p ≤ n := skp_b _ _ (by omega)
theorem tE_b {f : Nat → Nat} {n p : Nat} (h : p ≤ n) : p ≤ tE f n p ∧ tE f n p ≤ n ∧ (p < n → p < tE f n p) := by
  unfold tE
  by_cases q : p < n
  · rw [if_pos q]
    split
    · exact ⟨by omega, by omega, fun _ => by omega⟩
    · have := run_b (f := f) (k := srt (f p)) (n := n) (n - (p + 1)) (p + 1) (by omega)
      exact ⟨by omega, this.2, fun _ => by omega⟩
  · rw [if_neg q]; exact ⟨Nat.le_refl _, h, fun w => absurd w q⟩
def TxX (J : HIh) (f : Nat → Nat) (n : Nat) : Prop := J 19 2 = nI n ∧ n ≤ 200 ∧ ∀ j, j < n → f j < 256 ∧ J 20 j = nI (f j)
def TxM (J : HIh) (f : Nat → Nat) (n : Nat) : Prop := J 87 3 = nI n ∧ n ≤ 200 ∧ ∀ j, j < n → f j < 256 ∧ J 90 j = nI (f j)
def Fr (q : Nat) (s : List Nat) (I J : HIh) : Prop := (∀ a, a ≠ q → J a = I a) ∧ ∀ j, j ∉ s → J q j = I q j
theorem Fr.refl (q : Nat) (s : List Nat) (I : HIh) : Fr q s I I := ⟨fun _ _ => rfl, fun _ _ => rfl⟩
theorem Fr.upd {q : Nat} {s : List Nat} {I J : HIh} (h : Fr q s I J) {i : Nat} (hi : i ∈ s) (x : Int32) : Fr q s I (setI J q (upd (J q) i x)) :=
  ⟨fun a ha => by rw [setI_ne _ _ ha]; exact h.1 a ha, fun j hj => by rw [setI_same, upd_off _ (fun w => hj (by rw [w]; exact hi))]; exact h.2 j hj⟩
section TOK
variable {E : HEn} {d : Nat} {Q : Option Value → HIh → Prop} {I : HIh}
theorem next_99 {f : Nat → Nat} {n P : Nat} (ht : TxX I f n) (hP : P < n) (hz : srt (f P) ≠ 0) (q : ∀ J, Fr 19 [4, 5, 6] I J → J 19 4 = nI P → J 19 5 = nI (tE f n P) → J 19 6 = nI (tK f n P) → Q none J) : ∀ (m e : Nat) (J : HIh), e + m = n → Fr 19 [4, 5, 6] I J → J 19 4 = nI P → J 19 5 = nI e → J 19 6 = nI (srt (f P)) → run f n (srt (f P)) m e = tE f n P → HGo E (mF E (d + 2) Q) me_X7_nextToken 99 [(0, .ref 19), (1, .int 1)] [] J
  | m, e, J, he, hf, h4, h5, h6, hr => by
    obtain ⟨t1, t2, t3⟩ := ht
    have e2 : J 19 2 = nI n := (hf.2 2 (by decide)).trans t1
    have e20 : J 20 = I 20 := hf.1 20 (by decide)
    have eK : tK f n P = srt (f P) := by unfold tK; rw [if_pos hP, if_neg hz]
    have fin : e = tE f n P → Q none J := fun w => q J hf h4 (by rw [h5, w]) (by rw [h6, eK])
    have s3 := srt_le (f P)
    refine sg_X7_nextToken_99 (fun z => absurd z (by decide)) (fun _ z => ?_) (fun _ z y => ?_) (fun _ z y => ?_)
    all_goals
      rw [e2, h5, nI_leI (by omega) (by omega)] at z
    · have : m = 0 := by omega
      subst this
      exact fin hr
    all_goals
      obtain ⟨m, rfl⟩ : ∃ k, m = k + 1 := ⟨m - 1, by omega⟩
      have hb := (t3 e (by omega)).1
      have s4 := srt_le (f e)
      rw [e2, h5, e20, fByte_n _ (by omega) t2, (t3 e (by omega)).2, fTok_n _ hb, h6, nI_eq (by split <;> omega) (by omega)] at y
    · refine fin ?_
      rw [← hr]
      unfold run
      rw [if_neg (fun w => y (by rw [w.2, if_neg hz]))]
    · have ye : srt (f e) = srt (f P) := by
        by_cases w : srt (f e) = 0
        · rw [if_pos w] at y; omega
        · rw [if_neg w] at y; exact y
      refine next_99 ⟨t1, t2, t3⟩ hP hz q m (e + 1) _ (by omega) (hf.upd (by decide) _) ?_ ?_ ?_ ?_
      · rw [setI_same, upd_off _ (by decide)]; exact h4
      · rw [setI_same, upd_at _ rfl, h5, nI_1]
      · rw [setI_same, upd_off _ (by decide)]; exact h6
      · rw [← hr]
        show _ = if _ then _ else _
        rw [if_pos ⟨by omega, ye⟩]
theorem next_8 {f : Nat → Nat} {n P : Nat} (ht : TxX I f n) (q : ∀ J, Fr 19 [4, 5, 6] I J → J 19 4 = nI P → J 19 5 = nI (tE f n P) → J 19 6 = nI (tK f n P) → Q none J) : ∀ (m p : Nat) (J : HIh), p + m = n → Fr 19 [4, 5, 6] I J → J 19 4 = nI p → skp f n m p = P → HGo E (mF E (d + 2) Q) me_X7_nextToken 8 [(0, .ref 19)] [] J
  | m, p, J, hp, hf, h4, hr => by
    obtain ⟨t1, t2, t3⟩ := ht
    have e2 : J 19 2 = nI n := (hf.2 2 (by decide)).trans t1
    have e20 : J 20 = I 20 := hf.1 20 (by decide)
    have out : n ≤ p → fTok (fByte (J 19 2) (J 20) (J 19 4)) = 0 := fun w => by rw [e2, h4, fByte_out _ w (by omega)]; rfl
    have inn : p < n → fByte (J 19 2) (J 20) (J 19 4) = nI (f p) := fun w => by rw [e2, h4, e20, fByte_n _ w t2, (t3 p w).2]
    have fmn : p < n → fMin (J 19 4 + 1) (J 19 2) = nI (p + 1) := fun w => by
      rw [e2, h4, nI_1]; unfold fMin
      rw [if_neg (nI_nlt (by omega) (by omega))]
    have st : ∀ x y, Fr 19 [4, 5, 6] I (setI (setI J 19 (upd (J 19) 6 x)) 19 (upd (upd (J 19) 6 x) 5 y)) := fun x y => (hf.upd (i := 6) (by decide) x).upd (i := 5) (by decide) y
    have g4 : ∀ x y, (setI (setI J 19 (upd (J 19) 6 x)) 19 (upd (upd (J 19) 6 x) 5 y)) 19 4 = J 19 4 := fun x y => by rw [setI_same, upd_off _ (by decide), upd_off _ (by decide)]
    have g5 : ∀ x y, (setI (setI J 19 (upd (J 19) 6 x)) 19 (upd (upd (J 19) 6 x) 5 y)) 19 5 = y := fun x y => by rw [setI_same, upd_at _ rfl]
    have g6 : ∀ x y, (setI (setI J 19 (upd (J 19) 6 x)) 19 (upd (upd (J 19) 6 x) 5 y)) 19 6 = x := fun x y => by rw [setI_same, upd_off _ (by decide), upd_at _ rfl]
    have word : p < n → f p ≠ 32 → srt (f p) ≠ 0 → HGo E (mF E (d + 2) Q) me_X7_nextToken 99 [(0, .ref 19), (1, .int 1)] [] (setI (setI J 19 (upd (J 19) 6 (fTok (fByte (J 19 2) (J 20) (J 19 4))))) 19 (upd (upd (J 19) 6 (fTok (fByte (J 19 2) (J 20) (J 19 4)))) 5 (fMin (J 19 4 + 1) (J 19 2)))) := fun w nb nz => by
      obtain ⟨m, rfl⟩ : ∃ k, m = k + 1 := ⟨m - 1, by omega⟩
      have hP : P = p := by
        rw [← hr]; unfold skp; rw [if_neg (fun u => nb u.2)]
      subst hP
      refine next_99 ⟨t1, t2, t3⟩ w nz q m (P + 1) _ (by omega) (st _ _) ((g4 _ _).trans h4) ((g5 _ _).trans (fmn w)) ?_ ?_
      · rw [g6, inn w, fTok_n _ (t3 _ w).1, if_neg nz]
      · unfold tE
        rw [if_pos w, if_neg nz, show n - (P + 1) = m by omega]
    have le : J 19 2 ≤ J 19 4 ↔ n ≤ p := by rw [e2, h4, nI_leI (by omega) (by omega)]
    have b32 : p < n → (fByte (J 19 2) (J 20) (J 19 4) = 32 ↔ f p = 32) := fun w => by
      rw [inn w]; exact nI_eq (b := 32) (by have := (t3 p w).1; omega) (by decide)
    have tk1 : ∀ k, k < 3 → p < n → (fTok (fByte (J 19 2) (J 20) (J 19 4)) = nI k ↔ (if srt (f p) = 0 then 3 else srt (f p)) = k) := fun k hk w => by
      have := srt_le (f p)
      rw [inn w, fTok_n _ (t3 p w).1, nI_eq (by split <;> omega) (by omega)]
    refine sg_X7_nextToken_8 (fun z y => ?_) (fun z y w => ?_) (fun z y w => ?_) (fun z y w => ?_) (fun z y w u => ?_) (fun z y w u => ?_) (fun z y => ?_)
    · rw [le] at z; rw [out z] at y; exact absurd y (by decide)
    · rw [le] at z
      have : m = 0 := by omega
      subst this
      have hP : P = p := hr.symm
      subst hP
      refine sg_X7_nextToken_99 (fun _ => q _ (st _ _) ((g4 _ _).trans h4) ?_ ?_) (fun u => absurd rfl u) (fun u => absurd rfl u) (fun u => absurd rfl u)
      · rw [g5]
        unfold tE
        rw [if_neg (by omega), e2, h4, nI_1]
        unfold fMin
        rw [if_pos (nI_lt (by omega) (by omega))]
        congr 1; omega
      · rw [g6, out z]
        unfold tK
        rw [if_neg (by omega)]; rfl
    · rw [le] at z; rw [out z] at w; exact absurd w (by decide)
    all_goals
      rw [le] at z
      have hp' : p < n := by omega
      rw [b32 hp'] at y
    · have := (tk1 1 (by decide) hp').mp w
      exact word hp' y (fun e => by rw [if_pos e] at this; omega)
    · have nz : srt (f p) = 0 := by
        have a1 : ¬ (if srt (f p) = 0 then 3 else srt (f p)) = 1 := fun e => w ((tk1 1 (by decide) hp').mpr e)
        have a2 : ¬ (if srt (f p) = 0 then 3 else srt (f p)) = 2 := fun e => u ((tk1 2 (by decide) hp').mpr e)
        have := srt_le (f p)
        by_cases e : srt (f p) = 0
        · exact e
        · rw [if_neg e] at a1 a2; omega
      obtain ⟨m, rfl⟩ : ∃ k, m = k + 1 := ⟨m - 1, by omega⟩
      have hP : P = p := by
        rw [← hr]; unfold skp; rw [if_neg (fun u => y u.2)]
      subst hP
      refine sg_X7_nextToken_99 (fun _ => q _ (st _ _) ((g4 _ _).trans h4) ?_ ?_) (fun u => absurd rfl u) (fun u => absurd rfl u) (fun u => absurd rfl u)
      · rw [g5, fmn hp']
        unfold tE
        rw [if_pos hp', if_pos nz]
      · rw [g6, inn hp', fTok_n _ (t3 _ hp').1]
        unfold tK
        rw [if_pos hp']
    · have := (tk1 2 (by decide) hp').mp u
      exact word hp' y (fun e => by rw [if_pos e] at this; omega)
    · obtain ⟨m, rfl⟩ : ∃ k, m = k + 1 := ⟨m - 1, by omega⟩
      refine next_8 ⟨t1, t2, t3⟩ q m (p + 1) _ (by omega) (hf.upd (by decide) _) ?_ ?_
      · rw [setI_same, upd_at _ rfl, h4, nI_1]
      · rw [← hr]
        show _ = if _ then _ else _
        rw [if_pos ⟨hp', y⟩]
theorem c_nextToken {f : Nat → Nat} {n p : Nat} (ht : TxX I f n) (hp : p ≤ n) (h5 : I 19 5 = nI p) (q : ∀ J, Fr 19 [4, 5, 6] I J → J 19 4 = nI (tP f n p) → J 19 5 = nI (tE f n (tP f n p)) → J 19 6 = nI (tK f n (tP f n p)) → Q none J) : HCall E me_X7_nextToken (d + 2) [.ref 19] I Q :=
  h_met (by decide) rfl (Nat.le_of_ble_eq_true rfl) (sg_X7_nextToken_0 (next_8 ht q (n - p) p _ (by omega) ((Fr.refl 19 [4, 5, 6] I).upd (by decide) _) (by rw [setI_same, upd_at _ rfl]; exact h5) rfl))
theorem tok_71 {f : Nat → Nat} {n P : Nat} (ht : TxM I f n) (hPn : P ≤ n) (q : ∀ J, Fr 87 [14, 15, 16] I J → J 87 14 = nI (tE f n P) → J 87 15 = nI P → J 87 16 = nI (tE f n P) → Q none J) : ∀ (m e : Nat) (J : HIh), e + m = n → Fr 87 [14, 15, 16] I J → J 87 15 = nI P → J 87 14 = nI e → ((P < n ∧ srt (f P) ≠ 0 ∧ run f n (srt (f P)) m e = tE f n P) ∨ ((n ≤ P ∨ srt (f P) = 0) ∧ e = tE f n P)) → HGo E (mF E (d + 2) Q) me_X12_token 71 [(0, .ref 87)] [] J
  | m, e, J, he, hf, h5, h4, hr => by
    obtain ⟨t1, t2, t3⟩ := ht
    have e3 : J 87 3 = nI n := (hf.2 3 (by decide)).trans t1
    have e90 : J 90 = I 90 := hf.1 90 (by decide)
    have le : J 87 3 ≤ J 87 14 ↔ n ≤ e := by rw [e3, h4, nI_leI (by omega) (by omega)]
    have fin : e = tE f n P → Q none (setI J 87 (upd (J 87) 16 (J 87 14))) := fun w => by
      refine q _ (hf.upd (by decide) _) ?_ ?_ ?_
      · rw [setI_same, upd_off _ (by decide), h4, w]
      · rw [setI_same, upd_off _ (by decide)]; exact h5
      · rw [setI_same, upd_at _ rfl, h4, w]
    have cP : (J 87 15).toNatClampNeg = P := by rw [h5, nI_clamp (by omega)]
    have c4 : (J 87 14).toNatClampNeg = e := by rw [h4, nI_clamp (by omega)]
    have sP : P < n → fSort (J 90 (J 87 15).toNatClampNeg) = nI (srt (f P)) := fun w => by rw [cP, e90, (t3 P w).2, fSort_n _ (t3 P w).1]
    have s4 : e < n → fSort (J 90 (J 87 14).toNatClampNeg) = nI (srt (f e)) := fun w => by rw [c4, e90, (t3 e w).2, fSort_n _ (t3 e w).1]
    have Pn : e < n → P < n := fun w => by
      rcases hr with h | ⟨h, h'⟩
      · exact h.1
      · have := (tE_b (f := f) hPn).1
        omega
    have b1 := srt_le (f P)
    have b2 := srt_le (f e)
    refine sg_X12_token_71 (fun z => ?_) (fun z => ?_) (fun z y => ?_) (fun z y => ?_) (fun z y => ?_) (fun z y w => ?_) (fun z y w => ?_)
    all_goals
      rw [le] at z
    · refine fin ?_
      rcases hr with h | h
      · have : m = 0 := by omega
        subst this; exact h.2.2
      · exact h.2
    · rw [h5]; exact vp_in_nI (by have := Pn (by omega); omega) (by decide)
    · rw [sP (Pn (by omega)), nI_le0 (by omega)] at y
      refine fin ?_
      rcases hr with h | h
      · exact absurd y h.2.1
      · exact h.2
    · rw [h4]; exact vp_in_nI (by omega) (by decide)
    · rw [h5]; exact vp_in_nI (by have := Pn (by omega); omega) (by decide)
    all_goals
      have hPl := Pn (by omega)
      rw [sP hPl, nI_le0 (by omega)] at y
      rw [sP hPl, s4 (by omega), nI_eq (by omega) (by omega)] at w
      obtain ⟨m, rfl⟩ : ∃ k, m = k + 1 := ⟨m - 1, by omega⟩
      have hrun : run f n (srt (f P)) (m + 1) e = tE f n P := by
        rcases hr with h | h
        · exact h.2.2
        · exact absurd h.1 (by omega)
    · refine fin ?_
      rw [← hrun]; unfold run
      rw [if_neg (fun u => w u.2)]
    · refine tok_71 ⟨t1, t2, t3⟩ hPn q m (e + 1) _ (by omega) (hf.upd (by decide) _) ?_ ?_ (Or.inl ⟨hPl, y, ?_⟩)
      · rw [setI_same, upd_off _ (by decide)]; exact h5
      · rw [setI_same, upd_at _ rfl, h4, nI_1]
      · rw [← hrun]
        show _ = if _ then _ else _
        rw [if_pos ⟨by omega, w⟩]
theorem tok_0 {f : Nat → Nat} {n P : Nat} (ht : TxM I f n) (q : ∀ J, Fr 87 [14, 15, 16] I J → J 87 14 = nI (tE f n P) → J 87 15 = nI P → J 87 16 = nI (tE f n P) → Q none J) : ∀ (m p : Nat) (J : HIh), p + m = n → Fr 87 [14, 15, 16] I J → J 87 14 = nI p → skp f n m p = P → HGo E (mF E (d + 2) Q) me_X12_token 0 [(0, .ref 87)] [] J
  | m, p, J, hp, hf, h4, hr => by
    obtain ⟨t1, t2, t3⟩ := ht
    have e3 : J 87 3 = nI n := (hf.2 3 (by decide)).trans t1
    have e90 : J 90 = I 90 := hf.1 90 (by decide)
    have le : J 87 3 ≤ J 87 14 ↔ n ≤ p := by rw [e3, h4, nI_leI (by omega) (by omega)]
    have c4 : (J 87 14).toNatClampNeg = p := by rw [h4, nI_clamp (by omega)]
    have b32 : p < n → (J 90 (J 87 14).toNatClampNeg = 32 ↔ f p = 32) := fun w => by
      rw [c4, e90, (t3 p w).2]; exact nI_eq (b := 32) (by have := (t3 p w).1; omega) (by decide)
    have st : ∀ x y, Fr 87 [14, 15, 16] I (setI (setI J 87 (upd (J 87) 15 x)) 87 (upd (upd (J 87) 15 x) 14 y)) := fun x y => (hf.upd (i := 15) (by decide) x).upd (i := 14) (by decide) y
    have g5 : ∀ x y, (setI (setI J 87 (upd (J 87) 15 x)) 87 (upd (upd (J 87) 15 x) 14 y)) 87 15 = x := fun x y => by rw [setI_same, upd_off _ (by decide), upd_at _ rfl]
    have g4 : ∀ x y, (setI (setI J 87 (upd (J 87) 15 x)) 87 (upd (upd (J 87) 15 x) 14 y)) 87 14 = y := fun x y => by rw [setI_same, upd_at _ rfl]
    refine sg_X12_token_0 (fun z _ => ?_) (fun z y => absurd z y) (fun z => ?_) (fun z _ y => absurd y z) (fun z y _ => ?_) (fun z y => ?_)
    · rw [le] at z
      have : m = 0 := by omega
      subst this
      have hP : P = p := hr.symm
      subst hP
      refine tok_71 ⟨t1, t2, t3⟩ (by omega) q 0 P _ (by omega) (st _ _) ((g5 _ _).trans h4) ((g4 _ _).trans (by rw [Int32.add_zero]; exact h4)) (Or.inr ⟨Or.inl z, ?_⟩)
      unfold tE; rw [if_neg (by omega)]
    all_goals
      rw [le] at z
    · rw [h4]; exact vp_in_nI (by omega) (by decide)
    all_goals
      have hp' : p < n := by omega
      rw [b32 hp'] at y
      obtain ⟨m, rfl⟩ : ∃ k, m = k + 1 := ⟨m - 1, by omega⟩
    · have hP : P = p := by
        rw [← hr]; unfold skp; rw [if_neg (fun u => y u.2)]
      subst hP
      refine tok_71 ⟨t1, t2, t3⟩ (by omega) q m (P + 1) _ (by omega) (st _ _) ((g5 _ _).trans h4) ((g4 _ _).trans (by rw [h4, nI_1])) ?_
      by_cases nz : srt (f P) = 0
      · refine Or.inr ⟨Or.inr nz, ?_⟩
        unfold tE; rw [if_pos hp', if_pos nz]
      · refine Or.inl ⟨hp', nz, ?_⟩
        unfold tE; rw [if_pos hp', if_neg nz, show n - (P + 1) = m by omega]
    · refine tok_0 ⟨t1, t2, t3⟩ q m (p + 1) _ (by omega) (hf.upd (by decide) _) ?_ ?_
      · rw [setI_same, upd_at _ rfl, h4, nI_1]
      · rw [← hr]
        show _ = if _ then _ else _
        rw [if_pos ⟨hp', y⟩]
theorem m_token {f : Nat → Nat} {n p : Nat} (ht : TxM I f n) (hp : p ≤ n) (h4 : I 87 14 = nI p) (q : ∀ J, Fr 87 [14, 15, 16] I J → J 87 14 = nI (tE f n (tP f n p)) → J 87 15 = nI (tP f n p) → J 87 16 = nI (tE f n (tP f n p)) → Q none J) : HCall E me_X12_token (d + 2) [.ref 87] I Q :=
  h_met (by decide) rfl (Nat.le_of_ble_eq_true rfl) (tok_0 ht q (n - p) p _ (by omega) (Fr.refl 87 [14, 15, 16] I) h4 rfl)
end TOK
