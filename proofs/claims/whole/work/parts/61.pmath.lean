/-! several who each want most: plain facts -/
theorem sm_one {f : Nat → Nat} {k : Nat} : ∀ {n : Nat}, k < n → sm (fun j => if j = k then f j else 0) n = f k
  | 0, h => absurd h (Nat.not_lt_zero _)
  | n + 1, h => by
    show sm (fun j => if j = k then f j else 0) n + (if n = k then f n else 0) = f k
    by_cases e : n = k
    · subst e
      rw [if_pos rfl, sm_zero (fun j hj => if_neg (by omega)), Nat.zero_add]
    · rw [if_neg e, sm_one (by omega), Nat.add_zero]
theorem thr_own {c : HCf} {s : HCn} {i k j : Nat} (hi : i < 4) : thr c s i k i j = s i j + tk (cl c) (s 4) k j - (if j = k then 1 else 0) := by
  unfold thr
  rw [if_neg (by omega), if_pos rfl]
theorem thr_off {c : HCf} {s : HCn} {i k o j : Nat} (ho : o < 4) (hne : o ≠ i) : thr c s i k o j = s o j := by
  unfold thr
  rw [if_neg (by omega), if_neg hne]
theorem wealth_thr {c : HCf} {s : HCn} {i k : Nat} (hi : i < 4) (hk : k < cK c) (hs : 0 < s i k) : wealth c (thr c s i k) i + cw c k = wealth c s i + gsum c (s 4) k := by
  unfold wealth gsum
  have h1 := sm_one (f := fun j => cw c j) hk
  have h2 := sm_add (fun j => cw c j * thr c s i k i j) (fun j => if j = k then cw c j else 0) (cK c)
  have h3 := sm_add (fun j => cw c j * s i j) (fun j => tk (cl c) (s 4) k j * cw c j) (cK c)
  rw [h1] at h2
  rw [← h2, ← h3]
  refine sm_congr (fun j _ => ?_)
  rw [thr_own hi]
  by_cases e : j = k
  · subst e
    rw [if_pos rfl, if_pos rfl]
    obtain ⟨a, ha⟩ : ∃ a, s i j = a + 1 := ⟨s i j - 1, by omega⟩
    rw [ha, show a + 1 + tk (cl c) (s 4) j j - 1 = a + tk (cl c) (s 4) j j by omega, Nat.mul_add, Nat.mul_add, Nat.mul_comm (cw c j) (tk (cl c) (s 4) j j)]
    omega
  · rw [if_neg e, if_neg e, Nat.sub_zero, Nat.add_zero, Nat.mul_add, Nat.mul_comm (cw c j) (tk (cl c) (s 4) k j)]
theorem wealth_off {c : HCf} {s : HCn} {i o : Nat} {r : Option Nat} (ho : o < 4) (hne : o ≠ i) : wealth c (vst c s i r) o = wealth c s o := by
  cases r with
  | none => rfl
  | some k => exact sm_congr (fun j _ => by show cw c j * thr c s i k o j = _; rw [thr_off ho hne])
/-- goals: one's own purse is among what he wants, and whose purse he wants wants the same -/
def GoalOk (gl : Nat → Nat) : Prop := ∀ p, p < 4 → gl p ≠ 0 → (gl p).testBit p = true ∧ ∀ q, q < 4 → (gl p).testBit q = true → gl q = gl p
theorem play_free {c : HCf} {gl : Nat → Nat} {n t : Nat} {s : HCn} (h : gl (cp c t) ≠ 0) : play c gl (n + 1) t s =
      ((bestOf (fun r => gval (gl (cp c t)) r.1) (fun o => play c gl n (t + 1) (vst c s (cp c t) o)) (fun k => decide (0 < s (cp c t) k)) (cK c)).2.1,
       (bestOf (fun r => gval (gl (cp c t)) r.1) (fun o => play c gl n (t + 1) (vst c s (cp c t) o)) (fun k => decide (0 < s (cp c t) k)) (cK c)).1 ::
       (bestOf (fun r => gval (gl (cp c t)) r.1) (fun o => play c gl n (t + 1) (vst c s (cp c t) o)) (fun k => decide (0 < s (cp c t) k)) (cK c)).2.2) := by
  conv => lhs; unfold play
  rw [if_neg h]
theorem play_hab {c : HCf} {gl : Nat → Nat} {n t : Nat} {s : HCn} (h : gl (cp c t) = 0) : play c gl (n + 1) t s = play c gl n (t + 1) (vst c s (cp c t) (hab c s (cp c t))) := by
  conv => lhs; unfold play
  rw [if_pos h]
/-- who doesn't come has in the end what he has now -/
theorem play_same {c : HCf} {gl : Nat → Nat} {p : Nat} (hp : p < 4) : ∀ (n t : Nat) (s : HCn), (∀ j, j < n → cp c (t + j) ≠ p) → (play c gl n t s).1 p = wealth c s p
  | 0, _, _, _ => rfl
  | n + 1, t, s, h => by
    have h0 : p ≠ cp c t := fun e => h 0 (by omega) e.symm
    have hs : ∀ j, j < n → cp c (t + 1 + j) ≠ p := fun j hj => by
      have := h (j + 1) (by omega)
      rw [show t + (j + 1) = t + 1 + j by omega] at this
      exact this
    by_cases g : gl (cp c t) = 0
    · rw [play_hab g, play_same hp n (t + 1) _ hs, wealth_off hp h0]
    · rw [play_free g]
      dsimp only
      rw [(bestOf_is _ _ _ _).1]
      rw [play_same hp n (t + 1) _ hs, wealth_off hp h0]
theorem play_b {c : HCf} (ok : CfOk c) {gl : Nat → Nat} : ∀ (n t : Nat) (s : HCn), t + n = cv c → CnOk s → ∀ p, p < 4 → (play c gl n t s).1 p ≤ 599400
  | 0, t, s, _, h, p, hp => wealth_lt ok h (by omega)
  | n + 1, t, s, ht, h, p, hp => by
    have hcp : cp c t < 4 := ok.2.2.2.2.2.2.2 t (by omega)
    by_cases g : gl (cp c t) = 0
    · rw [play_hab g]
      exact play_b ok n (t + 1) _ (by omega) (vst_ok h hcp (fun k e => (hab_lt e).2)) p hp
    · rw [play_free g]
      dsimp only
      have hb := bestOf_is (fun r => gval (gl (cp c t)) r.1) (fun o => play c gl n (t + 1) (vst c s (cp c t) o)) (fun k => decide (0 < s (cp c t) k)) (cK c)
      rw [hb.1]
      exact play_b ok n (t + 1) _ (by omega) (vst_ok h hcp (fun k e => of_decide_eq_true (hb.2 k e).2)) p hp
theorem gval_b {m : Nat} {e : Nat → Nat} {b : Nat} (h : ∀ p, p < 4 → e p ≤ b) : gval m e ≤ 4 * b :=
  sm_bound (fun p hp => by
    by_cases w : m.testBit p = true
    · rw [if_pos w]; exact h p hp
    · rw [if_neg w]; exact Nat.zero_le _)
theorem gval_congr {m : Nat} {e e' : Nat → Nat} (h : ∀ p, p < 4 → m.testBit p = true → e p = e' p) : gval m e = gval m e' :=
  sm_congr (fun p hp => by
    by_cases w : m.testBit p = true
    · rw [if_pos w, if_pos w]; exact h p hp w
    · rw [if_neg w, if_neg w])
theorem gval_one {m i : Nat} {e e' : Nat → Nat} {x y : Nat} (hi : i < 4) (hm : m.testBit i = true) (h : e' i + x = e i + y) (h2 : ∀ p, p < 4 → p ≠ i → e' p = e p) : gval m e' + x = gval m e + y := by
  have a1 := sm_one (f := fun _ => x) hi
  have a2 := sm_one (f := fun _ => y) hi
  have b1 := sm_add (fun p => if m.testBit p then e' p else 0) (fun j => if j = i then x else 0) 4
  have b2 := sm_add (fun p => if m.testBit p then e p else 0) (fun j => if j = i then y else 0) 4
  unfold gval
  rw [a1] at b1
  rw [a2] at b2
  rw [← b1, ← b2]
  refine sm_congr (fun p hp => ?_)
  by_cases w : p = i
  · subst w
    rw [if_pos hm, if_pos rfl, if_pos hm, if_pos rfl]; exact h
  · rw [if_neg w, if_neg w]
    by_cases u : m.testBit p = true
    · rw [if_pos u, if_pos u, h2 p hp w]
    · rw [if_neg u, if_neg u]
/-- nothing behind one's last visit touches his goal -/
theorem last_val {c : HCf} {gl : Nat → Nat} {n t i : Nat} {s : HCn} (hg : GoalOk gl) (hi : i < 4) (h0 : gl i ≠ 0) (hl : ∀ j, j < n → cp c (t + j) < 4 ∧ gl (cp c (t + j)) ≠ gl i) : gval (gl i) (play c gl n t s).1 = gval (gl i) (fun p => wealth c s p) :=
  gval_congr (fun p hp hb => play_same hp n t s (fun j hj e => by
    have := hl j hj
    rw [e] at this
    exact this.2 ((hg i hi h0).2 p hp hb)))
theorem last_gain {c : HCf} {gl : Nat → Nat} {n t i k : Nat} {s : HCn} (hg : GoalOk gl) (hi : i < 4) (h0 : gl i ≠ 0) (hl : ∀ j, j < n → cp c (t + j) < 4 ∧ gl (cp c (t + j)) ≠ gl i) (hk : k < cK c) (hs : 0 < s i k) : ((gval (gl i) (play c gl n t (vst c s i (some k))).1 : Nat) : Int) = (gval (gl i) (play c gl n t (vst c s i none)).1 : Nat) + gainI c (s 4) k := by
  rw [last_val hg hi h0 hl, last_val hg hi h0 hl]
  have := gval_one (m := gl i) (e := fun p => wealth c s p) (e' := fun p => wealth c (vst c s i (some k)) p) hi (hg i hi h0).1 (wealth_thr hi hk hs) (fun p hp hne => wealth_off hp hne)
  unfold gainI
  show ((gval (gl i) (fun p => wealth c (vst c s i (some k)) p) : Nat) : Int) = (gval (gl i) (fun p => wealth c s p) : Nat) + _
  omega
theorem last_best {c : HCf} {gl : Nat → Nat} {n t i : Nat} {s : HCn} (hg : GoalOk gl) (hi : i < 4) (h0 : gl i ≠ 0) (hl : ∀ j, j < n → cp c (t + j) < 4 ∧ gl (cp c (t + j)) ≠ gl i) : bestOf (fun r => gval (gl i) r.1) (fun o => play c gl n t (vst c s i o)) (fun k => decide (0 < s i k)) (cK c) = (grd c s i, play c gl n t (vst c s i (grd c s i))) := by
  have key : ∀ K, K ≤ cK c → (bestOf (fun r => gval (gl i) r.1) (fun o => play c gl n t (vst c s i o)) (fun k => decide (0 < s i k)) K).1 = (scan true (gainI c (s 4)) (fun k => decide (0 < s i k)) 1 K).1 ∧ (scan true (gainI c (s 4)) (fun k => decide (0 < s i k)) 1 K).2 = ((gval (gl i) (play c gl n t (vst c s i (scan true (gainI c (s 4)) (fun k => decide (0 < s i k)) 1 K).1)).1 : Nat) : Int) - (gval (gl i) (play c gl n t (vst c s i none)).1 : Nat) + 1 := by
    intro K
    induction K with
    | zero =>
      intro _
      refine ⟨rfl, ?_⟩
      show (1 : Int) = _ - _ + 1
      show (1 : Int) = ((gval (gl i) (play c gl n t (vst c s i none)).1 : Nat) : Int) - _ + 1
      omega
    | succ K ih =>
      intro hK
      obtain ⟨e1, e2⟩ := ih (by omega)
      have hb := bestOf_is (fun r => gval (gl i) r.1) (fun o => play c gl n t (vst c s i o)) (fun k => decide (0 < s i k)) K
      unfold bestOf scan
      rw [hb.1, e1]
      by_cases hs : decide (0 < s i K) = true
      · have lg := last_gain hg hi h0 hl (show K < cK c by omega) (of_decide_eq_true hs)
        by_cases hc : (scan true (gainI c (s 4)) (fun k => decide (0 < s i k)) 1 K).2 ≤ gainI c (s 4) K
        · rw [if_pos ⟨hs, by omega⟩, if_pos ⟨hs, hc, Or.inl rfl⟩]
          refine ⟨rfl, ?_⟩
          dsimp only
          omega
        · rw [if_neg (fun z => hc (by have := z.2; omega)), if_neg (fun z => hc z.2.1)]
          exact ⟨e1, e2⟩
      · rw [if_neg (fun z => hs z.1), if_neg (fun z => hs z.1)]
        exact ⟨e1, e2⟩
  have h1 := (key (cK c) (Nat.le_refl _)).1
  have h2 := (bestOf_is (fun r => gval (gl i) r.1) (fun o => play c gl n t (vst c s i o)) (fun k => decide (0 < s i k)) (cK c)).1
  rw [h1] at h2
  exact Prod.ext h1 h2
/-- the goals that are ever set -/
def goalsL : List Int32 := [1, 32, 1024, 32768, 33825, 51, 1285, 36873, 1632, 41120, 52224]
theorem goals_ok : ∀ g, g ∈ goalsL → ∀ p, p < 4 → glOf g p < 16 ∧ fGoal g (nI p) = nI (glOf g p) ∧ (glOf g p ≠ 0 → (glOf g p).testBit p = true ∧ ∀ q, q < 4 → (glOf g p).testBit q = true → glOf g q = glOf g p) := by decide +kernel
theorem goals_GoalOk {g : Int32} (h : g ∈ goalsL) : GoalOk (glOf g) := fun p hp hn => (goals_ok g h p hp).2.2 hn
theorem goal_bit : ∀ m, m < 16 → ∀ p, p < 4 → (nI m >>> (nI p &&& 31)) &&& 1 = if m.testBit p then 1 else 0 := by decide +kernel
