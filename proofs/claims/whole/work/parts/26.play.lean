/-! several who each want most, from the last one back: the plain meaning -/
/-- worth of the purses of a set of people (bits) -/
def gval (m : Nat) (ends : Nat → Nat) : Nat := sm (fun p => if m.testBit p then ends p else 0) 4
/-- tried: nothing, then the kinds that one has; the first of the best -/
def bestOf {α : Type} (v : α → Nat) (f : Option Nat → α) (has : Nat → Bool) : Nat → Option Nat × α
  | 0 => (none, f none)
  | n + 1 => if has n = true ∧ v (bestOf v f has n).2 < v (f (some n)) then (some n, f (some n)) else bestOf v f has n
def play (c : HCf) (gl : Nat → Nat) : Nat → Nat → HCn → (Nat → Nat) × List (Option Nat)
  | 0, _, s => (fun p => wealth c s p, [])
  | n + 1, t, s =>
    if gl (cp c t) = 0 then play c gl n (t + 1) (vst c s (cp c t) (hab c s (cp c t)))
    else
      ((bestOf (fun r => gval (gl (cp c t)) r.1) (fun o => play c gl n (t + 1) (vst c s (cp c t) o)) (fun k => decide (0 < s (cp c t) k)) (cK c)).2.1,
       (bestOf (fun r => gval (gl (cp c t)) r.1) (fun o => play c gl n (t + 1) (vst c s (cp c t) o)) (fun k => decide (0 < s (cp c t) k)) (cK c)).1 ::
       (bestOf (fun r => gval (gl (cp c t)) r.1) (fun o => play c gl n (t + 1) (vst c s (cp c t) o)) (fun k => decide (0 < s (cp c t) k)) (cK c)).2.2)
/-- goals as the machine has them: four bits a person -/
def glOf (g : Int32) (p : Nat) : Nat := (fGoal g (nI p)).toNatClampNeg
theorem bestOf_is {α : Type} (v : α → Nat) (f : Option Nat → α) (has : Nat → Bool) : ∀ n, (bestOf v f has n).2 = f (bestOf v f has n).1 ∧ ∀ k, (bestOf v f has n).1 = some k → k < n ∧ has k = true
  | 0 => ⟨rfl, fun k h => by cases h⟩
  | n + 1 => by
    have ih := bestOf_is v f has n
    unfold bestOf
    split
    · rename_i q
      exact ⟨rfl, fun k h => by cases h; exact ⟨Nat.lt_succ_self _, q.1⟩⟩
    · exact ⟨ih.1, fun k h => ⟨Nat.lt_succ_of_lt (ih.2 k h).1, (ih.2 k h).2⟩⟩
theorem play_len {c : HCf} {gl : Nat → Nat} : ∀ (n t : Nat) (s : HCn), (play c gl n t s).2.length = sm (fun j => if gl (cp c (t + j)) = 0 then 0 else 1) n
  | 0, _, _ => rfl
  | n + 1, t, s => by
    have hs : ∀ (f : Nat → Nat), sm f (n + 1) = f 0 + sm (fun j => f (j + 1)) n := by
      intro f
      induction n with
      | zero => show 0 + f 0 = f 0 + 0; omega
      | succ m ih => show sm f (m + 1) + f (m + 1) = f 0 + (sm (fun j => f (j + 1)) m + f (m + 1)); rw [ih]; omega
    rw [hs]
    have e : (fun j => if gl (cp c (t + (j + 1))) = 0 then 0 else 1) = fun j => if gl (cp c (t + 1 + j)) = 0 then 0 else 1 := by
      funext j; rw [show t + (j + 1) = t + 1 + j by omega]
    rw [e]
    unfold play
    by_cases h : gl (cp c t) = 0
    · rw [if_pos h, play_len n (t + 1)]
      rw [if_pos (show gl (cp c (t + 0)) = 0 from h)]; omega
    · rw [if_neg h, if_neg (show ¬ gl (cp c (t + 0)) = 0 from h)]
      show List.length (_ :: _) = _
      rw [List.length_cons, (bestOf_is _ _ _ _).1, play_len n (t + 1)]; omega
