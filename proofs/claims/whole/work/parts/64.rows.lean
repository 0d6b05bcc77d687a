/-! rows of figures of seven, and what they come to -/
def frN (c : HCf) (m : Nat) : Nat → Nat → Nat
  | 0, _ => 0
  | n + 1, t => (if m.testBit (cp c t) = true then 1 else 0) + frN c m n (t + 1)
def goR (c : HCf) (m : Nat) : Nat → Nat → HCn → Nat → Nat → Int
  | 0, _, s, _, _ => (gval m (fun p => wealth c s p) : Nat)
  | n + 1, t, s, u, v =>
    if m.testBit (cp c t) = true then
      (if v / (u / 7) % 7 = 0 then goR c m n (t + 1) s (u / 7) v
       else if cK c ≤ v / (u / 7) % 7 - 1 ∨ s (cp c t) (v / (u / 7) % 7 - 1) = 0 then -1
       else goR c m n (t + 1) (thr c s (cp c t) (v / (u / 7) % 7 - 1)) (u / 7) v)
    else goR c m n (t + 1) (vst c s (cp c t) (hab c s (cp c t))) u v
theorem p7 (n : Nat) : 0 < 7 ^ n := Nat.pow_pos (by decide)
theorem goR_mod (c : HCf) (m : Nat) : ∀ (n t : Nat) (s : HCn) (a v : Nat), goR c m n t s (7 ^ frN c m n t) (a * 7 ^ frN c m n t + v) = goR c m n t s (7 ^ frN c m n t) v
  | 0, _, _, _, _ => rfl
  | n + 1, t, s, a, v => by
    unfold goR frN
    by_cases h : m.testBit (cp c t) = true
    · rw [if_pos h, if_pos h, if_pos h]
      generalize hF : frN c m n (t + 1) = F
      have hu : 7 ^ (1 + F) / 7 = 7 ^ F := by rw [Nat.add_comm, Nat.pow_succ]; exact Nat.mul_div_cancel _ (by decide)
      have ha : a * 7 ^ (1 + F) + v = (a * 7) * 7 ^ F + v := by rw [Nat.add_comm 1 F, Nat.pow_succ, Nat.mul_assoc, Nat.mul_comm 7 (7 ^ F)]
      have hd : ((a * 7) * 7 ^ F + v) / 7 ^ F % 7 = v / 7 ^ F % 7 := by
        rw [Nat.add_comm, Nat.add_mul_div_right _ _ (p7 F), Nat.add_mul_mod_self_right]
      have ih := fun s => goR_mod c m n (t + 1) s (a * 7) v
      rw [hF] at ih
      rw [hu, ha, hd, ih, ih]
    · rw [if_neg h, if_neg h, if_neg h, Nat.zero_add]
      exact goR_mod c m n (t + 1) _ a v
def dg (o : Option Nat) : Nat := match o with
  | none => 0
  | some k => k + 1
def enc : List (Option Nat) → Nat
  | [] => 0
  | o :: l => dg o * 7 ^ l.length + enc l
theorem enc_lt : ∀ {l : List (Option Nat)}, (∀ o, o ∈ l → dg o < 7) → enc l < 7 ^ l.length
  | [], _ => Nat.one_pos
  | o :: l, h => by
    have h1 := h o List.mem_cons_self
    have h2 := enc_lt (l := l) (fun o ho => h o (List.mem_cons_of_mem _ ho))
    show dg o * 7 ^ l.length + enc l < 7 ^ (l.length + 1)
    rw [Nat.pow_succ]
    have : dg o * 7 ^ l.length ≤ 6 * 7 ^ l.length := Nat.mul_le_mul_right _ (by omega)
    omega
theorem enc_dig : ∀ {l : List (Option Nat)}, (∀ o, o ∈ l → dg o < 7) → ∀ i, i < l.length → enc l / 7 ^ (l.length - 1 - i) % 7 = dg (l.getD i none)
  | [], _, i, hi => absurd hi (Nat.not_lt_zero _)
  | o :: l, h, i, hi => by
    have h1 := h o List.mem_cons_self
    have h2 := enc_lt (l := l) (fun o ho => h o (List.mem_cons_of_mem _ ho))
    have ih := enc_dig (l := l) (fun o ho => h o (List.mem_cons_of_mem _ ho))
    show (dg o * 7 ^ l.length + enc l) / 7 ^ (l.length + 1 - 1 - i) % 7 = _
    cases i with
    | zero =>
      rw [show l.length + 1 - 1 - 0 = l.length by omega, Nat.add_comm, Nat.add_mul_div_right _ _ (p7 _), Nat.div_eq_of_lt h2, Nat.zero_add]
      exact Nat.mod_eq_of_lt h1
    | succ i =>
      have hi' : i < l.length := by rw [List.length_cons] at hi; omega
      have e : l.length = (l.length - 1 - i) + (i + 1) := by omega
      have e2 : dg o * 7 ^ l.length = (dg o * 7 ^ i) * 7 * 7 ^ (l.length - 1 - i) := by
        conv => lhs; rw [e, Nat.pow_add, Nat.pow_succ]
        rw [Nat.mul_comm (7 ^ (l.length - 1 - i)), ← Nat.mul_assoc, ← Nat.mul_assoc]
      rw [show l.length + 1 - 1 - (i + 1) = l.length - 1 - i by omega, e2, Nat.add_comm, Nat.add_mul_div_right _ _ (p7 _), Nat.add_mul_mod_self_right]
      exact ih i hi'
/-- the goals of a plan, a league: one set, wanted by all in it -/
def PlanG (g : Int32) (m : Nat) : Prop := g ∈ goalsL ∧ m < 16 ∧ m ≠ 0 ∧ ∀ p, p < 4 → glOf g p = if m.testBit p = true then m else 0
theorem planG_1 : ∀ a, a < 4 → PlanG ((((1 : Int32) <<< (nI a &&& 31))) <<< ((4 * nI a) &&& 31)) (2 ^ a) ∧ (1 : Int32) <<< (nI a &&& 31) = nI (2 ^ a) := by unfold PlanG; decide +kernel
theorem planG_2' : ∀ a, a < 4 → ∀ b, b < 4 → a = b ∨ PlanG ((((1 : Int32) <<< (nI a &&& 31)) ||| ((1 : Int32) <<< (nI b &&& 31))) <<< ((4 * nI a) &&& 31) ||| (((1 : Int32) <<< (nI a &&& 31)) ||| ((1 : Int32) <<< (nI b &&& 31))) <<< ((4 * nI b) &&& 31)) (2 ^ a + 2 ^ b) ∧ ((1 : Int32) <<< (nI a &&& 31)) ||| ((1 : Int32) <<< (nI b &&& 31)) = nI (2 ^ a + 2 ^ b) := by unfold PlanG; decide +kernel
theorem planG_2 {a b : Nat} (ha : a < 4) (hb : b < 4) (h : a ≠ b) : PlanG ((((1 : Int32) <<< (nI a &&& 31)) ||| ((1 : Int32) <<< (nI b &&& 31))) <<< ((4 * nI a) &&& 31) ||| (((1 : Int32) <<< (nI a &&& 31)) ||| ((1 : Int32) <<< (nI b &&& 31))) <<< ((4 * nI b) &&& 31)) (2 ^ a + 2 ^ b) ∧ ((1 : Int32) <<< (nI a &&& 31)) ||| ((1 : Int32) <<< (nI b &&& 31)) = nI (2 ^ a + 2 ^ b) := (planG_2' a ha b hb).resolve_left h
theorem play_ok {c : HCf} {gl : Nat → Nat} : ∀ (n t : Nat) (s : HCn) (o : Option Nat), o ∈ (play c gl n t s).2 → ∀ k, o = some k → k < cK c
  | 0, _, _, o, h, _, _ => by cases h
  | n + 1, t, s, o, h, k, e => by
    by_cases g : gl (cp c t) = 0
    · rw [play_hab g] at h
      exact play_ok n (t + 1) _ o h k e
    · rw [play_free g] at h
      have hb := bestOf_is (fun r => gval (gl (cp c t)) r.1) (fun o => play c gl n (t + 1) (vst c s (cp c t) o)) (fun k => decide (0 < s (cp c t) k)) (cK c)
      rcases List.mem_cons.mp h with h | h
      · exact (hb.2 k (by rw [← h, e])).1
      · rw [hb.1] at h
        exact play_ok n (t + 1) _ o h k e
theorem play_frN {c : HCf} {g : Int32} {m : Nat} (hg : PlanG g m) : ∀ (n t : Nat) (s : HCn), (∀ j, j < n → cp c (t + j) < 4) → (play c (glOf g) n t s).2.length = frN c m n t
  | 0, _, _, _ => rfl
  | n + 1, t, s, h => by
    have h0 := h 0 (by omega)
    rw [Nat.add_zero] at h0
    have hs : ∀ j, j < n → cp c (t + 1 + j) < 4 := fun j hj => by
      have := h (j + 1) (by omega)
      rw [show t + (j + 1) = t + 1 + j by omega] at this; exact this
    have e := hg.2.2.2 (cp c t) h0
    unfold frN
    by_cases b : m.testBit (cp c t) = true
    · rw [if_pos b] at e
      rw [if_pos b, play_free (by rw [e]; exact hg.2.2.1)]
      show List.length (_ :: _) = _
      rw [List.length_cons, (bestOf_is _ _ _ _).1, play_frN hg n (t + 1) _ hs, Nat.add_comm]
    · rw [if_neg b] at e
      rw [if_neg b, play_hab e, play_frN hg n (t + 1) _ hs, Nat.zero_add]
theorem plan_mx {c : HCf} {g : Int32} {m : Nat} (hK : cK c ≤ 6) (hg : PlanG g m) : ∀ (n t : Nat) (s : HCn), (∀ j, j < n → cp c (t + j) < 4) → mx (goR c m n t s (7 ^ frN c m n t)) (7 ^ frN c m n t) = (((gval m (play c (glOf g) n t s).1 : Nat) : Int), enc (play c (glOf g) n t s).2)
  | 0, t, s, _ => by
    show (if (-1 : Int) < (gval m (fun p => wealth c s p) : Nat) then (((gval m (fun p => wealth c s p) : Nat) : Int), 0) else ((-1 : Int), 0)) = _
    rw [if_pos (by omega)]; rfl
  | n + 1, t, s, h => by
    have h0 := h 0 (by omega)
    rw [Nat.add_zero] at h0
    have hs : ∀ j, j < n → cp c (t + 1 + j) < 4 := fun j hj => by
      have := h (j + 1) (by omega)
      rw [show t + (j + 1) = t + 1 + j by omega] at this; exact this
    have e := hg.2.2.2 (cp c t) h0
    have ih := fun s => plan_mx hK hg n (t + 1) s hs
    by_cases b : m.testBit (cp c t) = true
    · rw [if_pos b] at e
      have hpf := play_free (c := c) (gl := glOf g) (n := n) (t := t) (s := s) (by rw [e]; exact hg.2.2.1)
      rw [hpf, e]
      have hfr : frN c m (n + 1) t = frN c m n (t + 1) + 1 := by
        show (if m.testBit (cp c t) = true then 1 else 0) + _ = _
        rw [if_pos b, Nat.add_comm]
      rw [hfr]
      have hlen : ∀ o, (play c (glOf g) n (t + 1) (vst c s (cp c t) o)).2.length = frN c m n (t + 1) := fun o => play_frN hg n (t + 1) _ hs
      have hmod := fun s => goR_mod c m n (t + 1) s
      generalize hF : frN c m n (t + 1) = F at *
      generalize hw : cp c t = w at *
      have hu : 7 ^ (F + 1) / 7 = 7 ^ F := by rw [Nat.pow_succ]; exact Nat.mul_div_cancel _ (by decide)
      -- a block of rows
      have hdig : ∀ d r, d < 7 → r < 7 ^ F → (d * 7 ^ F + r) / (7 ^ (F + 1) / 7) % 7 = d := fun d r hd hr => by
        rw [hu, Nat.add_comm, Nat.add_mul_div_right _ _ (p7 F), Nat.div_eq_of_lt hr, Nat.zero_add]; exact Nat.mod_eq_of_lt hd
      have hval : ∀ d r, d < 7 → r < 7 ^ F → goR c m (n + 1) t s (7 ^ (F + 1)) (d * 7 ^ F + r) = if d = 0 then goR c m n (t + 1) s (7 ^ F) r else if cK c ≤ d - 1 ∨ s w (d - 1) = 0 then -1 else goR c m n (t + 1) (thr c s w (d - 1)) (7 ^ F) r := fun d r hd hr => by
        conv => lhs; unfold goR
        rw [hw, if_pos b, hdig d r hd hr, hu, hmod, hmod]
      have blk : ∀ d, d < 7 → mx (fun i => goR c m (n + 1) t s (7 ^ (F + 1)) (d * 7 ^ F + i)) (7 ^ F) = if d = 0 then (((gval m (play c (glOf g) n (t + 1) (vst c s w none)).1 : Nat) : Int), enc (play c (glOf g) n (t + 1) (vst c s w none)).2) else if cK c ≤ d - 1 ∨ s w (d - 1) = 0 then (-1, 0) else (((gval m (play c (glOf g) n (t + 1) (vst c s w (some (d - 1)))).1 : Nat) : Int), enc (play c (glOf g) n (t + 1) (vst c s w (some (d - 1)))).2) := fun d hd => by
        rw [mx_congr (g' := fun r => if d = 0 then goR c m n (t + 1) s (7 ^ F) r else if cK c ≤ d - 1 ∨ s w (d - 1) = 0 then -1 else goR c m n (t + 1) (thr c s w (d - 1)) (7 ^ F) r) (fun r hr => hval d r hd hr)]
        by_cases d0 : d = 0
        · simp only [d0, if_true]
          exact ih s
        · by_cases inv : cK c ≤ d - 1 ∨ s w (d - 1) = 0
          · simp only [d0, inv, if_true, if_false]
            exact mx_neg (fun _ _ => rfl)
          · simp only [d0, inv, if_false]
            exact ih (thr c s w (d - 1))
      have hz : ∀ d, d * 7 ^ F + 7 ^ F = (d + 1) * 7 ^ F := fun d => (Nat.succ_mul _ _).symm
      have kinds : ∀ k, k ≤ cK c → mx (goR c m (n + 1) t s (7 ^ (F + 1))) ((k + 1) * 7 ^ F) = (((gval m (bestOf (fun r => gval m r.1) (fun o => play c (glOf g) n (t + 1) (vst c s w o)) (fun k => decide (0 < s w k)) k).2.1 : Nat) : Int), dg (bestOf (fun r => gval m r.1) (fun o => play c (glOf g) n (t + 1) (vst c s w o)) (fun k => decide (0 < s w k)) k).1 * 7 ^ F + enc (bestOf (fun r => gval m r.1) (fun o => play c (glOf g) n (t + 1) (vst c s w o)) (fun k => decide (0 < s w k)) k).2.2) := by
        intro k
        induction k with
        | zero =>
          intro _
          have b0 := blk 0 (by decide)
          rw [if_pos rfl] at b0
          rw [Nat.zero_add, Nat.one_mul]
          have : mx (goR c m (n + 1) t s (7 ^ (F + 1))) (7 ^ F) = mx (fun i => goR c m (n + 1) t s (7 ^ (F + 1)) (0 * 7 ^ F + i)) (7 ^ F) := mx_congr (fun i _ => by rw [Nat.zero_mul, Nat.zero_add])
          rw [this, b0]
          show _ = (((gval m (play c (glOf g) n (t + 1) (vst c s w none)).1 : Nat) : Int), 0 * 7 ^ F + enc (play c (glOf g) n (t + 1) (vst c s w none)).2)
          rw [Nat.zero_mul, Nat.zero_add]
        | succ k ihk =>
          intro hk
          have bk := blk (k + 1) (by omega)
          rw [if_neg (by omega), show k + 1 - 1 = k by omega] at bk
          rw [← hz (k + 1), mx_add, ihk (by omega), bk]
          by_cases hs0 : s w k = 0
          · rw [if_pos (Or.inr hs0)]
            have e1 : bestOf (fun r => gval m r.1) (fun o => play c (glOf g) n (t + 1) (vst c s w o)) (fun k => decide (0 < s w k)) (k + 1) = bestOf (fun r => gval m r.1) (fun o => play c (glOf g) n (t + 1) (vst c s w o)) (fun k => decide (0 < s w k)) k := by
              show (if _ then _ else _) = _
              rw [if_neg (fun z => by have := of_decide_eq_true z.1; omega)]
            rw [e1, if_neg (by dsimp only; omega)]
          · rw [if_neg (show ¬ (cK c ≤ k ∨ s w k = 0) from fun z => by rcases z with z | z <;> omega)]
            by_cases hb : gval m (bestOf (fun r => gval m r.1) (fun o => play c (glOf g) n (t + 1) (vst c s w o)) (fun k => decide (0 < s w k)) k).2.1 < gval m (play c (glOf g) n (t + 1) (vst c s w (some k))).1
            · have e1 : bestOf (fun r => gval m r.1) (fun o => play c (glOf g) n (t + 1) (vst c s w o)) (fun k => decide (0 < s w k)) (k + 1) = (some k, play c (glOf g) n (t + 1) (vst c s w (some k))) := by
                show (if _ then _ else _) = _
                rw [if_pos ⟨decide_eq_true (show 0 < s w k by omega), hb⟩]
              rw [e1, if_pos (by dsimp only; omega)]
              rfl
            · have e1 : bestOf (fun r => gval m r.1) (fun o => play c (glOf g) n (t + 1) (vst c s w o)) (fun k => decide (0 < s w k)) (k + 1) = bestOf (fun r => gval m r.1) (fun o => play c (glOf g) n (t + 1) (vst c s w o)) (fun k => decide (0 < s w k)) k := by
                show (if _ then _ else _) = _
                rw [if_neg (fun z => hb z.2)]
              rw [e1, if_neg (by dsimp only; omega)]
      have rest : ∀ j, cK c + 1 + j ≤ 7 → mx (goR c m (n + 1) t s (7 ^ (F + 1))) ((cK c + 1 + j) * 7 ^ F) = mx (goR c m (n + 1) t s (7 ^ (F + 1))) ((cK c + 1) * 7 ^ F) := by
        intro j
        induction j with
        | zero => intro _; rfl
        | succ j ihj =>
          intro hj
          have bk := blk (cK c + 1 + j) (by omega)
          rw [if_neg (by omega), if_pos (Or.inl (by omega))] at bk
          have m1 := mx_m1 (goR c m (n + 1) t s (7 ^ (F + 1))) ((cK c + 1 + j) * 7 ^ F)
          rw [← Nat.add_assoc, ← hz, mx_add, bk, if_neg (by dsimp only; omega), ihj (by omega)]
      have last := rest (6 - cK c) (by omega)
      rw [show cK c + 1 + (6 - cK c) = 7 by omega, kinds (cK c) (Nat.le_refl _)] at last
      rw [show 7 ^ (F + 1) = 7 * 7 ^ F by rw [Nat.pow_succ, Nat.mul_comm]]
      rw [show (7 : Nat) * 7 ^ F = 7 ^ (F + 1) by rw [Nat.pow_succ, Nat.mul_comm]] at last ⊢
      rw [last]
      have hl2 : (bestOf (fun r => gval m r.1) (fun o => play c (glOf g) n (t + 1) (vst c s w o)) (fun k => decide (0 < s w k)) (cK c)).2.2.length = F := by
        rw [(bestOf_is _ _ _ _).1]; exact hlen _
      show _ = (_, dg _ * 7 ^ List.length _ + enc _)
      rw [hl2]
    · rw [if_neg b] at e
      have hfr : frN c m (n + 1) t = frN c m n (t + 1) := by
        show (if m.testBit (cp c t) = true then 1 else 0) + _ = _
        rw [if_neg b, Nat.zero_add]
      rw [hfr, play_hab e, ← ih]
      refine mx_congr (fun i _ => ?_)
      conv => lhs; unfold goR
      rw [if_neg b]
