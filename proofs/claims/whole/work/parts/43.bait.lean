/-! bait -/
/-- a coin more in the fountain: of kind a - 1; 0 none -/
def ad (s : HCn) (a : Nat) : HCn := fun o j => s o j + if o = 4 ∧ j + 1 = a then 1 else 0
theorem ad_comm (s : HCn) (a b : Nat) : ad (ad s a) b = ad (ad s b) a := by
  funext o j; unfold ad; omega
theorem ad_0 (s : HCn) : ad s 0 = s := by
  funext o j; unfold ad; rw [if_neg (by omega)]; rfl
def kd (a : Nat) : Int32 := if a = 0 then -1 else nI (a - 1)
def wt (c : HCf) (a : Nat) : Nat := if a = 0 then 0 else cw c (a - 1)
theorem fAdd_out (f : Nat → Int32) (o z : Int32) : fAdd f o (-1) z = f := by
  unfold fAdd; rw [if_neg (fun h => absurd h.2.2.1 (by decide))]
theorem kd_add {f : Nat → Int32} {s : HCn} {a : Nat} (h : LotC f s) (ha : a ≤ 6) : LotC (fAdd f 4 (kd a) 1) (ad s a) := by
  by_cases e : a = 0
  · subst e
    rw [ad_0, show kd 0 = -1 from rfl, fAdd_out]; exact h
  · unfold kd
    rw [if_neg e, show (4 : Int32) = nI 4 from rfl, fAdd_n _ (by omega) (by omega)]
    intro o ho j hj
    unfold ad
    by_cases w : o = 4 ∧ j + 1 = a
    · obtain ⟨rfl, rfl⟩ := w
      rw [if_pos ⟨rfl, rfl⟩, upd_at _ (by omega), show 6 * 4 + (j + 1 - 1) = 6 * 4 + j by omega, h 4 (by omega) j hj, nI_1]
    · rw [if_neg w, upd_off _ (by omega)]; exact h o ho j hj
theorem kd_sub {f : Nat → Int32} {s : HCn} {a : Nat} (h : LotC f (ad s a)) (ha : a ≤ 6) : LotC (fAdd f 4 (kd a) (-1)) s := by
  by_cases e : a = 0
  · subst e
    rw [ad_0] at h
    rw [show kd 0 = -1 from rfl, fAdd_out]; exact h
  · unfold kd
    rw [if_neg e, show (4 : Int32) = nI 4 from rfl, fAdd_n _ (by omega) (by omega)]
    intro o ho j hj
    by_cases w : o = 4 ∧ j + 1 = a
    · obtain ⟨rfl, rfl⟩ := w
      have := h 4 (by omega) j hj
      unfold ad at this
      rw [if_pos ⟨rfl, rfl⟩] at this
      rw [upd_at _ (by omega), show 6 * 4 + (j + 1 - 1) = 6 * 4 + j by omega, this, ← nI_1, show (-1 : Int32) = -(1 : Int32) from rfl, ← Int32.sub_eq_add_neg, Int32.add_sub_cancel]
    · rw [upd_off _ (by omega)]
      have := h o ho j hj
      unfold ad at this
      rw [if_neg w] at this
      exact this
theorem ad_l2 {s : HCn} {a b e : Nat} (h : CnOk s) : Lot2 (ad (ad (ad s a) b) e) := fun o ho k hk => by
  have := h.le ho hk
  unfold ad
  split <;> split <;> split <;> omega
/-- the least of a set of costs -/
def IsL (b : Option Nat) (S : Nat → Prop) : Prop := (∀ x, b = some x → S x ∧ ∀ y, S y → x ≤ y) ∧ (b = none → ∀ y, ¬ S y)
theorem IsL.uniq {b b' : Option Nat} {S S' : Nat → Prop} (h : IsL b S) (h' : IsL b' S') (e : ∀ x, S x ↔ S' x) : b = b' := by
  cases b with
  | none =>
    cases b' with
    | none => rfl
    | some y => exact absurd ((e y).mpr (h'.1 y rfl).1) (h.2 rfl y)
  | some x =>
    cases b' with
    | none => exact absurd ((e x).mp (h.1 x rfl).1) (h'.2 rfl x)
    | some y =>
      have a1 := (h.1 x rfl).2 y ((e y).mpr (h'.1 y rfl).1)
      have a2 := (h'.1 y rfl).2 x ((e x).mp (h.1 x rfl).1)
      rw [show x = y by omega]
theorem IsL.skip {b : Option Nat} {S S' : Nat → Prop} (h : IsL b S) (e : ∀ x, S' x → S x ∨ ∃ y, b = some y ∧ y ≤ x) (e2 : ∀ x, S x → S' x) : IsL b S' := by
  refine ⟨fun x hx => ⟨e2 x (h.1 x hx).1, fun y hy => ?_⟩, fun hb y hy => ?_⟩
  · rcases e y hy with w | ⟨z, w1, w2⟩
    · exact (h.1 x hx).2 y w
    · rw [hx] at w1; cases w1; exact w2
  · rcases e y hy with w | ⟨z, w1, -⟩
    · exact h.2 hb y w
    · rw [hb] at w1; cases w1
theorem IsL.take {b : Option Nat} {S S' : Nat → Prop} {z : Nat} (h : IsL b S) (hz : b = none ∨ ∃ y, b = some y ∧ z < y) (e : ∀ x, S' x → S x ∨ x = z) (e1 : S' z) : IsL (some z) S' := by
  refine ⟨fun x hx => ?_, fun hb => by cases hb⟩
  cases hx
  refine ⟨e1, fun y hy => ?_⟩
  rcases e y hy with w | w
  · rcases hz with hb | ⟨y', hb, hl⟩
    · exact absurd w (h.2 hb y)
    · have := (h.1 y' hb).2 y w; omega
  · omega
/-- three coins tempt, and what they are worth -/
def tmp (c : HCf) (s : HCn) (p a b e : Nat) : Prop := hab c (ad (ad (ad s a) b) e) p ≠ none
def cost (c : HCf) (a b e : Nat) : Nat := wt c a + wt c b + wt c e
theorem cost_le {c : HCf} (ok : CfOk c) {a b e : Nat} (ha : a ≤ cK c) (hb : b ≤ cK c) (he : e ≤ cK c) : cost c a b e ≤ 2997 := by
  have : ∀ a, a ≤ cK c → wt c a ≤ 999 := fun a ha => by
    unfold wt; split
    · omega
    · exact ok.2.2.1 _ (by omega)
  have h1 := this a ha; have h2 := this b hb; have h3 := this e he
  unfold cost; omega
section BAIT
variable {E : HEn} {d : Nat} {Q : Option Value → HIh → Prop} {I : HIh}
theorem c_tempts {c : HCf} {s : HCn} {p a b e : Nat} (hc : CC I c) (hs : CnOk s) (hl : LotC (I 35) s) (hp : p < 4) (ha : a ≤ 6) (hb : b ≤ 6) (he : e ≤ 6) (q1 : tmp c s p a b e → ∀ f, LotC f s → Q (some (.int 1)) (setI I 35 f)) (q0 : ¬ tmp c s p a b e → ∀ f, LotC f s → Q (some (.int 0)) (setI I 35 f)) : HCall E me_X2_tempts (d + 4) [.ref 32, .int (nI p), .int (kd a), .int (kd b), .int (kd e)] I Q := by
  have l3 : LotC (fAdd (fAdd (fAdd (I 35) 4 (kd a) 1) 4 (kd b) 1) 4 (kd e) 1) (ad (ad (ad s a) b) e) := kd_add (kd_add (kd_add hl ha) hb) he
  generalize hF : fAdd (fAdd (fAdd (I 35) 4 (kd a) 1) 4 (kd b) 1) 4 (kd e) 1 = F at l3
  have hcJ : CC (setI I 35 F) c := hc.of ⟨rfl, rfl, rfl, rfl, rfl⟩
  have l2 := ad_l2 (a := a) (b := b) (e := e) hs
  have bk : LotC (fAdd (fAdd (fAdd F 4 (kd a) (-1)) 4 (kd b) (-1)) 4 (kd e) (-1)) s := by
    rw [show ad (ad (ad s a) b) e = ad (ad (ad s e) b) a from by rw [ad_comm s a b, ad_comm (ad s b) a e, ad_comm s b e]] at l3
    exact kd_sub (kd_sub (kd_sub l3 ha) hb) he
  have ff := fFolk_n hc hp
  have h3 := hc.2.2.2.2.2.2.2.2.2.2.2.1 p hp
  have hor : ∀ k, hab c (ad (ad (ad s a) b) e) p = some k → k < 2 ^ 31 := fun k w => by have := (hab_lt w).1; have := hc.2.2.2.2.2.2.2.2.1; omega
  have fin : ∀ r : Int32, (r = -1 ↔ hab c (ad (ad (ad s a) b) e) p = none) → (r = -1 → Q (some (.int 0)) (setI (setI I 35 F) 35 (fAdd (fAdd (fAdd F 4 (kd a) (-1)) 4 (kd b) (-1)) 4 (kd e) (-1)))) ∧ (¬ r = -1 → Q (some (.int 1)) (setI (setI I 35 F) 35 (fAdd (fAdd (fAdd F 4 (kd a) (-1)) 4 (kd b) (-1)) 4 (kd e) (-1)))) := fun r hr => by
    rw [setI_setI]
    exact ⟨fun w => q0 (fun z => z (hr.mp w)) _ bk, fun w => q1 (fun z => w (hr.mpr z)) _ bk⟩
  have none_m1 : (-1 : Int32) = -1 ↔ (none : Option Nat) = none := ⟨fun _ => rfl, fun _ => rfl⟩
  rcases (show ch c p = 0 ∨ ch c p = 1 ∨ ch c p = 2 ∨ ch c p = 3 by omega) with ee | ee | ee | ee
  · have ff : fFolk (I 7) (nI p) = 2 := by rw [ff, ee]; rfl
    refine h_met (by decide) rfl (Nat.le_of_ble_eq_true rfl) (sg_X2_tempts_N_0 ?_)
    rw [setI_setI, setI_setI, hF]
    refine c_X9_folkOf ?_
    rw [show fFolk ((setI I 35 F) 7) (nI p) = 2 from ff]
    refine sg_X2_tempts_N_17 ?_
    exact c_X5_wouldThrow (h := 34) (by decide) (by decide) (sg_X2_tempts_N_31 (fun w => by rw [setI_setI, setI_setI]; exact (fin _ (by unfold hab; rw [if_pos ee]; exact none_m1)).1 w) (fun w => by rw [setI_setI, setI_setI]; exact (fin _ (by unfold hab; rw [if_pos ee]; exact none_m1)).2 w))
  · have ff : fFolk (I 7) (nI p) = 3 := by rw [ff, ee]; rfl
    refine h_met (by decide) rfl (Nat.le_of_ble_eq_true rfl) (sg_X2_tempts_G_0 ?_)
    rw [setI_setI, setI_setI, hF]
    refine c_X9_folkOf ?_
    rw [show fFolk ((setI I 35 F) 7) (nI p) = 3 from ff]
    refine sg_X2_tempts_G_17 ?_
    exact c_would_G (h := 34) hcJ (by decide) l3 l2 hp (sg_X2_tempts_G_31 (fun w => by rw [setI_setI, setI_setI]; exact (fin _ (by rw [← hab_G ee]; exact oI_none hor)).1 w) (fun w => by rw [setI_setI, setI_setI]; exact (fin _ (by rw [← hab_G ee]; exact oI_none hor)).2 w))
  · have ff : fFolk (I 7) (nI p) = 4 := by rw [ff, ee]; rfl
    refine h_met (by decide) rfl (Nat.le_of_ble_eq_true rfl) (sg_X2_tempts_W_0 ?_)
    rw [setI_setI, setI_setI, hF]
    refine c_X9_folkOf ?_
    rw [show fFolk ((setI I 35 F) 7) (nI p) = 4 from ff]
    refine sg_X2_tempts_W_17 ?_
    exact c_would_W (h := 34) hcJ (by decide) l3 l2 hp ee (sg_X2_tempts_W_31 (fun w => by rw [setI_setI, setI_setI]; exact (fin _ (oI_none hor)).1 w) (fun w => by rw [setI_setI, setI_setI]; exact (fin _ (oI_none hor)).2 w))
  · have ff : fFolk (I 7) (nI p) = 5 := by rw [ff, ee]; rfl
    refine h_met (by decide) rfl (Nat.le_of_ble_eq_true rfl) (sg_X2_tempts_C_0 ?_)
    rw [setI_setI, setI_setI, hF]
    refine c_X9_folkOf ?_
    rw [show fFolk ((setI I 35 F) 7) (nI p) = 5 from ff]
    refine sg_X2_tempts_C_17 ?_
    exact c_would_C (h := 34) hcJ (by decide) l3 l2 hp ee (sg_X2_tempts_C_31 (fun w => by rw [setI_setI, setI_setI]; exact (fin _ (oI_none hor)).1 w) (fun w => by rw [setI_setI, setI_setI]; exact (fin _ (oI_none hor)).2 w))
theorem kd_1 {a : Nat} : kd a + 1 = kd (a + 1) := by
  unfold kd
  rw [if_neg (show ¬ a + 1 = 0 by omega)]
  by_cases e : a = 0
  · subst e; rfl
  · rw [if_neg e, nI_1]; congr 1; omega
theorem kd_le {c : HCf} {a : Nat} (hK : cK c ≤ 6) (ha : a ≤ 20) : nI (cK c) ≤ kd a ↔ cK c + 1 ≤ a := by
  unfold kd
  by_cases e : a = 0
  · rw [if_pos e, i_le, nI_toInt (by omega), zm1]; omega
  · rw [if_neg e, nI_leI (by omega) (by omega)]; omega
theorem kd_wor {I : HIh} {c : HCf} {a : Nat} (hc : CC I c) (ha : a ≤ cK c) : fWor (I 6) (kd a) = nI (wt c a) := by
  have hK := hc.2.2.2.2.2.2.2.2.1
  unfold kd wt
  by_cases e : a = 0
  · rw [if_pos e, if_pos e]; unfold fWor; rw [if_neg (fun h => absurd h.1 (by decide))]; rfl
  · rw [if_neg e, if_neg e, fWor_n _ (by omega), hc.2.2.2.1 _ (by omega)]
/-- triples looked at before a triple -/
def Vis (c : HCf) (a b e a' b' e' : Nat) : Prop := (a' ≤ b' ∧ b' ≤ e' ∧ e' ≤ cK c) ∧ (a' < a ∨ a' = a ∧ (b' < b ∨ b' = b ∧ e' < e))
def SX (c : HCf) (s : HCn) (p a b e : Nat) (x : Nat) : Prop := ∃ a' b' e', Vis c a b e a' b' e' ∧ tmp c s p a' b' e' ∧ cost c a' b' e' = x
theorem bait_in {c : HCf} {s : HCn} {p : Nat} (hc : CC I c) (hs : CnOk s) (hp : p < 4) (q : ∀ J b, (∀ a, a ≠ 34 → a ≠ 35 → J a = I a) → IsL b (SX c s p (cK c + 1) 0 0) → (∀ x, b = some x → x ≤ 2997) → Q (some (.int (oI b))) J) : ∀ (n a b e : Nat) (J : HIh) (r : Option Nat), 1000 ≤ a * 64 + b * 8 + e + n → a ≤ b → b ≤ e → b ≤ cK c → e ≤ cK c + 1 → (∀ a, a ≠ 34 → a ≠ 35 → J a = I a) → LotC (J 35) s → IsL r (SX c s p a b e) → (∀ x, r = some x → x ≤ 2997) → HGo E (mF E (d + 5) Q) me_X2_leastBait 47 [(0, .ref 32), (2, .int (nI p)), (3, .int (oI r)), (4, .int (kd a)), (5, .int (kd b)), (6, .int (kd e))] [] J
  | n, a, b, e, J, r, hn, hab', hbe, hbK, heK, f1, hl, hr, hr2 => by
    have hK : cK c ≤ 6 := hc.2.2.2.2.2.2.2.2.1
    have hok := hc.2.2.2.2.2.2.2
    obtain ⟨n, rfl⟩ : ∃ k, n = k + 1 := ⟨n - 1, by omega⟩
    have hcJ : CC J c := hc.of ⟨f1 1 (by decide) (by decide), f1 6 (by decide) (by decide), f1 7 (by decide) (by decide), f1 8 (by decide) (by decide), f1 9 (by decide) (by decide)⟩
    have e9 : J 1 9 = nI (cK c) := hcJ.1
    have hrl : ∀ k, r = some k → k < 2 ^ 31 := fun k hk => by have := hr2 k hk; omega
    have next : e ≤ cK c → ∀ (J : HIh) (r : Option Nat), (∀ a, a ≠ 34 → a ≠ 35 → J a = I a) → LotC (J 35) s → IsL r (SX c s p a b (e + 1)) → (∀ x, r = some x → x ≤ 2997) → HGo E (mF E (d + 5) Q) me_X2_leastBait 47 [(0, .ref 32), (2, .int (nI p)), (3, .int (oI r)), (4, .int (kd a)), (5, .int (kd b)), (6, .int (kd e + 1))] [] J := fun he J r f1 hl hr hr2 => by
      rw [kd_1]
      exact bait_in hc hs hp q n a b (e + 1) J r (by omega) hab' (by omega) hbK (by omega) f1 hl hr hr2
    have up : ∀ x, SX c s p a b e x → SX c s p a b (e + 1) x := fun x ⟨a', b', e', ⟨v1, v2⟩, t1, t2⟩ => ⟨a', b', e', ⟨v1, by omega⟩, t1, t2⟩
    have dn : ∀ x, SX c s p a b (e + 1) x → SX c s p a b e x ∨ (tmp c s p a b e ∧ x = cost c a b e) := fun x ⟨a', b', e', ⟨v1, v2⟩, t1, t2⟩ => by
      by_cases w : a' = a ∧ b' = b ∧ e' = e
      · obtain ⟨rfl, rfl, rfl⟩ := w
        exact Or.inr ⟨t1, t2.symm⟩
      · exact Or.inl ⟨a', b', e', ⟨v1, by omega⟩, t1, t2⟩
    refine sg_X2_leastBait_47 (fun z => ?_) (fun z y => ?_) (fun z y w => ?_) (fun z y w => ?_)
    all_goals
      rw [e9, kd_le hK (by omega)] at z
    · have ee : e = cK c + 1 := by omega
      -- the innermost is through
      rw [kd_1]
      refine sg_X2_leastBait_31 (fun z' => ?_) (fun z' => ?_)
      · rw [e9, kd_le hK (by omega)] at z'
        rw [kd_1]
        have hb' : b = cK c := by omega
        refine sg_X2_leastBait_15 (fun z2 => ?_) (fun z2 => ?_)
        · rw [e9, kd_le hK (by omega)] at z2
          refine q J r f1 ?_ hr2
          refine hr.skip (fun x ⟨a', b', e', ⟨v1, v2⟩, t1, t2⟩ => Or.inl ⟨a', b', e', ⟨v1, by omega⟩, t1, t2⟩) (fun x ⟨a', b', e', ⟨v1, v2⟩, t1, t2⟩ => ⟨a', b', e', ⟨v1, by omega⟩, t1, t2⟩)
        · rw [e9, kd_le hK (by omega)] at z2
          refine sg_X2_leastBait_31 (fun z3 => ?_) (fun z3 => ?_)
          · rw [e9, kd_le hK (by omega)] at z3; omega
          · obtain ⟨n', hn'⟩ : ∃ n', (a + 1) * 10000 + (a + 1) * 100 + (a + 1) + n' = 100000 := ⟨100000 - ((a + 1) * 10000 + (a + 1) * 100 + (a + 1)), by omega⟩
            refine bait_in hc hs hp q n (a + 1) (a + 1) (a + 1) J r (by omega) (by omega) (by omega) (by omega) (by omega) f1 hl ?_ hr2
            refine hr.skip (fun x ⟨a', b', e', ⟨v1, v2⟩, t1, t2⟩ => Or.inl ⟨a', b', e', ⟨v1, by omega⟩, t1, t2⟩) (fun x ⟨a', b', e', ⟨v1, v2⟩, t1, t2⟩ => ⟨a', b', e', ⟨v1, by omega⟩, t1, t2⟩)
      · rw [e9, kd_le hK (by omega)] at z'
        refine bait_in hc hs hp q n a (b + 1) (b + 1) J r (by omega) (by omega) (by omega) (by omega) (by omega) f1 hl ?_ hr2
        refine hr.skip (fun x ⟨a', b', e', ⟨v1, v2⟩, t1, t2⟩ => Or.inl ⟨a', b', e', ⟨v1, by omega⟩, t1, t2⟩) (fun x ⟨a', b', e', ⟨v1, v2⟩, t1, t2⟩ => ⟨a', b', e', ⟨v1, by omega⟩, t1, t2⟩)
    all_goals
      have he : e ≤ cK c := by omega
      have eW : fWor (J 6) (kd a) + fWor (J 6) (kd b) + fWor (J 6) (kd e) = nI (cost c a b e) := by
        rw [kd_wor hcJ (by omega), kd_wor hcJ (by omega), kd_wor hcJ (by omega), nI_add, nI_add]; rfl
      have cl := cost_le hok (show a ≤ cK c by omega) (show b ≤ cK c by omega) he
    · rw [oI_none hrl] at y
      rw [eW]
      refine c_tempts hcJ hs hl hp (by omega) (by omega) (by omega) (fun t f hf => ?_) (fun t f hf => ?_)
      · refine sg_X2_leastBait_112 (fun u => absurd u (by decide)) (fun _ => ?_)
        refine next he _ (some (cost c a b e)) (fun a n1 n2 => by rw [setI_ne _ _ n2]; exact f1 a n1 n2) hf ?_ (fun x hx => by cases hx; exact cl)
        refine hr.take (Or.inl y) (fun x hx => (dn x hx).elim Or.inl (fun u => Or.inr u.2)) ⟨a, b, e, ⟨⟨hab', hbe, he⟩, by omega⟩, t, rfl⟩
      · refine sg_X2_leastBait_112 (fun _ => ?_) (fun u => absurd rfl u)
        refine next he _ r (fun a n1 n2 => by rw [setI_ne _ _ n2]; exact f1 a n1 n2) hf ?_ hr2
        exact hr.skip (fun x hx => (dn x hx).elim Or.inl (fun u => absurd u.1 t)) up
    · rw [oI_none hrl] at y
      rw [eW] at w
      obtain ⟨x0, hx0⟩ := Option.ne_none_iff_exists'.mp y
      rw [hx0] at w
      have w' : x0 ≤ cost c a b e := (nI_leI (by have := hr2 x0 hx0; omega) (by omega)).mp w
      refine next he J r f1 hl ?_ hr2
      exact hr.skip (fun x hx => (dn x hx).elim Or.inl (fun u => Or.inr ⟨x0, hx0, by rw [u.2]; exact w'⟩)) up
    · rw [oI_none hrl] at y
      rw [eW] at w
      obtain ⟨x0, hx0⟩ := Option.ne_none_iff_exists'.mp y
      rw [hx0] at w
      have w' : cost c a b e < x0 := by
        have : ¬ x0 ≤ cost c a b e := fun u => w ((nI_leI (by have := hr2 x0 hx0; omega) (by omega)).mpr u)
        omega
      rw [eW]
      refine c_tempts hcJ hs hl hp (by omega) (by omega) (by omega) (fun t f hf => ?_) (fun t f hf => ?_)
      · refine sg_X2_leastBait_112 (fun u => absurd u (by decide)) (fun _ => ?_)
        refine next he _ (some (cost c a b e)) (fun a n1 n2 => by rw [setI_ne _ _ n2]; exact f1 a n1 n2) hf ?_ (fun x hx => by cases hx; exact cl)
        refine hr.take (Or.inr ⟨x0, hx0, w'⟩) (fun x hx => (dn x hx).elim Or.inl (fun u => Or.inr u.2)) ⟨a, b, e, ⟨⟨hab', hbe, he⟩, by omega⟩, t, rfl⟩
      · refine sg_X2_leastBait_112 (fun _ => ?_) (fun u => absurd rfl u)
        refine next he _ r (fun a n1 n2 => by rw [setI_ne _ _ n2]; exact f1 a n1 n2) hf ?_ hr2
        exact hr.skip (fun x hx => (dn x hx).elim Or.inl (fun u => absurd u.1 t)) up
end BAIT
