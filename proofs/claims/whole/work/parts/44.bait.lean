/-! bait: the reference, and side by side -/
def cd (c : HCf) (k : Nat) : Nat := if k < cK c then k + 1 else 0
def vl (c : HCf) (k : Nat) : Bool := decide (k < cK c) || decide (k = 6)
theorem upd_keep (f : Nat → Int32) (i : Nat) : upd f i (f i + 0) = f := by
  funext j; unfold upd; split
  · rename_i e; subst e; rw [Int32.add_zero]
  · rfl
theorem RowC.ad {f : Nat → Int32} {s : HCn} {b k : Nat} (h : RowC f b s) (hk : k < 6) : RowC (upd f (b + k) (f (b + k) + 1)) b (ad s (k + 1)) := by
  refine ⟨fun j hj => ?_, fun i hi j hj => ?_⟩
  · show _ = nI (s 4 j + if 4 = 4 ∧ j + 1 = k + 1 then 1 else 0)
    by_cases e : j = k
    · subst e
      rw [upd_at _ rfl, if_pos ⟨rfl, rfl⟩, h.1 j hj, nI_1]
    · rw [upd_off _ (by omega), if_neg (by omega), h.1 j hj]; rfl
  · show _ = nI (s i j + if i = 4 ∧ j + 1 = k + 1 then 1 else 0)
    rw [upd_off _ (by omega), if_neg (by omega), h.2 i hi j hj]; rfl
section BAITM
variable {E : HEn} {d : Nat} {Q : Option Value → HIh → Prop} {I : HIh}
theorem bait_step {c : HCf} {s : HCn} {p rst n ct : Nat} {fl : Bool} {x2 x3 : Int32} (hm : MC I c) (hr : RowC (I 88) 93 s) (hn : n < 3) (hrs : rst ≤ 342) (q : ∀ g, (∀ x, x < 93 → g x = I 88 x) → RowC g 93 (ad s (cd c (rst % 7))) → HGo E (mF E (d + 4) Q) me_X12_bait 39 [(0, .ref 87), (1, .int (nI p)), (2, .int x2), (3, .int x3), (4, .int (nI (ct + wt c (cd c (rst % 7))))), (5, .int (if (fl && vl c (rst % 7)) = true then 1 else 0)), (6, .int (nI (rst / 7))), (7, .int (nI (n + 1)))] [] (setI I 88 g)) : HGo E (mF E (d + 4) Q) me_X12_bait 39 [(0, .ref 87), (1, .int (nI p)), (2, .int x2), (3, .int x3), (4, .int (nI ct)), (5, .int (if fl = true then 1 else 0)), (6, .int (nI rst)), (7, .int (nI n))] [] I := by
  have hK : cK c ≤ 6 := hm.2.2.2.2.2.2.2.2.1
  have hmod := Nat.mod_lt rst (show 0 < 7 by decide)
  have eD : nI rst / 7 = nI (rst / 7) := nI_div (b := 7) (by omega) (by decide)
  have eM : nI rst - nI rst / 7 * 7 = nI (rst % 7) := nI_mod (b := 7) (by omega) (by decide)
  have lt6 : nI (rst % 7) < I 87 6 ↔ rst % 7 < cK c := by rw [hm.1, nI_ltI (by omega) (by omega)]
  have e6 : nI (rst % 7) = 6 ↔ rst % 7 = 6 := nI_eq (b := 6) (by omega) (by decide)
  have le6 : I 87 6 ≤ nI (rst % 7) ↔ cK c ≤ rst % 7 := by rw [hm.1, nI_leI (by omega) (by omega)]
  have n3 : ¬ (3 : Int32) ≤ nI n := by rw [show (3 : Int32) = nI 3 from rfl, nI_leI (by omega) (by omega)]; omega
  have go : HGo E (mF E (d + 4) Q) me_X12_bait 87 [(0, .ref 87), (1, .int (nI p)), (2, .int x2), (3, .int x3), (4, .int (nI ct)), (5, .int (if (fl && vl c (rst % 7)) = true then 1 else 0)), (6, .int (nI (rst / 7))), (7, .int (nI n)), (8, .int (nI (rst % 7)))] [] I := by
    by_cases hk : rst % 7 < cK c
    · have ek : cd c (rst % 7) = rst % 7 + 1 := if_pos hk
      have ew : wt c (cd c (rst % 7)) = cw c (rst % 7) := by rw [ek]; unfold wt; rw [if_neg (by omega)]; rfl
      have nl : ¬ I 87 6 ≤ nI (rst % 7) := fun z => by rw [le6] at z; omega
      refine sg_X12_bait_87 (fun z => absurd z nl) (fun _ => vp_in_nI (by omega) (by decide)) (fun _ => ?_)
      have ix : (93 : Int32) + nI (rst % 7) = nI (93 + rst % 7) := by rw [show (93 : Int32) = nI 93 from rfl, nI_add]
      refine sg_X12_bait_112 (fun z => absurd z nl) (fun z => absurd z nl) (fun z => absurd z nl) (fun z => absurd z nl) (fun z => absurd z nl) (fun _ => ?_) (fun _ z => absurd z nl) (fun _ z => absurd z nl) (fun _ _ => ?_) (fun _ _ => ?_)
      · rw [ix]; exact vp_in_nI (by omega) (by decide)
      · rw [ix]; exact vp_in_nI (by omega) (by decide)
      · rw [ix, nI_clamp (by omega), nI_clamp (by omega), hm.2.2.2.1 _ hk, nI_add, nI_1]
        have := q (upd (I 88) (93 + rst % 7) (I 88 (93 + rst % 7) + 1)) (fun x hx => upd_off _ (by omega) _) (by rw [ek]; exact hr.ad (by omega))
        rw [ew] at this
        exact this
    · have ek : cd c (rst % 7) = 0 := if_neg hk
      have ew : wt c (cd c (rst % 7)) = 0 := by rw [ek]; rfl
      have yl : I 87 6 ≤ nI (rst % 7) := by rw [le6]; omega
      have ix : ((93 : Int32) + 0) = nI 93 := rfl
      refine sg_X12_bait_87 (fun _ => ?_) (fun z => absurd yl z) (fun z => absurd yl z)
      refine sg_X12_bait_112 (fun _ => ?_) (fun _ _ => ?_) (fun _ _ => ?_) (fun _ z => absurd yl z) (fun _ z => absurd yl z) (fun z => absurd yl z) (fun z => absurd yl z) (fun z => absurd yl z) (fun z => absurd yl z) (fun z => absurd yl z)
      · rw [ix]; exact vp_in_nI (by omega) (by decide)
      · rw [ix]; exact vp_in_nI (by omega) (by decide)
      · rw [upd_keep, Int32.add_zero, nI_1]
        have := q (I 88) (fun _ _ => rfl) (by rw [ek, ad_0]; exact hr)
        rw [ew] at this
        exact this
  refine sg_X12_bait_39 (fun z => absurd z n3) (fun z => absurd z n3) (fun _ z => ?_) (fun _ z y => ?_) (fun _ z y w => ?_) (fun _ z y w => ?_)
  all_goals
    rw [eM] at *
    rw [eD]
  · have : fl = false := by
      cases fl with
      | true => exact absurd z (by decide)
      | false => rfl
    rw [this, Bool.false_and] at go
    exact go
  all_goals
    have hfl : fl = true := by
      cases fl with
      | true => rfl
      | false => exact absurd rfl z
    rw [hfl, Bool.true_and] at go
  · rw [lt6] at y
    rw [show vl c (rst % 7) = true from by unfold vl; rw [decide_eq_true y]; rfl] at go
    exact go
  · rw [lt6] at y; rw [e6] at w
    rw [show vl c (rst % 7) = false from by unfold vl; rw [decide_eq_false y, decide_eq_false w]; rfl] at go
    exact go
  · rw [lt6] at y; rw [e6] at w
    rw [show vl c (rst % 7) = true from by unfold vl; rw [decide_eq_true w, Bool.or_true]] at go
    exact go
def SM (c : HCf) (s : HCn) (p v : Nat) (x : Nat) : Prop := ∃ u, u < v ∧ (true && vl c (u % 7) && vl c (u / 7 % 7) && vl c (u / 7 / 7 % 7)) = true ∧ tmp c s p (cd c (u % 7)) (cd c (u / 7 % 7)) (cd c (u / 7 / 7 % 7)) ∧ cost c (cd c (u % 7)) (cd c (u / 7 % 7)) (cd c (u / 7 / 7 % 7)) = x
theorem cd_le (c : HCf) (k : Nat) : cd c k ≤ cK c := by unfold cd; split <;> omega
theorem bait_m {c : HCf} {s : HCn} {p : Nat} (hm : MC I c) (hr : RowC (I 88) 0 s) (hs : CnOk s) (hp : p < 4) (q : ∀ J b, (∀ x, x ≠ 97 → x ≠ 88 → J x = I x) → (∀ x, x < 93 → J 88 x = I 88 x) → IsL b (SM c s p 343) → Q (some (.int (oI b))) J) : ∀ (n v : Nat) (J : HIh) (r : Option Nat), v + n = 343 → (∀ x, x ≠ 97 → x ≠ 88 → J x = I x) → (∀ x, x < 93 → J 88 x = I 88 x) → IsL r (SM c s p v) → (∀ x, r = some x → x ≤ 2997) → HGo E (mF E (d + 4) Q) me_X12_bait 14 [(0, .ref 87), (1, .int (nI p)), (2, .int (oI r)), (3, .int (nI v))] [] J
  | n, v, J, r, hv, f1, f2, hrr, hr2 => by
    have hok := hm.2.2.2.2.2.2.2
    have hK : cK c ≤ 6 := hok.2.1
    have mcOf : ∀ {J : HIh}, (∀ x, x ≠ 97 → x ≠ 88 → J x = I x) → MC J c := fun {J} f1 => by
      have g : J 87 = I 87 := f1 87 (by decide) (by decide)
      exact hm.of ⟨by rw [g], by rw [g], by rw [g], f1 92 (by decide) (by decide), f1 94 (by decide) (by decide), f1 95 (by decide) (by decide), f1 96 (by decide) (by decide)⟩
    refine sg_X12_bait_14 (fun z => ?_) (fun z => ?_)
    · rw [show (343 : Int32) = nI 343 from rfl, nI_leI (by omega) (by omega)] at z
      have : v = 343 := by omega
      subst this
      exact q J r f1 f2 hrr
    · rw [show (343 : Int32) = nI 343 from rfl, nI_leI (by omega) (by omega)] at z
      obtain ⟨n, rfl⟩ : ∃ k, n = k + 1 := ⟨n - 1, by omega⟩
      refine m_copy (a := 0) (b := 3) (by decide) (by decide) (by decide) (fun g1 g2 g3 => sg_X12_bait_36 ?_)
      have hrJ : RowC (J 88) 0 s := hr.same fun j hj => f2 _ (by omega)
      have w1 : RowC ((setI J 88 g1) 88) 93 s := RowC.cpy (a := 0) (b := 3) (f := J 88) hrJ g2
      have F : ∀ {J' : HIh} {g : Nat → Int32}, (∀ x, x ≠ 97 → x ≠ 88 → J' x = I x) → ∀ x, x ≠ 97 → x ≠ 88 → (setI J' 88 g) x = I x := fun {J' g} h x n1 n2 => by rw [setI_ne _ _ n2]; exact h x n1 n2
      have hrl : ∀ k, r = some k → k < 2 ^ 31 := fun k hk => by have := hr2 k hk; omega
      refine bait_step (fl := true) (rst := v) (n := 0) (ct := 0) (mcOf (F f1)) w1 (by decide) (by omega) (fun ga ga1 ga2 => ?_)
      refine bait_step (rst := v / 7) (n := 1) (mcOf (F (F f1))) ga2 (by decide) (by omega) (fun gb gb1 gb2 => ?_)
      refine bait_step (rst := v / 7 / 7) (n := 2) (mcOf (F (F (F f1)))) gb2 (by decide) (by omega) (fun gc gc1 gc2 => ?_)
      have fr := F (g := gc) (F (g := gb) (F (g := ga) (F (g := g1) f1)))
      have lo : ∀ x, x < 93 → (setI (setI (setI (setI J 88 g1) 88 ga) 88 gb) 88 gc) 88 x = I 88 x := fun x hx => (gc1 x hx).trans ((gb1 x hx).trans ((ga1 x hx).trans ((g3 x (by omega)).trans (f2 x hx))))
      have ecost : 0 + wt c (cd c (v % 7)) + wt c (cd c (v / 7 % 7)) + wt c (cd c (v / 7 / 7 % 7)) = cost c (cd c (v % 7)) (cd c (v / 7 % 7)) (cd c (v / 7 / 7 % 7)) := by unfold cost; omega
      rw [ecost]
      have cle := cost_le hok (cd_le c (v % 7)) (cd_le c (v / 7 % 7)) (cd_le c (v / 7 / 7 % 7))
      have gc2' : RowC ((setI (setI (setI (setI J 88 g1) 88 ga) 88 gb) 88 gc) 88) 93 (ad (ad (ad s (cd c (v % 7))) (cd c (v / 7 % 7))) (cd c (v / 7 / 7 % 7))) := gc2
      generalize (setI (setI (setI (setI J 88 g1) 88 ga) 88 gb) 88 gc) = K at fr lo gc2'
      have up : ∀ x, SM c s p v x → SM c s p (v + 1) x := fun x ⟨u, h1, h2⟩ => ⟨u, by omega, h2⟩
      have nxt : ∀ (J : HIh) (r : Option Nat), (∀ x, x ≠ 97 → x ≠ 88 → J x = I x) → (∀ x, x < 93 → J 88 x = I 88 x) → IsL r (SM c s p (v + 1)) → (∀ x, r = some x → x ≤ 2997) → HGo E (mF E (d + 4) Q) me_X12_bait 14 [(0, .ref 87), (1, .int (nI p)), (2, .int (oI r)), (3, .int (nI v + 1))] [] J := fun J r f1 f2 hrr hr2 => by
        rw [nI_1]
        exact bait_m hm hr hs hp q n (v + 1) J r (by omega) f1 f2 hrr hr2
      refine sg_X12_bait_39 (fun _ y => ?_) (fun _ y => ?_) (fun y => absurd (by decide) y) (fun y => absurd (by decide) y) (fun y => absurd (by decide) y) (fun y => absurd (by decide) y)
      · refine nxt K r fr lo ?_ hr2
        refine hrr.skip (fun x ⟨u, h1, h2, h3⟩ => ?_) up
        by_cases e : u = v
        · subst e
          rw [if_pos h2] at y
          exact absurd y (by decide)
        · exact Or.inl ⟨u, by omega, h2, h3⟩
      · have hvl : (true && vl c (v % 7) && vl c (v / 7 % 7) && vl c (v / 7 / 7 % 7)) = true := by
          cases hh : (true && vl c (v % 7) && vl c (v / 7 % 7) && vl c (v / 7 / 7 % 7)) with
          | true => rfl
          | false => rw [hh] at y; exact absurd rfl y
        refine m_byHabit (b := 93) (mcOf fr) gc2' (by decide) (ad_l2 hs) hp (fun ft => ?_)
        have fr' : ∀ x, x ≠ 97 → x ≠ 88 → (setI K 97 ft) x = I x := fun x n1 n2 => by rw [setI_ne _ _ n1]; exact fr x n1 n2
        have lo' : ∀ x, x < 93 → (setI K 97 ft) 88 x = I 88 x := lo
        have hor : ∀ k, hab c (ad (ad (ad s (cd c (v % 7))) (cd c (v / 7 % 7))) (cd c (v / 7 / 7 % 7))) p = some k → k < 2 ^ 31 := fun k w => by have := (hab_lt w).1; omega
        have dn : ∀ x, SM c s p (v + 1) x → SM c s p v x ∨ (tmp c s p (cd c (v % 7)) (cd c (v / 7 % 7)) (cd c (v / 7 / 7 % 7)) ∧ x = cost c (cd c (v % 7)) (cd c (v / 7 % 7)) (cd c (v / 7 / 7 % 7))) := fun x ⟨u, h1, h2, h3, h4⟩ => by
          by_cases e : u = v
          · subst e; exact Or.inr ⟨h3, h4.symm⟩
          · exact Or.inl ⟨u, by omega, h2, h3, h4⟩
        refine sg_X12_bait_170 (fun w => ?_) (fun w u => ?_) (fun w u t => ?_) (fun w u t => ?_)
        · rw [oI_none hor] at w
          refine nxt _ r fr' lo' ?_ hr2
          exact hrr.skip (fun x hx => (dn x hx).elim Or.inl (fun a => absurd w a.1)) up
        all_goals
          rw [oI_none hor] at w
          rw [oI_none hrl] at u
        · refine nxt _ (some (cost c (cd c (v % 7)) (cd c (v / 7 % 7)) (cd c (v / 7 / 7 % 7)))) fr' lo' ?_ (fun x hx => by cases hx; exact cle)
          exact hrr.take (Or.inl u) (fun x hx => (dn x hx).elim Or.inl (fun a => Or.inr a.2)) ⟨v, by omega, hvl, w, rfl⟩
        · obtain ⟨x0, hx0⟩ := Option.ne_none_iff_exists'.mp u
          rw [hx0] at t
          have w' : x0 ≤ cost c (cd c (v % 7)) (cd c (v / 7 % 7)) (cd c (v / 7 / 7 % 7)) := (nI_leI (by have := hr2 x0 hx0; omega) (by omega)).mp t
          refine nxt _ r fr' lo' ?_ hr2
          exact hrr.skip (fun x hx => (dn x hx).elim Or.inl (fun a => Or.inr ⟨x0, hx0, by rw [a.2]; exact w'⟩)) up
        · obtain ⟨x0, hx0⟩ := Option.ne_none_iff_exists'.mp u
          rw [hx0] at t
          have w' : ¬ x0 ≤ cost c (cd c (v % 7)) (cd c (v / 7 % 7)) (cd c (v / 7 / 7 % 7)) := fun a => t ((nI_leI (by have := hr2 x0 hx0; omega) (by omega)).mpr a)
          refine nxt _ (some (cost c (cd c (v % 7)) (cd c (v / 7 % 7)) (cd c (v / 7 / 7 % 7)))) fr' lo' ?_ (fun x hx => by cases hx; exact cle)
          exact hrr.take (Or.inr ⟨x0, hx0, by omega⟩) (fun x hx => (dn x hx).elim Or.inl (fun a => Or.inr a.2)) ⟨v, by omega, hvl, w, rfl⟩
theorem tmp_sw {c : HCf} {s : HCn} {p a b e : Nat} (h : tmp c s p a b e) : tmp c s p b a e ∧ tmp c s p a e b := by
  unfold tmp at *
  exact ⟨by rw [ad_comm s b a]; exact h, by rw [ad_comm (ad s a) e b]; exact h⟩
theorem sorts {P : Nat → Nat → Nat → Prop} (h1 : ∀ a b e, P a b e → P b a e) (h2 : ∀ a b e, P a b e → P a e b) {a b e : Nat} (h : P a b e) : ∃ a' b' e', a' ≤ b' ∧ b' ≤ e' ∧ P a' b' e' := by
  by_cases x : a ≤ b
  · by_cases y : b ≤ e
    · exact ⟨a, b, e, x, y, h⟩
    · by_cases w : a ≤ e
      · exact ⟨a, e, b, w, by omega, h2 _ _ _ h⟩
      · exact ⟨e, a, b, by omega, x, h1 _ _ _ (h2 _ _ _ h)⟩
  · by_cases y : a ≤ e
    · exact ⟨b, a, e, by omega, y, h1 _ _ _ h⟩
    · by_cases w : b ≤ e
      · exact ⟨b, e, a, w, by omega, h2 _ _ _ (h1 _ _ _ h)⟩
      · exact ⟨e, b, a, by omega, by omega, h1 _ _ _ (h2 _ _ _ (h1 _ _ _ h))⟩
theorem SX_SM {c : HCf} {s : HCn} {p x : Nat} (hK : cK c ≤ 6) : SX c s p (cK c + 1) 0 0 x ↔ SM c s p 343 x := by
  constructor
  · rintro ⟨a, b, e, ⟨⟨v1, v2, v3⟩, -⟩, t1, t2⟩
    have co : ∀ a, a ≤ cK c → ∃ k, k < 7 ∧ vl c k = true ∧ cd c k = a := fun a ha => by
      by_cases z : a = 0
      · refine ⟨6, by decide, ?_, ?_⟩
        · unfold vl; rw [decide_eq_true (rfl : 6 = 6), Bool.or_true]
        · unfold cd; rw [if_neg (by omega), z]
      · refine ⟨a - 1, by omega, ?_, ?_⟩
        · unfold vl; rw [decide_eq_true (show a - 1 < cK c by omega)]; rfl
        · unfold cd; rw [if_pos (by omega)]; omega
    obtain ⟨k0, a0, b0, c0⟩ := co a (by omega)
    obtain ⟨k1, a1, b1, c1⟩ := co b (by omega)
    obtain ⟨k2, a2, b2, c2⟩ := co e v3
    refine ⟨k0 + 7 * k1 + 49 * k2, by omega, ?_⟩
    rw [show (k0 + 7 * k1 + 49 * k2) % 7 = k0 by omega, show (k0 + 7 * k1 + 49 * k2) / 7 % 7 = k1 by omega, show (k0 + 7 * k1 + 49 * k2) / 7 / 7 % 7 = k2 by omega, b0, b1, b2, c0, c1, c2]
    exact ⟨rfl, t1, t2⟩
  · rintro ⟨u, hu, -, t1, t2⟩
    obtain ⟨a, b, e, h1, h2, h3, h4, h5⟩ := sorts (P := fun a b e => e ≤ cK c ∧ b ≤ cK c ∧ a ≤ cK c ∧ tmp c s p a b e ∧ cost c a b e = x) (fun a b e h => ⟨h.1, h.2.2.1, h.2.1, (tmp_sw h.2.2.2.1).1, by rw [← h.2.2.2.2]; unfold cost; omega⟩) (fun a b e h => ⟨h.2.1, h.1, h.2.2.1, (tmp_sw h.2.2.2.1).2, by rw [← h.2.2.2.2]; unfold cost; omega⟩) ⟨cd_le c _, cd_le c _, cd_le c _, t1, t2⟩
    exact ⟨a, b, e, ⟨⟨h1, h2, h3⟩, by omega⟩, h5.2.1, h5.2.2⟩
theorem t_bait {a : Int32} (h : Rel I) : Twin E d me_X11_bait me_X12_bait [.ref 0, .int a] [.ref 87, .int a] I := by
  have H := h
  obtain ⟨c, s, t, hc, hm, hn, -⟩ := h
  obtain ⟨r1, r2, r3, r4, r5, r6⟩ := hn
  have hK : cK c ≤ 6 := hc.2.2.2.2.2.2.2.2.1
  refine h_met (by decide) rfl (Nat.le_of_ble_eq_true rfl) (sg_X11_bait_0 (fun p1 p2 => ?_) (fun p1 => ?_))
  · obtain ⟨p, hp, rfl⟩ := px.mp ⟨p1, p2⟩
    refine h_met (by decide) rfl (Nat.le_of_ble_eq_true rfl) (sg_X2_leastBait_0 (h := 12) (c := 13) (by decide) (by decide) (by decide) (by decide) (by decide) (by decide) ?_)
    have emp : IsL none (SX c s p 0 0 0) := ⟨(fun x hx => by cases hx), fun _ y ⟨a', b', e', ⟨v1, v2⟩, _⟩ => by omega⟩
    refine sg_X2_leastBait_15 (fun z => ?_) (fun _ => sg_X2_leastBait_31 (fun z => ?_) (fun _ => ?_))
    · have e : (setI (setI I 35 (va_cpy (I 13) (I 35) 0 0 30)) 34 (upd (I 34) 1 ((setI I 35 (va_cpy (I 13) (I 35) 0 0 30)) 12 1))) 1 9 = nI (cK c) := hc.1
      rw [e, i_le, nI_toInt (by omega), zm1] at z; omega
    · have e : (setI (setI I 35 (va_cpy (I 13) (I 35) 0 0 30)) 34 (upd (I 34) 1 ((setI I 35 (va_cpy (I 13) (I 35) 0 0 30)) 12 1))) 1 9 = nI (cK c) := hc.1
      rw [e, i_le, nI_toInt (by omega), zm1] at z; omega
    · refine bait_in hc r5 hp (fun J b f1 hb hb2 => sg_X11_bait_19 ?_) 1000 0 0 0 _ none (by omega) (by omega) (by omega) (by omega) (by omega) (fun a n1 n2 => by rw [setI_ne _ _ n1, setI_ne _ _ n2]) (LotC.cpy r1) emp (fun x hx => by cases hx)
      have g : ∀ a, a ≠ 34 → a ≠ 35 → J a = I a := f1
      have g87 := g 87 (by decide) (by decide)
      have hmJ : MC J c := hm.of ⟨by rw [g87], by rw [g87], by rw [g87], g 92 (by decide) (by decide), g 94 (by decide) (by decide), g 95 (by decide) (by decide), g 96 (by decide) (by decide)⟩
      have HJ : Rel J := H.of fun a ha => g a (fun w => by subst w; exact absurd ha (by decide)) (fun w => by subst w; exact absurd ha (by decide))
      have r3J : RowC (J 88) 0 s := by rw [g 88 (by decide) (by decide)]; exact r3
      refine h_met (by decide) rfl (Nat.le_of_ble_eq_true rfl) (sg_X12_bait_0 (fun _ _ => ?_) (fun z => absurd ⟨p1, p2⟩ z))
      refine bait_m hmJ r3J r5 hp (fun K b' f2 f3 hb' => ?_) 343 0 J none rfl (fun _ _ _ => rfl) (fun _ _ => rfl) ⟨(fun x hx => by cases hx), fun _ y ⟨u, hu, _⟩ => absurd hu (by omega)⟩ (fun x hx => by cases hx)
      have e : b = b' := hb.uniq hb' (fun x => SX_SM hK)
      exact ⟨oI b, rfl, by rw [e], HJ.of93 (fun a ha n => f2 a (fun w => by subst w; exact absurd ha (by decide)) n) f3⟩
  · exact h_met (by decide) rfl (Nat.le_of_ble_eq_true rfl) (sg_X12_bait_0 (fun z y => absurd ⟨z, y⟩ p1) (fun _ => ⟨_, rfl, rfl, H⟩))
end BAITM
