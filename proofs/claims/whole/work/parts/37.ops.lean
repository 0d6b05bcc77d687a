/-! the calls, side by side: as, dry -/
section OPS6
variable {E : HEn} {d : Nat} {I : HIh}
theorem m_as_far {Q : Option Value → HIh → Prop} {a b : Int32} (n : ¬ ((0 : Int64) ≤ b.toInt64 ∧ (b.toInt64 : Int64) ≤ 5)) (p : (0 : Int32) ≤ a ∧ a < 4) (q : Q (some (.int (-3))) I) : HCall E me_X12_as (d + 5) [.ref 87, .int a, .int b] I Q := by
  refine h_met (by decide) rfl (Nat.le_of_ble_eq_true rfl) ?_
  apply sg_X12_as_0 <;> intros <;> first | exact q | exact absurd (And.intro (by assumption) (by assumption)) n | contradiction
theorem m_as_who {Q : Option Value → HIh → Prop} {a b : Int32} (n : ¬ ((0 : Int32) ≤ a ∧ a < 4)) (q : Q (some (.int (-2))) I) : HCall E me_X12_as (d + 5) [.ref 87, .int a, .int b] I Q := by
  refine h_met (by decide) rfl (Nat.le_of_ble_eq_true rfl) ?_
  apply sg_X12_as_0 <;> intros <;> first | exact q | exact absurd (And.intro (by assumption) (by assumption)) n
theorem t_as {a b : Int32} (h : Rel I) : Twin E d me_X11_as me_X12_as [.ref 0, .int a, .int b] [.ref 87, .int a, .int b] I := by
  have H := h
  obtain ⟨c, s, t, hc, hm, hn, -⟩ := h
  have hn' := hn
  obtain ⟨r1, r2, r3, r4, r5, r6⟩ := hn
  have bw : ((0 : Int64) ≤ b.toInt64 ∧ (b.toInt64 : Int64) ≤ 5) ↔ (0 ≤ b ∧ b ≤ 5) := win b 0 5
  by_cases hp : ∃ p, p < 4 ∧ a = nI p
  · obtain ⟨p, hp, rfl⟩ := hp
    have hp' := px.mpr ⟨p, hp, rfl⟩
    have h3 := hc.2.2.2.2.2.2.2.2.2.2.2.1 p hp
    have ff := fFolk_n hc hp
    by_cases hb : ∃ k, k < 6 ∧ b = nI k
    · obtain ⟨k, hk, rfl⟩ := hb
      have b0 : ¬ nI k < 0 := i_le_n (nI_pos' (by omega))
      have b5 : nI k ≤ 5 := by rw [i_le, nI_toInt (by omega), show (5 : Int32).toInt = 5 from rfl]; omega
      have mp : ∀ r : Int32, (isB (ch c p) k = false → (-4 : Int32) = r) → (isB (ch c p) k = true → oI (hab c s p) = r) → HCall E me_X12_as (d + 70) [.ref 87, .int (nI p), .int (nI k)] I (fun v' J' => ∃ r' : Int32, some (Value.int r) = some (.int r') ∧ v' = some (.int r') ∧ Rel J') := fun r g0 g1 =>
        m_as hm hn' hp hk (fun z => ⟨r, rfl, vI (g0 z), H⟩) (fun z ft => ⟨r, rfl, vI (g1 z), H.scr ft (by decide)⟩)
      rcases (show ch c p = 0 ∨ ch c p = 1 ∨ ch c p = 2 ∨ ch c p = 3 by omega) with e | e | e | e
      · have ff : fFolk (I 7) (nI p) = 2 := by rw [ff, e]; rfl
        refine h_met (by decide) rfl (Nat.le_of_ble_eq_true rfl) (sg_X11_as_N_0 (fun _ _ z => absurd z b0) (fun _ _ _ _ => ?_) (fun _ _ _ z => absurd b5 z) (fun z => absurd hp' z))
        refine c_X9_folkOf ?_
        rw [ff]
        refine sg_X11_as_N_30 (c_isA_N hk ?_)
        rw [e] at mp
        cases eb : isB 0 k with
        | false => exact sg_X11_as_N_36 (fun _ => mp _ (fun _ => rfl) (fun z => absurd (eb.symm.trans z) (by decide))) (fun z => absurd rfl z)
        | true =>
          refine sg_X11_as_N_36 (fun z => absurd z (by decide)) (fun _ => ?_)
          exact c_X5_wouldThrow (h := 12) (by decide) (by decide) (sg_X11_as_N_52 (mp _ (fun z => absurd (eb.symm.trans z) (by decide)) (fun _ => by unfold hab; rw [if_pos e]; rfl)))
      · have ff : fFolk (I 7) (nI p) = 3 := by rw [ff, e]; rfl
        refine h_met (by decide) rfl (Nat.le_of_ble_eq_true rfl) (sg_X11_as_G_0 (fun _ _ z => absurd z b0) (fun _ _ _ _ => ?_) (fun _ _ _ z => absurd b5 z) (fun z => absurd hp' z))
        refine c_X9_folkOf ?_
        rw [ff]
        refine sg_X11_as_G_30 (c_isA_G hk ?_)
        rw [e] at mp
        cases eb : isB 1 k with
        | false => exact sg_X11_as_G_36 (fun _ => mp _ (fun _ => rfl) (fun z => absurd (eb.symm.trans z) (by decide))) (fun z => absurd rfl z)
        | true =>
          refine sg_X11_as_G_36 (fun z => absurd z (by decide)) (fun _ => ?_)
          exact c_would_G (h := 12) hc (by decide) r1 r5.l2 hp (sg_X11_as_G_52 (mp _ (fun z => absurd (eb.symm.trans z) (by decide)) (fun _ => by rw [hab_G e])))
      · have ff : fFolk (I 7) (nI p) = 4 := by rw [ff, e]; rfl
        refine h_met (by decide) rfl (Nat.le_of_ble_eq_true rfl) (sg_X11_as_W_0 (fun _ _ z => absurd z b0) (fun _ _ _ _ => ?_) (fun _ _ _ z => absurd b5 z) (fun z => absurd hp' z))
        refine c_X9_folkOf ?_
        rw [ff]
        refine sg_X11_as_W_30 (c_isA_W hk ?_)
        rw [e] at mp
        cases eb : isB 2 k with
        | false => exact sg_X11_as_W_36 (fun _ => mp _ (fun _ => rfl) (fun z => absurd (eb.symm.trans z) (by decide))) (fun z => absurd rfl z)
        | true =>
          refine sg_X11_as_W_36 (fun z => absurd z (by decide)) (fun _ => ?_)
          exact c_would_W (h := 12) hc (by decide) r1 r5.l2 hp e (sg_X11_as_W_52 (mp _ (fun z => absurd (eb.symm.trans z) (by decide)) (fun _ => rfl)))
      · have ff : fFolk (I 7) (nI p) = 5 := by rw [ff, e]; rfl
        refine h_met (by decide) rfl (Nat.le_of_ble_eq_true rfl) (sg_X11_as_C_0 (fun _ _ z => absurd z b0) (fun _ _ _ _ => ?_) (fun _ _ _ z => absurd b5 z) (fun z => absurd hp' z))
        refine c_X9_folkOf ?_
        rw [ff]
        refine sg_X11_as_C_30 (c_isA_C hk ?_)
        rw [e] at mp
        cases eb : isB 3 k with
        | false => exact sg_X11_as_C_36 (fun _ => mp _ (fun _ => rfl) (fun z => absurd (eb.symm.trans z) (by decide))) (fun z => absurd rfl z)
        | true =>
          refine sg_X11_as_C_36 (fun z => absurd z (by decide)) (fun _ => ?_)
          exact c_would_C (h := 12) hc (by decide) r1 r5.l2 hp e (sg_X11_as_C_52 (mp _ (fun z => absurd (eb.symm.trans z) (by decide)) (fun _ => rfl)))
    · have n : ¬ ((0 : Int32) ≤ b ∧ b ≤ 5) := fun z => hb (i_nat' z.1 (n := 6) (by decide) (by have := z.2; rw [i_le] at this; rw [i_lt]; have e1 : (5 : Int32).toInt = 5 := rfl; have e2 : (nI 6).toInt = 6 := rfl; omega))
      have fin := m_as_far (E := E) (d := d + 65) (I := I) (a := nI p) (Q := fun v' J' => ∃ r' : Int32, some (Value.int (-3)) = some (.int r') ∧ v' = some (.int r') ∧ Rel J') (fun z => n (bw.mp z)) hp' ⟨_, rfl, rfl, H⟩
      exact h_met (by decide) rfl (Nat.le_of_ble_eq_true rfl) (sg_X11_as_N_0 (fun _ _ _ => fin) (fun _ _ z y => absurd ⟨i_nlt z, y⟩ n) (fun _ _ _ _ => fin) (fun z => absurd hp' z))
  · have n : ¬ ((0 : Int32) ≤ a ∧ a < 4) := fun z => hp (px.mp z)
    exact h_met (by decide) rfl (Nat.le_of_ble_eq_true rfl) (sg_X11_as_N_0 (fun z y => absurd ⟨z, y⟩ n) (fun z y => absurd ⟨z, y⟩ n) (fun z y => absurd ⟨z, y⟩ n) (fun _ => m_as_who n ⟨_, rfl, rfl, H⟩))
/-- coins behind a number of visits, begun again when all have gone -/
def drun (c : HCf) (s : HCn) (t : Nat) : Nat → HCn
  | 0 => s
  | j + 1 => vst c (drun c s t j) (cp c ((t + j) % cv c)) (hab c (drun c s t j) (cp c ((t + j) % cv c)))
/-- visits in a row without a throw -/
def didl (c : HCf) (s : HCn) (t : Nat) : Nat → Nat
  | 0 => 0
  | j + 1 => if hab c (drun c s t j) (cp c ((t + j) % cv c)) = none then didl c s t j + 1 else 0
def dryA (c : HCf) (s : HCn) (t : Nat) : Nat → Nat → Int32
  | 0, _ => -1
  | m + 1, n => if didl c s t (n + 1) = cv c then nI (n + 1) else dryA c s t m (n + 1)
theorem drun_ok {c : HCf} {s : HCn} {t : Nat} (h : CnOk s) (hv : 0 < cv c) (hp : ∀ i, i < cv c → cp c i < 4) : ∀ {j : Nat}, CnOk (drun c s t j)
  | 0 => h
  | j + 1 => vst_ok (drun_ok h hv hp) (hp _ (Nat.mod_lt _ hv)) (fun k e => (hab_lt e).2)
theorem didl_le {c : HCf} {s : HCn} {t : Nat} : ∀ {j : Nat}, didl c s t j ≤ j
  | 0 => Nat.le_refl _
  | j + 1 => by
    have := didl_le (c := c) (s := s) (t := t) (j := j)
    unfold didl; split <;> omega
theorem oI_m1 {r : Option Nat} (hr : ∀ k, r = some k → k < 2 ^ 31) : oI r = -1 ↔ r = none := oI_none hr
theorem dry_x {Q : Option Value → HIh → Prop} {c : HCf} {s : HCn} {t : Nat} (hc : CC I c) (hs : CnOk s) (hv : 0 < cv c) (q : ∀ f g, Q (some (.int (dryA c s t 200 0))) (setI (setI I 35 f) 34 g)) : ∀ (m n gn : Nat) (f g : Nat → Int32), n + m = 200 → LotC f (drun c s t n) → g 1 = nI gn → (gn = (t + n) % cv c ∨ gn = cv c ∧ (t + n) % cv c = 0) → dryA c s t m n = dryA c s t 200 0 → HGo E (mF E (d + 5) Q) me_X2_tillDry 17 [(0, .ref 32), (2, .ref 34), (3, .int (nI (didl c s t n))), (4, .int (nI (n + 1)))] [] (setI (setI I 35 f) 34 g)
  | m, n, gn, f, g, hj, hf, hg, hgn, ha => by
    have hV : cv c ≤ 24 := hc.2.2.2.2.2.2.2.2.2.2.2.2.2.1
    have hcp := hc.2.2.2.2.2.2.2.2.2.2.2.2.2.2
    have hcJ : ∀ g, CC (setI (setI I 35 f) 34 g) c := fun g => hc.of ⟨rfl, rfl, rfl, rfl, rfl⟩
    have hok : CnOk (drun c s t n) := drun_ok hs hv hcp
    have hmod := Nat.mod_lt (t + n) hv
    have e1 : (setI (setI I 35 f) 34 g) 34 1 = nI gn := hg
    have gnV : gn ≤ cv c := by omega
    have di := didl_le (c := c) (s := s) (t := t) (j := n)
    have fin : ∀ g1 : Nat → Int32, g1 1 = nI ((t + n) % cv c) → n < 200 → HCall E me_X9_habitual (d + 4) [.ref 1, .ref 34] (setI (setI I 35 f) 34 g1) (fun v9 J => HGo E (mF E (d + 5) Q) me_X2_tillDry 62 [(0, .ref 32), (2, .ref 34), (3, .int (nI (didl c s t n))), (4, .int (nI (n + 1)))] (v9.toList ++ []) J) := fun g1 hg1 hn => by
      obtain ⟨m, rfl⟩ : ∃ k, m = k + 1 := ⟨m - 1, by omega⟩
      refine c_habitual (h := 34) (t := (t + n) % cv c) (hcJ g1) (by decide) hf hok.l2 hg1 hmod (sg_X2_tillDry_62 ?_)
      refine c_letVisit (h := 34) (t := (t + n) % cv c) (hcJ g1) (by decide) hf hok.l2 hg1 hmod (fun k e => hab_lt e) (fun f' hf' => ?_)
      rw [show (34 + 1) = 35 from rfl]
      have hst : ∀ x, setI (setI (setI (setI I 35 f) 34 g1) 35 f') 34 x = setI (setI I 35 f') 34 x := fun x => st2 I (by decide) f f' g1 x
      rw [hst]
      have hgn' : (t + n) % cv c + 1 = (t + (n + 1)) % cv c ∨ (t + n) % cv c + 1 = cv c ∧ (t + (n + 1)) % cv c = 0 := by
        rw [show t + (n + 1) = (t + n) + 1 by omega, Nat.add_mod (t + n) 1]
        by_cases o : cv c = 1
        · right; rw [o]; exact ⟨by omega, by omega⟩
        · rw [Nat.mod_eq_of_lt (show 1 < cv c by omega)]
          by_cases w : (t + n) % cv c + 1 = cv c
          · right; exact ⟨w, by rw [w, Nat.mod_self]⟩
          · left; exact (Nat.mod_eq_of_lt (by omega)).symm
      have hl : ∀ k, hab c (drun c s t n) (cp c ((t + n) % cv c)) = some k → k < 2 ^ 31 := fun k e => by have := (hab_lt e).1; have := hc.2.2.2.2.2.2.2.2.1; omega
      have hA : didl c s t (n + 1) ≠ cv c → dryA c s t m (n + 1) = dryA c s t 200 0 := fun w => by
        rw [← ha]
        show _ = if _ then _ else _
        rw [if_neg w]
      have hB : didl c s t (n + 1) = cv c → dryA c s t 200 0 = nI (n + 1) := fun w => by
        rw [← ha]
        show (if _ then _ else _) = _
        rw [if_pos w]
      have e10 : ∀ x, (setI (setI I 35 f') 34 x) 1 10 = nI (cv c) := fun x => hc.2.1
      refine sg_X2_tillDry_74 (fun w y => ?_) (fun w y => ?_) (fun w y => ?_) (fun w y => ?_)
      · rw [oI_none hl] at w
        have ed : didl c s t (n + 1) = 0 := by show (if _ then _ else _) = _; rw [if_neg w]
        have := dry_x hc hs hv q m (n + 1) _ f' (upd g1 1 (nI ((t + n) % cv c + 1))) (by omega) hf' (upd_at _ rfl _) hgn' (hA (by omega))
        rw [ed] at this
        rw [nI_1]; exact this
      · rw [e10] at y
        have := (nI_eq (a := 0) (b := cv c) (by decide) (by omega)).mp y
        omega
      · rw [oI_none hl] at w
        have ed : didl c s t (n + 1) = didl c s t n + 1 := by show (if _ then _ else _) = _; rw [if_pos w]
        rw [e10, nI_1, ← ed] at y
        have := dry_x hc hs hv q m (n + 1) _ f' (upd g1 1 (nI ((t + n) % cv c + 1))) (by omega) hf' (upd_at _ rfl _) hgn' (hA (fun w' => y (by rw [w'])))
        rw [nI_1, nI_1, ← ed]; exact this
      · rw [oI_none hl] at w
        have ed : didl c s t (n + 1) = didl c s t n + 1 := by show (if _ then _ else _) = _; rw [if_pos w]
        rw [e10, nI_1, ← ed] at y
        have y' := (nI_eq (by omega) (by omega)).mp y
        have := q f' (upd g1 1 (nI ((t + n) % cv c + 1)))
        rw [hB y'] at this
        exact this
    refine sg_X2_tillDry_17 (fun w => ?_) (fun _ w => ?_) (fun w y z => ?_) (fun w y z => ?_)
    · rw [i_lt, nI_toInt (by omega), show (200 : Int32).toInt = 200 from rfl] at w
      have : m = 0 := by omega
      subst this
      have := q f g
      rw [← ha] at this
      exact this
    · have w' : nI (cv c) ≤ 0 := by have := (hcJ g).2.1; rw [this] at w; exact w
      rw [nI_le0 (by omega)] at w'; omega
    · rw [i_lt, nI_toInt (by omega), show (200 : Int32).toInt = 200 from rfl] at w
      rw [e1, (hcJ g).2.1, nI_ltI (by omega) (by omega)] at z
      exact fin g (by rw [hg]; congr 1; omega) (by omega)
    · rw [i_lt, nI_toInt (by omega), show (200 : Int32).toInt = 200 from rfl] at w
      rw [e1, (hcJ g).2.1, nI_ltI (by omega) (by omega)] at z
      rw [setI_setI]
      exact fin _ (by rw [upd_at _ rfl, show (t + n) % cv c = 0 by omega]; rfl) (by omega)
theorem dry_m {Q : Option Value → HIh → Prop} {c : HCf} {s : HCn} {t : Nat} (hm : MC I c) (hs : CnOk s) (ht : t ≤ cv c) (hv : 0 < cv c) (q : ∀ f g, (∀ x, x < 93 → g x = I 88 x) → Q (some (.int (dryA c s t 200 0))) (setI (setI I 97 f) 88 g)) (hgt : I 88 30 = nI t) : ∀ (m n : Nat) (f g : Nat → Int32), n + m = 200 → RowC g 93 (drun c s t n) → (∀ x, x < 93 → g x = I 88 x) → dryA c s t m n = dryA c s t 200 0 → HGo E (mF E (d + 5) Q) me_X12_dry 19 [(0, .ref 87), (1, .int (nI (didl c s t n))), (2, .int (nI n))] [] (setI (setI I 97 f) 88 g)
  | m, n, f, g, hj, hf, hg, ha => by
    have hV : cv c ≤ 24 := hm.2.2.2.2.2.2.2.2.2.2.2.2.2.1
    have hcp := hm.2.2.2.2.2.2.2.2.2.2.2.2.2.2
    have hmJ : MC (setI (setI I 97 f) 88 g) c := hm.of ⟨rfl, rfl, rfl, rfl, rfl, rfl, rfl⟩
    have hok : CnOk (drun c s t n) := drun_ok hs hv hcp
    have hmod := Nat.mod_lt (t + n) hv
    have di := didl_le (c := c) (s := s) (t := t) (j := n)
    have e1 : (setI (setI I 97 f) 88 g) 88 30 = nI t := (hg 30 (by omega)).trans hgt
    have em : ((setI (setI I 97 f) 88 g) 88 30 + nI n) - ((setI (setI I 97 f) 88 g) 88 30 + nI n) / (setI (setI I 97 f) 88 g) 87 13 * (setI (setI I 97 f) 88 g) 87 13 = nI ((t + n) % cv c) := by
      have hn : n ≤ 200 := by omega
      rw [e1, hmJ.2.1, nI_add, nI_mod (by omega) (by omega)]
    refine sg_X12_dry_19 (fun w => ?_) (fun _ w => ?_) (fun w => ?_) (fun w => ?_)
    · rw [i_le, nI_toInt (by omega), show (200 : Int32).toInt = 200 from rfl] at w
      have : m = 0 := by omega
      subst this
      have := q f g hg
      rw [← ha] at this
      exact this
    · rw [hmJ.2.1] at w
      have := (nI_eq (b := 0) (by omega) (by decide)).mp w
      omega
    · rw [em]; exact vp_in_nI (by omega) (by decide)
    · rw [i_le, nI_toInt (by omega), show (200 : Int32).toInt = 200 from rfl] at w
      obtain ⟨m, rfl⟩ : ∃ k, m = k + 1 := ⟨m - 1, by omega⟩
      rw [em, nI_clamp (by omega), hmJ.2.2.2.2.2.2.1 _ hmod]
      refine m_visitsBy (b := 93) hmJ hf (by decide) hok.l2 (hcp _ hmod) (fun f' g' h1' h2' => ?_)
      rw [st2 I (by decide)]
      have hg' : ∀ x, x < 93 → g' x = I 88 x := fun x hx => (h2' x (by omega)).trans (hg x hx)
      have hA : didl c s t (n + 1) ≠ cv c → dryA c s t m (n + 1) = dryA c s t 200 0 := fun w => by
        rw [← ha]
        show _ = if _ then _ else _
        rw [if_neg w]
      have hB : didl c s t (n + 1) = cv c → dryA c s t 200 0 = nI (n + 1) := fun w => by
        rw [← ha]
        show (if _ then _ else _) = _
        rw [if_pos w]
      have e10 : (setI (setI I 97 f') 88 g') 87 13 = nI (cv c) := hm.2.1
      by_cases hn : hab c (drun c s t n) (cp c ((t + n) % cv c)) = none
      · have ed : didl c s t (n + 1) = didl c s t n + 1 := by show (if _ then _ else _) = _; rw [if_pos hn]
        refine sg_X12_dry_51 (fun _ y => ?_) (fun _ y => ?_) (fun w => absurd (if_pos hn) w) (fun w => absurd (if_pos hn) w)
        · rw [e10, nI_1, ← ed] at y
          rw [nI_1, nI_1, ← ed]
          exact dry_m hm hs ht hv q hgt m (n + 1) f' g' (by omega) h1' hg' (hA (fun w' => y (by rw [w'])))
        · rw [e10, nI_1, ← ed] at y
          have y' := (nI_eq (by omega) (by omega)).mp y
          have := q f' g' hg'
          rw [hB y'] at this
          rw [nI_1]; exact this
      · have ed : didl c s t (n + 1) = 0 := by show (if _ then _ else _) = _; rw [if_neg hn]
        refine sg_X12_dry_51 (fun w => absurd ((if_neg hn).symm.trans w) (by decide)) (fun w => absurd ((if_neg hn).symm.trans w) (by decide)) (fun _ y => ?_) (fun _ y => ?_)
        · have := dry_m hm hs ht hv q hgt m (n + 1) f' g' (by omega) h1' hg' (hA (by omega))
          rw [ed] at this
          rw [nI_1]; exact this
        · rw [e10] at y
          have := (nI_eq (a := 0) (b := cv c) (by decide) (by omega)).mp y
          omega
theorem Rel.of93 {I J : HIh} (h : Rel I) (e : ∀ a, a ∈ keyL → a ≠ 88 → J a = I a) (r : ∀ x, x < 93 → J 88 x = I 88 x) : Rel J := by
  obtain ⟨c, s, t, hc, hm, hn, hk, ht, ho, hf, ha⟩ := h
  have g : ∀ a : Nat, a ∈ keyL → a ≠ 88 → ∀ j, J a j = I a j := fun a ha n j => congrFun (e a ha n) j
  refine ⟨c, s, t, hc.of ⟨e 1 (by decide) (by decide), e 6 (by decide) (by decide), e 7 (by decide) (by decide), e 8 (by decide) (by decide), e 9 (by decide) (by decide)⟩, hm.of ⟨g 87 (by decide) (by decide) 6, g 87 (by decide) (by decide) 13, g 87 (by decide) (by decide) 11, e 92 (by decide) (by decide), e 94 (by decide) (by decide), e 95 (by decide) (by decide), e 96 (by decide) (by decide)⟩, hn.of ⟨e 13 (by decide) (by decide), g 12 (by decide) (by decide) 1, fun x hx => r x (by omega)⟩, hk.of ⟨g 0 (by decide) (by decide) 6, e 89 (by decide) (by decide), e 15 (by decide) (by decide), e 16 (by decide) (by decide), e 17 (by decide) (by decide), e 18 (by decide) (by decide), fun x _ hx => r x hx⟩, ht.of ⟨g 19 (by decide) (by decide) 2, g 87 (by decide) (by decide) 3, e 20 (by decide) (by decide), e 90 (by decide) (by decide)⟩, ho.of ⟨g 80 (by decide) (by decide) 6, g 87 (by decide) (by decide) 27, e 83 (by decide) (by decide), e 84 (by decide) (by decide), e 101 (by decide) (by decide), e 102 (by decide) (by decide)⟩, hf.of ⟨g 10 (by decide) (by decide) 1, e 11 (by decide) (by decide), e 93 (by decide) (by decide)⟩, ha.of ⟨g 32 (by decide) (by decide) 4, g 32 (by decide) (by decide) 5, e 57 (by decide) (by decide), e 69 (by decide) (by decide)⟩⟩
theorem Rel.row {I : HIh} (h : Rel I) (g : Nat → Int32) (r : ∀ x, x < 93 → g x = I 88 x) : Rel (setI I 88 g) :=
  h.of93 (fun a _ n => setI_ne I g n) r
theorem t_dry (h : Rel I) : Twin E d me_X11_dry me_X12_dry [.ref 0] [.ref 87] I := by
  have H := h
  obtain ⟨c, s, t, hc, hm, hn, -⟩ := h
  obtain ⟨r1, r2, r3, r4, r5, r6⟩ := hn
  have hV : cv c ≤ 24 := hc.2.2.2.2.2.2.2.2.2.2.2.2.2.1
  refine h_met (by decide) rfl (Nat.le_of_ble_eq_true rfl) (sg_X11_dry_0 ?_)
  refine h_met (by decide) rfl (Nat.le_of_ble_eq_true rfl) (sg_X2_tillDry_0 (h := 12) (c := 13) (by decide) (by decide) (by decide) (by decide) (by decide) (by decide) ?_)
  by_cases hv : 0 < cv c
  · have hmod := Nat.mod_lt t hv
    refine dry_x hc r5 hv (fun f g => sg_X11_dry_11 ?_) 200 0 t (va_cpy (I 13) (I 35) 0 0 30) (upd (I 34) 1 (I 12 1)) rfl (LotC.cpy r1) ((upd_at _ rfl _).trans r2) (by
      by_cases w : t < cv c
      · left; exact (Nat.mod_eq_of_lt w).symm
      · right; exact ⟨by omega, by rw [show t + 0 = cv c by omega, Nat.mod_self]⟩) rfl
    have hm' : MC (setI (setI I 35 f) 34 g) c := hm.of ⟨rfl, rfl, rfl, rfl, rfl, rfl, rfl⟩
    refine h_met (by decide) rfl (Nat.le_of_ble_eq_true rfl) (sg_X12_dry_0 (fun _ => ?_) (fun w => ?_))
    · refine m_copy (a := 0) (b := 3) (by decide) (by decide) (by decide) (fun g1 h1 h2 => sg_X12_dry_15 ?_)
      have st := setI_id (setI (setI I 35 f) 34 g) 97
      rw [← st]
      refine dry_m hm' r5 r6 hv (fun f2 g2 h3 => ?_) r4 200 0 _ g1 rfl (RowC.cpy (a := 0) (b := 3) (f := I 88) r3 h1) (fun x hx => h2 x (by omega)) rfl
      exact ⟨_, rfl, rfl, (((H.scr f (by decide)).scr g (by decide)).scr f2 (by decide)).row g2 h3⟩
    · rw [hm'.2.1] at w
      have := (nI_eq (b := 0) (by omega) (by decide)).mp w
      omega
  · refine sg_X2_tillDry_17 (fun w => absurd w (by decide)) (fun _ _ => sg_X11_dry_11 ?_) (fun _ w => ?_) (fun _ w => ?_)
    · have hm' : (setI (setI I 35 (va_cpy (I 13) (I 35) 0 0 30)) 34 (upd (I 34) 1 (I 12 1))) 87 13 = nI (cv c) := hm.2.1
      refine h_met (by decide) rfl (Nat.le_of_ble_eq_true rfl) (sg_X12_dry_0 (fun w => ?_) (fun _ => ⟨_, rfl, rfl, (H.scr _ (by decide)).scr _ (by decide)⟩))
      exact absurd (hm'.trans (by rw [show cv c = 0 by omega]; rfl)) w
    all_goals
      exfalso
      have e : (setI (setI I 35 (va_cpy (I 13) (I 35) 0 0 30)) 34 (upd (I 34) 1 (I 12 1))) 1 10 = nI (cv c) := hc.2.1
      exact w (by show (setI (setI I 35 (va_cpy (I 13) (I 35) 0 0 30)) 34 (upd (I 34) 1 (I 12 1))) 1 10 ≤ 0; rw [e, nI_le0 (by omega)]; omega)
end OPS6
