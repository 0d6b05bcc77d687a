/-! the calls, side by side: people, as, dry -/
theorem nI_div {a b : Nat} (ha : a < 2 ^ 31) (hb : b < 2 ^ 31) : nI a / nI b = nI (a / b) := by
  have h := Nat.div_le_self a b
  rw [i_eq, Int32.toInt_div, nI_toInt ha, nI_toInt hb, nI_toInt (by omega), ← Int.ofNat_tdiv]
  generalize a / b = x at h
  exact fb_bmod (by omega) (by omega)
theorem nI_sub {a b : Nat} (ha : a < 2 ^ 31) (hb : b ≤ a) : nI a - nI b = nI (a - b) := by
  rw [i_eq, fb_subI (by rw [nI_toInt ha, nI_toInt (by omega)]; omega) (by rw [nI_toInt ha, nI_toInt (by omega)]; omega), nI_toInt ha, nI_toInt (by omega), nI_toInt (by omega)]
  omega
theorem nI_mod {a b : Nat} (ha : a < 2 ^ 31) (hb : b < 2 ^ 31) : nI a - nI a / nI b * nI b = nI (a % b) := by
  have h1 : a / b * b ≤ a := Nat.div_mul_le_self a b
  have h2 : a % b = a - a / b * b := by rw [Nat.mod_eq_sub_mul_div, Nat.mul_comm]
  rw [nI_div ha hb, pk_mul, nI_sub ha h1, h2]
section OPS5
variable {E : HEn} {d : Nat} {I : HIh}
theorem m_person {Q : Option Value → HIh → Prop} {c : HCf} {s : HCn} {t p : Nat} {b : Int32} (hm : MC I c) (hn : RNow I c s t) (hp : p < 4) (q0 : b = 0 → Q (some (.int (nI (wealth c s p)))) I) (q1 : b = 1 → Q (some (.int (nI (ch c p)))) I) (q2 : b = 2 → Q (some (.int (if ch c p = 2 then nI (cb c p) else -1))) I) (q3 : b = 3 → Q (some (.int (fLeftM c ((1 : Int32) <<< (nI p &&& 31)) t (cv c - t)))) I) (q4 : ¬ b = 0 → ¬ b = 1 → ¬ b = 2 → ¬ b = 3 → Q (some (.int (-3))) I) : HCall E me_X12_person (d + 4) [.ref 87, .int (nI p), .int b] I Q := by
  obtain ⟨r1, r2, r3, r4, r5, r6⟩ := hn
  have hp' := px.mpr ⟨p, hp, rfl⟩
  have cl : (nI p).toNatClampNeg = p := nI_clamp (by omega)
  have v4 : vp_in (nI p) 4 := vp_in_nI (by omega) (by decide)
  have e94 : I 94 (nI p).toNatClampNeg = nI (ch c p) := by rw [cl, hm.2.2.2.2.1 p hp]
  have c2 : nI (ch c p) = 2 ↔ ch c p = 2 := nI_eq (b := 2) (by have := hm.2.2.2.2.2.2.2.2.2.2.2.1 p hp; omega) (by decide)
  refine h_met (by decide) rfl (Nat.le_of_ble_eq_true rfl) (sg_X12_person_0 (fun _ _ z => ?_) (fun _ _ _ _ => v4) (fun _ _ _ z => ?_) (fun _ _ _ _ _ => v4) (fun _ _ _ _ z y => ?_) (fun _ _ _ _ _ _ => v4) (fun _ _ _ _ z y => ?_) (fun _ _ _ _ _ z => ?_) (fun _ _ z0 z1 z2 z3 => q4 z0 z1 z2 z3) (fun z => absurd hp' z))
  · exact m_worthOf (b := 0) hm r3 (by decide) hp (sg_X12_person_46 (q0 z))
  · rw [e94]; exact q1 z
  · rw [e94, c2] at y
    have := q2 z
    rw [if_neg y] at this; exact this
  · rw [e94, c2] at y
    have := q2 z
    rw [if_pos y] at this
    rw [cl, hm.2.2.2.2.2.1 p hp y]; exact this
  · exact m_leftOf hm r4 r6 (sg_X12_person_82 (q3 z))
theorem t_person {a b : Int32} (h : Rel I) : Twin E d me_X11_person me_X12_person [.ref 0, .int a, .int b] [.ref 87, .int a, .int b] I := by
  have H := h
  obtain ⟨c, s, t, hc, hm, hn, -⟩ := h
  have hn' := hn
  obtain ⟨r1, r2, r3, r4, r5, r6⟩ := hn
  by_cases hp : ∃ p, p < 4 ∧ a = nI p
  · obtain ⟨p, hp, rfl⟩ := hp
    have hp' := px.mpr ⟨p, hp, rfl⟩
    have h3 := hc.2.2.2.2.2.2.2.2.2.2.2.1 p hp
    have ff := fFolk_n hc hp
    have fl : fLeft c ((1 : Int32) <<< (nI p &&& 31)) t (cv c - t) = fLeftM c ((1 : Int32) <<< (nI p &&& 31)) t (cv c - t) := fLeft_eq c _ t (bitp p hp) _ (fun j hj => hc.2.2.2.2.2.2.2.2.2.2.2.2.2.2 _ (by omega))
    have mp : ∀ r : Int32, (b = 0 → nI (wealth c s p) = r) → (b = 1 → nI (ch c p) = r) → (b = 2 → (if ch c p = 2 then nI (cb c p) else -1) = r) → (b = 3 → fLeftM c ((1 : Int32) <<< (nI p &&& 31)) t (cv c - t) = r) → (¬ b = 0 → ¬ b = 1 → ¬ b = 2 → ¬ b = 3 → (-3 : Int32) = r) → HCall E me_X12_person (d + 70) [.ref 87, .int (nI p), .int b] I (fun v' J' => ∃ r' : Int32, some (Value.int r) = some (.int r') ∧ v' = some (.int r') ∧ Rel J') := fun r g0 g1 g2 g3 g4 =>
      m_person hm hn' hp (fun z => ⟨r, rfl, vI (g0 z), H⟩) (fun z => ⟨r, rfl, vI (g1 z), H⟩) (fun z => ⟨r, rfl, vI (g2 z), H⟩) (fun z => ⟨r, rfl, vI (g3 z), H⟩) (fun z0 z1 z2 z3 => ⟨r, rfl, vI (g4 z0 z1 z2 z3), H⟩)
    rcases (show ch c p = 0 ∨ ch c p = 1 ∨ ch c p = 2 ∨ ch c p = 3 by omega) with e | e | e | e
    · have ff : fFolk (I 7) (nI p) = 2 := by rw [ff, e]; rfl
      refine h_met (by decide) rfl (Nat.le_of_ble_eq_true rfl) (sg_X11_person_N_0 (fun _ _ z => ?_) (fun _ _ w z => ?_) (fun _ _ w1 w z => ?_) (fun _ _ w2 w1 w z => ?_) (fun _ _ z0 z1 z2 z3 => mp _ (fun y => absurd y z0) (fun y => absurd y z1) (fun y => absurd y z2) (fun y => absurd y z3) (fun _ _ _ _ => rfl)) (fun z => absurd hp' z))
      · subst z
        exact c_wealth (h := 12) hc (by decide) r1 (by omega) (sg_X11_person_N_52 (mp _ (fun _ => rfl) (fun y => absurd y (by decide)) (fun y => absurd y (by decide)) (fun y => absurd y (by decide)) (fun y => absurd rfl y)))
      · subst z
        refine c_X9_folkOf ?_
        rw [ff]
        exact sg_X11_person_N_61 (mp _ (fun y => absurd y (by decide)) (fun _ => by rw [e]; rfl) (fun y => absurd y (by decide)) (fun y => absurd y (by decide)) (fun _ y => absurd rfl y))
      · subst z
        refine c_X9_folkOf ?_
        rw [ff]
        exact sg_X11_person_N_73 (mp _ (fun y => absurd y (by decide)) (fun y => absurd y (by decide)) (fun _ => by rw [if_neg (by omega)]) (fun y => absurd y (by decide)) (fun _ _ y => absurd rfl y))
      · subst z
        refine c_visitsLeft (h := 12) hc (by decide) r2 r6 (sg_X11_person_N_96 ?_)
        exact mp _ (fun y => absurd y (by decide)) (fun y => absurd y (by decide)) (fun y => absurd y (by decide)) (fun _ => fl.symm) (fun _ _ _ y => absurd rfl y)
    · have ff : fFolk (I 7) (nI p) = 3 := by rw [ff, e]; rfl
      refine h_met (by decide) rfl (Nat.le_of_ble_eq_true rfl) (sg_X11_person_G_0 (fun _ _ z => ?_) (fun _ _ w z => ?_) (fun _ _ w1 w z => ?_) (fun _ _ w2 w1 w z => ?_) (fun _ _ z0 z1 z2 z3 => mp _ (fun y => absurd y z0) (fun y => absurd y z1) (fun y => absurd y z2) (fun y => absurd y z3) (fun _ _ _ _ => rfl)) (fun z => absurd hp' z))
      · subst z
        exact c_wealth (h := 12) hc (by decide) r1 (by omega) (sg_X11_person_G_52 (mp _ (fun _ => rfl) (fun y => absurd y (by decide)) (fun y => absurd y (by decide)) (fun y => absurd y (by decide)) (fun y => absurd rfl y)))
      · subst z
        refine c_X9_folkOf ?_
        rw [ff]
        exact sg_X11_person_G_61 (mp _ (fun y => absurd y (by decide)) (fun _ => by rw [e]; rfl) (fun y => absurd y (by decide)) (fun y => absurd y (by decide)) (fun _ y => absurd rfl y))
      · subst z
        refine c_X9_folkOf ?_
        rw [ff]
        exact sg_X11_person_G_73 (mp _ (fun y => absurd y (by decide)) (fun y => absurd y (by decide)) (fun _ => by rw [if_neg (by omega)]) (fun y => absurd y (by decide)) (fun _ _ y => absurd rfl y))
      · subst z
        refine c_visitsLeft (h := 12) hc (by decide) r2 r6 (sg_X11_person_G_96 ?_)
        exact mp _ (fun y => absurd y (by decide)) (fun y => absurd y (by decide)) (fun y => absurd y (by decide)) (fun _ => fl.symm) (fun _ _ _ y => absurd rfl y)
    · have ff : fFolk (I 7) (nI p) = 4 := by rw [ff, e]; rfl
      refine h_met (by decide) rfl (Nat.le_of_ble_eq_true rfl) (sg_X11_person_W_0 (fun _ _ z => ?_) (fun _ _ w z => ?_) (fun _ _ w1 w z => ?_) (fun _ _ w2 w1 w z => ?_) (fun _ _ z0 z1 z2 z3 => mp _ (fun y => absurd y z0) (fun y => absurd y z1) (fun y => absurd y z2) (fun y => absurd y z3) (fun _ _ _ _ => rfl)) (fun z => absurd hp' z))
      · subst z
        exact c_wealth (h := 12) hc (by decide) r1 (by omega) (sg_X11_person_W_52 (mp _ (fun _ => rfl) (fun y => absurd y (by decide)) (fun y => absurd y (by decide)) (fun y => absurd y (by decide)) (fun y => absurd rfl y)))
      · subst z
        refine c_X9_folkOf ?_
        rw [ff]
        exact sg_X11_person_W_61 (mp _ (fun y => absurd y (by decide)) (fun _ => by rw [e]; rfl) (fun y => absurd y (by decide)) (fun y => absurd y (by decide)) (fun _ y => absurd rfl y))
      · subst z
        refine c_X9_folkOf ?_
        rw [ff]
        exact sg_X11_person_W_73 (mp _ (fun y => absurd y (by decide)) (fun y => absurd y (by decide)) (fun _ => by rw [if_pos e, fBnd_n _ hp, hc.2.2.2.2.2.1 p hp e]) (fun y => absurd y (by decide)) (fun _ _ y => absurd rfl y))
      · subst z
        refine c_visitsLeft (h := 12) hc (by decide) r2 r6 (sg_X11_person_W_96 ?_)
        exact mp _ (fun y => absurd y (by decide)) (fun y => absurd y (by decide)) (fun y => absurd y (by decide)) (fun _ => fl.symm) (fun _ _ _ y => absurd rfl y)
    · have ff : fFolk (I 7) (nI p) = 5 := by rw [ff, e]; rfl
      refine h_met (by decide) rfl (Nat.le_of_ble_eq_true rfl) (sg_X11_person_C_0 (fun _ _ z => ?_) (fun _ _ w z => ?_) (fun _ _ w1 w z => ?_) (fun _ _ w2 w1 w z => ?_) (fun _ _ z0 z1 z2 z3 => mp _ (fun y => absurd y z0) (fun y => absurd y z1) (fun y => absurd y z2) (fun y => absurd y z3) (fun _ _ _ _ => rfl)) (fun z => absurd hp' z))
      · subst z
        exact c_wealth (h := 12) hc (by decide) r1 (by omega) (sg_X11_person_C_52 (mp _ (fun _ => rfl) (fun y => absurd y (by decide)) (fun y => absurd y (by decide)) (fun y => absurd y (by decide)) (fun y => absurd rfl y)))
      · subst z
        refine c_X9_folkOf ?_
        rw [ff]
        exact sg_X11_person_C_61 (mp _ (fun y => absurd y (by decide)) (fun _ => by rw [e]; rfl) (fun y => absurd y (by decide)) (fun y => absurd y (by decide)) (fun _ y => absurd rfl y))
      · subst z
        refine c_X9_folkOf ?_
        rw [ff]
        exact sg_X11_person_C_73 (mp _ (fun y => absurd y (by decide)) (fun y => absurd y (by decide)) (fun _ => by rw [if_neg (by omega)]) (fun y => absurd y (by decide)) (fun _ _ y => absurd rfl y))
      · subst z
        refine c_visitsLeft (h := 12) hc (by decide) r2 r6 (sg_X11_person_C_96 ?_)
        exact mp _ (fun y => absurd y (by decide)) (fun y => absurd y (by decide)) (fun y => absurd y (by decide)) (fun _ => fl.symm) (fun _ _ _ y => absurd rfl y)
  · have n : ¬ ((0 : Int32) ≤ a ∧ a < 4) := fun z => hp (px.mp z)
    refine h_met (by decide) rfl (Nat.le_of_ble_eq_true rfl) (sg_X11_person_N_0 (fun z y => absurd ⟨z, y⟩ n) (fun z y => absurd ⟨z, y⟩ n) (fun z y => absurd ⟨z, y⟩ n) (fun z y => absurd ⟨z, y⟩ n) (fun z y => absurd ⟨z, y⟩ n) (fun _ => ?_))
    exact h_met (by decide) rfl (Nat.le_of_ble_eq_true rfl) (sg_X12_person_0 (fun z y => absurd ⟨z, y⟩ n) (fun z y => absurd ⟨z, y⟩ n) (fun z y => absurd ⟨z, y⟩ n) (fun z y => absurd ⟨z, y⟩ n) (fun z y => absurd ⟨z, y⟩ n) (fun z y => absurd ⟨z, y⟩ n) (fun z y => absurd ⟨z, y⟩ n) (fun z y => absurd ⟨z, y⟩ n) (fun z y => absurd ⟨z, y⟩ n) (fun _ => ⟨_, rfl, rfl, H⟩))
/-- who is one of those asked for -/
def isB (h : Nat) (b : Nat) : Bool := decide (b = 0) || (decide (b = 1) && decide (h = 0)) || (decide (b = 2) && !decide (h = 0)) || (decide (b = 3) && (decide (h = 1) || decide (h = 2))) || (decide (b = 4) && decide (h = 2)) || (decide (b = 5) && decide (h = 3))
theorem c_isA_N {Q : Option Value → HIh → Prop} {b : Nat} (hb : b < 6) (q : Q (some (.int (if isB 0 b = true then 1 else 0))) I) : HCall E me_X11_isA (d + 1) [.ref 2, .int (nI b)] I Q := by
  refine h_met (by decide) rfl (Nat.le_of_ble_eq_true rfl) ?_
  rcases (show b = 0 ∨ b = 1 ∨ b = 2 ∨ b = 3 ∨ b = 4 ∨ b = 5 by omega) with rfl | rfl | rfl | rfl | rfl | rfl <;> refine sg_X11_isA_N_0 (fun _ => ?_) (fun _ _ => ?_) (fun _ _ _ => ?_) (fun _ _ _ _ => ?_) (fun _ _ _ _ _ => ?_) (fun _ _ _ _ _ => ?_) <;> first | exact q | contradiction
theorem c_isA_G {Q : Option Value → HIh → Prop} {b : Nat} (hb : b < 6) (q : Q (some (.int (if isB 1 b = true then 1 else 0))) I) : HCall E me_X11_isA (d + 1) [.ref 3, .int (nI b)] I Q := by
  refine h_met (by decide) rfl (Nat.le_of_ble_eq_true rfl) ?_
  rcases (show b = 0 ∨ b = 1 ∨ b = 2 ∨ b = 3 ∨ b = 4 ∨ b = 5 by omega) with rfl | rfl | rfl | rfl | rfl | rfl <;> refine sg_X11_isA_G_0 (fun _ => ?_) (fun _ _ => ?_) (fun _ _ _ => ?_) (fun _ _ _ _ => ?_) (fun _ _ _ _ _ => ?_) (fun _ _ _ _ _ => ?_) <;> first | exact q | contradiction
theorem c_isA_W {Q : Option Value → HIh → Prop} {b : Nat} (hb : b < 6) (q : Q (some (.int (if isB 2 b = true then 1 else 0))) I) : HCall E me_X11_isA (d + 1) [.ref 4, .int (nI b)] I Q := by
  refine h_met (by decide) rfl (Nat.le_of_ble_eq_true rfl) ?_
  rcases (show b = 0 ∨ b = 1 ∨ b = 2 ∨ b = 3 ∨ b = 4 ∨ b = 5 by omega) with rfl | rfl | rfl | rfl | rfl | rfl <;> refine sg_X11_isA_W_0 (fun _ => ?_) (fun _ _ => ?_) (fun _ _ _ => ?_) (fun _ _ _ _ => ?_) (fun _ _ _ _ _ => ?_) (fun _ _ _ _ _ => ?_) <;> first | exact q | contradiction
theorem c_isA_C {Q : Option Value → HIh → Prop} {b : Nat} (hb : b < 6) (q : Q (some (.int (if isB 3 b = true then 1 else 0))) I) : HCall E me_X11_isA (d + 1) [.ref 5, .int (nI b)] I Q := by
  refine h_met (by decide) rfl (Nat.le_of_ble_eq_true rfl) ?_
  rcases (show b = 0 ∨ b = 1 ∨ b = 2 ∨ b = 3 ∨ b = 4 ∨ b = 5 by omega) with rfl | rfl | rfl | rfl | rfl | rfl <;> refine sg_X11_isA_C_0 (fun _ => ?_) (fun _ _ => ?_) (fun _ _ _ => ?_) (fun _ _ _ _ => ?_) (fun _ _ _ _ _ => ?_) (fun _ _ _ _ _ => ?_) <;> first | exact q | contradiction
theorem m_as {Q : Option Value → HIh → Prop} {c : HCf} {s : HCn} {t p b : Nat} (hm : MC I c) (hn : RNow I c s t) (hp : p < 4) (hb : b < 6) (q0 : isB (ch c p) b = false → Q (some (.int (-4))) I) (q1 : isB (ch c p) b = true → ∀ ft, Q (some (.int (oI (hab c s p)))) (setI I 97 ft)) : HCall E me_X12_as (d + 5) [.ref 87, .int (nI p), .int (nI b)] I Q := by
  obtain ⟨r1, r2, r3, r4, r5, r6⟩ := hn
  have hp' := px.mpr ⟨p, hp, rfl⟩
  have cl : (nI p).toNatClampNeg = p := nI_clamp (by omega)
  have v4 : vp_in (nI p) 4 := vp_in_nI (by omega) (by decide)
  have e94 : I 94 (nI p).toNatClampNeg = nI (ch c p) := by rw [cl, hm.2.2.2.2.1 p hp]
  have h3 := hm.2.2.2.2.2.2.2.2.2.2.2.1 p hp
  have K0 : isB (ch c p) b = false → HGo E (mF E (d + 5) Q) me_X12_as 94 [(0, .ref 87), (1, .int (nI p))] [.int 0] I := fun w => sg_X12_as_94 (fun _ => q0 w) (fun z => absurd rfl z)
  have K1 : isB (ch c p) b = true → HGo E (mF E (d + 5) Q) me_X12_as 94 [(0, .ref 87), (1, .int (nI p))] [.int 1] I := fun w => sg_X12_as_94 (fun z => absurd z (by decide)) (fun _ => m_byHabit (b := 0) hm r3 (by decide) r5.l2 hp (fun ft => sg_X12_as_107 (q1 w ft)))
  clear q0 q1
  have wb : (0 : Int64) ≤ (nI b).toInt64 ∧ ((nI b).toInt64 : Int64) ≤ 5 := (win (nI b) 0 5).mpr ⟨nI_pos' (by omega), by rw [i_le, nI_toInt (by omega), show (5 : Int32).toInt = 5 from rfl]; omega⟩
  refine h_met (by decide) rfl (Nat.le_of_ble_eq_true rfl) ?_
  generalize ch c p = h at h3 e94 K0 K1
  clear hm r1 r2 r3 r4 r5 r6
  rcases (show h = 0 ∨ h = 1 ∨ h = 2 ∨ h = 3 by omega) with rfl | rfl | rfl | rfl <;> rcases (show b = 0 ∨ b = 1 ∨ b = 2 ∨ b = 3 ∨ b = 4 ∨ b = 5 by omega) with rfl | rfl | rfl | rfl | rfl | rfl <;> clear h3 hb <;> apply sg_X12_as_0 <;> intros <;> first | exact K1 rfl | exact K0 rfl | exact v4 | contradiction | (simp only [e94] at *; contradiction)
end OPS5
