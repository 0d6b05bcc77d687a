/-! the calls, side by side: visits -/
theorem RowC.upd30 {f : Nat → Int32} {s : HCn} (h : RowC f 0 s) (x : Int32) : RowC (upd f 30 x) 0 s :=
  ⟨fun k hk => by rw [upd_off _ (by omega)]; exact h.1 k hk, fun i hi k hk => by rw [upd_off _ (by omega)]; exact h.2 i hi k hk⟩
/-- what changes by a visit -/
theorem Rel.visited {I J : HIh} {c : HCf} {s' : HCn} {t' : Nat} (hc : CC I c) (hm : MC I c) (hk : RKept I c) (ht : RText I) (ho : RNote I c) (hf : RFst I) (e : ∀ a, a ∈ keyL → a ≠ 12 → a ≠ 13 → a ≠ 88 → a ≠ 32 → J a = I a) (h1 : LotC (J 13) s') (h2 : J 12 1 = nI t') (h3 : RowC (J 88) 0 s') (h4 : J 88 30 = nI t') (h5 : CnOk s') (h6 : t' ≤ cv c) (h7 : ∀ x, 31 ≤ x → J 88 x = I 88 x) (h8 : J 32 4 = -1) : Rel J := by
  have g : ∀ a : Nat, a ∈ keyL → a ≠ 12 → a ≠ 13 → a ≠ 88 → a ≠ 32 → ∀ j, J a j = I a j := fun a ha n1 n2 n3 n4 j => congrFun (e a ha n1 n2 n3 n4) j
  exact ⟨c, s', t', hc.of ⟨e 1 (by decide) (by decide) (by decide) (by decide) (by decide), e 6 (by decide) (by decide) (by decide) (by decide) (by decide), e 7 (by decide) (by decide) (by decide) (by decide) (by decide), e 8 (by decide) (by decide) (by decide) (by decide) (by decide), e 9 (by decide) (by decide) (by decide) (by decide) (by decide)⟩, hm.of ⟨g 87 (by decide) (by decide) (by decide) (by decide) (by decide) 6, g 87 (by decide) (by decide) (by decide) (by decide) (by decide) 13, g 87 (by decide) (by decide) (by decide) (by decide) (by decide) 11, e 92 (by decide) (by decide) (by decide) (by decide) (by decide), e 94 (by decide) (by decide) (by decide) (by decide) (by decide), e 95 (by decide) (by decide) (by decide) (by decide) (by decide), e 96 (by decide) (by decide) (by decide) (by decide) (by decide)⟩, ⟨h1, h2, h3, h4, h5, h6⟩, hk.of ⟨g 0 (by decide) (by decide) (by decide) (by decide) (by decide) 6, e 89 (by decide) (by decide) (by decide) (by decide) (by decide), e 15 (by decide) (by decide) (by decide) (by decide) (by decide), e 16 (by decide) (by decide) (by decide) (by decide) (by decide), e 17 (by decide) (by decide) (by decide) (by decide) (by decide), e 18 (by decide) (by decide) (by decide) (by decide) (by decide), fun x hx _ => h7 x hx⟩, ht.of ⟨g 19 (by decide) (by decide) (by decide) (by decide) (by decide) 2, g 87 (by decide) (by decide) (by decide) (by decide) (by decide) 3, e 20 (by decide) (by decide) (by decide) (by decide) (by decide), e 90 (by decide) (by decide) (by decide) (by decide) (by decide)⟩, ho.of ⟨g 80 (by decide) (by decide) (by decide) (by decide) (by decide) 6, g 87 (by decide) (by decide) (by decide) (by decide) (by decide) 27, e 83 (by decide) (by decide) (by decide) (by decide) (by decide), e 84 (by decide) (by decide) (by decide) (by decide) (by decide), e 101 (by decide) (by decide) (by decide) (by decide) (by decide), e 102 (by decide) (by decide) (by decide) (by decide) (by decide)⟩, hf.of ⟨g 10 (by decide) (by decide) (by decide) (by decide) (by decide) 1, e 11 (by decide) (by decide) (by decide) (by decide) (by decide), e 93 (by decide) (by decide) (by decide) (by decide) (by decide)⟩, Or.inl h8⟩
theorem vs3 {I : HIh} {f1 f2 f3 f4 : Nat → Int32} {a : Nat} (n1 : a ≠ 12) (n2 : a ≠ 13) (n3 : a ≠ 88) (n4 : a ≠ 32) : setI (setI (setI (setI I 13 f1) 12 f2) 32 f3) 88 f4 a = I a := by
  rw [setI_ne _ _ n3, setI_ne _ _ n4, setI_ne _ _ n1, setI_ne _ _ n2]
theorem vs4 {I : HIh} {f1 f2 f3 f4 f5 : Nat → Int32} {a : Nat} (ha : a ∈ keyL) (n1 : a ≠ 12) (n2 : a ≠ 13) (n3 : a ≠ 88) (n4 : a ≠ 32) : setI (setI (setI (setI (setI I 13 f1) 12 f2) 32 f3) 97 f4) 88 f5 a = I a := by
  have n5 : a ≠ 97 := fun w => by subst w; exact absurd ha (by decide)
  rw [setI_ne _ _ n3, setI_ne _ _ n5, setI_ne _ _ n4, setI_ne _ _ n1, setI_ne _ _ n2]
theorem vs6 {I : HIh} {f1 f2 f3 f4 f5 f6 f7 : Nat → Int32} {a : Nat} (ha : a ∈ keyL) (n1 : a ≠ 12) (n2 : a ≠ 13) (n3 : a ≠ 88) (n4 : a ≠ 32) : setI (setI (setI (setI (setI (setI (setI I 13 f1) 12 f2) 32 f3) 97 f4) 97 f5) 88 f6) 88 f7 a = I a := by
  have n5 : a ≠ 97 := fun w => by subst w; exact absurd ha (by decide)
  rw [setI_ne _ _ n3, setI_ne _ _ n3, setI_ne _ _ n5, setI_ne _ _ n5, setI_ne _ _ n4, setI_ne _ _ n1, setI_ne _ _ n2]
section OPS3
variable {E : HEn} {d : Nat} {I : HIh}
theorem vis_eq {I : HIh} {c : HCf} {t : Nat} (hc : CC I c) (h : I 12 1 = nI t) (ht : t ≤ cv c) : (t < cv c ∧ fVis (I 1 10) (I 9) (I 12 1) = nI (cp c t) ∧ ¬ fVis (I 1 10) (I 9) (I 12 1) = -1) ∨ (t = cv c ∧ fVis (I 1 10) (I 9) (I 12 1) = -1) := by
  have hV : cv c ≤ 24 := hc.2.2.2.2.2.2.2.2.2.2.2.2.2.1
  by_cases q : t < cv c
  · refine Or.inl ⟨q, ?_⟩
    have e : fVis (I 1 10) (I 9) (I 12 1) = nI (cp c t) := by rw [h, hc.2.1, fVis_n _ q hV, hc.2.2.2.2.2.2.1 t q]
    have hp := hc.2.2.2.2.2.2.2.2.2.2.2.2.2.2 t q
    refine ⟨e, fun z => ?_⟩
    rw [e, i_eq, nI_toInt (by omega), zm1] at z; omega
  · exact Or.inr ⟨by omega, by rw [h, hc.2.1, fVis_out _ (by omega) (by omega)]⟩
theorem m_left0 {I : HIh} {c : HCf} {t : Nat} (hm : MC I c) (h : I 88 30 = nI t) (ht : t ≤ cv c) : I 87 13 - I 88 30 = 0 ↔ t = cv c := by
  have hV : cv c ≤ 24 := hm.2.2.2.2.2.2.2.2.2.2.2.2.2.1
  rw [hm.2.1, h, i_eq, fb_subI (by rw [nI_toInt (by omega), nI_toInt (by omega)]; omega) (by rw [nI_toInt (by omega), nI_toInt (by omega)]; omega), nI_toInt (by omega), nI_toInt (by omega), z0]
  omega
theorem nI_nm1 {k : Nat} (h : k < 2 ^ 31) : ¬ nI k = -1 := fun z => by rw [i_eq, nI_toInt h, zm1] at z; omega
theorem t_visit {a : Int32} (h : Rel I) : Twin E d me_X11_visit me_X12_visit [.ref 0, .int a] [.ref 87, .int a] I := by
  have H := h
  obtain ⟨c, s, t, hc, hm, hn, hk, ht, ho, hf, ha⟩ := h
  obtain ⟨r1, r2, r3, r4, r5, r6⟩ := hn
  have hK : cK c ≤ 6 := hc.2.2.2.2.2.2.2.2.1
  have hV : cv c ≤ 24 := hc.2.2.2.2.2.2.2.2.2.2.2.2.2.1
  have h2 := r5.l2
  have hv := vis_eq hc r2 r6
  have hl := m_left0 hm r4 r6
  have vp : ¬ I 87 13 - I 88 30 = 0 → vp_in (I 88 30) 24 := fun z => by
    have : t ≠ cv c := fun w => z (hl.mpr w)
    rw [r4]; exact vp_in_nI (by omega) (by decide)
  have vt : t < cv c → I 96 (I 88 30).toNatClampNeg = nI (cp c t) := fun z => by rw [r4, nI_clamp (by omega), hm.2.2.2.2.2.2.1 t z]
  by_cases an : a = -1
  · subst an
    rcases hv with ⟨v1, v2, v3⟩ | ⟨v1, v2⟩
    · refine h_met (by decide) rfl (Nat.le_of_ble_eq_true rfl) (sg_X11_visit_0 (fun _ z => absurd z v3) (fun _ _ _ z => absurd rfl z) (fun _ _ _ _ => ?_) (fun _ _ z => absurd rfl z) (fun _ _ z => absurd rfl z) (fun _ _ z => absurd rfl z) (fun z => absurd rfl z) (fun z => absurd rfl z) (fun z => absurd rfl z) (fun z => absurd rfl z) (fun z => absurd rfl z) (fun z => absurd rfl z) (fun z => absurd rfl z))
      refine c_letVisit (r := none) (h := 12) hc (by decide) r1 h2 r2 v1 (fun k e => by cases e) (fun f' hf' => ?_)
      refine sg_X11_visit_93 ?_
      refine h_met (by decide) rfl (Nat.le_of_ble_eq_true rfl) (sg_X12_visit_0 (fun _ => vp) (fun _ _ _ z => absurd rfl z) (fun _ _ _ _ _ => ?_) (fun _ _ _ _ z => absurd rfl z) (fun _ _ z => absurd rfl z) (fun _ z => absurd (hl.mp z) (by omega)) (fun z => absurd rfl z) (fun z => absurd rfl z) (fun z => absurd rfl z) (fun z => absurd rfl z) (fun z => absurd rfl z) (fun z => absurd rfl z) (fun z => absurd rfl z))
      refine ⟨_, rfl, rfl, Rel.visited (s' := s) (t' := t + 1) hc hm hk ht ho hf (fun a ha n1 n2 n3 n4 => vs3 n1 n2 n3 n4) hf' rfl (r3.upd30 _) (by show I 88 30 + 1 = _; rw [r4, nI_1]) r5 v1 (fun x hx => upd_off _ (by omega) _) rfl⟩
    · refine h_met (by decide) rfl (Nat.le_of_ble_eq_true rfl) (sg_X11_visit_0 (fun _ _ => ?_) (fun _ z => absurd v2 z) (fun _ z => absurd v2 z) (fun _ z => absurd v2 z) (fun _ z => absurd v2 z) (fun _ z => absurd v2 z) (fun z => absurd rfl z) (fun z => absurd rfl z) (fun z => absurd rfl z) (fun z => absurd rfl z) (fun z => absurd rfl z) (fun z => absurd rfl z) (fun z => absurd rfl z))
      have hl' := hl.mpr v1
      exact h_met (by decide) rfl (Nat.le_of_ble_eq_true rfl) (sg_X12_visit_0 (fun _ z => absurd hl' z) (fun _ z => absurd hl' z) (fun _ z => absurd hl' z) (fun _ z => absurd hl' z) (fun _ z => absurd hl' z) (fun _ _ => ⟨_, rfl, rfl, H⟩) (fun z => absurd rfl z) (fun z => absurd rfl z) (fun z => absurd rfl z) (fun z => absurd rfl z) (fun z => absurd rfl z) (fun z => absurd rfl z) (fun z => absurd rfl z))
  · by_cases hk' : ∃ k, k < cK c ∧ a = nI k
    · have a1 := (kx hc).mpr hk'
      have a2 := (km hm).mpr hk'
      obtain ⟨k, hkk, rfl⟩ := hk'
      rcases hv with ⟨v1, v2, v3⟩ | ⟨v1, v2⟩
      · have hp := hc.2.2.2.2.2.2.2.2.2.2.2.2.2.2 t v1
        have e : fOf (I 13) (fVis (I 1 10) (I 9) (I 12 1)) (nI k) = nI (s (cp c t) k) := by rw [v2, fOf_n _ (by omega) (by omega)]; exact r1 _ (by omega) k (by omega)
        have hl' : ¬ I 87 13 - I 88 30 = 0 := fun z => by have := hl.mp z; omega
        by_cases sk : 0 < s (cp c t) k
        · have e' : ¬ fOf (I 13) (fVis (I 1 10) (I 9) (I 12 1)) (nI k) = 0 := by
            rw [e]; intro z
            have := (nI_eq (b := 0) (by have := h2 (cp c t) (by omega) k (by omega); omega) (by decide)).mp z
            omega
          refine h_met (by decide) rfl (Nat.le_of_ble_eq_true rfl) (sg_X11_visit_0 (fun z => absurd z an) (fun z => absurd z an) (fun z => absurd z an) (fun z => absurd z an) (fun z => absurd z an) (fun z => absurd z an) (fun _ _ _ z => absurd z v3) (fun _ _ _ _ z => absurd z an) (fun _ _ _ _ z => absurd z an) (fun _ _ _ _ _ _ _ => ?_) (fun _ _ _ _ _ _ z => absurd z an) (fun _ _ _ _ _ z => absurd z e') (fun _ z => absurd a1 z))
          refine c_gainOf (h := 12) hc (by decide) r1.ft (fun j hj => h2 4 (by decide) j hj) hkk (sg_X11_visit_80 ?_)
          refine c_letVisit (r := some k) (h := 12) hc (by decide) r1 h2 r2 v1 (fun k' e => by cases e; exact ⟨hkk, sk⟩) (fun f' hf' => ?_)
          refine sg_X11_visit_93 ?_
          refine h_met (by decide) rfl (Nat.le_of_ble_eq_true rfl) (sg_X12_visit_0 (fun z => absurd z an) (fun z => absurd z an) (fun z => absurd z an) (fun z => absurd z an) (fun z => absurd z an) (fun z => absurd z an) (fun _ _ _ => vp) (fun _ _ _ _ z => absurd z an) (fun _ _ _ _ z => absurd z an) (fun _ _ _ _ z => absurd z an) (fun _ _ _ _ _ => ?_) (fun _ _ _ z => absurd z hl') (fun _ z => absurd a2 z))
          show HCall E me_X12_isHad _ [.ref 87, .int 0, .int (I 96 (I 88 30).toNatClampNeg), .int (nI k)] _ _
          rw [vt v1]
          refine m_isHad (b := 0) r3 (by decide) h2 hp (by omega) (fun _ => ?_) (fun w => absurd w (by omega))
          refine sg_X12_visit_51 (fun _ _ => ?_) (fun _ z => absurd z an) (fun _ z => absurd z an) (fun z => absurd z (by decide))
          refine m_gainOf (b := 0) (hm.of ⟨rfl, rfl, rfl, rfl, rfl, rfl, rfl⟩) r3.1 (by decide) (fun j hj => h2 4 (by decide) j hj) hkk (fun f1 _ => ?_)
          refine sg_X12_visit_72 (fun z => absurd z an) (fun _ => ?_)
          show HCall E me_X12_throwsOne _ [.ref 87, .int 0, .int (I 96 (I 88 30).toNatClampNeg), .int (nI k)] _ _
          rw [vt v1]
          refine m_throwsOne (b := 0) (hm.of ⟨rfl, rfl, rfl, rfl, rfl, rfl, rfl⟩) r3 (by decide) h2 hp hkk sk (fun f2 g hg1 hg2 => ?_)
          refine sg_X12_visit_85 ?_
          refine ⟨_, rfl, vI (Int32.add_comm _ _), Rel.visited (s' := vst c s (cp c t) (some k)) (t' := t + 1) hc hm hk ht ho hf (fun a ha n1 n2 n3 n4 => vs6 ha n1 n2 n3 n4) hf' rfl (RowC.upd30 hg1 _) (by show g 30 + 1 = _; rw [hg2 30 (by omega)]; show I 88 30 + 1 = _; rw [r4, nI_1]) (vst_ok r5 hp (fun k' e => by cases e; exact sk)) v1 (fun x hx => ?_) rfl⟩
          show upd g 30 _ x = I 88 x
          rw [upd_off _ (by omega)]; exact hg2 x (by omega)
        · have e' : fOf (I 13) (fVis (I 1 10) (I 9) (I 12 1)) (nI k) = 0 := by rw [e, show s (cp c t) k = 0 by omega]; rfl
          refine h_met (by decide) rfl (Nat.le_of_ble_eq_true rfl) (sg_X11_visit_0 (fun z => absurd z an) (fun z => absurd z an) (fun z => absurd z an) (fun z => absurd z an) (fun z => absurd z an) (fun z => absurd z an) (fun _ _ _ z => absurd z v3) (fun _ _ _ _ z => absurd z an) (fun _ _ _ _ z => absurd z an) (fun _ _ _ _ _ z => absurd e' z) (fun _ _ _ _ _ z => absurd e' z) (fun _ _ _ _ _ _ => ?_) (fun _ z => absurd a1 z))
          refine h_met (by decide) rfl (Nat.le_of_ble_eq_true rfl) (sg_X12_visit_0 (fun z => absurd z an) (fun z => absurd z an) (fun z => absurd z an) (fun z => absurd z an) (fun z => absurd z an) (fun z => absurd z an) (fun _ _ _ => vp) (fun _ _ _ _ z => absurd z an) (fun _ _ _ _ z => absurd z an) (fun _ _ _ _ z => absurd z an) (fun _ _ _ _ _ => ?_) (fun _ _ _ z => absurd z hl') (fun _ z => absurd a2 z))
          rw [vt v1]
          refine m_isHad (b := 0) r3 (by decide) h2 hp (by omega) (fun w => absurd w sk) (fun _ => ?_)
          exact sg_X12_visit_51 (fun z => absurd rfl z) (fun z => absurd rfl z) (fun z => absurd rfl z) (fun _ => ⟨_, rfl, rfl, H⟩)
      · refine h_met (by decide) rfl (Nat.le_of_ble_eq_true rfl) (sg_X11_visit_0 (fun z => absurd z an) (fun z => absurd z an) (fun z => absurd z an) (fun z => absurd z an) (fun z => absurd z an) (fun z => absurd z an) (fun _ _ _ _ => ?_) (fun _ _ _ z => absurd v2 z) (fun _ _ _ z => absurd v2 z) (fun _ _ _ z => absurd v2 z) (fun _ _ _ z => absurd v2 z) (fun _ _ _ z => absurd v2 z) (fun _ z => absurd a1 z))
        have hl' := hl.mpr v1
        exact h_met (by decide) rfl (Nat.le_of_ble_eq_true rfl) (sg_X12_visit_0 (fun z => absurd z an) (fun z => absurd z an) (fun z => absurd z an) (fun z => absurd z an) (fun z => absurd z an) (fun z => absurd z an) (fun _ _ _ z => absurd hl' z) (fun _ _ _ z => absurd hl' z) (fun _ _ _ z => absurd hl' z) (fun _ _ _ z => absurd hl' z) (fun _ _ _ z => absurd hl' z) (fun _ _ _ _ => ⟨_, rfl, rfl, H⟩) (fun _ z => absurd a2 z))
    · have a1 : ∀ z : (0 : Int32) ≤ a, ¬ a < I 1 9 := fun z y => hk' ((kx hc).mp ⟨z, y⟩)
      have a2 : ∀ z : (0 : Int32) ≤ a, ¬ a ≤ I 87 6 - 1 := fun z y => hk' ((km hm).mp ⟨z, y⟩)
      refine h_met (by decide) rfl (Nat.le_of_ble_eq_true rfl) (sg_X11_visit_0 (fun z => absurd z an) (fun z => absurd z an) (fun z => absurd z an) (fun z => absurd z an) (fun z => absurd z an) (fun z => absurd z an) (fun _ z y => absurd y (a1 z)) (fun _ z y => absurd y (a1 z)) (fun _ z y => absurd y (a1 z)) (fun _ z y => absurd y (a1 z)) (fun _ z y => absurd y (a1 z)) (fun _ z y => absurd y (a1 z)) (fun _ _ => ?_))
      exact h_met (by decide) rfl (Nat.le_of_ble_eq_true rfl) (sg_X12_visit_0 (fun z => absurd z an) (fun z => absurd z an) (fun z => absurd z an) (fun z => absurd z an) (fun z => absurd z an) (fun z => absurd z an) (fun _ z y => absurd y (a2 z)) (fun _ z y => absurd y (a2 z)) (fun _ z y => absurd y (a2 z)) (fun _ z y => absurd y (a2 z)) (fun _ z y => absurd y (a2 z)) (fun _ z y => absurd y (a2 z)) (fun _ _ => ⟨_, rfl, rfl, H⟩))
/-- coins behind a number of visits by habit -/
def hrun (c : HCf) (s : HCn) (t : Nat) : Nat → HCn
  | 0 => s
  | j + 1 => vst c (hrun c s t j) (cp c (t + j)) (hab c (hrun c s t j) (cp c (t + j)))
theorem hrun_ok {c : HCf} {s : HCn} {t : Nat} (h : CnOk s) : ∀ {j : Nat}, (∀ i, i < j → cp c (t + i) < 4) → CnOk (hrun c s t j)
  | 0, _ => h
  | j + 1, hj => vst_ok (hrun_ok h (fun i hi => hj i (by omega))) (hj j (by omega)) (fun k e => (hab_lt e).2)
theorem go_x {Q : Option Value → HIh → Prop} {c : HCf} {s : HCn} {t n : Nat} (hc : CC I c) (hs : CnOk s) (hn : n ≤ 24) (ht : t ≤ cv c) (q : ∀ f, LotC f (hrun c s t (min n (cv c - t))) → Q (some (.int (nI (t + min n (cv c - t))))) (setI (setI (setI I 13 f) 12 (upd (I 12) 1 (nI (t + min n (cv c - t))))) 32 (upd (I 32) 4 (-1)))) : ∀ (m j : Nat) (f : Nat → Int32), j + m = n → t + j ≤ cv c → LotC f (hrun c s t j) → HGo E (mF E (d + 5) Q) me_X11_go 16 [(0, .ref 0), (1, .int (nI n)), (2, .int (nI j))] [] (setI (setI I 13 f) 12 (upd (I 12) 1 (nI (t + j))))
  | m, j, f, hj, htj, hf => by
    have hV : cv c ≤ 24 := hc.2.2.2.2.2.2.2.2.2.2.2.2.2.1
    have hcp := hc.2.2.2.2.2.2.2.2.2.2.2.2.2.2
    have hcJ : CC (setI (setI I 13 f) 12 (upd (I 12) 1 (nI (t + j)))) c := hc.of ⟨rfl, rfl, rfl, rfl, rfl⟩
    have hok : CnOk (hrun c s t j) := hrun_ok hs (fun i hi => hcp _ (by omega))
    refine sg_X11_go_16 (fun z => ?_) (fun z y => ?_) (fun z y => ?_)
    · rw [nI_leI (by omega) (by omega)] at z
      have e : min n (cv c - t) = j := by omega
      rw [e] at q
      exact q f hf
    · rw [hcJ.2.1] at y
      have y' : nI (cv c) ≤ nI (t + j) := y
      rw [nI_leI (by omega) (by omega)] at y'
      rw [nI_leI (by omega) (by omega)] at z
      have e : min n (cv c - t) = j := by omega
      rw [e] at q
      exact q f hf
    · rw [hcJ.2.1] at y
      have y' : ¬ nI (cv c) ≤ nI (t + j) := y
      rw [nI_leI (by omega) (by omega)] at y'
      rw [nI_leI (by omega) (by omega)] at z
      obtain ⟨m, rfl⟩ : ∃ k, m = k + 1 := ⟨m - 1, by omega⟩
      refine c_habitual (h := 12) (t := t + j) hcJ (by decide) hf hok.l2 rfl (by omega) (sg_X11_go_57 ?_)
      refine c_letVisit (h := 12) (t := t + j) hcJ (by decide) hf hok.l2 rfl (by omega) (fun k e => hab_lt e) (fun f' hf' => ?_)
      refine sg_X11_go_60 ?_
      rw [show (12 + 1) = 13 from rfl, st2 I (by decide)]
      show HGo E _ _ _ _ _ (setI (setI I 13 f') 12 (upd (upd (I 12) 1 (nI (t + j))) 1 (nI (t + j + 1))))
      rw [upd_upd, nI_1]
      exact go_x hc hs hn ht q m (j + 1) f' (by omega) (by omega) hf'
theorem go_m {Q : Option Value → HIh → Prop} {c : HCf} {s : HCn} {t n : Nat} (hm : MC I c) (hs : CnOk s) (hn : n ≤ 24) (ht : t ≤ cv c) (q : ∀ f g, RowC g 0 (hrun c s t (min n (cv c - t))) → g 30 = nI (t + min n (cv c - t)) → (∀ x, 31 ≤ x → g x = I 88 x) → Q (some (.int (nI (t + min n (cv c - t))))) (setI (setI I 97 f) 88 g)) : ∀ (m j : Nat) (f g : Nat → Int32), j + m = n → t + j ≤ cv c → RowC g 0 (hrun c s t j) → g 30 = nI (t + j) → (∀ x, 31 ≤ x → g x = I 88 x) → HGo E (mF E (d + 5) Q) me_X12_go 17 [(0, .ref 87), (1, .int (nI n)), (2, .int (nI j))] [] (setI (setI I 97 f) 88 g)
  | m, j, f, g, hj, htj, h1, h2, h3 => by
    have hV : cv c ≤ 24 := hm.2.2.2.2.2.2.2.2.2.2.2.2.2.1
    have hcp := hm.2.2.2.2.2.2.2.2.2.2.2.2.2.2
    have hmJ : MC (setI (setI I 97 f) 88 g) c := hm.of ⟨rfl, rfl, rfl, rfl, rfl, rfl, rfl⟩
    have hok : CnOk (hrun c s t j) := hrun_ok hs (fun i hi => hcp _ (by omega))
    have e2 : (setI (setI I 97 f) 88 g) 88 30 = nI (t + j) := h2
    refine sg_X12_go_17 (fun z => ?_) (fun z y => ?_) (fun z y => ?_) (fun z y => ?_)
    · rw [nI_leI (by omega) (by omega)] at z
      have e : min n (cv c - t) = j := by omega
      rw [e] at q
      rw [e2]
      exact q f g h1 h2 h3
    · rw [hmJ.2.1, e2, nI_leI (by omega) (by omega)] at y
      rw [nI_leI (by omega) (by omega)] at z
      have e : min n (cv c - t) = j := by omega
      rw [e] at q
      rw [e2]
      exact q f g h1 h2 h3
    · rw [hmJ.2.1, e2, nI_leI (by omega) (by omega)] at y
      rw [e2]; exact vp_in_nI (by omega) (by decide)
    · rw [hmJ.2.1, e2, nI_leI (by omega) (by omega)] at y
      rw [nI_leI (by omega) (by omega)] at z
      obtain ⟨m, rfl⟩ : ∃ k, m = k + 1 := ⟨m - 1, by omega⟩
      rw [e2, nI_clamp (by omega), hmJ.2.2.2.2.2.2.1 _ (by omega)]
      refine m_visitsBy (b := 0) hmJ h1 (by decide) hok.l2 (hcp _ (by omega)) (fun f' g' h1' h2' => sg_X12_go_53 ?_)
      have e3 : g' 30 = nI (t + j) := (h2' 30 (by omega)).trans h2
      show HGo E _ _ _ _ _ (setI (setI (setI (setI (setI I 97 f) 88 g) 97 f') 88 g') 88 (upd g' 30 (g' 30 + 1)))
      rw [setI_setI, st2 I (by decide), e3, nI_1, nI_1]
      refine go_m hm hs hn ht q m (j + 1) f' _ (by omega) (by omega) (RowC.upd30 h1' _) (upd_at _ rfl _) (fun x hx => ?_)
      rw [upd_off _ (by omega)]; exact (h2' x (by omega)).trans (h3 x hx)
theorem t_go {a : Int32} (h : Rel I) : Twin E d me_X11_go me_X12_go [.ref 0, .int a] [.ref 87, .int a] I := by
  have H := h
  obtain ⟨c, s, t, hc, hm, hn, hk, ht, ho, hf, ha⟩ := h
  obtain ⟨r1, r2, r3, r4, r5, r6⟩ := hn
  have hV : cv c ≤ 24 := hc.2.2.2.2.2.2.2.2.2.2.2.2.2.1
  have hcp := hc.2.2.2.2.2.2.2.2.2.2.2.2.2.2
  have bw : ((1 : Int64) ≤ a.toInt64 ∧ (a.toInt64 : Int64) ≤ 24) ↔ (1 ≤ a ∧ a ≤ 24) := win a 1 24
  refine h_met (by decide) rfl (Nat.le_of_ble_eq_true rfl) (sg_X11_go_0 (fun z => ?_) (fun z y => ?_) (fun z y => ?_))
  · have q : ¬ ((1 : Int64) ≤ a.toInt64 ∧ (a.toInt64 : Int64) ≤ 24) := fun w => i_lt_n z (bw.mp w).1
    exact h_met (by decide) rfl (Nat.le_of_ble_eq_true rfl) (sg_X12_go_0 (fun w v => absurd ⟨w, v⟩ q) (fun _ => ⟨_, rfl, rfl, H⟩))
  · have q := bw.mpr ⟨i_nlt z, y⟩
    obtain ⟨n, hn, rfl⟩ := nI_of (x := a) (fun w => by rw [i_lt] at w z; have e1 : (1 : Int32).toInt = 1 := rfl; have e2 : (0 : Int32).toInt = 0 := rfl; omega)
    rw [i_le, nI_toInt (by omega), show (24 : Int32).toInt = 24 from rfl] at y
    rw [st_id I (p := 13) (q := 12) (i := 1) (x := nI (t + 0)) r2]
    refine go_x hc r5 (by omega) r6 (fun f hf' => ?_) n 0 (I 13) (by omega) (by omega) r1
    refine h_met (by decide) rfl (Nat.le_of_ble_eq_true rfl) (sg_X12_go_0 (fun _ _ => ?_) (fun z => absurd q z))
    have key := go_m (E := E) (d := d + 65) (I := (setI (setI (setI I 13 f) 12 (upd (I 12) 1 (nI (t + min n (cv c - t))))) 32 (upd (I 32) 4 (-1)))) (Q := fun v' J' => ∃ r : Int32, some (Value.int (nI (t + min n (cv c - t)))) = some (.int r) ∧ v' = some (.int r) ∧ Rel J') (hm.of ⟨rfl, rfl, rfl, rfl, rfl, rfl, rfl⟩) r5 (show n ≤ 24 by omega) r6 (fun f2 g h1 h2 h3 => ?_) n 0 (I 97) (I 88) (by omega) (by omega) r3 r4 (fun _ _ => rfl)
    · rw [show setI (setI (setI (setI (setI I 13 f) 12 (upd (I 12) 1 (nI (t + min n (cv c - t))))) 32 (upd (I 32) 4 (-1))) 97 (I 97)) 88 (I 88) = setI (setI (setI I 13 f) 12 (upd (I 12) 1 (nI (t + min n (cv c - t))))) 32 (upd (I 32) 4 (-1)) from by
        have e1 := setI_id (setI (setI (setI I 13 f) 12 (upd (I 12) 1 (nI (t + min n (cv c - t))))) 32 (upd (I 32) 4 (-1))) 97
        have e2 := setI_id (setI (setI (setI I 13 f) 12 (upd (I 12) 1 (nI (t + min n (cv c - t))))) 32 (upd (I 32) 4 (-1))) 88
        exact (congrArg (fun z => setI z 88 (I 88)) e1).trans e2] at key
      exact key
    · exact ⟨_, rfl, rfl, Rel.visited (s' := hrun c s t (min n (cv c - t))) (t' := t + min n (cv c - t)) hc hm hk ht ho hf (fun a ha n1 n2 n3 n4 => vs4 ha n1 n2 n3 n4) hf' rfl h1 h2 (hrun_ok r5 (fun i hi => hcp _ (by omega))) (by omega) h3 rfl⟩
  · have q : ¬ ((1 : Int64) ≤ a.toInt64 ∧ (a.toInt64 : Int64) ≤ 24) := fun w => y (bw.mp w).2
    exact h_met (by decide) rfl (Nat.le_of_ble_eq_true rfl) (sg_X12_go_0 (fun w v => absurd ⟨w, v⟩ q) (fun _ => ⟨_, rfl, rfl, H⟩))
end OPS3
