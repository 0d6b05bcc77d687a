/-! what may have lain there: the call -/
section LAYC
variable {E : HEn} {d : Nat} {Q : Option Value → HIh → Prop} {I : HIh}
theorem LyI.s82 {J : HIh} {c : HCf} {fit : Nat → Bool} {v : Nat} (h : LyI I J c fit v) (f : Nat → Int32) : LyI I (setI J 82 f) c fit v := by
  obtain ⟨f1, f2, f3, f4, f5⟩ := h
  exact ⟨fun a n1 n2 n3 n4 => by rw [setI_ne _ _ n2]; exact f1 a n1 n2 n3 n4, f2, f3, f4, f5⟩
theorem search_loop {c : HCf} {nk nw : Nat → Nat} {m : Nat} (hc : CC I c) (h4 : cK c ≤ 4) (hm6 : m ≤ 6) (hs : I 80 6 = nI m) (hk : ∀ j, j < m → nk j < cK c ∧ I 83 j = nI (nk j) ∧ nw j ≤ 9999 ∧ I 84 j = nI (nw j)) (q : ∀ J, LyI I J c (isFit c nk nw m) (4 ^ cK c) → Q none J) : ∀ (n v : Nat) (J : HIh), v + n = 4 ^ cK c → LyI I J c (isFit c nk nw m) v → HGo E (mF E (d + 4) Q) me_X6_searchLayings 56 [(0, .ref 80), (1, .int (nI (4 ^ cK c))), (2, .int (nI v))] [] J
  | n, v, J, hv, h => by
    have h256 := (all_dec (cK c) (by omega)).2
    have f1 := h.1
    have hcJ : CC J c := hc.of ⟨f1 1 (by decide) (by decide) (by decide) (by decide), f1 6 (by decide) (by decide) (by decide) (by decide), f1 7 (by decide) (by decide) (by decide) (by decide), f1 8 (by decide) (by decide) (by decide) (by decide), f1 9 (by decide) (by decide) (by decide) (by decide)⟩
    have g83 : J 83 = I 83 := f1 83 (by decide) (by decide) (by decide) (by decide)
    have g84 : J 84 = I 84 := f1 84 (by decide) (by decide) (by decide) (by decide)
    refine sg_X6_searchLayings_56 (fun z => ?_) (fun z => ?_)
    · rw [nI_leI (by omega) (by omega)] at z
      have : v = 4 ^ cK c := by omega
      rw [this] at h
      exact q J h
    · rw [nI_leI (by omega) (by omega)] at z
      obtain ⟨n, rfl⟩ : ∃ k, n = k + 1 := ⟨n - 1, by omega⟩
      refine c_fits (nk := nk) (nw := nw) (m := m) hcJ h4 (by omega) hm6 ((h.2.1 6 (by decide) (by decide)).trans hs) (fun j hj => by rw [g83, g84]; exact hk j hj) (fun f => ?_)
      have h' := h.s82 f
      cases ef : isFit c nk nw m v with
      | true =>
        refine sg_X6_searchLayings_66 (fun w => absurd w (by rw [if_pos rfl]; decide)) (fun _ => ?_)
        refine c_tally hc h4 (by omega) ef h' (fun J' h2 => sg_X6_searchLayings_74 ?_)
        rw [nI_1]
        exact search_loop hc h4 hm6 hs hk q n (v + 1) J' (by omega) h2
      | false =>
        refine sg_X6_searchLayings_66 (fun _ => ?_) (fun w => absurd rfl w)
        rw [nI_1]
        refine search_loop hc h4 hm6 hs hk q n (v + 1) _ (by omega) ?_
        obtain ⟨a1, a2, a3, a4, a5⟩ := h'
        have nf : ¬ isFit c nk nw m v = true := by rw [ef]; decide
        refine ⟨a1, a2, ?_, ?_, fun k hk => ?_⟩
        · rw [lyC_s, if_neg nf]; exact a3
        · rw [lyF_s, if_neg nf]; exact a4
        · rw [lyL_s, lyM_s, if_neg nf, if_neg nf]; exact a5 k hk
theorem search_clear {c : HCf} (hc : CC I c) (h4 : cK c ≤ 4) (q : ∀ J, (∀ a, a ≠ 80 → a ≠ 82 → a ≠ 85 → a ≠ 86 → J a = I a) → (∀ j, j ≠ 7 → j ≠ 8 → J 80 j = I 80 j) → J 80 7 = 0 → J 80 8 = -1 → (∀ k, k < 6 → J 85 k = -1 ∧ J 86 k = -1) → HGo E (mF E (d + 4) Q) me_X6_searchLayings 56 [(0, .ref 80), (1, .int (nI (4 ^ cK c))), (2, .int 0)] [] J) : ∀ (n i : Nat) (J : HIh), i + n = 6 → (∀ a, a ≠ 80 → a ≠ 82 → a ≠ 85 → a ≠ 86 → J a = I a) → (∀ j, j ≠ 7 → j ≠ 8 → J 80 j = I 80 j) → J 80 7 = 0 → J 80 8 = -1 → (∀ k, k < i → J 85 k = -1 ∧ J 86 k = -1) → HGo E (mF E (d + 4) Q) me_X6_searchLayings 12 [(0, .ref 80), (1, .int (nI i))] [] J
  | n, i, J, hi, f1, f2, f3, f4, f5 => by
    refine sg_X6_searchLayings_12 (fun z => ?_) (fun z => ?_) (fun z => ?_)
    all_goals
      rw [i_le, nI_toInt (by omega), show (6 : Int32).toInt = 6 from rfl] at z
    · have : i = 6 := by omega
      subst this
      have e : (1 : Int32) <<< ((2 * fMin (J 1 9) 4) &&& 31) = nI (4 ^ cK c) := by
        rw [f1 1 (by decide) (by decide) (by decide) (by decide), hc.1]
        unfold fMin
        rw [if_neg (show ¬ (4 : Int32) < nI (cK c) from nI_nlt (a := 4) (by omega) (by omega))]
        exact (all_dec (cK c) (by omega)).1
      rw [e]
      exact q J f1 f2 f3 f4 f5
    · exact vp_in_nI (by omega) (by decide)
    · obtain ⟨n, rfl⟩ : ∃ k, n = k + 1 := ⟨n - 1, by omega⟩
      rw [nI_clamp (by omega), nI_1]
      refine search_clear hc h4 q n (i + 1) _ (by omega) (fun a n1 n2 n3 n4 => by rw [setI_ne _ _ n4, setI_ne _ _ n3]; exact f1 a n1 n2 n3 n4) f2 f3 f4 (fun k hk => ?_)
      show upd (J 85) i (-1) k = -1 ∧ upd (J 86) i (-1) k = -1
      by_cases e : k = i
      · subst e; rw [upd_at _ rfl, upd_at _ rfl]; exact ⟨rfl, rfl⟩
      · rw [upd_off _ e, upd_off _ e]; exact f5 k (by omega)
theorem c_search {c : HCf} {nk nw : Nat → Nat} {m : Nat} (hc : CC I c) (h4 : cK c ≤ 4) (hm6 : m ≤ 6) (hs : I 80 6 = nI m) (hk : ∀ j, j < m → nk j < cK c ∧ I 83 j = nI (nk j) ∧ nw j ≤ 9999 ∧ I 84 j = nI (nw j)) (q : ∀ J, LyI I J c (isFit c nk nw m) (4 ^ cK c) → Q none J) : HCall E me_X6_searchLayings (d + 4) [.ref 80] I Q := by
  refine h_met (by decide) rfl (Nat.le_of_ble_eq_true rfl) (sg_X6_searchLayings_0 ?_)
  rw [setI_setI]
  refine search_clear hc h4 (fun J f1 f2 f3 f4 f5 => ?_) 6 0 _ (by omega) (fun a n1 n2 n3 n4 => setI_ne _ _ n1) (fun j n7 n8 => by rw [setI_same, upd_off _ n8, upd_off _ n7]) (by rw [setI_same, upd_off _ (by decide), upd_at _ rfl]) (by rw [setI_same, upd_at _ rfl]) (fun k hk => absurd hk (by omega))
  exact search_loop hc h4 hm6 hs hk q (4 ^ cK c) 0 J (by omega) ⟨f1, f2, f3, f4, fun k hk => f5 k (by omega)⟩
theorem m_lay_loop {c : HCf} {nk nw : Nat → Nat} {m : Nat} {a : Int32} {ow : Nat → Nat} (hm : MC I c) (h4 : cK c ≤ 4) (hm6 : m ≤ 6) (hs : I 87 27 = nI m) (hk : ∀ j, j < m → nk j < cK c ∧ I 101 j = nI (nk j) ∧ nw j ≤ 9999 ∧ I 102 j = nI (nw j)) (how1 : 10 ≤ a → ∀ v, v < 256 → ((nI v >>> ((2 * ((nI (cK c) - 1) - (a - a / 10 * 10))) &&& 31)) &&& 3) = nI (ow v)) (how0 : ¬ 10 ≤ a → ∀ v, ow v = 0) (q : ∀ J, (∀ x, x ≠ 97 → x ≠ 88 → J x = I x) → (∀ x, x < 93 → J 88 x = I 88 x) → (a = 0 → Q (some (.int (nI (lyC (isFit c nk nw m) (4 ^ cK c))))) J) ∧ (a = 1 → Q (some (.int (lyF (isFit c nk nw m) (4 ^ cK c)))) J) ∧ (¬ a = 0 → ¬ a = 1 → ¬ 20 ≤ a → Q (some (.int (lyL (isFit c nk nw m) ow (4 ^ cK c)))) J) ∧ (¬ a = 0 → ¬ a = 1 → 20 ≤ a → Q (some (.int (lyM (isFit c nk nw m) ow (4 ^ cK c)))) J)) : ∀ (n v : Nat) (J : HIh), v + n = 4 ^ cK c → (∀ x, x ≠ 97 → x ≠ 88 → J x = I x) → (∀ x, x < 93 → J 88 x = I 88 x) → HGo E (mF E (d + 4) Q) me_X12_lay 75 [(0, .ref 87), (1, .int a), (2, .int (nI (lyC (isFit c nk nw m) v))), (3, .int (lyF (isFit c nk nw m) v)), (4, .int (lyL (isFit c nk nw m) ow v)), (5, .int (lyM (isFit c nk nw m) ow v)), (6, .int (nI v))] [] J
  | n, v, J, hv, f1, f2 => by
    have h256 := (all_dec (cK c) (by omega)).2
    have hmJ : MC J c := by
      have g : J 87 = I 87 := f1 87 (by decide) (by decide)
      exact hm.of ⟨by rw [g], by rw [g], by rw [g], f1 92 (by decide) (by decide), f1 94 (by decide) (by decide), f1 95 (by decide) (by decide), f1 96 (by decide) (by decide)⟩
    have eN : (1 : Int32) <<< ((2 * J 87 6) &&& 31) = nI (4 ^ cK c) := by rw [hmJ.1]; exact (all_dec (cK c) (by omega)).1
    have Q4 := q J f1 f2
    have fin : nI (4 ^ cK c) ≤ nI v → v = 4 ^ cK c := fun z => by rw [nI_leI (by omega) (by omega)] at z; omega
    refine sg_X12_lay_75 (fun z y w u => ?_) (fun z y w u => ?_) (fun z y w => ?_) (fun z y => ?_) (fun z => ?_)
    · rw [eN] at z; rw [fin z]; exact Q4.2.2.2 y w u
    · rw [eN] at z; rw [fin z]; exact Q4.2.2.1 y w u
    · rw [eN] at z; rw [fin z]; exact Q4.2.1 w
    · rw [eN] at z; rw [fin z]; exact Q4.1 y
    · rw [eN, nI_leI (by omega) (by omega)] at z
      obtain ⟨n, rfl⟩ : ∃ k, n = k + 1 := ⟨n - 1, by omega⟩
      have hv' : v < 256 := by omega
      refine m_isSo (nk := nk) (nw := nw) (m := m) hmJ h4 hv' hm6 (by rw [f1 87 (by decide) (by decide)]; exact hs) (fun j hj => by rw [f1 101 (by decide) (by decide), f1 102 (by decide) (by decide)]; exact hk j hj) (fun f g hg => ?_)
      have fr1 : ∀ x, x ≠ 97 → x ≠ 88 → (setI (setI J 97 f) 88 g) x = I x := fun x n1 n2 => by rw [setI_ne _ _ n2, setI_ne _ _ n1]; exact f1 x n1 n2
      have fr2 : ∀ x, x < 93 → (setI (setI J 97 f) 88 g) 88 x = I 88 x := fun x hx => (hg x hx).trans (f2 x hx)
      have rcc := m_lay_loop hm h4 hm6 hs hk how1 how0 q n (v + 1) (setI (setI J 97 f) 88 g) (by omega) fr1 fr2
      have e6 : (setI (setI J 97 f) 88 g) 87 6 = nI (cK c) := hmJ.1
      generalize (setI (setI J 97 f) 88 g) = K at rcc e6
      have hCv := lyC_le (fit := isFit c nk nw m) (n := v)
      have z0' : nI (lyC (isFit c nk nw m) v) = 0 ↔ lyC (isFit c nk nw m) v = 0 := nI_eq (b := 0) (by omega) (by decide)
      cases ef : isFit c nk nw m v with
      | false =>
        have nf : ¬ isFit c nk nw m v = true := by rw [ef]; decide
        rw [lyC_s, lyF_s, lyL_s, lyM_s, if_neg nf, if_neg nf, if_neg nf, if_neg nf] at rcc
        apply sg_X12_lay_94 <;> intros <;> first | contradiction | (rw [nI_1]; exact rcc)
      | true =>
        rw [lyC_s, lyF_s, lyL_s, lyM_s, if_pos ef, if_pos ef, if_pos ef, if_pos ef] at rcc
        have REC : ∀ x3 x4 x5 : Int32, x3 = (if lyC (isFit c nk nw m) v = 0 then nI v else lyF (isFit c nk nw m) v) → x4 = (if lyC (isFit c nk nw m) v = 0 then nI (ow v) else fMin (lyL (isFit c nk nw m) ow v) (nI (ow v))) → x5 = fMax (lyM (isFit c nk nw m) ow v) (nI (ow v)) → HGo E (mF E (d + 4) Q) me_X12_lay 75 [(0, .ref 87), (1, .int a), (2, .int (nI (lyC (isFit c nk nw m) v) + 1)), (3, .int x3), (4, .int x4), (5, .int x5), (6, .int (nI v + 1))] [] K := fun x3 x4 x5 h3 h4 h5 => by
          rw [h3, h4, h5, nI_1, nI_1]; exact rcc
        clear rcc
        by_cases ha : 10 ≤ a
        · have hE := how1 ha v hv'
          rw [← e6] at hE
          have F0 : nI (lyC (isFit c nk nw m) v) = 0 → nI v = (if lyC (isFit c nk nw m) v = 0 then nI v else lyF (isFit c nk nw m) v) := fun w => by rw [if_pos (z0'.mp w)]
          have F1 : ¬ nI (lyC (isFit c nk nw m) v) = 0 → lyF (isFit c nk nw m) v = (if lyC (isFit c nk nw m) v = 0 then nI v else lyF (isFit c nk nw m) v) := fun w => by rw [if_neg (fun y => w (z0'.mpr y))]
          have L0 : nI (lyC (isFit c nk nw m) v) = 0 → ((nI v >>> ((2 * ((K 87 6 - 1) - (a - a / 10 * 10))) &&& 31)) &&& 3) = (if lyC (isFit c nk nw m) v = 0 then nI (ow v) else fMin (lyL (isFit c nk nw m) ow v) (nI (ow v))) := fun w => by rw [if_pos (z0'.mp w), hE]
          have L1 : ¬ nI (lyC (isFit c nk nw m) v) = 0 → lyL (isFit c nk nw m) ow v ≤ ((nI v >>> ((2 * ((K 87 6 - 1) - (a - a / 10 * 10))) &&& 31)) &&& 3) → lyL (isFit c nk nw m) ow v = (if lyC (isFit c nk nw m) v = 0 then nI (ow v) else fMin (lyL (isFit c nk nw m) ow v) (nI (ow v))) := fun w y => by
            rw [hE] at y
            rw [if_neg (fun y => w (z0'.mpr y))]; unfold fMin; rw [if_neg (i_le_n y)]
          have L2 : ¬ nI (lyC (isFit c nk nw m) v) = 0 → ¬ lyL (isFit c nk nw m) ow v ≤ ((nI v >>> ((2 * ((K 87 6 - 1) - (a - a / 10 * 10))) &&& 31)) &&& 3) → ((nI v >>> ((2 * ((K 87 6 - 1) - (a - a / 10 * 10))) &&& 31)) &&& 3) = (if lyC (isFit c nk nw m) v = 0 then nI (ow v) else fMin (lyL (isFit c nk nw m) ow v) (nI (ow v))) := fun w y => by
            rw [hE] at y
            rw [hE, if_neg (fun y => w (z0'.mpr y))]; unfold fMin; rw [if_pos (i_nle y)]
          have M1 : ((nI v >>> ((2 * ((K 87 6 - 1) - (a - a / 10 * 10))) &&& 31)) &&& 3) ≤ lyM (isFit c nk nw m) ow v → lyM (isFit c nk nw m) ow v = fMax (lyM (isFit c nk nw m) ow v) (nI (ow v)) := fun y => by
            rw [hE] at y; unfold fMax; rw [if_neg (i_le_n y)]
          have M2 : ¬ ((nI v >>> ((2 * ((K 87 6 - 1) - (a - a / 10 * 10))) &&& 31)) &&& 3) ≤ lyM (isFit c nk nw m) ow v → ((nI v >>> ((2 * ((K 87 6 - 1) - (a - a / 10 * 10))) &&& 31)) &&& 3) = fMax (lyM (isFit c nk nw m) ow v) (nI (ow v)) := fun y => by
            rw [hE] at y; rw [hE]; unfold fMax; rw [if_pos (i_nle y)]
          apply sg_X12_lay_94 <;> intros <;> first | contradiction | exact REC _ _ _ (by first | exact F0 (by assumption) | exact F1 (by assumption)) (by first | exact L0 (by assumption) | exact L1 (by assumption) (by assumption) | exact L2 (by assumption) (by assumption)) (by first | exact M1 (by assumption) | exact M2 (by assumption))
        · have hE : nI (ow v) = 0 := by rw [how0 ha v]; rfl
          have F0 : nI (lyC (isFit c nk nw m) v) = 0 → nI v = (if lyC (isFit c nk nw m) v = 0 then nI v else lyF (isFit c nk nw m) v) := fun w => by rw [if_pos (z0'.mp w)]
          have F1 : ¬ nI (lyC (isFit c nk nw m) v) = 0 → lyF (isFit c nk nw m) v = (if lyC (isFit c nk nw m) v = 0 then nI v else lyF (isFit c nk nw m) v) := fun w => by rw [if_neg (fun y => w (z0'.mpr y))]
          have L0 : nI (lyC (isFit c nk nw m) v) = 0 → (0 : Int32) = (if lyC (isFit c nk nw m) v = 0 then nI (ow v) else fMin (lyL (isFit c nk nw m) ow v) (nI (ow v))) := fun w => by rw [if_pos (z0'.mp w), hE]
          have L1 : ¬ nI (lyC (isFit c nk nw m) v) = 0 → lyL (isFit c nk nw m) ow v ≤ 0 → lyL (isFit c nk nw m) ow v = (if lyC (isFit c nk nw m) v = 0 then nI (ow v) else fMin (lyL (isFit c nk nw m) ow v) (nI (ow v))) := fun w y => by
            rw [if_neg (fun y => w (z0'.mpr y)), hE]; unfold fMin; rw [if_neg (i_le_n y)]
          have L2 : ¬ nI (lyC (isFit c nk nw m) v) = 0 → ¬ lyL (isFit c nk nw m) ow v ≤ 0 → (0 : Int32) = (if lyC (isFit c nk nw m) v = 0 then nI (ow v) else fMin (lyL (isFit c nk nw m) ow v) (nI (ow v))) := fun w y => by
            rw [if_neg (fun y => w (z0'.mpr y)), hE]; unfold fMin; rw [if_pos (i_nle y)]
          have M1 : 0 ≤ lyM (isFit c nk nw m) ow v → lyM (isFit c nk nw m) ow v = fMax (lyM (isFit c nk nw m) ow v) (nI (ow v)) := fun y => by
            rw [hE]; unfold fMax; rw [if_neg (i_le_n y)]
          have M2 : ¬ 0 ≤ lyM (isFit c nk nw m) ow v → (0 : Int32) = fMax (lyM (isFit c nk nw m) ow v) (nI (ow v)) := fun y => by
            rw [hE]; unfold fMax; rw [if_pos (i_nle y)]
          apply sg_X12_lay_94 <;> intros <;> first | contradiction | exact REC _ _ _ (by first | exact F0 (by assumption) | exact F1 (by assumption)) (by first | exact L0 (by assumption) | exact L1 (by assumption) (by assumption) | exact L2 (by assumption) (by assumption)) (by first | exact M1 (by assumption) | exact M2 (by assumption))
end LAYC
