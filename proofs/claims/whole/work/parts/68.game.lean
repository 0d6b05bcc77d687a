/-! the game: levels, and side by side -/
def Exit (E : HEn) (d : Nat) (Q : Option Value → HIh → Prop) (many L : Nat) (K : HIh) : Prop :=
  (nI L + -1 < 0 → HGo E (mF E (d + 4) Q) me_X12_layGame 20 [(0, .ref 87), (1, .int (nI many)), (2, .int (nI L + -1))] [] K) ∧ (¬ nI L + -1 < 0 → vp_in ((K 88 30) + (nI L + -1)) 24) ∧ (¬ nI L + -1 < 0 → HCall E me_X12_takeUp (d + 3) [.ref 87, .int (nI L + -1), .int (K 96 (((K 88 30) + (nI L + -1)).toNatClampNeg))] K (fun v9 J => HGo E (mF E (d + 4) Q) me_X12_layGame 161 [(0, .ref 87), (1, .int (nI many)), (2, .int (nI L + -1))] (v9.toList ++ []) J))
section GAME2
variable {E : HEn} {d : Nat} {Q : Option Value → HIh → Prop} {I : HIh}
theorem lg_56 {c : HCf} {s : HCn} {many L : Nat} {J : HIh} (hL : L ≤ 6) (hm : MC J c) (hr : RowC (J 88) (31 * (3 + L)) s) (q : ∀ e, (∀ p, p < 4 → e (4 * L + p) = nI (wealth c s p)) → (∀ x, x < 4 * L → e x = J 99 x) → Exit E d Q many L (setI J 99 e)) : ∀ (m j : Nat) (e : Nat → Int32), j + m = 4 → (∀ p, p < j → e (4 * L + p) = nI (wealth c s p)) → (∀ x, x < 4 * L → e x = J 99 x) → HGo E (mF E (d + 4) Q) me_X12_layGame 56 [(0, .ref 87), (1, .int (nI many)), (2, .int (nI L)), (4, .int (nI j))] [] (setI J 99 e)
  | m, j, e, hj, h1, h2 => by
    have le : (4 : Int32) ≤ nI j ↔ 4 ≤ j := nI_leI (a := 4) (by omega) (by omega)
    refine sg_X12_layGame_56 (fun z y => ?_) (fun z y => ?_) (fun z y => ?_) (fun z => ?_)
    all_goals rw [le] at z
    · exact (q e (fun p hp => h1 p (by omega)) h2).1 y
    · exact (q e (fun p hp => h1 p (by omega)) h2).2.1 y
    · exact (q e (fun p hp => h1 p (by omega)) h2).2.2 y
    · obtain ⟨m, rfl⟩ : ∃ k, m = k + 1 := ⟨m - 1, by omega⟩
      have b2 : (31 : Int32) * (3 + nI L) = nI (31 * (3 + L)) := by rw [show (3 : Int32) = nI 3 from rfl, nI_add, show (31 : Int32) = nI 31 from rfl, pk_mul]
      have c2 : 4 * nI L + nI j = nI (4 * L + j) := by rw [show (4 : Int32) = nI 4 from rfl, pk_mul, nI_add]
      rw [b2, c2]
      refine m_worthOf (d := d + 2) (b := 31 * (3 + L)) (hm.set (q := 99) e (by decide)) (by rw [setI_ne _ _ (by decide)]; exact hr) (by omega) (by omega) (sg_X12_layGame_84 (vp_in_nI (by omega) (by decide)) ?_)
      rw [setI_setI, setI_same, nI_clamp (by omega), nI_1]
      refine lg_56 hL hm hr q m (j + 1) _ (by omega) (fun p hp => ?_) (fun x hx => ?_)
      · by_cases w : p = j
        · subst w; exact upd_at _ rfl _
        · rw [upd_off _ (by omega)]; exact h1 p (by omega)
      · rw [upd_off _ (by omega)]; exact h2 x hx
theorem g_level {c : HCf} {t0 many : Nat} (hmn : many ≤ 6) (ht0 : t0 + many = cv c) : ∀ (n L : Nat) (s : HCn) (J : HIh), L + n = many → MC J c → J 88 30 = nI t0 → RowC (J 88) (31 * (3 + L)) s → J 98 L = 0 → CnOk s → (∀ K, FrG L J K → GOut K L (play c (glOf 33825) n (t0 + L) s) → Exit E d Q many L K) → HGo E (mF E (d + 4) Q) me_X12_layGame 20 [(0, .ref 87), (1, .int (nI many)), (2, .int (nI L))] [] J
  | 0, L, s, J, hL, hm, hg, hr, h98, hok, q => by
    have hL' : L = many := hL
    subst hL'
    have np : ¬ nI L < 0 := nI_pos (by omega)
    refine sg_X12_layGame_20 (fun z => absurd z np) (fun _ _ z => absurd rfl z) (fun _ _ z => absurd rfl z) (fun _ _ z => absurd rfl z) (fun _ _ z => absurd rfl z) (fun _ _ z => absurd rfl z) (fun _ _ _ => ?_) (fun _ z => absurd (Int32.le_refl _) z) (fun _ z => absurd (Int32.le_refl _) z) (fun _ z => absurd (Int32.le_refl _) z) (fun _ z => absurd (Int32.le_refl _) z) (fun _ z => absurd (Int32.le_refl _) z) (fun _ z => absurd (Int32.le_refl _) z) (fun _ z => absurd (Int32.le_refl _) z)
    have := lg_56 (E := E) (d := d) (Q := Q) (many := L) hmn hm hr (fun e h1 h2 => q (setI J 99 e) ⟨fun a ha => setI_ne _ _ (fun w => ha (by rw [w]; decide)), fun _ _ => rfl, fun _ _ => rfl, fun x hx => by rw [setI_same]; exact h2 x hx, fun _ _ => rfl⟩ ⟨fun p hp => by rw [setI_same]; exact h1 p hp, fun i hi => absurd hi (Nat.not_lt_zero _)⟩) 4 0 (J 99) rfl (fun p hp => absurd hp (Nat.not_lt_zero _)) (fun _ _ => rfl)
    rw [setI_id] at this
    exact this
  | n + 1, L, s, J, hL, hm, hg, hr, h98, hok, q => by
    have hcf := hm.2.2.2.2.2.2.2
    have hK : cK c ≤ 6 := hcf.2.1
    have hV : cv c ≤ 24 := hcf.2.2.2.2.2.2.1
    have hcp : cp c (t0 + L) < 4 := hcf.2.2.2.2.2.2.2 _ (by omega)
    obtain ⟨hgl, hgL⟩ := gl_game _ hcp
    have hne : glOf 33825 (cp c (t0 + L)) ≠ 0 := by rw [hgl]; exact Nat.ne_of_gt (Nat.pow_pos (by decide))
    have hpf := play_free (c := c) (gl := glOf 33825) (n := n) (t := t0 + L) (s := s) hne
    rw [hpf, hgl] at q
    have np : ¬ nI L < 0 := nI_pos (by omega)
    have nle : ¬ nI many ≤ nI L := by rw [nI_leI (by omega) (by omega)]; omega
    have nne : ¬ nI L = nI many := by rw [nI_eq (by omega) (by omega)]; omega
    have hvis : ∀ {K}, MC K c → K 96 (nI (t0 + L)).toNatClampNeg = nI (cp c (t0 + L)) := fun {K} hk => by rw [nI_clamp (by omega)]; exact hk.2.2.2.2.2.2.1 _ (by omega)
    have hlen : ∀ o, (play c (glOf 33825) n (t0 + L + 1) (vst c s (cp c (t0 + L)) o)).2.length ≤ n := fun o => by
      rw [play_len]
      refine Nat.le_trans (sm_bound (b := 1) (fun j _ => ?_)) (by omega)
      split <;> omega
    generalize hW : cp c (t0 + L) = w at *
    have fb : ∀ o : Option Nat, (∀ k, o = some k → k < cK c ∧ 0 < s w k) → ∀ p, p < 4 → (play c (glOf 33825) n (t0 + L + 1) (vst c s w o)).1 p ≤ 599400 := fun o ho p hp => play_b hcf n _ _ (by omega) (vst_ok hok hcp (fun k e => (ho k e).2)) p hp
    -- one try behind another
    have loop : ∀ (mm k : Nat) (J' : HIh), k + mm = cK c → FrG L J J' → J' 98 L = nI (k + 1) → GOut J' L ((bestOf (fun r => gval (2 ^ w) r.1) (fun o => play c (glOf 33825) n (t0 + L + 1) (vst c s w o)) (fun k => decide (0 < s w k)) k).2.1, (bestOf (fun r => gval (2 ^ w) r.1) (fun o => play c (glOf 33825) n (t0 + L + 1) (vst c s w o)) (fun k => decide (0 < s w k)) k).1 :: (bestOf (fun r => gval (2 ^ w) r.1) (fun o => play c (glOf 33825) n (t0 + L + 1) (vst c s w o)) (fun k => decide (0 < s w k)) k).2.2) → HGo E (mF E (d + 4) Q) me_X12_layGame 20 [(0, .ref 87), (1, .int (nI many)), (2, .int (nI L))] [] J' := by
      intro mm
      induction mm with
      | zero =>
        intro k J' hk fr j98 go
        have : k = cK c := by omega
        subst this
        have hmJ := fr.mc hm
        have lt : J' 87 6 < J' 98 (nI L).toNatClampNeg := by rw [hmJ.1, nI_clamp (by omega), j98]; exact nI_lt (by omega) (by omega)
        have X := q J' fr go
        have v30 : vp_in (J' 88 30 + nI L) 24 := by rw [fr.g30, hg, nI_add]; exact vp_in_nI (by omega) (by decide)
        exact sg_X12_layGame_20 (fun z => absurd z np) (fun _ z => absurd z nle) (fun _ z => absurd z nle) (fun _ z => absurd z nle) (fun _ z => absurd z nle) (fun _ z => absurd z nle) (fun _ z => absurd z nle) (fun _ _ => v30) (fun _ _ _ => vp_in_nI (by omega) (by decide)) (fun _ _ _ _ y => X.1 y) (fun _ _ _ _ y => X.2.1 y) (fun _ _ _ _ y => X.2.2 y) (fun _ _ _ y => absurd lt y) (fun _ _ z => absurd z nne)
      | succ mm ih =>
        intro k J' hk fr j98 go
        have hmJ := fr.mc hm
        have nlt : ¬ J' 87 6 < J' 98 (nI L).toNatClampNeg := by rw [hmJ.1, nI_clamp (by omega), j98]; exact nI_nlt (by omega) (by omega)
        have v30 : vp_in (J' 88 30 + nI L) 24 := by rw [fr.g30, hg, nI_add]; exact vp_in_nI (by omega) (by decide)
        have bk := bestOf_is (fun r => gval (2 ^ w) r.1) (fun o => play c (glOf 33825) n (t0 + L + 1) (vst c s w o)) (fun k => decide (0 < s w k)) k
        have bval : ∀ j, (bestOf (fun r => gval (2 ^ w) r.1) (fun o => play c (glOf 33825) n (t0 + L + 1) (vst c s w o)) (fun k => decide (0 < s w k)) k).1 = some j → j < cK c ∧ 0 < s w j := fun j e => by have := bk.2 j e; exact ⟨by omega, of_decide_eq_true this.2⟩
        have bb := fb _ bval w hcp
        have stay : ¬ (0 < s w k ∧ gval (2 ^ w) (bestOf (fun r => gval (2 ^ w) r.1) (fun o => play c (glOf 33825) n (t0 + L + 1) (vst c s w o)) (fun k => decide (0 < s w k)) k).2.1 < gval (2 ^ w) (play c (glOf 33825) n (t0 + L + 1) (vst c s w (some k))).1) → bestOf (fun r => gval (2 ^ w) r.1) (fun o => play c (glOf 33825) n (t0 + L + 1) (vst c s w o)) (fun k => decide (0 < s w k)) (k + 1) = bestOf (fun r => gval (2 ^ w) r.1) (fun o => play c (glOf 33825) n (t0 + L + 1) (vst c s w o)) (fun k => decide (0 < s w k)) k := fun h => by
          show (if _ then _ else _) = _
          rw [if_neg (fun z => h ⟨of_decide_eq_true z.1, z.2⟩)]
        have take : 0 < s w k → gval (2 ^ w) (bestOf (fun r => gval (2 ^ w) r.1) (fun o => play c (glOf 33825) n (t0 + L + 1) (vst c s w o)) (fun k => decide (0 < s w k)) k).2.1 < gval (2 ^ w) (play c (glOf 33825) n (t0 + L + 1) (vst c s w (some k))).1 → bestOf (fun r => gval (2 ^ w) r.1) (fun o => play c (glOf 33825) n (t0 + L + 1) (vst c s w o)) (fun k => decide (0 < s w k)) (k + 1) = (some k, play c (glOf 33825) n (t0 + L + 1) (vst c s w (some k))) := fun h1 h2 => by
          show (if _ then _ else _) = _
          rw [if_pos ⟨decide_eq_true h1, h2⟩]
        refine sg_X12_layGame_20 (fun z => absurd z np) (fun _ z => absurd z nle) (fun _ z => absurd z nle) (fun _ z => absurd z nle) (fun _ z => absurd z nle) (fun _ z => absurd z nle) (fun _ z => absurd z nle) (fun _ _ => v30) (fun _ _ _ => vp_in_nI (by omega) (by decide)) (fun _ _ _ z => absurd z nlt) (fun _ _ _ z => absurd z nlt) (fun _ _ _ z => absurd z nlt) (fun _ _ _ _ => ?_) (fun _ _ z => absurd z nne)
        rw [fr.g30, hg, nI_add, hvis hmJ]
        refine m_opens (d := d) (c := c) (s := s) (j := k + 1) (by omega) hcp (by omega) hmJ (fr.row hr) hok j98 (fun k' e h0 => ?_) (fun o ho hv K0 a1 a2 a3 a4 a5 => ?_)
        · have : k = k' := by omega
          subst this
          refine sg_X12_layGame_113 (fun _ => vp_in_nI (by omega) (by decide)) (fun _ => ?_) (fun z => absurd rfl z)
          rw [nI_clamp (by omega), j98, nI_1]
          have hst := stay (by omega)
          refine ih (k + 1) _ (by omega) (fr.tr ⟨fun a ha => setI_ne _ _ (fun w => ha (by rw [w]; decide)), fun _ _ => rfl, fun x hx => by rw [setI_same, upd_off _ (by omega)], fun _ _ => rfl, fun _ _ => rfl⟩) (by rw [setI_same, upd_at _ rfl]) (by rw [hst]; exact go)
        · refine sg_X12_layGame_113 (fun z => absurd z (by decide)) (fun z => absurd z (by decide)) (fun _ => ?_)
          have ho' : o = some k := by
            cases o with
            | none => exact absurd ho (by show ¬ k + 1 = 0; omega)
            | some j => have : k + 1 = j + 1 := ho
                        rw [show k = j by omega]
          subst ho'
          have hsk := (hv k rfl).2
          have fr0 : FrG L J' K0 := ⟨fun a ha => a1 a (fun w => ha (by simp at w ⊢; omega)), a2, fun x hx => a3 x (by omega), fun x _ => by rw [a1 99 (by decide)], fun x _ => by rw [a1 100 (by decide)]⟩
          have frK := fr.tr fr0
          have fo := fb (some k) hv w hcp
          rw [nI_1]
          refine g_level hmn ht0 n (L + 1) (vst c s w (some k)) K0 (by omega) (frK.mc hm) (frK.g30.trans hg) a5 a4 (vst_ok hok hcp (fun k e => (hv k e).2)) (fun K fr1 go1 => ?_)
          have frK1 := frK.tr fr1.up
          have e1 : nI (L + 1) + -1 = nI L := by rw [← Int32.sub_eq_add_neg]; exact nI_pred L
          unfold Exit
          rw [e1]
          refine ⟨fun z => absurd z np, fun _ => by rw [frK1.g30, hg, nI_add]; exact vp_in_nI (by omega) (by decide), fun _ => ?_⟩
          rw [frK1.g30, hg, nI_add, hvis (frK1.mc hm)]
          have k98 : K 98 L = nI (k + 1) := by rw [fr1.2.2.1 L (by omega), a3 L (by omega)]; exact j98
          have kb : K 99 (4 * L + w) = nI ((bestOf (fun r => gval (2 ^ w) r.1) (fun o => play c (glOf 33825) n (t0 + L + 1) (vst c s w o)) (fun k => decide (0 < s w k)) k).2.1 w) := by
            rw [fr1.2.2.2.1 _ (by omega), a1 99 (by decide)]; exact go.1 w hcp
          have ka : K 99 (4 * (L + 1) + w) = nI ((play c (glOf 33825) n (t0 + L + 1) (vst c s w (some k))).1 w) := go1.1 w hcp
          rw [bk.1] at kb
          refine m_takeUp (d := d + 2) (by omega) hcp (by omega) k98 ka kb (fun _ y => sg_X12_layGame_161 (vp_in_nI (by omega) (by decide)) ?_) (fun y K2 b1 b2 b3 b4 b5 b6 => sg_X12_layGame_161 (vp_in_nI (by omega) (by decide)) ?_)
          · rw [nI_leI (by omega) (by omega)] at y
            have hst := stay (by
              rw [bk.1, gval_pow hcp, gval_pow hcp]
              omega)
            rw [nI_clamp (by omega), k98, nI_1]
            refine ih (k + 1) _ (by omega) (frK1.tr ⟨fun a ha => setI_ne _ _ (fun w => ha (by rw [w]; decide)), fun _ _ => rfl, fun x hx => by rw [setI_same, upd_off _ (by omega)], fun _ _ => rfl, fun _ _ => rfl⟩) (by rw [setI_same, upd_at _ rfl]) ?_
            rw [hst]
            refine ⟨fun p hp => ?_, fun i hi => ?_⟩
            · rw [setI_ne _ _ (by decide), fr1.2.2.2.1 _ (by omega), a1 99 (by decide)]; exact go.1 p hp
            · have hi' : i < n + 1 := by
                have := hlen (bestOf (fun r => gval (2 ^ w) r.1) (fun o => play c (glOf 33825) n (t0 + L + 1) (vst c s w o)) (fun k => decide (0 < s w k)) k).1
                rw [List.length_cons, bk.1] at hi
                omega
              rw [setI_ne _ _ (by decide), fr1.2.2.2.2 _ (by omega), a1 100 (by decide)]; exact go.2 i hi
          · have y' : ¬ nI ((play c (glOf 33825) n (t0 + L + 1) (vst c s w (some k))).1 w) ≤ nI ((play c (glOf 33825) n (t0 + L + 1) (vst c s w (bestOf (fun r => gval (2 ^ w) r.1) (fun o => play c (glOf 33825) n (t0 + L + 1) (vst c s w o)) (fun k => decide (0 < s w k)) k).1)).1 w) := y.resolve_left (by omega)
            rw [nI_leI (by omega) (by omega)] at y'
            have htk := take hsk (by
              rw [bk.1, gval_pow hcp, gval_pow hcp]
              omega)
            rw [nI_clamp (by omega), show K2 98 L = nI (k + 1) by rw [b1 98 (by decide) (by decide)]; exact k98, nI_1]
            have fr2 : FrG L K K2 := ⟨fun a ha => b1 a (fun w => ha (by rw [w]; decide)) (fun w => ha (by rw [w]; decide)), fun x _ => by rw [b1 88 (by decide) (by decide)], fun x _ => by rw [b1 98 (by decide) (by decide)], b2, b4⟩
            refine ih (k + 1) _ (by omega) ((frK1.tr fr2).tr ⟨fun a ha => setI_ne _ _ (fun w => ha (by rw [w]; decide)), fun _ _ => rfl, fun x hx => by rw [setI_same, upd_off _ (by omega)], fun _ _ => rfl, fun _ _ => rfl⟩) (by rw [setI_same, upd_at _ rfl]) ?_
            rw [htk]
            refine ⟨fun p hp => ?_, fun i hi => ?_⟩
            · rw [setI_ne _ _ (by decide), b3 p hp]; exact go1.1 p hp
            · rw [setI_ne _ _ (by decide)]
              cases i with
              | zero => exact b5
              | succ i =>
                have hl := hlen (some k)
                rw [List.length_cons] at hi
                dsimp only at hi
                have := b6 i (by omega)
                rw [show 7 * L + 1 + i = 7 * L + (i + 1) by omega] at this
                rw [this]
                exact go1.2 i (Nat.lt_of_succ_lt_succ hi)
    -- first: none
    have nlt : ¬ J 87 6 < J 98 (nI L).toNatClampNeg := by rw [hm.1, nI_clamp (by omega), h98]; exact nI_nlt (b := 0) (by omega) (by omega)
    refine sg_X12_layGame_20 (fun z => absurd z np) (fun _ z => absurd z nle) (fun _ z => absurd z nle) (fun _ z => absurd z nle) (fun _ z => absurd z nle) (fun _ z => absurd z nle) (fun _ z => absurd z nle) (fun _ _ => by rw [hg, nI_add]; exact vp_in_nI (by omega) (by decide)) (fun _ _ _ => vp_in_nI (by omega) (by decide)) (fun _ _ _ z => absurd z nlt) (fun _ _ _ z => absurd z nlt) (fun _ _ _ z => absurd z nlt) (fun _ _ _ _ => ?_) (fun _ _ z => absurd z nne)
    rw [hg, nI_add, hvis hm]
    refine m_opens (d := d) (c := c) (s := s) (j := 0) (by omega) hcp (by omega) hm hr hok h98 (fun k' e h0 => by omega) (fun o ho hv K0 a1 a2 a3 a4 a5 => ?_)
    refine sg_X12_layGame_113 (fun z => absurd z (by decide)) (fun z => absurd z (by decide)) (fun _ => ?_)
    have ho' : o = none := by
      cases o with
      | none => rfl
      | some j => exact absurd ho (by show ¬ 0 = j + 1; omega)
    subst ho'
    have fr0 : FrG L J K0 := ⟨fun a ha => a1 a (fun w => ha (by simp at w ⊢; omega)), a2, fun x hx => a3 x (by omega), fun x _ => by rw [a1 99 (by decide)], fun x _ => by rw [a1 100 (by decide)]⟩
    rw [nI_1]
    refine g_level hmn ht0 n (L + 1) (vst c s w none) K0 (by omega) (fr0.mc hm) (fr0.g30.trans hg) a5 a4 hok (fun K fr1 go1 => ?_)
    have frK1 := fr0.tr fr1.up
    have e1 : nI (L + 1) + -1 = nI L := by rw [← Int32.sub_eq_add_neg]; exact nI_pred L
    unfold Exit
    rw [e1]
    refine ⟨fun z => absurd z np, fun _ => by rw [frK1.g30, hg, nI_add]; exact vp_in_nI (by omega) (by decide), fun _ => ?_⟩
    rw [frK1.g30, hg, nI_add, hvis (frK1.mc hm)]
    have k98 : K 98 L = nI 0 := by rw [fr1.2.2.1 L (by omega), a3 L (by omega)]; exact h98
    refine m_takeUp (d := d + 2) (by omega) hcp (by omega) k98 rfl rfl (fun z => absurd rfl z) (fun _ K2 b1 b2 b3 b4 b5 b6 => sg_X12_layGame_161 (vp_in_nI (by omega) (by decide)) ?_)
    rw [nI_clamp (by omega), show K2 98 L = nI 0 by rw [b1 98 (by decide) (by decide)]; exact k98, nI_1]
    have fr2 : FrG L K K2 := ⟨fun a ha => b1 a (fun w => ha (by rw [w]; decide)) (fun w => ha (by rw [w]; decide)), fun x _ => by rw [b1 88 (by decide) (by decide)], fun x _ => by rw [b1 98 (by decide) (by decide)], b2, b4⟩
    refine loop (cK c) 0 _ (by omega) ((frK1.tr fr2).tr ⟨fun a ha => setI_ne _ _ (fun w => ha (by rw [w]; decide)), fun _ _ => rfl, fun x hx => by rw [setI_same, upd_off _ (by omega)], fun _ _ => rfl, fun _ _ => rfl⟩) (by rw [setI_same, upd_at _ rfl]) ⟨fun p hp => ?_, fun i hi => ?_⟩
    · rw [setI_ne _ _ (by decide), b3 p hp]; exact go1.1 p hp
    · rw [setI_ne _ _ (by decide)]
      cases i with
      | zero => exact b5
      | succ i =>
        have hl := hlen none
        have hi' : i + 1 < (play c (glOf 33825) n (t0 + L + 1) (vst c s w none)).2.length + 1 := hi
        have := b6 i (by omega)
        rw [show 7 * L + 1 + i = 7 * L + (i + 1) by omega] at this
        rw [this]
        exact go1.2 i (Nat.lt_of_succ_lt_succ hi')
theorem m_layGame {c : HCf} {s : HCn} {t0 : Nat} (ht0 : t0 ≤ cv c) (hmn : cv c - t0 ≤ 6) (hm : MC I c) (hr : RowC (I 88) 0 s) (hg : I 88 30 = nI t0) (hok : CnOk s) (q : ∀ K, (∀ a, a ∉ [88, 97, 98, 99, 100] → K a = I a) → (∀ x, x < 93 → K 88 x = I 88 x) → GOut K 0 (play c (glOf 33825) (cv c - t0) t0 s) → Q none K) : HCall E me_X12_layGame (d + 4) [.ref 87] I Q := by
  have hV : cv c ≤ 24 := hm.2.2.2.2.2.2.2.2.2.2.2.2.2.1
  refine h_met (by decide) rfl (Nat.le_of_ble_eq_true rfl) (sg_X12_layGame_0 (m_copy (d := d + 2) (a := 0) (b := 3) (by decide) (by decide) (by decide) (fun g g1 g2 => sg_X12_layGame_11 ?_)))
  have e30 : (setI I 88 g) 88 30 = nI t0 := by rw [setI_same, g2 30 (by omega)]; exact hg
  have e13 : (setI I 88 g) 87 13 = nI (cv c) := hm.2.1
  rw [hm.2.1, hg, nI_sub (by omega) ht0]
  have row : RowC ((setI I 88 g) 88) (31 * (3 + 0)) s := by
    rw [setI_same]
    have h0 : RowC (I 88) (31 * 0) s := hr
    exact h0.cpy (b := 3) (g := g) (fun j hj => g1 j hj)
  have L98 : ∀ J : HIh, (setI J 98 (upd (J 98) 0 0)) 98 0 = 0 := fun J => by rw [setI_same, upd_at _ rfl]
  refine g_level (c := c) (t0 := t0) hmn (by omega) (cv c - t0) 0 s _ (by omega) ((hm.set (q := 88) g (by decide)).set (q := 98) _ (by decide)) (by rw [setI_ne _ _ (by decide)]; exact e30) (by rw [setI_ne _ _ (by decide)]; exact row) (L98 _) hok (fun K fr go => ⟨fun _ => ?_, fun z => absurd (by decide) z, fun z => absurd (by decide) z⟩)
  have neg : nI 0 + -1 < 0 := by decide
  refine sg_X12_layGame_20 (fun _ => ?_) (fun z => absurd neg z) (fun z => absurd neg z) (fun z => absurd neg z) (fun z => absurd neg z) (fun z => absurd neg z) (fun z => absurd neg z) (fun z => absurd neg z) (fun z => absurd neg z) (fun z => absurd neg z) (fun z => absurd neg z) (fun z => absurd neg z) (fun z => absurd neg z) (fun z => absurd neg z)
  refine q K (fun a ha => ?_) (fun x hx => ?_) go
  · rw [fr.1 a ha, setI_ne _ _ (fun w => ha (by rw [w]; decide)), setI_ne _ _ (fun w => ha (by rw [w]; decide))]
  · rw [fr.2.1 x (by omega), setI_ne _ _ (by decide), setI_same, g2 x (by omega)]
theorem c_tooLong {c : HCf} {t : Nat} (hc : CC I c) (hg : I 12 1 = nI t) (ht : t ≤ cv c) (q0 : cv c - t ≤ 6 → Q (some (.int 0)) I) (q1 : ¬ cv c - t ≤ 6 → Q (some (.int 1)) I) : HCall E me_X11_tooLongForGame (d + 1) [.ref 0] I Q := by
  have hV : cv c ≤ 24 := hc.2.2.2.2.2.2.2.2.2.2.2.2.2.1
  have le : I 1 10 - I 12 1 ≤ 6 ↔ cv c - t ≤ 6 := by rw [hc.2.1, hg, nI_sub (by omega) ht]; exact nI_leI (b := 6) (by omega) (by decide)
  exact h_met (by decide) rfl (Nat.le_of_ble_eq_true rfl) (sg_X11_tooLongForGame_0 (fun z => q0 (le.mp z)) (fun z => q1 (fun w => z (le.mpr w))))
theorem t_game {a : Int32} (h : Rel I) : Twin E d me_X11_game me_X12_game [.ref 0, .int a] [.ref 87, .int a] I := by
  have H := h
  obtain ⟨c, s, t, hc, hm, hn, hk, htx, ho, hf, ha⟩ := h
  have hcf := hc.2.2.2.2.2.2.2
  have hV : cv c ≤ 24 := hcf.2.2.2.2.2.2.1
  obtain ⟨n1, n2, n3, n4, n5, n6⟩ := hn
  have le6 : I 87 13 - I 88 30 ≤ 6 ↔ cv c - t ≤ 6 := by rw [hm.2.1, n4, nI_sub (by omega) n6]; exact nI_leI (b := 6) (by omega) (by decide)
  refine h_met (by decide) rfl (Nat.le_of_ble_eq_true rfl) (sg_X11_game_0 (d := d + 28) (fun p1 p2 => ?_) (fun p1 => ?_))
  · obtain ⟨p, hp, rfl⟩ := px.mp ⟨p1, p2⟩
    refine c_tooLong (d := d + 68) hc n2 n6 (fun y => sg_X11_game_14 (fun _ => ?_) (fun z => absurd rfl z)) (fun y => sg_X11_game_14 (fun z => absurd z (by decide)) (fun _ => ?_))
    · have hln : (play c (glOf 33825) (cv c - t) t s).2.length ≤ 10 := by
        rw [play_len]
        refine Nat.le_trans (sm_bound (b := 1) (fun j _ => ?_)) (by omega)
        split <;> omega
      refine c_foresee (d := d + 28) (gl_game 0 (by decide)).2 hc n1 n2 n6 n5 ha hln (fun J fJ => sg_X11_game_33 (c_endOf (d := d + 67) hp (fJ.2.2.1 p hp) (sg_X11_game_41 ?_)))
      have e87 : J 87 = I 87 := fJ.1 87 (by decide) (by decide) (by decide) (by decide)
      have e88 : J 88 = I 88 := fJ.1 88 (by decide) (by decide) (by decide) (by decide)
      have le6J : J 87 13 - J 88 30 ≤ 6 := by rw [e87, e88]; exact le6.mpr y
      refine h_met (by decide) rfl (Nat.le_of_ble_eq_true rfl) (sg_X12_game_0 (d := d + 65) (fun _ _ _ => ?_) (fun _ _ z => absurd le6J z) (fun z => absurd ⟨p1, p2⟩ z))
      refine m_layGame (d := d + 65) n6 y (fJ.mc hm) (by rw [e88]; exact n3) (by rw [e88]; exact n4) n5 (fun K k1 k2 go => sg_X12_game_26 (vp_in_nI (by omega) (by decide)) ?_)
      have g1 := go.1 p hp
      rw [Nat.mul_zero, Nat.zero_add] at g1
      rw [nI_clamp (by omega), g1]
      exact ⟨_, rfl, rfl, Rel.fore hc hm ⟨n1, n2, n3, n4, n5, n6⟩ hk htx ho hf fJ (fun a _ a2 a3 a4 a5 a6 => k1 a (fun w => by simp at w; omega)) (fun j _ => by rw [k1 87 (by decide)]) k2⟩
    · exact h_met (by decide) rfl (Nat.le_of_ble_eq_true rfl) (sg_X12_game_0 (d := d + 65) (fun _ _ z => absurd (le6.mp z) y) (fun _ _ _ => ⟨_, rfl, rfl, H⟩) (fun z => absurd ⟨p1, p2⟩ z))
  · exact h_met (by decide) rfl (Nat.le_of_ble_eq_true rfl) (sg_X12_game_0 (d := d + 65) (fun w y _ => absurd ⟨w, y⟩ p1) (fun w y _ => absurd ⟨w, y⟩ p1) (fun _ => ⟨_, rfl, rfl, H⟩))
theorem t_choice {a : Int32} (h : Rel I) : Twin E d me_X11_choice me_X12_choice [.ref 0, .int a] [.ref 87, .int a] I := by
  have H := h
  obtain ⟨c, s, t, hc, hm, hn, hk, htx, ho, hf, ha⟩ := h
  have hcf := hc.2.2.2.2.2.2.2
  have hV : cv c ≤ 24 := hcf.2.2.2.2.2.2.1
  obtain ⟨n1, n2, n3, n4, n5, n6⟩ := hn
  have le6 : I 87 13 - I 88 30 ≤ 6 ↔ cv c - t ≤ 6 := by rw [hm.2.1, n4, nI_sub (by omega) n6]; exact nI_leI (b := 6) (by omega) (by decide)
  refine h_met (by decide) rfl (Nat.le_of_ble_eq_true rfl) (sg_X11_choice_0 (d := d + 28) (fun p1 => ?_) (fun p1 => ?_))
  · refine c_tooLong (d := d + 68) hc n2 n6 (fun y => sg_X11_choice_11 (fun _ => ?_) (fun z => absurd rfl z)) (fun y => sg_X11_choice_11 (fun z => absurd z (by decide)) (fun _ => ?_))
    · have hln : (play c (glOf 33825) (cv c - t) t s).2.length = cv c - t := by
        rw [play_len]
        have h1 : ∀ n, (∀ j, j < n → j < cv c - t) → sm (fun j => if glOf 33825 (cp c (t + j)) = 0 then 0 else 1) n = n := by
          intro n
          induction n with
          | zero => intro _; rfl
          | succ n ih =>
            intro hj
            have hcp := hcf.2.2.2.2.2.2.2 (t + n) (by have := hj n (by omega); omega)
            have e := (gl_game _ hcp).1
            show sm _ n + (if glOf 33825 (cp c (t + n)) = 0 then 0 else 1) = n + 1
            rw [ih (fun j h => hj j (by omega)), e, if_neg (Nat.ne_of_gt (Nat.pow_pos (by decide)))]
        exact h1 _ (fun j h => h)
      refine c_foresee (d := d + 28) (gl_game 0 (by decide)).2 hc n1 n2 n6 n5 ha (by omega) (fun J fJ => sg_X11_choice_30 ?_)
      have e87 : J 87 = I 87 := fJ.1 87 (by decide) (by decide) (by decide) (by decide)
      have e88 : J 88 = I 88 := fJ.1 88 (by decide) (by decide) (by decide) (by decide)
      have le6J : J 87 13 - J 88 30 ≤ 6 := by rw [e87, e88]; exact le6.mpr y
      have rel : ∀ K, (∀ a, a ∉ [88, 97, 98, 99, 100] → K a = J a) → (∀ x, x < 93 → K 88 x = J 88 x) → Rel K := fun K k1 k2 => Rel.fore hc hm ⟨n1, n2, n3, n4, n5, n6⟩ hk htx ho hf fJ (fun a _ a2 a3 a4 a5 a6 => k1 a (fun w => by simp at w; omega)) (fun j _ => by rw [k1 87 (by decide)]) k2
      have mm : ∀ (R : Option Value → HIh → Prop), (nI (cv c - t) ≤ a → ∀ K, Rel K → R (some (.int (-1))) K) → (∀ i, i < cv c - t → a = nI i → ∀ K, Rel K → R (some (.int (nI (dg ((play c (glOf 33825) (cv c - t) t s).2.getD i none))))) K) → HCall E me_X12_choice (d + 65 + 5) [.ref 87, .int a] J R := fun R r0 r1 => by
        refine h_met (by decide) rfl (Nat.le_of_ble_eq_true rfl) (sg_X12_choice_0 (d := d + 65) (fun _ _ => ?_) (fun _ z => absurd le6J z) (fun z => absurd p1 z))
        refine m_layGame (d := d + 65) n6 y (fJ.mc hm) (by rw [e88]; exact n3) (by rw [e88]; exact n4) n5 (fun K k1 k2 go => ?_)
        have eK : K 87 13 - K 88 30 = nI (cv c - t) := by
          rw [k1 87 (by decide), k2 30 (by decide), e87, e88, hm.2.1, n4, nI_sub (by omega) n6]
        refine sg_X12_choice_23 (fun z => r0 (by rw [← eK]; exact z) K (rel K k1 k2)) (fun z => ?_) (fun z => ?_)
        all_goals
          rw [eK] at z
          obtain ⟨i, hi, rfl⟩ := i_nat' p1 (by omega) (i_nle z)
        · exact vp_in_nI (by omega) (by decide)
        · have g2 := go.2 i (by rw [hln]; exact hi)
          rw [Nat.mul_zero, Nat.zero_add] at g2
          rw [nI_clamp (by omega), g2]
          exact r1 i hi rfl K (rel K k1 k2)
      refine c_step (d := d + 68) p1 (by omega) fJ.2.2.2.1 (fun u => sg_X11_choice_38 ?_) (fun i hi e => sg_X11_choice_38 ?_)
      · rw [hln] at u
        refine mm _ (fun _ K rK => ⟨_, rfl, rfl, rK⟩) (fun i hi e K rK => ?_)
        exfalso
        rw [e, nI_leI (by omega) (by omega)] at u; omega
      · subst e
        rw [fJ.2.2.2.2 i hi, dg_oI]
        rw [hln] at hi
        refine mm _ (fun u K rK => ?_) (fun j hj e K rK => ?_)
        · exfalso
          rw [nI_leI (by omega) (by omega)] at u; omega
        · have : i = j := (nI_eq (by omega) (by omega)).mp e
          subst this
          exact ⟨_, rfl, rfl, rK⟩
    · exact h_met (by decide) rfl (Nat.le_of_ble_eq_true rfl) (sg_X12_choice_0 (d := d + 65) (fun _ z => absurd (le6.mp z) y) (fun _ _ => ⟨_, rfl, rfl, H⟩) (fun z => absurd p1 z))
  · exact h_met (by decide) rfl (Nat.le_of_ble_eq_true rfl) (sg_X12_choice_0 (d := d + 65) (fun w _ => absurd w p1) (fun w _ => absurd w p1) (fun _ => ⟨_, rfl, rfl, H⟩))
end GAME2
