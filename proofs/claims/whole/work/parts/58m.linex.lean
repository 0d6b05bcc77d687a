/-! the draft as the lines tell -/
def DX (J : HIh) (S : HTl) : Prop := J 21 9 = nI (cK S.1) ∧ J 21 10 = nI (cv S.1) ∧ J 21 11 = nI (cl S.1) ∧ (∀ k, k < cK S.1 → J 26 k = nI (cw S.1 k)) ∧ (∀ i, i < 4 → J 27 i = nI (ch S.1 i)) ∧ (∀ i, i < 4 → ch S.1 i = 2 → J 28 i = nI (cb S.1 i)) ∧ (∀ t, t < cv S.1 → J 29 t = nI (cp S.1 t)) ∧ LotC (J 31) S.2
theorem DX.of {J K : HIh} {S : HTl} (h : DX J S) (e : K 21 = J 21 ∧ K 26 = J 26 ∧ K 27 = J 27 ∧ K 28 = J 28 ∧ K 29 = J 29 ∧ K 31 = J 31) : DX K S := by
  obtain ⟨e1, e2, e3, e4, e5, e6⟩ := e
  unfold DX; rw [e1, e2, e3, e4, e5, e6]; exact h
def DIx (S0 : HTl) (L : List (Nat × List Int32)) (J : HIh) : Prop := DX J (L.foldl tellP S0) ∧ okAll S0 L
theorem DIx.off (S0 : HTl) (L : List (Nat × List Int32)) (J K : HIh) (e : ∀ a, a ≠ 19 → K a = J a) (h : DIx S0 L J) : DIx S0 L K :=
  ⟨h.1.of ⟨e 21 (by decide), e 26 (by decide), e 27 (by decide), e 28 (by decide), e 29 (by decide), e 31 (by decide)⟩, h.2⟩
theorem FrD.of {I J : HIh} (e : Fr 19 [4, 5, 6, 7] I J) : FrD I J := ⟨fun a ha => e.1 a (fun w => ha (by rw [w]; decide)), e.2⟩
theorem FrD.tr {I J K : HIh} (h : FrD I J) (e : FrD J K) : FrD I K := ⟨fun a ha => (e.1 a ha).trans (h.1 a ha), fun j hj => (e.2 j hj).trans (h.2 j hj)⟩
theorem FrD.set {J : HIh} {q : Nat} (f : Nat → Int32) (hq : q ∈ [21, 26, 27, 28, 29, 31]) : FrD J (setI J q f) := by
  refine ⟨fun a ha => setI_ne _ _ (fun w => ha (by rw [w]; exact List.mem_cons_of_mem _ hq)), fun j hj => ?_⟩
  rw [setI_ne _ _ (fun w => by rw [← w] at hq; exact absurd hq (by decide))]
theorem Fr.six {I J : HIh} (e : Fr 19 [4, 5, 6] I J) : Fr 19 [4, 5, 6, 7] I J := ⟨e.1, fun j hj => e.2 j (fun w => hj (by simp at w ⊢; omega))⟩
theorem lot_put {f : Nat → Int32} {s : HCn} {o k b : Nat} (h : LotC f s) (ho : o < 5) (hk : k < 6) : LotC (fAdd f (nI o) (nI k) (nI b - fOf f (nI o) (nI k))) (fun o' k' => if o' = o ∧ k' = k then b else s o' k') := by
  rw [fAdd_n f ho hk, fOf_n f ho hk]
  have e : f (6 * o + k) + (nI b - f (6 * o + k)) = nI b := by rw [Int32.add_comm, Int32.sub_add_cancel]
  rw [e]
  intro o' ho' k' hk'
  by_cases w : o' = o ∧ k' = k
  · obtain ⟨rfl, rfl⟩ := w
    rw [upd_at _ rfl]; exact congrArg nI (if_pos ⟨rfl, rfl⟩).symm
  · rw [upd_off _ (by omega)]
    exact (h o' ho' k' hk').trans (congrArg nI (if_neg w).symm)
theorem tell_0 (S : HTl) (l : List Int32) : tellP S (0, l) = ((l.length, lG l, cl S.1, ch S.1, cb S.1, cv S.1, cp S.1), fun _ _ => 0) := rfl
theorem tell_1 (S : HTl) (l : List Int32) : tellP S (1, l) = (S.1, fun o k => if o = 4 ∧ k = lG l 0 then lG l 1 else S.2 o k) := rfl
theorem tell_2 (S : HTl) (l : List Int32) : tellP S (2, l) = (S.1, fun o k => if o = lG l 0 ∧ k = lG l 1 then lG l 2 else S.2 o k) := rfl
theorem tell_7 (S : HTl) (l : List Int32) : tellP S (7, l) = ((cK S.1, cw S.1, cl S.1, ch S.1, cb S.1, cv S.1 + l.length, fun t => if t < cv S.1 then cp S.1 t else lG l (t - cv S.1)), S.2) := rfl
theorem tell_8 (S : HTl) (l : List Int32) : tellP S (8, l) = ((cK S.1, cw S.1, lG l 0, ch S.1, cb S.1, cv S.1, cp S.1), S.2) := rfl
theorem tell_9 (S : HTl) (l : List Int32) : tellP S (9, l) = ((cK S.1, cw S.1, cl S.1, ch S.1, cb S.1, 0, cp S.1), S.2) := rfl
theorem tell_h (S : HTl) (l : List Int32) {w : Nat} (hw : w = 3 ∨ w = 4 ∨ w = 5 ∨ w = 6) : tellP S (w, l) = ((cK S.1, cw S.1, cl S.1, (fun i => if i = lG l 0 then w - 3 else ch S.1 i), (fun i => if i = lG l 0 then (if w = 5 then lG l 1 else 0) else cb S.1 i), cv S.1, cp S.1), S.2) := by
  rcases hw with rfl | rfl | rfl | rfl <;> rfl
theorem DX.hab {J K : HIh} {S : HTl} {l : List Int32} {w : Nat} {b g : Int32} (h : DX J S) (hw : w = 3 ∨ w = 4 ∨ w = 5 ∨ w = 6) (hb : b = nI (w - 3)) (hg : w = 5 → g = nI (lG l 1)) (e : K 21 = J 21 ∧ K 26 = J 26 ∧ K 29 = J 29 ∧ K 31 = J 31) (e27 : K 27 = upd (J 27) (lG l 0) b) (e28 : K 28 = upd (J 28) (lG l 0) g) : DX K (tellP S (w, l)) := by
  obtain ⟨d1, d2, d3, d4, d5, d6, d7, d8⟩ := h
  obtain ⟨e1, e2, e3, e4⟩ := e
  rw [tell_h S l hw]
  refine ⟨by rw [e1]; exact d1, by rw [e1]; exact d2, by rw [e1]; exact d3, by rw [e2]; exact d4, fun i hi => ?_, fun i hi hc => ?_, by rw [e3]; exact d7, by rw [e4]; exact d8⟩
  · rw [e27]
    by_cases u : i = lG l 0
    · rw [upd_at _ u.symm, hb]; exact congrArg nI (if_pos u).symm
    · rw [upd_off _ u]; exact (d5 i hi).trans (congrArg nI (if_neg u).symm)
  · rw [e28]
    have hc' : (if i = lG l 0 then w - 3 else ch S.1 i) = 2 := hc
    by_cases u : i = lG l 0
    · rw [if_pos u] at hc'
      have h5 : w = 5 := by omega
      rw [upd_at _ u.symm, hg h5]
      exact congrArg nI ((if_pos u).trans (if_pos h5)).symm
    · rw [if_neg u] at hc'
      rw [upd_off _ u]; exact (d6 i hi hc').trans (congrArg nI (if_neg u).symm)
section LINEX2
variable {E : HEn} {d : Nat} {Q : Option Value → HIh → Prop} {I : HIh}
theorem line_x (hrw : RWord E) {f : Nat → Nat} {n : Nat} {S0 : HTl} (h0 : SOk S0) : LineX E f n (DIx S0) := by
  intro d Q L J P k vc hD ht h9 h10 hvc qn q0 q1
  obtain ⟨hX, hok⟩ := hD
  have hS := okAll_ok h0 hok
  generalize hSS : L.foldl tellP S0 = S at hX hS
  have hX' := hX
  obtain ⟨d1, d2, d3, d4, d5, d6, d7, d8⟩ := hX
  have hK1 : 1 ≤ cK S.1 := hS.1.1
  have hK : cK S.1 ≤ 6 := hS.1.2.1
  have hV : cv S.1 ≤ 24 := hS.1.2.2.2.2.2.2.1
  have ek : nI k = nI (cK S.1) := h9.symm.trans d1
  have ev : vc = cv S.1 := (nI_eq (by omega) (by omega)).mp (h10.symm.trans d2)
  subst ev
  have er : ∀ w, restP f n k (cv S.1) w (tN f n P) = restP f n (cK S.1) (cv S.1) w (tN f n P) := fun w => by unfold restP; rw [ek]
  have fin : ∀ w l P', w ≤ 9 → tokB f n P = wd w → restP f n (cK S.1) (cv S.1) w (tN f n P) = (true, l, P') → ∀ K, FrD J K → TkX K f n P' → (okL S (w, l) → DX K (tellP S (w, l))) → Q (some (.int 1)) K := by
    intro w l P' hw ht' hr K e t dx'
    have hr' := (er w).trans hr
    have ho : okL S (w, l) := by
      have := rest_ok (f := f) (n := n) (P := tN f n P) hS hw (by rw [hr])
      rw [hr] at this; exact this
    have dx := dx' ho
    have := q1 w hw ht' (by rw [hr']) K e
    rw [hr'] at this
    refine this t ?_ ?_ ⟨?_, okAll_app hok ?_⟩
    · rw [dx.1, tell_kN]; unfold kN; split
      · rfl
      · exact ek.symm
    · rw [dx.2.1, tell_vN]
    · rw [List.foldl_append, hSS]; exact dx
    · rw [hSS]; exact ho
  have bad : ∀ w l P', w ≤ 9 → tokB f n P = wd w → restP f n (cK S.1) (cv S.1) w (tN f n P) = (false, l, P') → ∀ K, FrD J K → TkX K f n P' → Q (some (.int 0)) K := by
    intro w l P' hw ht' hr K e t
    have hr' := (er w).trans hr
    have := q0 w hw ht' (by rw [hr']) K e
    rw [hr'] at this
    exact this t
  have dxf : ∀ {K}, Fr 19 [4, 5, 6, 7] J K → DX K S := fun {K} e => hX'.of ⟨e.1 21 (by decide), e.1 26 (by decide), e.1 27 (by decide), e.1 28 (by decide), e.1 29 (by decide), e.1 31 (by decide)⟩
  have nb : ∀ b : Bool, vp_nar .boolean (if b = true then (1 : Int32) else 0) = (if b = true then (1 : Int32) else 0) := fun b => by cases b <;> rfl
  refine c_line_pick hrw ht (fun hn => qn (wO_no hn) J ⟨fun _ _ => rfl, fun _ _ => rfl⟩ ht) (fun e K f1 t1 => ?_) (fun e K f1 t1 => ?_) (fun e K f1 t1 => ?_) (fun e K f1 t1 => ?_) (fun e K f1 t1 => ?_) (fun e K f1 t1 => ?_) (fun e K f1 t1 => ?_) (fun e K f1 t1 => ?_) (fun e K f1 t1 => ?_) (fun e K f1 t1 => ?_)
  · refine h_met (by decide) rfl (Nat.le_of_ble_eq_true rfl) (sg_X7_readCoins_0 ?_)
    have go := coins_x (E := E) (d := d) (I := (setI (setI K 31 (fEmp (K 31))) 21 (upd (K 21) 9 0))) (f := f) (n := n) (R := restP f n (cK S.1) (cv S.1) 0 (tN f n P)) (Q := fun v9 J => HGo E (mF E (d + 5) Q) me_X7_readLine 13 [] (v9.toList ++ []) J) (fun J' hi t2 => ?_) 6 [] (tN f n P) 0 (setI (setI K 31 (fEmp (K 31))) 21 (upd (K 21) 9 0)) rfl ⟨fun _ _ _ _ => rfl, fun _ _ => rfl, fun _ _ => rfl, by rw [setI_same, upd_at _ rfl]; rfl, fun j hj => absurd hj (Nat.not_lt_zero _)⟩ (t1.same rfl rfl) rfl
    · exact go
    · refine sg_X7_readLine_13 (nb _) ?_
      generalize hR : restP f n (cK S.1) (cv S.1) 0 (tN f n P) = R at *
      obtain ⟨b, l, P'⟩ := R
      obtain ⟨i1, i2, i3, i4, i5⟩ := hi
      have fr : FrD J J' := (FrD.of f1.six).tr ⟨fun a ha => by
        have n19 : a ≠ 19 := fun w => ha (by rw [w]; decide)
        have n21 : a ≠ 21 := fun w => ha (by rw [w]; decide)
        have n26 : a ≠ 26 := fun w => ha (by rw [w]; decide)
        have n31 : a ≠ 31 := fun w => ha (by rw [w]; decide)
        rw [i1 a n19 n21 n26, setI_ne _ _ n21, setI_ne _ _ n31], fun j hj => i2 j hj⟩
      cases b with
      | false => exact bad 0 l P' (by decide) e hR J' fr t2
      | true =>
        refine fin 0 l P' (by decide) e hR J' fr t2 (fun ho => ?_)
        have hl := ho.2.1 rfl
        dsimp only at hl
        have dK := dxf f1.six
        rw [tell_0]
        refine ⟨i4, ?_, ?_, fun j hj => ?_, ?_, ?_, ?_, ?_⟩
        · rw [i3 10 (by decide), setI_same, upd_off _ (by decide)]; exact dK.2.1
        · rw [i3 11 (by decide), setI_same, upd_off _ (by decide)]; exact dK.2.2.1
        · exact (i5 j hj).trans ((hl.2.2 j hj).g (by decide)).2
        · rw [i1 27 (by decide) (by decide) (by decide)]; exact dK.2.2.2.2.1
        · rw [i1 28 (by decide) (by decide) (by decide)]; exact dK.2.2.2.2.2.1
        · rw [i1 29 (by decide) (by decide) (by decide)]; exact dK.2.2.2.2.2.2.1
        · rw [i1 31 (by decide) (by decide) (by decide)]
          intro o ho k hk
          show fEmp (K 31) (6 * o + k) = nI 0
          unfold fEmp
          rw [if_pos (by omega)]; rfl
  · refine c_readAmount (k := cK S.1) t1 (by rw [f1.1 21 (by decide)]; exact d1) (fun l P' hr K' e' t' => sg_X7_readLine_28 rfl (bad 1 l P' (by decide) e hr K' ((FrD.of f1.six).tr (FrD.of e')) t')) (fun v u P' hr K' e' t' => sg_X7_readLine_28 rfl (fin 1 [v, u] P' (by decide) e hr _ (((FrD.of f1.six).tr (FrD.of e')).tr (FrD.set _ (by decide))) (t'.same rfl rfl) (fun ho => ?_)))
    have hl := ho.2.2.1 rfl
    dsimp only at hl
    have g0 := hl.2.1.g (by omega)
    have g1 := hl.2.2.g (by decide)
    have e0 : v = nI (lG [v, u] 0) := g0.2
    have e1 : u = nI (lG [v, u] 1) := g1.2
    have dK := dxf (f1.six.tt e')
    obtain ⟨k1, k2, k3, k4, k5, k6, k7, k8⟩ := dK
    rw [tell_1]
    refine ⟨k1, k2, k3, k4, k5, k6, k7, ?_⟩
    have dJ := (dxf f1.six).2.2.2.2.2.2.2
    have := lot_put (o := 4) (b := lG [v, u] 1) dJ (by decide) (show lG [v, u] 0 < 6 by omega)
    rw [← e0, ← e1] at this
    exact this
  · refine x_one (d := d + 1) (Fr.refl _ _ K) t1 (fun hn K' e' t' => sg_X7_readLine_44 (fun _ => bad 2 [] _ (by decide) e (fixP_none hn) K' ((FrD.of f1.six).tr (FrD.of e')) t') (fun z => absurd rfl z)) (fun p hp K1 e1 t1' h7 => sg_X7_readLine_44 (fun z => absurd z (by decide)) (fun _ => ?_))
    rw [h7]
    have f2 := f1.six.tt e1
    refine c_readAmount (k := cK S.1) t1' (by rw [f2.1 21 (by decide)]; exact d1) (fun l P' hr K' e' t' => sg_X7_readLine_55 (fun _ => bad 2 (p :: l) P' (by decide) e ((fixP_some hp).trans (by rw [hr])) K' ((FrD.of f2).tr (FrD.of e')) t') (fun z => absurd rfl z)) (fun v u P' hr K' e' t' => sg_X7_readLine_55 (fun z => absurd z (by decide)) (fun _ => fin 2 [p, v, u] P' (by decide) e ((fixP_some hp).trans (by rw [hr])) _ (((FrD.of f2).tr (FrD.of e')).tr (FrD.set _ (by decide))) (t'.same rfl rfl) (fun ho => ?_)))
    have hl := ho.2.2.2.1 rfl
    dsimp only at hl
    have g0 := hl.2.1.g (by decide)
    have g1 := hl.2.2.1.g (by omega)
    have g2 := hl.2.2.2.g (by decide)
    have e0 : p = nI (lG [p, v, u] 0) := g0.2
    have e1' : v = nI (lG [p, v, u] 1) := g1.2
    have e2 : u = nI (lG [p, v, u] 2) := g2.2
    have dK := dxf (f2.tt e')
    obtain ⟨k1, k2, k3, k4, k5, k6, k7, k8⟩ := dK
    rw [tell_2]
    refine ⟨k1, k2, k3, k4, k5, k6, k7, ?_⟩
    have dJ := (dxf f2).2.2.2.2.2.2.2
    have := lot_put (o := lG [p, v, u] 0) (b := lG [p, v, u] 2) dJ (by omega) (show lG [p, v, u] 1 < 6 by omega)
    rw [← e0, ← e1', ← e2] at this
    exact this
  · refine c_readHabit t1 (fun l P' hr K' e' t' => sg_X7_readLine_78 rfl (bad 3 l P' (by decide) e hr K' ((FrD.of f1.six).tr (FrD.of e')) t')) (fun v P' hr hv K' e' t' => sg_X7_readLine_78 rfl (fin 3 [v] P' (by decide) e hr _ ((((FrD.of f1.six).tr (FrD.of e')).tr (FrD.set _ (by decide))).tr (FrD.set _ (by decide))) (t'.same rfl rfl) (fun ho => ?_)))
    have f2 := f1.six.tt e'
    refine hX'.hab (b := 0) (g := 0) (by decide) rfl (fun z => absurd z (by decide)) ⟨f2.1 21 (by decide), f2.1 26 (by decide), f2.1 29 (by decide), f2.1 31 (by decide)⟩ ?_ ?_
    · show upd (K 27) _ _ = _
      rw [f1.1 27 (by decide)]; rfl
    · show upd (K 28) _ _ = _
      rw [f1.1 28 (by decide)]; rfl
  · refine c_readHabit t1 (fun l P' hr K' e' t' => sg_X7_readLine_93 rfl (bad 4 l P' (by decide) e hr K' ((FrD.of f1.six).tr (FrD.of e')) t')) (fun v P' hr hv K' e' t' => sg_X7_readLine_93 rfl (fin 4 [v] P' (by decide) e hr _ ((((FrD.of f1.six).tr (FrD.of e')).tr (FrD.set _ (by decide))).tr (FrD.set _ (by decide))) (t'.same rfl rfl) (fun ho => ?_)))
    have f2 := f1.six.tt e'
    refine hX'.hab (b := 1) (g := 0) (by decide) rfl (fun z => absurd z (by decide)) ⟨f2.1 21 (by decide), f2.1 26 (by decide), f2.1 29 (by decide), f2.1 31 (by decide)⟩ ?_ ?_
    · show upd (K 27) _ _ = _
      rw [f1.1 27 (by decide)]; rfl
    · show upd (K 28) _ _ = _
      rw [f1.1 28 (by decide)]; rfl
  · refine c_readWaiting t1 (fun l P' hr K' e' t' => sg_X7_readLine_107 rfl (bad 5 l P' (by decide) e hr K' ((FrD.of f1.six).tr (FrD.of e')) t')) (fun v u P' hr hv hu K' e' t' => sg_X7_readLine_107 rfl (fin 5 [v, u] P' (by decide) e hr _ ((((FrD.of f1.six).tr (FrD.of e')).tr (FrD.set _ (by decide))).tr (FrD.set _ (by decide))) (t'.same rfl rfl) (fun ho => ?_)))
    have f2 := f1.six.tt e'
    have hl := ho.2.2.2.2.2.2.2 rfl
    dsimp only at hl
    have g1 := hl.2.2.g (by decide)
    refine hX'.hab (b := 2) (g := u) (by decide) rfl (fun _ => g1.2) ⟨f2.1 21 (by decide), f2.1 26 (by decide), f2.1 29 (by decide), f2.1 31 (by decide)⟩ ?_ ?_
    · show upd (K 27) _ _ = _
      rw [f1.1 27 (by decide)]; rfl
    · show upd (K 28) _ _ = _
      rw [f1.1 28 (by decide)]; rfl
  · refine c_readHabit t1 (fun l P' hr K' e' t' => sg_X7_readLine_122 rfl (bad 6 l P' (by decide) e hr K' ((FrD.of f1.six).tr (FrD.of e')) t')) (fun v P' hr hv K' e' t' => sg_X7_readLine_122 rfl (fin 6 [v] P' (by decide) e hr _ ((((FrD.of f1.six).tr (FrD.of e')).tr (FrD.set _ (by decide))).tr (FrD.set _ (by decide))) (t'.same rfl rfl) (fun ho => ?_)))
    have f2 := f1.six.tt e'
    refine hX'.hab (b := 3) (g := 0) (by decide) rfl (fun z => absurd z (by decide)) ⟨f2.1 21 (by decide), f2.1 26 (by decide), f2.1 29 (by decide), f2.1 31 (by decide)⟩ ?_ ?_
    · show upd (K 27) _ _ = _
      rw [f1.1 27 (by decide)]; rfl
    · show upd (K 28) _ _ = _
      rw [f1.1 28 (by decide)]; rfl
  · refine h_met (by decide) rfl (Nat.le_of_ble_eq_true rfl) (sg_X7_readVisits_0 ?_)
    have go := visits_x (E := E) (d := d) (I := K) (f := f) (n := n) (vc := cv S.1) (R := restP f n (cK S.1) (cv S.1) 7 (tN f n P)) (Q := fun v9 J => HGo E (mF E (d + 5) Q) me_X7_readLine 136 [] (v9.toList ++ []) J) (fun J' hi t2 => ?_) 9 [] (tN f n P) 0 K rfl (by show cv S.1 + 0 ≤ 24; omega) ⟨fun _ _ _ _ => rfl, fun _ _ => rfl, fun _ _ => rfl, by rw [f1.1 21 (by decide)]; exact d2, fun _ _ => rfl, fun j hj => absurd hj (Nat.not_lt_zero _)⟩ t1 rfl
    · exact go
    · refine sg_X7_readLine_136 (nb _) ?_
      generalize hR : restP f n (cK S.1) (cv S.1) 7 (tN f n P) = R at *
      obtain ⟨b, l, P'⟩ := R
      obtain ⟨i1, i2, i3, i4, i5, i6⟩ := hi
      dsimp only at i1 i2 i3 i4 i5 i6
      have fr : FrD J J' := (FrD.of f1.six).tr ⟨fun a ha => by
        have n19 : a ≠ 19 := fun w => ha (by rw [w]; decide)
        have n21 : a ≠ 21 := fun w => ha (by rw [w]; decide)
        have n29 : a ≠ 29 := fun w => ha (by rw [w]; decide)
        exact i1 a n19 n21 n29, fun j hj => i2 j hj⟩
      cases b with
      | false => exact bad 7 l P' (by decide) e hR J' fr t2
      | true =>
        refine fin 7 l P' (by decide) e hR J' fr t2 (fun ho => ?_)
        have hl := ho.2.2.2.2.1 rfl
        dsimp only at hl
        have dK := dxf f1.six
        obtain ⟨k1, k2, k3, k4, k5, k6, k7, k8⟩ := dK
        rw [tell_7]
        refine ⟨?_, i4, ?_, ?_, ?_, ?_, fun t ht => ?_, ?_⟩
        · rw [i3 9 (by decide)]; exact k1
        · rw [i3 11 (by decide)]; exact k3
        · rw [i1 26 (by decide) (by decide) (by decide)]; exact k4
        · rw [i1 27 (by decide) (by decide) (by decide)]; exact k5
        · rw [i1 28 (by decide) (by decide) (by decide)]; exact k6
        · by_cases u : t < cv S.1
          · rw [i5 t u]; exact (k7 t u).trans (congrArg nI (if_pos u).symm)
          · have ht' : t < cv S.1 + l.length := ht
            have h6 := i6 (t - cv S.1) (by omega)
            rw [show cv S.1 + (t - cv S.1) = t by omega] at h6
            exact (h6.trans ((hl.2.2 (t - cv S.1) (by omega)).g (by decide)).2).trans (congrArg nI (if_neg u).symm)
        · rw [i1 31 (by decide) (by decide) (by decide)]; exact k8
  · refine c_readLaw t1 (fun l P' hr K' e' t' => sg_X7_readLine_150 rfl (bad 8 l P' (by decide) e hr K' ((FrD.of f1.six).tr (FrD.of e')) t')) (fun v P' hr hv K' e' t' => sg_X7_readLine_150 rfl (fin 8 [v] P' (by decide) e hr _ (((FrD.of f1.six).tr (FrD.of e')).tr (FrD.set _ (by decide))) (t'.same rfl rfl) (fun ho => ?_)))
    have f2 := f1.six.tt e'
    have g0 := (ho.2.2.2.2.2.1 rfl).2.g (by decide)
    obtain ⟨k1, k2, k3, k4, k5, k6, k7, k8⟩ := dxf f2
    rw [f2.1 21 (by decide)] at k1 k2
    rw [tell_8]
    refine ⟨?_, ?_, ?_, k4, k5, k6, k7, k8⟩
    · rw [setI_same, upd_off _ (by decide), f1.1 21 (by decide)]; exact k1
    · rw [setI_same, upd_off _ (by decide), f1.1 21 (by decide)]; exact k2
    · rw [setI_same, upd_at _ rfl]; exact g0.2
  · refine c_leaveAlone (d := d + 3) (sg_X7_readLine_164 (fun z => absurd z (by decide)) (fun _ => ?_))
    refine fin 9 [] (tN f n P) (by decide) e rfl _ ((FrD.of f1.six).tr (FrD.set _ (by decide))) (t1.same rfl rfl) (fun ho => ?_)
    obtain ⟨k1, k2, k3, k4, k5, k6, k7, k8⟩ := dxf f1.six
    rw [tell_9]
    refine ⟨?_, ?_, ?_, k4, k5, k6, fun t ht => absurd ht (Nat.not_lt_zero _), k8⟩
    · rw [setI_same, upd_off _ (by decide)]; exact k1
    · rw [setI_same, upd_at _ rfl]; rfl
    · rw [setI_same, upd_off _ (by decide)]; exact k3
theorem c_readOver (hrw : RWord E) {f : Nat → Nat} {n : Nat} {S0 : HTl} (h0 : SOk S0) (hx : DX (setI (setI (setI (setI (setI (setI (setI (setI (setI I 26 (va_cpy (I 6) (I 26) 0 0 6)) 27 (va_cpy (I 7) (I 27) 0 0 4)) 28 (va_cpy (I 8) (I 28) 0 0 4)) 29 (va_cpy (I 9) (I 29) 0 0 24)) 31 (va_cpy (I 11) (I 31) 0 0 30)) 30 (upd (I 30) 1 (I 10 1))) 21 (upd (I 21) 9 (I 1 9))) 21 (upd (upd (I 21) 9 (I 1 9)) 10 (I 1 10))) 21 (upd (upd (upd (I 21) 9 (I 1 9)) 10 (I 1 10)) 11 (I 1 11))) S0) (ht : TxX I f n) (q : ∀ K, (∀ a, a ∉ [19, 21, 26, 27, 28, 29, 30, 31] → K a = I a) → (∀ j, j ∉ [3, 4, 5, 6, 7] → K 19 j = I 19 j) → K 30 1 = I 10 1 → ((fltP f n 10 (tP f n 0) (cK S0.1) (cv S0.1)).1 = none → DIx S0 (fltP f n 10 (tP f n 0) (cK S0.1) (cv S0.1)).2 K ∧ K 19 3 = nI (fltP f n 10 (tP f n 0) (cK S0.1) (cv S0.1)).2.length) → Q (some (.int (oP (fltP f n 10 (tP f n 0) (cK S0.1) (cv S0.1)).1))) K) : HCall E me_X7_readOver (d + 6) [.ref 19, .ref 1] I Q := by
  refine h_met (by decide) rfl (Nat.le_of_ble_eq_true rfl) (sg_X7_readOver_0 ?_)
  refine h_met (by decide) rfl (Nat.le_of_ble_eq_true rfl) (sg_X9_copyFrom_t_0 (d := d + 3) (sg_X7_readOver_8 ?_))
  generalize hI0 : (setI (setI (setI (setI (setI (setI (setI (setI (setI I 26 (va_cpy (I 6) (I 26) 0 0 6)) 27 (va_cpy (I 7) (I 27) 0 0 4)) 28 (va_cpy (I 8) (I 28) 0 0 4)) 29 (va_cpy (I 9) (I 29) 0 0 24)) 31 (va_cpy (I 11) (I 31) 0 0 30)) 30 (upd (I 30) 1 (I 10 1))) 21 (upd (I 21) 9 (I 1 9))) 21 (upd (upd (I 21) 9 (I 1 9)) 10 (I 1 10))) 21 (upd (upd (upd (I 21) 9 (I 1 9)) 10 (I 1 10)) 11 (I 1 11))) = I0 at *
  have g : ∀ a, a ∉ [21, 26, 27, 28, 29, 30, 31] → I0 a = I a := fun a ha => by
    rw [← hI0]
    have n21 : a ≠ 21 := fun w => ha (by rw [w]; decide)
    have n26 : a ≠ 26 := fun w => ha (by rw [w]; decide)
    have n27 : a ≠ 27 := fun w => ha (by rw [w]; decide)
    have n28 : a ≠ 28 := fun w => ha (by rw [w]; decide)
    have n29 : a ≠ 29 := fun w => ha (by rw [w]; decide)
    have n30 : a ≠ 30 := fun w => ha (by rw [w]; decide)
    have n31 : a ≠ 31 := fun w => ha (by rw [w]; decide)
    rw [setI_ne _ _ n21, setI_ne _ _ n21, setI_ne _ _ n21, setI_ne _ _ n30, setI_ne _ _ n31, setI_ne _ _ n29, setI_ne _ _ n28, setI_ne _ _ n27, setI_ne _ _ n26]
  have g30 : I0 30 1 = I 10 1 := by rw [← hI0]; rfl
  obtain ⟨x1, x2, x3⟩ := ht
  have tx : TxX (setI I0 19 (upd (I0 19) 5 0)) f n := ⟨by rw [setI_same, upd_off _ (by decide), g 19 (by decide)]; exact x1, x2, fun j hj => by rw [setI_ne _ _ (by decide), g 20 (by decide)]; exact x3 j hj⟩
  refine c_nextToken tx (Nat.zero_le n) (by rw [setI_same, upd_at _ rfl]; rfl) (fun J f1 f4 f5 f6 => sg_X7_readOver_17 ?_)
  have oth : ∀ a, a ≠ 19 → (setI J 19 (upd (J 19) 3 1)) a = I0 a := fun a ha => by rw [setI_ne _ _ ha, f1.1 a ha, setI_ne _ _ ha]
  have sl : ∀ j, j ≠ 3 → (setI J 19 (upd (J 19) 3 1)) 19 j = J 19 j := fun j hj => by rw [setI_same, upd_off _ hj]
  have dx0 : DX (setI J 19 (upd (J 19) 3 1)) S0 := hx.of ⟨oth 21 (by decide), oth 26 (by decide), oth 27 (by decide), oth 28 (by decide), oth 29 (by decide), oth 31 (by decide)⟩
  refine over_loop (d := d) (I := setI J 19 (upd (J 19) 3 1)) (DI := DIx S0) (line_x hrw h0) (DIx.off S0) (RT := fltP f n 10 (tP f n 0) (cK S0.1) (cv S0.1)) (fun K ff hn => ?_) 9 (tP f n 0) (cK S0.1) (cv S0.1) [] _ rfl ⟨fun _ _ => rfl, fun _ _ => rfl⟩ ⟨⟨?_, x2, fun j hj => ?_⟩, (tP_b (Nat.zero_le n)).2, ?_, ?_, ?_⟩ (by rw [setI_same, upd_at _ rfl]; rfl) dx0.1 dx0.2.1 h0.1.2.2.2.2.2.2.1 ⟨dx0, trivial⟩ rfl
  · refine q K (fun a ha => ?_) (fun j hj => ?_) ?_ hn
    · rw [ff.1 a (fun w => ha (by simp at w ⊢; omega)), oth a (fun w => ha (by rw [w]; decide)), g a (fun w => ha (by simp at w ⊢; omega))]
    · rw [ff.2 j hj, sl j (fun w => hj (by rw [w]; decide)), f1.2 j (fun w => hj (by simp at w ⊢; omega)), setI_same, upd_off _ (fun w => hj (by rw [w]; decide)), g 19 (by decide)]
    · rw [ff.1 30 (by decide), oth 30 (by decide)]; exact g30
  · rw [sl 2 (by decide), f1.2 2 (by decide), setI_same, upd_off _ (by decide), g 19 (by decide)]; exact x1
  · rw [oth 20 (by decide), g 20 (by decide)]; exact x3 j hj
  · rw [sl 4 (by decide)]; exact f4
  · rw [sl 5 (by decide)]; exact f5
  · rw [sl 6 (by decide)]; exact f6
end LINEX2
