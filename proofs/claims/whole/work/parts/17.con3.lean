/-! layer 3: what one would throw, a visit -/
section CON3
variable {E : HEn} {d : Nat} {Q : Option Value → HIh → Prop} {I : HIh}
def Lot2 (s : HCn) : Prop := ∀ o, o < 5 → ∀ k, k < 6 → s o k ≤ 200
theorem CnOk.l2 {s : HCn} (h : CnOk s) : Lot2 s := fun o ho k hk => by have := h.le ho hk; omega
theorem scan_b {all : Bool} {g : Nat → Int} {has : Nat → Bool} {en : Int} (h1 : 1 ≤ en) (h2 : en ≤ 1198801) : ∀ {n : Nat}, (∀ k, k < n → g k ≤ 1198800) → 1 ≤ (scan all g has en n).2 ∧ (scan all g has en n).2 ≤ 1198801
  | 0, _ => ⟨h1, h2⟩
  | n + 1, hg => by
    have ih := scan_b (all := all) (has := has) h1 h2 (n := n) (fun k hk => hg k (Nat.lt_succ_of_lt hk))
    unfold scan
    split
    · rename_i q
      have := hg n (Nat.lt_succ_self n)
      have := q.2.1
      constructor
      · show 1 ≤ g n + 1; omega
      · show g n + 1 ≤ 1198801; omega
    · exact ih
theorem would_loop_G {h : Nat} {c : HCf} {s : HCn} {p : Nat} (hc : CC I c) (hh : h ∈ lotL) (hs : LotC (I (h + 1)) s) (hb : Lot2 s) (hp : p < 4) (q : Q (some (.int (oI (scan true (gainI c (s 4)) (fun k => decide (0 < s p k)) 1 (cK c)).1))) I) : ∀ (n j : Nat) (x5 : Int32), j + n = cK c → x5.toInt = (scan true (gainI c (s 4)) (fun k => decide (0 < s p k)) 1 j).2 → HGo E (mF E (d + 3) Q) me_X8_wouldThrow 14 [(0, .ref 3), (1, .ref 1), (2, .ref h), (3, .int (nI p)), (4, .int (oI (scan true (gainI c (s 4)) (fun k => decide (0 < s p k)) 1 j).1)), (5, .int x5), (6, .int (nI j))] [] I
  | n, j, x5, hj, hx => by
    obtain ⟨⟨a1, a2, a3, a4, a5, a6⟩, -, -⟩ := lot_f h hh
    have hok := hc.2.2.2.2.2.2.2
    have hK : cK c ≤ 6 := hok.2.1
    have hsb := scan_b (all := true) (g := gainI c (s 4)) (has := fun k => decide (0 < s p k)) (en := 1) (by omega) (by omega) (n := j) (fun k hk => (gainI_b hok (fun i hi => hb 4 (by decide) i hi) (by omega : k < cK c)).2)
    have hnx : j < cK c → x5.toInt ≤ gainI c (s 4) j → 0 < s p j → scan true (gainI c (s 4)) (fun k => decide (0 < s p k)) 1 (j + 1) = (some j, gainI c (s 4) j + 1) := fun h1 h2 h3 => by
      rw [hx] at h2
      show (if _ then _ else _) = _
      rw [if_pos ⟨decide_eq_true h3, h2, Or.inl rfl⟩]
    have hno : ¬ (0 < s p j ∧ x5.toInt ≤ gainI c (s 4) j) → scan true (gainI c (s 4)) (fun k => decide (0 < s p k)) 1 (j + 1) = scan true (gainI c (s 4)) (fun k => decide (0 < s p k)) 1 j := fun h1 => by
      rw [hx] at h1
      show (if _ then _ else _) = _
      rw [if_neg (fun z => h1 ⟨of_decide_eq_true z.1, z.2.1⟩)]
    refine sg_X8_wouldThrow_G_14 a1 a2 a3 a4 a5 a6 (fun z => ?_) (fun z y w => ?_) (fun z y w => ?_) (fun z y => ?_)
    · rw [hc.1, nI_leI (by omega) (by omega)] at z
      have e : j = cK c := by omega
      subst e; exact q
    all_goals
      rw [hc.1, nI_leI (by omega) (by omega)] at z
      rw [fOf_n _ (by omega) (by omega), hs p (by omega) j (by omega), nI_le0 (by have := hb p (by omega) j (by omega); omega)] at y
      obtain ⟨n, rfl⟩ : ∃ k, n = k + 1 := ⟨n - 1, by omega⟩
    · have e := hno (by omega)
      have := would_loop_G hc hh hs hb hp q n (j + 1) x5 (by omega) (by rw [e]; exact hx)
      rw [e] at this
      rw [nI_1]; exact this
    · exfalso
      rw [i_lt] at w
      have : (0 : Int32).toInt = 0 := rfl
      omega
    · refine c_gainOf hc hh hs.ft (fun i hi => hb 4 (by decide) i hi) (by omega) ?_
      have hgi := gain_int hok (φ := s 4) (fun i hi => hb 4 (by decide) i hi) (by omega : j < cK c)
      have hgb := gainI_b hok (φ := s 4) (fun i hi => hb 4 (by decide) i hi) (by omega : j < cK c)
      refine sg_X8_wouldThrow_G_40 a1 a2 (fun w => ?_) (fun w => ?_)
      · rw [i_lt, hgi] at w
        have e := hno (by omega)
        have := would_loop_G hc hh hs hb hp q n (j + 1) x5 (by omega) (by rw [e]; exact hx)
        rw [e] at this
        rw [nI_1]; exact this
      · rw [i_lt, hgi] at w
        have e := hnx (by omega) (by omega) (by omega)
        have h1 : (1 : Int32).toInt = 1 := rfl
        have := would_loop_G hc hh hs hb hp q n (j + 1) (nI (gsum c (s 4) j) - nI (cw c j) + 1) (by omega) (by rw [e, fb_addI (by rw [hgi]; omega) (by rw [hgi]; omega), hgi]; rfl)
        rw [e] at this
        rw [nI_1]; exact this
theorem would_loop_W {h : Nat} {c : HCf} {s : HCn} {p : Nat} {en : Int} (he1 : 1 ≤ en) (he2 : en ≤ 1198801) (hc : CC I c) (hh : h ∈ lotL) (hs : LotC (I (h + 1)) s) (hb : Lot2 s) (hp : p < 4) (q : Q (some (.int (oI (scan true (gainI c (s 4)) (fun k => decide (0 < s p k)) en (cK c)).1))) I) : ∀ (n j : Nat) (x5 : Int32), j + n = cK c → x5.toInt = (scan true (gainI c (s 4)) (fun k => decide (0 < s p k)) en j).2 → HGo E (mF E (d + 3) Q) me_X8_wouldThrow 14 [(0, .ref 4), (1, .ref 1), (2, .ref h), (3, .int (nI p)), (4, .int (oI (scan true (gainI c (s 4)) (fun k => decide (0 < s p k)) en j).1)), (5, .int x5), (6, .int (nI j))] [] I
  | n, j, x5, hj, hx => by
    obtain ⟨⟨a1, a2, a3, a4, a5, a6⟩, -, -⟩ := lot_f h hh
    have hok := hc.2.2.2.2.2.2.2
    have hK : cK c ≤ 6 := hok.2.1
    have hsb := scan_b (all := true) (g := gainI c (s 4)) (has := fun k => decide (0 < s p k)) (en := en) he1 he2 (n := j) (fun k hk => (gainI_b hok (fun i hi => hb 4 (by decide) i hi) (by omega : k < cK c)).2)
    have hnx : j < cK c → x5.toInt ≤ gainI c (s 4) j → 0 < s p j → scan true (gainI c (s 4)) (fun k => decide (0 < s p k)) en (j + 1) = (some j, gainI c (s 4) j + 1) := fun h1 h2 h3 => by
      rw [hx] at h2
      show (if _ then _ else _) = _
      rw [if_pos ⟨decide_eq_true h3, h2, Or.inl rfl⟩]
    have hno : ¬ (0 < s p j ∧ x5.toInt ≤ gainI c (s 4) j) → scan true (gainI c (s 4)) (fun k => decide (0 < s p k)) en (j + 1) = scan true (gainI c (s 4)) (fun k => decide (0 < s p k)) en j := fun h1 => by
      rw [hx] at h1
      show (if _ then _ else _) = _
      rw [if_neg (fun z => h1 ⟨of_decide_eq_true z.1, z.2.1⟩)]
    refine sg_X8_wouldThrow_W_14 a1 a2 a3 a4 a5 a6 (fun z => ?_) (fun z y w => ?_) (fun z y w => ?_) (fun z y => ?_)
    · rw [hc.1, nI_leI (by omega) (by omega)] at z
      have e : j = cK c := by omega
      subst e; exact q
    all_goals
      rw [hc.1, nI_leI (by omega) (by omega)] at z
      rw [fOf_n _ (by omega) (by omega), hs p (by omega) j (by omega), nI_le0 (by have := hb p (by omega) j (by omega); omega)] at y
      obtain ⟨n, rfl⟩ : ∃ k, n = k + 1 := ⟨n - 1, by omega⟩
    · have e := hno (by omega)
      have := would_loop_W he1 he2 hc hh hs hb hp q n (j + 1) x5 (by omega) (by rw [e]; exact hx)
      rw [e] at this
      rw [nI_1]; exact this
    · exfalso
      rw [i_lt] at w
      have : (0 : Int32).toInt = 0 := rfl
      omega
    · refine c_gainOf hc hh hs.ft (fun i hi => hb 4 (by decide) i hi) (by omega) ?_
      have hgi := gain_int hok (φ := s 4) (fun i hi => hb 4 (by decide) i hi) (by omega : j < cK c)
      have hgb := gainI_b hok (φ := s 4) (fun i hi => hb 4 (by decide) i hi) (by omega : j < cK c)
      refine sg_X8_wouldThrow_W_40 a1 a2 (fun w => ?_) (fun w => ?_)
      · rw [i_lt, hgi] at w
        have e := hno (by omega)
        have := would_loop_W he1 he2 hc hh hs hb hp q n (j + 1) x5 (by omega) (by rw [e]; exact hx)
        rw [e] at this
        rw [nI_1]; exact this
      · rw [i_lt, hgi] at w
        have e := hnx (by omega) (by omega) (by omega)
        have h1 : (1 : Int32).toInt = 1 := rfl
        have := would_loop_W he1 he2 hc hh hs hb hp q n (j + 1) (nI (gsum c (s 4) j) - nI (cw c j) + 1) (by omega) (by rw [e, fb_addI (by rw [hgi]; omega) (by rw [hgi]; omega), hgi]; rfl)
        rw [e] at this
        rw [nI_1]; exact this
theorem would_loop_C {h : Nat} {c : HCf} {s : HCn} {p : Nat} (hc : CC I c) (hh : h ∈ lotL) (hs : LotC (I (h + 1)) s) (hb : Lot2 s) (hp : p < 4) (q : Q (some (.int (oI (scan false (gainI c (s 4)) (fun k => decide (0 < s p k)) 1 (cK c)).1))) I) : ∀ (n j : Nat), j + n = cK c → scan false (gainI c (s 4)) (fun k => decide (0 < s p k)) 1 j = (none, 1) → HGo E (mF E (d + 3) Q) me_X8_wouldThrow 14 [(0, .ref 5), (1, .ref 1), (2, .ref h), (3, .int (nI p)), (4, .int (-1)), (5, .int 1), (6, .int (nI j))] [] I
  | n, j, hj, hx => by
    obtain ⟨⟨a1, a2, a3, a4, a5, a6⟩, -, -⟩ := lot_f h hh
    have hok := hc.2.2.2.2.2.2.2
    have hK : cK c ≤ 6 := hok.2.1
    have h1 : (1 : Int32).toInt = 1 := rfl
    have hnx : 1 ≤ gainI c (s 4) j → 0 < s p j → scan false (gainI c (s 4)) (fun k => decide (0 < s p k)) 1 (j + 1) = (some j, gainI c (s 4) j + 1) := fun h2 h3 => by
      show (if _ then _ else _) = _
      rw [if_pos ⟨decide_eq_true h3, by rw [hx]; exact h2, Or.inr (by rw [hx])⟩]
    have hno : ¬ (0 < s p j ∧ 1 ≤ gainI c (s 4) j) → scan false (gainI c (s 4)) (fun k => decide (0 < s p k)) 1 (j + 1) = (none, 1) := fun h2 => by
      show (if _ then _ else _) = _
      rw [if_neg (fun z => h2 ⟨of_decide_eq_true z.1, by have := z.2.1; rw [hx] at this; exact this⟩)]
      exact hx
    refine sg_X8_wouldThrow_C_14 a1 a2 a3 a4 a5 a6 (fun z => ?_) (fun z y w => ?_) (fun z y w => absurd (by decide) w) (fun z y => ?_)
    · rw [hc.1, nI_leI (by omega) (by omega)] at z
      have e : j = cK c := by omega
      subst e
      rw [hx] at q; exact q
    all_goals
      rw [hc.1, nI_leI (by omega) (by omega)] at z
      rw [fOf_n _ (by omega) (by omega), hs p (by omega) j (by omega), nI_le0 (by have := hb p (by omega) j (by omega); omega)] at y
      obtain ⟨n, rfl⟩ : ∃ k, n = k + 1 := ⟨n - 1, by omega⟩
    · rw [nI_1]
      exact would_loop_C hc hh hs hb hp q n (j + 1) (by omega) (hno (by omega))
    · refine c_gainOf hc hh hs.ft (fun i hi => hb 4 (by decide) i hi) (by omega) ?_
      have hgi := gain_int hok (φ := s 4) (fun i hi => hb 4 (by decide) i hi) (by omega : j < cK c)
      refine sg_X8_wouldThrow_C_40 a1 a2 (fun w => ?_) (fun w => ?_)
      · rw [i_lt, hgi] at w
        rw [nI_1]
        exact would_loop_C hc hh hs hb hp q n (j + 1) (by omega) (hno (by omega))
      · rw [i_lt, hgi] at w
        have e := hnx (by omega) (by omega)
        have := scan_stay (m := j + 1) (by rw [e]) (n := cK c) (by omega)
        rw [this] at q
        exact q
theorem c_would_G {h : Nat} {c : HCf} {s : HCn} {p : Nat} (hc : CC I c) (hh : h ∈ lotL) (hs : LotC (I (h + 1)) s) (hb : Lot2 s) (hp : p < 4) (q : Q (some (.int (oI (grd c s p)))) I) : HCall E me_X8_wouldThrow (d + 3) [.ref 3, .ref 1, .ref h, .int (nI p)] I Q := by
  obtain ⟨⟨a1, a2, a3, a4, a5, a6⟩, -, -⟩ := lot_f h hh
  exact h_met (by decide) rfl (Nat.le_of_ble_eq_true rfl) (sg_X8_wouldThrow_G_0 a1 a2 (would_loop_G hc hh hs hb hp q (cK c) 0 1 (by omega) rfl))
theorem hab_G {c : HCf} {s : HCn} {p : Nat} (h : ch c p = 1) : hab c s p = grd c s p := by
  unfold hab grd; rw [if_neg (by omega), if_neg (by omega), h]; rfl
theorem c_would_W {h : Nat} {c : HCf} {s : HCn} {p : Nat} (hc : CC I c) (hh : h ∈ lotL) (hs : LotC (I (h + 1)) s) (hb : Lot2 s) (hp : p < 4) (hw : ch c p = 2) (q : Q (some (.int (oI (hab c s p)))) I) : HCall E me_X8_wouldThrow (d + 3) [.ref 4, .ref 1, .ref h, .int (nI p)] I Q := by
  obtain ⟨⟨a1, a2, a3, a4, a5, a6⟩, -, -⟩ := lot_f h hh
  have hok := hc.2.2.2.2.2.2.2
  have hbd := hok.2.2.2.2.2.1 p hp
  have he : hab c s p = (scan true (gainI c (s 4)) (fun k => decide (0 < s p k)) (max 1 (cb c p : Int)) (cK c)).1 := by
    unfold hab; rw [if_neg (by omega), if_pos hw, hw]; rfl
  rw [he] at q
  refine h_met (by decide) rfl (Nat.le_of_ble_eq_true rfl) (sg_X8_wouldThrow_W_0 a1 a2 ?_)
  refine would_loop_W (by omega) (by omega) hc hh hs hb hp q (cK c) 0 _ (by omega) ?_
  rw [fBnd_n _ hp, hc.2.2.2.2.2.1 p hp hw]
  show (fMax 1 (nI (cb c p))).toInt = max 1 (cb c p : Int)
  unfold fMax
  by_cases e : 1 < cb c p
  · rw [if_pos (show (1 : Int32) < nI (cb c p) from nI_lt (a := 1) e (by omega)), nI_toInt (by omega)]; omega
  · rw [if_neg (show ¬ (1 : Int32) < nI (cb c p) from nI_nlt (a := 1) (by omega) (by omega))]
    have h1 : (1 : Int32).toInt = 1 := rfl
    omega
theorem c_would_C {h : Nat} {c : HCf} {s : HCn} {p : Nat} (hc : CC I c) (hh : h ∈ lotL) (hs : LotC (I (h + 1)) s) (hb : Lot2 s) (hp : p < 4) (hw : ch c p = 3) (q : Q (some (.int (oI (hab c s p)))) I) : HCall E me_X8_wouldThrow (d + 3) [.ref 5, .ref 1, .ref h, .int (nI p)] I Q := by
  obtain ⟨⟨a1, a2, a3, a4, a5, a6⟩, -, -⟩ := lot_f h hh
  have he : hab c s p = (scan false (gainI c (s 4)) (fun k => decide (0 < s p k)) 1 (cK c)).1 := by
    unfold hab; rw [if_neg (by omega), if_neg (by omega), hw]; rfl
  rw [he] at q
  exact h_met (by decide) rfl (Nat.le_of_ble_eq_true rfl) (sg_X8_wouldThrow_C_0 a1 a2 (would_loop_C hc hh hs hb hp q (cK c) 0 (by omega) rfl))
/-- coins behind a visit: with a throw, or none -/
def vst (c : HCf) (s : HCn) (i : Nat) (r : Option Nat) : HCn := match r with
  | none => s
  | some k => thr c s i k
theorem vst_ok {c : HCf} {s : HCn} (h : CnOk s) {i : Nat} (hi : i < 4) {r : Option Nat} (hr : ∀ k, r = some k → 0 < s i k) : CnOk (vst c s i r) := by
  cases r with
  | none => exact h
  | some k => exact thr_ok h hi (hr k rfl)
theorem ThrC.lot {f0 f' : Nat → Int32} {c : HCf} {s : HCn} {p k : Nat} (h0 : LotC f0 s) (hp : p < 4) (hk : 0 < s p k) (h : ThrC f0 f' (cl c) (s 4) p k) : LotC f' (thr c s p k) := by
  obtain ⟨h1, h2, h3⟩ := h
  intro o ho j hj
  unfold thr
  by_cases e4 : o = 4
  · subst e4; rw [if_pos rfl]; exact h1 j hj
  · rw [if_neg e4]
    by_cases ep : o = p
    · subst ep
      rw [if_pos rfl, h2 j hj, h0 o ho j hj]
      by_cases ek : j = k
      · subst ek
        rw [if_pos rfl, if_pos rfl, nI_add, show s o j + tk (cl c) (s 4) j j = (s o j + tk (cl c) (s 4) j j - 1) + 1 by omega, nI_pred]
        rfl
      · rw [if_neg ek, if_neg ek, nI_add]; simp
    · rw [if_neg ep]
      exact (h3 o (by omega) ep j hj).trans (h0 o ho j hj)
theorem c_letVisit {h : Nat} {c : HCf} {s : HCn} {t : Nat} {r : Option Nat} (hc : CC I c) (hh : h ∈ lotL) (hs : LotC (I (h + 1)) s) (hb : Lot2 s) (hg : I h 1 = nI t) (ht : t < cv c) (hr : ∀ k, r = some k → k < cK c ∧ 0 < s (cp c t) k) (q : ∀ f', LotC f' (vst c s (cp c t) r) → Q none (setI (setI I (h + 1) f') h (upd (I h) 1 (nI (t + 1))))) : HCall E me_X9_letVisit (d + 3) [.ref 1, .ref h, .int (oI r)] I Q := by
  obtain ⟨⟨a1, a2, a3, a4, a5, a6⟩, -, -⟩ := lot_f h hh
  have hok := hc.2.2.2.2.2.2.2
  have hV : cv c ≤ 24 := hok.2.2.2.2.2.2.1
  have hcp := hok.2.2.2.2.2.2.2 t ht
  refine h_met (by decide) rfl (Nat.le_of_ble_eq_true rfl) (sg_X9_letVisit_0 a1 a2 (fun z => ?_) (fun z => ?_))
  · have e : r = none := by
      cases r with
      | none => rfl
      | some k =>
        exfalso
        have hk := (hr k rfl).1
        have hK : cK c ≤ 6 := hok.2.1
        rw [i_eq] at z
        have h1 : (nI k).toInt = k := nI_toInt (by omega)
        have h2 : (-1 : Int32).toInt = -1 := rfl
        have h3 : oI (some k) = nI k := rfl
        rw [h3] at z
        omega
    subst e
    have := q (I (h + 1)) hs
    rw [setI_id] at this
    rw [hg, nI_1]
    exact this
  · cases r with
    | none => exact absurd rfl z
    | some k =>
      rw [hg, hc.2.1, fVis_n _ ht hV, hc.2.2.2.2.2.2.1 t ht]
      refine c_throwCoin (k := k) hc hh hs.ft (fun j hj => hb 4 (by decide) j hj) hcp (hr k rfl).1 (fun f' hf => ?_)
      refine sg_X9_letVisit_19 a1 a2 ?_
      rw [setI_ne I f' (show h ≠ h + 1 by omega), hg, nI_1]
      exact q f' (hf.lot hs hcp (hr k rfl).2)
end CON3
