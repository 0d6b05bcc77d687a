/-! foresee, and rows of tries in plain numbers -/
theorem Rel.mk3 {I J : HIh} {c : HCf} {s : HCn} {t : Nat} (hc : CC I c) (hm : MC I c) (hn : RNow I c s t) (hk : RKept I c) (ht : RText I) (ho : RNote I c) (hf : RFst I) (e : ∀ a, a ∈ keyL → a ≠ 87 → a ≠ 88 → a ∉ [32, 57, 69] → J a = I a) (e87 : ∀ j, j ∈ [3, 6, 11, 13, 27] → J 87 j = I 87 j) (e88 : ∀ x, x < 93 → J 88 x = I 88 x) (ha : RCache J c s t) : Rel J := by
  have g : ∀ a : Nat, a ∈ keyL → a ≠ 87 → a ≠ 88 → a ∉ [32, 57, 69] → ∀ j, J a j = I a j := fun a h1 h2 h3 h4 j => congrFun (e a h1 h2 h3 h4) j
  exact ⟨c, s, t, hc.of ⟨e 1 (by decide) (by decide) (by decide) (by decide), e 6 (by decide) (by decide) (by decide) (by decide), e 7 (by decide) (by decide) (by decide) (by decide), e 8 (by decide) (by decide) (by decide) (by decide), e 9 (by decide) (by decide) (by decide) (by decide)⟩, hm.of ⟨e87 6 (by decide), e87 13 (by decide), e87 11 (by decide), e 92 (by decide) (by decide) (by decide) (by decide), e 94 (by decide) (by decide) (by decide) (by decide), e 95 (by decide) (by decide) (by decide) (by decide), e 96 (by decide) (by decide) (by decide) (by decide)⟩, hn.of ⟨e 13 (by decide) (by decide) (by decide) (by decide), g 12 (by decide) (by decide) (by decide) (by decide) 1, fun x hx => e88 x (by omega)⟩, hk.of ⟨g 0 (by decide) (by decide) (by decide) (by decide) 6, e 89 (by decide) (by decide) (by decide) (by decide), e 15 (by decide) (by decide) (by decide) (by decide), e 16 (by decide) (by decide) (by decide) (by decide), e 17 (by decide) (by decide) (by decide) (by decide), e 18 (by decide) (by decide) (by decide) (by decide), fun x _ hx => e88 x hx⟩, ht.of ⟨g 19 (by decide) (by decide) (by decide) (by decide) 2, e87 3 (by decide), e 20 (by decide) (by decide) (by decide) (by decide), e 90 (by decide) (by decide) (by decide) (by decide)⟩, ho.of ⟨g 80 (by decide) (by decide) (by decide) (by decide) 6, e87 27 (by decide), e 83 (by decide) (by decide) (by decide) (by decide), e 84 (by decide) (by decide) (by decide) (by decide), e 101 (by decide) (by decide) (by decide) (by decide), e 102 (by decide) (by decide) (by decide) (by decide)⟩, hf.of ⟨g 10 (by decide) (by decide) (by decide) (by decide) 1, e 11 (by decide) (by decide) (by decide) (by decide), e 93 (by decide) (by decide) (by decide) (by decide)⟩, ha⟩
/-- what foresee leaves -/
def Fore (I J : HIh) (c : HCf) (s : HCn) (t : Nat) (z : Int32) : Prop := (∀ a, a ≠ 32 → ¬ (34 ≤ a ∧ a < 56) → ¬ (57 ≤ a ∧ a < 68) → ¬ (69 ≤ a ∧ a < 80) → J a = I a) ∧ J 32 4 = z ∧ (∀ p, p < 4 → J 57 p = nI ((play c (glOf z) (cv c - t) t s).1 p)) ∧ J 32 5 = nI (play c (glOf z) (cv c - t) t s).2.length ∧ ∀ i, i < (play c (glOf z) (cv c - t) t s).2.length → J 69 i = oI ((play c (glOf z) (cv c - t) t s).2.getD i none)
theorem Fore.cache {I J : HIh} {c : HCf} {s : HCn} {t : Nat} {z : Int32} (h : Fore I J c s t z) : RCache J c s t := Or.inr (by
  obtain ⟨h1, h2, h3, h4, h5⟩ := h
  rw [h2]
  exact ⟨h3, h4, h5⟩)
theorem goals_m1 : ∀ g, g ∈ goalsL → g ≠ -1 := by decide +kernel
section FORE
variable {E : HEn} {d : Nat} {Q : Option Value → HIh → Prop} {I : HIh}
theorem fore_loop {c : HCf} {s : HCn} {t : Nat} {z : Int32} (hz : z ∈ goalsL) (hc : CC I c) (hs : LotC (I 13) s) (hg : I 12 1 = nI t) (ht : t ≤ cv c) (hok : CnOk s) (hlen : (play c (glOf z) (cv c - t) t s).2.length ≤ 10) (q : ∀ J, Fore I J c s t z → Q none J) : ∀ (m j : Nat) (J : HIh), t + j + m = cv c → (∀ a, a ≠ 32 → J a = I a) → J 32 4 = z → J 32 5 = nI (sm (fun j => if glOf z (cp c (t + j)) = 0 then 0 else 1) j) → HGo E (mF E (d + 41) Q) me_X2_foresee 24 [(0, .ref 32), (1, .ref 12), (3, .int (nI (t + j)))] [] J
  | m, j, J, hj, ja, j4, j5 => by
    obtain ⟨⟨a1, a2, a3, a4, a5, a6⟩, -, -⟩ := lot_f 12 (by decide)
    obtain ⟨⟨b1, b2, b3, b4, b5, b6⟩, m1, m2⟩ := lot_f 34 (by decide)
    have hV : cv c ≤ 24 := hc.2.2.2.2.2.2.2.2.2.2.2.2.2.1
    have jc : CC J c := hc.of ⟨ja 1 (by decide), ja 6 (by decide), ja 7 (by decide), ja 8 (by decide), ja 9 (by decide)⟩
    have le : J 1 10 ≤ nI (t + j) ↔ cv c ≤ t + j := by rw [jc.2.1, nI_leI (by omega) (by omega)]
    have fr : t + j < cv c → (fFree (J 32 4) (fVis (J 1 10) (J 9) (nI (t + j))) = 0 ↔ glOf z (cp c (t + j)) = 0) := fun h => by
      rw [jc.2.1, fVis_n _ h hV, jc.2.2.2.2.2.2.1 _ h, j4]
      exact fFree_n hz (hc.2.2.2.2.2.2.2.2.2.2.2.2.2.2 _ h)
    refine sg_X2_foresee_24 a1 a2 a3 a4 a5 a6 (fun y => ?_) (fun y w => ?_) (fun y w => ?_)
    all_goals rw [le] at y
    · have hjj : j = cv c - t := by omega
      subst hjj
      rw [setI_ne J _ (show 12 ≠ 35 by decide), ja 12 (by decide), hg, ja 13 (by decide)]
      refine h_met (by decide) rfl (Nat.le_of_ble_eq_true rfl) (sg_X2_playOn_0 b1 b2 rfl (fun w => absurd w (by decide)) (fun _ _ => (show vp_in (nI 0) 11 from vp_in_nI (by omega) (by decide))) (fun _ _ => ?_) (fun _ w => absurd (by decide) w))
      rw [setI_same, upd_at _ rfl]
      refine x_play hz (cv c - t) t s 0 (d + 30) _ _ (by omega) ((jc.set _ m2).set _ m1) ?_ ?_ ?_ hok (by omega) (by omega) (fun K fr po => sg_X2_foresee_85 (q K ⟨fun a h1 h2 h3 h4 => ?_, ?_, fun p hp => ?_, ?_, fun i hi => ?_⟩))
      · rw [setI_ne _ _ (by decide), setI_ne _ _ (by decide)]; exact j4
      · rw [setI_ne _ _ (by decide), show 35 + 2 * 0 = 35 from rfl, setI_same]; exact hs.cpy
      · rw [show 34 + 2 * 0 = 34 from rfl, setI_same, upd_at _ rfl]
      · rw [fr a h2 h3 h4, setI_ne _ _ (by omega), setI_ne _ _ (by omega)]; exact ja a h1
      · rw [fr 32 (by omega) (by omega) (by omega), setI_ne _ _ (by decide), setI_ne _ _ (by decide)]; exact j4
      · exact po.1 p hp
      · rw [fr 32 (by omega) (by omega) (by omega), setI_ne _ _ (by decide), setI_ne _ _ (by decide), j5, play_len]
      · have := po.2 i hi
        rw [Nat.zero_add] at this
        exact this
    · rw [fr (by omega)] at w
      obtain ⟨m, rfl⟩ : ∃ k, m = k + 1 := ⟨m - 1, by omega⟩
      rw [nI_1, Nat.add_assoc]
      refine fore_loop hz hc hs hg ht hok hlen q m (j + 1) _ (by omega) (fun a ha => by rw [setI_ne _ _ ha]; exact ja a ha) (by rw [setI_same, upd_off _ (by decide)]; exact j4) ?_
      rw [setI_same, upd_at _ rfl, j5, show (0 : Int32) = nI 0 from rfl, nI_add]
      show _ = nI (_ + if glOf z (cp c (t + j)) = 0 then 0 else 1)
      rw [if_pos w]
    · rw [fr (by omega)] at w
      obtain ⟨m, rfl⟩ : ∃ k, m = k + 1 := ⟨m - 1, by omega⟩
      rw [nI_1, Nat.add_assoc]
      refine fore_loop hz hc hs hg ht hok hlen q m (j + 1) _ (by omega) (fun a ha => by rw [setI_ne _ _ ha]; exact ja a ha) (by rw [setI_same, upd_off _ (by decide)]; exact j4) ?_
      rw [setI_same, upd_at _ rfl, j5, nI_1]
      show _ = nI (_ + if glOf z (cp c (t + j)) = 0 then 0 else 1)
      rw [if_neg w]
theorem c_foresee {c : HCf} {s : HCn} {t : Nat} {z : Int32} (hz : z ∈ goalsL) (hc : CC I c) (hs : LotC (I 13) s) (hg : I 12 1 = nI t) (ht : t ≤ cv c) (hok : CnOk s) (hca : RCache I c s t) (hlen : (play c (glOf z) (cv c - t) t s).2.length ≤ 10) (q : ∀ J, Fore I J c s t z → Q none J) : HCall E me_X2_foresee (d + 41) [.ref 32, .ref 12, .int z] I Q := by
  refine h_met (by decide) rfl (Nat.le_of_ble_eq_true rfl) (sg_X2_foresee_0 (h := 12) (by decide) (by decide) (fun w => ?_) (fun w => ?_))
  · rw [setI_ne _ _ (by decide), setI_ne _ _ (by decide), hg]
    have := fore_loop (E := E) (d := d) (I := I) hz hc hs hg ht hok hlen q (cv c - t) 0 (setI (setI I 32 (upd (I 32) 4 z)) 32 (upd (upd (I 32) 4 z) 5 0)) (by omega) (fun a ha => by rw [setI_ne _ _ ha, setI_ne _ _ ha]) (by rw [setI_same, upd_off _ (by decide), upd_at _ rfl]) (by rw [setI_same, upd_at _ rfl]; rfl)
    exact this
  · rcases hca with h | ⟨h1, h2, h3⟩
    · exact absurd (w.symm.trans h) (goals_m1 z hz)
    · rw [w] at h1 h2 h3
      exact q I ⟨fun _ _ _ _ _ => rfl, w, h1, h2, h3⟩
theorem c_endOf {J : HIh} {p : Nat} {en : Nat → Nat} (hp : p < 4) (h : J 57 p = nI (en p)) (q : Q (some (.int (nI (en p)))) J) : HCall E me_X2_endOf (d + 2) [.ref 32, .int (nI p)] J Q := by
  have p1 : (0 : Int32) ≤ nI p := nI_pos' (by omega)
  have p2 : nI p < 4 := nI_lt hp (by decide)
  refine h_met (by decide) rfl (Nat.le_of_ble_eq_true rfl) (sg_X2_endOf_0 (fun _ _ => vp_in_nI (by omega) (by decide)) (fun _ _ => ?_) (fun z => absurd ⟨p1, p2⟩ z))
  rw [nI_clamp (by omega), h]; exact q
theorem c_step {J : HIh} {a : Int32} {len : Nat} (ha : 0 ≤ a) (hlen : len ≤ 10) (h5 : J 32 5 = nI len) (q0 : nI len ≤ a → Q (some (.int (-1))) J) (q1 : ∀ i, i < len → a = nI i → Q (some (.int (J 69 i + 1))) J) : HCall E me_X2_step (d + 1) [.ref 32, .int a] J Q := by
  have inn : ¬ J 32 5 ≤ a → ∃ i, i < len ∧ a = nI i := fun z => by
    rw [h5] at z
    exact i_nat' ha (by omega) (i_nle z)
  refine h_met (by decide) rfl (Nat.le_of_ble_eq_true rfl) (sg_X2_step_0 (fun z => absurd z (i_le_n ha)) (fun _ z => q0 (by rw [← h5]; exact z)) (fun _ z y => ?_) (fun _ _ z => ?_) (fun _ z _ => ?_))
  · obtain ⟨i, hi, rfl⟩ := inn z
    have y' : nI 11 ≤ nI i := y
    rw [nI_leI (by omega) (by omega)] at y'; omega
  · exact vp_n (i_le_n ha) (by decide) (i_nle z)
  · obtain ⟨i, hi, rfl⟩ := inn z
    rw [nI_clamp (by omega)]
    exact q1 i hi rfl
end FORE
/-! the greatest of a row of numbers, the first of them -/
def mx (g : Nat → Int) : Nat → Int × Nat
  | 0 => (-1, 0)
  | n + 1 => if (mx g n).1 < g n then (g n, n) else mx g n
theorem mx_congr {g g' : Nat → Int} : ∀ {n : Nat}, (∀ i, i < n → g i = g' i) → mx g n = mx g' n
  | 0, _ => rfl
  | n + 1, h => by
    unfold mx
    rw [mx_congr (fun i hi => h i (Nat.lt_succ_of_lt hi)), h n (Nat.lt_succ_self n)]
theorem mx_m1 (g : Nat → Int) : ∀ n, -1 ≤ (mx g n).1
  | 0 => Int.le_refl _
  | n + 1 => by
    have := mx_m1 g n
    unfold mx
    split
    · dsimp only; omega
    · exact this
theorem mx_neg {g : Nat → Int} : ∀ {n : Nat}, (∀ i, i < n → g i = -1) → mx g n = (-1, 0)
  | 0, _ => rfl
  | n + 1, h => by
    unfold mx
    rw [mx_neg (fun i hi => h i (Nat.lt_succ_of_lt hi)), h n (Nat.lt_succ_self n)]
    rfl
theorem mx_add (g : Nat → Int) (a : Nat) : ∀ b, mx g (a + b) = if (mx g a).1 < (mx (fun i => g (a + i)) b).1 then ((mx (fun i => g (a + i)) b).1, a + (mx (fun i => g (a + i)) b).2) else mx g a
  | 0 => by
    have := mx_m1 g a
    show mx g a = if (mx g a).1 < -1 then _ else _
    rw [if_neg (by omega)]
  | b + 1 => by
    have ih := mx_add g a b
    have h1 : mx g (a + (b + 1)) = if (mx g (a + b)).1 < g (a + b) then (g (a + b), a + b) else mx g (a + b) := rfl
    have h2 : mx (fun i => g (a + i)) (b + 1) = if (mx (fun i => g (a + i)) b).1 < g (a + b) then (g (a + b), b) else mx (fun i => g (a + i)) b := rfl
    rw [h1, h2, ih]
    generalize mx (fun i => g (a + i)) b = B
    generalize mx g a = M
    generalize g (a + b) = x
    by_cases c1 : M.1 < B.1
    · rw [if_pos c1]
      by_cases c2 : B.1 < x
      · have c2' : (B.1, a + B.2).1 < x := c2
        rw [if_pos c2', if_pos c2, if_pos (show M.1 < (x, b).1 by dsimp only; omega)]
      · have c2' : ¬ (B.1, a + B.2).1 < x := c2
        rw [if_neg c2', if_neg c2, if_pos c1]
    · rw [if_neg c1]
      by_cases c3 : M.1 < x
      · rw [if_pos c3, if_pos (show B.1 < x by omega), if_pos (show M.1 < (x, b).1 from c3)]
      · rw [if_neg c3]
        by_cases c2 : B.1 < x
        · rw [if_pos c2, if_neg (show ¬ M.1 < (x, b).1 from c3)]
        · rw [if_neg c2, if_neg c1]
