/-! what stands behind a word: into the draft -/
theorem Fr.t7 {I J K : HIh} (h : Fr 19 [4, 5, 6, 7] I J) (e : Fr 19 [7] J K) : Fr 19 [4, 5, 6, 7] I K :=
  ⟨fun a ha => (e.1 a ha).trans (h.1 a ha), fun j hj => (e.2 j (in7 hj)).trans (h.2 j hj)⟩
theorem Fr.tt {I J K : HIh} (h : Fr 19 [4, 5, 6, 7] I J) (e : Fr 19 [4, 5, 6, 7] J K) : Fr 19 [4, 5, 6, 7] I K :=
  ⟨fun a ha => (e.1 a ha).trans (h.1 a ha), fun j hj => (e.2 j hj).trans (h.2 j hj)⟩
section DREST
variable {E : HEn} {d : Nat} {Q : Option Value → HIh → Prop} {I : HIh}
/-- one number more -/
theorem x_one {J : HIh} {f : Nat → Nat} {n P : Nat} {a b : Int32} (hf : Fr 19 [4, 5, 6, 7] I J) (ht : TkX J f n P) (q0 : rdN f n P a b = none → ∀ K, Fr 19 [4, 5, 6, 7] I K → TkX K f n P → Q (some (.int 0)) K) (q1 : ∀ v, rdN f n P a b = some v → ∀ K, Fr 19 [4, 5, 6, 7] I K → TkX K f n (tN f n P) → K 19 7 = v → Q (some (.int 1)) K) : HCall E me_X7_readNumber (d + 3) [.ref 19, .int a, .int b] J Q :=
  c_readNumber ht (fun h K e => q0 h K (hf.t7 e) (ht.fr7 e)) (fun v h K e t h7 => q1 v h K (hf.tt e) t h7)
theorem c_readAmount {f : Nat → Nat} {n P k : Nat} {o : Int32} (ht : TkX I f n P) (hk : I 21 9 = nI k) (q0 : ∀ l P', fixP f n [(0, nI k - 1), (0, 20)] P = (false, l, P') → ∀ K, Fr 19 [4, 5, 6, 7] I K → TkX K f n P' → Q (some (.int 0)) K) (q1 : ∀ v w P', fixP f n [(0, nI k - 1), (0, 20)] P = (true, [v, w], P') → ∀ K, Fr 19 [4, 5, 6, 7] I K → TkX K f n P' → Q (some (.int 1)) (setI K 31 (fAdd (I 31) o v (w - fOf (I 31) o v)))) : HCall E me_X7_readAmount (d + 4) [.ref 19, .int o] I Q := by
  refine h_met (by decide) rfl (Nat.le_of_ble_eq_true rfl) (sg_X7_readAmount_0 ?_)
  rw [hk]
  refine x_one (Fr.refl _ _ I) ht (fun hn K e t => sg_X7_readAmount_14 (fun z => absurd rfl z) (fun _ => q0 _ _ (fixP_none hn) K e t)) (fun v hv K e t h7 => sg_X7_readAmount_14 (fun _ => ?_) (fun z => absurd z (by decide)))
  rw [h7]
  refine x_one e t (fun hn K e t => sg_X7_readAmount_31 (fun z => absurd rfl z) (fun _ => q0 _ _ ((fixP_some hv).trans (by rw [fixP_none hn])) K e t)) (fun w hw K e t h7 => sg_X7_readAmount_31 (fun _ => ?_) (fun z => absurd z (by decide)))
  rw [h7, e.1 31 (by decide)]
  exact q1 v w _ ((fixP_some hv).trans (by rw [fixP_some hw]; rfl)) K e t
theorem c_setHabit {p b g : Int32} (hp : 0 ≤ p ∧ p < 4) (q : Q none (setI (setI I 27 (upd (I 27) p.toNatClampNeg b)) 28 (upd (I 28) p.toNatClampNeg g))) : HCall E me_X9_setHabit (d + 2) [.ref 21, .int p, .int b, .int g] I Q := by
  obtain ⟨j, hj, e⟩ := px.mp hp
  exact h_met (by decide) rfl (Nat.le_of_ble_eq_true rfl) (sg_X9_setHabit_0 (fun _ _ => by rw [e]; exact vp_in_nI (by omega) (by decide)) (fun _ _ => q) (fun z => absurd hp z))
theorem le3 {v : Int32} (h : v ≤ 3) : v < 4 := by
  rw [i_le, show (3 : Int32).toInt = 3 from rfl] at h
  rw [i_lt, z4]; omega
theorem c_readHabit {f : Nat → Nat} {n P : Nat} {b : Int32} (ht : TkX I f n P) (q0 : ∀ l P', fixP f n [(0, 3)] P = (false, l, P') → ∀ K, Fr 19 [4, 5, 6, 7] I K → TkX K f n P' → Q (some (.int 0)) K) (q1 : ∀ v P', fixP f n [(0, 3)] P = (true, [v], P') → 0 ≤ v ∧ v < 4 → ∀ K, Fr 19 [4, 5, 6, 7] I K → TkX K f n P' → Q (some (.int 1)) (setI (setI K 27 (upd (I 27) v.toNatClampNeg b)) 28 (upd (I 28) v.toNatClampNeg 0))) : HCall E me_X7_readHabit (d + 4) [.ref 19, .int b] I Q := by
  refine h_met (by decide) rfl (Nat.le_of_ble_eq_true rfl) (sg_X7_readHabit_0 ?_)
  refine x_one (Fr.refl _ _ I) ht (fun hn K e t => sg_X7_readHabit_6 (fun z => absurd rfl z) (fun _ => q0 _ _ (fixP_none hn) K e t)) (fun v hv K e t h7 => sg_X7_readHabit_6 (fun _ => ?_) (fun z => absurd z (by decide)))
  have hr := rdN_some hv
  rw [h7]
  refine c_setHabit ⟨hr.1, le3 hr.2⟩ (sg_X7_readHabit_24 ?_)
  rw [e.1 27 (by decide), e.1 28 (by decide)]
  exact q1 v _ ((fixP_some hv).trans rfl) ⟨hr.1, le3 hr.2⟩ K e t
theorem c_readWaiting {f : Nat → Nat} {n P : Nat} (ht : TkX I f n P) (q0 : ∀ l P', fixP f n [(0, 3), (0, 99)] P = (false, l, P') → ∀ K, Fr 19 [4, 5, 6, 7] I K → TkX K f n P' → Q (some (.int 0)) K) (q1 : ∀ v w P', fixP f n [(0, 3), (0, 99)] P = (true, [v, w], P') → 0 ≤ v ∧ v < 4 → 0 ≤ w ∧ w ≤ 99 → ∀ K, Fr 19 [4, 5, 6, 7] I K → TkX K f n P' → Q (some (.int 1)) (setI (setI K 27 (upd (I 27) v.toNatClampNeg 2)) 28 (upd (I 28) v.toNatClampNeg w))) : HCall E me_X7_readWaiting (d + 4) [.ref 19] I Q := by
  refine h_met (by decide) rfl (Nat.le_of_ble_eq_true rfl) (sg_X7_readWaiting_0 ?_)
  refine x_one (Fr.refl _ _ I) ht (fun hn K e t => sg_X7_readWaiting_6 (fun z => absurd rfl z) (fun _ => q0 _ _ (fixP_none hn) K e t)) (fun v hv K e t h7 => sg_X7_readWaiting_6 (fun _ => ?_) (fun z => absurd z (by decide)))
  have hr := rdN_some hv
  rw [h7]
  refine x_one e t (fun hn K e t => sg_X7_readWaiting_23 (fun z => absurd rfl z) (fun _ => q0 _ _ ((fixP_some hv).trans (by rw [fixP_none hn])) K e t)) (fun w hw K e t h7 => sg_X7_readWaiting_23 (fun _ => ?_) (fun z => absurd z (by decide)))
  rw [h7]
  refine c_setHabit ⟨hr.1, le3 hr.2⟩ (sg_X7_readWaiting_41 ?_)
  rw [e.1 27 (by decide), e.1 28 (by decide)]
  exact q1 v w _ ((fixP_some hv).trans (by rw [fixP_some hw]; rfl)) ⟨hr.1, le3 hr.2⟩ (rdN_some hw) K e t
theorem c_readLaw {f : Nat → Nat} {n P : Nat} (ht : TkX I f n P) (q0 : ∀ l P', fixP f n [(0, 3)] P = (false, l, P') → ∀ K, Fr 19 [4, 5, 6, 7] I K → TkX K f n P' → Q (some (.int 0)) K) (q1 : ∀ v P', fixP f n [(0, 3)] P = (true, [v], P') → 0 ≤ v ∧ v < 4 → ∀ K, Fr 19 [4, 5, 6, 7] I K → TkX K f n P' → Q (some (.int 1)) (setI K 21 (upd (I 21) 11 v))) : HCall E me_X7_readLaw (d + 4) [.ref 19] I Q := by
  refine h_met (by decide) rfl (Nat.le_of_ble_eq_true rfl) (sg_X7_readLaw_0 ?_)
  refine x_one (Fr.refl _ _ I) ht (fun hn K e t => sg_X7_readLaw_6 (fun z => absurd rfl z) (fun _ => q0 _ _ (fixP_none hn) K e t)) (fun v hv K e t h7 => sg_X7_readLaw_6 (fun _ => ?_) (fun z => absurd z (by decide)))
  have hr := rdN_some hv
  rw [h7, e.1 21 (by decide)]
  exact q1 v _ ((fixP_some hv).trans rfl) ⟨hr.1, le3 hr.2⟩ K e t
end DREST
