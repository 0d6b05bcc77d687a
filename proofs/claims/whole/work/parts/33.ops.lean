/-! the calls, side by side: those that write -/
theorem upd_upd (f : Nat → Int32) (i : Nat) (x y : Int32) : upd (upd f i x) i y = upd f i y := by
  funext j; unfold upd; split <;> rfl
theorem st2 (I : HIh) {p q : Nat} (n : p ≠ q) (f f' g g' : Nat → Int32) : setI (setI (setI (setI I p f) q g) p f') q g' = setI (setI I p f') q g' := by
  rw [setI_comm (setI I p f) g f' n.symm, setI_setI, setI_setI]
/-- the byte of a long at a place -/
def byt (x : Int64) (i : Nat) : Int32 := ((x >>> ((8 * nI i).toInt64 &&& 63)) &&& 255).toInt32
theorem byt_b (x : Int64) (i : Nat) : ∃ b, b < 256 ∧ byt x i = nI b := by
  unfold byt
  generalize (x >>> ((8 * nI i).toInt64 &&& 63)) = y
  refine ⟨(y.toBitVec &&& 255#64).toNat, ?_, ?_⟩
  · have : (y.toBitVec &&& 255#64).toNat ≤ 255 := by
      rw [BitVec.toNat_and]; exact Nat.and_le_right
    omega
  · have h : (y.toBitVec &&& 255#64).toNat ≤ 255 := by
      rw [BitVec.toNat_and]; exact Nat.and_le_right
    apply Int32.toBitVec_inj.mp
    apply BitVec.eq_of_toNat_eq
    rw [Int64.toBitVec_toInt32, Int64.toBitVec_and]
    first
      | rw [BitVec.signExtend_eq_setWidth_of_le _ (by decide), BitVec.toNat_setWidth]
      | rw [BitVec.signExtend_eq_setWidth_of_lt _ (by decide), BitVec.toNat_setWidth]
    show (y.toBitVec &&& 255#64).toNat % 2 ^ 32 = (nI (y.toBitVec &&& 255#64).toNat).toBitVec.toNat
    rw [show (nI (y.toBitVec &&& 255#64).toNat).toBitVec = BitVec.ofNat 32 (y.toBitVec &&& 255#64).toNat from rfl, BitVec.toNat_ofNat]
theorem win (b : Int32) (l g : Int32) : ((l.toInt64 : Int64) ≤ b.toInt64 ∧ b.toInt64 ≤ g.toInt64) ↔ (l ≤ b ∧ b ≤ g) := by rw [w_le, w_le]
section OPS2
variable {E : HEn} {d : Nat} {I : HIh}
theorem t_note {a b : Int32} (h : Rel I) : Twin E d me_X11_note me_X12_note [.ref 0, .int a, .int b] [.ref 87, .int a, .int b] I := by
  have H := h
  obtain ⟨c, s, t, hc, hm, hn, hk, ht, ho, hf, ha⟩ := h
  have hK : cK c ≤ 6 := hc.2.2.2.2.2.2.2.2.1
  obtain ⟨m, m1, m2, m3, m4⟩ := ho
  have nk : ¬ ((0 : Int32) ≤ a ∧ a < I 1 9) → ¬ ((0 : Int32) ≤ a ∧ a ≤ I 87 6 - 1) := fun z y => z ((kx hc).mpr ((km hm).mp y))
  have bw : ∀ b : Int32, ((0 : Int64) ≤ b.toInt64 ∧ (b.toInt64 : Int64) ≤ 9999) ↔ (0 ≤ b ∧ b ≤ 9999) := fun b => win b 0 9999
  refine h_met (by decide) rfl (Nat.le_of_ble_eq_true rfl) (sg_X11_note_0 (fun a1 a2 b1 => ?_) (fun a1 a2 b1 b2 => ?_) (fun a1 a2 b1 b2 => ?_) (fun a1 => ?_))
  · have q : ¬ ((0 : Int64) ≤ b.toInt64 ∧ (b.toInt64 : Int64) ≤ 9999) := fun z => i_lt_n b1 ((bw b).mp z).1
    exact h_met (by decide) rfl (Nat.le_of_ble_eq_true rfl) (sg_X12_note_0 (fun _ _ z y => absurd ⟨z, y⟩ q) (fun _ _ z y => absurd ⟨z, y⟩ q) (fun _ _ z y => absurd ⟨z, y⟩ q) (fun _ _ _ => ⟨_, rfl, rfl, H⟩) (fun z => absurd ((km hm).mpr ((kx hc).mp ⟨a1, a2⟩)) z))
  · obtain ⟨k, hk', rfl⟩ := (kx hc).mp ⟨a1, a2⟩
    obtain ⟨w, hw, rfl⟩ := i_nat b1 (n := 10000) (by decide) (by rw [i_le] at b2; rw [i_lt]; have e1 : (9999 : Int32).toInt = 9999 := rfl; have e2 : (nI 10000).toInt = 10000 := rfl; omega)
    have v : ∀ x, I x = I x := fun _ => rfl
    by_cases e : m = 6
    · subst e
      refine h_met (by decide) rfl (Nat.le_of_ble_eq_true rfl) (sg_X6_add_0 (fun z => ?_) (fun z y => ?_) (fun z y => ?_) (fun z y => ?_))
      · rw [m2] at z; exact absurd z (by decide)
      · rw [m2]; rw [m2] at y; exact absurd y (by decide)
      · rw [m2] at y; exact absurd y (by decide)
      · refine sg_X11_note_37 (fun _ => ?_) (fun z => absurd rfl z)
        exact h_met (by decide) rfl (Nat.le_of_ble_eq_true rfl) (sg_X12_note_0 (fun _ _ _ _ z => absurd m3 z) (fun _ _ _ _ z => absurd m3 z) (fun _ _ _ _ _ => ⟨_, rfl, rfl, H⟩) (fun _ _ z => absurd ((bw _).mpr ⟨i_nlt b1, b2⟩) z) (fun z => absurd ((km hm).mpr ⟨k, hk', rfl⟩) z))
    · have p1 : ¬ I 80 6 < 0 := by rw [m2]; exact fun z => by rw [i_lt, nI_toInt (by omega), z0] at z; omega
      have p2 : I 80 6 < 6 := by rw [m2]; exact nI_lt (b := 6) (by omega) (by decide)
      refine h_met (by decide) rfl (Nat.le_of_ble_eq_true rfl) (sg_X6_add_0 (fun z => absurd z p1) (fun _ _ => by rw [m2]; exact vp_in_nI (by omega) (by decide)) (fun _ _ => ?_) (fun _ z => absurd p2 z))
      refine sg_X11_note_37 (fun z => absurd z (by decide)) (fun _ => ?_)
      have p3 : ¬ I 87 27 = 6 := by rw [m3]; exact fun z => e ((nI_eq (b := 6) (by omega) (by decide)).mp z)
      have p4 : vp_in (I 87 27) 6 := by rw [m3]; exact vp_in_nI (by omega) (by decide)
      refine h_met (by decide) rfl (Nat.le_of_ble_eq_true rfl) (sg_X12_note_0 (fun _ _ _ _ _ => p4) (fun _ _ _ _ _ => ?_) (fun _ _ _ _ z => absurd z p3) (fun _ _ z => absurd ((bw _).mpr ⟨i_nlt b1, b2⟩) z) (fun z => absurd ((km hm).mpr ⟨k, hk', rfl⟩) z))
      have q2 : I 80 6 + 1 = nI (m + 1) := by rw [m2, nI_1]
      have q3 : I 87 27 + 1 = nI (m + 1) := by rw [m3, nI_1]
      have c2 : (I 80 6).toNatClampNeg = m := by rw [m2, nI_clamp (by omega)]
      have c3 : (I 87 27).toNatClampNeg = m := by rw [m3, nI_clamp (by omega)]
      refine ⟨nI (m + 1), vI q2, vI q3, c, s, t, hc.of ⟨rfl, rfl, rfl, rfl, rfl⟩, hm.of ⟨rfl, rfl, rfl, rfl, rfl, rfl, rfl⟩, hn.of ⟨rfl, rfl, fun _ _ => rfl⟩, hk.of ⟨rfl, rfl, rfl, rfl, rfl, rfl, fun _ _ _ => rfl⟩, ht.of ⟨rfl, rfl, rfl, rfl⟩, ⟨m + 1, by omega, q2, q3, fun j hj => ?_⟩, hf.of ⟨rfl, rfl, rfl⟩, ha.of ⟨rfl, rfl, rfl, rfl⟩⟩
      show (∃ k', k' < cK c ∧ upd (I 83) (I 80 6).toNatClampNeg (nI k) j = nI k' ∧ upd (I 101) (I 87 27).toNatClampNeg (nI k) j = nI k') ∧ ∃ w', w' ≤ 9999 ∧ upd (I 84) (I 80 6).toNatClampNeg (nI w) j = nI w' ∧ upd (I 102) (I 87 27).toNatClampNeg (nI w) j = nI w'
      rw [c2, c3]
      by_cases ej : j = m
      · subst ej
        rw [upd_at _ rfl, upd_at _ rfl, upd_at _ rfl, upd_at _ rfl]
        exact ⟨⟨k, hk', rfl, rfl⟩, w, by omega, rfl, rfl⟩
      · rw [upd_off _ ej, upd_off _ ej, upd_off _ ej, upd_off _ ej]
        exact m4 j (by omega)
  · have q : ¬ ((0 : Int64) ≤ b.toInt64 ∧ (b.toInt64 : Int64) ≤ 9999) := fun z => b2 ((bw b).mp z).2
    exact h_met (by decide) rfl (Nat.le_of_ble_eq_true rfl) (sg_X12_note_0 (fun _ _ z y => absurd ⟨z, y⟩ q) (fun _ _ z y => absurd ⟨z, y⟩ q) (fun _ _ z y => absurd ⟨z, y⟩ q) (fun _ _ _ => ⟨_, rfl, rfl, H⟩) (fun z => absurd ((km hm).mpr ((kx hc).mp ⟨a1, a2⟩)) z))
  · exact h_met (by decide) rfl (Nat.le_of_ble_eq_true rfl) (sg_X12_note_0 (fun z y => absurd ⟨z, y⟩ (nk a1)) (fun z y => absurd ⟨z, y⟩ (nk a1)) (fun z y => absurd ⟨z, y⟩ (nk a1)) (fun z y => absurd ⟨z, y⟩ (nk a1)) (fun _ => ⟨_, rfl, rfl, H⟩))
theorem write_x {Q : Option Value → HIh → Prop} {x1 : Int64} {n b : Nat} (hnb : n + b ≤ 200) {f0 : Nat → Int32} (q : ∀ g, (∀ i, i < n → g i = f0 i) → (∀ i, i < b → g (n + i) = byt x1 i) → Q (some (.int (nI (n + b)))) (setI (setI I 20 g) 19 (upd (I 19) 2 (nI (n + b))))) : ∀ (m j : Nat) (g : Nat → Int32), j + m = b → (∀ i, i < n → g i = f0 i) → (∀ i, i < j → g (n + i) = byt x1 i) → HGo E (mF E (d + 2) Q) me_X11_write 35 [(0, .ref 0), (1, .long x1), (3, .int (nI b)), (4, .int (nI j))] [] (setI (setI I 20 g) 19 (upd (I 19) 2 (nI (n + j))))
  | m, j, g, hj, h1, h2 => by
    refine sg_X11_write_35 (fun z => ?_) (fun z => ?_)
    · rw [nI_leI (by omega) (by omega)] at z
      have e : j = b := by omega
      subst e
      exact q g h1 h2
    · rw [nI_leI (by omega) (by omega)] at z
      obtain ⟨m, rfl⟩ : ∃ k, m = k + 1 := ⟨m - 1, by omega⟩
      have e1 : (setI (setI I 20 g) 19 (upd (I 19) 2 (nI (n + j)))) 19 2 = nI (n + j) := rfl
      refine h_met (by decide) rfl (Nat.le_of_ble_eq_true rfl) (sg_X7_append_0 (fun z => ?_) (fun z y => ?_) (fun _ _ => ?_) (fun _ _ => ?_))
      · rw [e1, i_lt, nI_toInt (by omega), z0] at z; omega
      · rw [e1, i_le, nI_toInt (by omega), show (200 : Int32).toInt = 200 from rfl] at y; omega
      · rw [e1]; exact vp_in_nI (by omega) (by decide)
      · refine sg_X11_write_60 ?_
        rw [st2 I (by decide)]
        show HGo E _ _ _ _ _ (setI (setI I 20 (upd g (nI (n + j)).toNatClampNeg (byt x1 j))) 19 (upd (upd (I 19) 2 (nI (n + j))) 2 (nI (n + j) + 1)))
        rw [upd_upd, nI_clamp (by omega), nI_1, nI_1, Nat.add_assoc]
        refine write_x hnb q m (j + 1) _ (by omega) (fun i hi => ?_) (fun i hi => ?_)
        · rw [upd_off _ (by omega)]; exact h1 i hi
        · by_cases e : i = j
          · subst e; rw [upd_at _ rfl]
          · rw [upd_off _ (by omega)]; exact h2 i (by omega)
theorem write_m {Q : Option Value → HIh → Prop} {x1 : Int64} {n b : Nat} (hnb : n + b ≤ 200) {f0 : Nat → Int32} (q : ∀ g, (∀ i, i < n → g i = f0 i) → (∀ i, i < b → g (n + i) = byt x1 i) → Q (some (.int (nI (n + b)))) (setI (setI I 90 g) 87 (upd (I 87) 3 (nI (n + b))))) : ∀ (m j : Nat) (g : Nat → Int32), j + m = b → (∀ i, i < n → g i = f0 i) → (∀ i, i < j → g (n + i) = byt x1 i) → HGo E (mF E (d + 2) Q) me_X12_write 33 [(0, .ref 87), (1, .long x1), (3, .int (nI b)), (4, .int (nI j))] [] (setI (setI I 90 g) 87 (upd (I 87) 3 (nI (n + j))))
  | m, j, g, hj, h1, h2 => by
    have e1 : (setI (setI I 90 g) 87 (upd (I 87) 3 (nI (n + j)))) 87 3 = nI (n + j) := rfl
    refine sg_X12_write_33 (fun z => ?_) (fun z => ?_) (fun z => ?_)
    · rw [nI_leI (by omega) (by omega)] at z
      have e : j = b := by omega
      subst e
      exact q g h1 h2
    · rw [nI_leI (by omega) (by omega)] at z
      rw [e1]; exact vp_in_nI (by omega) (by decide)
    · rw [nI_leI (by omega) (by omega)] at z
      obtain ⟨m, rfl⟩ : ∃ k, m = k + 1 := ⟨m - 1, by omega⟩
      rw [st2 I (by decide)]
      show HGo E _ _ _ _ _ (setI (setI I 90 (upd g (nI (n + j)).toNatClampNeg (byt x1 j))) 87 (upd (upd (I 87) 3 (nI (n + j))) 3 (nI (n + j) + 1)))
      rw [upd_upd, nI_clamp (by omega), nI_1, nI_1, Nat.add_assoc]
      refine write_m hnb q m (j + 1) _ (by omega) (fun i hi => ?_) (fun i hi => ?_)
      · rw [upd_off _ (by omega)]; exact h1 i hi
      · by_cases e : i = j
        · subst e; rw [upd_at _ rfl]
        · rw [upd_off _ (by omega)]; exact h2 i (by omega)
theorem upd_id (f : Nat → Int32) {i : Nat} {x : Int32} (h : f i = x) : upd f i x = f := by
  funext j; unfold upd; split
  · rename_i e; subst e; exact h.symm
  · rfl
theorem st_id (J : HIh) {p q i : Nat} {x : Int32} (h : J q i = x) : J = setI (setI J p (J p)) q (upd (J q) i x) := by
  rw [upd_id _ h, setI_id, setI_id]
theorem t_write {x : Int64} {b : Int32} (h : Rel I) : Twin E d me_X11_write me_X12_write [.ref 0, .long x, .int b] [.ref 87, .long x, .int b] I := by
  have H := h
  obtain ⟨c, s, t, hc, hm, hn, hk, ht, ho, hf, ha⟩ := h
  obtain ⟨n, n1, n2, n3, n4⟩ := ht
  have bw : ((1 : Int64) ≤ b.toInt64 ∧ (b.toInt64 : Int64) ≤ 8) ↔ (1 ≤ b ∧ b ≤ 8) := win b 1 8
  have bn : ¬ b < 1 → b ≤ 8 → ∃ m, 1 ≤ m ∧ m ≤ 8 ∧ b = nI m := fun z y => by
    obtain ⟨m, hm, rfl⟩ := nI_of (x := b) (fun w => by rw [i_lt] at w z; have e1 : (1 : Int32).toInt = 1 := rfl; have e2 : (0 : Int32).toInt = 0 := rfl; omega)
    rw [i_lt, nI_toInt (by omega), z1] at z
    rw [i_le, nI_toInt (by omega), show (8 : Int32).toInt = 8 from rfl] at y
    exact ⟨m, by omega, by omega, rfl⟩
  refine h_met (by decide) rfl (Nat.le_of_ble_eq_true rfl) (sg_X11_write_0 (fun z => ?_) (fun z y w => ?_) (fun z y w => ?_) (fun z y => ?_))
  · have q : ¬ ((1 : Int64) ≤ b.toInt64 ∧ (b.toInt64 : Int64) ≤ 8) := fun w => i_lt_n z (bw.mp w).1
    exact h_met (by decide) rfl (Nat.le_of_ble_eq_true rfl) (sg_X12_write_0 (fun w v => absurd ⟨w, v⟩ q) (fun w v => absurd ⟨w, v⟩ q) (fun _ => ⟨_, rfl, rfl, H⟩))
  · have q := bw.mpr ⟨i_nlt z, y⟩
    obtain ⟨m, b1, b2, rfl⟩ := bn z y
    rw [n2, nI_add, i_le, nI_toInt (by omega), show (200 : Int32).toInt = 200 from rfl] at w
    have hnb : n + m ≤ 200 := by omega
    have st : I = setI (setI I 20 (I 20)) 19 (upd (I 19) 2 (nI (n + 0))) := by
      rw [upd_id _ (by rw [n2]; rfl), setI_id, setI_id]
    rw [st]
    refine write_x hnb (f0 := I 20) (fun g g1 g2 => ?_) m 0 (I 20) (by omega) (fun _ _ => rfl) (fun i hi => absurd hi (by omega))
    have e3 : (setI (setI I 20 g) 19 (upd (I 19) 2 (nI (n + m)))) 87 3 = nI n := n3
    refine h_met (by decide) rfl (Nat.le_of_ble_eq_true rfl) (sg_X12_write_0 (fun _ _ _ => ?_) (fun _ _ z => ?_) (fun z => absurd q z))
    · rw [st_id (setI (setI I 20 g) 19 (upd (I 19) 2 (nI (n + m)))) (p := 90) (q := 87) (i := 3) (x := nI (n + 0)) n3]
      refine write_m (I := setI (setI I 20 g) 19 (upd (I 19) 2 (nI (n + m)))) hnb (f0 := I 90) (fun g' g1' g2' => ?_) m 0 (I 90) (by omega) (fun _ _ => rfl) (fun i hi => absurd hi (by omega))
      refine ⟨nI (n + m), rfl, rfl, c, s, t, hc.of ⟨rfl, rfl, rfl, rfl, rfl⟩, hm.of ⟨rfl, rfl, rfl, rfl, rfl, rfl, rfl⟩, hn.of ⟨rfl, rfl, fun _ _ => rfl⟩, hk.of ⟨rfl, rfl, rfl, rfl, rfl, rfl, fun _ _ _ => rfl⟩, ⟨n + m, hnb, rfl, rfl, fun j hj => ?_⟩, ho.of ⟨rfl, rfl, rfl, rfl, rfl, rfl⟩, hf.of ⟨rfl, rfl, rfl⟩, ha.of ⟨rfl, rfl, rfl, rfl⟩⟩
      show g j = g' j ∧ ∃ b, b < 256 ∧ g j = nI b
      by_cases e : j < n
      · rw [g1 j e, g1' j e]; exact n4 j e
      · obtain ⟨i, rfl⟩ : ∃ i, j = n + i := ⟨j - n, by omega⟩
        rw [g2 i (by omega), g2' i (by omega)]
        exact ⟨rfl, byt_b x i⟩
    · rw [e3, nI_add, i_le, nI_toInt (by omega), show (200 : Int32).toInt = 200 from rfl] at z; omega
  · have q := bw.mpr ⟨i_nlt z, y⟩
    obtain ⟨m, b1, b2, rfl⟩ := bn z y
    rw [n2, ← n3] at w
    exact h_met (by decide) rfl (Nat.le_of_ble_eq_true rfl) (sg_X12_write_0 (fun _ _ v => absurd v w) (fun _ _ _ => ⟨_, rfl, rfl, H⟩) (fun z => absurd q z))
  · have q : ¬ ((1 : Int64) ≤ b.toInt64 ∧ (b.toInt64 : Int64) ≤ 8) := fun w => y (bw.mp w).2
    exact h_met (by decide) rfl (Nat.le_of_ble_eq_true rfl) (sg_X12_write_0 (fun w v => absurd ⟨w, v⟩ q) (fun w v => absurd ⟨w, v⟩ q) (fun _ => ⟨_, rfl, rfl, H⟩))
end OPS2
