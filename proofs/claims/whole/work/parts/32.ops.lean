/-! the calls, side by side -/
theorem z0 : (0 : Int32).toInt = 0 := rfl
theorem z1 : (1 : Int32).toInt = 1 := rfl
theorem z4 : (4 : Int32).toInt = 4 := rfl
theorem zm1 : (-1 : Int32).toInt = -1 := rfl
theorem vI {x y : Int32} (h : x = y) : some (Value.int x) = some (Value.int y) := by rw [h]
theorem kx {I : HIh} {c : HCf} {a : Int32} (hc : CC I c) : (0 ≤ a ∧ a < I 1 9) ↔ ∃ k, k < cK c ∧ a = nI k := by
  have hK : cK c ≤ 6 := hc.2.2.2.2.2.2.2.2.1
  rw [hc.1]
  constructor
  · intro h; exact i_nat' h.1 (by omega) h.2
  · rintro ⟨k, hk, rfl⟩; exact ⟨nI_pos' (by omega), nI_lt hk (by omega)⟩
theorem km {I : HIh} {c : HCf} {a : Int32} (hm : MC I c) : (0 ≤ a ∧ a ≤ I 87 6 - 1) ↔ ∃ k, k < cK c ∧ a = nI k := by
  have hK : cK c ≤ 6 := hm.2.2.2.2.2.2.2.2.1
  have h1 : 1 ≤ cK c := hm.2.2.2.2.2.2.2.1
  obtain ⟨K, hKK⟩ : ∃ K, cK c = K + 1 := ⟨cK c - 1, by omega⟩
  rw [hm.1, hKK, nI_pred]
  constructor
  · intro h
    refine i_nat' h.1 (by omega) ?_
    have := h.2
    rw [i_le, nI_toInt (by omega)] at this
    rw [i_lt, nI_toInt (by omega)]; omega
  · rintro ⟨k, hk, rfl⟩
    refine ⟨nI_pos' (by omega), ?_⟩
    rw [i_le, nI_toInt (by omega), nI_toInt (by omega)]; omega
theorem px {a : Int32} : (0 ≤ a ∧ a < 4) ↔ ∃ p, p < 4 ∧ a = nI p := by
  constructor
  · intro h; exact i_nat' h.1 (by decide) h.2
  · rintro ⟨p, hp, rfl⟩; exact ⟨nI_pos' (by omega), nI_lt hp (by decide)⟩
def keyL : List Nat := [0, 1, 6, 7, 8, 9, 10, 11, 12, 13, 15, 16, 17, 18, 19, 20, 32, 57, 69, 80, 83, 84, 87, 88, 89, 90, 92, 93, 94, 95, 96, 101, 102]
theorem Rel.of {I J : HIh} (h : Rel I) (e : ∀ a, a ∈ keyL → J a = I a) : Rel J := by
  obtain ⟨c, s, t, hc, hm, hn, hk, ht, ho, hf, ha⟩ := h
  have g : ∀ a : Nat, a ∈ keyL → ∀ j, J a j = I a j := fun a ha j => congrFun (e a ha) j
  refine ⟨c, s, t, hc.of ⟨e 1 (by decide), e 6 (by decide), e 7 (by decide), e 8 (by decide), e 9 (by decide)⟩, hm.of ⟨g 87 (by decide) 6, g 87 (by decide) 13, g 87 (by decide) 11, e 92 (by decide), e 94 (by decide), e 95 (by decide), e 96 (by decide)⟩, hn.of ⟨e 13 (by decide), g 12 (by decide) 1, fun x _ => g 88 (by decide) x⟩, hk.of ⟨g 0 (by decide) 6, e 89 (by decide), e 15 (by decide), e 16 (by decide), e 17 (by decide), e 18 (by decide), fun x _ _ => g 88 (by decide) x⟩, ht.of ⟨g 19 (by decide) 2, g 87 (by decide) 3, e 20 (by decide), e 90 (by decide)⟩, ho.of ⟨g 80 (by decide) 6, g 87 (by decide) 27, e 83 (by decide), e 84 (by decide), e 101 (by decide), e 102 (by decide)⟩, hf.of ⟨g 10 (by decide) 1, e 11 (by decide), e 93 (by decide)⟩, ha.of ⟨g 32 (by decide) 4, g 32 (by decide) 5, e 57 (by decide), e 69 (by decide)⟩⟩
theorem Rel.scr {I : HIh} (h : Rel I) {q : Nat} (f : Nat → Int32) (n : ∀ a, a ∈ keyL → a ≠ q) : Rel (setI I q f) := h.of fun a ha => setI_ne I f (n a ha)
section OPS
variable {E : HEn} {d : Nat} {I : HIh}
theorem t_erase (h : Rel I) : Twin E d me_X11_erase me_X12_erase [.ref 0] [.ref 87] I := by
  obtain ⟨c, s, t, hc, hm, hn, hk, ht, ho, hf, ha⟩ := h
  obtain ⟨n, n1, n2, n3, n4⟩ := ht
  refine h_met (by decide) rfl (Nat.le_of_ble_eq_true rfl) (sg_X11_erase_0 ?_)
  refine h_met (by decide) rfl (Nat.le_of_ble_eq_true rfl) (sg_X12_erase_0 ?_)
  exact ⟨nI n, vI n2, vI n3, c, s, t, hc.of ⟨rfl, rfl, rfl, rfl, rfl⟩, hm.of ⟨rfl, rfl, rfl, rfl, rfl, rfl, rfl⟩, hn.of ⟨rfl, rfl, fun _ _ => rfl⟩, hk.of ⟨rfl, rfl, rfl, rfl, rfl, rfl, fun _ _ _ => rfl⟩, ⟨0, by omega, rfl, rfl, fun j hj => absurd hj (by omega)⟩, ho.of ⟨rfl, rfl, rfl, rfl, rfl, rfl⟩, hf.of ⟨rfl, rfl, rfl⟩, ha.of ⟨rfl, rfl, rfl, rfl⟩⟩
theorem t_forget (h : Rel I) : Twin E d me_X11_forget me_X12_forget [.ref 0] [.ref 87] I := by
  obtain ⟨c, s, t, hc, hm, hn, hk, ht, ho, hf, ha⟩ := h
  obtain ⟨m, n1, n2, n3, n4⟩ := ho
  refine h_met (by decide) rfl (Nat.le_of_ble_eq_true rfl) (sg_X11_forget_0 ?_)
  refine h_met (by decide) rfl (Nat.le_of_ble_eq_true rfl) (sg_X12_forget_0 ?_)
  exact ⟨nI m, vI n2, vI n3, c, s, t, hc.of ⟨rfl, rfl, rfl, rfl, rfl⟩, hm.of ⟨rfl, rfl, rfl, rfl, rfl, rfl, rfl⟩, hn.of ⟨rfl, rfl, fun _ _ => rfl⟩, hk.of ⟨rfl, rfl, rfl, rfl, rfl, rfl, fun _ _ _ => rfl⟩, ht.of ⟨rfl, rfl, rfl, rfl⟩, ⟨0, by omega, rfl, rfl, fun j hj => absurd hj (by omega)⟩, hf.of ⟨rfl, rfl, rfl⟩, ha.of ⟨rfl, rfl, rfl, rfl⟩⟩
theorem t_come {a : Int32} (h : Rel I) : Twin E d me_X11_come me_X12_come [.ref 0, .int a] [.ref 87, .int a] I := by
  have H := h
  obtain ⟨c, s, t, hc, hm, hn, hk, ht, ho, hf, ha⟩ := h
  have hV : cv c ≤ 24 := hc.2.2.2.2.2.2.2.2.2.2.2.2.2.1
  refine h_met (by decide) rfl (Nat.le_of_ble_eq_true rfl) (sg_X11_come_0 (fun a1 => ?_) (fun a1 => ?_))
  · obtain ⟨j, hj, rfl⟩ := nI_of (i_le_n a1)
    by_cases q : j < cv c
    · refine h_met (by decide) rfl (Nat.le_of_ble_eq_true rfl) (sg_X12_come_0 (fun _ z => ?_) (fun _ _ => vp_in_nI (by omega) (by decide)) (fun _ _ => ?_) (fun z => absurd a1 z))
      · rw [hm.2.1, nI_leI (by omega) (by omega)] at z; omega
      · refine ⟨nI (cp c j), vI ?_, vI ?_, H⟩
        · rw [hc.2.1, fVis_n _ q hV, hc.2.2.2.2.2.2.1 j q]
        · rw [nI_clamp (by omega), hm.2.2.2.2.2.2.1 j q]
    · refine h_met (by decide) rfl (Nat.le_of_ble_eq_true rfl) (sg_X12_come_0 (fun _ _ => ⟨-1, vI ?_, rfl, H⟩) (fun _ z => ?_) (fun _ z => ?_) (fun z => absurd a1 z))
      · rw [hc.2.1, fVis_out _ (by omega) (by omega)]
      all_goals rw [hm.2.1, nI_leI (by omega) (by omega)] at z; omega
  · exact h_met (by decide) rfl (Nat.le_of_ble_eq_true rfl) (sg_X12_come_0 (fun z => absurd z a1) (fun z => absurd z a1) (fun z => absurd z a1) (fun _ => ⟨-3, rfl, rfl, H⟩))
theorem row_lie {f : Nat → Int32} {s : HCn} {k : Nat} (h : RowC f 0 s) (hk : k < 6) : f (0 + nI k).toNatClampNeg = nI (s 4 k) := by
  rw [show (0 : Int32) = nI 0 from rfl, nI_add, nI_clamp (by omega)]; exact h.1 k hk
theorem row_had {f : Nat → Int32} {s : HCn} {p k : Nat} (h : RowC f 0 s) (hp : p < 4) (hk : k < 6) : f ((6 + 6 * nI p) + nI k).toNatClampNeg = nI (s p k) := by
  rw [show (6 : Int32) = nI 6 from rfl, pk_mul, nI_add, nI_add, nI_clamp (by omega)]
  have := h.2 p hp k hk
  rw [show 0 + 6 + 6 * p + k = 6 + 6 * p + k by omega] at this
  exact this
theorem t_coin {a b : Int32} (h : Rel I) : Twin E d me_X11_coin me_X12_coin [.ref 0, .int a, .int b] [.ref 87, .int a, .int b] I := by
  have H := h
  obtain ⟨c, s, t, hc, hm, hn, -⟩ := h
  have hK : cK c ≤ 6 := hc.2.2.2.2.2.2.2.2.1
  by_cases hk : ∃ k, k < cK c ∧ a = nI k
  · have a1 := (kx hc).mpr hk
    have a2 := (km hm).mpr hk
    obtain ⟨k, hk, rfl⟩ := hk
    have e1 : fWor (I 6) (nI k) = nI (cw c k) := by rw [fWor_n _ (by omega), hc.2.2.2.1 k hk]
    have e2 : fOf (I 13) 4 (nI k) = nI (s 4 k) := by rw [show (4 : Int32) = nI 4 from rfl, fOf_n _ (by omega) (by omega)]; exact hn.1 4 (by omega) k (by omega)
    have e3 : I 92 (nI k).toNatClampNeg = nI (cw c k) := by rw [nI_clamp (by omega), hm.2.2.2.1 k hk]
    have e4 : I 88 (0 + nI k).toNatClampNeg = nI (s 4 k) := row_lie hn.2.2.1 (by omega)
    have v1 : vp_in (0 + nI k) 341 := by rw [show (0 : Int32) = nI 0 from rfl, nI_add]; exact vp_in_nI (by omega) (by decide)
    have v2 : vp_in (nI k) 6 := vp_in_nI (by omega) (by decide)
    refine h_met (by decide) rfl (Nat.le_of_ble_eq_true rfl) (sg_X11_coin_0 (fun _ _ b1 => ?_) (fun _ _ b1 b2 b3 => ?_) (fun _ _ b1 b2 b3 => ?_) (fun _ _ b1 b2 => ?_) (fun z => absurd a1 z))
    all_goals refine h_met (by decide) rfl (Nat.le_of_ble_eq_true rfl) (sg_X12_coin_0 (fun _ _ c1 c2 => ?_) (fun _ _ c1 c2 => v1) (fun _ _ c1 c2 => ?_) (fun _ _ c1 => v2) (fun _ _ c1 => ?_) (fun z => absurd a2 z))
    all_goals first
      | exact ⟨_, rfl, rfl, H⟩
      | exact ⟨_, vI e2, vI e4, H⟩
      | exact ⟨_, vI e1, vI e3, H⟩
      | (exfalso; simp only [i_lt, i_le, i_eq, z0, z1] at *; omega)
  · exact h_met (by decide) rfl (Nat.le_of_ble_eq_true rfl) (sg_X11_coin_0 (fun z y => absurd ((kx hc).mp ⟨z, y⟩) hk) (fun z y => absurd ((kx hc).mp ⟨z, y⟩) hk) (fun z y => absurd ((kx hc).mp ⟨z, y⟩) hk) (fun z y => absurd ((kx hc).mp ⟨z, y⟩) hk) (fun _ => h_met (by decide) rfl (Nat.le_of_ble_eq_true rfl) (sg_X12_coin_0 (fun z y => absurd ((km hm).mp ⟨z, y⟩) hk) (fun z y => absurd ((km hm).mp ⟨z, y⟩) hk) (fun z y => absurd ((km hm).mp ⟨z, y⟩) hk) (fun z y => absurd ((km hm).mp ⟨z, y⟩) hk) (fun z y => absurd ((km hm).mp ⟨z, y⟩) hk) (fun _ => ⟨_, rfl, rfl, H⟩))))
theorem t_purse {a b : Int32} (h : Rel I) : Twin E d me_X11_purse me_X12_purse [.ref 0, .int a, .int b] [.ref 87, .int a, .int b] I := by
  have H := h
  obtain ⟨c, s, t, hc, hm, hn, -⟩ := h
  have hK : cK c ≤ 6 := hc.2.2.2.2.2.2.2.2.1
  refine h_met (by decide) rfl (Nat.le_of_ble_eq_true rfl) (sg_X11_purse_0 (fun p1 p2 k1 k2 => ?_) (fun p1 p2 k1 => ?_) (fun p1 => ?_))
  · obtain ⟨p, hp, rfl⟩ := px.mp ⟨p1, p2⟩
    obtain ⟨k, hk, rfl⟩ := (kx hc).mp ⟨k1, k2⟩
    refine h_met (by decide) rfl (Nat.le_of_ble_eq_true rfl) (sg_X12_purse_0 (fun _ _ _ _ => ?_) (fun _ _ _ _ => ⟨nI (s p k), vI ?_, vI (row_had hn.2.2.1 hp (by omega)), H⟩) (fun _ _ z => absurd ((km hm).mpr ⟨k, hk, rfl⟩) z) (fun z => absurd ⟨p1, p2⟩ z))
    · rw [show (6 : Int32) = nI 6 from rfl, pk_mul, nI_add, nI_add]; exact vp_in_nI (by omega) (by decide)
    · rw [fOf_n _ (by omega) (by omega)]; exact hn.1 p (by omega) k (by omega)
  · exact h_met (by decide) rfl (Nat.le_of_ble_eq_true rfl) (sg_X12_purse_0 (fun _ _ z y => absurd ((kx hc).mpr ((km hm).mp ⟨z, y⟩)) k1) (fun _ _ z y => absurd ((kx hc).mpr ((km hm).mp ⟨z, y⟩)) k1) (fun _ _ _ => ⟨_, rfl, rfl, H⟩) (fun z => absurd ⟨p1, p2⟩ z))
  · exact h_met (by decide) rfl (Nat.le_of_ble_eq_true rfl) (sg_X12_purse_0 (fun z y => absurd ⟨z, y⟩ p1) (fun z y => absurd ⟨z, y⟩ p1) (fun z y => absurd ⟨z, y⟩ p1) (fun _ => ⟨_, rfl, rfl, H⟩))
theorem t_gain {a b : Int32} (h : Rel I) : Twin E d me_X11_gain me_X12_gain [.ref 0, .int a, .int b] [.ref 87, .int a, .int b] I := by
  have H := h
  obtain ⟨c, s, t, hc, hm, hn, -⟩ := h
  have hK : cK c ≤ 6 := hc.2.2.2.2.2.2.2.2.1
  have h2 := hn.2.2.2.2.1.l2
  have go : ∀ p1 : (0 : Int32) ≤ a, a < 4 → ∀ k1 : (0 : Int32) ≤ b, b < I 1 9 → ∃ p k, p < 4 ∧ k < cK c ∧ a = nI p ∧ b = nI k ∧ fOf (I 13) a b = nI (s p k) := fun p1 p2 k1 k2 => by
    obtain ⟨p, hp, rfl⟩ := px.mp ⟨p1, p2⟩
    obtain ⟨k, hk, rfl⟩ := (kx hc).mp ⟨k1, k2⟩
    exact ⟨p, k, hp, hk, rfl, rfl, by rw [fOf_n _ (by omega) (by omega)]; exact hn.1 p (by omega) k (by omega)⟩
  refine h_met (by decide) rfl (Nat.le_of_ble_eq_true rfl) (sg_X11_gain_0 (fun p1 p2 k1 k2 z => ?_) (fun p1 p2 k1 k2 z => ?_) (fun p1 p2 k1 => ?_) (fun p1 => ?_))
  · obtain ⟨p, k, hp, hk, rfl, rfl, e⟩ := go p1 p2 k1 k2
    rw [e] at z
    have z' : 0 < s p k := Nat.pos_of_ne_zero fun w => z (by rw [w]; rfl)
    refine c_gainOf hc (by decide) hn.1.ft (fun j hj => h2 4 (by decide) j hj) hk (sg_X11_gain_48 ?_)
    refine h_met (by decide) rfl (Nat.le_of_ble_eq_true rfl) (sg_X12_gain_0 (fun _ _ _ _ => ?_) (fun _ _ z => absurd ((km hm).mpr ⟨k, hk, rfl⟩) z) (fun z => absurd ⟨p1, p2⟩ z))
    refine m_isHad (b := 0) hn.2.2.1 (by decide) h2 hp (by omega) (fun _ => ?_) (fun w => absurd w (by omega))
    refine sg_X12_gain_25 (fun w => absurd w (by decide)) (fun _ => ?_)
    refine m_gainOf (b := 0) hm hn.2.2.1.1 (by decide) (fun j hj => h2 4 (by decide) j hj) hk (fun f' _ => sg_X12_gain_36 ?_)
    exact ⟨_, rfl, vI (Int32.add_comm _ _), H.scr f' (by decide)⟩
  · obtain ⟨p, k, hp, hk, rfl, rfl, e⟩ := go p1 p2 k1 k2
    rw [e] at z
    have hle := h2 p (by omega) k (by omega)
    have z' : s p k = 0 := (nI_eq (b := 0) (by omega) (by decide)).mp z
    refine h_met (by decide) rfl (Nat.le_of_ble_eq_true rfl) (sg_X12_gain_0 (fun _ _ _ _ => ?_) (fun _ _ z => absurd ((km hm).mpr ⟨k, hk, rfl⟩) z) (fun z => absurd ⟨p1, p2⟩ z))
    refine m_isHad (b := 0) hn.2.2.1 (by decide) h2 hp (by omega) (fun w => absurd w (by omega)) (fun _ => ?_)
    exact sg_X12_gain_25 (fun _ => ⟨_, rfl, rfl, H⟩) (fun w => absurd rfl w)
  · exact h_met (by decide) rfl (Nat.le_of_ble_eq_true rfl) (sg_X12_gain_0 (fun _ _ z y => absurd ((kx hc).mpr ((km hm).mp ⟨z, y⟩)) k1) (fun _ _ _ => ⟨_, rfl, rfl, H⟩) (fun z => absurd ⟨p1, p2⟩ z))
  · exact h_met (by decide) rfl (Nat.le_of_ble_eq_true rfl) (sg_X12_gain_0 (fun z y => absurd ⟨z, y⟩ p1) (fun z y => absurd ⟨z, y⟩ p1) (fun _ => ⟨_, rfl, rfl, H⟩))
end OPS
