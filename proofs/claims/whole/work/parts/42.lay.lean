/-! what may have lain there: one answer -/
section LAYU
variable {E : HEn} {d : Nat} {Q : Option Value → HIh → Prop} {I : HIh}
theorem c_leastOf {k : Nat} (hk : k < 6) (q : Q (some (.int (I 85 k))) I) : HCall E me_X6_leastOf (d + 1) [.ref 80, .int (nI k)] I Q := by
  refine h_met (by decide) rfl (Nat.le_of_ble_eq_true rfl) (sg_X6_leastOf_0 (fun z => absurd z (i_le_n (nI_pos' (by omega)))) (fun _ z => ?_) (fun _ _ => vp_in_nI (by omega) (by decide)) (fun _ _ => by rw [nI_clamp (by omega)]; exact q))
  rw [i_le, nI_toInt (by omega), show (6 : Int32).toInt = 6 from rfl] at z; omega
theorem c_mostOf {k : Nat} (hk : k < 6) (q : Q (some (.int (I 86 k))) I) : HCall E me_X6_mostOf (d + 1) [.ref 80, .int (nI k)] I Q := by
  refine h_met (by decide) rfl (Nat.le_of_ble_eq_true rfl) (sg_X6_mostOf_0 (fun z => absurd z (i_le_n (nI_pos' (by omega)))) (fun _ z => ?_) (fun _ _ => vp_in_nI (by omega) (by decide)) (fun _ _ => by rw [nI_clamp (by omega)]; exact q))
  rw [i_le, nI_toInt (by omega), show (6 : Int32).toInt = 6 from rfl] at z; omega
theorem m_lay {c : HCf} {nk nw : Nat → Nat} {m n : Nat} {ow : Nat → Nat} (hm : MC I c) (h4 : cK c ≤ 4) (hm6 : m ≤ 6) (hs : I 87 27 = nI m) (hk : ∀ j, j < m → nk j < cK c ∧ I 101 j = nI (nk j) ∧ nw j ≤ 9999 ∧ I 102 j = nI (nw j)) (hn : (n ≤ 1 ∧ ow = fun _ => 0) ∨ (10 ≤ n ∧ n - 10 < cK c ∧ ow = fun v => figN c v (n - 10)) ∨ (20 ≤ n ∧ n - 20 < cK c ∧ ow = fun v => figN c v (n - 20))) (q : ∀ J, (∀ x, x ≠ 97 → x ≠ 88 → J x = I x) → (∀ x, x < 93 → J 88 x = I 88 x) → (n = 0 → Q (some (.int (nI (lyC (isFit c nk nw m) (4 ^ cK c))))) J) ∧ (n = 1 → Q (some (.int (lyF (isFit c nk nw m) (4 ^ cK c)))) J) ∧ (10 ≤ n → n < 20 → Q (some (.int (lyL (isFit c nk nw m) ow (4 ^ cK c)))) J) ∧ (20 ≤ n → Q (some (.int (lyM (isFit c nk nw m) ow (4 ^ cK c)))) J)) : HCall E me_X12_lay (d + 4) [.ref 87, .int (nI n)] I Q := by
  have hnn : n < 30 := by omega
  have z0' : nI n = 0 ↔ n = 0 := nI_eq (b := 0) (by omega) (by decide)
  have z1' : nI n = 1 ↔ n = 1 := nI_eq (b := 1) (by omega) (by decide)
  have z10 : (10 : Int32) ≤ nI n ↔ 10 ≤ n := nI_leI (a := 10) (by omega) (by omega)
  have z20 : (20 : Int32) ≤ nI n ↔ 20 ≤ n := nI_leI (a := 20) (by omega) (by omega)
  have le4 : I 87 6 ≤ 4 := by rw [hm.1]; exact (nI_leI (b := 4) (by omega) (by omega)).mpr h4
  have loop := m_lay_loop (E := E) (d := d) (Q := Q) (a := nI n) (ow := ow) hm h4 hm6 hs hk (fun w v hv => by
    rw [z10] at w
    rw [show (10 : Int32) = nI 10 from rfl, nI_mod (by omega) (by decide)]
    rcases hn with h | ⟨h1, h2, rfl⟩ | ⟨h1, h2, rfl⟩
    · omega
    · rw [show n % 10 = n - 10 by omega]; exact fig_i h4 h2 hv
    · rw [show n % 10 = n - 20 by omega]; exact fig_i h4 h2 hv) (fun w v => by
    rw [z10] at w
    rcases hn with ⟨h, rfl⟩ | ⟨h1, h2, rfl⟩ | ⟨h1, h2, rfl⟩
    · rfl
    · omega
    · omega) (fun J f1 f2 => by
    have := q J f1 f2
    rw [z0', z1', z20]
    exact ⟨this.1, this.2.1, fun a b c => this.2.2.1 (by omega) (by omega), fun _ _ c => this.2.2.2 c⟩) (4 ^ cK c) 0 I (by omega) (fun _ _ _ => rfl) (fun _ _ => rfl)
  have A01 : ((0 : Int64) ≤ (nI n).toInt64 ∧ ((nI n).toInt64 : Int64) ≤ 1) ↔ n ≤ 1 := by
    rw [show ((0 : Int64) ≤ (nI n).toInt64 ∧ ((nI n).toInt64 : Int64) ≤ 1) ↔ (0 ≤ nI n ∧ nI n ≤ 1) from win (nI n) 0 1, show (1 : Int32) = nI 1 from rfl, nI_leI (by omega) (by omega)]
    exact ⟨fun h => h.2, fun h => ⟨nI_pos' (by omega), h⟩⟩
  have B10 : ((10 : Int64) ≤ (nI n).toInt64 ∧ ((nI n).toInt64 : Int64) ≤ (9 + I 87 6).toInt64) ↔ (10 ≤ n ∧ n - 10 < cK c) := by
    rw [show ((10 : Int64) ≤ (nI n).toInt64 ∧ ((nI n).toInt64 : Int64) ≤ (9 + I 87 6).toInt64) ↔ (nI 10 ≤ nI n ∧ nI n ≤ nI 10 - 1 + I 87 6) from win (nI n) 10 (9 + I 87 6), w10 hm (by decide)]
    constructor
    · rintro ⟨k, hk, e⟩
      have := (nI_eq (by omega) (by omega)).mp e
      omega
    · intro h; exact ⟨n - 10, h.2, by congr 1; omega⟩
  have B20 : ((20 : Int64) ≤ (nI n).toInt64 ∧ ((nI n).toInt64 : Int64) ≤ (19 + I 87 6).toInt64) ↔ (20 ≤ n ∧ n - 20 < cK c) := by
    rw [show ((20 : Int64) ≤ (nI n).toInt64 ∧ ((nI n).toInt64 : Int64) ≤ (19 + I 87 6).toInt64) ↔ (nI 20 ≤ nI n ∧ nI n ≤ nI 20 - 1 + I 87 6) from win (nI n) 20 (19 + I 87 6), w10 hm (by decide)]
    constructor
    · rintro ⟨k, hk, e⟩
      have := (nI_eq (by omega) (by omega)).mp e
      omega
    · intro h; exact ⟨n - 20, h.2, by congr 1; omega⟩
  refine h_met (by decide) rfl (Nat.le_of_ble_eq_true rfl) (sg_X12_lay_0 (fun _ _ _ => loop) (fun _ _ z => absurd le4 z) (fun _ _ _ _ => loop) (fun _ _ _ z => absurd le4 z) (fun _ _ _ _ _ => loop) (fun _ _ _ _ z => absurd le4 z) (fun a b c => ?_))
  rw [A01] at a; rw [B10] at b; rw [B20] at c
  omega
theorem m_lay_no {c : HCf} {n : Nat} (hm : MC I c) (h4 : ¬ cK c ≤ 4) (hn : n ≤ 1 ∨ (10 ≤ n ∧ n - 10 < cK c) ∨ (20 ≤ n ∧ n - 20 < cK c)) (q : Q (some (.int (-4))) I) : HCall E me_X12_lay (d + 4) [.ref 87, .int (nI n)] I Q := by
  have hK : cK c ≤ 6 := hm.2.2.2.2.2.2.2.2.1
  have le4 : ¬ I 87 6 ≤ 4 := by rw [hm.1]; exact fun z => h4 ((nI_leI (b := 4) (by omega) (by omega)).mp z)
  refine h_met (by decide) rfl (Nat.le_of_ble_eq_true rfl) (sg_X12_lay_0 (fun _ _ z => absurd z le4) (fun _ _ _ => q) (fun _ _ _ z => absurd z le4) (fun _ _ _ _ => q) (fun _ _ _ _ z => absurd z le4) (fun _ _ _ _ _ => q) (fun a b e => ?_))
  rw [show ((0 : Int64) ≤ (nI n).toInt64 ∧ ((nI n).toInt64 : Int64) ≤ 1) ↔ (0 ≤ nI n ∧ nI n ≤ 1) from win (nI n) 0 1, show (1 : Int32) = nI 1 from rfl, nI_leI (by omega) (by omega)] at a
  rw [show ((10 : Int64) ≤ (nI n).toInt64 ∧ ((nI n).toInt64 : Int64) ≤ (9 + I 87 6).toInt64) ↔ (nI 10 ≤ nI n ∧ nI n ≤ nI 10 - 1 + I 87 6) from win (nI n) 10 (9 + I 87 6), w10 hm (by decide)] at b
  rw [show ((20 : Int64) ≤ (nI n).toInt64 ∧ ((nI n).toInt64 : Int64) ≤ (19 + I 87 6).toInt64) ↔ (nI 20 ≤ nI n ∧ nI n ≤ nI 20 - 1 + I 87 6) from win (nI n) 20 (19 + I 87 6), w10 hm (by decide)] at e
  rcases hn with h | h | h
  · exact absurd ⟨nI_pos' (by omega), h⟩ a
  · exact absurd ⟨n - 10, h.2, by congr 1; omega⟩ b
  · exact absurd ⟨n - 20, h.2, by congr 1; omega⟩ e
theorem m_lay_out {c : HCf} {a : Int32} (hm : MC I c) (n01 : ¬ (a = 0 ∨ a = 1)) (n10 : ¬ ∃ k, k < cK c ∧ a = nI (10 + k)) (n20 : ¬ ∃ k, k < cK c ∧ a = nI (20 + k)) (q : Q (some (.int (-3))) I) : HCall E me_X12_lay (d + 4) [.ref 87, .int a] I Q := by
  have A : ¬ ((0 : Int64) ≤ a.toInt64 ∧ (a.toInt64 : Int64) ≤ 1) := by
    rw [show ((0 : Int64) ≤ a.toInt64 ∧ (a.toInt64 : Int64) ≤ 1) ↔ (0 ≤ a ∧ a ≤ 1) from win a 0 1]
    intro h
    obtain ⟨j, hj, rfl⟩ := nI_of (i_le_n h.1)
    have := h.2
    rw [show (1 : Int32) = nI 1 from rfl, nI_leI (by omega) (by omega)] at this
    rcases (show j = 0 ∨ j = 1 by omega) with rfl | rfl
    · exact n01 (Or.inl rfl)
    · exact n01 (Or.inr rfl)
  have B : ¬ ((10 : Int64) ≤ a.toInt64 ∧ (a.toInt64 : Int64) ≤ (9 + I 87 6).toInt64) := by
    rw [show ((10 : Int64) ≤ a.toInt64 ∧ (a.toInt64 : Int64) ≤ (9 + I 87 6).toInt64) ↔ (nI 10 ≤ a ∧ a ≤ nI 10 - 1 + I 87 6) from win a 10 (9 + I 87 6), w10 hm (by decide)]
    exact n10
  have C : ¬ ((20 : Int64) ≤ a.toInt64 ∧ (a.toInt64 : Int64) ≤ (19 + I 87 6).toInt64) := by
    rw [show ((20 : Int64) ≤ a.toInt64 ∧ (a.toInt64 : Int64) ≤ (19 + I 87 6).toInt64) ↔ (nI 20 ≤ a ∧ a ≤ nI 20 - 1 + I 87 6) from win a 20 (19 + I 87 6), w10 hm (by decide)]
    exact n20
  exact h_met (by decide) rfl (Nat.le_of_ble_eq_true rfl) (sg_X12_lay_0 (fun z y => absurd ⟨z, y⟩ A) (fun z y => absurd ⟨z, y⟩ A) (fun _ z y => absurd ⟨z, y⟩ B) (fun _ z y => absurd ⟨z, y⟩ B) (fun _ _ z y => absurd ⟨z, y⟩ C) (fun _ _ z y => absurd ⟨z, y⟩ C) (fun _ _ _ => q))
theorem tw_lay {a : Int32} (h : Rel I) : Twin E d me_X11_lay me_X12_lay [.ref 0, .int a] [.ref 87, .int a] I := by
  have H := h
  obtain ⟨c, s, t, hc, hm, hn, hk, ht, ho, hf, ha⟩ := h
  obtain ⟨m, m1, m2, m3, m4⟩ := ho
  have hK : cK c ≤ 6 := hc.2.2.2.2.2.2.2.2.1
  have hx : ∀ j, j < m → (I 83 j).toNatClampNeg < cK c ∧ I 83 j = nI (I 83 j).toNatClampNeg ∧ (I 84 j).toNatClampNeg ≤ 9999 ∧ I 84 j = nI (I 84 j).toNatClampNeg := fun j hj => by
    obtain ⟨⟨k, k1, k2, k3⟩, w, w1, w2, w3⟩ := m4 j hj
    rw [k2, w2, nI_clamp (by omega), nI_clamp (by omega)]; exact ⟨k1, rfl, w1, rfl⟩
  have hy : ∀ j, j < m → (I 83 j).toNatClampNeg < cK c ∧ I 101 j = nI (I 83 j).toNatClampNeg ∧ (I 84 j).toNatClampNeg ≤ 9999 ∧ I 102 j = nI (I 84 j).toNatClampNeg := fun j hj => by
    obtain ⟨⟨k, k1, k2, k3⟩, w, w1, w2, w3⟩ := m4 j hj
    rw [k2, w2, nI_clamp (by omega), nI_clamp (by omega)]; exact ⟨k1, k3, w1, w3⟩
  have relx : ∀ {fit v} {J : HIh}, LyI I J c fit v → Rel J := fun {fit v J} hJ => H.ofL (fun a ha n80 n88 => by
    have n82 : a ≠ 82 := fun w => by subst w; exact absurd ha (by decide)
    have n85 : a ≠ 85 := fun w => by subst w; exact absurd ha (by decide)
    have n86 : a ≠ 86 := fun w => by subst w; exact absurd ha (by decide)
    exact hJ.1 a n80 n82 n85 n86) (hJ.2.1 6 (by decide) (by decide)) (fun x _ => by rw [hJ.1 88 (by decide) (by decide) (by decide) (by decide)])
  have relm : ∀ {J K : HIh}, Rel J → (∀ x, x ≠ 97 → x ≠ 88 → K x = J x) → (∀ x, x < 93 → K 88 x = J 88 x) → Rel K := fun {J K} hJ f1 f2 => hJ.of93 (fun a ha n => f1 a (fun w => by subst w; exact absurd ha (by decide)) n) f2
  have mcJ : ∀ {fit v} {J : HIh}, LyI I J c fit v → MC J c ∧ J 87 27 = nI m ∧ ∀ j, j < m → (I 83 j).toNatClampNeg < cK c ∧ J 101 j = nI (I 83 j).toNatClampNeg ∧ (I 84 j).toNatClampNeg ≤ 9999 ∧ J 102 j = nI (I 84 j).toNatClampNeg := fun {fit v J} hJ => by
    have g : ∀ a, a ≠ 80 → a ≠ 82 → a ≠ 85 → a ≠ 86 → J a = I a := hJ.1
    have g87 := g 87 (by decide) (by decide) (by decide) (by decide)
    refine ⟨hm.of ⟨by rw [g87], by rw [g87], by rw [g87], g 92 (by decide) (by decide) (by decide) (by decide), g 94 (by decide) (by decide) (by decide) (by decide), g 95 (by decide) (by decide) (by decide) (by decide), g 96 (by decide) (by decide) (by decide) (by decide)⟩, by rw [g87]; exact m3, fun j hj => ?_⟩
    rw [g 101 (by decide) (by decide) (by decide) (by decide), g 102 (by decide) (by decide) (by decide) (by decide)]; exact hy j hj
  by_cases sel : ∃ n, (n ≤ 1 ∨ (10 ≤ n ∧ n - 10 < cK c) ∨ (20 ≤ n ∧ n - 20 < cK c)) ∧ a = nI n
  · obtain ⟨n, hn, rfl⟩ := sel
    by_cases h4 : cK c ≤ 4
    · have le4 : I 1 9 ≤ 4 := by rw [hc.1]; exact (nI_leI (b := 4) (by omega) (by omega)).mpr h4
      rcases hn with h | ⟨h1, h2⟩ | ⟨h1, h2⟩
      · refine x_lay_ok hc (Or.inl ⟨h, rfl, rfl⟩) le4 (c_search hc h4 m1 m2 hx (fun J hJ => ?_))
        obtain ⟨a1, a2, a3⟩ := mcJ hJ
        have hJ' := hJ
        obtain ⟨f1, f2, f3, f4, f5⟩ := hJ
        rcases (show n = 0 ∨ n = 1 by omega) with rfl | rfl
        · refine sg_X11_lay_97 (fun z => absurd rfl z) (fun z => absurd rfl z) (fun z => absurd rfl z) (fun _ => ?_)
          exact m_lay a1 h4 m1 a2 a3 (Or.inl ⟨by omega, rfl⟩) (fun K k1 k2 => ⟨fun _ => ⟨_, vI f3, rfl, relm (relx hJ') k1 k2⟩, fun w => absurd w (by decide), fun w => absurd w (by decide), fun w => absurd w (by decide)⟩)
        · refine sg_X11_lay_97 (fun _ z => absurd rfl z) (fun _ z => absurd rfl z) (fun _ _ => ?_) (fun z => absurd z (by decide))
          exact m_lay a1 h4 m1 a2 a3 (Or.inl ⟨by omega, rfl⟩) (fun K k1 k2 => ⟨fun w => absurd w (by decide), fun _ => ⟨_, vI f4, rfl, relm (relx hJ') k1 k2⟩, fun w => absurd w (by decide), fun w => absurd w (by decide)⟩)
      · refine x_lay_ok hc (Or.inr (Or.inl ⟨h1, h2, rfl, rfl⟩)) le4 (c_search hc h4 m1 m2 hx (fun J hJ => ?_))
        obtain ⟨a1, a2, a3⟩ := mcJ hJ
        have hJ' := hJ
        obtain ⟨f1, f2, f3, f4, f5⟩ := hJ
        have e10 : nI n - 10 = nI (n - 10) := nI_sub (b := 10) (by omega) (by omega)
        refine sg_X11_lay_97 (fun _ _ w => ?_) (fun _ _ _ => ?_) (fun _ z => ?_) (fun z => ?_)
        · rw [e10] at w; exact absurd w (nI_nm1 (by omega))
        · rw [e10]
          refine c_leastOf (by omega) (sg_X11_lay_135 ?_)
          exact m_lay a1 h4 m1 a2 a3 (Or.inr (Or.inl ⟨h1, h2, rfl⟩)) (fun K k1 k2 => ⟨fun w => by omega, fun w => by omega, fun _ _ => ⟨_, vI (f5 (n - 10) h2).1, rfl, relm (relx hJ') k1 k2⟩, fun w => by omega⟩)
        · have := (nI_eq (b := 1) (by omega) (by decide)).mp z; omega
        · have := (nI_eq (b := 0) (by omega) (by decide)).mp z; omega
      · refine x_lay_ok hc (Or.inr (Or.inr ⟨h1, h2, rfl, rfl⟩)) le4 (c_search hc h4 m1 m2 hx (fun J hJ => ?_))
        obtain ⟨a1, a2, a3⟩ := mcJ hJ
        have hJ' := hJ
        obtain ⟨f1, f2, f3, f4, f5⟩ := hJ
        have e20 : nI n - 20 = nI (n - 20) := nI_sub (b := 20) (by omega) (by omega)
        refine sg_X11_lay_97 (fun _ _ _ => ?_) (fun _ _ w => absurd rfl w) (fun _ z => ?_) (fun z => ?_)
        · rw [e20]
          refine c_mostOf (by omega) (sg_X11_lay_146 ?_)
          exact m_lay a1 h4 m1 a2 a3 (Or.inr (Or.inr ⟨h1, h2, rfl⟩)) (fun K k1 k2 => ⟨fun w => by omega, fun w => by omega, fun _ w => by omega, fun _ => ⟨_, vI (f5 (n - 20) h2).2, rfl, relm (relx hJ') k1 k2⟩⟩)
        · have := (nI_eq (b := 1) (by omega) (by decide)).mp z; omega
        · have := (nI_eq (b := 0) (by omega) (by decide)).mp z; omega
    · have le4 : ¬ I 1 9 ≤ 4 := by rw [hc.1]; exact fun z => h4 ((nI_leI (b := 4) (by omega) (by omega)).mp z)
      exact x_lay_no hc hn le4 (m_lay_no hm h4 hn ⟨_, rfl, rfl, H⟩)
  · have n01 : ¬ (a = 0 ∨ a = 1) := fun w => by
      rcases w with rfl | rfl
      · exact sel ⟨0, Or.inl (by omega), rfl⟩
      · exact sel ⟨1, Or.inl (by omega), rfl⟩
    have n10 : ¬ ∃ k, k < cK c ∧ a = nI (10 + k) := fun ⟨k, hk, e⟩ => sel ⟨10 + k, Or.inr (Or.inl ⟨by omega, by omega⟩), e⟩
    have n20 : ¬ ∃ k, k < cK c ∧ a = nI (20 + k) := fun ⟨k, hk, e⟩ => sel ⟨20 + k, Or.inr (Or.inr ⟨by omega, by omega⟩), e⟩
    have back : ∀ b : Nat, b < 100 → ((0 : Int32) ≤ a - nI b ∧ a - nI b < I 1 9) → ∃ k, k < cK c ∧ a = nI (b + k) := fun b hb z => by
      obtain ⟨k, hk, e⟩ := (kx hc).mp z
      refine ⟨k, hk, ?_⟩
      rw [Nat.add_comm, ← nI_add, ← e, Int32.sub_add_cancel]
    exact x_lay_out (fun w => n01 (Or.inl w)) (fun w => n01 (Or.inr w)) (fun z => n10 (back 10 (by decide) z)) (fun z => n20 (back 20 (by decide) z)) (m_lay_out hm n01 n10 n20 ⟨_, rfl, rfl, H⟩)
end LAYU
