/-! what may have lain there: the reference, and both searches -/
section SO
variable {E : HEn} {d : Nat} {Q : Option Value → HIh → Prop} {I : HIh}
theorem so_notes {c : HCf} {nk nw : Nat → Nat} {m : Nat} {r : Bool} (hm : MC I c) (hm6 : m ≤ 6) (hs : I 87 27 = nI m) (hk : ∀ j, j < m → nk j < cK c ∧ I 101 j = nI (nk j) ∧ nw j ≤ 9999 ∧ I 102 j = nI (nw j)) (q : ∀ f g, (∀ x, x < 93 → g x = I 88 x) → Q (some (.int (if r = true then 1 else 0))) (setI (setI I 97 f) 88 g)) : ∀ (n i : Nat) (φ : Nat → Nat) (f g : Nat → Int32), i + n = m → (∀ x, x < 93 → g x = I 88 x) → (∀ l, l < cK c → g (93 + l) = nI (φ l)) → (∀ l, φ l ≤ 3 + i) → fitF c nk nw n i φ = r → HGo E (mF E (d + 2) Q) me_X12_isSo 40 [(0, .ref 87), (2, .int 93), (3, .int 1), (4, .int (nI i))] [] (setI (setI I 97 f) 88 g)
  | n, i, φ, f, g, hi, hg, hl, hb, hr => by
    have hok := hm.2.2.2.2.2.2.2
    have hK : cK c ≤ 6 := hok.2.1
    have hmJ : ∀ f g, MC (setI (setI I 97 f) 88 g) c := fun f g => hm.of ⟨rfl, rfl, rfl, rfl, rfl, rfl, rfl⟩
    have e27 : ∀ f g, (setI (setI I 97 f) 88 g) 87 27 = nI m := fun f g => hs
    refine sg_X12_isSo_40 (fun _ => rfl) (fun z => ?_) (fun _ z => absurd z (by decide)) (fun _ z => absurd z (by decide)) (fun z _ => ?_) (fun z _ => ?_)
    · rw [e27, nI_leI (by omega) (by omega)] at z
      have : n = 0 := by omega
      subst this
      have := q f g hg
      rw [← hr] at this; exact this
    · rw [e27, nI_leI (by omega) (by omega)] at z
      exact vp_in_nI (by omega) (by decide)
    · rw [e27, nI_leI (by omega) (by omega)] at z
      obtain ⟨n, rfl⟩ : ∃ k, n = k + 1 := ⟨n - 1, by omega⟩
      obtain ⟨k1, k2, k3, k4⟩ := hk i (by omega)
      have ix : (nI i).toNatClampNeg = i := nI_clamp (by omega)
      have e101 : (setI (setI I 97 f) 88 g) 101 (nI i).toNatClampNeg = nI (nk i) := by rw [ix]; exact k2
      rw [e101]
      refine k_layTakes (b := 93) (hmJ f g) hl (by decide) (fun j _ => by have := hb j; omega) k1 (fun ft hft => ?_)
      have hb2 : ∀ j, j < 6 → φ j ≤ 200 := fun j _ => by have := hb j; omega
      have hg2 := gsum_lt hok hb2 (nk i)
      have st : setI (setI (setI I 97 f) 88 g) 97 ft = setI (setI I 97 ft) 88 g := by rw [setI_comm (setI I 97 f) g ft (by decide), setI_setI]
      rw [st]
      have e102 : (setI (setI I 97 ft) 88 g) 102 (nI i).toNatClampNeg = nI (nw i) := by rw [ix]; exact k4
      have hφ : ∀ l, φ l < 2 ^ 31 := fun l => by have := hb l; omega
      have h0 : ∀ l, l < cK c → g (93 + l) = nI (if l < 0 then φ l - tk (cl c) φ (nk i) l else φ l) := fun l hl' => by rw [if_neg (by omega)]; exact hl l hl'
      refine sg_X12_isSo_65 (vp_in_nI (by omega) (by decide)) (fun w => ?_) (fun w => ?_)
      · rw [e102, nI_eq (by omega) (by omega)] at w
        have hrf : r = false := by
          rw [← hr]
          show (_ && _) = _
          rw [decide_eq_false w, Bool.false_and]
        rw [hrf] at q
        refine so_takes hφ hm (by omega) k1 k2 hft (fun g' g1 _ => ?_) (cK c) 0 g (by omega) hg h0
        refine sg_X12_isSo_40 (fun _ => rfl) (fun _ => q ft g' g1) (fun _ _ => rfl) (fun _ _ => q ft g' g1) (fun _ z => absurd rfl z) (fun _ z => absurd rfl z)
      · rw [e102, nI_eq (by omega) (by omega)] at w
        refine so_takes hφ hm (by omega) k1 k2 hft (fun g' g1 g2 => ?_) (cK c) 0 g (by omega) hg h0
        refine so_notes hm hm6 hs hk q n (i + 1) (nx c φ (nk i)) ft g' (by omega) g1 g2 (fun l => by have := nx_le (c := c) (k := nk i) (hb l); omega) ?_
        rw [← hr]
        show _ = (_ && _)
        rw [decide_eq_true w, Bool.true_and]
theorem so_lay {c : HCf} {v : Nat} (hm : MC I c) (h4 : cK c ≤ 4) (hv : v < 256) (q : ∀ g, (∀ x, x < 93 → g x = I 88 x) → (∀ l, l < cK c → g (93 + l) = nI (figN c v l)) → HGo E (mF E (d + 2) Q) me_X12_isSo 40 [(0, .ref 87), (2, .int 93), (3, .int 1), (4, .int 0)] [] (setI I 88 g)) : ∀ (n j : Nat) (g : Nat → Int32), j + n = cK c → (∀ x, x < 93 → g x = I 88 x) → (∀ l, l < j → g (93 + l) = nI (figN c v l)) → HGo E (mF E (d + 2) Q) me_X12_isSo 5 [(0, .ref 87), (1, .int (nI v)), (2, .int 93), (3, .int (nI j))] [] (setI I 88 g)
  | n, j, g, hj, hg, hl => by
    have e6 : (setI I 88 g) 87 6 = nI (cK c) := hm.1
    have ix : (93 : Int32) + 0 + nI j = nI (93 + j) := ix0 93 j
    refine sg_X12_isSo_5 (fun z => ?_) (fun z => ?_) (fun z => ?_)
    · rw [e6, nI_leI (by omega) (by omega)] at z
      have : j = cK c := by omega
      subst this
      exact q g hg hl
    · rw [e6, nI_leI (by omega) (by omega)] at z
      rw [ix]; exact vp_in_nI (by omega) (by decide)
    · rw [e6, nI_leI (by omega) (by omega)] at z
      obtain ⟨n, rfl⟩ : ∃ k, n = k + 1 := ⟨n - 1, by omega⟩
      rw [ix, nI_clamp (by omega), setI_setI, setI_same, e6, fig_i h4 (by omega) hv, nI_1]
      refine so_lay hm h4 hv q n (j + 1) _ (by omega) (fun x hx => by rw [upd_off _ (by omega)]; exact hg x hx) (fun l hl' => ?_)
      by_cases e : l = j
      · subst e; exact upd_at _ rfl _
      · rw [upd_off _ (by omega)]; exact hl l (by omega)
theorem m_isSo {c : HCf} {nk nw : Nat → Nat} {m v : Nat} (hm : MC I c) (h4 : cK c ≤ 4) (hv : v < 256) (hm6 : m ≤ 6) (hs : I 87 27 = nI m) (hk : ∀ j, j < m → nk j < cK c ∧ I 101 j = nI (nk j) ∧ nw j ≤ 9999 ∧ I 102 j = nI (nw j)) (q : ∀ f g, (∀ x, x < 93 → g x = I 88 x) → Q (some (.int (if isFit c nk nw m v = true then 1 else 0))) (setI (setI I 97 f) 88 g)) : HCall E me_X12_isSo (d + 2) [.ref 87, .int (nI v)] I Q := by
  refine h_met (by decide) rfl (Nat.le_of_ble_eq_true rfl) (sg_X12_isSo_0 ?_)
  have key := so_lay (E := E) (d := d) (Q := Q) hm h4 hv (fun g g1 g2 => ?_) (cK c) 0 (I 88) (by omega) (fun _ _ => rfl) (fun l hl => absurd hl (by omega))
  · rw [setI_id] at key
    exact key
  · have st := setI_id I 97
    have := so_notes (E := E) (d := d) (Q := Q) hm hm6 hs hk q m 0 (fun k => if k < cK c then figN c v k else 0) (I 97) g (by omega) g1 (fun l hl => by show _ = nI (if l < cK c then figN c v l else 0); rw [if_pos hl]; exact g2 l hl) (fun l => by
      show (if _ then _ else _) ≤ _
      split
      · have := figN_le c v l; omega
      · omega) rfl
    rw [st] at this
    exact this
end SO
/-! what a search through the numbers comes to -/
def lyC (fit : Nat → Bool) : Nat → Nat
  | 0 => 0
  | n + 1 => if fit n = true then lyC fit n + 1 else lyC fit n
def lyF (fit : Nat → Bool) : Nat → Int32
  | 0 => -1
  | n + 1 => if fit n = true then (if lyC fit n = 0 then nI n else lyF fit n) else lyF fit n
def lyL (fit : Nat → Bool) (g : Nat → Nat) : Nat → Int32
  | 0 => -1
  | n + 1 => if fit n = true then (if lyC fit n = 0 then nI (g n) else fMin (lyL fit g n) (nI (g n))) else lyL fit g n
def lyM (fit : Nat → Bool) (g : Nat → Nat) : Nat → Int32
  | 0 => -1
  | n + 1 => if fit n = true then fMax (lyM fit g n) (nI (g n)) else lyM fit g n
theorem lyC_s (fit : Nat → Bool) (n : Nat) : lyC fit (n + 1) = if fit n = true then lyC fit n + 1 else lyC fit n := rfl
theorem lyF_s (fit : Nat → Bool) (n : Nat) : lyF fit (n + 1) = if fit n = true then (if lyC fit n = 0 then nI n else lyF fit n) else lyF fit n := rfl
theorem lyL_s (fit : Nat → Bool) (g : Nat → Nat) (n : Nat) : lyL fit g (n + 1) = if fit n = true then (if lyC fit n = 0 then nI (g n) else fMin (lyL fit g n) (nI (g n))) else lyL fit g n := rfl
theorem lyM_s (fit : Nat → Bool) (g : Nat → Nat) (n : Nat) : lyM fit g (n + 1) = if fit n = true then fMax (lyM fit g n) (nI (g n)) else lyM fit g n := rfl
theorem lyC_le {fit : Nat → Bool} : ∀ {n : Nat}, lyC fit n ≤ n
  | 0 => Nat.le_refl _
  | n + 1 => by
    have := lyC_le (fit := fit) (n := n)
    rw [lyC_s]; split <;> omega
theorem lyF_0 {fit : Nat → Bool} : ∀ {n : Nat}, n ≤ 256 → (lyF fit n = -1 ↔ lyC fit n = 0)
  | 0, _ => ⟨fun _ => rfl, fun _ => rfl⟩
  | n + 1, hn => by
    have ih := lyF_0 (fit := fit) (n := n) (by omega)
    rw [lyF_s, lyC_s]
    by_cases f : fit n = true
    · rw [if_pos f, if_pos f]
      by_cases z : lyC fit n = 0
      · rw [if_pos z]; exact ⟨fun w => absurd w (nI_nm1 (by omega)), fun w => by omega⟩
      · rw [if_neg z]; exact ⟨fun w => absurd (ih.mp w) z, fun w => by omega⟩
    · rw [if_neg f, if_neg f]; exact ih
theorem lyL_0 {fit : Nat → Bool} {g : Nat → Nat} (hg : ∀ v, g v ≤ 3) : ∀ {n : Nat}, (lyC fit n = 0 ∧ lyL fit g n = -1) ∨ (lyC fit n ≠ 0 ∧ ∃ j, j ≤ 3 ∧ lyL fit g n = nI j)
  | 0 => Or.inl ⟨rfl, rfl⟩
  | n + 1 => by
    have ih := lyL_0 (fit := fit) hg (n := n)
    rw [lyL_s, lyC_s]
    by_cases f : fit n = true
    · rw [if_pos f, if_pos f]
      refine Or.inr ⟨by omega, ?_⟩
      by_cases z : lyC fit n = 0
      · rw [if_pos z]; exact ⟨g n, hg n, rfl⟩
      · rw [if_neg z]
        rcases ih with w | ⟨-, j, hj, e⟩
        · exact absurd w.1 z
        · rw [e]; unfold fMin
          split
          · exact ⟨g n, hg n, rfl⟩
          · exact ⟨j, hj, rfl⟩
    · rw [if_neg f, if_neg f]; exact ih
theorem lyL_m1 {fit : Nat → Bool} {g : Nat → Nat} (hg : ∀ v, g v ≤ 3) {n : Nat} : lyL fit g n = -1 ↔ lyC fit n = 0 := by
  rcases lyL_0 (fit := fit) hg (n := n) with w | ⟨w, j, hj, e⟩
  · exact ⟨fun _ => w.1, fun _ => w.2⟩
  · rw [e]; exact ⟨fun z => absurd z (nI_nm1 (by omega)), fun z => absurd z w⟩
/-- the state behind a number of numbers looked at -/
def LyI (I J : HIh) (c : HCf) (fit : Nat → Bool) (v : Nat) : Prop := (∀ a, a ≠ 80 → a ≠ 82 → a ≠ 85 → a ≠ 86 → J a = I a) ∧ (∀ j, j ≠ 7 → j ≠ 8 → J 80 j = I 80 j) ∧ J 80 7 = nI (lyC fit v) ∧ J 80 8 = lyF fit v ∧ ∀ k, k < cK c → J 85 k = lyL fit (fun v => figN c v k) v ∧ J 86 k = lyM fit (fun v => figN c v k) v
section SEARCH
variable {E : HEn} {d : Nat} {Q : Option Value → HIh → Prop} {I : HIh}
theorem tally_loop {c : HCf} {fit : Nat → Bool} {v : Nat} (hc : CC I c) (h4 : cK c ≤ 4) (hv : v < 256) (hf : fit v = true) (q : ∀ J, LyI I J c fit (v + 1) → Q none J) : ∀ (n j : Nat) (J : HIh), j + n = cK c → (∀ a, a ≠ 80 → a ≠ 82 → a ≠ 85 → a ≠ 86 → J a = I a) → (∀ j, j ≠ 7 → j ≠ 8 → J 80 j = I 80 j) → J 80 7 = nI (lyC fit (v + 1)) → J 80 8 = lyF fit (v + 1) → (∀ k, k < cK c → J 85 k = lyL fit (fun v => figN c v k) (if k < j then v + 1 else v) ∧ J 86 k = lyM fit (fun v => figN c v k) (if k < j then v + 1 else v)) → HGo E (mF E (d + 2) Q) me_X6_tally 32 [(0, .ref 80), (1, .int (nI v)), (2, .int (nI j))] [] J
  | n, j, J, hj, f1, f2, f3, f4, f5 => by
    have e9 : J 1 9 = nI (cK c) := by rw [f1 1 (by decide) (by decide) (by decide) (by decide)]; exact hc.1
    have go : j < cK c → ∀ a b : Int32, a = lyL fit (fun v => figN c v j) (v + 1) → b = lyM fit (fun v => figN c v j) (v + 1) → HGo E (mF E (d + 2) Q) me_X6_tally 32 [(0, .ref 80), (1, .int (nI v)), (2, .int (nI j + 1))] [] (setI (setI J 85 (upd (J 85) j a)) 86 (upd (J 86) j b)) := fun h a b ha hb => by
      obtain ⟨n, rfl⟩ : ∃ k, n = k + 1 := ⟨n - 1, by omega⟩
      rw [nI_1]
      refine tally_loop hc h4 hv hf q n (j + 1) _ (by omega) (fun a n1 n2 n3 n4 => by rw [setI_ne _ _ n4, setI_ne _ _ n3]; exact f1 a n1 n2 n3 n4) f2 f3 f4 (fun k hk => ?_)
      show upd (J 85) j a k = _ ∧ upd (J 86) j b k = _
      by_cases e : k = j
      · subst e
        rw [upd_at _ rfl, upd_at _ rfl, if_pos (by omega)]; exact ⟨ha, hb⟩
      · rw [upd_off _ e, upd_off _ e]
        have := f5 k hk
        by_cases w : k < j
        · rw [if_pos w] at this; rw [if_pos (by omega)]; exact this
        · rw [if_neg w] at this; rw [if_neg (by omega)]; exact this
    have fg : j < cK c → ((nI v >>> ((2 * ((J 1 9 - 1) - nI j)) &&& 31)) &&& 3) = nI (figN c v j) := fun h => by rw [e9]; exact fig_i h4 h hv
    have f5j : j < cK c → J 85 (nI j).toNatClampNeg = lyL fit (fun v => figN c v j) v ∧ J 86 (nI j).toNatClampNeg = lyM fit (fun v => figN c v j) v := fun h => by
      have := f5 j h
      rw [if_neg (Nat.lt_irrefl _)] at this
      rw [nI_clamp (by omega)]; exact this
    have sM : lyM fit (fun v => figN c v j) (v + 1) = fMax (lyM fit (fun v => figN c v j) v) (nI (figN c v j)) := if_pos hf
    have sL : lyL fit (fun v => figN c v j) (v + 1) = if lyC fit v = 0 then nI (figN c v j) else fMin (lyL fit (fun v => figN c v j) v) (nI (figN c v j)) := if_pos hf
    refine sg_X6_tally_32 (fun z => ?_) (fun z y => ?_) (fun z y => ?_) (fun z y _ => ?_) (fun z y w => ?_) (fun z y _ => ?_) (fun z y w => ?_)
    all_goals
      rw [e9, nI_leI (by omega) (by omega)] at z
    · have : j = cK c := by omega
      refine q J ⟨f1, f2, f3, f4, fun k hk => ?_⟩
      have := f5 k hk
      rw [if_pos (by omega)] at this; exact this
    · rw [i_le, nI_toInt (by omega), show (6 : Int32).toInt = 6 from rfl] at y; omega
    · exact vp_in_nI (by omega) (by decide)
    · exact vp_in_nI (by omega) (by decide)
    · have hj' : j < cK c := by omega
      rw [(f5j hj').1, lyL_m1 (fun v => figN_le c v j)] at w
      rw [fg hj', (f5j hj').1, (f5j hj').2, nI_clamp (by omega)]
      exact go hj' _ _ (by rw [sL, if_neg w]) sM.symm
    · exact vp_in_nI (by omega) (by decide)
    · have hj' : j < cK c := by omega
      rw [(f5j hj').1, lyL_m1 (fun v => figN_le c v j)] at w
      rw [fg hj', (f5j hj').2, nI_clamp (by omega)]
      exact go hj' _ _ (by rw [sL, if_pos w]) sM.symm
theorem c_tally {J : HIh} {c : HCf} {fit : Nat → Bool} {v : Nat} (hc : CC I c) (h4 : cK c ≤ 4) (hv : v < 256) (hf : fit v = true) (h : LyI I J c fit v) (q : ∀ J, LyI I J c fit (v + 1) → Q none J) : HCall E me_X6_tally (d + 2) [.ref 80, .int (nI v)] J Q := by
  obtain ⟨f1, f2, f3, f4, f5⟩ := h
  have sC : lyC fit (v + 1) = lyC fit v + 1 := if_pos hf
  have sF : lyF fit (v + 1) = if lyC fit v = 0 then nI v else lyF fit v := if_pos hf
  have go : ∀ x : Int32, x = lyF fit (v + 1) → HGo E (mF E (d + 2) Q) me_X6_tally 32 [(0, .ref 80), (1, .int (nI v)), (2, .int 0)] [] (setI (setI J 80 (upd (J 80) 7 (J 80 7 + 1))) 80 (upd (upd (J 80) 7 (J 80 7 + 1)) 8 x)) := fun x hx => by
    rw [setI_setI]
    refine tally_loop hc h4 hv hf q (cK c) 0 _ (by omega) (fun a n1 n2 n3 n4 => by rw [setI_ne _ _ n1]; exact f1 a n1 n2 n3 n4) (fun j n7 n8 => by rw [setI_same, upd_off _ n8, upd_off _ n7]; exact f2 j n7 n8) ?_ ?_ (fun k hk => f5 k hk)
    · rw [setI_same, upd_off _ (by decide), upd_at _ rfl, f3, nI_1, sC]
    · rw [setI_same, upd_at _ rfl]; exact hx
  refine h_met (by decide) rfl (Nat.le_of_ble_eq_true rfl) (sg_X6_tally_0 (fun w => ?_) (fun w => ?_))
  · rw [f4, lyF_0 (by omega)] at w
    exact go _ (by rw [sF, if_neg w]; exact f4)
  · rw [f4, lyF_0 (by omega)] at w
    exact go _ (by rw [sF, if_pos w])
end SEARCH
