/-! what may have lain there -/
section LAYK
variable {E : HEn} {d : Nat} {Q : Option Value → HIh → Prop} {I : HIh}
theorem k_takes_loop {c : HCf} {φ : Nat → Nat} {b k : Nat} (hm : MC I c) (hφ : ∀ j, j < cK c → I 88 (b + j) = nI (φ j)) (hb : b ≤ 310) (hf : ∀ j, j < cK c → φ j ≤ 200) (hk : k < cK c) (q : ∀ f', (∀ j, j < cK c → f' j = nI (tk (cl c) φ k j)) → Q (some (.int (nI (gsum c φ k)))) (setI I 97 f')) : ∀ (n j : Nat) (f : Nat → Int32), j + n = cK c → (∀ i, i < j → f i = nI (tk (cl c) φ k i)) → HGo E (mF E (d + 1) Q) me_X12_layTakes 55 [(0, .ref 87), (1, .int (nI b)), (2, .int (nI k)), (3, .int (nI (sm (fun i => tk (cl c) φ k i * cw c i) j))), (4, .int (oI (lastP φ k (cK c)))), (5, .int (nI j))] [] (setI I 97 f)
  | n, j, f, hj, hfj => by
    have hok := hm.2.2.2.2.2.2.2
    have hK : cK c ≤ 6 := hok.2.1
    have hl : cl c ≤ 3 := hok.2.2.2.1
    have hm2 := hm.set (q := 97) f (by decide)
    have hz : ¬ (setI I 97 f) 87 6 ≤ nI j → j < cK c := fun z => by rw [hm2.1, nI_leI (by omega) (by omega)] at z; omega
    have hls : ∀ t, lastP φ k (cK c) = some t → t < 2 ^ 31 := fun t ht => by have := (lastP_iff.mp ht).1; omega
    have l0 : nI (cl c) = 0 ↔ cl c = 0 := nI_eq (b := 0) (by omega) (by decide)
    have l1 : nI (cl c) = 1 ↔ cl c = 1 := nI_eq (b := 1) (by omega) (by decide)
    have l2 : nI (cl c) = 2 ↔ cl c = 2 := nI_eq (b := 2) (by omega) (by decide)
    have hrd : j < cK c → (setI I 97 f) 88 (nI b + 0 + nI j).toNatClampNeg = nI (φ j) := fun h => by
      rw [ix0, nI_clamp (by omega), setI_ne I f (by decide)]; exact hφ j (by omega)
    have go : j < cK c → ∀ v : Int32, v = nI (tk (cl c) φ k j) → HGo E (mF E (d + 1) Q) me_X12_layTakes 153 [(0, .ref 87), (1, .int (nI b)), (2, .int (nI k)), (3, .int (nI (sm (fun i => tk (cl c) φ k i * cw c i) j))), (4, .int (oI (lastP φ k (cK c)))), (5, .int (nI j))] [.int v, .int (nI j), .ref 97] (setI I 97 f) := by
      intro h v hv
      subst hv
      obtain ⟨n, rfl⟩ : ∃ k, n = k + 1 := ⟨n - 1, by omega⟩
      refine sg_X12_layTakes_153 (vp_in_nI (by omega) (by decide)) (vp_in_nI (by omega) (by decide)) ?_
      rw [setI_setI, setI_same, nI_clamp (by omega), upd_at _ rfl, setI_ne I f (by decide), hm.2.2.2.1 j h, pk_mul, nI_add, nI_1]
      refine k_takes_loop hm hφ hb hf hk q n (j + 1) _ (by omega) (fun i hi => ?_)
      by_cases e : i = j
      · subst e; exact upd_at _ rfl _
      · rw [upd_off _ e]; exact hfj i (by omega)
    refine sg_X12_layTakes_55 (fun z => ?_) (fun z => ?_) (fun z a1 a2 a3 a4 => ?_) (fun z a1 a2 a3 a4 => ?_) (fun z a1 a2 a3 => ?_) (fun z a1 a2 a3 => ?_) (fun z a1 a2 a3 => ?_) (fun z a1 a2 => ?_) (fun z a1 a2 => ?_)
    · rw [hm2.1, nI_leI (by omega) (by omega)] at z
      have e : j = cK c := by omega
      subst e
      exact q f hfj
    · have := hz z; rw [ix0]; exact vp_in_nI (by omega) (by decide)
    all_goals
      have hj2 := hz z
      rw [hm2.2.2.1] at *
      refine go hj2 _ ?_
    · rw [l0] at a1; rw [l1] at a2; rw [oI_eq (by omega) hls, lastP_top (by omega)] at a3; rw [l2] at a4
      rw [hrd hj2]; unfold tk; rw [if_neg a1, if_neg a2, if_pos a3, if_neg a4]
    · rw [l0] at a1; rw [l1] at a2; rw [oI_eq (by omega) hls, lastP_top (by omega)] at a3; rw [l2] at a4
      unfold tk; rw [if_neg a1, if_neg a2, if_pos a3, if_pos a4]; rfl
    · rw [l0] at a1; rw [l1] at a2; rw [oI_eq (by omega) hls, lastP_top (by omega)] at a3
      unfold tk; rw [if_neg a1, if_neg a2, if_neg a3]; rfl
    · rw [l0] at a1; rw [l1] at a2; rw [nI_ltI (by omega) (by omega)] at a3
      unfold tk; rw [if_neg a1, if_pos a2, if_neg (by omega)]; rfl
    · rw [l0] at a1; rw [l1] at a2; rw [nI_ltI (by omega) (by omega)] at a3
      rw [hrd hj2]; unfold tk; rw [if_neg a1, if_pos a2, if_pos (by omega)]
    · rw [l0] at a1; rw [nI_leI (by omega) (by omega)] at a2
      unfold tk; rw [if_pos a1, if_neg (by omega)]; rfl
    · rw [l0] at a1; rw [nI_leI (by omega) (by omega)] at a2
      rw [hrd hj2]; unfold tk; rw [if_pos a1, if_pos (by omega)]
theorem k_last_loop {c : HCf} {φ : Nat → Nat} {b k : Nat} {x3 : Int32} (hm : MC I c) (hφ : ∀ j, j < cK c → I 88 (b + j) = nI (φ j)) (hb : b ≤ 310) (hf : ∀ j, j < cK c → φ j ≤ 200) (hk : k < cK c) (q : HGo E (mF E (d + 1) Q) me_X12_layTakes 55 [(0, .ref 87), (1, .int (nI b)), (2, .int (nI k)), (3, .int x3), (4, .int (oI (lastP φ k (cK c)))), (5, .int 0)] [] I) : ∀ (n j : Nat), j + n = cK c → HGo E (mF E (d + 1) Q) me_X12_layTakes 8 [(0, .ref 87), (1, .int (nI b)), (2, .int (nI k)), (3, .int x3), (4, .int (oI (lastP φ k j))), (5, .int (nI j))] [] I
  | n, j, hj => by
    have hK : cK c ≤ 6 := hm.2.2.2.2.2.2.2.2.1
    have hz : ¬ I 87 6 ≤ nI j → j < cK c := fun z => by rw [hm.1, nI_leI (by omega) (by omega)] at z; omega
    have hrd : j < cK c → I 88 (nI b + 0 + nI j).toNatClampNeg = nI (φ j) := fun h => by rw [ix0, nI_clamp (by omega)]; exact hφ j (by omega)
    have no : ¬ (j < k ∧ 0 < φ j) → lastP φ k (j + 1) = lastP φ k j := fun h => if_neg h
    have yes : (j < k ∧ 0 < φ j) → lastP φ k (j + 1) = some j := fun h => if_pos h
    refine sg_X12_layTakes_8 (fun z => ?_) (fun z a => ?_) (fun z a => ?_) (fun z a y => ?_) (fun z a y => ?_)
    · rw [hm.1, nI_leI (by omega) (by omega)] at z
      have e : j = cK c := by omega
      subst e; exact q
    · have hj2 := hz z
      rw [nI_leI (by omega) (by omega)] at a
      obtain ⟨n, rfl⟩ : ∃ k, n = k + 1 := ⟨n - 1, by omega⟩
      have := k_last_loop hm hφ hb hf hk q n (j + 1) (by omega)
      rw [no (by omega)] at this
      rw [nI_1]; exact this
    · have := hz z; rw [ix0]; exact vp_in_nI (by omega) (by decide)
    · have hj2 := hz z
      rw [nI_leI (by omega) (by omega)] at a
      rw [hrd hj2, nI_le0 (by have := hf j (by omega); omega)] at y
      obtain ⟨n, rfl⟩ : ∃ k, n = k + 1 := ⟨n - 1, by omega⟩
      have := k_last_loop hm hφ hb hf hk q n (j + 1) (by omega)
      rw [no (by omega)] at this
      rw [nI_1]; exact this
    · have hj2 := hz z
      rw [nI_leI (by omega) (by omega)] at a
      rw [hrd hj2, nI_le0 (by have := hf j (by omega); omega)] at y
      obtain ⟨n, rfl⟩ : ∃ k, n = k + 1 := ⟨n - 1, by omega⟩
      have := k_last_loop hm hφ hb hf hk q n (j + 1) (by omega)
      rw [yes ⟨by omega, by omega⟩] at this
      rw [nI_1]; exact this
theorem k_layTakes {c : HCf} {φ : Nat → Nat} {b k : Nat} (hm : MC I c) (hφ : ∀ j, j < cK c → I 88 (b + j) = nI (φ j)) (hb : b ≤ 310) (hf : ∀ j, j < cK c → φ j ≤ 200) (hk : k < cK c) (q : ∀ f', (∀ j, j < cK c → f' j = nI (tk (cl c) φ k j)) → Q (some (.int (nI (gsum c φ k)))) (setI I 97 f')) : HCall E me_X12_layTakes (d + 1) [.ref 87, .int (nI b), .int (nI k)] I Q := by
  refine h_met (by decide) rfl (Nat.le_of_ble_eq_true rfl) (sg_X12_layTakes_0 (k_last_loop hm hφ hb hf hk ?_ (cK c) 0 (by omega)))
  have := k_takes_loop (E := E) (d := d) hm hφ hb hf hk q (cK c) 0 (I 97) (by omega) (fun i hi => absurd hi (Nat.not_lt_zero _))
  rw [setI_id] at this
  exact this
end LAYK
/-- figures of a number, four to a kind -/
def figN (c : HCf) (v k : Nat) : Nat := (v >>> (2 * (cK c - 1 - k))) &&& 3
theorem fig_dec : ∀ K, K < 5 → ∀ k, k < K → ∀ v, v < 256 → ((nI v >>> ((2 * ((nI K - 1) - nI k)) &&& 31)) &&& 3) = nI ((v >>> (2 * (K - 1 - k))) &&& 3) := by decide +kernel
theorem fig_i {c : HCf} (h4 : cK c ≤ 4) {k v : Nat} (hk : k < cK c) (hv : v < 256) : ((nI v >>> ((2 * ((nI (cK c) - 1) - nI k)) &&& 31)) &&& 3) = nI (figN c v k) := fig_dec (cK c) (by omega) k hk v hv
theorem figN_le (c : HCf) (v k : Nat) : figN c v k ≤ 3 := Nat.and_le_right
theorem all_dec : ∀ K, K < 5 → (1 : Int32) <<< ((2 * nI K) &&& 31) = nI (4 ^ K) ∧ 4 ^ K ≤ 256 := by decide +kernel
/-- what lies there behind a throw -/
def nx (c : HCf) (φ : Nat → Nat) (k : Nat) : Nat → Nat := fun j => φ j - tk (cl c) φ k j + (if j = k then 1 else 0)
theorem nx_le {c : HCf} {φ : Nat → Nat} {k j b : Nat} (h : φ j ≤ b) : nx c φ k j ≤ b + 1 := by unfold nx; split <;> omega
def fitF (c : HCf) (nk nw : Nat → Nat) : Nat → Nat → (Nat → Nat) → Bool
  | 0, _, _ => true
  | n + 1, i, φ => decide (gsum c φ (nk i) = nw i) && fitF c nk nw n (i + 1) (nx c φ (nk i))
theorem tk_cong {c : HCf} {φ ψ : Nat → Nat} {k : Nat} (h : ∀ j, j < cK c → φ j = ψ j) (hk : k < cK c) {j : Nat} (hj : j < cK c) : tk (cl c) φ k j = tk (cl c) ψ k j := by
  have ht : topB φ k j = topB ψ k j := by
    rw [Bool.eq_iff_iff, topB_iff, topB_iff]
    constructor
    · rintro ⟨a, b, e⟩
      exact ⟨a, by rw [← h j hj]; exact b, fun i h1 h2 => by rw [← h i (by omega)]; exact e i h1 h2⟩
    · rintro ⟨a, b, e⟩
      exact ⟨a, by rw [h j hj]; exact b, fun i h1 h2 => by rw [h i (by omega)]; exact e i h1 h2⟩
  unfold tk
  rw [ht, h j hj]
theorem gsum_cong {c : HCf} {φ ψ : Nat → Nat} {k : Nat} (h : ∀ j, j < cK c → φ j = ψ j) (hk : k < cK c) : gsum c φ k = gsum c ψ k :=
  sm_congr fun j hj => by rw [tk_cong h hk hj]
theorem fitF_cong {c : HCf} {nk nw : Nat → Nat} : ∀ (n i : Nat) {φ ψ : Nat → Nat}, (∀ j, j < n → nk (i + j) < cK c) → (∀ j, j < cK c → φ j = ψ j) → fitF c nk nw n i φ = fitF c nk nw n i ψ
  | 0, _, _, _, _, _ => rfl
  | n + 1, i, φ, ψ, hn, h => by
    have hk : nk i < cK c := hn 0 (by omega)
    show (_ && _) = (_ && _)
    rw [gsum_cong h hk, fitF_cong n (i + 1) (fun j hj => by have := hn (j + 1) (by omega); rw [show i + 1 + j = i + (j + 1) by omega]; exact this) (φ := nx c φ (nk i)) (ψ := nx c ψ (nk i)) (fun j hj => by unfold nx; rw [h j hj, tk_cong h hk hj])]
section LAY
variable {E : HEn} {d : Nat} {Q : Option Value → HIh → Prop} {I : HIh}
theorem fits_notes {c : HCf} {nk nw : Nat → Nat} {m : Nat} {r : Bool} (hc : CC I c) (hm6 : m ≤ 6) (hs : I 80 6 = nI m) (hk : ∀ j, j < m → nk j < cK c ∧ I 83 j = nI (nk j) ∧ nw j ≤ 9999 ∧ I 84 j = nI (nw j)) (q : ∀ f, Q (some (.int (if r = true then 1 else 0))) (setI I 82 f)) : ∀ (n i : Nat) (φ : Nat → Nat) (f : Nat → Int32), i + n = m → FtC f φ → (∀ j, j < 6 → φ j ≤ 3 + i) → fitF c nk nw n i φ = r → HGo E (mF E (d + 3) Q) me_X6_fits 43 [(0, .ref 80), (2, .int (nI i))] [] (setI I 82 f)
  | n, i, φ, f, hi, hf, hb, hr => by
    have hok := hc.2.2.2.2.2.2.2
    have hK : cK c ≤ 6 := hok.2.1
    have hcJ : ∀ f, CC (setI I 82 f) c := fun f => hc.of ⟨rfl, rfl, rfl, rfl, rfl⟩
    have e6 : (setI I 82 f) 80 6 = nI m := hs
    refine sg_X6_fits_43 (fun z => ?_) (fun z y => ?_) (fun z y => ?_) (fun z y => ?_)
    · rw [e6, nI_leI (by omega) (by omega)] at z
      have : n = 0 := by omega
      subst this
      have := q f
      rw [← hr] at this; exact this
    · rw [e6, nI_leI (by omega) (by omega)] at z
      rw [i_le, nI_toInt (by omega), show (6 : Int32).toInt = 6 from rfl] at y
      omega
    all_goals
      rw [e6, nI_leI (by omega) (by omega)] at z
    · exact vp_in_nI (by omega) (by decide)
    · obtain ⟨n, rfl⟩ : ∃ k, n = k + 1 := ⟨n - 1, by omega⟩
      obtain ⟨k1, k2, k3, k4⟩ := hk i (by omega)
      have e83 : ∀ f, (setI I 82 f) 83 (nI i).toNatClampNeg = nI (nk i) := fun f => by rw [nI_clamp (by omega)]; exact k2
      have e84 : ∀ f, (setI I 82 f) 84 (nI i).toNatClampNeg = nI (nw i) := fun f => by rw [nI_clamp (by omega)]; exact k4
      rw [e83]
      have hb2 : ∀ j, j < 6 → φ j ≤ 200 := fun j hj => by have := hb j hj; omega
      refine c_gainOf (h := 81) (hcJ f) (by decide) hf hb2 k1 ?_
      have hg := gsum_lt hok hb2 (nk i)
      have e0 : nI (gsum c φ (nk i)) - nI (cw c (nk i)) + fWor ((setI I 82 f) 6) ((setI I 82 f) 83 (nI i).toNatClampNeg) = nI (gsum c φ (nk i)) := by
        rw [e83, fWor_n _ (by omega), (hcJ f).2.2.2.1 _ k1, Int32.sub_add_cancel]
      have hv : vp_in (nI i) 6 := vp_in_nI (by omega) (by decide)
      refine sg_X6_fits_74 hv (fun _ => hv) (fun w => ?_) (fun w => ?_)
      · rw [e0, e84, nI_eq (by omega) (by omega)] at w
        rw [e83]
        refine c_throwCoin (h := 81) (p := 0) (hcJ f) (by decide) hf hb2 (by decide) k1 (fun f' hf' => sg_X6_fits_117 ?_)
        rw [show 81 + 1 = 82 from rfl, setI_setI, nI_1]
        refine fits_notes hc hm6 hs hk q n (i + 1) (nx c φ (nk i)) f' (by omega) (fun j hj => hf'.1 j hj) (fun j hj => ?_) ?_
        · have := nx_le (c := c) (k := nk i) (hb j hj); omega
        · rw [← hr]
          show _ = (_ && _)
          rw [decide_eq_true w, Bool.true_and]
      · rw [e0, e84, nI_eq (by omega) (by omega)] at w
        have : r = false := by
          rw [← hr]
          show (_ && _) = _
          rw [decide_eq_false w, Bool.false_and]
        have hq := q f
        rw [this] at hq
        exact hq
theorem fits_lay {c : HCf} {v : Nat} (hc : CC I c) (h4 : cK c ≤ 4) (hv : v < 256) (q : ∀ f, FtC f (fun k => if k < cK c then figN c v k else 0) → HGo E (mF E (d + 3) Q) me_X6_fits 43 [(0, .ref 80), (2, .int 0)] [] (setI I 82 f)) : ∀ (n j : Nat) (f : Nat → Int32), j + n = cK c → FtC f (fun k => if k < j then figN c v k else 0) → HGo E (mF E (d + 3) Q) me_X6_fits 9 [(0, .ref 80), (1, .int (nI v)), (2, .int (nI j))] [] (setI I 82 f)
  | n, j, f, hj, hf => by
    have e9 : (setI I 82 f) 1 9 = nI (cK c) := hc.1
    refine sg_X6_fits_9 (fun z => ?_) (fun z => ?_)
    · rw [e9, nI_leI (by omega) (by omega)] at z
      have : j = cK c := by omega
      rw [this] at hf
      exact q f hf
    · rw [e9, nI_leI (by omega) (by omega)] at z
      obtain ⟨n, rfl⟩ : ∃ k, n = k + 1 := ⟨n - 1, by omega⟩
      rw [e9, fig_i h4 (by omega) hv, setI_setI, setI_same, show (4 : Int32) = nI 4 from rfl, fAdd_n _ (by omega) (by omega), nI_1]
      refine fits_lay hc h4 hv q n (j + 1) _ (by omega) (fun k hk => ?_)
      by_cases e : k = j
      · subst e
        have : f (24 + k) = nI (if k < k then figN c v k else 0) := hf k hk
        rw [if_neg (Nat.lt_irrefl _)] at this
        show _ = nI (if k < k + 1 then figN c v k else 0)
        rw [upd_at _ (by omega), show 6 * 4 + k = 24 + k from rfl, this, if_pos (by omega), nI_add, Nat.zero_add]
      · rw [upd_off _ (by omega)]
        have : f (24 + k) = nI (if k < j then figN c v k else 0) := hf k hk
        show _ = nI (if k < j + 1 then figN c v k else 0)
        by_cases w : k < j
        · rw [if_pos w] at this; rw [if_pos (by omega)]; exact this
        · rw [if_neg w] at this; rw [if_neg (by omega)]; exact this
/-- whether a number fits what was noted -/
def isFit (c : HCf) (nk nw : Nat → Nat) (m v : Nat) : Bool := fitF c nk nw m 0 (fun k => if k < cK c then figN c v k else 0)
theorem c_fits {c : HCf} {nk nw : Nat → Nat} {m v : Nat} (hc : CC I c) (h4 : cK c ≤ 4) (hv : v < 256) (hm6 : m ≤ 6) (hs : I 80 6 = nI m) (hk : ∀ j, j < m → nk j < cK c ∧ I 83 j = nI (nk j) ∧ nw j ≤ 9999 ∧ I 84 j = nI (nw j)) (q : ∀ f, Q (some (.int (if isFit c nk nw m v = true then 1 else 0))) (setI I 82 f)) : HCall E me_X6_fits (d + 3) [.ref 80, .int (nI v)] I Q := by
  refine h_met (by decide) rfl (Nat.le_of_ble_eq_true rfl) (sg_X6_fits_0 ?_)
  refine fits_lay hc h4 hv (fun f hf => ?_) (cK c) 0 _ (by omega) (fun k hk => ?_)
  · refine fits_notes hc hm6 hs hk q m 0 _ f (by omega) hf (fun j hj => ?_) rfl
    show (if _ then _ else _) ≤ _
    split
    · have := figN_le c v j; omega
    · omega
  · show fEmp (I 82) (24 + k) = _
    unfold fEmp
    show _ = nI (if k < 0 then figN c v k else 0)
    rw [if_pos (by omega), if_neg (by omega)]; rfl
theorem so_takes {c : HCf} {φ : Nat → Nat} (hφ : ∀ l, φ l < 2 ^ 31) {ft : Nat → Int32} {x3 : Int32} {i k : Nat} (hm : MC I c) (hi : i < 6) (hk : k < cK c) (h101 : I 101 i = nI k) (hft : ∀ j, j < cK c → ft j = nI (tk (cl c) φ k j)) (q : ∀ g, (∀ x, x < 93 → g x = I 88 x) → (∀ j, j < cK c → g (93 + j) = nI (nx c φ k j)) → HGo E (mF E (d + 2) Q) me_X12_isSo 40 [(0, .ref 87), (2, .int 93), (3, .int x3), (4, .int (nI (i + 1)))] [] (setI (setI I 97 ft) 88 g)) : ∀ (n j : Nat) (g : Nat → Int32), j + n = cK c → (∀ x, x < 93 → g x = I 88 x) → (∀ l, l < cK c → g (93 + l) = nI (if l < j then φ l - tk (cl c) φ k l else φ l)) → HGo E (mF E (d + 2) Q) me_X12_isSo 84 [(0, .ref 87), (2, .int 93), (3, .int x3), (4, .int (nI i)), (5, .int (nI j))] [] (setI (setI I 97 ft) 88 g)
  | n, j, g, hj, hg, hl => by
    have hK : cK c ≤ 6 := hm.2.2.2.2.2.2.2.2.1
    have e6 : (setI (setI I 97 ft) 88 g) 87 6 = nI (cK c) := hm.1
    have e1 : (setI (setI I 97 ft) 88 g) 101 (nI i).toNatClampNeg = nI k := by rw [nI_clamp (by omega)]; exact h101
    have ix : ∀ j : Nat, (93 : Int32) + 0 + nI j = nI (93 + j) := fun j => ix0 93 j
    refine sg_X12_isSo_84 (fun z => ?_) (fun z => ?_) (fun z => ?_) (fun z => ?_) (fun z => ?_) (fun z => ?_)
    all_goals
      rw [e6, nI_leI (by omega) (by omega)] at z
    · exact vp_in_nI (by omega) (by decide)
    · rw [e1, ix]; exact vp_in_nI (by omega) (by decide)
    · rw [e1, ix, nI_clamp (by omega), setI_setI, setI_same, nI_1]
      refine q _ (fun x hx => by rw [upd_off _ (by omega)]; exact hg x hx) (fun l hl' => ?_)
      unfold nx
      by_cases e : l = k
      · subst e
        rw [upd_at _ rfl, hl l hl', if_pos (by omega), if_pos rfl, nI_1]
      · rw [upd_off _ (by omega), hl l hl', if_pos (by omega), if_neg e]; rfl
    · rw [ix]; exact vp_in_nI (by omega) (by decide)
    · exact vp_in_nI (by omega) (by decide)
    · obtain ⟨n, rfl⟩ : ∃ k, n = k + 1 := ⟨n - 1, by omega⟩
      rw [ix, nI_clamp (by omega), setI_setI, setI_same, nI_1, nI_clamp (by omega)]
      show HGo E _ _ _ _ _ (setI (setI I 97 ft) 88 (upd g (93 + j) (g (93 + j) - ft j)))
      refine so_takes hφ hm hi hk h101 hft q n (j + 1) _ (by omega) (fun x hx => by rw [upd_off _ (by omega)]; exact hg x hx) (fun l hl' => ?_)
      by_cases e : l = j
      · subst e
        have hle := tk_le (cl c) φ k l
        rw [upd_at _ rfl, hl l hl', if_neg (Nat.lt_irrefl _), hft l hl', if_pos (by omega)]
        exact nI_sub (hφ l) hle
      · rw [upd_off _ (by omega), hl l hl']
        by_cases w : l < j
        · rw [if_pos w, if_pos (by omega)]
        · rw [if_neg w, if_neg (by omega)]
end LAY
