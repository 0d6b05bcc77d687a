/-! layer 4: by habit -/
section CON4
variable {E : HEn} {d : Nat} {Q : Option Value → HIh → Prop} {I : HIh}
theorem fFolk_n {c : HCf} (hc : CC I c) {p : Nat} (hp : p < 4) : fFolk (I 7) (nI p) = if ch c p = 1 then 3 else if ch c p = 2 then 4 else if ch c p = 3 then 5 else 2 := by
  have h3 := hc.2.2.2.2.2.2.2.2.2.2.2.1 p hp
  unfold fFolk
  rw [if_pos ⟨nI_pos' (by omega), nI_lt hp (by decide)⟩, nI_clamp (by omega), hc.2.2.2.2.1 p hp]
  have e1 : nI (ch c p) = 1 ↔ ch c p = 1 := nI_eq (b := 1) (by omega) (by decide)
  have e2 : nI (ch c p) = 2 ↔ ch c p = 2 := nI_eq (b := 2) (by omega) (by decide)
  have e3 : nI (ch c p) = 3 ↔ ch c p = 3 := nI_eq (b := 3) (by omega) (by decide)
  simp only [e1, e2, e3]
theorem c_habitual {h : Nat} {c : HCf} {s : HCn} {t : Nat} (hc : CC I c) (hh : h ∈ lotL) (hs : LotC (I (h + 1)) s) (hb : Lot2 s) (hg : I h 1 = nI t) (ht : t < cv c) (q : Q (some (.int (oI (hab c s (cp c t))))) I) : HCall E me_X9_habitual (d + 4) [.ref 1, .ref h] I Q := by
  obtain ⟨⟨a1, a2, a3, a4, a5, a6⟩, -, -⟩ := lot_f h hh
  have hok := hc.2.2.2.2.2.2.2
  have hV : cv c ≤ 24 := hok.2.2.2.2.2.2.1
  have hcp := hok.2.2.2.2.2.2.2 t ht
  have hv : fVis (I 1 10) (I 9) (I h 1) = nI (cp c t) := by rw [hg, hc.2.1, fVis_n _ ht hV, hc.2.2.2.2.2.2.1 t ht]
  have h3 := hok.2.2.2.2.1 _ hcp
  have ff := fFolk_n hc hcp
  rcases (show ch c (cp c t) = 0 ∨ ch c (cp c t) = 1 ∨ ch c (cp c t) = 2 ∨ ch c (cp c t) = 3 by omega) with e | e | e | e
  · refine h_met (by decide) rfl (Nat.le_of_ble_eq_true rfl) (sg_X9_habitual_N_0 a1 a2 ?_)
    rw [hv]
    rw [if_neg (by omega), if_neg (by omega), if_neg (by omega)] at ff
    refine c_X9_folkOf ?_
    rw [ff]
    refine sg_X9_habitual_N_14 a1 a2 (c_X5_wouldThrow a1 a2 (sg_X9_habitual_N_20 ?_))
    have : hab c s (cp c t) = none := by unfold hab; rw [if_pos e]
    rw [this] at q; exact q
  · refine h_met (by decide) rfl (Nat.le_of_ble_eq_true rfl) (sg_X9_habitual_G_0 a1 a2 ?_)
    rw [hv]
    rw [if_pos e] at ff
    refine c_X9_folkOf ?_
    rw [ff]
    refine sg_X9_habitual_G_14 a1 a2 (c_would_G hc hh hs hb hcp (sg_X9_habitual_G_20 ?_))
    rw [hab_G e] at q; exact q
  · refine h_met (by decide) rfl (Nat.le_of_ble_eq_true rfl) (sg_X9_habitual_W_0 a1 a2 ?_)
    rw [hv]
    rw [if_neg (by omega), if_pos e] at ff
    refine c_X9_folkOf ?_
    rw [ff]
    exact sg_X9_habitual_W_14 a1 a2 (c_would_W hc hh hs hb hcp e (sg_X9_habitual_W_20 q))
  · refine h_met (by decide) rfl (Nat.le_of_ble_eq_true rfl) (sg_X9_habitual_C_0 a1 a2 ?_)
    rw [hv]
    rw [if_neg (by omega), if_neg (by omega), if_pos e] at ff
    refine c_X9_folkOf ?_
    rw [ff]
    exact sg_X9_habitual_C_14 a1 a2 (c_would_C hc hh hs hb hcp e (sg_X9_habitual_C_20 q))
end CON4
