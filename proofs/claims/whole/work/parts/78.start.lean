/-! the law's start: what the tables and the Statement give -/
theorem vk_S_cong {N : Nat} {len : List Nat} {byt : List (List Int32)} {a a' v v' : Nat → Nat} {A : Nat → Prop} {U : State} {H : Heap} (h : vk_S N len byt a v A U H) (ha : ∀ i, i < N → a' i = a i) (hv : ∀ i, i < N → v' i = v i) : vk_S N len byt a' v' A U H := by
  refine ⟨fun i hi => ?_, fun i j hi hj e => h.2 i j hi hj (by rw [← ha i hi, ← ha j hj]; exact e)⟩
  rw [ha i hi, hv i hi]
  exact h.1 i hi
theorem st_nwF : ∀ q ∈ nwF, Cond.fieldLinkNest q.1 q.2.1 q.2.2.1 q.2.2.2.1 q.2.2.2.2.1 q.2.2.2.2.2 ∈ tables_1 := by decide +kernel
theorem st_nwM : ∀ q ∈ nwM, Cond.methodLinkNest q.1 q.2.1 q.2.2.1 q.2.2.2 ∈ tables_1 := by decide +kernel
theorem st_nwC : ∀ q ∈ nwC, Cond.castable q.1 q.2 ∈ tables_1 := by decide +kernel
theorem st_nwN : ∀ q ∈ nwN, Cond.not (Cond.castable q.1 q.2) ∈ flatC (Cond.and given_1 narrow_1) := by decide +kernel
theorem st_nwD : ∀ q ∈ nwD, Cond.declares q ∈ tables_1 := by decide +kernel
def stT (i : Nat) : Term := .string "ThrownCoins$Text" (strX.getD i (0, "")).1
theorem st_ref : ∀ i, i < 10 → Cond.stringRef "ThrownCoins$Text" (strX.getD i (0, "")).1 (strX.getD i (0, "")).2 ∈ tables_1 := by decide +kernel
theorem st_len : ∀ i, i < 10 → strLen.getD i 0 < 2 ^ 31 := by decide +kernel
theorem st_ex : ∀ i, i < 10 → Cond.exactly (stT i) "java/lang/String" ∈ flatC (Cond.and given_1 narrow_1) := by decide +kernel
theorem st_co : ∀ i, i < 10 → Cond.eq (.field (stT i) "java/lang/String" "coder" "B") (.int 0) ∈ flatC (Cond.and given_1 narrow_1) := by decide +kernel
theorem st_ar : ∀ i, i < 10 → Cond.arrayOf (.field (stT i) "java/lang/String" "value" "[B") .byte ∈ flatC (Cond.and given_1 narrow_1) := by decide +kernel
theorem st_le : ∀ i, i < 10 → Cond.eq (.length (.field (stT i) "java/lang/String" "value" "[B")) (.int (Int32.ofNat (strLen.getD i 0))) ∈ flatC (Cond.and given_1 narrow_1) := by decide +kernel
theorem st_el : ∀ i, i < 10 → ∀ j, j < strLen.getD i 0 → Cond.eq (.elem (.field (stT i) "java/lang/String" "value" "[B") (.int (Int32.ofNat j))) (.int ((strByt.getD i []).getD j 0)) ∈ flatC (Cond.and given_1 narrow_1) := by decide +kernel
theorem st_ne : ∀ i, i < 10 → ∀ j, j < 10 → i ≠ j → Cond.not (Cond.eq (stT i) (stT j)) ∈ flatC (Cond.and given_1 narrow_1) ∨ Cond.not (Cond.eq (stT j) (stT i)) ∈ flatC (Cond.and given_1 narrow_1) := by decide +kernel
theorem st_cs : Cond.laysStatic "java/lang/String" "COMPACT_STRINGS" "Z" ∈ tables_1 ∧ Cond.laysStatic "jdk/internal/util/Preconditions" "SIOOBE_FORMATTER" "Ljava/util/function/BiFunction;" ∈ tables_1 ∧ Cond.arrayOver (.object "ThrownCoins$Lot") ∈ tables_1 ∧ Cond.arrayOver (.array .int) ∈ tables_1 := by decide +kernel
theorem st_zs : Cond.eq (.static "java/lang/String" "COMPACT_STRINGS" "Z") (.int 1) ∈ flatC (Cond.and given_1 narrow_1) ∧ Cond.isRef (.static "jdk/internal/util/Preconditions" "SIOOBE_FORMATTER" "Ljava/util/function/BiFunction;") ∈ flatC (Cond.and given_1 narrow_1) := by decide +kernel
/-- the literals, their bytes, the formatter and the script by their labels -/
def stG (aK aV : Nat → Nat) (t b : Nat) : Nat → Nat := fun q => if q = 4000 then b else if q = 3000 then t else if q < 2000 then aK (q - 1000) else aV (q - 2000)
section STA
variable {s : State} {args : Array Value}
theorem st_K (h : ∀ w ∈ TB, w.before args s = true) : ∃ D : va_G, ∀ (c : Nat) (q : vw_C), vwCl[c]? = some q → u_Kn s q.1 q.2.1 q.2.2 (D.1 c) (D.2 c) := by
  have h0 : ∀ ci : Nat, ∃ x : ClassId × (Nat → Nat), ∀ q : vw_C, vwCl[ci]? = some q → u_Kn s q.1 q.2.1 q.2.2 x.1 x.2 := by
    intro ci
    have one : ∀ {C : String} {T : u_T} {N : Nat}, (∀ w ∈ u_ws C T N, w ∈ TB) → Cond.instantiable C N ∈ TB → vwCl[ci]? = some (C, T, N) → ∃ x : ClassId × (Nat → Nat), ∀ q : vw_C, vwCl[ci]? = some q → u_Kn s q.1 q.2.1 q.2.2 x.1 x.2 := by
      intro C T N h1 h2 h3
      obtain ⟨cC, iS, hk⟩ := u_known h h1 (h _ h2)
      refine ⟨(cC, iS), fun q hq => ?_⟩
      rw [h3] at hq
      cases hq
      exact hk
    by_cases hc : ci < 11
    · rcases (show ci = 0 ∨ ci = 1 ∨ ci = 2 ∨ ci = 3 ∨ ci = 4 ∨ ci = 5 ∨ ci = 6 ∨ ci = 7 ∨ ci = 8 ∨ ci = 9 ∨ ci = 10 by omega) with rfl | rfl | rfl | rfl | rfl | rfl | rfl | rfl | rfl | rfl | rfl
      · exact one hu_0 wt_62 rfl
      · exact one hu_1 wt_175 rfl
      · exact one hu_2 wt_45 rfl
      · exact one hu_3 wt_69 rfl
      · exact one hu_4 wt_35 rfl
      · exact one hu_5 wt_210 rfl
      · exact one hu_6 wt_139 rfl
      · exact one hu_7 wt_29 rfl
      · exact one hu_8 wt_55 rfl
      · exact one hu_9 wt_21 rfl
      · exact one hu_10 wt_808 rfl
    · refine ⟨(0, fun _ => 0), fun q hq => ?_⟩
      have h3 : ci < vwCl.length := (List.getElem?_eq_some_iff.mp hq).1
      exact absurd h3 hc
  obtain ⟨f, hf⟩ := Classical.axiomOfChoice h0
  exact ⟨(fun c => (f c).1, fun c => (f c).2), fun c q hq => hf c q hq⟩
theorem st_tys (h : ∀ w ∈ TB, w.before args s = true) (ho : ∀ w ∈ tables_1, w.before args s = true) : (∃ cs : ClassId × ClassId × ClassId × ClassId, ∀ (k : Nat) (q : ClassId × FieldType), ([(cs.1, .int), (cs.2.1, .boolean), (cs.2.2.1, .object "ThrownCoins$Lot"), (cs.2.2.2, .array .int)] : List (ClassId × FieldType))[k]? = some q → ArrOfT s q.1 q.2 ∧ va_RA s q.1 q.2) ∧ kAr s := by
  obtain ⟨cI, kI, pI, i1, i2, i3⟩ := Cond.arrayClass_spec (h (Cond.arrayClass .int) wt_84)
  obtain ⟨cB, kB, pB, b1, b2, b3⟩ := Cond.arrayClass_spec (h (Cond.arrayClass .boolean) wt_898)
  have hl := ho _ st_cs.2.2.1
  obtain ⟨pL, cL, kL, l1, -, l3, l4, l5⟩ := Cond.arrayOver_spec hl
  obtain ⟨pM, cM, kM, m1, -, m3, m4, m5⟩ := arrayOverA_spec (ho _ st_cs.2.2.2)
  refine ⟨⟨(cI, cB, cL, cM), fun k q hq => ?_⟩, va_AO.of hl, cM, pM, kM, m5, m3, m4, m1⟩
  have hk : k < 4 := (List.getElem?_eq_some_iff.mp hq).1
  rcases (show k = 0 ∨ k = 1 ∨ k = 2 ∨ k = 3 by omega) with rfl | rfl | rfl | rfl
  · cases hq; exact ⟨fun N z => ⟨(fun k h => by cases h), kI, i2, pI, i3⟩, i1⟩
  · cases hq; exact ⟨fun N z => ⟨(fun k h => by cases h), kB, b2, pB, b3⟩, b1⟩
  · cases hq; exact ⟨fun N z => ⟨(fun k h => by cases h), kL, l3, pL, l4⟩, kL, pL, l3, l4, l1, l5⟩
  · cases hq; exact ⟨fun N z => ⟨(fun k h => by cases h), kM, m3, pM, m4⟩, m5⟩
theorem st_nest (ho : ∀ w ∈ tables_1, w.before args s = true) (hg : ∀ w ∈ flatC (Cond.and given_1 narrow_1), w.before args s = true) : nestK s :=
  ⟨fun q hq => va_Nw.of rfl (ho _ (st_nwF q hq)), fun q hq => va_Nw.of rfl (ho _ (st_nwM q hq)), fun q hq => va_Nw.of rfl (ho _ (st_nwC q hq)), fun q hq => va_Nc.of (hg _ (st_nwN q hq)), fun q hq => va_Nw.of rfl (ho _ (st_nwD q hq))⟩
theorem st_str (h : ∀ w ∈ TB, w.before args s = true) (ho : ∀ w ∈ tables_1, w.before args s = true) (hg : ∀ w ∈ flatC (Cond.and given_1 narrow_1), w.before args s = true) {A : Nat → Prop} (hA : ∀ a : Nat, a < s.heap.size → ¬ A a) (E : KEn) (b : Nat) : ∃ g : Nat → Nat, g 4000 = b ∧ strK (kE E g) A s s.heap := by
  obtain ⟨aK, aV, hS, hev⟩ := vk_Sof (tm := stT) (byt := strByt) (len := strLen) (N := 10) (A := A) st_len (fun i hi => hg _ (st_ex i hi)) (fun i hi => hg _ (st_co i hi)) (fun i hi => hg _ (st_ar i hi)) (fun i hi => hg _ (st_le i hi)) (fun i hi j hj => hg _ (st_el i hi j hj)) (fun i j hi hj hij => (st_ne i hi j hj hij).imp (fun h => hg _ h) (fun h => hg _ h)) hA
  have z1 : va_Z "java/lang/String" "COMPACT_STRINGS" "Z" (.int 1) A s s.heap := va_Zof (ho _ st_cs.1) (h _ wt_16) (va_eqt (hg _ st_zs.1)) hA
  have z2 := va_Zqof (A := A) (ho _ st_cs.2.1) (h _ wt_18) (hg _ st_zs.2) hA
  have mk : ∀ t : Nat, (va_Z "jdk/internal/util/Preconditions" "SIOOBE_FORMATTER" "Ljava/util/function/BiFunction;" .null A s s.heap ∨ va_Z "jdk/internal/util/Preconditions" "SIOOBE_FORMATTER" "Ljava/util/function/BiFunction;" (.ref t) A s s.heap) → ∃ g : Nat → Nat, g 4000 = b ∧ strK (kE E g) A s s.heap := by
    intro t ht
    have eK : ∀ i, i < 10 → (kE E (stG aK aV t b)).2.2.2 (1000 + i) = aK i := fun i hi => by
      show (if 1000 + i < 103 then _ else if 1000 + i = 4000 then b else if 1000 + i = 3000 then t else if 1000 + i < 2000 then aK (1000 + i - 1000) else aV (1000 + i - 2000)) = _
      rw [if_neg (by omega), if_neg (by omega), if_neg (by omega), if_pos (by omega), Nat.add_sub_cancel_left]
    have eV : ∀ i, i < 10 → (kE E (stG aK aV t b)).2.2.2 (2000 + i) = aV i := fun i hi => by
      show (if 2000 + i < 103 then _ else if 2000 + i = 4000 then b else if 2000 + i = 3000 then t else if 2000 + i < 2000 then aK (2000 + i - 1000) else aV (2000 + i - 2000)) = _
      rw [if_neg (by omega), if_neg (by omega), if_neg (by omega), if_neg (by omega), Nat.add_sub_cancel_left]
    refine ⟨stG aK aV t b, rfl, vk_S_cong hS eK eV, fun i hi => ?_, z1, ht⟩
    rw [eK i hi]
    exact vk_R.of (ho _ (st_ref i hi)) (hev i hi)
  rcases z2 with z2 | ⟨t, z2⟩
  · exact mk 0 (Or.inl z2)
  · exact mk t (Or.inr z2)
end STA
/-- from the entry, for every script of at most 256 ints, the law comes to its end with true -/
theorem whole_start {p : Program} {e : Env} {s : State} {m : MethodId} {below : List Frame} {meth : Method} {c : Code} (l : Launch) (hflags : l.flags = flags0) {b L : Nat} {xs : Nat → Int32} (hL : L ≤ 256) (C0 : lw_At p s m meth c b L xs) : W p l e room_1 s m #[Value.ref b] below meth c s.heap [] 0 0 (lw_Z below #[Value.ref b] s) (entryFrame m ([Value.ref b] : List Value).toArray 4) := by
  obtain ⟨hx, hc, hr, hml, hown, hts, hX, hb, hlk, hgv⟩ := C0
  have hTB : ∀ w ∈ TB, w.before #[Value.ref b] s = true := fun w hw => hts w (List.mem_filter.mp hw).1
  have ho : ∀ w ∈ tables_1, w.before #[Value.ref b] s = true := fun w hw => hts w (List.mem_append_right _ hw)
  have hg := flat_of_before _ hgv
  obtain ⟨D, hD⟩ := st_K hTB
  obtain ⟨⟨cs, hcs⟩, hAr⟩ := st_tys hTB ho
  have hN := st_nest ho hg
  have hA : ∀ a : Nat, a < s.heap.size → ¬ (s = s ∧ s.heap.size ≤ a) := fun a h1 h2 => by omega
  obtain ⟨E, hE⟩ : ∃ E : KEn, E = (l, D, cs, s.heap.size) := ⟨_, rfl⟩
  obtain ⟨g, g4, hS⟩ := st_str hTB ho hg (A := fun q => s = s ∧ s.heap.size ≤ q) hA E b
  have hl := lv_entry ([.ref b]) (n := 4) (Nat.le_of_ble_eq_true rfl)
  rw [lg_entry_eq]
  have e1 : E.1 = l := by rw [hE]
  have e2 : E.2.2.2 = s.heap.size := by rw [hE]
  have hK : va_K E.2.1 vwCl (tysK E) s := by rw [hE]; exact ⟨hD, hcs⟩
  have K : KGo E (lawK s) me_L_law 18 [(3, .int 0), (2, .ref (E.2.2.2 + 87)), (1, .ref (E.2.2.2 + 0)), (0, .ref b)] [] 103 (z_law E (fun _ => .inl (0, 0, .inl (fun _ => 0)))) 103 1973 := by
    intro p' e' s' m' args' below' meth' c' H locs ls C hP hz hS' hl'
    by_cases hs : s' = s
    · subst hs
      have hC : HCx (kE E g) (lawF s') me_L_law p' s' m' args' meth' c' := ⟨C.1, C.2.1, C.2.2.1, C.2.2.2.1, C.2.2.2.2.1, C.2.2.2.2.2.1, C.2.2.2.2.2.2.1, hK, hN, hS, km_inj, fun q hq => ⟨rfl, by rw [kE_at hq, e2]; exact Nat.le_add_right _ _⟩⟩
      have hS2 : va_S ((lawF s').2.2.2.1 s') s'.heap H locs := ⟨hS'.1, fun q h1 h2 => hS'.2.1 q h1 (fun h => by rw [e2] at h; omega), fun q hq => ⟨rfl, by rw [← e2]; exact hS'.2.2 q hq⟩⟩
      have e4 : (kE E g).2.2.2 4000 = b := g4
      have hl2 : lv_has ls 4 (([(3, .int (nI 0)), (2, .ref 87), (1, .ref 0), (0, .ref 4000)] : List (Nat × Value)).map (lifP (kE E g))) := by
        have h5 : (([(3, .int (nI 0)), (2, .ref 87), (1, .ref 0), (0, .ref 4000)] : List (Nat × Value)).map (lifP (kE E g))) = [(3, .int 0), (2, .ref (E.2.2.2 + 87)), (1, .ref (E.2.2.2 + 0)), (0, .ref b)] := by
          rw [← e4]; rfl
        rw [h5]; exact hl'
      have G := law_18 (E := kE E g) (s0 := s') hX hb e4 hL 257 0 i0 (by omega) (by omega) rel_i0 p' e' s' m' args' below' meth' c' H locs ls hC (km_world hP) hS2 hl2
      have G2 : W p' E.1 e' room_1 s' m' args' below' meth' c' H locs 103 1973 (lw_Z below' args' s') (F0 m' 18 ls []) := W.widen (k := 600000) (n := 7302250) (by omega) (by omega) G
      intro T hT X
      obtain ⟨t, a1, b1⟩ := G2 T hT X
      exact ⟨t, a1, fun _ => b1⟩
    · intro T hT X
      exact ⟨_, Steps.refl _, fun h => absurd h hs⟩
  have G := k_law K p e s m #[Value.ref b] below meth c s.heap [] _ ⟨hx, hc, hr, hml, hown, hTB, hlk, hK, hN, fun h => absurd h (by decide), by rw [e2]; exact Nat.le_refl _, hAr⟩ (fun k q hq => by cases hq) (by rw [e2]) va_S.rf hl
  rw [← e1]
  intro T hT X
  obtain ⟨t, a1, b1⟩ := G T hT X
  exact ⟨t, a1, b1 rfl⟩
