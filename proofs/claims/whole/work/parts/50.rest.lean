/-! what stands behind a word: the reference -/
def fixP (f : Nat → Nat) (n : Nat) : List (Int32 × Int32) → Nat → Bool × List Int32 × Nat
  | [], P => (true, [], P)
  | (a, b) :: t, P => match rdN f n P a b with
    | none => (false, [], P)
    | some v => ((fixP f n t (tN f n P)).1, v :: (fixP f n t (tN f n P)).2.1, (fixP f n t (tN f n P)).2.2)
theorem fixP_none {f : Nat → Nat} {n P : Nat} {a b : Int32} {t : List (Int32 × Int32)} (h : rdN f n P a b = none) : fixP f n ((a, b) :: t) P = (false, [], P) := by
  unfold fixP; rw [h]
theorem fixP_some {f : Nat → Nat} {n P : Nat} {a b v : Int32} {t : List (Int32 × Int32)} (h : rdN f n P a b = some v) : fixP f n ((a, b) :: t) P = ((fixP f n t (tN f n P)).1, v :: (fixP f n t (tN f n P)).2.1, (fixP f n t (tN f n P)).2.2) := by
  conv => lhs; unfold fixP
  rw [h]
/-- what stands behind word w, with k kinds and v visits told so far -/
def restP (f : Nat → Nat) (n k vc w P : Nat) : Bool × List Int32 × Nat :=
  if w = 0 then numsP f n (fun v => v + 1) 999 (fun _ => false) 6 0 P 0
  else if w = 1 then fixP f n [(0, nI k - 1), (0, 20)] P
  else if w = 2 then fixP f n [(0, 3), (0, nI k - 1), (0, 20)] P
  else if w = 5 then fixP f n [(0, 3), (0, 99)] P
  else if w = 7 then numsP f n (fun _ => 0) 3 (fun i => decide (24 ≤ vc + i)) 9 0 P 0
  else if w = 9 then (true, [], P)
  else fixP f n [(0, 3)] P
section REST
variable {E : HEn} {d : Nat} {Q : Option Value → HIh → Prop} {I : HIh}
/-- one number more -/
theorem m_one {J : HIh} {f : Nat → Nat} {n P r : Nat} {l : List Int32} {a b : Int32} (hr : r ≤ 9) (h5 : I 87 5 = nI r) (hl : l.length ≤ 9) (hi : InM I J r l) (ht : TkM J f n P) (q0 : rdN f n P a b = none → Q (some (.int 0)) J) (q1 : ∀ v, rdN f n P a b = some v → ∀ K, InM I K r (l ++ [v]) → TkM K f n (tN f n P) → Q (some (.int 1)) K) : HCall E me_X12_reads (d + 3) [.ref 87, .int a, .int b] J Q :=
  m_reads (r := r) (k := l.length) ht hr hl ((hi.2.1 5 (by decide)).trans h5) hi.2.2.2.1 q0 (fun v hv K e t => q1 v hv K (hi.rd hl e) t)
theorem bq {Q : Option Value → HIh → Prop} {J : HIh} {R : Bool × List Int32 × Nat} {b : Bool} {l : List Int32} {P : Nat} {f : Nat → Nat} {n r : Nat} (hR : R = (b, l, P)) (q : ∀ J, InM I J r R.2.1 → TkM J f n R.2.2 → Q (some (.int (if R.1 = true then 1 else 0))) J) (hi : InM I J r l) (ht : TkM J f n P) : Q (some (.int (if b = true then 1 else 0))) J := by
  rw [hR] at q; exact q J hi ht
theorem m_readsRest {J : HIh} {f : Nat → Nat} {n k vc w P r : Nat} (hr : r ≤ 9) (h5 : I 87 5 = nI r) (h17 : I 87 17 = nI k) (h18 : I 87 18 = nI vc) (hvc : vc ≤ 24) (hw : w ≤ 9) (hi : InM I J r []) (ht : TkM J f n P) (q : ∀ K, InM I K r (restP f n k vc w P).2.1 → TkM K f n (restP f n k vc w P).2.2 → Q (some (.int (if (restP f n k vc w P).1 = true then 1 else 0))) K) : HCall E me_X12_readsRest (d + 5) [.ref 87, .int (nI w)] J Q := by
  have e17 : ∀ {K : HIh} {l}, InM I K r l → K 87 17 = nI k := fun {K l} h => (h.2.1 17 (by decide)).trans h17
  have nb : ∀ b : Bool, vp_nar .boolean (if b = true then (1 : Int32) else 0) = (if b = true then (1 : Int32) else 0) := fun b => by cases b <;> rfl
  refine h_met (by decide) rfl (Nat.le_of_ble_eq_true rfl) ?_
  rcases (show w = 0 ∨ w = 1 ∨ w = 2 ∨ w = 5 ∨ w = 7 ∨ w = 9 ∨ w = 3 ∨ w = 4 ∨ w = 6 ∨ w = 8 by omega) with rfl | rfl | rfl | rfl | rfl | rfl | h1
  · have K : HCall E me_X12_readsCoins (d + 4) [.ref 87] J (fun v9 J => HGo E (mF E (d + 5) Q) me_X12_readsRest 60 [] (v9.toList ++ []) J) := by
      have h5J : J 87 5 = nI r := (hi.2.1 5 (by decide)).trans h5
      refine h_met (by decide) rfl (Nat.le_of_ble_eq_true rfl) (sg_X12_readsCoins_0 ?_)
      rw [h5J, show (12 : Int32) = nI 12 from rfl, pk_mul]
      exact coins_m (R := restP f n k vc 0 P) hr h5 (fun K k1 k2 => sg_X12_readsRest_60 (nb _) (q K k1 k2)) 6 [] P 0 J rfl hi ht rfl
    apply sg_X12_readsRest_0 <;> intros <;> first | contradiction | exact K
  · have K : HCall E me_X12_reads (d + 4) [.ref 87, .int 0, .int (J 87 17 - 1)] J (fun v9 J => HGo E (mF E (d + 5) Q) me_X12_readsRest 72 [(0, .ref 87)] (v9.toList ++ []) J) := by
      rw [e17 hi]
      refine m_one hr h5 (by decide) hi ht (fun hn => sg_X12_readsRest_72 (fun _ => bq (fixP_none hn) q hi ht) (fun z => absurd rfl z)) (fun v hv K1 i1 t1 => sg_X12_readsRest_72 (fun z => absurd z (by decide)) (fun _ => ?_))
      refine m_one hr h5 (Nat.le_of_ble_eq_true rfl) i1 t1 (fun hn => sg_X12_readsRest_82 (fun _ => ?_) (fun z => absurd rfl z)) (fun v2 hv2 K2 i2 t2 => sg_X12_readsRest_82 (fun z => absurd z (by decide)) (fun _ => ?_))
      · exact bq (b := false) (l := [v]) (show restP f n k vc 1 P = _ from by show fixP f n _ P = _; rw [fixP_some hv, fixP_none hn]) q i1 t1
      · exact bq (b := true) (l := [v, v2]) (show restP f n k vc 1 P = _ from by show fixP f n _ P = _; rw [fixP_some hv, fixP_some hv2]; rfl) q i2 t2
    apply sg_X12_readsRest_0 <;> intros <;> first | contradiction | exact K
  · have K : HCall E me_X12_reads (d + 4) [.ref 87, .int 0, .int 3] J (fun v9 J => HGo E (mF E (d + 5) Q) me_X12_readsRest 97 [(0, .ref 87)] (v9.toList ++ []) J) := by
      refine m_one hr h5 (by decide) hi ht (fun hn => sg_X12_readsRest_97 (fun _ => bq (fixP_none hn) q hi ht) (fun z => absurd rfl z)) (fun v hv K1 i1 t1 => sg_X12_readsRest_97 (fun z => absurd z (by decide)) (fun _ => ?_))
      rw [e17 i1]
      refine m_one hr h5 (Nat.le_of_ble_eq_true rfl) i1 t1 (fun hn => sg_X12_readsRest_111 (fun _ => ?_) (fun z => absurd rfl z)) (fun v2 hv2 K2 i2 t2 => sg_X12_readsRest_111 (fun z => absurd z (by decide)) (fun _ => ?_))
      · exact bq (b := false) (l := [v]) (show restP f n k vc 2 P = _ from by show fixP f n _ P = _; rw [fixP_some hv, fixP_none hn]) q i1 t1
      refine m_one hr h5 (Nat.le_of_ble_eq_true rfl) i2 t2 (fun hn => sg_X12_readsRest_121 (fun _ => ?_) (fun z => absurd rfl z)) (fun v3 hv3 K3 i3 t3 => sg_X12_readsRest_121 (fun z => absurd z (by decide)) (fun _ => ?_))
      · exact bq (b := false) (l := [v, v2]) (show restP f n k vc 2 P = _ from by show fixP f n _ P = _; rw [fixP_some hv, fixP_some hv2, fixP_none hn]) q i2 t2
      · exact bq (b := true) (l := [v, v2, v3]) (show restP f n k vc 2 P = _ from by show fixP f n _ P = _; rw [fixP_some hv, fixP_some hv2, fixP_some hv3]; rfl) q i3 t3
    apply sg_X12_readsRest_0 <;> intros <;> first | contradiction | exact K
  · have K : HCall E me_X12_reads (d + 4) [.ref 87, .int 0, .int 3] J (fun v9 J => HGo E (mF E (d + 5) Q) me_X12_readsRest 136 [(0, .ref 87)] (v9.toList ++ []) J) := by
      refine m_one hr h5 (by decide) hi ht (fun hn => sg_X12_readsRest_136 (fun _ => bq (fixP_none hn) q hi ht) (fun z => absurd rfl z)) (fun v hv K1 i1 t1 => sg_X12_readsRest_136 (fun z => absurd z (by decide)) (fun _ => ?_))
      refine m_one hr h5 (Nat.le_of_ble_eq_true rfl) i1 t1 (fun hn => sg_X12_readsRest_146 (fun _ => ?_) (fun z => absurd rfl z)) (fun v2 hv2 K2 i2 t2 => sg_X12_readsRest_146 (fun z => absurd z (by decide)) (fun _ => ?_))
      · exact bq (b := false) (l := [v]) (show restP f n k vc 5 P = _ from by show fixP f n _ P = _; rw [fixP_some hv, fixP_none hn]) q i1 t1
      · exact bq (b := true) (l := [v, v2]) (show restP f n k vc 5 P = _ from by show fixP f n _ P = _; rw [fixP_some hv, fixP_some hv2]; rfl) q i2 t2
    apply sg_X12_readsRest_0 <;> intros <;> first | contradiction | exact K
  · have K : HCall E me_X12_readsCome (d + 4) [.ref 87] J (fun v9 J => HGo E (mF E (d + 5) Q) me_X12_readsRest 159 [] (v9.toList ++ []) J) := by
      have h5J : J 87 5 = nI r := (hi.2.1 5 (by decide)).trans h5
      refine h_met (by decide) rfl (Nat.le_of_ble_eq_true rfl) (sg_X12_readsCome_0 ?_)
      rw [h5J, show (12 : Int32) = nI 12 from rfl, pk_mul]
      exact come_m (R := restP f n k vc 7 P) hr h5 h18 (fun K k1 k2 => sg_X12_readsRest_159 (nb _) (q K k1 k2)) 9 [] P 0 J rfl (by show vc + 0 ≤ 24; omega) hi ht rfl
    apply sg_X12_readsRest_0 <;> intros <;> first | contradiction | exact K
  · have K : Q (some (.int 1)) J := bq (b := true) (l := []) (R := restP f n k vc 9 P) rfl q hi ht
    apply sg_X12_readsRest_0 <;> intros <;> first | contradiction | exact K
  · have hR : restP f n k vc w P = fixP f n [(0, 3)] P := by
      unfold restP
      rw [if_neg (by omega), if_neg (by omega), if_neg (by omega), if_neg (by omega), if_neg (by omega), if_neg (by omega)]
    have K : HCall E me_X12_reads (d + 4) [.ref 87, .int 0, .int 3] J (fun v9 J => HGo E (mF E (d + 5) Q) me_X12_readsRest 168 [] (v9.toList ++ []) J) := by
      refine m_one hr h5 (by decide) hi ht (fun hn => sg_X12_readsRest_168 rfl (bq (hR.trans (fixP_none hn)) q hi ht)) (fun v hv K1 i1 t1 => sg_X12_readsRest_168 rfl ?_)
      exact bq (b := true) (l := [v]) (hR.trans (by rw [fixP_some hv]; rfl)) q i1 t1
    rcases h1 with rfl | rfl | rfl | rfl <;> apply sg_X12_readsRest_0 <;> intros <;> first | contradiction | exact K
end REST
