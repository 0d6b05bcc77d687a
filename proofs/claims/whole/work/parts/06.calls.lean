/-! calls and ends: a method's contract at a depth, over the pure heap -/
def rmd (d : Nat) : Room := { frames := d, cells := 0, slots := 0, locals := 60 * d }
def HPre (E : HEn) (I : HIh) (U : State) : Prop := va_P E.2.1 vwCl (wld E I) U.heap ∧ va_K E.2.1 vwCl (tysE E) U ∧ nestK U ∧ strK E (AE E) U U.heap ∧ HInj E
def HQc (E : HEn) (Q : Option Value → HIh → Prop) : Array Value → State → Outcome → State → Prop := fun _ st oc t => (∃ (v : Option Value) (I' : HIh), oc = .returned (v.map (lif E)) ∧ Q v I' ∧ va_P E.2.1 vwCl (wld E I') t.heap) ∧ va_F (AE E) st t
/-- the method, called with these arguments at this heap, returns, and Q holds of its answer and the heap behind it -/
def HCall (E : HEn) (me : HMe) (d : Nat) (args : List Value) (I : HIh) (Q : Option Value → HIh → Prop) : Prop :=
  Met E.1 me.1 (Cond.code me.1 me.2.1 me.2.2.1 me.2.2.2 :: TB) (rmd d) (va_Pc (args.map (lif E)) (HPre E I)) (HQc E Q) 0 0 (AE E)
def mF (E : HEn) (d : Nat) (Q : Option Value → HIh → Prop) : HFx := (rmd d, 0, 0, (fun _ => AE E), fun below a s => MQ below (HQc E Q) a s 0 0 (AE E))
theorem lv_args_lif (E : HEn) : ∀ (args : List Value) (n : Nat), lv_args n (args.map (lif E)) = (lv_args n args).map (lifP E)
  | [], _ => rfl
  | v :: vs, n => by
    show (n, lif E v) :: lv_args _ (vs.map (lif E)) = (n, lif E v) :: (lv_args _ vs).map (lifP E)
    rw [lif_cat, lv_args_lif E vs]
theorem h_met {E : HEn} {me : HMe} {d : Nat} {args : List Value} {I : HIh} {Q : Option Value → HIh → Prop} {L : List (Nat × Value)} (hy : plainName me.1.cls = true) (hL : lv_args 0 args = L) (hsz : (args.map (fun v => v.category)).sum ≤ me.2.2.1) (h : HGo E (mF E d Q) me 0 L [] I) : HCall E me d args I Q := by
  subst hL
  refine Met.ofW (cc := me.2.1) (maxL := me.2.2.1) (ret := me.2.2.2) hy rfl ?_
  intro p e s m ar below meth c s₁ B hml hv
  obtain ⟨rfl, hP, hK, hN, hS0, hI⟩ := hv
  have hts := atoms_spec (ws := Cond.code me.1 me.2.1 me.2.2.1 me.2.2.2 :: TB) B.pre
  have hlen : ∀ vs : List Value, (lg_sl (vs.map (lif E))).length ≤ (vs.map (fun v => v.category)).sum := by
    intro vs
    induction vs with
    | nil => exact Nat.le_refl _
    | cons v t ih =>
      have e1 : lg_sl ((v :: t).map (lif E)) = (if (lif E v).category = 2 then [Slot.val (lif E v), Slot.second] else [Slot.val (lif E v)]) ++ lg_sl (t.map (lif E)) := rfl
      rw [e1, List.length_append, lif_cat, List.map_cons, List.sum_cons]
      have hc : v.category = 1 ∨ v.category = 2 := by cases v <;> simp [Value.category]
      rcases hc with hc | hc
      · rw [hc, if_neg (by decide)]
        show 1 + _ ≤ 1 + _
        omega
      · rw [hc, if_pos rfl]
        show 2 + _ ≤ 2 + _
        omega
  have hl := lv_entry (args.map (lif E)) (n := me.2.2.1) (Nat.le_trans (hlen args) hsz)
  rw [lg_entry_eq]
  rw [lv_args_lif] at hl
  have hC : HCx E (mF E d Q) me p s m (args.map (lif E)).toArray meth c := ⟨B.exec, B.bytes, B.returns, hml, findClass_of_methodNamed B.named, fun w hw => hts w (List.mem_cons_of_mem _ hw), B.notSynchronized, hK, hN, hS0, hI, fun q hq => ⟨q, hq, rfl⟩⟩
  exact h p e s m _ below meth c s.heap [] _ hC hP va_S.rf hl
section HRT
variable {E : HEn} {me : HMe} {d pc : Nat} {L : List (Nat × Value)} {I : HIh} {Q : Option Value → HIh → Prop}
theorem h_iret {v : Int32} (hd : decode me.2.1 pc = .ok (.ireturn, 1)) (hr : me.2.2.2 = some .int) (h : Q (some (.int v)) I) : HGo E (mF E d Q) me pc L [.int v] I := by
  intro p e s m args below meth c H locs ls C hP hS hl
  exact W.iret C.1 C.2.1 (C.2.2.1.trans hr) (fun t ht hW => ⟨⟨some (.int v), I, rfl, h, by rw [ht]; exact hP⟩, va_S.F hS ht⟩) hS.2.2 hd C.2.2.2.2.2.2.1
theorem h_zret {v : Int32} (hd : decode me.2.1 pc = .ok (.ireturn, 1)) (hr : me.2.2.2 = some .boolean) (hn : vp_nar .boolean v = v) (h : Q (some (.int v)) I) : HGo E (mF E d Q) me pc L [.int v] I := by
  intro p e s m args below meth c H locs ls C hP hS hl
  have hn2 : narrow .boolean (.int v) = .int v := by
    have e1 : narrow .boolean (.int v) = .int (vp_nar .boolean v) := rfl
    rw [e1, hn]
  exact W.zret C.1 C.2.1 (C.2.2.1.trans hr) hn2 (fun t ht hW => ⟨⟨some (.int v), I, rfl, h, by rw [ht]; exact hP⟩, va_S.F hS ht⟩) hS.2.2 hd C.2.2.2.2.2.2.1
theorem h_lret {v : Int64} (hd : decode me.2.1 pc = .ok (.lreturn, 1)) (hr : me.2.2.2 = some .long) (h : Q (some (.long v)) I) : HGo E (mF E d Q) me pc L [.long v] I := by
  intro p e s m args below meth c H locs ls C hP hS hl
  exact W.lret C.1 C.2.1 (C.2.2.1.trans hr) (fun t ht hW => ⟨⟨some (.long v), I, rfl, h, by rw [ht]; exact hP⟩, va_S.F hS ht⟩) hS.2.2 hd C.2.2.2.2.2.2.1
theorem h_aret {q : Nat} {n : String} (hd : decode me.2.1 pc = .ok (.areturn, 1)) (hr : me.2.2.2 = some (.object n)) (h : Q (some (.ref q)) I) : HGo E (mF E d Q) me pc L [.ref q] I := by
  intro p e s m args below meth c H locs ls C hP hS hl
  exact W.aret C.1 C.2.1 (C.2.2.1.trans hr) (Or.inl ⟨n, rfl⟩) (Or.inr ⟨_, rfl⟩) (fun t ht hW => ⟨⟨some (.ref q), I, rfl, h, by rw [ht]; exact hP⟩, va_S.F hS ht⟩) hS.2.2 hd C.2.2.2.2.2.2.1
theorem h_vret (hd : decode me.2.1 pc = .ok (.return_, 1)) (hr : me.2.2.2 = none) (h : Q none I) : HGo E (mF E d Q) me pc L [] I := by
  intro p e s m args below meth c H locs ls C hP hS hl
  exact W.vret C.1 C.2.1 (C.2.2.1.trans hr) (fun t ht hW => ⟨⟨none, I, rfl, h, by rw [ht]; exact hP⟩, va_S.F hS ht⟩) hS.2.2 hd C.2.2.2.2.2.2.1
end HRT
theorem HPre.blind {E : HEn} {I : HIh} {av : List Value} : FrameBlind (va_Pc av (HPre E I)) := fun a U g mk q => by
  obtain ⟨h1, qP, qK, qN, qS, qI⟩ := q
  exact ⟨h1, qP, va_K.moved (u := U) (U := U.calling g mk a) (Vm.Alike.refl U.vm) qK, nestK.same (s := U) (U := U.calling g mk a) rfl qN, strK.same (s := U) (U := U.calling g mk a) rfl qS, qI⟩
theorem HPre.of {E : HEn} {F : HFx} {me : HMe} {p : Program} {s : State} {m : MethodId} {args : Array Value} {meth : Method} {c : Code} {I : HIh} {H : Heap} {locs : List Loc} (C : HCx E F me p s m args meth c) (hP : va_P E.2.1 vwCl (wld E I) H) (hS : va_S (F.2.2.2.1 s) s.heap H locs) {U : State} (hU : U.heap = H) (hW : s.WarmedH U.vm) : HPre E I U := by
  obtain ⟨-, -, -, -, -, -, -, hK, hN, hS0, hI, hA⟩ := C
  refine ⟨by rw [hU]; exact hP, va_K.moved hW.alike hK, nestK.warm hW hN, ?_, hI⟩
  rw [hU]
  refine strK.narrow (strK.warm hW (hS0.kept (fun a h1 h2 => hS.2.1 a h1 h2))) ?_
  rintro a ⟨q, hq, rfl⟩
  exact hA q hq
section HBK
variable {p : Program} {l : Launch} {e : Env} {R : Room} {s : State} {m : MethodId} {args : Array Value} {below : List Frame} {meth : Method} {c : Code} {H : Heap} {locs : List Loc} {cells slots : Nat} {Q : State → Prop}
theorem h_back {E : HEn} {Q' : Option Value → HIh → Prop} {a : Array Value} {A0 : Nat → Prop} {H0 : Heap} {pc : Nat} {ls : Array Slot} {st0 rest : List Value} (hr : va_Run p l e R s m args below meth c H locs cells slots 0 0 (F0 m pc ls st0) rest (HQc E Q' a) (AE E)) (hS : va_S A0 H0 H locs) (hA : ∀ q, AE E q → A0 q)
    (kk : ∀ (v : Option Value) (I' : HIh) (H1 : Heap) (locs1 : List Loc), Q' v I' → va_P E.2.1 vwCl (wld E I') H1 → va_S A0 H0 H1 locs1 → W p l e R s m args below meth c H1 locs1 cells slots Q (F0 m (pc + 3) ls ((v.map (lif E)).toList ++ rest))) : W p l e R s m args below meth c H locs cells slots Q (F0 m pc ls st0) := by
  intro T hT X
  obtain ⟨v, st₀, t, T', Ll, h0, X', hL, e1, e2, ⟨⟨v', I', hv, hq, hp⟩, hz, hk⟩, st⟩ := hr T hT X
  cases hv
  rw [h0] at hz hk
  obtain ⟨t2, a1, b1⟩ := kk v' I' T'.heap (locs ++ Ll) hq (by rw [e1]; exact hp)
    ⟨Nat.le_trans hS.1 (by rw [e1]; exact hz), fun q h1 h2 => by rw [e1, hk q (Nat.lt_of_lt_of_le h1 hS.1) (fun z => h2 (hA q z))]; exact hS.2.1 q h1 h2, fun q hq => by
      rcases List.mem_append.mp hq with h | h
      · exact hS.2.2 q h
      · exact hA _ (hL q h)⟩ T' rfl X'
  exact ⟨t2, st t2 a1, b1⟩
end HBK
abbrev cdW (me : HMe) : Cond := Cond.code me.1 me.2.1 me.2.2.1 me.2.2.2
def okN (y : MethodName) (n : Nat) : Prop := y.cls ≠ "java/lang/invoke/MethodHandle" ∧ y.cls ≠ "java/lang/invoke/VarHandle" ∧ (parseMethodDescriptor y.desc).map (fun d => d.parameters.length) = some n
/-- a place of a call: virtual (the class's own method), static, static of a nest mate, virtual of a class above -/
def HLV (own : String) (idx : Nat) (me' : HMe) (n : Nat) : Prop := Cond.methodLink own idx me'.1 ∈ TB ∧ Cond.instanceMethod me'.1 ∈ TB ∧ Cond.selects me'.1.cls me'.1 me'.1 ∈ TB ∧ Cond.initialized me'.1.cls ∈ TB ∧ cdW me' ∈ TB ∧ okN me'.1 n
def HLS (own : String) (idx : Nat) (me' : HMe) (n : Nat) : Prop := Cond.methodLink own idx me'.1 ∈ TB ∧ Cond.static me'.1 ∈ TB ∧ Cond.initialized me'.1.cls ∈ TB ∧ cdW me' ∈ TB ∧ okN me'.1 n
def HLN (own : String) (idx : Nat) (me' : HMe) (n : Nat) : Prop := (∃ h, (own, idx, me'.1, h) ∈ nwM) ∧ Cond.static me'.1 ∈ TB ∧ Cond.initialized me'.1.cls ∈ TB ∧ cdW me' ∈ TB ∧ okN me'.1 n
def HLU (own C owner : String) (idx : Nat) (x : MethodName) (me' : HMe) (n : Nat) : Prop := Cond.methodLink own idx x ∈ TB ∧ Cond.sameMethod x.cls owner x.name x.desc ∈ TB ∧ Cond.selects C x me'.1 ∈ TB ∧ Cond.instanceMethod me'.1 ∈ TB ∧ Cond.initialized me'.1.cls ∈ TB ∧ cdW me' ∈ TB ∧ (owner ≠ "java/lang/invoke/MethodHandle" ∧ owner ≠ "java/lang/invoke/VarHandle" ∧ (parseMethodDescriptor x.desc).map (fun d => d.parameters.length) = some n) ∧ (me'.1 = ⟨owner, x.name, x.desc⟩ ∨ (∃ b k r, Cond.code ⟨owner, x.name, x.desc⟩ b k r ∈ TB ∧ Cond.instanceMethod ⟨owner, x.name, x.desc⟩ ∈ TB) ∨ (⟨owner, x.name, x.desc⟩ : MethodName) ∈ nwD)
/-- the caller's room bears the callee's -/
def HRm (F : HFx) (d : Nat) (me' : HMe) : Prop := (d + 1 ≤ F.1.frames ∧ 8 + (me'.2.2.1 + 11) + 60 * d ≤ F.1.locals) ∧ F.2.1 ≤ F.1.cells ∧ F.2.2.1 ≤ F.1.slots
theorem h_room {E : HEn} {d : Nat} {Q : Option Value → HIh → Prop} {me' : HMe} (h : me'.2.2.1 ≤ 41) : HRm (mF E (d + 1) Q) d me' := by
  refine ⟨⟨Nat.le_refl _, ?_⟩, Nat.le_refl _, Nat.le_refl _⟩
  show 8 + (me'.2.2.1 + 11) + 60 * d ≤ 60 * (d + 1)
  omega
section HCL
variable {E : HEn} {F : HFx} {me me' : HMe} {pc idx n d : Nat} {L : List (Nat × Value)} {st stk : List Value} {I : HIh}
theorem h_cats (E : HEn) (st : List Value) (h : (st.map fun v => v.category).sum ≤ 8) (m : MethodId) (pc : Nat) (ls : Array Slot) (z : List Value) : 2 * (F0 m pc ls z).monitorRoom + ((st.map (lif E)).map fun v => v.category).sum ≤ 8 := by
  refine lv_room ?_
  have e1 : (st.map (lif E)).map (fun v => v.category) = st.map (fun v => v.category) := by
    rw [List.map_map]; apply List.map_congr_left; intro v _; exact lif_cat E v
  rw [e1]; exact h
theorem h_stkV (E : HEn) {As : List Value} {q : Nat} {st stk : List Value} (h : stk = As.reverse ++ .ref q :: st) : stk.map (lif E) = (As.map (lif E)).reverse ++ .ref (E.2.2.2 q) :: st.map (lif E) := by
  rw [h, List.map_append, List.map_reverse]; rfl
theorem h_stkS (E : HEn) {As : List Value} {st stk : List Value} (h : stk = As.reverse ++ st) : stk.map (lif E) = (As.map (lif E)).reverse ++ st.map (lif E) := by
  rw [h, List.map_append, List.map_reverse]
theorem h_toL (E : HEn) (v : Option Value) (st : List Value) : (v.map (lif E)).toList ++ st.map (lif E) = (v.toList ++ st).map (lif E) := by cases v <;> rfl
theorem h_invV {q : Nat} {As : List Value} {ci N : Nat} {T : u_T} (hd : decode me.2.1 pc = .ok (.invokevirtual idx, 3)) (hl' : HLV me.1.cls idx me' n) (hrm : HRm F d me') (hq : q < NL) (hk : Zk q = ci) (hci : ci < 11) (hc : vwCl[ci]? = some (me'.1.cls, T, N)) (hstk : stk = As.reverse ++ .ref q :: st) (hn : As.length = n) (hcat : (st.map fun v => v.category).sum ≤ 8)
    (h : HCall E me' d (.ref q :: As) I (fun v I' => HGo E F me (pc + 3) L (v.toList ++ st) I')) : HGo E F me pc L stk I := by
  intro p e s m args below meth c H locs ls C hP hS hl
  obtain ⟨w1, w2, w3, w4, w5, w6⟩ := hl'
  have hts : ∀ w ∈ TB, w.before args s = true := C.2.2.2.2.2.1
  have hG : GoodIn TB (wsV me.1.cls idx me'.1.cls me'.1 (cdW me' :: TB)) := tb_goodIn' (fun w hw => by
    simp only [wsV, List.cons_append, List.nil_append, List.mem_cons] at hw
    rcases hw with rfl | rfl | rfl | rfl | rfl | hw
    · exact w1
    · exact w2
    · exact w3
    · exact w4
    · exact w5
    · exact hw)
  have hrun := va_runV (e := e) (below := below) (meth := meth) (As := As.map (lif E)) (rest := st.map (lif E)) (g := F0 m pc ls (stk.map (lif E))) (H := H) (locs := locs) (cells := F.2.1) (slots := F.2.2.1) ⟨C.1, C.2.1, C.2.2.2.1, C.2.2.2.2.1, hts⟩ h (cwV n hts hG rfl rfl rfl ⟨rfl, w6⟩ hrm.1)
    ⟨HPre.blind, va_recv C.2.2.2.2.2.2.2.1 hP hc (wget hq hk hci), fun U hU hW => ⟨rfl, HPre.of C hP hS hU hW⟩⟩ rfl (by rw [List.length_map]; exact hn) hl.1 (h_stkV E hstk) (h_cats E st hcat m pc ls _) hd hrm.2
  refine h_back hrun hS (fun a ⟨q, hq, ha⟩ => by rw [ha]; exact C.2.2.2.2.2.2.2.2.2.2.2 q hq) (fun v I' H1 locs1 hQ hP1 hS1 => ?_)
  rw [h_toL]
  exact hQ p e s m args below meth c H1 locs1 ls C hP1 hS1 hl
theorem h_invU {q : Nat} {As : List Value} {ci N : Nat} {T : u_T} {Cn owner : String} {x : MethodName} (hd : decode me.2.1 pc = .ok (.invokevirtual idx, 3)) (hl' : HLU me.1.cls Cn owner idx x me' n) (hrm : HRm F d me') (hq : q < NL) (hk : Zk q = ci) (hci : ci < 11) (hc : vwCl[ci]? = some (Cn, T, N)) (hstk : stk = As.reverse ++ .ref q :: st) (hn : As.length = n) (hcat : (st.map fun v => v.category).sum ≤ 8)
    (h : HCall E me' d (.ref q :: As) I (fun v I' => HGo E F me (pc + 3) L (v.toList ++ st) I')) : HGo E F me pc L stk I := by
  intro p e s m args below meth c H locs ls C hP hS hl
  obtain ⟨w1, w2, w3, w4, w5, w6, w7, w8⟩ := hl'
  have hts : ∀ w ∈ TB, w.before args s = true := C.2.2.2.2.2.1
  have hG : GoodIn TB (va_wsU me.1.cls idx Cn owner x me'.1 (cdW me' :: TB)) := tb_goodIn' (fun w hw => by
    simp only [va_wsU, List.cons_append, List.nil_append, List.mem_cons] at hw
    rcases hw with rfl | rfl | rfl | rfl | rfl | rfl | hw
    · exact w1
    · exact w2
    · exact w3
    · exact w4
    · exact w5
    · exact w6
    · exact hw)
  have hcu : va_CU F.1 s args me.1.cls Cn owner idx x me'.1 me'.2.1 me'.2.2.1 me'.2.2.2 (cdW me' :: TB) (rmd d) 0 0 n := by
    rcases w8 with w8 | ⟨b, k, r, w8, w9⟩ | w8
    · exact va_cwU n hts hG rfl rfl rfl w8 w7 hrm.1
    · have hO : GoodIn TB (va_wsO me.1.cls idx Cn owner x me'.1 (cdW me' :: TB)) := tb_goodIn' (fun w hw => by
        simp only [va_wsO, List.cons_append, List.nil_append, List.mem_cons] at hw
        rcases hw with rfl | rfl | rfl | rfl | rfl | rfl | rfl | hw
        · exact w1
        · exact w2
        · exact w9
        · exact w3
        · exact w4
        · exact w5
        · exact w6
        · exact hw)
      exact va_cwO n hts hO rfl rfl rfl w8 w7 hrm.1
    · exact va_cwA n hts hG rfl rfl rfl (C.2.2.2.2.2.2.2.2.1.2.2.2.2 _ w8) w7 hrm.1
  have hrun := va_runU (e := e) (below := below) (meth := meth) (As := As.map (lif E)) (rest := st.map (lif E)) (g := F0 m pc ls (stk.map (lif E))) (H := H) (locs := locs) (cells := F.2.1) (slots := F.2.2.1) ⟨C.1, C.2.1, C.2.2.2.1, C.2.2.2.2.1, hts⟩ h hcu
    ⟨HPre.blind, va_recv C.2.2.2.2.2.2.2.1 hP hc (wget hq hk hci), fun U hU hW => ⟨rfl, HPre.of C hP hS hU hW⟩⟩ rfl (by rw [List.length_map]; exact hn) hl.1 (h_stkV E hstk) (h_cats E st hcat m pc ls _) hd hrm.2
  refine h_back hrun hS (fun a ⟨q, hq, ha⟩ => by rw [ha]; exact C.2.2.2.2.2.2.2.2.2.2.2 q hq) (fun v I' H1 locs1 hQ hP1 hS1 => ?_)
  rw [h_toL]
  exact hQ p e s m args below meth c H1 locs1 ls C hP1 hS1 hl
theorem h_invS {As : List Value} (hd : decode me.2.1 pc = .ok (.invokestatic idx, 3)) (hl' : HLS me.1.cls idx me' n) (hrm : HRm F d me') (hstk : stk = As.reverse ++ st) (hn : As.length = n) (hcat : (st.map fun v => v.category).sum ≤ 8)
    (h : HCall E me' d As I (fun v I' => HGo E F me (pc + 3) L (v.toList ++ st) I')) : HGo E F me pc L stk I := by
  intro p e s m args below meth c H locs ls C hP hS hl
  obtain ⟨w1, w2, w4, w5, w6⟩ := hl'
  have hts : ∀ w ∈ TB, w.before args s = true := C.2.2.2.2.2.1
  have hG : GoodIn TB (va_wsS me.1.cls idx me'.1 (cdW me' :: TB)) := tb_goodIn' (fun w hw => by
    simp only [va_wsS, List.cons_append, List.nil_append, List.mem_cons] at hw
    rcases hw with rfl | rfl | rfl | rfl | hw
    · exact w1
    · exact w2
    · exact w4
    · exact w5
    · exact hw)
  have hrun := va_runS (e := e) (below := below) (meth := meth) (As := As.map (lif E)) (rest := st.map (lif E)) (g := F0 m pc ls (stk.map (lif E))) (H := H) (locs := locs) (cells := F.2.1) (slots := F.2.2.1) ⟨C.1, C.2.1, C.2.2.2.1, C.2.2.2.2.1, hts⟩ h (va_cwS n hts hG rfl rfl rfl w6 hrm.1)
    ⟨HPre.blind, fun U hU hW => ⟨rfl, HPre.of C hP hS hU hW⟩⟩ rfl (by rw [List.length_map]; exact hn) hl.1 (h_stkS E hstk) (h_cats E st hcat m pc ls _) hd hrm.2
  refine h_back hrun hS (fun a ⟨q, hq, ha⟩ => by rw [ha]; exact C.2.2.2.2.2.2.2.2.2.2.2 q hq) (fun v I' H1 locs1 hQ hP1 hS1 => ?_)
  rw [h_toL]
  exact hQ p e s m args below meth c H1 locs1 ls C hP1 hS1 hl
theorem h_invN {As : List Value} (hd : decode me.2.1 pc = .ok (.invokestatic idx, 3)) (hl' : HLN me.1.cls idx me' n) (hrm : HRm F d me') (hstk : stk = As.reverse ++ st) (hn : As.length = n) (hcat : (st.map fun v => v.category).sum ≤ 8)
    (h : HCall E me' d As I (fun v I' => HGo E F me (pc + 3) L (v.toList ++ st) I')) : HGo E F me pc L stk I := by
  intro p e s m args below meth c H locs ls C hP hS hl
  obtain ⟨⟨hh, w1⟩, w2, w4, w5, w6⟩ := hl'
  have hts : ∀ w ∈ TB, w.before args s = true := C.2.2.2.2.2.1
  have hG : GoodIn TB (cdW me' :: TB) := tb_goodIn' (fun w hw => by
    rcases List.mem_cons.mp hw with rfl | hw
    · exact w5
    · exact hw)
  have hrun := va_runSN (e := e) (below := below) (meth := meth) (As := As.map (lif E)) (rest := st.map (lif E)) (g := F0 m pc ls (stk.map (lif E))) (H := H) (locs := locs) (cells := F.2.1) (slots := F.2.2.1) ⟨C.1, C.2.1, C.2.2.2.1, C.2.2.2.2.1, hts⟩ h ⟨va_cnB n hts hG rfl rfl rfl (C.2.2.2.2.2.2.2.2.1.2.1 _ w1) (hts _ w4) w6 hrm.1, hts _ w2, trivial⟩
    ⟨HPre.blind, fun U hU hW => ⟨rfl, HPre.of C hP hS hU hW⟩⟩ rfl (by rw [List.length_map]; exact hn) hl.1 (h_stkS E hstk) (h_cats E st hcat m pc ls _) hd hrm.2
  refine h_back hrun hS (fun a ⟨q, hq, ha⟩ => by rw [ha]; exact C.2.2.2.2.2.2.2.2.2.2.2 q hq) (fun v I' H1 locs1 hQ hP1 hS1 => ?_)
  rw [h_toL]
  exact hQ p e s m args below meth c H1 locs1 ls C hP1 hS1 hl
theorem h_copy {q0 q1 : Nat} {sp dp k : Int32} (hd : decode me.2.1 pc = .ok (.invokestatic idx, 3)) (w1 : Cond.methodLink me.1.cls idx arraycopyName ∈ TB) (w2 : Cond.native arraycopyName ∈ TB) (w3 : Cond.static arraycopyName ∈ TB) (w4 : Cond.initialized "java/lang/System" ∈ TB) (hq0 : q0 < NL) (hk0 : Zk q0 = 11) (hq1 : q1 < NL) (hk1 : Zk q1 = 11) (h1 : ¬ sp < 0) (h2 : ¬ dp < 0) (h3 : ¬ k < 0) (h4 : sp.toNatClampNeg + k.toNatClampNeg ≤ Zn q0) (h5 : dp.toNatClampNeg + k.toNatClampNeg ≤ Zn q1) (hfr : 1 ≤ F.1.frames ∧ (st.map fun v => v.category).sum + (nativeFrameWords "java/lang/System" "arraycopy" 5 + 11) ≤ F.1.locals)
    (h : HGo E F me (pc + 3) L st (setI I q1 (va_cpy (I q0) (I q1) sp.toNatClampNeg dp.toNatClampNeg k.toNatClampNeg))) : HGo E F me pc L (.int k :: .int dp :: .ref q1 :: .int sp :: .ref q0 :: st) I := by
  intro p e s m args below meth c H locs ls C hP hS hl
  have hts : ∀ w ∈ TB, w.before args s = true := C.2.2.2.2.2.1
  have hD : va_D (F.2.2.2.1 s) (wld E I) := wld_D I C.2.2.2.2.2.2.2.2.2.2.1 C.2.2.2.2.2.2.2.2.2.2.2
  have hcs : ((st.map (lif E)).map fun v => v.category).sum = (st.map fun v => v.category).sum := by
    congr 1
    rw [List.map_map]; apply List.map_congr_left; intro v _; exact lif_cat E v
  refine va_copyi C.1 C.2.1 (C.2.2.2.1.trans hl.1.symm) C.2.2.2.2.1 (hts _ w1) (hts _ w2) (hts _ w3) (hts _ w4) C.2.2.2.2.2.2.2.1 hP hD hS q0 q1 0 0 (ty := .int) (by rw [wld_get hq0, cel_11 hk0]) (by rw [wld_get hq1, cel_11 hk1]) rfl rfl rfl h1 h2 h3 h4 h5 (fun _ _ => rfl) hfr.1 (by rw [hcs]; exact hfr.2) hd (fun H1 locs1 hP1 hD1 hS1 => ?_)
  rw [← cel_11 (E := E) hk1, wld_set] at hP1
  exact h p e s m args below meth c H1 locs1 ls C hP1 hS1 hl
theorem h_min {x y : Int32} (hd : decode me.2.1 pc = .ok (.invokestatic idx, 3)) (w1 : Cond.methodLink me.1.cls idx Lib.Math.min.name ∈ TB) (w2 : Cond.static Lib.Math.min.name ∈ TB) (w3 : Cond.initialized "java/lang/Math" ∈ TB) (w4 : Cond.code Lib.Math.min.name Lib.Math.min.code 2 (some .int) ∈ TB) (hfr : (1 ≤ F.1.frames ∧ (st.map fun v => v.category).sum + 13 ≤ F.1.locals) ∧ F.2.1 ≤ F.1.cells ∧ F.2.2.1 ≤ F.1.slots)
    (h : HGo E F me (pc + 3) L (.int (if y < x then y else x) :: st) I) : HGo E F me pc L (.int y :: .int x :: st) I := by
  intro p e s m args below meth c H locs ls C hP hS hl
  have hts : ∀ w ∈ TB, w.before args s = true := C.2.2.2.2.2.1
  have hcs : ((st.map (lif E)).map fun v => v.category).sum = (st.map fun v => v.category).sum := by
    congr 1
    rw [List.map_map]; apply List.map_congr_left; intro v _; exact lif_cat E v
  exact va_mmin C.1 C.2.1 (C.2.2.2.1.trans hl.1.symm) C.2.2.2.2.1 (hts _ w1) (hts _ w2) (hts _ w3) (hts _ w4) hfr.1.1 (by rw [hcs]; exact hfr.1.2) hfr.2.1 hfr.2.2 hd (h p e s m args below meth c H locs ls C hP hS hl)
theorem h_max {x y : Int32} (hd : decode me.2.1 pc = .ok (.invokestatic idx, 3)) (w1 : Cond.methodLink me.1.cls idx Lib.Math.max.name ∈ TB) (w2 : Cond.static Lib.Math.max.name ∈ TB) (w3 : Cond.initialized "java/lang/Math" ∈ TB) (w4 : Cond.code Lib.Math.max.name Lib.Math.max.code 2 (some .int) ∈ TB) (hfr : (1 ≤ F.1.frames ∧ (st.map fun v => v.category).sum + 13 ≤ F.1.locals) ∧ F.2.1 ≤ F.1.cells ∧ F.2.2.1 ≤ F.1.slots)
    (h : HGo E F me (pc + 3) L (.int (if x < y then y else x) :: st) I) : HGo E F me pc L (.int y :: .int x :: st) I := by
  intro p e s m args below meth c H locs ls C hP hS hl
  have hts : ∀ w ∈ TB, w.before args s = true := C.2.2.2.2.2.1
  have hcs : ((st.map (lif E)).map fun v => v.category).sum = (st.map fun v => v.category).sum := by
    congr 1
    rw [List.map_map]; apply List.map_congr_left; intro v _; exact lif_cat E v
  exact va_mmax C.1 C.2.1 (C.2.2.2.1.trans hl.1.symm) C.2.2.2.2.1 (hts _ w1) (hts _ w2) (hts _ w3) (hts _ w4) hfr.1.1 (by rw [hcs]; exact hfr.1.2) hfr.2.1 hfr.2.2 hd (h p e s m args below meth c H locs ls C hP hS hl)
theorem h_frm {E : HEn} {d : Nat} {Q : Option Value → HIh → Prop} {w : Nat} (h : w ≤ 60) : (1 ≤ (mF E (d + 1) Q).1.frames ∧ w ≤ (mF E (d + 1) Q).1.locals) ∧ (mF E (d + 1) Q).2.1 ≤ (mF E (d + 1) Q).1.cells ∧ (mF E (d + 1) Q).2.2.1 ≤ (mF E (d + 1) Q).1.slots := by
  refine ⟨⟨Nat.succ_le_succ (Nat.zero_le _), ?_⟩, Nat.le_refl _, Nat.le_refl _⟩
  show w ≤ 60 * (d + 1)
  omega
theorem h_instY {q ci N : Nat} {T : u_T} {Cn nm : String} (hd : decode me.2.1 pc = .ok (.instanceof idx, 3)) (w1 : Cond.classLink me.1.cls idx nm ∈ TB) (w2 : (Cn, nm) ∈ nwC) (hq : q < NL) (hk : Zk q = ci) (hci : ci < 11) (hc : vwCl[ci]? = some (Cn, T, N)) (h : HGo E F me (pc + 3) L (.int 1 :: st) I) : HGo E F me pc L (.ref q :: st) I := by
  intro p e s m args below meth c H locs ls C hP hS hl
  exact va_instY C.1 C.2.1 C.2.2.2.2.1 (C.2.2.2.2.2.1 _ w1) (C.2.2.2.2.2.2.2.2.1.2.2.1 _ w2) (va_recv C.2.2.2.2.2.2.2.1 hP hc (wget hq hk hci)) hd (h p e s m args below meth c H locs ls C hP hS hl)
theorem h_instNo {q ci N : Nat} {T : u_T} {Cn nm : String} (hd : decode me.2.1 pc = .ok (.instanceof idx, 3)) (w1 : Cond.classLink me.1.cls idx nm ∈ TB) (w2 : (Cn, nm) ∈ nwN) (hq : q < NL) (hk : Zk q = ci) (hci : ci < 11) (hc : vwCl[ci]? = some (Cn, T, N)) (h : HGo E F me (pc + 3) L (.int 0 :: st) I) : HGo E F me pc L (.ref q :: st) I := by
  intro p e s m args below meth c H locs ls C hP hS hl
  exact va_instNo C.1 C.2.1 C.2.2.2.2.1 (C.2.2.2.2.2.1 _ w1) (C.2.2.2.2.2.2.2.2.1.2.2.2.1 _ w2) (va_recv C.2.2.2.2.2.2.2.1 hP hc (wget hq hk hci)) hd (h p e s m args below meth c H locs ls C hP hS hl)
theorem h_instS {q ci N : Nat} {T : u_T} {Cn : String} (hd : decode me.2.1 pc = .ok (.instanceof idx, 3)) (w1 : Cond.classLink me.1.cls idx Cn ∈ TB) (hq : q < NL) (hk : Zk q = ci) (hci : ci < 11) (hc : vwCl[ci]? = some (Cn, T, N)) (h : HGo E F me (pc + 3) L (.int 1 :: st) I) : HGo E F me pc L (.ref q :: st) I := by
  intro p e s m args below meth c H locs ls C hP hS hl
  exact va_instS C.1 C.2.1 C.2.2.2.2.1 (C.2.2.2.2.2.1 _ w1) (C.2.2.2.2.2.2.2.1.1 ci _ hc).2 (va_recv C.2.2.2.2.2.2.2.1 hP hc (wget hq hk hci)) hd (h p e s m args below meth c H locs ls C hP hS hl)
end HCL
