/-! the constructors: a world that grows; the i-th cell made lies at base + i -/
abbrev KEn : Type := Launch × va_G × (ClassId × ClassId × ClassId × ClassId) × Nat
abbrev KFx : Type := Room × (List Frame → Array Value → State → State → Prop)
def kws (b : Nat) (X : Nat → va_E) (n : Nat) : va_W := (List.range n).map (fun i => (b + i, X i))
def kset (X : Nat → va_E) (i : Nat) (e : va_E) : Nat → va_E := fun j => if j = i then e else X j
theorem kset_same (X : Nat → va_E) (i : Nat) (e : va_E) : kset X i e i = e := if_pos rfl
theorem kset_ne (X : Nat → va_E) {i j : Nat} (e : va_E) (h : j ≠ i) : kset X i e j = X j := if_neg h
theorem kws_len (b : Nat) (X : Nat → va_E) (n : Nat) : (kws b X n).length = n := by simp [kws]
theorem kws_get {b n i : Nat} {X : Nat → va_E} (h : i < n) : (kws b X n)[i]? = some (b + i, X i) := by
  unfold kws; rw [List.getElem?_map, List.getElem?_range h]; rfl
theorem kws_of {b n k : Nat} {X : Nat → va_E} {q : Nat × va_E} (h : (kws b X n)[k]? = some q) : k < n ∧ q = (b + k, X k) := by
  have hk : k < n := by rw [← kws_len b X n]; exact (List.getElem?_eq_some_iff.mp h).1
  rw [kws_get hk] at h
  exact ⟨hk, (Option.some.inj h).symm⟩
theorem kws_set {b n i : Nat} {X : Nat → va_E} (e : va_E) : (kws b X n).set i (b + i, e) = kws b (kset X i e) n := by
  apply List.ext_getElem?
  intro j
  rw [List.getElem?_set]
  by_cases hj : j < n
  · rw [kws_get hj, kws_get hj]
    by_cases he : i = j
    · subst he; simp [kws_len, hj, kset_same]
    · rw [if_neg he, kset_ne X e (fun h => he h.symm)]
  · have h1 : ∀ Y : Nat → va_E, (kws b Y n)[j]? = none := fun Y => List.getElem?_eq_none (by rw [kws_len]; omega)
    rw [h1, h1]
    by_cases he : i = j
    · subst he; simp [kws_len, hj]
    · rw [if_neg he]
abbrev kA (b : Nat) : Nat → Prop := fun q => b ≤ q
theorem kws_D (b : Nat) (X : Nat → va_E) (n : Nat) : va_D (kA b) (kws b X n) := by
  refine ⟨fun i j p q hi hj h => ?_, fun k q hk => ?_⟩
  · have a := (kws_of hi).2
    have c := (kws_of hj).2
    rw [a, c] at h
    exact Nat.add_left_cancel h
  · rw [(kws_of hk).2]; exact Nat.le_add_right _ _
theorem kP_at {D : va_G} {b n i : Nat} {X : Nat → va_E} {H : Heap} (hP : va_P D vwCl (kws b X n) H) (hi : i < n) : va_at D vwCl (b + i, X i) H := hP i _ (kws_get hi)
/-- one more cell, or some more: what was there stays -/
theorem kP_app {D : va_G} {b n : Nat} {X : Nat → va_E} {e : va_E} {H H1 : Heap} (hP : va_P D vwCl (kws b X n) H) (o1 : ∀ q, q < b + n → H1[q]? = H[q]?) (he : va_at D vwCl (b + n, e) H1) : va_P D vwCl (kws b (kset X n e) (n + 1)) H1 := by
  intro k q hk
  obtain ⟨h1, rfl⟩ := kws_of hk
  by_cases h2 : k = n
  · subst h2; rw [kset_same]; exact he
  · rw [kset_ne X e h2]
    exact (kP_at hP (by omega)).kept (o1 _ (by show b + k < b + n; omega))
theorem kS_up {b : Nat} {H0 H H1 : Heap} {locs : List Loc} (hS : va_S (kA b) H0 H locs) (hz : H.size ≤ H1.size) (o1 : ∀ q, q < H.size → H1[q]? = H[q]?) : va_S (kA b) H0 H1 locs :=
  ⟨Nat.le_trans hS.1 hz, fun q h1 h2 => (o1 q (Nat.lt_of_lt_of_le h1 hS.1)).trans (hS.2.1 q h1 h2), hS.2.2⟩
def tysK (E : KEn) : List (ClassId × FieldType) := [(E.2.2.1.1, .int), (E.2.2.1.2.1, .boolean), (E.2.2.1.2.2.1, .object "ThrownCoins$Lot"), (E.2.2.1.2.2.2, .array .int)]
/-- what the tables say of arrays of Lots and of arrays of arrays of ints -/
def kMM (U : State) : Prop := ∃ (c comp : ClassId) (kA : Class), U.vm.findClass "[[I" = some c ∧ U.vm.classes[c]? = some kA ∧ kA.kind = .array comp (.array .int) ∧ U.vm.findClass "[I" = some comp
def kAr (U : State) : Prop := va_AO "ThrownCoins$Lot" U ∧ kMM U
theorem kAr.moved {u U : State} (hvm : u.vm.Alike U.vm) (h : kAr u) : kAr U := by
  obtain ⟨h0, c, comp, kA, h1, h2, h3, h4⟩ := h
  obtain ⟨k', hk', he⟩ := hvm.2.2 _ _ h2
  exact ⟨h0.moved hvm, c, comp, k', by rw [hvm.findClass]; exact h1, hk', by rw [he]; exact h3, by rw [hvm.findClass]; exact h4⟩
def KCx (E : KEn) (me : HMe) (p : Program) (s : State) (m : MethodId) (args : Array Value) (meth : Method) (c : Code) : Prop :=
  p.tables.exec = Jvm.exec ∧ c.code = me.2.1 ∧ meth.sig.returnType = me.2.2.2 ∧ c.maxLocals = me.2.2.1 ∧ s.vm.findClass me.1.cls = some m.cls ∧ (∀ w ∈ TB, w.before args s = true) ∧ meth.locks = false ∧ va_K E.2.1 vwCl (tysK E) s ∧ nestK s ∧ (me.1.name = "<init>" → meth.name = "<init>") ∧ E.2.2.2 ≤ s.heap.size ∧ kAr s
/-- from this place of a method, with these locals, this stack, these cells made and this much room used, the machine comes to the method's end -/
def KGo (E : KEn) (F : KFx) (me : HMe) (pc : Nat) (L : List (Nat × Value)) (st : List Value) (n : Nat) (X : Nat → va_E) (k z : Nat) : Prop :=
  ∀ (p : Program) (e : Env) (s : State) (m : MethodId) (args : Array Value) (below : List Frame) (meth : Method) (c : Code) (H : Heap) (locs : List Loc) (ls : Array Slot), KCx E me p s m args meth c → va_P E.2.1 vwCl (kws E.2.2.2 X n) H → s.heap.size + k = E.2.2.2 + n → va_S (kA E.2.2.2) s.heap H locs → lv_has ls me.2.2.1 L → W p E.1 e F.1 s m args below meth c H locs k z (F.2 below args s) (F0 m pc ls st)
/-- how far the heap has grown: the frame's own count says it -/
theorem kH_wrap {p : Program} {l : Launch} {e : Env} {R : Room} {s : State} {m : MethodId} {args : Array Value} {below : List Frame} {meth : Method} {c : Code} {H : Heap} {locs : List Loc} {D : va_G} {b n k z : Nat} {X : Nat → va_E} {Q : State → Prop} {g : JFrame} (hb : b ≤ s.heap.size) (hP : va_P D vwCl (kws b X n) H) (hz : s.heap.size + k = b + n) (hS : va_S (kA b) s.heap H locs) (h : H.size = b + n → W p l e R s m args below meth c H locs k z Q g) : W p l e R s m args below meth c H locs k z Q g := by
  intro T hT S
  refine h ?_ T hT S
  have h1 := S.heapSize
  rw [hT] at h1
  have h2 := hS.1
  rcases Nat.eq_zero_or_pos n with h0 | h0
  · omega
  · have h3 := (kP_at hP (i := n - 1) (by omega)).lt
    have h4 : b + (n - 1) < H.size := h3
    omega
section KST
variable {E : KEn} {F : KFx} {me : HMe} {pc idx : Nat} {L : List (Nat × Value)} {st : List Value} {n : Nat} {X : Nat → va_E} {k z : Nat}
theorem k_iconst {x : Int} {v : Int32} (hd : decode me.2.1 pc = .ok (.iconst x, 1)) (hv : Int32.ofInt x = v) (h : KGo E F me (pc + 1) L (.int v :: st) n X k z) : KGo E F me pc L st n X k z := by
  intro p e s m args below meth c H locs ls C hP hz hS hl
  exact lv_iconst C.1 C.2.1 hd hv (h p e s m args below meth c H locs ls C hP hz hS hl)
theorem k_bipush {x : Int} {v : Int32} (hd : decode me.2.1 pc = .ok (.bipush x, 2)) (hv : (Int8.ofInt x).toInt32 = v) (h : KGo E F me (pc + 2) L (.int v :: st) n X k z) : KGo E F me pc L st n X k z := by
  intro p e s m args below meth c H locs ls C hP hz hS hl
  exact lv_bipush C.1 C.2.1 hd hv (h p e s m args below meth c H locs ls C hP hz hS hl)
theorem k_sipush {x : Int} {v : Int32} (hd : decode me.2.1 pc = .ok (.sipush x, 3)) (hv : (Int16.ofInt x).toInt32 = v) (h : KGo E F me (pc + 3) L (.int v :: st) n X k z) : KGo E F me pc L st n X k z := by
  intro p e s m args below meth c H locs ls C hP hz hS hl
  exact lv_sipush C.1 C.2.1 hd hv (h p e s m args below meth c H locs ls C hP hz hS hl)
theorem k_aload_n {j : Fin 4} {i x : Nat} (hd : decode me.2.1 pc = .ok (.aload_n j, 1)) (hi : (j : Nat) = i) (o : Nat) (hn : L[o]? = some (i, .ref x)) (h : KGo E F me (pc + 1) L (.ref x :: st) n X k z) : KGo E F me pc L st n X k z := by
  intro p e s m args below meth c H locs ls C hP hz hS hl
  exact lv_aload_n C.1 C.2.1 hd hi (lv_at hl o hn) (h p e s m args below meth c H locs ls C hP hz hS hl)
theorem k_iload_n {j : Fin 4} {i : Nat} {x : Int32} (hd : decode me.2.1 pc = .ok (.iload_n j, 1)) (hi : (j : Nat) = i) (o : Nat) (hn : L[o]? = some (i, .int x)) (h : KGo E F me (pc + 1) L (.int x :: st) n X k z) : KGo E F me pc L st n X k z := by
  intro p e s m args below meth c H locs ls C hP hz hS hl
  exact lv_iload_n C.1 C.2.1 hd hi (lv_at hl o hn) (h p e s m args below meth c H locs ls C hP hz hS hl)
theorem k_istore_n {j : Fin 4} {i : Nat} {x : Int32} {L' : List (Nat × Value)} (hd : decode me.2.1 pc = .ok (.istore_n j, 1)) (hi : (j : Nat) = i) (hn : i < me.2.2.1) (hL : stoL i (.int x) L = L') (h : KGo E F me (pc + 1) L' st n X k z) : KGo E F me pc L (.int x :: st) n X k z := by
  intro p e s m args below meth c H locs ls C hP hz hS hl
  exact lv_istore_n C.1 C.2.1 hd hi hl hn hL (fun ls hl => h p e s m args below meth c H locs ls C hP hz hS hl)
theorem k_astore_n {j : Fin 4} {i x : Nat} {L' : List (Nat × Value)} (hd : decode me.2.1 pc = .ok (.astore_n j, 1)) (hi : (j : Nat) = i) (hn : i < me.2.2.1) (hL : stoL i (.ref x) L = L') (h : KGo E F me (pc + 1) L' st n X k z) : KGo E F me pc L (.ref x :: st) n X k z := by
  intro p e s m args below meth c H locs ls C hP hz hS hl
  exact lv_astore_n C.1 C.2.1 hd hi hl hn hL (fun ls hl => h p e s m args below meth c H locs ls C hP hz hS hl)
theorem k_iinc {i : Nat} {x : Int} {y v : Int32} {L' : List (Nat × Value)} (hd : decode me.2.1 pc = .ok (.iinc i x, 3)) (o : Nat) (hk : L[o]? = some (i, .int y)) (hv : y + Int32.ofInt x = v) (hn : i < me.2.2.1) (hL : stoL i (.int v) L = L') (h : KGo E F me (pc + 3) L' st n X k z) : KGo E F me pc L st n X k z := by
  intro p e s m args below meth c H locs ls C hP hz hS hl
  exact lv_iinc C.1 C.2.1 hd hl (k := o) hk hv hn hL (fun ls hl => h p e s m args below meth c H locs ls C hP hz hS hl)
theorem k_dup {v : Value} (hd : decode me.2.1 pc = .ok (.dup, 1)) (hv : v.category = 1) (h : KGo E F me (pc + 1) L (v :: v :: st) n X k z) : KGo E F me pc L (v :: st) n X k z := by
  intro p e s m args below meth c H locs ls C hP hz hS hl
  exact lv_dup C.1 C.2.1 hd hv (h p e s m args below meth c H locs ls C hP hz hS hl)
theorem k_goto {off : Int} {tgt : Nat} (hd : decode me.2.1 pc = .ok (.goto off, 3)) (ht : (pc : Int) + off = (tgt : Int)) (h : KGo E F me tgt L st n X k z) : KGo E F me pc L st n X k z := by
  intro p e s m args below meth c H locs ls C hP hz hS hl
  exact lv_goto C.1 C.2.1 hd ht (h p e s m args below meth c H locs ls C hP hz hS hl)
theorem k_icmp_ge {x y : Int32} {off : Int} {tgt : Nat} (hd : decode me.2.1 pc = .ok (.if_icmp .ge off, 3)) (ht : (pc : Int) + off = (tgt : Int)) (kt : y ≤ x → KGo E F me tgt L st n X k z) (kf : ¬ y ≤ x → KGo E F me (pc + 3) L st n X k z) : KGo E F me pc L (.int y :: .int x :: st) n X k z := by
  intro p e s m args below meth c H locs ls C hP hz hS hl
  exact lv_icmp_ge C.1 C.2.1 hd ht (fun q => kt q p e s m args below meth c H locs ls C hP hz hS hl) (fun q => kf q p e s m args below meth c H locs ls C hP hz hS hl)
/-- a new array of ints, and of booleans: the tables have one class of that name -/
theorem k_newi {x : Int32} {N : Nat} (hd : decode me.2.1 pc = .ok (.newarray .int, 2)) (hx : ¬ x < 0) (hN : x.toNatClampNeg = N) (hb : N * 4 ≤ 536870912) (hk : k + 1 ≤ F.1.cells) (hz' : z + N ≤ F.1.slots) (h : KGo E F me (pc + 2) L (.ref (E.2.2.2 + n) :: st) (n + 1) (kset X n (.inl (E.2.2.1.1, N, .inl (fun _ => 0)))) (k + 1) (z + N)) : KGo E F me pc L (.int x :: st) n X k z := by
  intro p e s m args below meth c H locs ls C hP hz hS hl
  refine kH_wrap C.2.2.2.2.2.2.2.2.2.2.1 hP hz hS (fun hH => ?_)
  have hbb : N * componentBytes (newarray.typeOf .int) ≤ 536870912 := hb
  have hw : (Cond.arrayClass (newarray.typeOf .int)).before args s = true := C.2.2.2.2.2.1 (Cond.arrayClass .int) wt_84
  refine va_newaK (atype := .int) C.1 C.2.1 hw rfl hd rfl hx hN hbb hk hz' hH (fun H1 cA e1 z1 o1 hAr hNm => ?_)
  have hg : s.vm.findClass ("[" ++ (newarray.typeOf .int).toString) = some E.2.2.1.1 := (C.2.2.2.2.2.2.2.1.2 0 _ rfl).2
  have hc : cA = E.2.2.1.1 := Option.some.inj (hNm.symm.trans hg)
  rw [hc] at e1
  have e1 : va_at E.2.1 vwCl (E.2.2.2 + n, .inl (E.2.2.1.1, N, .inl (fun _ => 0))) H1 := e1
  exact h p e s m args below meth c H1 locs ls C (kP_app hP o1 e1) (by omega) (kS_up hS (by omega) (fun q hq => o1 q (by omega))) hl
theorem k_newb {x : Int32} {N : Nat} (hd : decode me.2.1 pc = .ok (.newarray .boolean, 2)) (hx : ¬ x < 0) (hN : x.toNatClampNeg = N) (hb : N * 1 ≤ 536870912) (hk : k + 1 ≤ F.1.cells) (hz' : z + N ≤ F.1.slots) (h : KGo E F me (pc + 2) L (.ref (E.2.2.2 + n) :: st) (n + 1) (kset X n (.inl (E.2.2.1.2.1, N, .inl (fun _ => 0)))) (k + 1) (z + N)) : KGo E F me pc L (.int x :: st) n X k z := by
  intro p e s m args below meth c H locs ls C hP hz hS hl
  refine kH_wrap C.2.2.2.2.2.2.2.2.2.2.1 hP hz hS (fun hH => ?_)
  have hbb : N * componentBytes (newarray.typeOf .boolean) ≤ 536870912 := hb
  have hw : (Cond.arrayClass (newarray.typeOf .boolean)).before args s = true := C.2.2.2.2.2.1 (Cond.arrayClass .boolean) wt_898
  refine va_newaK (atype := .boolean) C.1 C.2.1 hw rfl hd rfl hx hN hbb hk hz' hH (fun H1 cA e1 z1 o1 hAr hNm => ?_)
  have hg : s.vm.findClass ("[" ++ (newarray.typeOf .boolean).toString) = some E.2.2.1.2.1 := (C.2.2.2.2.2.2.2.1.2 1 _ rfl).2
  have hc : cA = E.2.2.1.2.1 := Option.some.inj (hNm.symm.trans hg)
  rw [hc] at e1
  have e1 : va_at E.2.1 vwCl (E.2.2.2 + n, .inl (E.2.2.1.2.1, N, .inl (fun _ => 0))) H1 := e1
  exact h p e s m args below meth c H1 locs ls C (kP_app hP o1 e1) (by omega) (kS_up hS (by omega) (fun q hq => o1 q (by omega))) hl
/-- a new array of Lots -/
theorem k_newl {x : Int32} {N : Nat} (hd : decode me.2.1 pc = .ok (.anewarray idx, 3)) (hw : Cond.classLink me.1.cls idx "ThrownCoins$Lot" ∈ TB) (hx : ¬ x < 0) (hN : x.toNatClampNeg = N) (hb : N * 4 ≤ 536870912) (hk : k + 1 ≤ F.1.cells) (hz' : z + N ≤ F.1.slots) (h : KGo E F me (pc + 3) L (.ref (E.2.2.2 + n) :: st) (n + 1) (kset X n (.inl (E.2.2.1.2.2.1, N, .inr (.inr (.inr (.inr (fun _ => none))))))) (k + 1) (z + N)) : KGo E F me pc L (.int x :: st) n X k z := by
  intro p e s m args below meth c H locs ls C hP hz hS hl
  subst hN
  refine kH_wrap C.2.2.2.2.2.2.2.2.2.2.1 hP hz hS (fun hH => ?_)
  refine W.anew C.1 C.2.1 C.2.2.2.2.1 (C.2.2.2.2.2.1 _ hw) (va_AO.use C.2.2.2.2.2.2.2.2.2.2.2.1) rfl hd rfl hx hb hk hz' (fun cA kA comp f1 f2 f3 f4 => ?_)
  obtain ⟨-, -, -, -, -, g1⟩ := (C.2.2.2.2.2.2.2.1.2 2 _ rfl).2
  have hc : cA = E.2.2.1.2.2.1 := Option.some.inj (f1.symm.trans g1)
  rw [hc]
  generalize hH1 : H.push ({ cls := E.2.2.1.2.2.1, slots := Array.replicate x.toNatClampNeg .null, vm := .none } : Cell) = H1
  have z1 : H1.size = H.size + 1 := by rw [← hH1, Array.size_push]
  have e1 : H1[E.2.2.2 + n]? = some (arrV E.2.2.1.2.2.1 x.toNatClampNeg (fun _ => .null)) := by rw [← hH1, ← hH, Array.getElem?_push_size, ← arrV_new]
  have o1 : ∀ q : Nat, q < H.size → H1[q]? = H[q]? := fun q hq => by rw [← hH1, Array.getElem?_push, if_neg (Nat.ne_of_lt hq)]
  rw [hH]
  exact h p e s m args below meth c H1 locs ls C (kP_app hP (fun q hq => o1 q (by omega)) e1) (by omega) (kS_up hS (by omega) o1) hl
theorem k_new {ci N : Nat} {Cn : String} {T : u_T} {fs : List Value} (ty : Nat → FieldType) (hd : decode me.2.1 pc = .ok (.new idx, 3)) (hw : Cond.classLink me.1.cls idx Cn ∈ TB) (w2 : Cond.instantiable Cn N ∈ TB) (w3 : Cond.initialized Cn ∈ TB) (hc : vwCl[ci]? = some (Cn, T, N)) (hin : ∀ w ∈ u_ws Cn T N, w ∈ TB) (hty : ∀ k, k < N → parseFieldDescriptor (T k).2.2.1 = some (ty k)) (hfs : ∀ j, j < N → defaultValue (ty j) = vp_V fs j) (hk : k + 1 ≤ F.1.cells) (hz' : z + N ≤ F.1.slots) (h : KGo E F me (pc + 3) L (.ref (E.2.2.2 + n) :: st) (n + 1) (kset X n (.inr (ci, fs))) (k + 1) (z + N)) : KGo E F me pc L st n X k z := by
  intro p e s m args below meth c H locs ls C hP hz hS hl
  have hts : ∀ w ∈ TB, w.before args s = true := C.2.2.2.2.2.1
  have hKn := C.2.2.2.2.2.2.2.1.1 ci _ hc
  refine kH_wrap C.2.2.2.2.2.2.2.2.2.2.1 hP hz hS (fun hH => ?_)
  refine W.newcK C.1 C.2.1 C.2.2.2.2.1 (hts _ hw) (hts _ w2) (hts _ w3) rfl hd hk hz' hKn.2.1 hH (fun H1 kC hkC e1 z1 o1 => ?_)
  exact h p e s m args below meth c H1 locs ls C (kP_app hP o1 ⟨_, hc, (u_born ty hts hin hKn hkC e1 hty).to hfs⟩) (by omega) (kS_up hS (by omega) (fun q hq => o1 q (by omega))) hl
theorem k_get {ci N j i : Nat} {Cn ref : String} {T : u_T} {fs : List Value} {v : Value} (hd : decode me.2.1 pc = .ok (.getfield idx, 3)) (hw : Cond.fieldLink me.1.cls idx ref (T j).2.1 (T j).2.2.1 ∈ TB) (hc : vwCl[ci]? = some (Cn, T, N)) (hin : ∀ w ∈ u_ws Cn T N, w ∈ TB) (hj : j < N) (hr : ref = (T j).1) (hi : i < n) (hX : X i = .inr (ci, fs)) (hv : fs[j]? = some v) (h : KGo E F me (pc + 3) L (v :: st) n X k z) : KGo E F me pc L (.ref (E.2.2.2 + i) :: st) n X k z := by
  intro p e s m args below meth c H locs ls C hP hz hS hl
  have hts : ∀ w ∈ TB, w.before args s = true := C.2.2.2.2.2.1
  exact va_get C.1 C.2.1 hts hin C.2.2.2.2.1 C.2.2.2.2.2.2.2.1 hP i (by rw [kws_get hi, hX]) hc j hj (hts _ hw) (fun x hx => by rw [hr]; exact hx) hv hd (h p e s m args below meth c H locs ls C hP hz hS hl)
/-- a field of the own class, final (in a constructor) and not -/
theorem k_put {ci N j i : Nat} {Cn ref : String} {T : u_T} {fs fs' : List Value} {v : Value} {ty : FieldType} (ty0 : Nat → FieldType) (hd : decode me.2.1 pc = .ok (.putfield idx, 3)) (hw : Cond.fieldLink me.1.cls idx ref (T j).2.1 (T j).2.2.1 ∈ TB) (hc : vwCl[ci]? = some (Cn, T, N)) (hin : ∀ w ∈ u_ws Cn T N, w ∈ TB) (hty : ∀ k, k < N → parseFieldDescriptor (T k).2.2.1 = some (ty0 k)) (hnm : ∀ a, a < N → ∀ b, b < N → a ≠ b → (T a).2.1 ≠ (T b).2.1) (hj : j < N) (hr : ref = (T j).1) (hi : i < n) (hX : X i = .inr (ci, fs)) (hfin : (T j).2.2.2 = false ∨ ((T j).2.2.2 = true ∧ me.1.name = "<init>" ∧ (T j).1 = me.1.cls)) (hdsc : parseFieldDescriptor (T j).2.2.1 = some ty) (hnv : narrow ty v = v) (hft : fits ty v = true) (hlen : j < fs.length) (hfs : fs.set j v = fs') (h : KGo E F me (pc + 3) L st n (kset X i (.inr (ci, fs'))) k z) : KGo E F me pc L (v :: .ref (E.2.2.2 + i) :: st) n X k z := by
  intro p e s m args below meth c H locs ls C hP hz hS hl
  subst hfs
  have hts : ∀ w ∈ TB, w.before args s = true := C.2.2.2.2.2.1
  have hD := kws_D E.2.2.2 X n
  have he : (kws E.2.2.2 X n)[i]? = some (E.2.2.2 + i, .inr (ci, fs)) := by rw [kws_get hi, hX]
  rcases hfin with hfin | ⟨hfin, hnm2, hdecl⟩
  · refine va_put C.1 C.2.1 hts hin ty0 hty hnm C.2.2.2.2.1 C.2.2.2.2.2.2.2.1 hP hD hS i he hc j hj (hts _ hw) (fun y hy => by rw [hr]; exact hy) hfin hdsc hnv hft hlen hd (fun H1 locs1 hP1 hD1 hS1 => ?_)
    rw [kws_set] at hP1
    exact h p e s m args below meth c H1 locs1 ls C hP1 hz hS1 hl
  · refine va_putF C.1 C.2.1 hts hin ty0 hty hnm C.2.2.2.2.1 C.2.2.2.2.2.2.2.1 hP hD hS i he hc j hj (hts _ hw) (fun y hy => by rw [hr]; exact hy) hfin (C.2.2.2.2.2.2.2.2.2.1 hnm2) hdecl hdsc hnv hft hlen hd (fun H1 locs1 hP1 hD1 hS1 => ?_)
    rw [kws_set] at hP1
    exact h p e s m args below meth c H1 locs1 ls C hP1 hz hS1 hl
theorem k_iast {i N jn : Nat} {f : Nat → Int32} {x j : Int32} (hd : decode me.2.1 pc = .ok (.iastore, 1)) (hi : i < n) (hX : X i = .inl (E.2.2.1.1, N, .inl f)) (hin : vp_in j N) (hj' : j.toNatClampNeg = jn) (h : KGo E F me (pc + 1) L st n (kset X i (.inl (E.2.2.1.1, N, .inl (upd f jn x)))) k z) : KGo E F me pc L (.int x :: .int j :: .ref (E.2.2.2 + i) :: st) n X k z := by
  intro p e s m args below meth c H locs ls C hP hz hS hl
  subst hj'
  refine va_iast C.1 C.2.1 C.2.2.2.2.2.2.2.1 hP (kws_D E.2.2.2 X n) hS i 0 (by rw [kws_get hi, hX]) rfl hin hd (fun H1 locs1 hP1 hD1 hS1 => ?_)
  rw [kws_set] at hP1
  exact h p e s m args below meth c H1 locs1 ls C hP1 hz hS1 hl
theorem k_last {i N j0 jn : Nat} {f : Nat → Option Nat} {vs : List Value} {j : Int32} (hd : decode me.2.1 pc = .ok (.aastore, 1)) (hi : i < n) (hX : X i = .inl (E.2.2.1.2.2.1, N, .inr (.inr (.inr (.inr f))))) (hj : j0 < n) (hX2 : X j0 = .inr (3, vs)) (hin : vp_in j N) (hj' : j.toNatClampNeg = jn) (h : KGo E F me (pc + 1) L st n (kset X i (.inl (E.2.2.1.2.2.1, N, .inr (.inr (.inr (.inr (va_up f jn (some (E.2.2.2 + j0)))))))) ) k z) : KGo E F me pc L (.ref (E.2.2.2 + j0) :: .int j :: .ref (E.2.2.2 + i) :: st) n X k z := by
  intro p e s m args below meth c H locs ls C hP hz hS hl
  subst hj'
  refine va_astq (r := (RX4, TX4, 2)) (ci := 3) (vs := vs) C.1 C.2.1 C.2.2.2.2.2.2.2.1 hP (kws_D E.2.2.2 X n) hS i 2 j0 (by rw [kws_get hi, hX]) rfl (by rw [kws_get hj, hX2]) rfl hin hd (fun H1 locs1 hP1 hD1 hS1 => ?_)
  rw [kws_set] at hP1
  exact h p e s m args below meth c H1 locs1 ls C hP1 hz hS1 hl
theorem k_obj {a : Nat} (hd : decode me.2.1 pc = .ok (.invokespecial idx, 3)) (hw : Cond.methodLink me.1.cls idx Lib.objectInit ∈ TB) (hfr : 1 ≤ F.1.frames) (hlo : (st.map fun v => v.category).sum + 12 ≤ F.1.locals) (h : KGo E F me (pc + 3) L st n X k z) : KGo E F me pc L (.ref a :: st) n X k z := by
  intro p e s m args below meth c H locs ls C hP hz hS hl
  have hts : ∀ w ∈ TB, w.before args s = true := C.2.2.2.2.2.1
  refine W.objInit C.1 C.2.1 C.2.2.2.2.1 (hts _ hw) (hts _ wt_26) (hts _ wt_27) rfl (hl.1.trans C.2.2.2.1.symm) rfl hd hfr ?_ ?_
  · show 2 * (F0 m pc ls _).monitorRoom + _ + 12 ≤ _
    have e1 : (F0 m pc ls (.ref a :: st)).monitorRoom = 0 := rfl
    rw [e1]; omega
  · exact h p e s m args below meth c H locs ls C hP hz hS hl
end KST
def KPre (E : KEn) (n : Nat) (X : Nat → va_E) (U : State) : Prop := va_P E.2.1 vwCl (kws E.2.2.2 X n) U.heap ∧ U.heap.size = E.2.2.2 + n ∧ va_K E.2.1 vwCl (tysK E) U ∧ nestK U ∧ kAr U
def KQc (E : KEn) (n : Nat) (Q : (Nat → va_E) → Prop) : Array Value → State → Outcome → State → Prop := fun _ st oc t => (∃ X' : Nat → va_E, oc = .returned none ∧ Q X' ∧ va_P E.2.1 vwCl (kws E.2.2.2 X' n) t.heap) ∧ va_F (kA E.2.2.2) st t
def krm (d mc ms : Nat) : Room := { frames := d, cells := mc, slots := ms, locals := 60 * d }
def KCall (E : KEn) (me : HMe) (d : Nat) (args : List Value) (n : Nat) (X : Nat → va_E) (mc ms : Nat) (Q : (Nat → va_E) → Prop) : Prop :=
  Met E.1 me.1 (cdW me :: TB) (krm d mc ms) (va_Pc args (KPre E n X)) (KQc E (n + mc) Q) mc ms (kA E.2.2.2)
def kF (E : KEn) (d n mc ms : Nat) (Q : (Nat → va_E) → Prop) : KFx := (krm d mc ms, fun below a s => MQ below (KQc E (n + mc) Q) a s mc ms (kA E.2.2.2))
theorem k_met {E : KEn} {me : HMe} {d : Nat} {args : List Value} {n mc ms : Nat} {X : Nat → va_E} {Q : (Nat → va_E) → Prop} {L : List (Nat × Value)} (hy : plainName me.1.cls = true) (hnm : me.1.name = "<init>") (hL : lv_args 0 args = L) (hsz : (lg_sl args).length ≤ me.2.2.1) (h : KGo E (kF E d n mc ms Q) me 0 L [] n X 0 0) : KCall E me d args n X mc ms Q := by
  subst hL
  refine Met.ofW (cc := me.2.1) (maxL := me.2.2.1) (ret := me.2.2.2) hy rfl ?_
  intro p e s m ar below meth c s₁ B hml hv
  obtain ⟨rfl, hP, hz, hK, hN, hO⟩ := hv
  have hts := atoms_spec (ws := Cond.code me.1 me.2.1 me.2.2.1 me.2.2.2 :: TB) B.pre
  have hl := lv_entry args (n := me.2.2.1) hsz
  rw [lg_entry_eq]
  have hC : KCx E me p s m args.toArray meth c := ⟨B.exec, B.bytes, B.returns, hml, findClass_of_methodNamed B.named, fun w hw => hts w (List.mem_cons_of_mem _ hw), B.notSynchronized, hK, hN, fun e => by rw [← e]; exact (name_of_methodNamed B.named B.method).1, by rw [hz]; exact Nat.le_add_right _ _, hO⟩
  exact h p e s m _ below meth c s.heap [] _ hC hP hz va_S.rf hl
theorem KPre.blind {E : KEn} {n : Nat} {X : Nat → va_E} {av : List Value} : FrameBlind (va_Pc av (KPre E n X)) := fun a U g mk q => by
  obtain ⟨h1, qP, qz, qK, qN, qO⟩ := q
  exact ⟨h1, qP, qz, va_K.moved (u := U) (U := U.calling g mk a) (Vm.Alike.refl U.vm) qK, nestK.same (s := U) (U := U.calling g mk a) rfl qN, kAr.moved (u := U) (U := U.calling g mk a) (Vm.Alike.refl U.vm) qO⟩
theorem KPre.of {E : KEn} {me : HMe} {p : Program} {s : State} {m : MethodId} {args : Array Value} {meth : Method} {c : Code} {n : Nat} {X : Nat → va_E} {H : Heap} (C : KCx E me p s m args meth c) (hP : va_P E.2.1 vwCl (kws E.2.2.2 X n) H) (hH : H.size = E.2.2.2 + n) {U : State} (hU : U.heap = H) (hW : s.WarmedH U.vm) : KPre E n X U := by
  obtain ⟨-, -, -, -, -, -, -, hK, hN, -, -, hO⟩ := C
  exact ⟨by rw [hU]; exact hP, by rw [hU]; exact hH, va_K.moved hW.alike hK, nestK.warm hW hN, hO.moved hW.alike⟩
section KBK
variable {p : Program} {l : Launch} {e : Env} {R : Room} {s : State} {m : MethodId} {args : Array Value} {below : List Frame} {meth : Method} {c : Code} {H : Heap} {locs : List Loc} {cells slots : Nat} {Q : State → Prop}
theorem k_back {E : KEn} {n mc ms : Nat} {Q' : (Nat → va_E) → Prop} {a : Array Value} {H0 : Heap} {pc : Nat} {ls : Array Slot} {st0 rest : List Value} (hr : va_Run p l e R s m args below meth c H locs cells slots mc ms (F0 m pc ls st0) rest (KQc E n Q' a) (kA E.2.2.2)) (hS : va_S (kA E.2.2.2) H0 H locs)
    (kk : ∀ (X' : Nat → va_E) (H1 : Heap) (locs1 : List Loc), Q' X' → va_P E.2.1 vwCl (kws E.2.2.2 X' n) H1 → va_S (kA E.2.2.2) H0 H1 locs1 → W p l e R s m args below meth c H1 locs1 (cells + mc) (slots + ms) Q (F0 m (pc + 3) ls rest)) : W p l e R s m args below meth c H locs cells slots Q (F0 m pc ls st0) := by
  intro T hT X
  obtain ⟨v, st₀, t, T', Ll, h0, X', hL, e1, e2, ⟨⟨Y, hv, hq, hp⟩, hz, hk⟩, st⟩ := hr T hT X
  cases hv
  rw [h0] at hz hk
  obtain ⟨t2, a1, b1⟩ := kk Y T'.heap (locs ++ Ll) hq (by rw [e1]; exact hp)
    ⟨Nat.le_trans hS.1 (by rw [e1]; exact hz), fun q h1 h2 => by rw [e1, hk q (Nat.lt_of_lt_of_le h1 hS.1) h2]; exact hS.2.1 q h1 h2, fun q hq => by
      rcases List.mem_append.mp hq with h | h
      · exact hS.2.2 q h
      · exact hL q h⟩ T' rfl X'
  exact ⟨t2, st t2 a1, b1⟩
end KBK
section KCL
variable {E : KEn} {F : KFx} {me me' : HMe} {pc idx d : Nat} {L : List (Nat × Value)} {st stk As : List Value} {n n1 na r : Nat} {X : Nat → va_E} {k z k1 z1 mc ms : Nat}
/-- a constructor's call: by a link of the own class, and by a nest mate's -/
theorem k_call (hd : decode me.2.1 pc = .ok (.invokespecial idx, 3)) (w1 : Cond.methodLink me.1.cls idx me'.1 ∈ TB) (w2 : Cond.instanceMethod me'.1 ∈ TB) (w3 : Cond.initialized me'.1.cls ∈ TB) (w4 : cdW me' ∈ TB) (w5 : okN me'.1 na) (w6 : me'.1.name = "<init>") (w7 : me'.2.2.2 = none) (hrm : d + 1 ≤ F.1.frames ∧ 8 + (me'.2.2.1 + 11) + 60 * d ≤ F.1.locals) (hfit : k + mc ≤ F.1.cells ∧ z + ms ≤ F.1.slots) (hstk : stk = As.reverse ++ .ref r :: st) (hn : As.length = na) (hcat : (st.map fun v => v.category).sum ≤ 8) (e1 : n + mc = n1) (e2 : k + mc = k1) (e3 : z + ms = z1)
    (h : KCall E me' d (.ref r :: As) n X mc ms (fun X' => KGo E F me (pc + 3) L st n1 X' k1 z1)) : KGo E F me pc L stk n X k z := by
  intro p e s m args below meth c H locs ls C hP hz hS hl
  subst e1 e2 e3 hstk
  refine kH_wrap C.2.2.2.2.2.2.2.2.2.2.1 hP hz hS (fun hH => ?_)
  have hts : ∀ w ∈ TB, w.before args s = true := C.2.2.2.2.2.1
  have hG : GoodIn TB (cdW me' :: TB) := tb_goodIn' (fun w hw => by
    rcases List.mem_cons.mp hw with rfl | hw
    · exact w4
    · exact hw)
  have ew : cdW me' :: TB = Cond.code me'.1 me'.2.1 me'.2.2.1 none :: TB := by rw [← w7]
  have hrun := va_runI (e := e) (below := below) (meth := meth) (As := As) (rest := st) (g := F0 m pc ls (As.reverse ++ .ref r :: st)) (H := H) (locs := locs) (cells := k) (slots := z) ⟨C.1, C.2.1, C.2.2.2.1, C.2.2.2.2.1, hts⟩ h (cwI (bytes := me'.2.1) (maxL := me'.2.2.1) na hts hG ew rfl rfl (hts _ w3) (hts _ w1) (hts _ w2) w6 w5 hrm)
    ⟨KPre.blind, fun U hU hW => ⟨rfl, KPre.of C hP hH hU hW⟩⟩ rfl hn hl.1 rfl (lv_room hcat) hd hfit
  exact k_back hrun hS (fun X' H1 locs1 hQ hP1 hS1 => hQ p e s m args below meth c H1 locs1 ls C hP1 (by omega) hS1 hl)
theorem k_callN (hd : decode me.2.1 pc = .ok (.invokespecial idx, 3)) (w1 : ∃ hh, (me.1.cls, idx, me'.1, hh) ∈ nwM) (w2 : Cond.instanceMethod me'.1 ∈ TB) (w3 : Cond.initialized me'.1.cls ∈ TB) (w4 : cdW me' ∈ TB) (w5 : okN me'.1 na) (w6 : me'.1.name = "<init>") (w7 : me'.2.2.2 = none) (hrm : d + 1 ≤ F.1.frames ∧ 8 + (me'.2.2.1 + 11) + 60 * d ≤ F.1.locals) (hfit : k + mc ≤ F.1.cells ∧ z + ms ≤ F.1.slots) (hstk : stk = As.reverse ++ .ref r :: st) (hn : As.length = na) (hcat : (st.map fun v => v.category).sum ≤ 8) (e1 : n + mc = n1) (e2 : k + mc = k1) (e3 : z + ms = z1)
    (h : KCall E me' d (.ref r :: As) n X mc ms (fun X' => KGo E F me (pc + 3) L st n1 X' k1 z1)) : KGo E F me pc L stk n X k z := by
  intro p e s m args below meth c H locs ls C hP hz hS hl
  subst e1 e2 e3 hstk
  refine kH_wrap C.2.2.2.2.2.2.2.2.2.2.1 hP hz hS (fun hH => ?_)
  obtain ⟨hh, w1⟩ := w1
  have hts : ∀ w ∈ TB, w.before args s = true := C.2.2.2.2.2.1
  have hG : GoodIn TB (cdW me' :: TB) := tb_goodIn' (fun w hw => by
    rcases List.mem_cons.mp hw with rfl | hw
    · exact w4
    · exact hw)
  have ew : cdW me' :: TB = Cond.code me'.1 me'.2.1 me'.2.2.1 none :: TB := by rw [← w7]
  have hrun := va_runIN (e := e) (below := below) (meth := meth) (As := As) (rest := st) (g := F0 m pc ls (As.reverse ++ .ref r :: st)) (H := H) (locs := locs) (cells := k) (slots := z) ⟨C.1, C.2.1, C.2.2.2.1, C.2.2.2.2.1, hts⟩ h ⟨va_cnB (bytes := me'.2.1) (maxL := me'.2.2.1) na hts hG ew rfl rfl (C.2.2.2.2.2.2.2.2.1.2.1 _ w1) (hts _ w3) w5 hrm, w6, hts _ w2⟩
    ⟨KPre.blind, fun U hU hW => ⟨rfl, KPre.of C hP hH hU hW⟩⟩ rfl hn hl.1 rfl (lv_room hcat) hd hfit
  exact k_back hrun hS (fun X' H1 locs1 hQ hP1 hS1 => hQ p e s m args below meth c H1 locs1 ls C hP1 (by omega) hS1 hl)
theorem k_vret {Q : (Nat → va_E) → Prop} (hd : decode me.2.1 pc = .ok (.return_, 1)) (hr : me.2.2.2 = none) (e1 : n + mc = n1) (h : Q X) : KGo E (kF E d n mc ms Q) me pc L [] n1 X mc ms := by
  intro p e s m args below meth c H locs ls C hP hz hS hl
  subst e1
  exact W.vret C.1 C.2.1 (C.2.2.1.trans hr) (fun t ht hW => ⟨⟨X, rfl, h, by rw [ht]; exact hP⟩, va_S.F hS ht⟩) hS.2.2 hd C.2.2.2.2.2.2.1
end KCL
