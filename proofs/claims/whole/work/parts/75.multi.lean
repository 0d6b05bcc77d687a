/-! a new array of N arrays of M ints: the outer one lies at the heap's end, its rows behind it in order -/
def mOut (cA : ClassId) (N h i : Nat) : Cell := arrV cA N (fun j => if j < i then .ref (h + 1 + j) else .null)
def mIn (cI : ClassId) (M : Nat) : Cell := arrV cI M (fun _ => .int 0)
/-- the state with i of the rows made and stored -/
def mSt (T : State) (cA cI : ClassId) (N M : Nat) : Nat → State
  | 0 => T.pushCell (mOut cA N T.heap.size 0)
  | i + 1 => ((mSt T cA cI N M i).pushCell (mIn cI M)).setCell T.heap.size (mOut cA N T.heap.size (i + 1))
theorem mOut_next (cA : ClassId) (N h i : Nat) : (mOut cA N h i).setSlot i (.ref (h + 1 + i)) = mOut cA N h (i + 1) := by
  unfold mOut
  rw [arrV_store]
  congr 1
  funext j
  unfold updV
  by_cases e : j = i
  · subst e; simp
  · rw [if_neg e]
    show (if j < i then Value.ref (h + 1 + j) else .null) = if j < i + 1 then Value.ref (h + 1 + j) else .null
    by_cases h1 : j < i
    · rw [if_pos h1, if_pos (by omega)]
    · rw [if_neg h1, if_neg (by omega)]
theorem mSt_size (T : State) (cA cI : ClassId) (N M : Nat) : ∀ i, (mSt T cA cI N M i).heap.size = T.heap.size + 1 + i
  | 0 => by simp [mSt]
  | i + 1 => by
    have h := mSt_size T cA cI N M i
    simp [mSt, State.setCell, h]; omega
theorem mSt_out (T : State) (cA cI : ClassId) (N M : Nat) : ∀ i, (mSt T cA cI N M i).heap[T.heap.size]? = some (mOut cA N T.heap.size i)
  | 0 => by simp [mSt]
  | i + 1 => by
    have h := mSt_out T cA cI N M i
    have hz := mSt_size T cA cI N M i
    have hlt : T.heap.size < (mSt T cA cI N M i).heap.size := by omega
    have h2 : ((mSt T cA cI N M i).pushCell (mIn cI M)).heap[T.heap.size]? = some (mOut cA N T.heap.size i) := by
      rw [State.heap_pushCell_of_lt (h := hlt)]; exact h
    exact State.heap_setCell_self h2
theorem mSt_old (T : State) (cA cI : ClassId) (N M : Nat) {q : Nat} (hq : q < T.heap.size) : ∀ i, (mSt T cA cI N M i).heap[q]? = T.heap[q]?
  | 0 => State.heap_pushCell_of_lt _ _ hq
  | i + 1 => by
    have h := mSt_old T cA cI N M hq i
    have hz := mSt_size T cA cI N M i
    show (((mSt T cA cI N M i).pushCell (mIn cI M)).setCell T.heap.size _).heap[q]? = _
    have hlt : q < (mSt T cA cI N M i).heap.size := by omega
    rw [State.heap_setCell_other (Nat.ne_of_gt hq), State.heap_pushCell_of_lt (h := hlt)]
    exact h
theorem mSt_row (T : State) (cA cI : ClassId) (N M : Nat) : ∀ i j, j < i → (mSt T cA cI N M i).heap[T.heap.size + 1 + j]? = some (mIn cI M)
  | 0, _, h => absurd h (Nat.not_lt_zero _)
  | i + 1, j, hj => by
    have hz := mSt_size T cA cI N M i
    show (((mSt T cA cI N M i).pushCell (mIn cI M)).setCell T.heap.size _).heap[T.heap.size + 1 + j]? = _
    rw [State.heap_setCell_other (show T.heap.size ≠ T.heap.size + 1 + j by omega)]
    by_cases e : j = i
    · subst e
      rw [← hz]
      exact State.heap_pushCell_size _ _
    · have hlt : T.heap.size + 1 + j < (mSt T cA cI N M i).heap.size := by omega
      rw [State.heap_pushCell_of_lt (h := hlt)]
      exact mSt_row T cA cI N M i j (by omega)
theorem mSt_vm (T : State) (cA cI : ClassId) (N M : Nat) : ∀ i, (mSt T cA cI N M i).vm = T.vm
  | 0 => rfl
  | i + 1 => mSt_vm T cA cI N M i
theorem mSt_used (T : State) (cA cI : ClassId) (N M : Nat) : ∀ i, (mSt T cA cI N M i).slotsUsed = T.slotsUsed + N + i * M
  | 0 => by simp [mSt, mOut, arrV_size]
  | i + 1 => by
    have h := mSt_used T cA cI N M i
    simp [mSt, mIn, h, arrV_size, Nat.succ_mul]; omega
theorem mSt_top (T : State) (f : JFrame) (cA cI : ClassId) (N M : Nat) : ∀ i, mSt (T.setTop f) cA cI N M i = (mSt T cA cI N M i).setTop f
  | 0 => rfl
  | i + 1 => by simp only [mSt, mSt_top T f cA cI N M i, State.heap_setTop, State.pushCell_setTop, State.setCell_setTop]
section MSTAND
variable {p : Program} {l : Launch} {e : Env} {R : Room} {s : State} {m : MethodId} {args : Array Value} {below : List Frame} {meth : Method} {c : Code} {T : State} {locs : List Loc} {cells slots : Nat}
theorem mSt_stand (X : Stand p l e R s m args below meth c T locs cells slots) (cA cI : ClassId) (N M : Nat) : ∀ i, ∃ L : List Loc, (∀ q ∈ L, q.base = T.heap.size) ∧ Stand p l e R s m args below meth c (mSt T cA cI N M i) (locs ++ L) (cells + 1 + i) (slots + N + i * M)
  | 0 => by
    have h := X.pushed (mOut cA N T.heap.size 0)
    have e1 : (mOut cA N T.heap.size 0).slots.size = N := by unfold mOut; exact arrV_size _ _ _
    rw [e1] at h
    exact ⟨[], fun q hq => by (cases hq), by simpa [mSt] using h⟩
  | i + 1 => by
    obtain ⟨L, hL, Y⟩ := mSt_stand X cA cI N M i
    have hz := mSt_size T cA cI N M i
    have hlt : T.heap.size < (mSt T cA cI N M i).heap.size := by omega
    have h2 : ((mSt T cA cI N M i).pushCell (mIn cI M)).heap[T.heap.size]? = some (mOut cA N T.heap.size i) := by
      rw [State.heap_pushCell_of_lt (h := hlt)]; exact mSt_out T cA cI N M i
    have h := (Y.pushed (mIn cI M)).stored h2 i (.ref (T.heap.size + 1 + i))
    have e1 : (mIn cI M).slots.size = M := by unfold mIn; exact arrV_size _ _ _
    rw [e1, mOut_next] at h
    refine ⟨L ++ [⟨T.heap.size, i⟩], fun q hq => ?_, ?_⟩
    · rcases List.mem_append.mp hq with h1 | h1
      · exact hL q h1
      · rw [List.mem_singleton.mp h1]
    · rw [← List.append_assoc, show slots + N + (i + 1) * M = slots + N + i * M + M by rw [Nat.succ_mul]; omega]
      exact h
end MSTAND
section MWP
variable {E : CtlPost} {e : Env} {d : Bool} {acts : List Action} {s : State}
theorem m_inner {cI cc : ClassId} {kI : Class} {m : Int32} {M : Nat} (hk : s.vm.classes[cI]? = some kI) (hkind : kI.kind = .array cc .int) (hm : ¬ m < 0) (hM : m.toNatClampNeg = M) (hl : ¬ M > e.platform.arrayLengthLimit) (hh : ¬ M * 4 > e.platform.maxHeapBytes) (h1 : s.heap.size < e.platform.maxCells) (h2 : s.slotsUsed + M ≤ e.platform.maxSlots) {Q : Addr → Pre} (hq : ∀ acts', Q s.heap.size d acts' (s.pushCell (mIn cI M))) : wp (Op.multianewarray.make cI [m]) Q E e d acts s := by
  subst hM
  rw [Op.multianewarray.make]
  simp only [wp_bind', W.ite, hm, if_false, wp_pure', W.theClass, hk, hkind, Option.some.injEq, exists_eq_left']
  refine W.newArray_of hk hkind hl hh h1 h2 rfl (fun acts' => ?_)
  have e1 : ({ cls := cI, slots := Array.replicate m.toNatClampNeg (defaultValue .int) } : Cell) = mIn cI m.toNatClampNeg := arrV_new cI _ _
  rw [e1]
  exact hq acts'
theorem m_fit (v : Value) (hv : v = .null ∨ ∃ a, v = .ref a) : fits (.array .int) v = true := by
  rcases hv with rfl | ⟨a, rfl⟩ <;> rfl
theorem m_make {cA cI cc : ClassId} {kA kI : Class} {n m : Int32} {N M : Nat} (hkA : s.vm.classes[cA]? = some kA) (hkindA : kA.kind = .array cI (.array .int)) (hkI : s.vm.classes[cI]? = some kI) (hkindI : kI.kind = .array cc .int) (hn : ¬ n < 0) (hm : ¬ m < 0) (hN : n.toNatClampNeg = N) (hM : m.toNatClampNeg = M) (hl1 : ¬ N > e.platform.arrayLengthLimit) (hh1 : ¬ N * 4 > e.platform.maxHeapBytes) (hl2 : ¬ M > e.platform.arrayLengthLimit) (hh2 : ¬ M * 4 > e.platform.maxHeapBytes)
    (hc : s.heap.size + (1 + N) ≤ e.platform.maxCells) (hs : s.slotsUsed + (N + N * M) ≤ e.platform.maxSlots) {Q : Addr → Pre} (hq : ∀ d' acts', Q s.heap.size d' acts' (mSt s cA cI N M N)) : wp (Op.multianewarray.make cA [n, m]) Q E e d acts s := by
  subst hN
  have hfind : ([m].find? (· < 0)) = none := by simp [hm]
  rw [Op.multianewarray.make]
  simp only [wp_bind', W.ite, hn, if_false, wp_pure', W.theClass, hkA, hkindA, Option.some.injEq, exists_eq_left']
  refine W.newArray_of hkA hkindA hl1 hh1 (by omega) (by omega) rfl (fun acts1 => ?_)
  have e1 : ({ cls := cA, slots := Array.replicate n.toNatClampNeg .null } : Cell) = mOut cA n.toNatClampNeg s.heap.size 0 := by
    refine (arrV_new cA _ _).trans ?_
    unfold mOut
    congr 1
  rw [e1]
  simp only [hfind]
  rw [ite_self, wp_bind', Std.Legacy.Range.forIn_eq_forIn_range']
  have hsz : ([:n.toNatClampNeg] : Std.Legacy.Range).size = n.toNatClampNeg := by simp [Std.Legacy.Range.size]
  rw [hsz]
  refine wp_forIn_inv (fun rest t => ∃ i, i ≤ n.toNatClampNeg ∧ rest = List.range' i (n.toNatClampNeg - i) ∧ t = mSt s cA cI n.toNatClampNeg M i) _ _ ⟨0, Nat.zero_le _, rfl, rfl⟩ ?_ ?_
  · rintro x rest t d1 acts2 Q1 ⟨i, hi, hr, rfl⟩ next
    have hlt : i < n.toNatClampNeg := by
      apply Nat.lt_of_not_le
      intro h
      rw [show n.toNatClampNeg - i = 0 by omega] at hr
      simp at hr
    rw [show n.toNatClampNeg - i = (n.toNatClampNeg - (i + 1)) + 1 by omega, List.range'_succ] at hr
    obtain ⟨rfl, hrest⟩ := List.cons.inj hr
    have hz := mSt_size s cA cI n.toNatClampNeg M x
    have hu := mSt_used s cA cI n.toNatClampNeg M x
    have hv := mSt_vm s cA cI n.toNatClampNeg M x
    have hmul : (x + 1) * M ≤ n.toNatClampNeg * M := Nat.mul_le_mul_right M hlt
    rw [Nat.succ_mul] at hmul
    simp only [wp_bind']
    refine m_inner (by rw [hv]; exact hkI) hkindI hm hM hl2 hh2 (by omega) (by omega) (fun acts3 => ?_)
    simp only [wp_bind', W.writeLoc, wp_pure']
    have hlt0 : s.heap.size < (mSt s cA cI n.toNatClampNeg M x).heap.size := by omega
    refine ⟨mOut cA n.toNatClampNeg s.heap.size x, by rw [State.heap_pushCell_of_lt (h := hlt0)]; exact mSt_out s cA cI _ M x, (fun h => by cases h), by unfold mOut; rw [arrV_size]; exact hlt, ?_, next _ _ _ ⟨x + 1, hlt, hrest, ?_⟩⟩
    · show ((mSt s cA cI n.toNatClampNeg M x).pushCell (mIn cI M)).fitsSlot cA .none x _ = true
      simp [State.fitsSlot, State.slotType?, hv, hkA, hkindA]
      exact m_fit _ (Or.inr ⟨_, rfl⟩)
    · rw [hz, mOut_next]; rfl
  · rintro t d1 acts2 ⟨i, hi, hr, rfl⟩
    have hiN : i = n.toNatClampNeg := by
      apply Nat.le_antisymm hi
      apply Nat.le_of_not_lt
      intro h
      rw [show n.toNatClampNeg - i = (n.toNatClampNeg - (i + 1)) + 1 by omega, List.range'_succ] at hr
      cases hr
    subst hiN
    simp only [wp_pure']
    exact hq _ _
end MWP
section MW
variable {p : Program} {l : Launch} {e : Env} {R : Room} {s : State} {m : MethodId} {args : Array Value} {below : List Frame} {meth : Method} {c : Code} {H : Heap} {locs : List Loc} {cells slots : Nat} {Q : State → Prop}
theorem w_multi {cc : ByteArray} (hexec : p.tables.exec = Jvm.exec) (hb : c.code = cc) {own : String} {idx : Nat} (hown : s.vm.findClass own = some m.cls) (hclink : (Cond.classLink own idx "[[I").before args s = true) (hMM : kMM s) (harr : (Cond.arrayClass .int).before args s = true) {pc : Nat} {ls : Array Slot} {rest : List Value} {x y : Int32} {N M : Nat} (hx : ¬ x < 0) (hy : ¬ y < 0) (hN : x.toNatClampNeg = N) (hM : y.toNatClampNeg = M) (hb1 : N * 4 ≤ 536870912) (hb2 : M * 4 ≤ 536870912) (hcells : cells + (1 + N) ≤ R.cells) (hslots : slots + (N + N * M) ≤ R.slots) (hd : decode cc pc = .ok (.multianewarray idx 2, 4))
    (kk : ∀ (cA cI : ClassId) (H1 : Heap) (L : List Loc), s.vm.findClass "[[I" = some cA → s.vm.findClass "[I" = some cI → H1.size = H.size + 1 + N → H1[H.size]? = some (mOut cA N H.size N) → (∀ j, j < N → H1[H.size + 1 + j]? = some (mIn cI M)) → (∀ q, q < H.size → H1[q]? = H[q]?) → (∀ q ∈ L, q.base = H.size) → W p l e R s m args below meth c H1 (locs ++ L) (cells + 1 + N) (slots + N + N * M) Q (F0 m (pc + 4) ls (.ref H.size :: rest))) : W p l e R s m args below meth c H locs cells slots Q (F0 m pc ls (.int y :: .int x :: rest)) := by
  intro T hT X
  subst hT
  subst hb
  have hpl : e.platform.magicAccessors = ({} : Platform).magicAccessors := by rw [X.admits.platform]
  obtain ⟨cA, cI, kA, f1, f2, f3, f4⟩ := hMM
  obtain ⟨cI', kI, ce, g1, g2, g3⟩ := Cond.arrayClass_spec harr
  have g1 : s.vm.findClass "[I" = some cI' := g1
  cases g1.symm.trans f4
  obtain ⟨c0, hfc0, hcl⟩ := Cond.classLink_spec hown hclink e.platform hpl
  cases f1.symm.trans hfc0
  obtain ⟨hg1, hwarm1, hready1⟩ := State.classEntry (e := e) X.warmed hcl
  generalize T.vm.noted m.cls idx (.cls cA) = vm1 at hg1 hwarm1 hready1
  obtain ⟨kA1, hkA1, heA⟩ := hwarm1.alike.2.2 _ _ f2
  obtain ⟨kI1, hkI1, heI⟩ := hwarm1.alike.2.2 _ _ g2
  have hkA2 : kA1.kind = .array cI (.array .int) := by rw [heA]; exact f3
  have hkI2 : kI1.kind = .array ce .int := by rw [heI]; exact g3
  have X1 := X.noted hwarm1
  obtain ⟨hr1, hr2⟩ := X.roomAbove hcells hslots
  obtain ⟨L, hL, Y⟩ := mSt_stand X1 cA cI N M N
  obtain ⟨t, a1, b1⟩ := kk cA cI (mSt (T.setVm vm1) cA cI N M N).heap L f1 f4 (mSt_size (T.setVm vm1) cA cI N M N) (mSt_out (T.setVm vm1) cA cI N M N) (fun j hj => mSt_row (T.setVm vm1) cA cI N M N j hj) (fun q hq => mSt_old (T.setVm vm1) cA cI N M hq N) hL _ rfl Y
  refine ⟨t, ?_, b1⟩
  have hl1 : ¬ N > e.platform.arrayLengthLimit := by rw [Launch.admits_arrayLengthLimit X.admits]; omega
  have hh1 : ¬ N * 4 > e.platform.maxHeapBytes := by rw [Launch.admits_maxHeapBytes X.admits]; omega
  have hl2 : ¬ M > e.platform.arrayLengthLimit := by rw [Launch.admits_arrayLengthLimit X.admits]; omega
  have hh2 : ¬ M * 4 > e.platform.maxHeapBytes := by rw [Launch.admits_maxHeapBytes X.admits]; omega
  generalize hgf : F0 m pc ls (.int y :: .int x :: rest) = g
  have hgm : g.method = m := by rw [← hgf]
  have hgs : g.stack = .int y :: .int x :: rest := by rw [← hgf]
  have hgp : g.pc = pc := by rw [← hgf]
  have hg4 : F0 m (pc + 4) ls (.ref T.heap.size :: rest) = { g with pc := g.pc + 4, stack := .ref T.heap.size :: rest } := by rw [← hgf]
  rw [hg4] at a1
  subst hgm
  rw [← hgp] at hd
  clear hgf hg4
  jvm_step X.here [hexec, hd]
  simp only [Op.multianewarray.sem, wp_bind', W.resolveClassAt_links (State.method?_setTop g X.here.top) hg1]
  rw [W.popN, if_neg (by decide)]
  refine ⟨g, State.topJava?_setTop' (s := T.setVm vm1) g X.here.top, [.int x, .int y], rest, rfl, hgs, ?_⟩
  simp only [List.mapM_cons, List.mapM_nil, wp_bind', wp_pure']
  refine m_make hkA1 hkA2 hkI1 hkI2 hx hy hN hM hl1 hh1 hl2 hh2 (by show T.heap.size + _ ≤ _; omega) (by show T.slotsUsed + _ ≤ _; omega) (fun d' acts' => ?_)
  have eS : ((T.setTop g).setVm vm1).setTop { g with stack := rest } = (T.setVm vm1).setTop { g with stack := rest } := by
    show ((T.setVm vm1).setTop g).setTop _ = _
    rw [State.setTop_setTop]
  rw [eS, mSt_top]
  simp only [wp_bind', W.mark, W.pushRef, State.topJava?_setTop' _ Y.here.top, Option.some.injEq, exists_eq_left', State.setTop_setTop, State.heap_setTop]
  intro acts
  simp [jvm, Y.here.top]
  exact a1
end MW
/-- the cells behind it: the outer array at n, its rows at n + 1 and on -/
def kmul (E : KEn) (X : Nat → va_E) (n N M : Nat) : Nat → va_E := fun j => if j = n then .inl (E.2.2.1.2.2.2, N, .inr (.inr (.inr (.inr (fun i => some (E.2.2.2 + (n + 1 + i))))))) else if n < j then .inl (E.2.2.1.1, M, .inl (fun _ => 0)) else X j
section KMU
variable {E : KEn} {F : KFx} {me : HMe} {pc idx : Nat} {L : List (Nat × Value)} {st : List Value} {n : Nat} {X : Nat → va_E} {k z : Nat}
theorem k_multi {x y : Int32} {N M : Nat} (hd : decode me.2.1 pc = .ok (.multianewarray idx 2, 4)) (hw : Cond.classLink me.1.cls idx "[[I" ∈ TB) (hx : ¬ x < 0) (hy : ¬ y < 0) (hN : x.toNatClampNeg = N) (hM : y.toNatClampNeg = M) (hb1 : N * 4 ≤ 536870912) (hb2 : M * 4 ≤ 536870912) (hk : k + (1 + N) ≤ F.1.cells) (hz' : z + (N + N * M) ≤ F.1.slots) (h : KGo E F me (pc + 4) L (.ref (E.2.2.2 + n) :: st) (n + (1 + N)) (kmul E X n N M) (k + 1 + N) (z + N + N * M)) : KGo E F me pc L (.int y :: .int x :: st) n X k z := by
  intro p e s m args below meth c H locs ls C hP hz hS hl
  have hts : ∀ w ∈ TB, w.before args s = true := C.2.2.2.2.2.1
  refine kH_wrap C.2.2.2.2.2.2.2.2.2.2.1 hP hz hS (fun hH => ?_)
  refine w_multi C.1 C.2.1 C.2.2.2.2.1 (hts _ hw) C.2.2.2.2.2.2.2.2.2.2.2.2 (hts (Cond.arrayClass .int) wt_84) hx hy hN hM hb1 hb2 hk hz' hd (fun cA cI H1 Lc f1 f2 z1 e1 er o1 hLc => ?_)
  have hg1 : s.vm.findClass "[[I" = some E.2.2.1.2.2.2 := (C.2.2.2.2.2.2.2.1.2 3 _ rfl).2
  have hg2 : s.vm.findClass "[I" = some E.2.2.1.1 := (C.2.2.2.2.2.2.2.1.2 0 _ rfl).2
  have hcA : cA = E.2.2.1.2.2.2 := Option.some.inj (f1.symm.trans hg1)
  have hcI : cI = E.2.2.1.1 := Option.some.inj (f2.symm.trans hg2)
  rw [hcA] at e1
  rw [hcI] at er
  rw [hH] at e1 er z1 o1 ⊢
  have hP1 : va_P E.2.1 vwCl (kws E.2.2.2 (kmul E X n N M) (n + (1 + N))) H1 := by
    intro i q hq
    obtain ⟨h1, rfl⟩ := kws_of hq
    unfold kmul
    by_cases e2 : i = n
    · subst e2
      rw [if_pos rfl]
      refine e1.trans (congrArg some ?_)
      show mOut _ _ _ _ = arrV _ _ (fun j => va_rf (some (E.2.2.2 + (i + 1 + j))))
      unfold mOut arrV
      congr 1
      apply Array.ext
      · simp
      · intro j h3 h4
        have h5 : j < N := by simpa using h3
        rw [Array.getElem_ofFn, Array.getElem_ofFn]
        show (if j < N then Value.ref (E.2.2.2 + i + 1 + j) else .null) = Value.ref (E.2.2.2 + (i + 1 + j))
        rw [if_pos h5]
        have h6 : (E.2.2.2 + i + 1 + j : Nat) = E.2.2.2 + (i + 1 + j) := by omega
        exact congrArg Value.ref h6
    · rw [if_neg e2]
      by_cases e3 : n < i
      · rw [if_pos e3]
        have h2 := er (i - (n + 1)) (by omega)
        have e4 : E.2.2.2 + n + 1 + (i - (n + 1)) = E.2.2.2 + i := by omega
        rw [e4] at h2
        exact h2
      · rw [if_neg e3]
        exact (kP_at hP (by omega)).kept (o1 _ (by show E.2.2.2 + i < E.2.2.2 + n; omega))
  have hS1 : va_S (kA E.2.2.2) s.heap H1 (locs ++ Lc) := by
    refine ⟨Nat.le_trans hS.1 (by omega), fun q h1 h2 => (o1 q (by have := hS.1; omega)).trans (hS.2.1 q h1 h2), fun q hq => ?_⟩
    rcases List.mem_append.mp hq with h1 | h1
    · exact hS.2.2 q h1
    · show E.2.2.2 ≤ q.base
      rw [hLc q h1, hH]; exact Nat.le_add_right _ _
  exact h p e s m args below meth c H1 _ ls C hP1 (by omega) hS1 hl
end KMU
