/-! the pure heap: what the cells hold, by label and place; a label is the place of a cell in the world's list -/
abbrev HIh : Type := Nat → Nat → Int32
abbrev HEn : Type := Launch × va_G × (ClassId × ClassId × ClassId × ClassId) × (Nat → Nat)
abbrev HMe : Type := MethodName × ByteArray × Nat × Option FieldType
abbrev HFx : Type := Room × Nat × Nat × (State → Nat → Prop) × (List Frame → Array Value → State → State → Prop)
def NL : Nat := 103
def zkL : List Nat := [9, 7, 4, 2, 8, 0, 11, 11, 11, 11, 3, 11, 3, 11, 13, 3, 11, 3, 11, 6, 11, 7, 4, 2, 8, 0, 11, 11, 11, 11, 3, 11, 1, 13, 3, 11, 3, 11, 3, 11, 3, 11, 3, 11, 3, 11, 3, 11, 3, 11, 3, 11, 3, 11, 3, 11, 14, 11, 11, 11, 11, 11, 11, 11, 11, 11, 11, 11, 14, 11, 11, 11, 11, 11, 11, 11, 11, 11, 11, 11, 5, 3, 11, 11, 11, 11, 11, 10, 11, 12, 11, 11, 11, 11, 11, 11, 11, 11, 11, 11, 11, 11, 11]
def Zk (q : Nat) : Nat := zkL.getD q 99
def znL : List Nat := [0, 0, 0, 0, 0, 0, 6, 4, 4, 24, 0, 30, 0, 30, 2, 0, 30, 0, 30, 0, 200, 0, 0, 0, 0, 0, 6, 4, 4, 24, 0, 30, 0, 11, 0, 30, 0, 30, 0, 30, 0, 30, 0, 30, 0, 30, 0, 30, 0, 30, 0, 30, 0, 30, 0, 30, 11, 4, 4, 4, 4, 4, 4, 4, 4, 4, 4, 4, 11, 11, 11, 11, 11, 11, 11, 11, 11, 11, 11, 11, 0, 0, 30, 6, 6, 6, 6, 0, 341, 2, 200, 120, 6, 30, 4, 4, 24, 6, 8, 32, 56, 6, 6]
def Zn (q : Nat) : Nat := znL.getD q 0
def zpL : List (List Nat) := [[1, 12, 14, 19, 32, 80], [2, 3, 4, 5, 6, 7, 8, 9, 10], [], [], [], [], [], [], [], [], [11], [], [13], [], [15, 17], [16], [], [18], [], [20, 21], [], [22, 23, 24, 25, 26, 27, 28, 29, 30], [], [], [], [], [], [], [], [], [31], [], [1, 33, 56, 68], [34, 36, 38, 40, 42, 44, 46, 48, 50, 52, 54], [35], [], [37], [], [39], [], [41], [], [43], [], [45], [], [47], [], [49], [], [51], [], [53], [], [55], [], [57, 58, 59, 60, 61, 62, 63, 64, 65, 66, 67], [], [], [], [], [], [], [], [], [], [], [], [69, 70, 71, 72, 73, 74, 75, 76, 77, 78, 79], [], [], [], [], [], [], [], [], [], [], [], [1, 81, 83, 84, 85, 86], [82], [], [], [], [], [], [88, 89, 90, 0, 91, 0, 0, 92, 93, 94, 95, 0, 96, 0, 0, 0, 0, 0, 0, 97, 0, 0, 98, 99, 100, 101, 102, 0], [], [], [], [], [], [], [], [], [], [], [], [], [], [], []]
def Zp (q j : Nat) : Nat := (zpL.getD q []).getD j 0
def lif (E : HEn) (v : Value) : Value := match v with
  | .ref q => .ref (E.2.2.2 q)
  | v => v
def flds (E : HEn) (k : Nat) (f : Nat → Int32) (q : Nat) : List Value := match k with
  | 0 => []
  | 1 => [.ref (E.2.2.2 (Zp q 0)), .ref (E.2.2.2 (Zp q 1)), .ref (E.2.2.2 (Zp q 2)), .ref (E.2.2.2 (Zp q 3)), .int (f 4), .int (f 5), .int (f 6), .int (f 7)]
  | 2 => []
  | 3 => [.ref (E.2.2.2 (Zp q 0)), .int (f 1)]
  | 4 => []
  | 5 => [.ref (E.2.2.2 (Zp q 0)), .ref (E.2.2.2 (Zp q 1)), .ref (E.2.2.2 (Zp q 2)), .ref (E.2.2.2 (Zp q 3)), .ref (E.2.2.2 (Zp q 4)), .ref (E.2.2.2 (Zp q 5)), .int (f 6), .int (f 7), .int (f 8)]
  | 6 => [.ref (E.2.2.2 (Zp q 0)), .ref (E.2.2.2 (Zp q 1)), .int (f 2), .int (f 3), .int (f 4), .int (f 5), .int (f 6), .int (f 7)]
  | 7 => [.ref (E.2.2.2 (Zp q 0)), .ref (E.2.2.2 (Zp q 1)), .ref (E.2.2.2 (Zp q 2)), .ref (E.2.2.2 (Zp q 3)), .ref (E.2.2.2 (Zp q 4)), .ref (E.2.2.2 (Zp q 5)), .ref (E.2.2.2 (Zp q 6)), .ref (E.2.2.2 (Zp q 7)), .ref (E.2.2.2 (Zp q 8)), .int (f 9), .int (f 10), .int (f 11)]
  | 8 => []
  | 9 => [.ref (E.2.2.2 (Zp q 0)), .ref (E.2.2.2 (Zp q 1)), .ref (E.2.2.2 (Zp q 2)), .ref (E.2.2.2 (Zp q 3)), .ref (E.2.2.2 (Zp q 4)), .ref (E.2.2.2 (Zp q 5)), .int (f 6)]
  | 10 => [.ref (E.2.2.2 (Zp q 0)), .ref (E.2.2.2 (Zp q 1)), .ref (E.2.2.2 (Zp q 2)), .int (f 3), .ref (E.2.2.2 (Zp q 4)), .int (f 5), .int (f 6), .ref (E.2.2.2 (Zp q 7)), .ref (E.2.2.2 (Zp q 8)), .ref (E.2.2.2 (Zp q 9)), .ref (E.2.2.2 (Zp q 10)), .int (f 11), .ref (E.2.2.2 (Zp q 12)), .int (f 13), .int (f 14), .int (f 15), .int (f 16), .int (f 17), .int (f 18), .ref (E.2.2.2 (Zp q 19)), .int (f 20), .int (f 21), .ref (E.2.2.2 (Zp q 22)), .ref (E.2.2.2 (Zp q 23)), .ref (E.2.2.2 (Zp q 24)), .ref (E.2.2.2 (Zp q 25)), .ref (E.2.2.2 (Zp q 26)), .int (f 27)]
  | _ => []
def cel (E : HEn) (f : Nat → Int32) (q : Nat) : va_E := match Zk q with
  | 11 => .inl (E.2.2.1.1, Zn q, .inl f)
  | 12 => .inl (E.2.2.1.2.1, Zn q, .inl f)
  | 13 => .inl (E.2.2.1.2.2.1, Zn q, .inr (.inr (.inr (.inr (fun j => some (E.2.2.2 (Zp q j)))))))
  | 14 => .inl (E.2.2.1.2.2.2, Zn q, .inr (.inr (.inr (.inr (fun j => some (E.2.2.2 (Zp q j)))))))
  | k => .inr (k, flds E k f q)
def wld (E : HEn) (I : HIh) : va_W := (List.range NL).map (fun q => (E.2.2.2 q, cel E (I q) q))
def tysE (E : HEn) : List (ClassId × FieldType) := [(E.2.2.1.1, .int), (E.2.2.1.2.1, .boolean), (E.2.2.1.2.2.1, .object "ThrownCoins$Lot"), (E.2.2.1.2.2.2, .array .int)]
/-- one cell's contents anew -/
def setI (I : HIh) (q : Nat) (f : Nat → Int32) : HIh := fun a => if a = q then f else I a
theorem setI_same (I : HIh) (q : Nat) (f : Nat → Int32) : setI I q f q = f := if_pos rfl
theorem setI_ne (I : HIh) {q a : Nat} (f : Nat → Int32) (h : a ≠ q) : setI I q f a = I a := if_neg h
theorem setI_setI (I : HIh) (q : Nat) (f g : Nat → Int32) : setI (setI I q f) q g = setI I q g := by
  funext a; unfold setI; by_cases h : a = q <;> simp [h]
theorem setI_id (I : HIh) (q : Nat) : setI I q (I q) = I := by
  funext a; unfold setI; by_cases h : a = q <;> simp [h]
theorem setI_comm (I : HIh) {q r : Nat} (f g : Nat → Int32) (h : q ≠ r) : setI (setI I q f) r g = setI (setI I r g) q f := by
  funext a; unfold setI; by_cases h1 : a = q <;> by_cases h2 : a = r <;> simp_all
theorem wld_len (E : HEn) (I : HIh) : (wld E I).length = NL := by simp [wld]
theorem wld_get {E : HEn} {I : HIh} {q : Nat} (hq : q < NL) : (wld E I)[q]? = some (E.2.2.2 q, cel E (I q) q) := by
  unfold wld; rw [List.getElem?_map, List.getElem?_range hq]; rfl
theorem wld_set {E : HEn} {I : HIh} {q : Nat} (f : Nat → Int32) : (wld E I).set q (E.2.2.2 q, cel E f q) = wld E (setI I q f) := by
  apply List.ext_getElem?
  intro i
  rw [List.getElem?_set]
  by_cases hi : i < NL
  · rw [wld_get hi, wld_get hi]
    by_cases e : q = i
    · subst e; simp [wld_len, hi, setI_same]
    · rw [if_neg e, setI_ne I f (fun h => e h.symm)]
  · have h1 : ∀ J : HIh, (wld E J)[i]? = none := fun J => List.getElem?_eq_none (by rw [wld_len]; omega)
    rw [h1, h1]
    by_cases e : q = i
    · subst e; simp [wld_len, hi]
    · rw [if_neg e]
theorem wld_D {E : HEn} {A : Nat → Prop} (I : HIh) (inj : ∀ i j, i < NL → j < NL → E.2.2.2 i = E.2.2.2 j → i = j) (hA : ∀ q, q < NL → A (E.2.2.2 q)) : va_D A (wld E I) := by
  have key : ∀ (i : Nat) (p : Nat × va_E), (wld E I)[i]? = some p → i < NL ∧ p.1 = E.2.2.2 i := by
    intro i p h
    have hi : i < NL := by rw [← wld_len E I]; exact (List.getElem?_eq_some_iff.mp h).1
    rw [wld_get hi] at h
    cases h
    exact ⟨hi, rfl⟩
  refine ⟨fun i j p q hi hj h => ?_, fun k q hk => ?_⟩
  · obtain ⟨a1, a2⟩ := key i p hi
    obtain ⟨b1, b2⟩ := key j q hj
    exact inj i j a1 b1 (by rw [← a2, ← b2]; exact h)
  · obtain ⟨a1, a2⟩ := key k q hk
    rw [a2]; exact hA k a1
theorem lif_cat (E : HEn) (v : Value) : (lif E v).category = v.category := by cases v <;> rfl
abbrev lifP (E : HEn) : Nat × Value → Nat × Value := fun q => (q.1, lif E q.2)
/-- a local's new value, a word and two -/
def stoL (i : Nat) (v : Value) (L : List (Nat × Value)) : List (Nat × Value) := (i, v) :: L.filter (fun q => !(q.1 == i) && !(q.1 + 1 == i && q.2.category == 2))
def stoL2 (i : Nat) (v : Value) (L : List (Nat × Value)) : List (Nat × Value) := (i, v) :: L.filter (fun q => !(q.1 == i) && (!(q.1 == i + 1) && !(q.1 + 1 == i && q.2.category == 2)))
theorem stoL_lif (E : HEn) (i : Nat) (v : Value) (L : List (Nat × Value)) : (i, lif E v) :: (L.map (lifP E)).filter (fun q => !(q.1 == i) && !(q.1 + 1 == i && q.2.category == 2)) = (stoL i v L).map (lifP E) := by
  unfold stoL
  rw [List.map_cons, List.filter_map]
  congr 2
  apply List.filter_congr
  intro q _
  simp [Function.comp, lif_cat]
theorem stoL2_lif (E : HEn) (i : Nat) (v : Value) (L : List (Nat × Value)) : (i, lif E v) :: (L.map (lifP E)).filter (fun q => !(q.1 == i) && (!(q.1 == i + 1) && !(q.1 + 1 == i && q.2.category == 2))) = (stoL2 i v L).map (lifP E) := by
  unfold stoL2
  rw [List.map_cons, List.filter_map]
  congr 2
  apply List.filter_congr
  intro q _
  simp [Function.comp, lif_cat]
/-! words that a callee cannot be given by its list: they stand in its start -/
def nwF : List (String × Nat × String × String × String × String) := [("ThrownCoins$Foretelling", 37, "ThrownCoins$Lot", "gone", "I", "ThrownCoins"), ("ThrownCoins$Told", 80, "ThrownCoins$Lot", "gone", "I", "ThrownCoins"), ("ThrownCoins", 139, "ThrownCoins$Lot", "gone", "I", "ThrownCoins"), ("ThrownCoins$Foretelling", 83, "ThrownCoins$Told", "greedy", "LThrownCoins$Folk;", "ThrownCoins"), ("ThrownCoins", 70, "ThrownCoins$Told", "atFirst", "LThrownCoins$Lot;", "ThrownCoins"), ("ThrownCoins$Text", 127, "ThrownCoins$Told", "atFirst", "LThrownCoins$Lot;", "ThrownCoins"), ("ThrownCoins$Thrower", 15, "ThrownCoins$Told", "kinds", "I", "ThrownCoins"), ("ThrownCoins$Notes", 45, "ThrownCoins$Told", "kinds", "I", "ThrownCoins"), ("ThrownCoins$Foretelling", 93, "ThrownCoins$Told", "kinds", "I", "ThrownCoins"), ("ThrownCoins$Text", 136, "ThrownCoins$Told", "kinds", "I", "ThrownCoins"), ("ThrownCoins", 190, "ThrownCoins$Told", "kinds", "I", "ThrownCoins"), ("ThrownCoins$Foretelling", 40, "ThrownCoins$Told", "visitCount", "I", "ThrownCoins"), ("ThrownCoins", 146, "ThrownCoins$Told", "visitCount", "I", "ThrownCoins"), ("ThrownCoins$Text", 153, "ThrownCoins$Told", "visitCount", "I", "ThrownCoins"), ("ThrownCoins$Text", 159, "ThrownCoins$Told", "law", "I", "ThrownCoins"), ("ThrownCoins", 208, "ThrownCoins$Told", "law", "I", "ThrownCoins"), ("ThrownCoins", 64, "ThrownCoins$Text", "draft", "LThrownCoins$Told;", "ThrownCoins"), ("ThrownCoins", 50, "ThrownCoins$Text", "length", "I", "ThrownCoins"), ("ThrownCoins", 85, "ThrownCoins$Text", "lines", "I", "ThrownCoins"), ("ThrownCoins", 76, "ThrownCoins$Notes", "size", "I", "ThrownCoins"), ("ThrownCoins", 196, "ThrownCoins$Notes", "layings", "I", "ThrownCoins"), ("ThrownCoins", 199, "ThrownCoins$Notes", "first", "I", "ThrownCoins")]
def nwM : List (String × Nat × MethodName × String) := [("ThrownCoins$Told", 11, ⟨"ThrownCoins$Never", "<init>", "()V"⟩, "ThrownCoins"), ("ThrownCoins$Never", 3, ⟨"ThrownCoins$Folk", "<init>", "()V"⟩, "ThrownCoins"), ("ThrownCoins$Told", 20, ⟨"ThrownCoins$Greedy", "<init>", "()V"⟩, "ThrownCoins"), ("ThrownCoins$Greedy", 3, ⟨"ThrownCoins$Thrower", "<init>", "()V"⟩, "ThrownCoins"), ("ThrownCoins$Thrower", 3, ⟨"ThrownCoins$Folk", "<init>", "()V"⟩, "ThrownCoins"), ("ThrownCoins$Told", 26, ⟨"ThrownCoins$Waiting", "<init>", "()V"⟩, "ThrownCoins"), ("ThrownCoins$Waiting", 3, ⟨"ThrownCoins$Greedy", "<init>", "()V"⟩, "ThrownCoins"), ("ThrownCoins$Told", 32, ⟨"ThrownCoins$Cheap", "<init>", "()V"⟩, "ThrownCoins"), ("ThrownCoins$Cheap", 3, ⟨"ThrownCoins$Thrower", "<init>", "()V"⟩, "ThrownCoins"), ("ThrownCoins$Told", 51, ⟨"ThrownCoins$Lot", "<init>", "()V"⟩, "ThrownCoins"), ("ThrownCoins", 18, ⟨"ThrownCoins$Lot", "<init>", "()V"⟩, "ThrownCoins"), ("ThrownCoins", 29, ⟨"ThrownCoins$Text", "<init>", "()V"⟩, "ThrownCoins"), ("ThrownCoins$Foretelling", 33, ⟨"ThrownCoins$Lot", "<init>", "()V"⟩, "ThrownCoins"), ("ThrownCoins$Notes", 11, ⟨"ThrownCoins$Lot", "<init>", "()V"⟩, "ThrownCoins"), ("ThrownCoins$Told", 76, ⟨"ThrownCoins", "isPerson", "(I)Z"⟩, "ThrownCoins"), ("ThrownCoins$Foretelling", 61, ⟨"ThrownCoins", "isPerson", "(I)Z"⟩, "ThrownCoins")]
def nwC : List (String × String) := [("ThrownCoins$Cheap", "ThrownCoins$Thrower"), ("ThrownCoins$Greedy", "ThrownCoins$Thrower"), ("ThrownCoins$Waiting", "ThrownCoins$Thrower"), ("ThrownCoins$Waiting", "ThrownCoins$Greedy")]
def nwN : List (String × String) := [("ThrownCoins$Never", "ThrownCoins$Thrower"), ("ThrownCoins$Never", "ThrownCoins$Greedy"), ("ThrownCoins$Never", "ThrownCoins$Waiting"), ("ThrownCoins$Never", "ThrownCoins$Cheap"), ("ThrownCoins$Greedy", "ThrownCoins$Never"), ("ThrownCoins$Greedy", "ThrownCoins$Waiting"), ("ThrownCoins$Greedy", "ThrownCoins$Cheap"), ("ThrownCoins$Waiting", "ThrownCoins$Never"), ("ThrownCoins$Waiting", "ThrownCoins$Cheap"), ("ThrownCoins$Cheap", "ThrownCoins$Never"), ("ThrownCoins$Cheap", "ThrownCoins$Greedy"), ("ThrownCoins$Cheap", "ThrownCoins$Waiting")]
def nwD : List MethodName := [⟨"ThrownCoins$Folk", "habit", "()I"⟩, ⟨"ThrownCoins$Folk", "wouldThrow", "(LThrownCoins$Told;LThrownCoins$Lot;I)I"⟩, ⟨"ThrownCoins$Thrower", "comparesAll", "()Z"⟩]
def strX : List (Nat × String) := [(65, "coins"), (74, "lies"), (80, "purse"), (89, "never"), (94, "greedy"), (96, "waiting"), (101, "cheap"), (103, "come"), (108, "law"), (113, "alone")]
def strLen : List Nat := [5, 4, 5, 5, 6, 7, 5, 4, 3, 5]
def strByt : List (List Int32) := [[99, 111, 105, 110, 115], [108, 105, 101, 115], [112, 117, 114, 115, 101], [110, 101, 118, 101, 114], [103, 114, 101, 101, 100, 121], [119, 97, 105, 116, 105, 110, 103], [99, 104, 101, 97, 112], [99, 111, 109, 101], [108, 97, 119], [97, 108, 111, 110, 101]]
def nestK (U : State) : Prop := (∀ q ∈ nwF, va_Nw (.fieldLinkNest q.1 q.2.1 q.2.2.1 q.2.2.2.1 q.2.2.2.2.1 q.2.2.2.2.2) U) ∧ (∀ q ∈ nwM, va_Nw (.methodLinkNest q.1 q.2.1 q.2.2.1 q.2.2.2) U) ∧ (∀ q ∈ nwC, va_Nw (.castable q.1 q.2) U) ∧ (∀ q ∈ nwN, va_Nc q.1 q.2 U) ∧ ∀ q ∈ nwD, va_Nw (.declares q) U
theorem nestK.warm {s U : State} (hW : s.WarmedH U.vm) (h : nestK s) : nestK U :=
  ⟨fun q hq => va_Nw.warmF hW (h.1 q hq), fun q hq => va_Nw.warmM hW (h.2.1 q hq), fun q hq => va_Nw.warmC hW (h.2.2.1 q hq), fun q hq => va_Nc.moved hW.alike (h.2.2.2.1 q hq), fun q hq => va_Nw.warmD hW (h.2.2.2.2 q hq)⟩
theorem nestK.same {s U : State} (e : s.vm = U.vm) (h : nestK s) : nestK U :=
  ⟨fun q hq => va_Nw.same rfl e (h.1 q hq), fun q hq => va_Nw.same rfl e (h.2.1 q hq), fun q hq => va_Nw.same rfl e (h.2.2.1 q hq), fun q hq => va_Nc.moved (e ▸ Vm.Alike.refl _) (h.2.2.2.1 q hq), fun q hq => va_Nw.same rfl e (h.2.2.2.2 q hq)⟩
/-- the literals (labels 1000 and on, their bytes 2000 and on), and the JDK's statics that charAt reads (label 3000) -/
def strK (E : HEn) (A : Nat → Prop) (U : State) (H : Heap) : Prop :=
  vk_S 10 strLen strByt (fun i => E.2.2.2 (1000 + i)) (fun i => E.2.2.2 (2000 + i)) A U H ∧ (∀ i, i < 10 → vk_R "ThrownCoins$Text" (strX.getD i (0, "")).1 (strX.getD i (0, "")).2 (E.2.2.2 (1000 + i)) U) ∧ va_Z "java/lang/String" "COMPACT_STRINGS" "Z" (.int 1) A U H ∧ (va_Z "jdk/internal/util/Preconditions" "SIOOBE_FORMATTER" "Ljava/util/function/BiFunction;" .null A U H ∨ va_Z "jdk/internal/util/Preconditions" "SIOOBE_FORMATTER" "Ljava/util/function/BiFunction;" (.ref (E.2.2.2 3000)) A U H)
theorem strK.warm {E : HEn} {A : Nat → Prop} {s U : State} {H : Heap} (hW : s.WarmedH U.vm) (h : strK E A s H) : strK E A U H := by
  obtain ⟨h1, h2, h3, h4⟩ := h
  exact ⟨vk_S.moved hW.alike h1, fun i hi => vk_R.warm hW (h2 i hi), va_Z.moved hW.alike h3, h4.imp (va_Z.moved hW.alike) (va_Z.moved hW.alike)⟩
theorem strK.same {E : HEn} {A : Nat → Prop} {s U : State} {H : Heap} (e : s.vm = U.vm) (h : strK E A s H) : strK E A U H := by
  obtain ⟨h1, h2, h3, h4⟩ := h
  have ha : s.vm.Alike U.vm := e ▸ Vm.Alike.refl _
  exact ⟨vk_S.moved ha h1, fun i hi => vk_R.same e.symm (h2 i hi), va_Z.moved ha h3, h4.imp (va_Z.moved ha) (va_Z.moved ha)⟩
theorem strK.kept {E : HEn} {A : Nat → Prop} {U : State} {H H1 : Heap} (h : strK E A U H) (hq : ∀ a : Nat, a < H.size → ¬ A a → H1[a]? = H[a]?) : strK E A U H1 := by
  obtain ⟨h1, h2, h3, h4⟩ := h
  exact ⟨h1.kept hq, h2, h3.kept hq, h4.imp (fun h => h.kept hq) (fun h => h.kept hq)⟩
theorem strK.narrow {E : HEn} {A B : Nat → Prop} {U : State} {H : Heap} (h : strK E A U H) (hAB : ∀ q, B q → A q) : strK E B U H := by
  obtain ⟨h1, h2, h3, h4⟩ := h
  exact ⟨vk_S.narrow h1 hAB, h2, va_Z.narrow h3 hAB, h4.imp (fun h => va_Z.narrow h hAB) (fun h => va_Z.narrow h hAB)⟩
/-- the world's own addresses -/
def AE (E : HEn) : Nat → Prop := fun a => ∃ q, q < NL ∧ a = E.2.2.2 q
def HInj (E : HEn) : Prop := ∀ i j, i < NL → j < NL → E.2.2.2 i = E.2.2.2 j → i = j
/-- what holds in a method's frame -/
def HCx (E : HEn) (F : HFx) (me : HMe) (p : Program) (s : State) (m : MethodId) (args : Array Value) (meth : Method) (c : Code) : Prop :=
  p.tables.exec = Jvm.exec ∧ c.code = me.2.1 ∧ meth.sig.returnType = me.2.2.2 ∧ c.maxLocals = me.2.2.1 ∧ s.vm.findClass me.1.cls = some m.cls ∧ (∀ w ∈ TB, w.before args s = true) ∧ meth.locks = false ∧ va_K E.2.1 vwCl (tysE E) s ∧ nestK s ∧ strK E (F.2.2.2.1 s) s s.heap ∧ HInj E ∧ ∀ q, q < NL → F.2.2.2.1 s (E.2.2.2 q)
/-- from this place of a method, with these locals, this stack and this heap, the machine comes to the method's end -/
def HGo (E : HEn) (F : HFx) (me : HMe) (pc : Nat) (L : List (Nat × Value)) (st : List Value) (I : HIh) : Prop :=
  ∀ (p : Program) (e : Env) (s : State) (m : MethodId) (args : Array Value) (below : List Frame) (meth : Method) (c : Code) (H : Heap) (locs : List Loc) (ls : Array Slot), HCx E F me p s m args meth c → va_P E.2.1 vwCl (wld E I) H → va_S (F.2.2.2.1 s) s.heap H locs → lv_has ls me.2.2.1 (L.map (lifP E)) → W p E.1 e F.1 s m args below meth c H locs F.2.1 F.2.2.1 (F.2.2.2.2 below args s) (F0 m pc ls (st.map (lif E)))
section HST
variable {E : HEn} {F : HFx} {me : HMe} {pc : Nat} {L : List (Nat × Value)} {st : List Value} {I : HIh}
theorem h_iconst {n : Int} {v : Int32} (hd : decode me.2.1 pc = .ok (.iconst n, 1)) (hv : Int32.ofInt n = v) (h : HGo E F me (pc + 1) L (.int v :: st) I) : HGo E F me pc L st I := by
  intro p e s m args below meth c H locs ls C hP hS hl
  exact lv_iconst C.1 C.2.1 hd hv (h p e s m args below meth c H locs ls C hP hS hl)
theorem h_bipush {n : Int} {v : Int32} (hd : decode me.2.1 pc = .ok (.bipush n, 2)) (hv : (Int8.ofInt n).toInt32 = v) (h : HGo E F me (pc + 2) L (.int v :: st) I) : HGo E F me pc L st I := by
  intro p e s m args below meth c H locs ls C hP hS hl
  exact lv_bipush C.1 C.2.1 hd hv (h p e s m args below meth c H locs ls C hP hS hl)
theorem h_sipush {n : Int} {v : Int32} (hd : decode me.2.1 pc = .ok (.sipush n, 3)) (hv : (Int16.ofInt n).toInt32 = v) (h : HGo E F me (pc + 3) L (.int v :: st) I) : HGo E F me pc L st I := by
  intro p e s m args below meth c H locs ls C hP hS hl
  exact lv_sipush C.1 C.2.1 hd hv (h p e s m args below meth c H locs ls C hP hS hl)
theorem h_lconst {n : Fin 2} {v : Int64} (hd : decode me.2.1 pc = .ok (.lconst n, 1)) (hv : Int64.ofNat (n : Nat) = v) (h : HGo E F me (pc + 1) L (.long v :: st) I) : HGo E F me pc L st I := by
  intro p e s m args below meth c H locs ls C hP hS hl
  exact lv_lconst C.1 C.2.1 hd hv (h p e s m args below meth c H locs ls C hP hS hl)
theorem h_ldc {own : String} {index : Nat} {v : Int32} (hd : decode me.2.1 pc = .ok (.ldc index, 2)) (hw : Cond.constant own index v ∈ TB) (ho : own = me.1.cls) (h : HGo E F me (pc + 2) L (.int v :: st) I) : HGo E F me pc L st I := by
  intro p e s m args below meth c H locs ls C hP hS hl
  exact lv_ldc C.1 C.2.1 (ho ▸ C.2.2.2.2.1) (C.2.2.2.2.2.1 _ hw) hd (h p e s m args below meth c H locs ls C hP hS hl)
theorem h_ldc2 {own : String} {index : Nat} {v : Int64} (hd : decode me.2.1 pc = .ok (.ldc2_w index, 3)) (hw : Cond.constantLong own index v ∈ TB) (ho : own = me.1.cls) (h : HGo E F me (pc + 3) L (.long v :: st) I) : HGo E F me pc L st I := by
  intro p e s m args below meth c H locs ls C hP hS hl
  exact lv_ldc2 C.1 C.2.1 (ho ▸ C.2.2.2.2.1) (C.2.2.2.2.2.1 _ hw) hd (h p e s m args below meth c H locs ls C hP hS hl)
theorem h_iload_n {k : Fin 4} {i : Nat} {x : Int32} (hd : decode me.2.1 pc = .ok (.iload_n k, 1)) (hi : (k : Nat) = i) (n : Nat) (hn : L[n]? = some (i, .int x)) (h : HGo E F me (pc + 1) L (.int x :: st) I) : HGo E F me pc L st I := by
  intro p e s m args below meth c H locs ls C hP hS hl
  exact lv_iload_n C.1 C.2.1 hd hi (lv_at hl n (by rw [List.getElem?_map, hn]; rfl)) (h p e s m args below meth c H locs ls C hP hS hl)
theorem h_iload {i : Nat} {x : Int32} (hd : decode me.2.1 pc = .ok (.iload i, 2)) (n : Nat) (hn : L[n]? = some (i, .int x)) (h : HGo E F me (pc + 2) L (.int x :: st) I) : HGo E F me pc L st I := by
  intro p e s m args below meth c H locs ls C hP hS hl
  exact lv_iload C.1 C.2.1 hd (lv_at hl n (by rw [List.getElem?_map, hn]; rfl)) (h p e s m args below meth c H locs ls C hP hS hl)
theorem h_istore_n {k : Fin 4} {i : Nat} {x : Int32} {L' : List (Nat × Value)} (hd : decode me.2.1 pc = .ok (.istore_n k, 1)) (hi : (k : Nat) = i) (hn : i < me.2.2.1) (hL : stoL i (.int x) L = L') (h : HGo E F me (pc + 1) L' st I) : HGo E F me pc L (.int x :: st) I := by
  intro p e s m args below meth c H locs ls C hP hS hl
  subst hL
  exact lv_istore_n C.1 C.2.1 hd hi hl hn (stoL_lif E i (.int x) L) (fun ls hl => (h p e s m args below meth c H locs ls C hP hS hl))
theorem h_istore {i : Nat} {x : Int32} {L' : List (Nat × Value)} (hd : decode me.2.1 pc = .ok (.istore i, 2)) (hn : i < me.2.2.1) (hL : stoL i (.int x) L = L') (h : HGo E F me (pc + 2) L' st I) : HGo E F me pc L (.int x :: st) I := by
  intro p e s m args below meth c H locs ls C hP hS hl
  subst hL
  exact lv_istore C.1 C.2.1 hd hl hn (stoL_lif E i (.int x) L) (fun ls hl => (h p e s m args below meth c H locs ls C hP hS hl))
theorem h_lload_n {k : Fin 4} {i : Nat} {x : Int64} (hd : decode me.2.1 pc = .ok (.lload_n k, 1)) (hi : (k : Nat) = i) (n : Nat) (hn : L[n]? = some (i, .long x)) (h : HGo E F me (pc + 1) L (.long x :: st) I) : HGo E F me pc L st I := by
  intro p e s m args below meth c H locs ls C hP hS hl
  exact lv_lload_n C.1 C.2.1 hd hi (lv_at hl n (by rw [List.getElem?_map, hn]; rfl)) (h p e s m args below meth c H locs ls C hP hS hl)
theorem h_lload {i : Nat} {x : Int64} (hd : decode me.2.1 pc = .ok (.lload i, 2)) (n : Nat) (hn : L[n]? = some (i, .long x)) (h : HGo E F me (pc + 2) L (.long x :: st) I) : HGo E F me pc L st I := by
  intro p e s m args below meth c H locs ls C hP hS hl
  exact lv_lload C.1 C.2.1 hd (lv_at hl n (by rw [List.getElem?_map, hn]; rfl)) (h p e s m args below meth c H locs ls C hP hS hl)
theorem h_lstore_n {k : Fin 4} {i : Nat} {x : Int64} {L' : List (Nat × Value)} (hd : decode me.2.1 pc = .ok (.lstore_n k, 1)) (hi : (k : Nat) = i) (hn : i + 1 < me.2.2.1) (hL : stoL2 i (.long x) L = L') (h : HGo E F me (pc + 1) L' st I) : HGo E F me pc L (.long x :: st) I := by
  intro p e s m args below meth c H locs ls C hP hS hl
  subst hL
  exact lv_lstore_n C.1 C.2.1 hd hi hl hn (stoL2_lif E i (.long x) L) (fun ls hl => (h p e s m args below meth c H locs ls C hP hS hl))
theorem h_lstore {i : Nat} {x : Int64} {L' : List (Nat × Value)} (hd : decode me.2.1 pc = .ok (.lstore i, 2)) (hn : i + 1 < me.2.2.1) (hL : stoL2 i (.long x) L = L') (h : HGo E F me (pc + 2) L' st I) : HGo E F me pc L (.long x :: st) I := by
  intro p e s m args below meth c H locs ls C hP hS hl
  subst hL
  exact lv_lstore C.1 C.2.1 hd hl hn (stoL2_lif E i (.long x) L) (fun ls hl => (h p e s m args below meth c H locs ls C hP hS hl))
theorem h_aload_n {k : Fin 4} {i : Nat} {x : Nat} (hd : decode me.2.1 pc = .ok (.aload_n k, 1)) (hi : (k : Nat) = i) (n : Nat) (hn : L[n]? = some (i, .ref x)) (h : HGo E F me (pc + 1) L (.ref x :: st) I) : HGo E F me pc L st I := by
  intro p e s m args below meth c H locs ls C hP hS hl
  exact lv_aload_n C.1 C.2.1 hd hi (lv_at hl n (by rw [List.getElem?_map, hn]; rfl)) (h p e s m args below meth c H locs ls C hP hS hl)
theorem h_aload {i : Nat} {x : Nat} (hd : decode me.2.1 pc = .ok (.aload i, 2)) (n : Nat) (hn : L[n]? = some (i, .ref x)) (h : HGo E F me (pc + 2) L (.ref x :: st) I) : HGo E F me pc L st I := by
  intro p e s m args below meth c H locs ls C hP hS hl
  exact lv_aload C.1 C.2.1 hd (lv_at hl n (by rw [List.getElem?_map, hn]; rfl)) (h p e s m args below meth c H locs ls C hP hS hl)
theorem h_astore_n {k : Fin 4} {i : Nat} {x : Nat} {L' : List (Nat × Value)} (hd : decode me.2.1 pc = .ok (.astore_n k, 1)) (hi : (k : Nat) = i) (hn : i < me.2.2.1) (hL : stoL i (.ref x) L = L') (h : HGo E F me (pc + 1) L' st I) : HGo E F me pc L (.ref x :: st) I := by
  intro p e s m args below meth c H locs ls C hP hS hl
  subst hL
  exact lv_astore_n C.1 C.2.1 hd hi hl hn (stoL_lif E i (.ref x) L) (fun ls hl => (h p e s m args below meth c H locs ls C hP hS hl))
theorem h_astore {i : Nat} {x : Nat} {L' : List (Nat × Value)} (hd : decode me.2.1 pc = .ok (.astore i, 2)) (hn : i < me.2.2.1) (hL : stoL i (.ref x) L = L') (h : HGo E F me (pc + 2) L' st I) : HGo E F me pc L (.ref x :: st) I := by
  intro p e s m args below meth c H locs ls C hP hS hl
  subst hL
  exact lv_astore C.1 C.2.1 hd hl hn (stoL_lif E i (.ref x) L) (fun ls hl => (h p e s m args below meth c H locs ls C hP hS hl))
theorem h_iinc {i : Nat} {n : Int} {x v : Int32} {L' : List (Nat × Value)} (hd : decode me.2.1 pc = .ok (.iinc i n, 3)) (k : Nat) (hk : L[k]? = some (i, .int x)) (hv : x + Int32.ofInt n = v) (hn : i < me.2.2.1) (hL : stoL i (.int v) L = L') (h : HGo E F me (pc + 3) L' st I) : HGo E F me pc L st I := by
  intro p e s m args below meth c H locs ls C hP hS hl
  subst hL
  exact lv_iinc C.1 C.2.1 hd hl (k := k) (by rw [List.getElem?_map, hk]; rfl) hv hn (stoL_lif E i (.int v) L) (fun ls hl => (h p e s m args below meth c H locs ls C hP hS hl))
theorem h_iadd {x y : Int32} (hd : decode me.2.1 pc = .ok (.iadd, 1)) (h : HGo E F me (pc + 1) L (.int (x + y) :: st) I) : HGo E F me pc L (.int y :: .int x :: st) I := by
  intro p e s m args below meth c H locs ls C hP hS hl
  exact lv_iadd C.1 C.2.1 hd (h p e s m args below meth c H locs ls C hP hS hl)
theorem h_isub {x y : Int32} (hd : decode me.2.1 pc = .ok (.isub, 1)) (h : HGo E F me (pc + 1) L (.int (x - y) :: st) I) : HGo E F me pc L (.int y :: .int x :: st) I := by
  intro p e s m args below meth c H locs ls C hP hS hl
  exact lv_isub C.1 C.2.1 hd (h p e s m args below meth c H locs ls C hP hS hl)
theorem h_imul {x y : Int32} (hd : decode me.2.1 pc = .ok (.imul, 1)) (h : HGo E F me (pc + 1) L (.int (x * y) :: st) I) : HGo E F me pc L (.int y :: .int x :: st) I := by
  intro p e s m args below meth c H locs ls C hP hS hl
  exact lv_imul C.1 C.2.1 hd (h p e s m args below meth c H locs ls C hP hS hl)
theorem h_iand {x y : Int32} (hd : decode me.2.1 pc = .ok (.iand, 1)) (h : HGo E F me (pc + 1) L (.int (x &&& y) :: st) I) : HGo E F me pc L (.int y :: .int x :: st) I := by
  intro p e s m args below meth c H locs ls C hP hS hl
  exact lv_iand C.1 C.2.1 hd (h p e s m args below meth c H locs ls C hP hS hl)
theorem h_ior {x y : Int32} (hd : decode me.2.1 pc = .ok (.ior, 1)) (h : HGo E F me (pc + 1) L (.int (x ||| y) :: st) I) : HGo E F me pc L (.int y :: .int x :: st) I := by
  intro p e s m args below meth c H locs ls C hP hS hl
  exact lv_ior C.1 C.2.1 hd (h p e s m args below meth c H locs ls C hP hS hl)
theorem h_ixor {x y : Int32} (hd : decode me.2.1 pc = .ok (.ixor, 1)) (h : HGo E F me (pc + 1) L (.int (x ^^^ y) :: st) I) : HGo E F me pc L (.int y :: .int x :: st) I := by
  intro p e s m args below meth c H locs ls C hP hS hl
  exact lv_ixor C.1 C.2.1 hd (h p e s m args below meth c H locs ls C hP hS hl)
theorem h_ishl {x y : Int32} (hd : decode me.2.1 pc = .ok (.ishl, 1)) (h : HGo E F me (pc + 1) L (.int (x <<< (y &&& 31)) :: st) I) : HGo E F me pc L (.int y :: .int x :: st) I := by
  intro p e s m args below meth c H locs ls C hP hS hl
  exact lv_ishl C.1 C.2.1 hd (h p e s m args below meth c H locs ls C hP hS hl)
theorem h_ishr {x y : Int32} (hd : decode me.2.1 pc = .ok (.ishr, 1)) (h : HGo E F me (pc + 1) L (.int (x >>> (y &&& 31)) :: st) I) : HGo E F me pc L (.int y :: .int x :: st) I := by
  intro p e s m args below meth c H locs ls C hP hS hl
  exact lv_ishr C.1 C.2.1 hd (h p e s m args below meth c H locs ls C hP hS hl)
theorem h_idiv {x y : Int32} (hd : decode me.2.1 pc = .ok (.idiv, 1)) (hz : ¬ y = 0) (h : HGo E F me (pc + 1) L (.int (x / y) :: st) I) : HGo E F me pc L (.int y :: .int x :: st) I := by
  intro p e s m args below meth c H locs ls C hP hS hl
  exact lv_idiv C.1 C.2.1 hd hz (h p e s m args below meth c H locs ls C hP hS hl)
theorem h_irem {x y : Int32} (hd : decode me.2.1 pc = .ok (.irem, 1)) (hz : ¬ y = 0) (h : HGo E F me (pc + 1) L (.int (x - x / y * y) :: st) I) : HGo E F me pc L (.int y :: .int x :: st) I := by
  intro p e s m args below meth c H locs ls C hP hS hl
  exact lv_irem C.1 C.2.1 hd hz (h p e s m args below meth c H locs ls C hP hS hl)
theorem h_ineg {x : Int32} (hd : decode me.2.1 pc = .ok (.ineg, 1)) (h : HGo E F me (pc + 1) L (.int (-x) :: st) I) : HGo E F me pc L (.int x :: st) I := by
  intro p e s m args below meth c H locs ls C hP hS hl
  exact lv_ineg C.1 C.2.1 hd (h p e s m args below meth c H locs ls C hP hS hl)
theorem h_ladd {x y : Int64} (hd : decode me.2.1 pc = .ok (.ladd, 1)) (h : HGo E F me (pc + 1) L (.long (x + y) :: st) I) : HGo E F me pc L (.long y :: .long x :: st) I := by
  intro p e s m args below meth c H locs ls C hP hS hl
  exact lv_ladd C.1 C.2.1 hd (h p e s m args below meth c H locs ls C hP hS hl)
theorem h_lmul {x y : Int64} (hd : decode me.2.1 pc = .ok (.lmul, 1)) (h : HGo E F me (pc + 1) L (.long (x * y) :: st) I) : HGo E F me pc L (.long y :: .long x :: st) I := by
  intro p e s m args below meth c H locs ls C hP hS hl
  exact lv_lmul C.1 C.2.1 hd (h p e s m args below meth c H locs ls C hP hS hl)
theorem h_land {x y : Int64} (hd : decode me.2.1 pc = .ok (.land, 1)) (h : HGo E F me (pc + 1) L (.long (x &&& y) :: st) I) : HGo E F me pc L (.long y :: .long x :: st) I := by
  intro p e s m args below meth c H locs ls C hP hS hl
  exact lv_land C.1 C.2.1 hd (h p e s m args below meth c H locs ls C hP hS hl)
theorem h_lor {x y : Int64} (hd : decode me.2.1 pc = .ok (.lor, 1)) (h : HGo E F me (pc + 1) L (.long (x ||| y) :: st) I) : HGo E F me pc L (.long y :: .long x :: st) I := by
  intro p e s m args below meth c H locs ls C hP hS hl
  exact lv_lor C.1 C.2.1 hd (h p e s m args below meth c H locs ls C hP hS hl)
theorem h_ldiv {x y : Int64} (hd : decode me.2.1 pc = .ok (.ldiv, 1)) (hz : ¬ y = 0) (h : HGo E F me (pc + 1) L (.long (x / y) :: st) I) : HGo E F me pc L (.long y :: .long x :: st) I := by
  intro p e s m args below meth c H locs ls C hP hS hl
  exact lv_ldiv C.1 C.2.1 hd hz (h p e s m args below meth c H locs ls C hP hS hl)
theorem h_lrem {x y : Int64} (hd : decode me.2.1 pc = .ok (.lrem, 1)) (hz : ¬ y = 0) (h : HGo E F me (pc + 1) L (.long (x - x / y * y) :: st) I) : HGo E F me pc L (.long y :: .long x :: st) I := by
  intro p e s m args below meth c H locs ls C hP hS hl
  exact lv_lrem C.1 C.2.1 hd hz (h p e s m args below meth c H locs ls C hP hS hl)
theorem h_lshl {x : Int64} {y : Int32} (hd : decode me.2.1 pc = .ok (.lshl, 1)) (h : HGo E F me (pc + 1) L (.long (x <<< (y.toInt64 &&& 63)) :: st) I) : HGo E F me pc L (.int y :: .long x :: st) I := by
  intro p e s m args below meth c H locs ls C hP hS hl
  exact lv_lshl C.1 C.2.1 hd rfl (h p e s m args below meth c H locs ls C hP hS hl)
theorem h_lshr {x : Int64} {y : Int32} (hd : decode me.2.1 pc = .ok (.lshr, 1)) (h : HGo E F me (pc + 1) L (.long (x >>> (y.toInt64 &&& 63)) :: st) I) : HGo E F me pc L (.int y :: .long x :: st) I := by
  intro p e s m args below meth c H locs ls C hP hS hl
  exact lv_lshr C.1 C.2.1 hd rfl (h p e s m args below meth c H locs ls C hP hS hl)
theorem h_i2l {x : Int32} (hd : decode me.2.1 pc = .ok (.i2l, 1)) (h : HGo E F me (pc + 1) L (.long x.toInt64 :: st) I) : HGo E F me pc L (.int x :: st) I := by
  intro p e s m args below meth c H locs ls C hP hS hl
  exact lv_i2l C.1 C.2.1 hd rfl (h p e s m args below meth c H locs ls C hP hS hl)
theorem h_l2i {x : Int64} (hd : decode me.2.1 pc = .ok (.l2i, 1)) (h : HGo E F me (pc + 1) L (.int x.toInt32 :: st) I) : HGo E F me pc L (.long x :: st) I := by
  intro p e s m args below meth c H locs ls C hP hS hl
  exact lv_l2i C.1 C.2.1 hd rfl (h p e s m args below meth c H locs ls C hP hS hl)
theorem h_lcmp {x y : Int64} (hd : decode me.2.1 pc = .ok (.lcmp, 1)) (h : HGo E F me (pc + 1) L (.int (lg_cmp x y) :: st) I) : HGo E F me pc L (.long y :: .long x :: st) I := by
  intro p e s m args below meth c H locs ls C hP hS hl
  exact W.lcmp C.1 C.2.1 hd (h p e s m args below meth c H locs ls C hP hS hl)
theorem h_dup {v : Value} (hd : decode me.2.1 pc = .ok (.dup, 1)) (hv : v.category = 1) (h : HGo E F me (pc + 1) L (v :: v :: st) I) : HGo E F me pc L (v :: st) I := by
  intro p e s m args below meth c H locs ls C hP hS hl
  exact lv_dup C.1 C.2.1 hd ((lif_cat E v).trans hv) (h p e s m args below meth c H locs ls C hP hS hl)
theorem h_pop {v : Value} (hd : decode me.2.1 pc = .ok (.pop, 1)) (hv : v.category = 1) (h : HGo E F me (pc + 1) L st I) : HGo E F me pc L (v :: st) I := by
  intro p e s m args below meth c H locs ls C hP hS hl
  exact lv_pop C.1 C.2.1 hd ((lif_cat E v).trans hv) (h p e s m args below meth c H locs ls C hP hS hl)
theorem h_dup2 {v w : Value} (hd : decode me.2.1 pc = .ok (.dup2, 1)) (hv : v.category = 1) (hw : w.category = 1) (h : HGo E F me (pc + 1) L (v :: w :: v :: w :: st) I) : HGo E F me pc L (v :: w :: st) I := by
  intro p e s m args below meth c H locs ls C hP hS hl
  exact lv_dup2_11 C.1 C.2.1 hd ((lif_cat E v).trans hv) ((lif_cat E w).trans hw) (h p e s m args below meth c H locs ls C hP hS hl)
theorem h_goto {off : Int} {tgt : Nat} (hd : decode me.2.1 pc = .ok (.goto off, 3)) (ht : (pc : Int) + off = (tgt : Int)) (h : HGo E F me tgt L st I) : HGo E F me pc L st I := by
  intro p e s m args below meth c H locs ls C hP hS hl
  exact lv_goto C.1 C.2.1 hd ht (h p e s m args below meth c H locs ls C hP hS hl)
theorem h_if_eq {x : Int32} {off : Int} {tgt : Nat} (hd : decode me.2.1 pc = .ok (.ifCond .eq off, 3)) (ht : (pc : Int) + off = (tgt : Int)) (kt : x = 0 → HGo E F me tgt L st I) (kf : ¬ x = 0 → HGo E F me (pc + 3) L st I) : HGo E F me pc L (.int x :: st) I := by
  intro p e s m args below meth c H locs ls C hP hS hl
  exact lv_if_eq C.1 C.2.1 hd ht (fun q => kt q p e s m args below meth c H locs ls C hP hS hl) (fun q => kf q p e s m args below meth c H locs ls C hP hS hl)
theorem h_if_ne {x : Int32} {off : Int} {tgt : Nat} (hd : decode me.2.1 pc = .ok (.ifCond .ne off, 3)) (ht : (pc : Int) + off = (tgt : Int)) (kt : ¬ x = 0 → HGo E F me tgt L st I) (kf : x = 0 → HGo E F me (pc + 3) L st I) : HGo E F me pc L (.int x :: st) I := by
  intro p e s m args below meth c H locs ls C hP hS hl
  exact lv_if_ne C.1 C.2.1 hd ht (fun q => kt q p e s m args below meth c H locs ls C hP hS hl) (fun q => kf q p e s m args below meth c H locs ls C hP hS hl)
theorem h_if_lt {x : Int32} {off : Int} {tgt : Nat} (hd : decode me.2.1 pc = .ok (.ifCond .lt off, 3)) (ht : (pc : Int) + off = (tgt : Int)) (kt : x < 0 → HGo E F me tgt L st I) (kf : ¬ x < 0 → HGo E F me (pc + 3) L st I) : HGo E F me pc L (.int x :: st) I := by
  intro p e s m args below meth c H locs ls C hP hS hl
  exact lv_if_lt C.1 C.2.1 hd ht (fun q => kt q p e s m args below meth c H locs ls C hP hS hl) (fun q => kf q p e s m args below meth c H locs ls C hP hS hl)
theorem h_if_ge {x : Int32} {off : Int} {tgt : Nat} (hd : decode me.2.1 pc = .ok (.ifCond .ge off, 3)) (ht : (pc : Int) + off = (tgt : Int)) (kt : 0 ≤ x → HGo E F me tgt L st I) (kf : ¬ 0 ≤ x → HGo E F me (pc + 3) L st I) : HGo E F me pc L (.int x :: st) I := by
  intro p e s m args below meth c H locs ls C hP hS hl
  exact lv_if_ge C.1 C.2.1 hd ht (fun q => kt q p e s m args below meth c H locs ls C hP hS hl) (fun q => kf q p e s m args below meth c H locs ls C hP hS hl)
theorem h_if_gt {x : Int32} {off : Int} {tgt : Nat} (hd : decode me.2.1 pc = .ok (.ifCond .gt off, 3)) (ht : (pc : Int) + off = (tgt : Int)) (kt : 0 < x → HGo E F me tgt L st I) (kf : ¬ 0 < x → HGo E F me (pc + 3) L st I) : HGo E F me pc L (.int x :: st) I := by
  intro p e s m args below meth c H locs ls C hP hS hl
  exact lv_if_gt C.1 C.2.1 hd ht (fun q => kt q p e s m args below meth c H locs ls C hP hS hl) (fun q => kf q p e s m args below meth c H locs ls C hP hS hl)
theorem h_if_le {x : Int32} {off : Int} {tgt : Nat} (hd : decode me.2.1 pc = .ok (.ifCond .le off, 3)) (ht : (pc : Int) + off = (tgt : Int)) (kt : x ≤ 0 → HGo E F me tgt L st I) (kf : ¬ x ≤ 0 → HGo E F me (pc + 3) L st I) : HGo E F me pc L (.int x :: st) I := by
  intro p e s m args below meth c H locs ls C hP hS hl
  exact lv_if_le C.1 C.2.1 hd ht (fun q => kt q p e s m args below meth c H locs ls C hP hS hl) (fun q => kf q p e s m args below meth c H locs ls C hP hS hl)
theorem h_icmp_eq {x y : Int32} {off : Int} {tgt : Nat} (hd : decode me.2.1 pc = .ok (.if_icmp .eq off, 3)) (ht : (pc : Int) + off = (tgt : Int)) (kt : x = y → HGo E F me tgt L st I) (kf : ¬ x = y → HGo E F me (pc + 3) L st I) : HGo E F me pc L (.int y :: .int x :: st) I := by
  intro p e s m args below meth c H locs ls C hP hS hl
  exact lv_icmp_eq C.1 C.2.1 hd ht (fun q => kt q p e s m args below meth c H locs ls C hP hS hl) (fun q => kf q p e s m args below meth c H locs ls C hP hS hl)
theorem h_icmp_ne {x y : Int32} {off : Int} {tgt : Nat} (hd : decode me.2.1 pc = .ok (.if_icmp .ne off, 3)) (ht : (pc : Int) + off = (tgt : Int)) (kt : ¬ x = y → HGo E F me tgt L st I) (kf : x = y → HGo E F me (pc + 3) L st I) : HGo E F me pc L (.int y :: .int x :: st) I := by
  intro p e s m args below meth c H locs ls C hP hS hl
  exact lv_icmp_ne C.1 C.2.1 hd ht (fun q => kt q p e s m args below meth c H locs ls C hP hS hl) (fun q => kf q p e s m args below meth c H locs ls C hP hS hl)
theorem h_icmp_lt {x y : Int32} {off : Int} {tgt : Nat} (hd : decode me.2.1 pc = .ok (.if_icmp .lt off, 3)) (ht : (pc : Int) + off = (tgt : Int)) (kt : x < y → HGo E F me tgt L st I) (kf : ¬ x < y → HGo E F me (pc + 3) L st I) : HGo E F me pc L (.int y :: .int x :: st) I := by
  intro p e s m args below meth c H locs ls C hP hS hl
  exact lv_icmp_lt C.1 C.2.1 hd ht (fun q => kt q p e s m args below meth c H locs ls C hP hS hl) (fun q => kf q p e s m args below meth c H locs ls C hP hS hl)
theorem h_icmp_ge {x y : Int32} {off : Int} {tgt : Nat} (hd : decode me.2.1 pc = .ok (.if_icmp .ge off, 3)) (ht : (pc : Int) + off = (tgt : Int)) (kt : y ≤ x → HGo E F me tgt L st I) (kf : ¬ y ≤ x → HGo E F me (pc + 3) L st I) : HGo E F me pc L (.int y :: .int x :: st) I := by
  intro p e s m args below meth c H locs ls C hP hS hl
  exact lv_icmp_ge C.1 C.2.1 hd ht (fun q => kt q p e s m args below meth c H locs ls C hP hS hl) (fun q => kf q p e s m args below meth c H locs ls C hP hS hl)
theorem h_icmp_gt {x y : Int32} {off : Int} {tgt : Nat} (hd : decode me.2.1 pc = .ok (.if_icmp .gt off, 3)) (ht : (pc : Int) + off = (tgt : Int)) (kt : y < x → HGo E F me tgt L st I) (kf : ¬ y < x → HGo E F me (pc + 3) L st I) : HGo E F me pc L (.int y :: .int x :: st) I := by
  intro p e s m args below meth c H locs ls C hP hS hl
  exact lv_icmp_gt C.1 C.2.1 hd ht (fun q => kt q p e s m args below meth c H locs ls C hP hS hl) (fun q => kf q p e s m args below meth c H locs ls C hP hS hl)
theorem h_icmp_le {x y : Int32} {off : Int} {tgt : Nat} (hd : decode me.2.1 pc = .ok (.if_icmp .le off, 3)) (ht : (pc : Int) + off = (tgt : Int)) (kt : x ≤ y → HGo E F me tgt L st I) (kf : ¬ x ≤ y → HGo E F me (pc + 3) L st I) : HGo E F me pc L (.int y :: .int x :: st) I := by
  intro p e s m args below meth c H locs ls C hP hS hl
  exact lv_icmp_le C.1 C.2.1 hd ht (fun q => kt q p e s m args below meth c H locs ls C hP hS hl) (fun q => kf q p e s m args below meth c H locs ls C hP hS hl)
theorem h_tswIn {dflt lo hi : Int} {offs : Array Int} {len : Nat} {x : Int32} {off : Int} {tgt : Nat} (v : Int) (hd : decode me.2.1 pc = .ok (.tableswitch dflt lo hi offs, len)) (hx : x.toInt = v) (h1 : lo ≤ v) (h2 : v ≤ hi) (ho : offs[(v - lo).toNat]? = some off) (ht : (pc : Int) + off = (tgt : Int)) (h : HGo E F me tgt L st I) : HGo E F me pc L (.int x :: st) I := by
  intro p e s m args below meth c H locs ls C hP hS hl
  exact lv_tableIn C.1 C.2.1 hd (by rw [hx]; omega) (by rw [hx]; omega) (by rw [hx]; exact ho) ht (h p e s m args below meth c H locs ls C hP hS hl)
theorem h_tswOut {dflt lo hi : Int} {offs : Array Int} {len : Nat} {x : Int32} {tgt : Nat} (hd : decode me.2.1 pc = .ok (.tableswitch dflt lo hi offs, len)) (hx : x.toInt < lo ∨ hi < x.toInt) (ht : (pc : Int) + dflt = (tgt : Int)) (h : HGo E F me tgt L st I) : HGo E F me pc L (.int x :: st) I := by
  intro p e s m args below meth c H locs ls C hP hS hl
  exact lv_tableOut C.1 C.2.1 hd hx ht (h p e s m args below meth c H locs ls C hP hS hl)
theorem h_sub (L' : List (Nat × Value)) (hs : ∀ q ∈ L', q ∈ L) (h : HGo E F me pc L' st I) : HGo E F me pc L st I := by
  intro p e s m args below meth c H locs ls C hP hS hl
  exact h p e s m args below meth c H locs ls C hP hS ⟨hl.1, hl.2.1, fun q hq => by
    obtain ⟨z, hz, rfl⟩ := List.mem_map.mp hq
    exact hl.2.2 _ (List.mem_map.mpr ⟨z, hs z hz, rfl⟩)⟩
theorem cel_obj {k q : Nat} {f : Nat → Int32} (hk : Zk q = k) (h : k < 11) : cel E f q = .inr (k, flds E k f q) := by
  unfold cel
  rw [hk]
  match k, h with
  | 0, _ => rfl
  | 1, _ => rfl
  | 2, _ => rfl
  | 3, _ => rfl
  | 4, _ => rfl
  | 5, _ => rfl
  | 6, _ => rfl
  | 7, _ => rfl
  | 8, _ => rfl
  | 9, _ => rfl
  | 10, _ => rfl
  | k + 11, h => omega
theorem cel_11 {q : Nat} {f : Nat → Int32} (hk : Zk q = 11) : cel E f q = .inl (E.2.2.1.1, Zn q, .inl f) := by unfold cel; rw [hk]; rfl
theorem cel_12 {q : Nat} {f : Nat → Int32} (hk : Zk q = 12) : cel E f q = .inl (E.2.2.1.2.1, Zn q, .inl f) := by unfold cel; rw [hk]; rfl
theorem cel_13 {q : Nat} {f : Nat → Int32} (hk : Zk q = 13) : cel E f q = .inl (E.2.2.1.2.2.1, Zn q, .inr (.inr (.inr (.inr (fun j => some (E.2.2.2 (Zp q j))))))) := by unfold cel; rw [hk]; rfl
theorem cel_14 {q : Nat} {f : Nat → Int32} (hk : Zk q = 14) : cel E f q = .inl (E.2.2.1.2.2.2, Zn q, .inr (.inr (.inr (.inr (fun j => some (E.2.2.2 (Zp q j))))))) := by unfold cel; rw [hk]; rfl
theorem wget {k q : Nat} (hq : q < NL) (hk : Zk q = k) (h : k < 11) : (wld E I)[q]? = some (E.2.2.2 q, .inr (k, flds E k (I q) q)) := by rw [wld_get hq, cel_obj hk h]
/-- a field's link, a class's own or a nest mate's -/
def HLink (own : String) (index : Nat) (ref : String) (n d : String) : Prop := Cond.fieldLink own index ref n d ∈ TB ∨ ∃ hh, (own, index, ref, n, d, hh) ∈ nwF
theorem h_get {ci N j q index : Nat} {C ref : String} {T : u_T} {v v' : Value} (hd : decode me.2.1 pc = .ok (.getfield index, 3)) (hw : HLink me.1.cls index ref (T j).2.1 (T j).2.2.1) (hc : vwCl[ci]? = some (C, T, N)) (hin : ∀ w ∈ u_ws C T N, w ∈ TB) (hj : j < N) (hr : ref = (T j).1) (hci : ci < 11) (hq : q < NL) (hk : Zk q = ci) (hv : (flds E ci (I q) q)[j]? = some v') (hv' : v' = lif E v) (h : HGo E F me (pc + 3) L (v :: st) I) : HGo E F me pc L (.ref q :: st) I := by
  intro p e s m args below meth c H locs ls C0 hP hS hl
  subst hv'
  have hts : ∀ w ∈ TB, w.before args s = true := C0.2.2.2.2.2.1
  rcases hw with hw | ⟨hh, hw⟩
  · exact va_get C0.1 C0.2.1 hts hin C0.2.2.2.2.1 C0.2.2.2.2.2.2.2.1 hP q (wget hq hk hci) hc j hj (hts _ hw) (fun x hx => by rw [hr]; exact hx) hv hd (h p e s m args below meth c H locs ls C0 hP hS hl)
  · exact va_getN C0.1 C0.2.1 hts hin C0.2.2.2.2.1 C0.2.2.2.2.2.2.2.1 hP q (wget hq hk hci) hc j hj (va_Nw.use rfl (C0.2.2.2.2.2.2.2.2.1.1 _ hw)) (fun x hx => by rw [hr]; exact hx) hv hd (h p e s m args below meth c H locs ls C0 hP hS hl)
theorem h_put {ci N j q index : Nat} {C ref : String} {T : u_T} {x : Int32} {ty0 : Nat → FieldType} (hd : decode me.2.1 pc = .ok (.putfield index, 3)) (hw : HLink me.1.cls index ref (T j).2.1 (T j).2.2.1) (hc : vwCl[ci]? = some (C, T, N)) (hin : ∀ w ∈ u_ws C T N, w ∈ TB) (hty : ∀ k, k < N → parseFieldDescriptor (T k).2.2.1 = some (ty0 k)) (hnm : ∀ a, a < N → ∀ b, b < N → a ≠ b → (T a).2.1 ≠ (T b).2.1) (hj : j < N) (hr : ref = (T j).1) (hci : ci < 11) (hq : q < NL) (hk : Zk q = ci) (hfin : (T j).2.2.2 = false) (hdsc : parseFieldDescriptor (T j).2.2.1 = some .int) (hfl : (flds E ci (I q) q).set j (.int x) = flds E ci (upd (I q) j x) q) (hlen : (flds E ci (I q) q).length = N) (h : HGo E F me (pc + 3) L st (setI I q (upd (I q) j x))) : HGo E F me pc L (.int x :: .ref q :: st) I := by
  intro p e s m args below meth c H locs ls C0 hP hS hl
  have hts : ∀ w ∈ TB, w.before args s = true := C0.2.2.2.2.2.1
  have hD : va_D (F.2.2.2.1 s) (wld E I) := wld_D I C0.2.2.2.2.2.2.2.2.2.2.1 C0.2.2.2.2.2.2.2.2.2.2.2
  have hset : (wld E I).set q (E.2.2.2 q, .inr (ci, (flds E ci (I q) q).set j (.int x))) = wld E (setI I q (upd (I q) j x)) := by
    rw [hfl, ← cel_obj (E := E) hk hci]; exact wld_set _
  rcases hw with hw | ⟨hh, hw⟩
  · refine va_put C0.1 C0.2.1 hts hin ty0 hty hnm C0.2.2.2.2.1 C0.2.2.2.2.2.2.2.1 hP hD hS q (wget hq hk hci) hc j hj (hts _ hw) (fun y hy => by rw [hr]; exact hy) hfin (ty := .int) (v := .int x) hdsc rfl rfl (by rw [hlen]; exact hj) hd (fun H1 locs1 hP1 hD1 hS1 => ?_)
    rw [hset] at hP1
    exact h p e s m args below meth c H1 locs1 ls C0 hP1 hS1 hl
  · refine va_putN C0.1 C0.2.1 hts hin ty0 hty hnm C0.2.2.2.2.1 C0.2.2.2.2.2.2.2.1 hP hD hS q (wget hq hk hci) hc j hj (va_Nw.use rfl (C0.2.2.2.2.2.2.2.2.1.1 _ hw)) (fun y hy => by rw [hr]; exact hy) hfin (ty := .int) (v := .int x) hdsc rfl rfl (by rw [hlen]; exact hj) hd (fun H1 locs1 hP1 hD1 hS1 => ?_)
    rw [hset] at hP1
    exact h p e s m args below meth c H1 locs1 ls C0 hP1 hS1 hl
theorem h_iald {q : Nat} {i : Int32} (hd : decode me.2.1 pc = .ok (.iaload, 1)) (hq : q < NL) (hk : Zk q = 11) (hi : vp_in i (Zn q)) (h : HGo E F me (pc + 1) L (.int (I q i.toNatClampNeg) :: st) I) : HGo E F me pc L (.int i :: .ref q :: st) I := by
  intro p e s m args below meth c H locs ls C hP hS hl
  exact va_iald C.1 C.2.1 C.2.2.2.2.2.2.2.1 hP q 0 (by rw [wld_get hq, cel_11 hk]) rfl hi hd (h p e s m args below meth c H locs ls C hP hS hl)
theorem h_zald {q : Nat} {i : Int32} (hd : decode me.2.1 pc = .ok (.baload, 1)) (hq : q < NL) (hk : Zk q = 12) (hi : vp_in i (Zn q)) (h : HGo E F me (pc + 1) L (.int (I q i.toNatClampNeg) :: st) I) : HGo E F me pc L (.int i :: .ref q :: st) I := by
  intro p e s m args below meth c H locs ls C hP hS hl
  exact va_zald C.1 C.2.1 C.2.2.2.2.2.2.2.1 hP q 1 (by rw [wld_get hq, cel_12 hk]) rfl hi hd (h p e s m args below meth c H locs ls C hP hS hl)
theorem h_aald13 {q : Nat} {i : Int32} (hd : decode me.2.1 pc = .ok (.aaload, 1)) (hq : q < NL) (hk : Zk q = 13) (hi : vp_in i (Zn q)) (h : HGo E F me (pc + 1) L (.ref (Zp q i.toNatClampNeg) :: st) I) : HGo E F me pc L (.int i :: .ref q :: st) I := by
  intro p e s m args below meth c H locs ls C hP hS hl
  exact va_aldq (f := fun j => some (E.2.2.2 (Zp q j))) C.1 C.2.1 C.2.2.2.2.2.2.2.1 hP q 2 (by rw [wld_get hq, cel_13 hk]) rfl hi hd (h p e s m args below meth c H locs ls C hP hS hl)
theorem h_aald14 {q : Nat} {i : Int32} (hd : decode me.2.1 pc = .ok (.aaload, 1)) (hq : q < NL) (hk : Zk q = 14) (hi : vp_in i (Zn q)) (h : HGo E F me (pc + 1) L (.ref (Zp q i.toNatClampNeg) :: st) I) : HGo E F me pc L (.int i :: .ref q :: st) I := by
  intro p e s m args below meth c H locs ls C hP hS hl
  have hlt : i.toNatClampNeg < Zn q := Nat.not_le.mp fun z => hi (Or.inr z)
  have hw : (wld E I)[q]? = some (E.2.2.2 q, .inl (E.2.2.1.2.2.2, Zn q, .inr (.inr (.inr (.inr (fun j => some (E.2.2.2 (Zp q j)))))))) := by rw [wld_get hq, cel_14 hk]
  exact W.aald (v := .ref (E.2.2.2 (Zp q i.toNatClampNeg))) (ty := .array .int) C.1 C.2.1 (hP q _ hw) ((C.2.2.2.2.2.2.2.1.2 3 _ rfl).1 (Zn q) (fun j => va_rf (some (E.2.2.2 (Zp q j))))) rfl (fun z => by cases z) (by show ¬ (i < 0 ∨ (arrV _ _ _).slots.size ≤ _); rw [arrV_size]; exact hi) (by show (arrV _ _ _).slots[_]? = _; rw [arrV_read _ _ hlt]; rfl) rfl rfl hd (h p e s m args below meth c H locs ls C hP hS hl)
theorem h_iast {q : Nat} {i x : Int32} (hd : decode me.2.1 pc = .ok (.iastore, 1)) (hq : q < NL) (hk : Zk q = 11) (hi : vp_in i (Zn q)) (h : HGo E F me (pc + 1) L st (setI I q (upd (I q) i.toNatClampNeg x))) : HGo E F me pc L (.int x :: .int i :: .ref q :: st) I := by
  intro p e s m args below meth c H locs ls C hP hS hl
  have hD : va_D (F.2.2.2.1 s) (wld E I) := wld_D I C.2.2.2.2.2.2.2.2.2.2.1 C.2.2.2.2.2.2.2.2.2.2.2
  refine va_iast C.1 C.2.1 C.2.2.2.2.2.2.2.1 hP hD hS q 0 (by rw [wld_get hq, cel_11 hk]) rfl hi hd (fun H1 locs1 hP1 hD1 hS1 => ?_)
  rw [← cel_11 (E := E) hk, wld_set] at hP1
  exact h p e s m args below meth c H1 locs1 ls C hP1 hS1 hl
theorem h_zast {q : Nat} {i x : Int32} (hd : decode me.2.1 pc = .ok (.bastore, 1)) (hq : q < NL) (hk : Zk q = 12) (hi : vp_in i (Zn q)) (hx : vp_nar .boolean x = x) (h : HGo E F me (pc + 1) L st (setI I q (upd (I q) i.toNatClampNeg x))) : HGo E F me pc L (.int x :: .int i :: .ref q :: st) I := by
  intro p e s m args below meth c H locs ls C hP hS hl
  have hD : va_D (F.2.2.2.1 s) (wld E I) := wld_D I C.2.2.2.2.2.2.2.2.2.2.1 C.2.2.2.2.2.2.2.2.2.2.2
  refine va_zast C.1 C.2.1 C.2.2.2.2.2.2.2.1 hP hD hS q 1 (by rw [wld_get hq, cel_12 hk]) rfl hi hd (fun H1 locs1 hP1 hD1 hS1 => ?_)
  rw [hx, ← cel_12 (E := E) hk, wld_set] at hP1
  exact h p e s m args below meth c H1 locs1 ls C hP1 hS1 hl
theorem h_alen {q : Nat} {v : Int32} (hd : decode me.2.1 pc = .ok (.arraylength, 1)) (hq : q < NL) (hk : Zk q = 11) (hv : Int32.ofNat (Zn q) = v) (h : HGo E F me (pc + 1) L (.int v :: st) I) : HGo E F me pc L (.ref q :: st) I := by
  intro p e s m args below meth c H locs ls C hP hS hl
  exact va_alen C.1 C.2.1 C.2.2.2.2.2.2.2.1 hP q 0 (by rw [wld_get hq, cel_11 hk]) rfl hv hd (h p e s m args below meth c H locs ls C hP hS hl)
theorem h_aald13z {q r : Nat} {i : Int32} (hd : decode me.2.1 pc = .ok (.aaload, 1)) (hq : q < NL) (hk : Zk q = 13) (hi : vp_in i (Zn q)) (hz : Zp q i.toNatClampNeg = r) (h : HGo E F me (pc + 1) L (.ref r :: st) I) : HGo E F me pc L (.int i :: .ref q :: st) I := by
  subst hz
  exact h_aald13 hd hq hk hi h
theorem h_aald14z {q r : Nat} {i : Int32} (hd : decode me.2.1 pc = .ok (.aaload, 1)) (hq : q < NL) (hk : Zk q = 14) (hi : vp_in i (Zn q)) (hz : Zp q i.toNatClampNeg = r) (h : HGo E F me (pc + 1) L (.ref r :: st) I) : HGo E F me pc L (.int i :: .ref q :: st) I := by
  subst hz
  exact h_aald14 hd hq hk hi h
end HST
