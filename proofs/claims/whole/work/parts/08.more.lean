/-! a literal on the stack -/
theorem h_ldcS {E : HEn} {F : HFx} {me : HMe} {pc index : Nat} {L : List (Nat × Value)} {st : List Value} {I : HIh} (k : Nat) (hd : decode me.2.1 pc = .ok (.ldc index, 2)) (hk : (strX.getD k (0, "")).1 = index) (hc : me.1.cls = "ThrownCoins$Text") (hk2 : k < 10) (h : HGo E F me (pc + 2) L (.ref (1000 + k) :: st) I) : HGo E F me pc L st I := by
  intro p e s m args below meth c H locs ls C hP hS hl
  have hown := C.2.2.2.2.1
  rw [hc] at hown
  have hZ := C.2.2.2.2.2.2.2.2.2.1.2.1 k hk2
  rw [hk] at hZ
  exact va_ldcS C.1 C.2.1 hown hZ hd (h p e s m args below meth c H locs ls C hP hS hl)
