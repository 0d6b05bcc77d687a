section
-- ===== PART A: goes FIRST, ahead of the names: the tables' words, and 'selects' of the private methods out of them =====
/-- a private method of a class that the tables say can be made, by its rows of tables_1 -/
def lw_okq (q : MethodName × Nat) : Prop := (q.1.cls ≠ "java/lang/invoke/MethodHandle" ∧ q.1.cls ≠ "java/lang/invoke/VarHandle") ∧ Cond.instantiable q.1.cls q.2 ∈ tables_1 ∧ Cond.privateMethod q.1 ∈ tables_1 ∧ Cond.instanceMethod q.1 ∈ tables_1
theorem lw_p0 : lw_okq (⟨"ThrownCoins$Text", "nextToken", "()V"⟩, 8) := ⟨⟨by decide +kernel, by decide +kernel⟩, List.mem_of_getElem? (i := 139) (by decide +kernel), List.mem_of_getElem? (i := 304) (by decide +kernel), List.mem_of_getElem? (i := 305) (by decide +kernel)⟩
theorem lw_p1 : lw_okq (⟨"ThrownCoins$Text", "byteAt", "(I)I"⟩, 8) := ⟨⟨by decide +kernel, by decide +kernel⟩, List.mem_of_getElem? (i := 139) (by decide +kernel), List.mem_of_getElem? (i := 308) (by decide +kernel), List.mem_of_getElem? (i := 309) (by decide +kernel)⟩
theorem lw_p2 : lw_okq (⟨"ThrownCoins$Text", "readLine", "()Z"⟩, 8) := ⟨⟨by decide +kernel, by decide +kernel⟩, List.mem_of_getElem? (i := 139) (by decide +kernel), List.mem_of_getElem? (i := 318) (by decide +kernel), List.mem_of_getElem? (i := 319) (by decide +kernel)⟩
theorem lw_p3 : lw_okq (⟨"ThrownCoins$Text", "readWord", "(Ljava/lang/String;)Z"⟩, 8) := ⟨⟨by decide +kernel, by decide +kernel⟩, List.mem_of_getElem? (i := 139) (by decide +kernel), List.mem_of_getElem? (i := 323) (by decide +kernel), List.mem_of_getElem? (i := 324) (by decide +kernel)⟩
theorem lw_p4 : lw_okq (⟨"ThrownCoins$Text", "readCoins", "()Z"⟩, 8) := ⟨⟨by decide +kernel, by decide +kernel⟩, List.mem_of_getElem? (i := 139) (by decide +kernel), List.mem_of_getElem? (i := 375) (by decide +kernel), List.mem_of_getElem? (i := 376) (by decide +kernel)⟩
theorem lw_p5 : lw_okq (⟨"ThrownCoins$Text", "readNumber", "(II)Z"⟩, 8) := ⟨⟨by decide +kernel, by decide +kernel⟩, List.mem_of_getElem? (i := 139) (by decide +kernel), List.mem_of_getElem? (i := 383) (by decide +kernel), List.mem_of_getElem? (i := 384) (by decide +kernel)⟩
theorem lw_p6 : lw_okq (⟨"ThrownCoins$Text", "readAmount", "(I)Z"⟩, 8) := ⟨⟨by decide +kernel, by decide +kernel⟩, List.mem_of_getElem? (i := 139) (by decide +kernel), List.mem_of_getElem? (i := 392) (by decide +kernel), List.mem_of_getElem? (i := 393) (by decide +kernel)⟩
theorem lw_p7 : lw_okq (⟨"ThrownCoins$Text", "readHabit", "(I)Z"⟩, 8) := ⟨⟨by decide +kernel, by decide +kernel⟩, List.mem_of_getElem? (i := 139) (by decide +kernel), List.mem_of_getElem? (i := 406) (by decide +kernel), List.mem_of_getElem? (i := 407) (by decide +kernel)⟩
theorem lw_p8 : lw_okq (⟨"ThrownCoins$Text", "readWaiting", "()Z"⟩, 8) := ⟨⟨by decide +kernel, by decide +kernel⟩, List.mem_of_getElem? (i := 139) (by decide +kernel), List.mem_of_getElem? (i := 419) (by decide +kernel), List.mem_of_getElem? (i := 420) (by decide +kernel)⟩
theorem lw_p9 : lw_okq (⟨"ThrownCoins$Text", "readVisits", "()Z"⟩, 8) := ⟨⟨by decide +kernel, by decide +kernel⟩, List.mem_of_getElem? (i := 139) (by decide +kernel), List.mem_of_getElem? (i := 425) (by decide +kernel), List.mem_of_getElem? (i := 426) (by decide +kernel)⟩
theorem lw_p10 : lw_okq (⟨"ThrownCoins$Text", "readLaw", "()Z"⟩, 8) := ⟨⟨by decide +kernel, by decide +kernel⟩, List.mem_of_getElem? (i := 139) (by decide +kernel), List.mem_of_getElem? (i := 434) (by decide +kernel), List.mem_of_getElem? (i := 435) (by decide +kernel)⟩
theorem lw_p11 : lw_okq (⟨"ThrownCoins$Text", "leaveAlone", "()Z"⟩, 8) := ⟨⟨by decide +kernel, by decide +kernel⟩, List.mem_of_getElem? (i := 139) (by decide +kernel), List.mem_of_getElem? (i := 439) (by decide +kernel), List.mem_of_getElem? (i := 440) (by decide +kernel)⟩
theorem lw_p12 : lw_okq (⟨"ThrownCoins$Text", "isSemicolon", "()Z"⟩, 8) := ⟨⟨by decide +kernel, by decide +kernel⟩, List.mem_of_getElem? (i := 139) (by decide +kernel), List.mem_of_getElem? (i := 443) (by decide +kernel), List.mem_of_getElem? (i := 444) (by decide +kernel)⟩
theorem lw_p13 : lw_okq (⟨"ThrownCoins$Told", "greatestTaken", "(I)I"⟩, 12) := ⟨⟨by decide +kernel, by decide +kernel⟩, List.mem_of_getElem? (i := 29) (by decide +kernel), List.mem_of_getElem? (i := 562) (by decide +kernel), List.mem_of_getElem? (i := 563) (by decide +kernel)⟩
theorem lw_p14 : lw_okq (⟨"ThrownCoins$Told", "mostTakenOfKind", "()I"⟩, 12) := ⟨⟨by decide +kernel, by decide +kernel⟩, List.mem_of_getElem? (i := 29) (by decide +kernel), List.mem_of_getElem? (i := 566) (by decide +kernel), List.mem_of_getElem? (i := 567) (by decide +kernel)⟩
theorem lw_p15 : lw_okq (⟨"ThrownCoins$Told", "takesOneKind", "()Z"⟩, 12) := ⟨⟨by decide +kernel, by decide +kernel⟩, List.mem_of_getElem? (i := 29) (by decide +kernel), List.mem_of_getElem? (i := 572) (by decide +kernel), List.mem_of_getElem? (i := 573) (by decide +kernel)⟩
def lw_privs_1 : List (MethodName × Nat) := [(⟨"ThrownCoins$Text", "nextToken", "()V"⟩, 8), (⟨"ThrownCoins$Text", "byteAt", "(I)I"⟩, 8), (⟨"ThrownCoins$Text", "readLine", "()Z"⟩, 8), (⟨"ThrownCoins$Text", "readWord", "(Ljava/lang/String;)Z"⟩, 8), (⟨"ThrownCoins$Text", "readCoins", "()Z"⟩, 8), (⟨"ThrownCoins$Text", "readNumber", "(II)Z"⟩, 8), (⟨"ThrownCoins$Text", "readAmount", "(I)Z"⟩, 8), (⟨"ThrownCoins$Text", "readHabit", "(I)Z"⟩, 8), (⟨"ThrownCoins$Text", "readWaiting", "()Z"⟩, 8), (⟨"ThrownCoins$Text", "readVisits", "()Z"⟩, 8), (⟨"ThrownCoins$Text", "readLaw", "()Z"⟩, 8), (⟨"ThrownCoins$Text", "leaveAlone", "()Z"⟩, 8), (⟨"ThrownCoins$Text", "isSemicolon", "()Z"⟩, 8), (⟨"ThrownCoins$Told", "greatestTaken", "(I)I"⟩, 12), (⟨"ThrownCoins$Told", "mostTakenOfKind", "()I"⟩, 12), (⟨"ThrownCoins$Told", "takesOneKind", "()Z"⟩, 12)]
theorem lw_r1 : ∀ q ∈ lw_privs_1, lw_okq q := List.forall_mem_cons.mpr ⟨lw_p0, List.forall_mem_cons.mpr ⟨lw_p1, List.forall_mem_cons.mpr ⟨lw_p2, List.forall_mem_cons.mpr ⟨lw_p3, List.forall_mem_cons.mpr ⟨lw_p4, List.forall_mem_cons.mpr ⟨lw_p5, List.forall_mem_cons.mpr ⟨lw_p6, List.forall_mem_cons.mpr ⟨lw_p7, List.forall_mem_cons.mpr ⟨lw_p8, List.forall_mem_cons.mpr ⟨lw_p9, List.forall_mem_cons.mpr ⟨lw_p10, List.forall_mem_cons.mpr ⟨lw_p11, List.forall_mem_cons.mpr ⟨lw_p12, List.forall_mem_cons.mpr ⟨lw_p13, List.forall_mem_cons.mpr ⟨lw_p14, List.forall_mem_cons.mpr ⟨lw_p15, fun _ h => absurd h List.not_mem_nil⟩⟩⟩⟩⟩⟩⟩⟩⟩⟩⟩⟩⟩⟩⟩⟩
theorem lw_p16 : lw_okq (⟨"ThrownCoins$Foretelling", "isFree", "(I)Z"⟩, 8) := ⟨⟨by decide +kernel, by decide +kernel⟩, List.mem_of_getElem? (i := 175) (by decide +kernel), List.mem_of_getElem? (i := 637) (by decide +kernel), List.mem_of_getElem? (i := 638) (by decide +kernel)⟩
theorem lw_p17 : lw_okq (⟨"ThrownCoins$Foretelling", "goalOf", "(I)I"⟩, 8) := ⟨⟨by decide +kernel, by decide +kernel⟩, List.mem_of_getElem? (i := 175) (by decide +kernel), List.mem_of_getElem? (i := 641) (by decide +kernel), List.mem_of_getElem? (i := 642) (by decide +kernel)⟩
theorem lw_p18 : lw_okq (⟨"ThrownCoins$Foretelling", "settle", "(I)V"⟩, 8) := ⟨⟨by decide +kernel, by decide +kernel⟩, List.mem_of_getElem? (i := 175) (by decide +kernel), List.mem_of_getElem? (i := 652) (by decide +kernel), List.mem_of_getElem? (i := 653) (by decide +kernel)⟩
theorem lw_p19 : lw_okq (⟨"ThrownCoins$Foretelling", "comesAgain", "(II)Z"⟩, 8) := ⟨⟨by decide +kernel, by decide +kernel⟩, List.mem_of_getElem? (i := 175) (by decide +kernel), List.mem_of_getElem? (i := 657) (by decide +kernel), List.mem_of_getElem? (i := 658) (by decide +kernel)⟩
theorem lw_p20 : lw_okq (⟨"ThrownCoins$Foretelling", "reached", "(II)I"⟩, 8) := ⟨⟨by decide +kernel, by decide +kernel⟩, List.mem_of_getElem? (i := 175) (by decide +kernel), List.mem_of_getElem? (i := 663) (by decide +kernel), List.mem_of_getElem? (i := 664) (by decide +kernel)⟩
theorem lw_p21 : lw_okq (⟨"ThrownCoins$Foretelling", "takeOver", "(II)V"⟩, 8) := ⟨⟨by decide +kernel, by decide +kernel⟩, List.mem_of_getElem? (i := 175) (by decide +kernel), List.mem_of_getElem? (i := 667) (by decide +kernel), List.mem_of_getElem? (i := 668) (by decide +kernel)⟩
theorem lw_p22 : lw_okq (⟨"ThrownCoins", "tooLongForGame", "()Z"⟩, 7) := ⟨⟨by decide +kernel, by decide +kernel⟩, List.mem_of_getElem? (i := 21) (by decide +kernel), List.mem_of_getElem? (i := 684) (by decide +kernel), List.mem_of_getElem? (i := 685) (by decide +kernel)⟩
theorem lw_p23 : lw_okq (⟨"ThrownCoins$Foretelling", "tempts", "(IIII)Z"⟩, 8) := ⟨⟨by decide +kernel, by decide +kernel⟩, List.mem_of_getElem? (i := 175) (by decide +kernel), List.mem_of_getElem? (i := 735) (by decide +kernel), List.mem_of_getElem? (i := 736) (by decide +kernel)⟩
theorem lw_p24 : lw_okq (⟨"ThrownCoins$Foretelling", "putIn", "(IIII)V"⟩, 8) := ⟨⟨by decide +kernel, by decide +kernel⟩, List.mem_of_getElem? (i := 175) (by decide +kernel), List.mem_of_getElem? (i := 739) (by decide +kernel), List.mem_of_getElem? (i := 740) (by decide +kernel)⟩
theorem lw_p25 : lw_okq (⟨"ThrownCoins$Notes", "fits", "(I)Z"⟩, 9) := ⟨⟨by decide +kernel, by decide +kernel⟩, List.mem_of_getElem? (i := 210) (by decide +kernel), List.mem_of_getElem? (i := 766) (by decide +kernel), List.mem_of_getElem? (i := 767) (by decide +kernel)⟩
theorem lw_p26 : lw_okq (⟨"ThrownCoins$Notes", "figureOf", "(II)I"⟩, 9) := ⟨⟨by decide +kernel, by decide +kernel⟩, List.mem_of_getElem? (i := 210) (by decide +kernel), List.mem_of_getElem? (i := 771) (by decide +kernel), List.mem_of_getElem? (i := 772) (by decide +kernel)⟩
theorem lw_p27 : lw_okq (⟨"ThrownCoins$Notes", "tally", "(I)V"⟩, 9) := ⟨⟨by decide +kernel, by decide +kernel⟩, List.mem_of_getElem? (i := 210) (by decide +kernel), List.mem_of_getElem? (i := 779) (by decide +kernel), List.mem_of_getElem? (i := 780) (by decide +kernel)⟩
theorem lw_p28 : lw_okq (⟨"ThrownCoins", "wealthOfAll", "()I"⟩, 7) := ⟨⟨by decide +kernel, by decide +kernel⟩, List.mem_of_getElem? (i := 21) (by decide +kernel), List.mem_of_getElem? (i := 804) (by decide +kernel), List.mem_of_getElem? (i := 805) (by decide +kernel)⟩
theorem lw_p29 : lw_okq (⟨"ThrownCoinsModel", "token", "()V"⟩, 28) := ⟨⟨by decide +kernel, by decide +kernel⟩, List.mem_of_getElem? (i := 808) (by decide +kernel), List.mem_of_getElem? (i := 917) (by decide +kernel), List.mem_of_getElem? (i := 918) (by decide +kernel)⟩
theorem lw_p30 : lw_okq (⟨"ThrownCoinsModel", "readsLine", "()Z"⟩, 28) := ⟨⟨by decide +kernel, by decide +kernel⟩, List.mem_of_getElem? (i := 808) (by decide +kernel), List.mem_of_getElem? (i := 924) (by decide +kernel), List.mem_of_getElem? (i := 925) (by decide +kernel)⟩
theorem lw_p31 : lw_okq (⟨"ThrownCoinsModel", "wordOf", "()I"⟩, 28) := ⟨⟨by decide +kernel, by decide +kernel⟩, List.mem_of_getElem? (i := 808) (by decide +kernel), List.mem_of_getElem? (i := 928) (by decide +kernel), List.mem_of_getElem? (i := 929) (by decide +kernel)⟩
def lw_privs_2 : List (MethodName × Nat) := [(⟨"ThrownCoins$Foretelling", "isFree", "(I)Z"⟩, 8), (⟨"ThrownCoins$Foretelling", "goalOf", "(I)I"⟩, 8), (⟨"ThrownCoins$Foretelling", "settle", "(I)V"⟩, 8), (⟨"ThrownCoins$Foretelling", "comesAgain", "(II)Z"⟩, 8), (⟨"ThrownCoins$Foretelling", "reached", "(II)I"⟩, 8), (⟨"ThrownCoins$Foretelling", "takeOver", "(II)V"⟩, 8), (⟨"ThrownCoins", "tooLongForGame", "()Z"⟩, 7), (⟨"ThrownCoins$Foretelling", "tempts", "(IIII)Z"⟩, 8), (⟨"ThrownCoins$Foretelling", "putIn", "(IIII)V"⟩, 8), (⟨"ThrownCoins$Notes", "fits", "(I)Z"⟩, 9), (⟨"ThrownCoins$Notes", "figureOf", "(II)I"⟩, 9), (⟨"ThrownCoins$Notes", "tally", "(I)V"⟩, 9), (⟨"ThrownCoins", "wealthOfAll", "()I"⟩, 7), (⟨"ThrownCoinsModel", "token", "()V"⟩, 28), (⟨"ThrownCoinsModel", "readsLine", "()Z"⟩, 28), (⟨"ThrownCoinsModel", "wordOf", "()I"⟩, 28)]
theorem lw_r2 : ∀ q ∈ lw_privs_2, lw_okq q := List.forall_mem_cons.mpr ⟨lw_p16, List.forall_mem_cons.mpr ⟨lw_p17, List.forall_mem_cons.mpr ⟨lw_p18, List.forall_mem_cons.mpr ⟨lw_p19, List.forall_mem_cons.mpr ⟨lw_p20, List.forall_mem_cons.mpr ⟨lw_p21, List.forall_mem_cons.mpr ⟨lw_p22, List.forall_mem_cons.mpr ⟨lw_p23, List.forall_mem_cons.mpr ⟨lw_p24, List.forall_mem_cons.mpr ⟨lw_p25, List.forall_mem_cons.mpr ⟨lw_p26, List.forall_mem_cons.mpr ⟨lw_p27, List.forall_mem_cons.mpr ⟨lw_p28, List.forall_mem_cons.mpr ⟨lw_p29, List.forall_mem_cons.mpr ⟨lw_p30, List.forall_mem_cons.mpr ⟨lw_p31, fun _ h => absurd h List.not_mem_nil⟩⟩⟩⟩⟩⟩⟩⟩⟩⟩⟩⟩⟩⟩⟩⟩
theorem lw_p32 : lw_okq (⟨"ThrownCoinsModel", "habitWord", "()I"⟩, 28) := ⟨⟨by decide +kernel, by decide +kernel⟩, List.mem_of_getElem? (i := 808) (by decide +kernel), List.mem_of_getElem? (i := 932) (by decide +kernel), List.mem_of_getElem? (i := 933) (by decide +kernel)⟩
theorem lw_p33 : lw_okq (⟨"ThrownCoinsModel", "isWord", "(JI)Z"⟩, 28) := ⟨⟨by decide +kernel, by decide +kernel⟩, List.mem_of_getElem? (i := 808) (by decide +kernel), List.mem_of_getElem? (i := 937) (by decide +kernel), List.mem_of_getElem? (i := 938) (by decide +kernel)⟩
theorem lw_p34 : lw_okq (⟨"ThrownCoinsModel", "readsRest", "(I)Z"⟩, 28) := ⟨⟨by decide +kernel, by decide +kernel⟩, List.mem_of_getElem? (i := 808) (by decide +kernel), List.mem_of_getElem? (i := 951) (by decide +kernel), List.mem_of_getElem? (i := 952) (by decide +kernel)⟩
theorem lw_p35 : lw_okq (⟨"ThrownCoinsModel", "readsCoins", "()Z"⟩, 28) := ⟨⟨by decide +kernel, by decide +kernel⟩, List.mem_of_getElem? (i := 808) (by decide +kernel), List.mem_of_getElem? (i := 955) (by decide +kernel), List.mem_of_getElem? (i := 956) (by decide +kernel)⟩
theorem lw_p36 : lw_okq (⟨"ThrownCoinsModel", "isNumber", "()Z"⟩, 28) := ⟨⟨by decide +kernel, by decide +kernel⟩, List.mem_of_getElem? (i := 808) (by decide +kernel), List.mem_of_getElem? (i := 959) (by decide +kernel), List.mem_of_getElem? (i := 960) (by decide +kernel)⟩
theorem lw_p37 : lw_okq (⟨"ThrownCoinsModel", "reads", "(II)Z"⟩, 28) := ⟨⟨by decide +kernel, by decide +kernel⟩, List.mem_of_getElem? (i := 808) (by decide +kernel), List.mem_of_getElem? (i := 963) (by decide +kernel), List.mem_of_getElem? (i := 964) (by decide +kernel)⟩
theorem lw_p38 : lw_okq (⟨"ThrownCoinsModel", "readsCome", "()Z"⟩, 28) := ⟨⟨by decide +kernel, by decide +kernel⟩, List.mem_of_getElem? (i := 808) (by decide +kernel), List.mem_of_getElem? (i := 967) (by decide +kernel), List.mem_of_getElem? (i := 968) (by decide +kernel)⟩
theorem lw_p39 : lw_okq (⟨"ThrownCoinsModel", "tell", "(I)V"⟩, 28) := ⟨⟨by decide +kernel, by decide +kernel⟩, List.mem_of_getElem? (i := 808) (by decide +kernel), List.mem_of_getElem? (i := 976) (by decide +kernel), List.mem_of_getElem? (i := 977) (by decide +kernel)⟩
theorem lw_p40 : lw_okq (⟨"ThrownCoinsModel", "tellCoins", "(I)V"⟩, 28) := ⟨⟨by decide +kernel, by decide +kernel⟩, List.mem_of_getElem? (i := 808) (by decide +kernel), List.mem_of_getElem? (i := 980) (by decide +kernel), List.mem_of_getElem? (i := 981) (by decide +kernel)⟩
theorem lw_p41 : lw_okq (⟨"ThrownCoinsModel", "tellCome", "(I)V"⟩, 28) := ⟨⟨by decide +kernel, by decide +kernel⟩, List.mem_of_getElem? (i := 808) (by decide +kernel), List.mem_of_getElem? (i := 984) (by decide +kernel), List.mem_of_getElem? (i := 985) (by decide +kernel)⟩
theorem lw_p42 : lw_okq (⟨"ThrownCoinsModel", "begin", "()V"⟩, 28) := ⟨⟨by decide +kernel, by decide +kernel⟩, List.mem_of_getElem? (i := 808) (by decide +kernel), List.mem_of_getElem? (i := 988) (by decide +kernel), List.mem_of_getElem? (i := 989) (by decide +kernel)⟩
theorem lw_p43 : lw_okq (⟨"ThrownCoinsModel", "isKind", "(I)Z"⟩, 28) := ⟨⟨by decide +kernel, by decide +kernel⟩, List.mem_of_getElem? (i := 808) (by decide +kernel), List.mem_of_getElem? (i := 996) (by decide +kernel), List.mem_of_getElem? (i := 997) (by decide +kernel)⟩
theorem lw_p44 : lw_okq (⟨"ThrownCoinsModel", "worthOf", "(II)I"⟩, 28) := ⟨⟨by decide +kernel, by decide +kernel⟩, List.mem_of_getElem? (i := 808) (by decide +kernel), List.mem_of_getElem? (i := 1012) (by decide +kernel), List.mem_of_getElem? (i := 1013) (by decide +kernel)⟩
theorem lw_p45 : lw_okq (⟨"ThrownCoinsModel", "leftOf", "(I)I"⟩, 28) := ⟨⟨by decide +kernel, by decide +kernel⟩, List.mem_of_getElem? (i := 808) (by decide +kernel), List.mem_of_getElem? (i := 1016) (by decide +kernel), List.mem_of_getElem? (i := 1017) (by decide +kernel)⟩
theorem lw_p46 : lw_okq (⟨"ThrownCoinsModel", "byHabit", "(II)I"⟩, 28) := ⟨⟨by decide +kernel, by decide +kernel⟩, List.mem_of_getElem? (i := 808) (by decide +kernel), List.mem_of_getElem? (i := 1028) (by decide +kernel), List.mem_of_getElem? (i := 1029) (by decide +kernel)⟩
theorem lw_p47 : lw_okq (⟨"ThrownCoinsModel", "isHad", "(III)Z"⟩, 28) := ⟨⟨by decide +kernel, by decide +kernel⟩, List.mem_of_getElem? (i := 808) (by decide +kernel), List.mem_of_getElem? (i := 1032) (by decide +kernel), List.mem_of_getElem? (i := 1033) (by decide +kernel)⟩
def lw_privs_3 : List (MethodName × Nat) := [(⟨"ThrownCoinsModel", "habitWord", "()I"⟩, 28), (⟨"ThrownCoinsModel", "isWord", "(JI)Z"⟩, 28), (⟨"ThrownCoinsModel", "readsRest", "(I)Z"⟩, 28), (⟨"ThrownCoinsModel", "readsCoins", "()Z"⟩, 28), (⟨"ThrownCoinsModel", "isNumber", "()Z"⟩, 28), (⟨"ThrownCoinsModel", "reads", "(II)Z"⟩, 28), (⟨"ThrownCoinsModel", "readsCome", "()Z"⟩, 28), (⟨"ThrownCoinsModel", "tell", "(I)V"⟩, 28), (⟨"ThrownCoinsModel", "tellCoins", "(I)V"⟩, 28), (⟨"ThrownCoinsModel", "tellCome", "(I)V"⟩, 28), (⟨"ThrownCoinsModel", "begin", "()V"⟩, 28), (⟨"ThrownCoinsModel", "isKind", "(I)Z"⟩, 28), (⟨"ThrownCoinsModel", "worthOf", "(II)I"⟩, 28), (⟨"ThrownCoinsModel", "leftOf", "(I)I"⟩, 28), (⟨"ThrownCoinsModel", "byHabit", "(II)I"⟩, 28), (⟨"ThrownCoinsModel", "isHad", "(III)Z"⟩, 28)]
theorem lw_r3 : ∀ q ∈ lw_privs_3, lw_okq q := List.forall_mem_cons.mpr ⟨lw_p32, List.forall_mem_cons.mpr ⟨lw_p33, List.forall_mem_cons.mpr ⟨lw_p34, List.forall_mem_cons.mpr ⟨lw_p35, List.forall_mem_cons.mpr ⟨lw_p36, List.forall_mem_cons.mpr ⟨lw_p37, List.forall_mem_cons.mpr ⟨lw_p38, List.forall_mem_cons.mpr ⟨lw_p39, List.forall_mem_cons.mpr ⟨lw_p40, List.forall_mem_cons.mpr ⟨lw_p41, List.forall_mem_cons.mpr ⟨lw_p42, List.forall_mem_cons.mpr ⟨lw_p43, List.forall_mem_cons.mpr ⟨lw_p44, List.forall_mem_cons.mpr ⟨lw_p45, List.forall_mem_cons.mpr ⟨lw_p46, List.forall_mem_cons.mpr ⟨lw_p47, fun _ h => absurd h List.not_mem_nil⟩⟩⟩⟩⟩⟩⟩⟩⟩⟩⟩⟩⟩⟩⟩⟩
theorem lw_p48 : lw_okq (⟨"ThrownCoinsModel", "gainOf", "(II)I"⟩, 28) := ⟨⟨by decide +kernel, by decide +kernel⟩, List.mem_of_getElem? (i := 808) (by decide +kernel), List.mem_of_getElem? (i := 1036) (by decide +kernel), List.mem_of_getElem? (i := 1037) (by decide +kernel)⟩
theorem lw_p49 : lw_okq (⟨"ThrownCoinsModel", "layTakes", "(II)I"⟩, 28) := ⟨⟨by decide +kernel, by decide +kernel⟩, List.mem_of_getElem? (i := 808) (by decide +kernel), List.mem_of_getElem? (i := 1040) (by decide +kernel), List.mem_of_getElem? (i := 1041) (by decide +kernel)⟩
theorem lw_p50 : lw_okq (⟨"ThrownCoinsModel", "visitsLeft", "()I"⟩, 28) := ⟨⟨by decide +kernel, by decide +kernel⟩, List.mem_of_getElem? (i := 808) (by decide +kernel), List.mem_of_getElem? (i := 1057) (by decide +kernel), List.mem_of_getElem? (i := 1058) (by decide +kernel)⟩
theorem lw_p51 : lw_okq (⟨"ThrownCoinsModel", "throwsOne", "(III)V"⟩, 28) := ⟨⟨by decide +kernel, by decide +kernel⟩, List.mem_of_getElem? (i := 808) (by decide +kernel), List.mem_of_getElem? (i := 1061) (by decide +kernel), List.mem_of_getElem? (i := 1062) (by decide +kernel)⟩
theorem lw_p52 : lw_okq (⟨"ThrownCoinsModel", "visitsBy", "(II)Z"⟩, 28) := ⟨⟨by decide +kernel, by decide +kernel⟩, List.mem_of_getElem? (i := 808) (by decide +kernel), List.mem_of_getElem? (i := 1070) (by decide +kernel), List.mem_of_getElem? (i := 1071) (by decide +kernel)⟩
theorem lw_p53 : lw_okq (⟨"ThrownCoinsModel", "layPlan", "(II)V"⟩, 28) := ⟨⟨by decide +kernel, by decide +kernel⟩, List.mem_of_getElem? (i := 808) (by decide +kernel), List.mem_of_getElem? (i := 1078) (by decide +kernel), List.mem_of_getElem? (i := 1079) (by decide +kernel)⟩
theorem lw_p54 : lw_okq (⟨"ThrownCoinsModel", "goRow", "(III)I"⟩, 28) := ⟨⟨by decide +kernel, by decide +kernel⟩, List.mem_of_getElem? (i := 808) (by decide +kernel), List.mem_of_getElem? (i := 1085) (by decide +kernel), List.mem_of_getElem? (i := 1086) (by decide +kernel)⟩
theorem lw_p55 : lw_okq (⟨"ThrownCoinsModel", "copy", "(II)V"⟩, 28) := ⟨⟨by decide +kernel, by decide +kernel⟩, List.mem_of_getElem? (i := 808) (by decide +kernel), List.mem_of_getElem? (i := 1089) (by decide +kernel), List.mem_of_getElem? (i := 1090) (by decide +kernel)⟩
theorem lw_p56 : lw_okq (⟨"ThrownCoinsModel", "layGame", "()V"⟩, 28) := ⟨⟨by decide +kernel, by decide +kernel⟩, List.mem_of_getElem? (i := 808) (by decide +kernel), List.mem_of_getElem? (i := 1101) (by decide +kernel), List.mem_of_getElem? (i := 1102) (by decide +kernel)⟩
theorem lw_p57 : lw_okq (⟨"ThrownCoinsModel", "opens", "(II)Z"⟩, 28) := ⟨⟨by decide +kernel, by decide +kernel⟩, List.mem_of_getElem? (i := 808) (by decide +kernel), List.mem_of_getElem? (i := 1105) (by decide +kernel), List.mem_of_getElem? (i := 1106) (by decide +kernel)⟩
theorem lw_p58 : lw_okq (⟨"ThrownCoinsModel", "takeUp", "(II)V"⟩, 28) := ⟨⟨by decide +kernel, by decide +kernel⟩, List.mem_of_getElem? (i := 808) (by decide +kernel), List.mem_of_getElem? (i := 1109) (by decide +kernel), List.mem_of_getElem? (i := 1110) (by decide +kernel)⟩
theorem lw_p59 : lw_okq (⟨"ThrownCoinsModel", "worthBy", "(II)I"⟩, 28) := ⟨⟨by decide +kernel, by decide +kernel⟩, List.mem_of_getElem? (i := 808) (by decide +kernel), List.mem_of_getElem? (i := 1125) (by decide +kernel), List.mem_of_getElem? (i := 1126) (by decide +kernel)⟩
theorem lw_p60 : lw_okq (⟨"ThrownCoinsModel", "isSo", "(I)Z"⟩, 28) := ⟨⟨by decide +kernel, by decide +kernel⟩, List.mem_of_getElem? (i := 808) (by decide +kernel), List.mem_of_getElem? (i := 1154) (by decide +kernel), List.mem_of_getElem? (i := 1155) (by decide +kernel)⟩
theorem lw_p61 : lw_okq (⟨"ThrownCoinsModel", "layOf", "(II)I"⟩, 28) := ⟨⟨by decide +kernel, by decide +kernel⟩, List.mem_of_getElem? (i := 808) (by decide +kernel), List.mem_of_getElem? (i := 1158) (by decide +kernel), List.mem_of_getElem? (i := 1159) (by decide +kernel)⟩
theorem lw_p62 : lw_okq (⟨"ThrownCoinsModel", "worthThere", "()I"⟩, 28) := ⟨⟨by decide +kernel, by decide +kernel⟩, List.mem_of_getElem? (i := 808) (by decide +kernel), List.mem_of_getElem? (i := 1174) (by decide +kernel), List.mem_of_getElem? (i := 1175) (by decide +kernel)⟩
def lw_privs_4 : List (MethodName × Nat) := [(⟨"ThrownCoinsModel", "gainOf", "(II)I"⟩, 28), (⟨"ThrownCoinsModel", "layTakes", "(II)I"⟩, 28), (⟨"ThrownCoinsModel", "visitsLeft", "()I"⟩, 28), (⟨"ThrownCoinsModel", "throwsOne", "(III)V"⟩, 28), (⟨"ThrownCoinsModel", "visitsBy", "(II)Z"⟩, 28), (⟨"ThrownCoinsModel", "layPlan", "(II)V"⟩, 28), (⟨"ThrownCoinsModel", "goRow", "(III)I"⟩, 28), (⟨"ThrownCoinsModel", "copy", "(II)V"⟩, 28), (⟨"ThrownCoinsModel", "layGame", "()V"⟩, 28), (⟨"ThrownCoinsModel", "opens", "(II)Z"⟩, 28), (⟨"ThrownCoinsModel", "takeUp", "(II)V"⟩, 28), (⟨"ThrownCoinsModel", "worthBy", "(II)I"⟩, 28), (⟨"ThrownCoinsModel", "isSo", "(I)Z"⟩, 28), (⟨"ThrownCoinsModel", "layOf", "(II)I"⟩, 28), (⟨"ThrownCoinsModel", "worthThere", "()I"⟩, 28)]
theorem lw_r4 : ∀ q ∈ lw_privs_4, lw_okq q := List.forall_mem_cons.mpr ⟨lw_p48, List.forall_mem_cons.mpr ⟨lw_p49, List.forall_mem_cons.mpr ⟨lw_p50, List.forall_mem_cons.mpr ⟨lw_p51, List.forall_mem_cons.mpr ⟨lw_p52, List.forall_mem_cons.mpr ⟨lw_p53, List.forall_mem_cons.mpr ⟨lw_p54, List.forall_mem_cons.mpr ⟨lw_p55, List.forall_mem_cons.mpr ⟨lw_p56, List.forall_mem_cons.mpr ⟨lw_p57, List.forall_mem_cons.mpr ⟨lw_p58, List.forall_mem_cons.mpr ⟨lw_p59, List.forall_mem_cons.mpr ⟨lw_p60, List.forall_mem_cons.mpr ⟨lw_p61, List.forall_mem_cons.mpr ⟨lw_p62, fun _ h => absurd h List.not_mem_nil⟩⟩⟩⟩⟩⟩⟩⟩⟩⟩⟩⟩⟩⟩⟩
def lw_privs : List (MethodName × Nat) := lw_privs_1 ++ (lw_privs_2 ++ (lw_privs_3 ++ (lw_privs_4)))
def lw_tbl : List Cond := k2_sels lw_privs ++ tables_1
theorem lw_privs_ok : ∀ q ∈ lw_privs, lw_okq q := by
  show ∀ q ∈ lw_privs_1 ++ (lw_privs_2 ++ (lw_privs_3 ++ (lw_privs_4))), lw_okq q
  exact List.forall_mem_append.mpr ⟨lw_r1, List.forall_mem_append.mpr ⟨lw_r2, List.forall_mem_append.mpr ⟨lw_r3, lw_r4⟩⟩⟩
end
section
/-! ===== BEGIN words of one list among another's, by their places ===== -/
theorem goodIn_r {big : List Cond} (ws : List Cond) (ps : List Nat) (hp : ws = ps.filterMap (fun i => big[i]?)) (h : ws.all goodWord = true) : GoodIn big ws := by
  intro w hw
  have h1 := List.all_eq_true.mp h w hw
  rw [hp] at hw
  obtain ⟨i, -, hi⟩ := List.mem_filterMap.mp hw
  have hm : w ∈ big := by first | exact List.mem_of_getElem? hi | exact List.getElem?_mem hi
  exact ⟨hm, good_of_word h1⟩
theorem goodIn_app {big a b : List Cond} (ha : GoodIn big a) (hb : GoodIn big b) : GoodIn big (a ++ b) := fun w h => (List.mem_append.mp h).elim (ha w) (hb w)
theorem goodIn_ca {big a b : List Cond} {c : Cond} (ha : GoodIn big (c :: a)) (hb : GoodIn big b) : GoodIn big (c :: (a ++ b)) := fun w h => (List.mem_cons.mp h).elim (fun e => ha w (List.mem_cons.mpr (Or.inl e))) (fun h => (List.mem_append.mp h).elim (fun h => ha w (List.mem_cons.mpr (Or.inr h))) (hb w))
theorem goodIn_sub {big ws : List Cond} (hm : ∀ w ∈ ws, w ∈ big) (h : ws.all goodWord = true) : GoodIn big ws := fun w hw => ⟨hm w hw, good_of_word (List.all_eq_true.mp h w hw)⟩
/-! ===== END ===== -/

/-! ===== BEGIN printed: names, fields, word lists, decode rows ===== -/
def RX0 : String := "ThrownCoins$Cheap"
def TX0 : u_T := fun k => match k with
  | _ => ("", "", "", false)
def tyX0 : Nat → FieldType := fun k => match k with
  | _ => .int
abbrev wsX00 : List Cond := u_ws RX0 TX0 0
theorem nmX0 : ∀ a, a < 0 → ∀ b, b < 0 → a ≠ b → (TX0 a).2.1 ≠ (TX0 b).2.1 := by decide +kernel
theorem tyX0_ok : ∀ k, k < 0 → parseFieldDescriptor (TX0 k).2.2.1 = some (tyX0 k) := by decide +kernel
abbrev cX0_init : ByteArray := prog_2_method_1_code
def yX0_init : MethodName := ⟨RX0, "<init>", "()V"⟩
abbrev cX0_habit : ByteArray := prog_2_method_2_code
def yX0_habit : MethodName := ⟨RX0, "habit", "()I"⟩
abbrev cX0_comparesAll : ByteArray := prog_2_method_3_code
def yX0_comparesAll : MethodName := ⟨RX0, "comparesAll", "()Z"⟩
def RX1 : String := "ThrownCoins$Folk"
def TX1 : u_T := fun k => match k with
  | _ => ("", "", "", false)
def tyX1 : Nat → FieldType := fun k => match k with
  | _ => .int
abbrev wsX10 : List Cond := u_ws RX1 TX1 0
theorem nmX1 : ∀ a, a < 0 → ∀ b, b < 0 → a ≠ b → (TX1 a).2.1 ≠ (TX1 b).2.1 := by decide +kernel
theorem tyX1_ok : ∀ k, k < 0 → parseFieldDescriptor (TX1 k).2.2.1 = some (tyX1 k) := by decide +kernel
abbrev cX1_init : ByteArray := prog_3_method_1_code
def yX1_init : MethodName := ⟨RX1, "<init>", "()V"⟩
abbrev cX1_waitsFor : ByteArray := prog_3_method_4_code
def yX1_waitsFor : MethodName := ⟨RX1, "waitsFor", "(LThrownCoins$Told;I)I"⟩
def RX2 : String := "ThrownCoins$Foretelling"
def TX2 : u_T := fun k => match k with
  | 0 => ("ThrownCoins$Foretelling", "told", "LThrownCoins$Told;", true)
  | 1 => ("ThrownCoins$Foretelling", "lots", "[LThrownCoins$Lot;", true)
  | 2 => ("ThrownCoins$Foretelling", "ends", "[[I", true)
  | 3 => ("ThrownCoins$Foretelling", "rows", "[[I", true)
  | 4 => ("ThrownCoins$Foretelling", "goals", "I", false)
  | 5 => ("ThrownCoins$Foretelling", "steps", "I", false)
  | 6 => ("ThrownCoins$Foretelling", "hoping", "I", false)
  | _ => ("ThrownCoins$Foretelling", "tenths", "I", false)
def tyX2 : Nat → FieldType := fun k => match k with
  | 0 => .object "ThrownCoins$Told"
  | 1 => .array (.object "ThrownCoins$Lot")
  | 2 => .array (.array .int)
  | 3 => .array (.array .int)
  | 4 => .int
  | 5 => .int
  | 6 => .int
  | _ => .int
abbrev wsX20 : List Cond := u_ws RX2 TX2 8
theorem nmX2 : ∀ a, a < 8 → ∀ b, b < 8 → a ≠ b → (TX2 a).2.1 ≠ (TX2 b).2.1 := by decide +kernel
theorem tyX2_ok : ∀ k, k < 8 → parseFieldDescriptor (TX2 k).2.2.1 = some (tyX2 k) := by decide +kernel
abbrev cX2_init : ByteArray := prog_4_method_1_code
def yX2_init : MethodName := ⟨RX2, "<init>", "(LThrownCoins$Told;)V"⟩
abbrev cX2_becomeStale : ByteArray := prog_4_method_2_code
def yX2_becomeStale : MethodName := ⟨RX2, "becomeStale", "()V"⟩
abbrev cX2_foresee : ByteArray := prog_4_method_3_code
def yX2_foresee : MethodName := ⟨RX2, "foresee", "(LThrownCoins$Lot;I)V"⟩
abbrev cX2_endOf : ByteArray := prog_4_method_4_code
def yX2_endOf : MethodName := ⟨RX2, "endOf", "(I)I"⟩
abbrev cX2_step : ByteArray := prog_4_method_5_code
def yX2_step : MethodName := ⟨RX2, "step", "(I)I"⟩
abbrev cX2_goalOf : ByteArray := prog_4_method_6_code
def yX2_goalOf : MethodName := ⟨RX2, "goalOf", "(I)I"⟩
abbrev cX2_isFree : ByteArray := prog_4_method_7_code
def yX2_isFree : MethodName := ⟨RX2, "isFree", "(I)Z"⟩
abbrev cX2_playOn : ByteArray := prog_4_method_8_code
def yX2_playOn : MethodName := ⟨RX2, "playOn", "(LThrownCoins$Foretelling;I)V"⟩
abbrev cX2_comesAgain : ByteArray := prog_4_method_9_code
def yX2_comesAgain : MethodName := ⟨RX2, "comesAgain", "(II)Z"⟩
abbrev cX2_settle : ByteArray := prog_4_method_10_code
def yX2_settle : MethodName := ⟨RX2, "settle", "(I)V"⟩
abbrev cX2_reached : ByteArray := prog_4_method_11_code
def yX2_reached : MethodName := ⟨RX2, "reached", "(II)I"⟩
abbrev cX2_takeOver : ByteArray := prog_4_method_12_code
def yX2_takeOver : MethodName := ⟨RX2, "takeOver", "(II)V"⟩
abbrev cX2_expected : ByteArray := prog_4_method_13_code
def yX2_expected : MethodName := ⟨RX2, "expected", "(LThrownCoins$Lot;III)J"⟩
abbrev cX2_weigh : ByteArray := prog_4_method_14_code
def yX2_weigh : MethodName := ⟨RX2, "weigh", "(LThrownCoins$Foretelling;I)J"⟩
abbrev cX2_weighNext : ByteArray := prog_4_method_15_code
def yX2_weighNext : MethodName := ⟨RX2, "weighNext", "(LThrownCoins$Foretelling;II)J"⟩
abbrev cX2_tillDry : ByteArray := prog_4_method_16_code
def yX2_tillDry : MethodName := ⟨RX2, "tillDry", "(LThrownCoins$Lot;)I"⟩
abbrev cX2_leastBait : ByteArray := prog_4_method_17_code
def yX2_leastBait : MethodName := ⟨RX2, "leastBait", "(LThrownCoins$Lot;I)I"⟩
abbrev cX2_tempts : ByteArray := prog_4_method_18_code
def yX2_tempts : MethodName := ⟨RX2, "tempts", "(IIII)Z"⟩
abbrev cX2_putIn : ByteArray := prog_4_method_19_code
def yX2_putIn : MethodName := ⟨RX2, "putIn", "(IIII)V"⟩
def RX3 : String := "ThrownCoins$Greedy"
def TX3 : u_T := fun k => match k with
  | _ => ("", "", "", false)
def tyX3 : Nat → FieldType := fun k => match k with
  | _ => .int
abbrev wsX30 : List Cond := u_ws RX3 TX3 0
theorem nmX3 : ∀ a, a < 0 → ∀ b, b < 0 → a ≠ b → (TX3 a).2.1 ≠ (TX3 b).2.1 := by decide +kernel
theorem tyX3_ok : ∀ k, k < 0 → parseFieldDescriptor (TX3 k).2.2.1 = some (tyX3 k) := by decide +kernel
abbrev cX3_init : ByteArray := prog_5_method_1_code
def yX3_init : MethodName := ⟨RX3, "<init>", "()V"⟩
abbrev cX3_habit : ByteArray := prog_5_method_2_code
def yX3_habit : MethodName := ⟨RX3, "habit", "()I"⟩
abbrev cX3_comparesAll : ByteArray := prog_5_method_3_code
def yX3_comparesAll : MethodName := ⟨RX3, "comparesAll", "()Z"⟩
def RX4 : String := "ThrownCoins$Lot"
def TX4 : u_T := fun k => match k with
  | 0 => ("ThrownCoins$Lot", "coins", "[I", true)
  | _ => ("ThrownCoins$Lot", "gone", "I", false)
def tyX4 : Nat → FieldType := fun k => match k with
  | 0 => .array .int
  | _ => .int
abbrev wsX40 : List Cond := u_ws RX4 TX4 2
theorem nmX4 : ∀ a, a < 2 → ∀ b, b < 2 → a ≠ b → (TX4 a).2.1 ≠ (TX4 b).2.1 := by decide +kernel
theorem tyX4_ok : ∀ k, k < 2 → parseFieldDescriptor (TX4 k).2.2.1 = some (tyX4 k) := by decide +kernel
abbrev cX4_init : ByteArray := prog_6_method_1_code
def yX4_init : MethodName := ⟨RX4, "<init>", "()V"⟩
abbrev cX4_of : ByteArray := prog_6_method_2_code
def yX4_of : MethodName := ⟨RX4, "of", "(II)I"⟩
abbrev cX4_add : ByteArray := prog_6_method_3_code
def yX4_add : MethodName := ⟨RX4, "add", "(III)V"⟩
abbrev cX4_empty : ByteArray := prog_6_method_4_code
def yX4_empty : MethodName := ⟨RX4, "empty", "()V"⟩
abbrev cX4_copyFrom : ByteArray := prog_6_method_5_code
def yX4_copyFrom : MethodName := ⟨RX4, "copyFrom", "(LThrownCoins$Lot;)V"⟩
def RX5 : String := "ThrownCoins$Never"
def TX5 : u_T := fun k => match k with
  | _ => ("", "", "", false)
def tyX5 : Nat → FieldType := fun k => match k with
  | _ => .int
abbrev wsX50 : List Cond := u_ws RX5 TX5 0
theorem nmX5 : ∀ a, a < 0 → ∀ b, b < 0 → a ≠ b → (TX5 a).2.1 ≠ (TX5 b).2.1 := by decide +kernel
theorem tyX5_ok : ∀ k, k < 0 → parseFieldDescriptor (TX5 k).2.2.1 = some (tyX5 k) := by decide +kernel
abbrev cX5_init : ByteArray := prog_7_method_1_code
def yX5_init : MethodName := ⟨RX5, "<init>", "()V"⟩
abbrev cX5_habit : ByteArray := prog_7_method_2_code
def yX5_habit : MethodName := ⟨RX5, "habit", "()I"⟩
abbrev cX5_wouldThrow : ByteArray := prog_7_method_3_code
def yX5_wouldThrow : MethodName := ⟨RX5, "wouldThrow", "(LThrownCoins$Told;LThrownCoins$Lot;I)I"⟩
def RX6 : String := "ThrownCoins$Notes"
def TX6 : u_T := fun k => match k with
  | 0 => ("ThrownCoins$Notes", "told", "LThrownCoins$Told;", true)
  | 1 => ("ThrownCoins$Notes", "lot", "LThrownCoins$Lot;", true)
  | 2 => ("ThrownCoins$Notes", "thrown", "[I", true)
  | 3 => ("ThrownCoins$Notes", "taken", "[I", true)
  | 4 => ("ThrownCoins$Notes", "least", "[I", true)
  | 5 => ("ThrownCoins$Notes", "most", "[I", true)
  | 6 => ("ThrownCoins$Notes", "size", "I", false)
  | 7 => ("ThrownCoins$Notes", "layings", "I", false)
  | _ => ("ThrownCoins$Notes", "first", "I", false)
def tyX6 : Nat → FieldType := fun k => match k with
  | 0 => .object "ThrownCoins$Told"
  | 1 => .object "ThrownCoins$Lot"
  | 2 => .array .int
  | 3 => .array .int
  | 4 => .array .int
  | 5 => .array .int
  | 6 => .int
  | 7 => .int
  | _ => .int
abbrev wsX60 : List Cond := u_ws RX6 TX6 9
theorem nmX6 : ∀ a, a < 9 → ∀ b, b < 9 → a ≠ b → (TX6 a).2.1 ≠ (TX6 b).2.1 := by decide +kernel
theorem tyX6_ok : ∀ k, k < 9 → parseFieldDescriptor (TX6 k).2.2.1 = some (tyX6 k) := by decide +kernel
abbrev cX6_init : ByteArray := prog_8_method_1_code
def yX6_init : MethodName := ⟨RX6, "<init>", "(LThrownCoins$Told;)V"⟩
abbrev cX6_add : ByteArray := prog_8_method_2_code
def yX6_add : MethodName := ⟨RX6, "add", "(II)Z"⟩
abbrev cX6_leastOf : ByteArray := prog_8_method_3_code
def yX6_leastOf : MethodName := ⟨RX6, "leastOf", "(I)I"⟩
abbrev cX6_mostOf : ByteArray := prog_8_method_4_code
def yX6_mostOf : MethodName := ⟨RX6, "mostOf", "(I)I"⟩
abbrev cX6_searchLayings : ByteArray := prog_8_method_5_code
def yX6_searchLayings : MethodName := ⟨RX6, "searchLayings", "()V"⟩
abbrev cX6_figureOf : ByteArray := prog_8_method_6_code
def yX6_figureOf : MethodName := ⟨RX6, "figureOf", "(II)I"⟩
abbrev cX6_fits : ByteArray := prog_8_method_7_code
def yX6_fits : MethodName := ⟨RX6, "fits", "(I)Z"⟩
abbrev cX6_tally : ByteArray := prog_8_method_8_code
def yX6_tally : MethodName := ⟨RX6, "tally", "(I)V"⟩
def RX7 : String := "ThrownCoins$Text"
def TX7 : u_T := fun k => match k with
  | 0 => ("ThrownCoins$Text", "bytes", "[I", true)
  | 1 => ("ThrownCoins$Text", "draft", "LThrownCoins$Told;", true)
  | 2 => ("ThrownCoins$Text", "length", "I", false)
  | 3 => ("ThrownCoins$Text", "lines", "I", false)
  | 4 => ("ThrownCoins$Text", "begin", "I", false)
  | 5 => ("ThrownCoins$Text", "end", "I", false)
  | 6 => ("ThrownCoins$Text", "token", "I", false)
  | _ => ("ThrownCoins$Text", "value", "I", false)
def tyX7 : Nat → FieldType := fun k => match k with
  | 0 => .array .int
  | 1 => .object "ThrownCoins$Told"
  | 2 => .int
  | 3 => .int
  | 4 => .int
  | 5 => .int
  | 6 => .int
  | _ => .int
abbrev wsX70 : List Cond := u_ws RX7 TX7 8
theorem nmX7 : ∀ a, a < 8 → ∀ b, b < 8 → a ≠ b → (TX7 a).2.1 ≠ (TX7 b).2.1 := by decide +kernel
theorem tyX7_ok : ∀ k, k < 8 → parseFieldDescriptor (TX7 k).2.2.1 = some (tyX7 k) := by decide +kernel
abbrev cX7_init : ByteArray := prog_9_method_1_code
def yX7_init : MethodName := ⟨RX7, "<init>", "()V"⟩
abbrev cX7_append : ByteArray := prog_9_method_2_code
def yX7_append : MethodName := ⟨RX7, "append", "(I)V"⟩
abbrev cX7_readOver : ByteArray := prog_9_method_3_code
def yX7_readOver : MethodName := ⟨RX7, "readOver", "(LThrownCoins$Told;)I"⟩
abbrev cX7_nextToken : ByteArray := prog_9_method_4_code
def yX7_nextToken : MethodName := ⟨RX7, "nextToken", "()V"⟩
abbrev cX7_byteAt : ByteArray := prog_9_method_5_code
def yX7_byteAt : MethodName := ⟨RX7, "byteAt", "(I)I"⟩
abbrev cX7_tokenOf : ByteArray := prog_9_method_6_code
def yX7_tokenOf : MethodName := ⟨RX7, "tokenOf", "(I)I"⟩
abbrev cX7_isSemicolon : ByteArray := prog_9_method_7_code
def yX7_isSemicolon : MethodName := ⟨RX7, "isSemicolon", "()Z"⟩
abbrev cX7_readLine : ByteArray := prog_9_method_8_code
def yX7_readLine : MethodName := ⟨RX7, "readLine", "()Z"⟩
abbrev cX7_readWord : ByteArray := prog_9_method_9_code
def yX7_readWord : MethodName := ⟨RX7, "readWord", "(Ljava/lang/String;)Z"⟩
abbrev cX7_readNumber : ByteArray := prog_9_method_10_code
def yX7_readNumber : MethodName := ⟨RX7, "readNumber", "(II)Z"⟩
abbrev cX7_readCoins : ByteArray := prog_9_method_11_code
def yX7_readCoins : MethodName := ⟨RX7, "readCoins", "()Z"⟩
abbrev cX7_readAmount : ByteArray := prog_9_method_12_code
def yX7_readAmount : MethodName := ⟨RX7, "readAmount", "(I)Z"⟩
abbrev cX7_readHabit : ByteArray := prog_9_method_13_code
def yX7_readHabit : MethodName := ⟨RX7, "readHabit", "(I)Z"⟩
abbrev cX7_readWaiting : ByteArray := prog_9_method_14_code
def yX7_readWaiting : MethodName := ⟨RX7, "readWaiting", "()Z"⟩
abbrev cX7_readVisits : ByteArray := prog_9_method_15_code
def yX7_readVisits : MethodName := ⟨RX7, "readVisits", "()Z"⟩
abbrev cX7_readLaw : ByteArray := prog_9_method_16_code
def yX7_readLaw : MethodName := ⟨RX7, "readLaw", "()Z"⟩
abbrev cX7_leaveAlone : ByteArray := prog_9_method_17_code
def yX7_leaveAlone : MethodName := ⟨RX7, "leaveAlone", "()Z"⟩
def RX8 : String := "ThrownCoins$Thrower"
def TX8 : u_T := fun k => match k with
  | _ => ("", "", "", false)
def tyX8 : Nat → FieldType := fun k => match k with
  | _ => .int
abbrev wsX80 : List Cond := u_ws RX8 TX8 0
theorem nmX8 : ∀ a, a < 0 → ∀ b, b < 0 → a ≠ b → (TX8 a).2.1 ≠ (TX8 b).2.1 := by decide +kernel
theorem tyX8_ok : ∀ k, k < 0 → parseFieldDescriptor (TX8 k).2.2.1 = some (tyX8 k) := by decide +kernel
abbrev cX8_init : ByteArray := prog_10_method_1_code
def yX8_init : MethodName := ⟨RX8, "<init>", "()V"⟩
abbrev cX8_leastGain : ByteArray := prog_10_method_3_code
def yX8_leastGain : MethodName := ⟨RX8, "leastGain", "(LThrownCoins$Told;I)I"⟩
abbrev cX8_wouldThrow : ByteArray := prog_10_method_4_code
def yX8_wouldThrow : MethodName := ⟨RX8, "wouldThrow", "(LThrownCoins$Told;LThrownCoins$Lot;I)I"⟩
def RX9 : String := "ThrownCoins$Told"
def TX9 : u_T := fun k => match k with
  | 0 => ("ThrownCoins$Told", "never", "LThrownCoins$Folk;", true)
  | 1 => ("ThrownCoins$Told", "greedy", "LThrownCoins$Folk;", true)
  | 2 => ("ThrownCoins$Told", "waiting", "LThrownCoins$Folk;", true)
  | 3 => ("ThrownCoins$Told", "cheap", "LThrownCoins$Folk;", true)
  | 4 => ("ThrownCoins$Told", "worths", "[I", true)
  | 5 => ("ThrownCoins$Told", "habits", "[I", true)
  | 6 => ("ThrownCoins$Told", "bounds", "[I", true)
  | 7 => ("ThrownCoins$Told", "visitors", "[I", true)
  | 8 => ("ThrownCoins$Told", "atFirst", "LThrownCoins$Lot;", true)
  | 9 => ("ThrownCoins$Told", "kinds", "I", false)
  | 10 => ("ThrownCoins$Told", "visitCount", "I", false)
  | _ => ("ThrownCoins$Told", "law", "I", false)
def tyX9 : Nat → FieldType := fun k => match k with
  | 0 => .object "ThrownCoins$Folk"
  | 1 => .object "ThrownCoins$Folk"
  | 2 => .object "ThrownCoins$Folk"
  | 3 => .object "ThrownCoins$Folk"
  | 4 => .array .int
  | 5 => .array .int
  | 6 => .array .int
  | 7 => .array .int
  | 8 => .object "ThrownCoins$Lot"
  | 9 => .int
  | 10 => .int
  | _ => .int
abbrev wsX90 : List Cond := u_ws RX9 TX9 12
theorem nmX9 : ∀ a, a < 12 → ∀ b, b < 12 → a ≠ b → (TX9 a).2.1 ≠ (TX9 b).2.1 := by decide +kernel
theorem tyX9_ok : ∀ k, k < 12 → parseFieldDescriptor (TX9 k).2.2.1 = some (tyX9 k) := by decide +kernel
abbrev cX9_init : ByteArray := prog_11_method_1_code
def yX9_init : MethodName := ⟨RX9, "<init>", "()V"⟩
abbrev cX9_copyFrom : ByteArray := prog_11_method_2_code
def yX9_copyFrom : MethodName := ⟨RX9, "copyFrom", "(LThrownCoins$Told;)V"⟩
abbrev cX9_hasKind : ByteArray := prog_11_method_3_code
def yX9_hasKind : MethodName := ⟨RX9, "hasKind", "(I)Z"⟩
abbrev cX9_worthOf : ByteArray := prog_11_method_4_code
def yX9_worthOf : MethodName := ⟨RX9, "worthOf", "(I)I"⟩
abbrev cX9_addKind : ByteArray := prog_11_method_5_code
def yX9_addKind : MethodName := ⟨RX9, "addKind", "(I)V"⟩
abbrev cX9_setHabit : ByteArray := prog_11_method_6_code
def yX9_setHabit : MethodName := ⟨RX9, "setHabit", "(III)V"⟩
abbrev cX9_boundOf : ByteArray := prog_11_method_7_code
def yX9_boundOf : MethodName := ⟨RX9, "boundOf", "(I)I"⟩
abbrev cX9_folkOf : ByteArray := prog_11_method_8_code
def yX9_folkOf : MethodName := ⟨RX9, "folkOf", "(I)LThrownCoins$Folk;"⟩
abbrev cX9_addVisit : ByteArray := prog_11_method_9_code
def yX9_addVisit : MethodName := ⟨RX9, "addVisit", "(I)V"⟩
abbrev cX9_visitor : ByteArray := prog_11_method_10_code
def yX9_visitor : MethodName := ⟨RX9, "visitor", "(I)I"⟩
abbrev cX9_visitsLeft : ByteArray := prog_11_method_11_code
def yX9_visitsLeft : MethodName := ⟨RX9, "visitsLeft", "(LThrownCoins$Lot;I)I"⟩
abbrev cX9_wealth : ByteArray := prog_11_method_12_code
def yX9_wealth : MethodName := ⟨RX9, "wealth", "(LThrownCoins$Lot;I)I"⟩
abbrev cX9_gainOf : ByteArray := prog_11_method_13_code
def yX9_gainOf : MethodName := ⟨RX9, "gainOf", "(LThrownCoins$Lot;I)I"⟩
abbrev cX9_throwCoin : ByteArray := prog_11_method_14_code
def yX9_throwCoin : MethodName := ⟨RX9, "throwCoin", "(LThrownCoins$Lot;II)V"⟩
abbrev cX9_greatestTaken : ByteArray := prog_11_method_15_code
def yX9_greatestTaken : MethodName := ⟨RX9, "greatestTaken", "(I)I"⟩
abbrev cX9_mostTakenOfKind : ByteArray := prog_11_method_16_code
def yX9_mostTakenOfKind : MethodName := ⟨RX9, "mostTakenOfKind", "()I"⟩
abbrev cX9_takesOneKind : ByteArray := prog_11_method_17_code
def yX9_takesOneKind : MethodName := ⟨RX9, "takesOneKind", "()Z"⟩
abbrev cX9_habitual : ByteArray := prog_11_method_18_code
def yX9_habitual : MethodName := ⟨RX9, "habitual", "(LThrownCoins$Lot;)I"⟩
abbrev cX9_letVisit : ByteArray := prog_11_method_19_code
def yX9_letVisit : MethodName := ⟨RX9, "letVisit", "(LThrownCoins$Lot;I)V"⟩
def RX10 : String := "ThrownCoins$Waiting"
def TX10 : u_T := fun k => match k with
  | _ => ("", "", "", false)
def tyX10 : Nat → FieldType := fun k => match k with
  | _ => .int
abbrev wsX100 : List Cond := u_ws RX10 TX10 0
theorem nmX10 : ∀ a, a < 0 → ∀ b, b < 0 → a ≠ b → (TX10 a).2.1 ≠ (TX10 b).2.1 := by decide +kernel
theorem tyX10_ok : ∀ k, k < 0 → parseFieldDescriptor (TX10 k).2.2.1 = some (tyX10 k) := by decide +kernel
abbrev cX10_init : ByteArray := prog_12_method_1_code
def yX10_init : MethodName := ⟨RX10, "<init>", "()V"⟩
abbrev cX10_habit : ByteArray := prog_12_method_2_code
def yX10_habit : MethodName := ⟨RX10, "habit", "()I"⟩
abbrev cX10_leastGain : ByteArray := prog_12_method_3_code
def yX10_leastGain : MethodName := ⟨RX10, "leastGain", "(LThrownCoins$Told;I)I"⟩
abbrev cX10_waitsFor : ByteArray := prog_12_method_4_code
def yX10_waitsFor : MethodName := ⟨RX10, "waitsFor", "(LThrownCoins$Told;I)I"⟩
def RX11 : String := "ThrownCoins"
def TX11 : u_T := fun k => match k with
  | 0 => ("ThrownCoins", "told", "LThrownCoins$Told;", true)
  | 1 => ("ThrownCoins", "now", "LThrownCoins$Lot;", true)
  | 2 => ("ThrownCoins", "kept", "[LThrownCoins$Lot;", true)
  | 3 => ("ThrownCoins", "text", "LThrownCoins$Text;", true)
  | 4 => ("ThrownCoins", "foretelling", "LThrownCoins$Foretelling;", true)
  | 5 => ("ThrownCoins", "notes", "LThrownCoins$Notes;", true)
  | _ => ("ThrownCoins", "keptBits", "I", false)
def tyX11 : Nat → FieldType := fun k => match k with
  | 0 => .object "ThrownCoins$Told"
  | 1 => .object "ThrownCoins$Lot"
  | 2 => .array (.object "ThrownCoins$Lot")
  | 3 => .object "ThrownCoins$Text"
  | 4 => .object "ThrownCoins$Foretelling"
  | 5 => .object "ThrownCoins$Notes"
  | _ => .int
abbrev wsX110 : List Cond := u_ws RX11 TX11 7
theorem nmX11 : ∀ a, a < 7 → ∀ b, b < 7 → a ≠ b → (TX11 a).2.1 ≠ (TX11 b).2.1 := by decide +kernel
theorem tyX11_ok : ∀ k, k < 7 → parseFieldDescriptor (TX11 k).2.2.1 = some (tyX11 k) := by decide +kernel
abbrev cX11_init : ByteArray := prog_1_method_1_code
def yX11_init : MethodName := ⟨RX11, "<init>", "()V"⟩
abbrev cX11_write : ByteArray := prog_1_method_2_code
def yX11_write : MethodName := ⟨RX11, "write", "(JI)I"⟩
abbrev cX11_erase : ByteArray := prog_1_method_3_code
def yX11_erase : MethodName := ⟨RX11, "erase", "()I"⟩
abbrev cX11_fault : ByteArray := prog_1_method_4_code
def yX11_fault : MethodName := ⟨RX11, "fault", "()I"⟩
abbrev cX11_sunday : ByteArray := prog_1_method_5_code
def yX11_sunday : MethodName := ⟨RX11, "sunday", "()I"⟩
abbrev cX11_coin : ByteArray := prog_1_method_6_code
def yX11_coin : MethodName := ⟨RX11, "coin", "(II)I"⟩
abbrev cX11_purse : ByteArray := prog_1_method_7_code
def yX11_purse : MethodName := ⟨RX11, "purse", "(II)I"⟩
abbrev cX11_person : ByteArray := prog_1_method_8_code
def yX11_person : MethodName := ⟨RX11, "person", "(II)I"⟩
abbrev cX11_as : ByteArray := prog_1_method_9_code
def yX11_as : MethodName := ⟨RX11, "as", "(II)I"⟩
abbrev cX11_come : ByteArray := prog_1_method_10_code
def yX11_come : MethodName := ⟨RX11, "come", "(I)I"⟩
abbrev cX11_gain : ByteArray := prog_1_method_11_code
def yX11_gain : MethodName := ⟨RX11, "gain", "(II)I"⟩
abbrev cX11_visit : ByteArray := prog_1_method_12_code
def yX11_visit : MethodName := ⟨RX11, "visit", "(I)I"⟩
abbrev cX11_go : ByteArray := prog_1_method_13_code
def yX11_go : MethodName := ⟨RX11, "go", "(I)I"⟩
abbrev cX11_plan : ByteArray := prog_1_method_14_code
def yX11_plan : MethodName := ⟨RX11, "plan", "(II)I"⟩
abbrev cX11_game : ByteArray := prog_1_method_15_code
def yX11_game : MethodName := ⟨RX11, "game", "(I)I"⟩
abbrev cX11_choice : ByteArray := prog_1_method_16_code
def yX11_choice : MethodName := ⟨RX11, "choice", "(I)I"⟩
abbrev cX11_league : ByteArray := prog_1_method_17_code
def yX11_league : MethodName := ⟨RX11, "league", "(II)I"⟩
abbrev cX11_mean : ByteArray := prog_1_method_18_code
def yX11_mean : MethodName := ⟨RX11, "mean", "(III)J"⟩
abbrev cX11_dry : ByteArray := prog_1_method_19_code
def yX11_dry : MethodName := ⟨RX11, "dry", "()I"⟩
abbrev cX11_bait : ByteArray := prog_1_method_20_code
def yX11_bait : MethodName := ⟨RX11, "bait", "(I)I"⟩
abbrev cX11_note : ByteArray := prog_1_method_21_code
def yX11_note : MethodName := ⟨RX11, "note", "(II)I"⟩
abbrev cX11_forget : ByteArray := prog_1_method_22_code
def yX11_forget : MethodName := ⟨RX11, "forget", "()I"⟩
abbrev cX11_lay : ByteArray := prog_1_method_23_code
def yX11_lay : MethodName := ⟨RX11, "lay", "(I)I"⟩
abbrev cX11_keep : ByteArray := prog_1_method_24_code
def yX11_keep : MethodName := ⟨RX11, "keep", "(I)I"⟩
abbrev cX11_back : ByteArray := prog_1_method_25_code
def yX11_back : MethodName := ⟨RX11, "back", "(I)I"⟩
abbrev cX11_count : ByteArray := prog_1_method_26_code
def yX11_count : MethodName := ⟨RX11, "count", "(I)I"⟩
abbrev cX11_wealthOfAll : ByteArray := prog_1_method_27_code
def yX11_wealthOfAll : MethodName := ⟨RX11, "wealthOfAll", "()I"⟩
abbrev cX11_tooLongForGame : ByteArray := prog_1_method_28_code
def yX11_tooLongForGame : MethodName := ⟨RX11, "tooLongForGame", "()Z"⟩
abbrev cX11_isPerson : ByteArray := prog_1_method_29_code
def yX11_isPerson : MethodName := ⟨RX11, "isPerson", "(I)Z"⟩
abbrev cX11_goalFor : ByteArray := prog_1_method_30_code
def yX11_goalFor : MethodName := ⟨RX11, "goalFor", "(II)I"⟩
abbrev cX11_isA : ByteArray := prog_1_method_31_code
def yX11_isA : MethodName := ⟨RX11, "isA", "(LThrownCoins$Folk;I)Z"⟩
def RX12 : String := "ThrownCoinsModel"
def TX12 : u_T := fun k => match k with
  | 0 => ("ThrownCoinsModel", "row", "[I", true)
  | 1 => ("ThrownCoinsModel", "isKept", "[Z", true)
  | 2 => ("ThrownCoinsModel", "text", "[I", true)
  | 3 => ("ThrownCoinsModel", "length", "I", false)
  | 4 => ("ThrownCoinsModel", "read", "[I", true)
  | 5 => ("ThrownCoinsModel", "readMany", "I", false)
  | 6 => ("ThrownCoinsModel", "kinds", "I", false)
  | 7 => ("ThrownCoinsModel", "worths", "[I", true)
  | 8 => ("ThrownCoinsModel", "told", "[I", true)
  | 9 => ("ThrownCoinsModel", "habits", "[I", true)
  | 10 => ("ThrownCoinsModel", "bounds", "[I", true)
  | 11 => ("ThrownCoinsModel", "law", "I", false)
  | 12 => ("ThrownCoinsModel", "visits", "[I", true)
  | 13 => ("ThrownCoinsModel", "visitMany", "I", false)
  | 14 => ("ThrownCoinsModel", "at", "I", false)
  | 15 => ("ThrownCoinsModel", "place", "I", false)
  | 16 => ("ThrownCoinsModel", "end", "I", false)
  | 17 => ("ThrownCoinsModel", "readKinds", "I", false)
  | 18 => ("ThrownCoinsModel", "readVisits", "I", false)
  | 19 => ("ThrownCoinsModel", "takes", "[I", true)
  | 20 => ("ThrownCoinsModel", "most", "I", false)
  | 21 => ("ThrownCoinsModel", "bestRow", "I", false)
  | 22 => ("ThrownCoinsModel", "tries", "[I", true)
  | 23 => ("ThrownCoinsModel", "ends", "[I", true)
  | 24 => ("ThrownCoinsModel", "path", "[I", true)
  | 25 => ("ThrownCoinsModel", "noteKinds", "[I", true)
  | 26 => ("ThrownCoinsModel", "noteWorths", "[I", true)
  | _ => ("ThrownCoinsModel", "noteMany", "I", false)
def tyX12 : Nat → FieldType := fun k => match k with
  | 0 => .array .int
  | 1 => .array .boolean
  | 2 => .array .int
  | 3 => .int
  | 4 => .array .int
  | 5 => .int
  | 6 => .int
  | 7 => .array .int
  | 8 => .array .int
  | 9 => .array .int
  | 10 => .array .int
  | 11 => .int
  | 12 => .array .int
  | 13 => .int
  | 14 => .int
  | 15 => .int
  | 16 => .int
  | 17 => .int
  | 18 => .int
  | 19 => .array .int
  | 20 => .int
  | 21 => .int
  | 22 => .array .int
  | 23 => .array .int
  | 24 => .array .int
  | 25 => .array .int
  | 26 => .array .int
  | _ => .int
abbrev wsX120 : List Cond := u_ws RX12 TX12 28
theorem nmX12 : ∀ a, a < 28 → ∀ b, b < 28 → a ≠ b → (TX12 a).2.1 ≠ (TX12 b).2.1 := by decide +kernel
theorem tyX12_ok : ∀ k, k < 28 → parseFieldDescriptor (TX12 k).2.2.1 = some (tyX12 k) := by decide +kernel
abbrev cX12_init : ByteArray := prog_14_method_1_code
def yX12_init : MethodName := ⟨RX12, "<init>", "()V"⟩
abbrev cX12_in : ByteArray := prog_14_method_2_code
def yX12_in : MethodName := ⟨RX12, "in", "(JJJ)Z"⟩
abbrev cX12_has : ByteArray := prog_14_method_3_code
def yX12_has : MethodName := ⟨RX12, "has", "(II)Z"⟩
abbrev cX12_begin : ByteArray := prog_14_method_4_code
def yX12_begin : MethodName := ⟨RX12, "begin", "()V"⟩
abbrev cX12_write : ByteArray := prog_14_method_5_code
def yX12_write : MethodName := ⟨RX12, "write", "(JI)I"⟩
abbrev cX12_erase : ByteArray := prog_14_method_6_code
def yX12_erase : MethodName := ⟨RX12, "erase", "()I"⟩
abbrev cX12_sort : ByteArray := prog_14_method_7_code
def yX12_sort : MethodName := ⟨RX12, "sort", "(I)I"⟩
abbrev cX12_token : ByteArray := prog_14_method_8_code
def yX12_token : MethodName := ⟨RX12, "token", "()V"⟩
abbrev cX12_isWord : ByteArray := prog_14_method_9_code
def yX12_isWord : MethodName := ⟨RX12, "isWord", "(JI)Z"⟩
abbrev cX12_habitWord : ByteArray := prog_14_method_10_code
def yX12_habitWord : MethodName := ⟨RX12, "habitWord", "()I"⟩
abbrev cX12_wordOf : ByteArray := prog_14_method_11_code
def yX12_wordOf : MethodName := ⟨RX12, "wordOf", "()I"⟩
abbrev cX12_isNumber : ByteArray := prog_14_method_12_code
def yX12_isNumber : MethodName := ⟨RX12, "isNumber", "()Z"⟩
abbrev cX12_reads : ByteArray := prog_14_method_13_code
def yX12_reads : MethodName := ⟨RX12, "reads", "(II)Z"⟩
abbrev cX12_readsCoins : ByteArray := prog_14_method_14_code
def yX12_readsCoins : MethodName := ⟨RX12, "readsCoins", "()Z"⟩
abbrev cX12_readsCome : ByteArray := prog_14_method_15_code
def yX12_readsCome : MethodName := ⟨RX12, "readsCome", "()Z"⟩
abbrev cX12_readsRest : ByteArray := prog_14_method_16_code
def yX12_readsRest : MethodName := ⟨RX12, "readsRest", "(I)Z"⟩
abbrev cX12_readsLine : ByteArray := prog_14_method_17_code
def yX12_readsLine : MethodName := ⟨RX12, "readsLine", "()Z"⟩
abbrev cX12_fault : ByteArray := prog_14_method_18_code
def yX12_fault : MethodName := ⟨RX12, "fault", "()I"⟩
abbrev cX12_tellCoins : ByteArray := prog_14_method_19_code
def yX12_tellCoins : MethodName := ⟨RX12, "tellCoins", "(I)V"⟩
abbrev cX12_tellCome : ByteArray := prog_14_method_20_code
def yX12_tellCome : MethodName := ⟨RX12, "tellCome", "(I)V"⟩
abbrev cX12_tell : ByteArray := prog_14_method_21_code
def yX12_tell : MethodName := ⟨RX12, "tell", "(I)V"⟩
abbrev cX12_sunday : ByteArray := prog_14_method_22_code
def yX12_sunday : MethodName := ⟨RX12, "sunday", "()I"⟩
abbrev cX12_isKind : ByteArray := prog_14_method_23_code
def yX12_isKind : MethodName := ⟨RX12, "isKind", "(I)Z"⟩
abbrev cX12_isPerson : ByteArray := prog_14_method_24_code
def yX12_isPerson : MethodName := ⟨RX12, "isPerson", "(I)Z"⟩
abbrev cX12_coin : ByteArray := prog_14_method_25_code
def yX12_coin : MethodName := ⟨RX12, "coin", "(II)I"⟩
abbrev cX12_purse : ByteArray := prog_14_method_26_code
def yX12_purse : MethodName := ⟨RX12, "purse", "(II)I"⟩
abbrev cX12_worthOf : ByteArray := prog_14_method_27_code
def yX12_worthOf : MethodName := ⟨RX12, "worthOf", "(II)I"⟩
abbrev cX12_visitsLeft : ByteArray := prog_14_method_28_code
def yX12_visitsLeft : MethodName := ⟨RX12, "visitsLeft", "()I"⟩
abbrev cX12_leftOf : ByteArray := prog_14_method_29_code
def yX12_leftOf : MethodName := ⟨RX12, "leftOf", "(I)I"⟩
abbrev cX12_person : ByteArray := prog_14_method_30_code
def yX12_person : MethodName := ⟨RX12, "person", "(II)I"⟩
abbrev cX12_layTakes : ByteArray := prog_14_method_31_code
def yX12_layTakes : MethodName := ⟨RX12, "layTakes", "(II)I"⟩
abbrev cX12_gainOf : ByteArray := prog_14_method_32_code
def yX12_gainOf : MethodName := ⟨RX12, "gainOf", "(II)I"⟩
abbrev cX12_isHad : ByteArray := prog_14_method_33_code
def yX12_isHad : MethodName := ⟨RX12, "isHad", "(III)Z"⟩
abbrev cX12_throwsOne : ByteArray := prog_14_method_34_code
def yX12_throwsOne : MethodName := ⟨RX12, "throwsOne", "(III)V"⟩
abbrev cX12_byHabit : ByteArray := prog_14_method_35_code
def yX12_byHabit : MethodName := ⟨RX12, "byHabit", "(II)I"⟩
abbrev cX12_visitsBy : ByteArray := prog_14_method_36_code
def yX12_visitsBy : MethodName := ⟨RX12, "visitsBy", "(II)Z"⟩
abbrev cX12_as : ByteArray := prog_14_method_37_code
def yX12_as : MethodName := ⟨RX12, "as", "(II)I"⟩
abbrev cX12_come : ByteArray := prog_14_method_38_code
def yX12_come : MethodName := ⟨RX12, "come", "(I)I"⟩
abbrev cX12_gain : ByteArray := prog_14_method_39_code
def yX12_gain : MethodName := ⟨RX12, "gain", "(II)I"⟩
abbrev cX12_visit : ByteArray := prog_14_method_40_code
def yX12_visit : MethodName := ⟨RX12, "visit", "(I)I"⟩
abbrev cX12_go : ByteArray := prog_14_method_41_code
def yX12_go : MethodName := ⟨RX12, "go", "(I)I"⟩
abbrev cX12_copy : ByteArray := prog_14_method_42_code
def yX12_copy : MethodName := ⟨RX12, "copy", "(II)V"⟩
abbrev cX12_powerOf : ByteArray := prog_14_method_43_code
def yX12_powerOf : MethodName := ⟨RX12, "powerOf", "(I)I"⟩
abbrev cX12_goRow : ByteArray := prog_14_method_44_code
def yX12_goRow : MethodName := ⟨RX12, "goRow", "(III)I"⟩
abbrev cX12_layPlan : ByteArray := prog_14_method_45_code
def yX12_layPlan : MethodName := ⟨RX12, "layPlan", "(II)V"⟩
abbrev cX12_plan : ByteArray := prog_14_method_46_code
def yX12_plan : MethodName := ⟨RX12, "plan", "(II)I"⟩
abbrev cX12_league : ByteArray := prog_14_method_47_code
def yX12_league : MethodName := ⟨RX12, "league", "(II)I"⟩
abbrev cX12_takeUp : ByteArray := prog_14_method_48_code
def yX12_takeUp : MethodName := ⟨RX12, "takeUp", "(II)V"⟩
abbrev cX12_opens : ByteArray := prog_14_method_49_code
def yX12_opens : MethodName := ⟨RX12, "opens", "(II)Z"⟩
abbrev cX12_layGame : ByteArray := prog_14_method_50_code
def yX12_layGame : MethodName := ⟨RX12, "layGame", "()V"⟩
abbrev cX12_game : ByteArray := prog_14_method_51_code
def yX12_game : MethodName := ⟨RX12, "game", "(I)I"⟩
abbrev cX12_choice : ByteArray := prog_14_method_52_code
def yX12_choice : MethodName := ⟨RX12, "choice", "(I)I"⟩
abbrev cX12_divisor : ByteArray := prog_14_method_53_code
def yX12_divisor : MethodName := ⟨RX12, "divisor", "(JJ)J"⟩
abbrev cX12_worthBy : ByteArray := prog_14_method_54_code
def yX12_worthBy : MethodName := ⟨RX12, "worthBy", "(II)I"⟩
abbrev cX12_mean : ByteArray := prog_14_method_55_code
def yX12_mean : MethodName := ⟨RX12, "mean", "(III)J"⟩
abbrev cX12_dry : ByteArray := prog_14_method_56_code
def yX12_dry : MethodName := ⟨RX12, "dry", "()I"⟩
abbrev cX12_bait : ByteArray := prog_14_method_57_code
def yX12_bait : MethodName := ⟨RX12, "bait", "(I)I"⟩
abbrev cX12_note : ByteArray := prog_14_method_58_code
def yX12_note : MethodName := ⟨RX12, "note", "(II)I"⟩
abbrev cX12_forget : ByteArray := prog_14_method_59_code
def yX12_forget : MethodName := ⟨RX12, "forget", "()I"⟩
abbrev cX12_layOf : ByteArray := prog_14_method_60_code
def yX12_layOf : MethodName := ⟨RX12, "layOf", "(II)I"⟩
abbrev cX12_isSo : ByteArray := prog_14_method_61_code
def yX12_isSo : MethodName := ⟨RX12, "isSo", "(I)Z"⟩
abbrev cX12_lay : ByteArray := prog_14_method_62_code
def yX12_lay : MethodName := ⟨RX12, "lay", "(I)I"⟩
abbrev cX12_keep : ByteArray := prog_14_method_63_code
def yX12_keep : MethodName := ⟨RX12, "keep", "(I)I"⟩
abbrev cX12_back : ByteArray := prog_14_method_64_code
def yX12_back : MethodName := ⟨RX12, "back", "(I)I"⟩
abbrev cX12_worthThere : ByteArray := prog_14_method_65_code
def yX12_worthThere : MethodName := ⟨RX12, "worthThere", "()I"⟩
abbrev cX12_count : ByteArray := prog_14_method_66_code
def yX12_count : MethodName := ⟨RX12, "count", "(I)I"⟩
def RJ9 : String := "java/lang/Math"
def TJ9 : u_T := fun k => match k with
  | _ => ("", "", "", false)
def tyJ9 : Nat → FieldType := fun k => match k with
  | _ => .int
abbrev wsJ90 : List Cond := u_ws RJ9 TJ9 0
theorem nmJ9 : ∀ a, a < 0 → ∀ b, b < 0 → a ≠ b → (TJ9 a).2.1 ≠ (TJ9 b).2.1 := by decide +kernel
theorem tyJ9_ok : ∀ k, k < 0 → parseFieldDescriptor (TJ9 k).2.2.1 = some (tyJ9 k) := by decide +kernel
abbrev cJ9_max_7cf53 : ByteArray := prog_15_method_65_code
def yJ9_max_7cf53 : MethodName := ⟨RJ9, "max", "(II)I"⟩
abbrev cJ9_min_7cf53 : ByteArray := prog_15_method_69_code
def yJ9_min_7cf53 : MethodName := ⟨RJ9, "min", "(II)I"⟩
def RJ0 : String := "java/lang/String"
def TJ0 : u_T := fun k => match k with
  | _ => ("", "", "", false)
def tyJ0 : Nat → FieldType := fun k => match k with
  | _ => .int
abbrev wsJ00 : List Cond := u_ws RJ0 TJ0 0
theorem nmJ0 : ∀ a, a < 0 → ∀ b, b < 0 → a ≠ b → (TJ0 a).2.1 ≠ (TJ0 b).2.1 := by decide +kernel
theorem tyJ0_ok : ∀ k, k < 0 → parseFieldDescriptor (TJ0 k).2.2.1 = some (tyJ0 k) := by decide +kernel
abbrev cJ0_length_8abf5 : ByteArray := prog_16_method_54_code
def yJ0_length_8abf5 : MethodName := ⟨RJ0, "length", "()I"⟩
abbrev cJ0_charAt_5068e : ByteArray := prog_16_method_56_code
def yJ0_charAt_5068e : MethodName := ⟨RJ0, "charAt", "(I)C"⟩
abbrev cJ0_coder_7d493 : ByteArray := prog_16_method_152_code
def yJ0_coder_7d493 : MethodName := ⟨RJ0, "coder", "()B"⟩
abbrev cJ0_isLatin1_aae02 : ByteArray := prog_16_method_154_code
def yJ0_isLatin1_aae02 : MethodName := ⟨RJ0, "isLatin1", "()Z"⟩
abbrev cJ0_checkIndex_df160 : ByteArray := prog_16_method_155_code
def yJ0_checkIndex_df160 : MethodName := ⟨RJ0, "checkIndex", "(II)V"⟩
def RJ1 : String := "java/lang/StringLatin1"
def TJ1 : u_T := fun k => match k with
  | _ => ("", "", "", false)
def tyJ1 : Nat → FieldType := fun k => match k with
  | _ => .int
abbrev wsJ10 : List Cond := u_ws RJ1 TJ1 0
theorem nmJ1 : ∀ a, a < 0 → ∀ b, b < 0 → a ≠ b → (TJ1 a).2.1 ≠ (TJ1 b).2.1 := by decide +kernel
theorem tyJ1_ok : ∀ k, k < 0 → parseFieldDescriptor (TJ1 k).2.2.1 = some (tyJ1 k) := by decide +kernel
abbrev cJ1_charAt_3b067 : ByteArray := prog_17_method_2_code
def yJ1_charAt_3b067 : MethodName := ⟨RJ1, "charAt", "([BI)C"⟩
def RJ2 : String := "java/lang/StringUTF16"
def TJ2 : u_T := fun k => match k with
  | _ => ("", "", "", false)
def tyJ2 : Nat → FieldType := fun k => match k with
  | _ => .int
abbrev wsJ20 : List Cond := u_ws RJ2 TJ2 0
theorem nmJ2 : ∀ a, a < 0 → ∀ b, b < 0 → a ≠ b → (TJ2 a).2.1 ≠ (TJ2 b).2.1 := by decide +kernel
theorem tyJ2_ok : ∀ k, k < 0 → parseFieldDescriptor (TJ2 k).2.2.1 = some (tyJ2 k) := by decide +kernel
abbrev cJ2_getChar_3b067 : ByteArray := prog_18_method_5_code
def yJ2_getChar_3b067 : MethodName := ⟨RJ2, "getChar", "([BI)C"⟩
abbrev cJ2_length_9d52b : ByteArray := prog_18_method_6_code
def yJ2_length_9d52b : MethodName := ⟨RJ2, "length", "([B)I"⟩
abbrev cJ2_charAt_3b067 : ByteArray := prog_18_method_83_code
def yJ2_charAt_3b067 : MethodName := ⟨RJ2, "charAt", "([BI)C"⟩
abbrev cJ2_checkIndex_2214a : ByteArray := prog_18_method_91_code
def yJ2_checkIndex_2214a : MethodName := ⟨RJ2, "checkIndex", "(I[B)V"⟩
def RJ10 : String := "java/lang/System"
def TJ10 : u_T := fun k => match k with
  | _ => ("", "", "", false)
def tyJ10 : Nat → FieldType := fun k => match k with
  | _ => .int
abbrev wsJ100 : List Cond := u_ws RJ10 TJ10 0
theorem nmJ10 : ∀ a, a < 0 → ∀ b, b < 0 → a ≠ b → (TJ10 a).2.1 ≠ (TJ10 b).2.1 := by decide +kernel
theorem tyJ10_ok : ∀ k, k < 0 → parseFieldDescriptor (TJ10 k).2.2.1 = some (tyJ10 k) := by decide +kernel
def RJ3 : String := "jdk/internal/util/Preconditions"
def TJ3 : u_T := fun k => match k with
  | _ => ("", "", "", false)
def tyJ3 : Nat → FieldType := fun k => match k with
  | _ => .int
abbrev wsJ30 : List Cond := u_ws RJ3 TJ3 0
theorem nmJ3 : ∀ a, a < 0 → ∀ b, b < 0 → a ≠ b → (TJ3 a).2.1 ≠ (TJ3 b).2.1 := by decide +kernel
theorem tyJ3_ok : ∀ k, k < 0 → parseFieldDescriptor (TJ3 k).2.2.1 = some (tyJ3 k) := by decide +kernel
abbrev cJ3_checkIndex_8e157 : ByteArray := prog_20_method_11_code
def yJ3_checkIndex_8e157 : MethodName := ⟨RJ3, "checkIndex", "(IILjava/util/function/BiFunction;)I"⟩
def RL : String := "ThrownCoinsLaw"
abbrev cL_law : ByteArray := code
def yL_law : MethodName := ⟨RL, "law", "([I)Z"⟩
abbrev vwCl : List vw_C := [(RX0, TX0, 0), (RX2, TX2, 8), (RX3, TX3, 0), (RX4, TX4, 2), (RX5, TX5, 0), (RX6, TX6, 9), (RX7, TX7, 8), (RX9, TX9, 12), (RX10, TX10, 0), (RX11, TX11, 7), (RX12, TX12, 28)]
end
section
/-- the tables' words that a callee may be given: those that hold for ever -/
def TB : List Cond := lw_tbl.filter goodWord
theorem tb_in {w : Cond} (h : w ∈ tables_1) (g : goodWord w = true) : w ∈ TB := List.mem_filter.mpr ⟨List.mem_append_right _ h, g⟩
theorem tb_1 {w : Cond} (i : Nat) (h : tables_1_1[i]? = some w) (g : goodWord w = true) : w ∈ TB := tb_in (List.mem_append_left _ (List.mem_of_getElem? h)) g
theorem tb_2 {w : Cond} (i : Nat) (h : tables_1_2[i]? = some w) (g : goodWord w = true) : w ∈ TB := tb_in (List.mem_append_right _ (List.mem_append_left _ (List.mem_of_getElem? h))) g
theorem tb_3 {w : Cond} (i : Nat) (h : tables_1_3[i]? = some w) (g : goodWord w = true) : w ∈ TB := tb_in (List.mem_append_right _ (List.mem_append_right _ (List.mem_append_left _ (List.mem_of_getElem? h)))) g
theorem tb_4 {w : Cond} (i : Nat) (h : tables_1_4[i]? = some w) (g : goodWord w = true) : w ∈ TB := tb_in (List.mem_append_right _ (List.mem_append_right _ (List.mem_append_right _ (List.mem_append_left _ (List.mem_of_getElem? h))))) g
theorem tb_5 {w : Cond} (i : Nat) (h : tables_1_5[i]? = some w) (g : goodWord w = true) : w ∈ TB := tb_in (List.mem_append_right _ (List.mem_append_right _ (List.mem_append_right _ (List.mem_append_right _ (List.mem_of_getElem? h))))) g
theorem tb_s {w : Cond} (i : Nat) (h : (k2_sels lw_privs)[i]? = some w) (g : goodWord w = true) : w ∈ TB := List.mem_filter.mpr ⟨List.mem_append_left _ (List.mem_of_getElem? h), g⟩
theorem tb_good : TB.all goodWord = true := by simp [TB]
theorem tb_goodIn {x : Cond} {ws : List Cond} (h : ∀ w ∈ ws, w ∈ TB) : GoodIn (x :: TB) ws := fun w hw => ⟨List.mem_cons_of_mem _ (h w hw), good_of_word (List.mem_filter.mp (h w hw)).2⟩
theorem tb_goodIn' {ws : List Cond} (h : ∀ w ∈ ws, w ∈ TB) : GoodIn TB ws := fun w hw => ⟨h w hw, good_of_word (List.mem_filter.mp (h w hw)).2⟩
theorem wt_0 : (Jvm.Cond.initialized "ThrownCoinsLaw") ∈ TB := tb_1 0 (by decide +kernel) rfl
theorem wt_1 : (Jvm.Cond.initialized "ThrownCoins") ∈ TB := tb_1 1 (by decide +kernel) rfl
theorem wt_2 : (Jvm.Cond.initialized "ThrownCoins$Told") ∈ TB := tb_1 2 (by decide +kernel) rfl
theorem wt_3 : (Jvm.Cond.initialized "ThrownCoins$Folk") ∈ TB := tb_1 3 (by decide +kernel) rfl
theorem wt_4 : (Jvm.Cond.initialized "ThrownCoins$Never") ∈ TB := tb_1 4 (by decide +kernel) rfl
theorem wt_5 : (Jvm.Cond.initialized "ThrownCoins$Thrower") ∈ TB := tb_1 5 (by decide +kernel) rfl
theorem wt_6 : (Jvm.Cond.initialized "ThrownCoins$Greedy") ∈ TB := tb_1 6 (by decide +kernel) rfl
theorem wt_7 : (Jvm.Cond.initialized "ThrownCoins$Waiting") ∈ TB := tb_1 7 (by decide +kernel) rfl
theorem wt_8 : (Jvm.Cond.initialized "ThrownCoins$Cheap") ∈ TB := tb_1 8 (by decide +kernel) rfl
theorem wt_9 : (Jvm.Cond.initialized "ThrownCoins$Lot") ∈ TB := tb_1 9 (by decide +kernel) rfl
theorem wt_10 : (Jvm.Cond.initialized "ThrownCoins$Text") ∈ TB := tb_1 10 (by decide +kernel) rfl
theorem wt_11 : (Jvm.Cond.initialized "ThrownCoins$Foretelling") ∈ TB := tb_1 11 (by decide +kernel) rfl
theorem wt_12 : (Jvm.Cond.initialized "ThrownCoins$Notes") ∈ TB := tb_1 12 (by decide +kernel) rfl
theorem wt_13 : (Jvm.Cond.initialized "ThrownCoinsModel") ∈ TB := tb_1 13 (by decide +kernel) rfl
theorem wt_14 : (Jvm.Cond.initialized "java/lang/System") ∈ TB := tb_1 14 (by decide +kernel) rfl
theorem wt_15 : (Jvm.Cond.initialized "java/lang/Math") ∈ TB := tb_1 15 (by decide +kernel) rfl
theorem wt_16 : (Jvm.Cond.initialized "java/lang/String") ∈ TB := tb_1 16 (by decide +kernel) rfl
theorem wt_17 : (Jvm.Cond.initialized "java/lang/StringLatin1") ∈ TB := tb_1 17 (by decide +kernel) rfl
theorem wt_18 : (Jvm.Cond.initialized "jdk/internal/util/Preconditions") ∈ TB := tb_1 18 (by decide +kernel) rfl
theorem wt_19 : (Jvm.Cond.initialized "java/lang/StringUTF16") ∈ TB := tb_1 19 (by decide +kernel) rfl
theorem wt_20 : (Jvm.Cond.classLink "ThrownCoinsLaw" (7 : Nat) "ThrownCoins") ∈ TB := tb_1 20 (by decide +kernel) rfl
theorem wt_21 : (Jvm.Cond.instantiable "ThrownCoins" (7 : Nat)) ∈ TB := tb_1 21 (by decide +kernel) rfl
theorem wt_22 : (Jvm.Cond.methodLink "ThrownCoinsLaw" (9 : Nat) ({ cls := "ThrownCoins", name := "<init>", desc := "()V" } : Jvm.MethodName)) ∈ TB := tb_1 22 (by decide +kernel) rfl
theorem wt_23 : (Jvm.Cond.instanceMethod ({ cls := "ThrownCoins", name := "<init>", desc := "()V" } : Jvm.MethodName)) ∈ TB := tb_1 23 (by decide +kernel) rfl
theorem wt_24 : (Jvm.Cond.code ({ cls := "ThrownCoins", name := "<init>", desc := "()V" } : Jvm.MethodName) prog_1_method_1_code (1 : Nat) (Option.none : Option Jvm.ClassFile.FieldType)) ∈ TB := tb_1 24 (by decide +kernel) rfl
theorem wt_25 : (Jvm.Cond.methodLink "ThrownCoins" (1 : Nat) ({ cls := "java/lang/Object", name := "<init>", desc := "()V" } : Jvm.MethodName)) ∈ TB := tb_1 25 (by decide +kernel) rfl
theorem wt_26 : (Jvm.Cond.instanceMethod ({ cls := "java/lang/Object", name := "<init>", desc := "()V" } : Jvm.MethodName)) ∈ TB := tb_1 26 (by decide +kernel) rfl
theorem wt_27 : (Jvm.Cond.code ({ cls := "java/lang/Object", name := "<init>", desc := "()V" } : Jvm.MethodName) object_method_1_code (1 : Nat) (Option.none : Option Jvm.ClassFile.FieldType)) ∈ TB := tb_1 27 (by decide +kernel) rfl
theorem wt_28 : (Jvm.Cond.classLink "ThrownCoins" (7 : Nat) "ThrownCoins$Told") ∈ TB := tb_1 28 (by decide +kernel) rfl
theorem wt_29 : (Jvm.Cond.instantiable "ThrownCoins$Told" (12 : Nat)) ∈ TB := tb_1 29 (by decide +kernel) rfl
theorem wt_30 : (Jvm.Cond.methodLink "ThrownCoins" (9 : Nat) ({ cls := "ThrownCoins$Told", name := "<init>", desc := "()V" } : Jvm.MethodName)) ∈ TB := tb_1 30 (by decide +kernel) rfl
theorem wt_31 : (Jvm.Cond.instanceMethod ({ cls := "ThrownCoins$Told", name := "<init>", desc := "()V" } : Jvm.MethodName)) ∈ TB := tb_1 31 (by decide +kernel) rfl
theorem wt_32 : (Jvm.Cond.code ({ cls := "ThrownCoins$Told", name := "<init>", desc := "()V" } : Jvm.MethodName) prog_11_method_1_code (1 : Nat) (Option.none : Option Jvm.ClassFile.FieldType)) ∈ TB := tb_1 32 (by decide +kernel) rfl
theorem wt_33 : (Jvm.Cond.methodLink "ThrownCoins$Told" (3 : Nat) ({ cls := "java/lang/Object", name := "<init>", desc := "()V" } : Jvm.MethodName)) ∈ TB := tb_1 33 (by decide +kernel) rfl
theorem wt_34 : (Jvm.Cond.classLink "ThrownCoins$Told" (9 : Nat) "ThrownCoins$Never") ∈ TB := tb_1 34 (by decide +kernel) rfl
theorem wt_35 : (Jvm.Cond.instantiable "ThrownCoins$Never" (0 : Nat)) ∈ TB := tb_1 35 (by decide +kernel) rfl
theorem wt_37 : (Jvm.Cond.instanceMethod ({ cls := "ThrownCoins$Never", name := "<init>", desc := "()V" } : Jvm.MethodName)) ∈ TB := tb_1 37 (by decide +kernel) rfl
theorem wt_38 : (Jvm.Cond.code ({ cls := "ThrownCoins$Never", name := "<init>", desc := "()V" } : Jvm.MethodName) prog_7_method_1_code (1 : Nat) (Option.none : Option Jvm.ClassFile.FieldType)) ∈ TB := tb_1 38 (by decide +kernel) rfl
theorem wt_40 : (Jvm.Cond.instanceMethod ({ cls := "ThrownCoins$Folk", name := "<init>", desc := "()V" } : Jvm.MethodName)) ∈ TB := tb_1 40 (by decide +kernel) rfl
theorem wt_41 : (Jvm.Cond.code ({ cls := "ThrownCoins$Folk", name := "<init>", desc := "()V" } : Jvm.MethodName) prog_3_method_1_code (1 : Nat) (Option.none : Option Jvm.ClassFile.FieldType)) ∈ TB := tb_1 41 (by decide +kernel) rfl
theorem wt_42 : (Jvm.Cond.methodLink "ThrownCoins$Folk" (3 : Nat) ({ cls := "java/lang/Object", name := "<init>", desc := "()V" } : Jvm.MethodName)) ∈ TB := tb_1 42 (by decide +kernel) rfl
theorem wt_44 : (Jvm.Cond.classLink "ThrownCoins$Told" (18 : Nat) "ThrownCoins$Greedy") ∈ TB := tb_1 44 (by decide +kernel) rfl
theorem wt_45 : (Jvm.Cond.instantiable "ThrownCoins$Greedy" (0 : Nat)) ∈ TB := tb_1 45 (by decide +kernel) rfl
theorem wt_47 : (Jvm.Cond.instanceMethod ({ cls := "ThrownCoins$Greedy", name := "<init>", desc := "()V" } : Jvm.MethodName)) ∈ TB := tb_1 47 (by decide +kernel) rfl
theorem wt_48 : (Jvm.Cond.code ({ cls := "ThrownCoins$Greedy", name := "<init>", desc := "()V" } : Jvm.MethodName) prog_5_method_1_code (1 : Nat) (Option.none : Option Jvm.ClassFile.FieldType)) ∈ TB := tb_1 48 (by decide +kernel) rfl
theorem wt_50 : (Jvm.Cond.instanceMethod ({ cls := "ThrownCoins$Thrower", name := "<init>", desc := "()V" } : Jvm.MethodName)) ∈ TB := tb_1 50 (by decide +kernel) rfl
theorem wt_51 : (Jvm.Cond.code ({ cls := "ThrownCoins$Thrower", name := "<init>", desc := "()V" } : Jvm.MethodName) prog_10_method_1_code (1 : Nat) (Option.none : Option Jvm.ClassFile.FieldType)) ∈ TB := tb_1 51 (by decide +kernel) rfl
theorem wt_54 : (Jvm.Cond.classLink "ThrownCoins$Told" (24 : Nat) "ThrownCoins$Waiting") ∈ TB := tb_1 54 (by decide +kernel) rfl
theorem wt_55 : (Jvm.Cond.instantiable "ThrownCoins$Waiting" (0 : Nat)) ∈ TB := tb_1 55 (by decide +kernel) rfl
theorem wt_57 : (Jvm.Cond.instanceMethod ({ cls := "ThrownCoins$Waiting", name := "<init>", desc := "()V" } : Jvm.MethodName)) ∈ TB := tb_1 57 (by decide +kernel) rfl
theorem wt_58 : (Jvm.Cond.code ({ cls := "ThrownCoins$Waiting", name := "<init>", desc := "()V" } : Jvm.MethodName) prog_12_method_1_code (1 : Nat) (Option.none : Option Jvm.ClassFile.FieldType)) ∈ TB := tb_1 58 (by decide +kernel) rfl
theorem wt_61 : (Jvm.Cond.classLink "ThrownCoins$Told" (30 : Nat) "ThrownCoins$Cheap") ∈ TB := tb_1 61 (by decide +kernel) rfl
theorem wt_62 : (Jvm.Cond.instantiable "ThrownCoins$Cheap" (0 : Nat)) ∈ TB := tb_1 62 (by decide +kernel) rfl
theorem wt_64 : (Jvm.Cond.instanceMethod ({ cls := "ThrownCoins$Cheap", name := "<init>", desc := "()V" } : Jvm.MethodName)) ∈ TB := tb_1 64 (by decide +kernel) rfl
theorem wt_65 : (Jvm.Cond.code ({ cls := "ThrownCoins$Cheap", name := "<init>", desc := "()V" } : Jvm.MethodName) prog_2_method_1_code (1 : Nat) (Option.none : Option Jvm.ClassFile.FieldType)) ∈ TB := tb_1 65 (by decide +kernel) rfl
theorem wt_68 : (Jvm.Cond.classLink "ThrownCoins$Told" (49 : Nat) "ThrownCoins$Lot") ∈ TB := tb_1 68 (by decide +kernel) rfl
theorem wt_69 : (Jvm.Cond.instantiable "ThrownCoins$Lot" (2 : Nat)) ∈ TB := tb_1 69 (by decide +kernel) rfl
theorem wt_71 : (Jvm.Cond.instanceMethod ({ cls := "ThrownCoins$Lot", name := "<init>", desc := "()V" } : Jvm.MethodName)) ∈ TB := tb_1 71 (by decide +kernel) rfl
theorem wt_72 : (Jvm.Cond.code ({ cls := "ThrownCoins$Lot", name := "<init>", desc := "()V" } : Jvm.MethodName) prog_6_method_1_code (1 : Nat) (Option.none : Option Jvm.ClassFile.FieldType)) ∈ TB := tb_1 72 (by decide +kernel) rfl
theorem wt_73 : (Jvm.Cond.methodLink "ThrownCoins$Lot" (3 : Nat) ({ cls := "java/lang/Object", name := "<init>", desc := "()V" } : Jvm.MethodName)) ∈ TB := tb_1 73 (by decide +kernel) rfl
theorem wt_74 : (Jvm.Cond.fieldLink "ThrownCoins$Lot" (9 : Nat) "ThrownCoins$Lot" "coins" "[I") ∈ TB := tb_1 74 (by decide +kernel) rfl
theorem wt_76 : (Jvm.Cond.fieldLink "ThrownCoins$Lot" (21 : Nat) "ThrownCoins$Lot" "gone" "I") ∈ TB := tb_1 76 (by decide +kernel) rfl
theorem wt_79 : (Jvm.Cond.laysFinal "ThrownCoins$Lot" "ThrownCoins$Lot" "coins" "[I") ∈ TB := tb_1 79 (by decide +kernel) rfl
theorem wt_81 : (Jvm.Cond.lays "ThrownCoins$Lot" "ThrownCoins$Lot" "gone" "I") ∈ TB := tb_1 81 (by decide +kernel) rfl
theorem wt_84 : (Jvm.Cond.arrayClass Jvm.ClassFile.FieldType.int) ∈ TB := tb_1 84 (by decide +kernel) rfl
theorem wt_85 : (Jvm.Cond.fieldLink "ThrownCoins$Told" (12 : Nat) "ThrownCoins$Told" "never" "LThrownCoins$Folk;") ∈ TB := tb_1 85 (by decide +kernel) rfl
theorem wt_86 : (Jvm.Cond.fieldLink "ThrownCoins$Told" (21 : Nat) "ThrownCoins$Told" "greedy" "LThrownCoins$Folk;") ∈ TB := tb_1 86 (by decide +kernel) rfl
theorem wt_88 : (Jvm.Cond.fieldLink "ThrownCoins$Told" (27 : Nat) "ThrownCoins$Told" "waiting" "LThrownCoins$Folk;") ∈ TB := tb_1 88 (by decide +kernel) rfl
theorem wt_89 : (Jvm.Cond.fieldLink "ThrownCoins$Told" (33 : Nat) "ThrownCoins$Told" "cheap" "LThrownCoins$Folk;") ∈ TB := tb_1 89 (by decide +kernel) rfl
theorem wt_90 : (Jvm.Cond.fieldLink "ThrownCoins$Told" (36 : Nat) "ThrownCoins$Told" "worths" "[I") ∈ TB := tb_1 90 (by decide +kernel) rfl
theorem wt_91 : (Jvm.Cond.fieldLink "ThrownCoins$Told" (40 : Nat) "ThrownCoins$Told" "habits" "[I") ∈ TB := tb_1 91 (by decide +kernel) rfl
theorem wt_92 : (Jvm.Cond.fieldLink "ThrownCoins$Told" (43 : Nat) "ThrownCoins$Told" "bounds" "[I") ∈ TB := tb_1 92 (by decide +kernel) rfl
theorem wt_93 : (Jvm.Cond.fieldLink "ThrownCoins$Told" (46 : Nat) "ThrownCoins$Told" "visitors" "[I") ∈ TB := tb_1 93 (by decide +kernel) rfl
theorem wt_94 : (Jvm.Cond.fieldLink "ThrownCoins$Told" (52 : Nat) "ThrownCoins$Told" "atFirst" "LThrownCoins$Lot;") ∈ TB := tb_1 94 (by decide +kernel) rfl
theorem wt_97 : (Jvm.Cond.fieldLink "ThrownCoins$Told" (56 : Nat) "ThrownCoins$Told" "kinds" "I") ∈ TB := tb_1 97 (by decide +kernel) rfl
theorem wt_103 : (Jvm.Cond.fieldLink "ThrownCoins$Told" (73 : Nat) "ThrownCoins$Told" "visitCount" "I") ∈ TB := tb_1 103 (by decide +kernel) rfl
theorem wt_107 : (Jvm.Cond.fieldLink "ThrownCoins$Told" (60 : Nat) "ThrownCoins$Told" "law" "I") ∈ TB := tb_1 107 (by decide +kernel) rfl
theorem wt_110 : (Jvm.Cond.laysFinal "ThrownCoins$Told" "ThrownCoins$Told" "never" "LThrownCoins$Folk;") ∈ TB := tb_1 110 (by decide +kernel) rfl
theorem wt_112 : (Jvm.Cond.laysFinal "ThrownCoins$Told" "ThrownCoins$Told" "greedy" "LThrownCoins$Folk;") ∈ TB := tb_1 112 (by decide +kernel) rfl
theorem wt_114 : (Jvm.Cond.laysFinal "ThrownCoins$Told" "ThrownCoins$Told" "waiting" "LThrownCoins$Folk;") ∈ TB := tb_1 114 (by decide +kernel) rfl
theorem wt_116 : (Jvm.Cond.laysFinal "ThrownCoins$Told" "ThrownCoins$Told" "cheap" "LThrownCoins$Folk;") ∈ TB := tb_1 116 (by decide +kernel) rfl
theorem wt_118 : (Jvm.Cond.laysFinal "ThrownCoins$Told" "ThrownCoins$Told" "worths" "[I") ∈ TB := tb_1 118 (by decide +kernel) rfl
theorem wt_120 : (Jvm.Cond.laysFinal "ThrownCoins$Told" "ThrownCoins$Told" "habits" "[I") ∈ TB := tb_1 120 (by decide +kernel) rfl
theorem wt_122 : (Jvm.Cond.laysFinal "ThrownCoins$Told" "ThrownCoins$Told" "bounds" "[I") ∈ TB := tb_1 122 (by decide +kernel) rfl
theorem wt_124 : (Jvm.Cond.laysFinal "ThrownCoins$Told" "ThrownCoins$Told" "visitors" "[I") ∈ TB := tb_1 124 (by decide +kernel) rfl
theorem wt_126 : (Jvm.Cond.laysFinal "ThrownCoins$Told" "ThrownCoins$Told" "atFirst" "LThrownCoins$Lot;") ∈ TB := tb_1 126 (by decide +kernel) rfl
theorem wt_128 : (Jvm.Cond.lays "ThrownCoins$Told" "ThrownCoins$Told" "kinds" "I") ∈ TB := tb_1 128 (by decide +kernel) rfl
theorem wt_130 : (Jvm.Cond.lays "ThrownCoins$Told" "ThrownCoins$Told" "visitCount" "I") ∈ TB := tb_1 130 (by decide +kernel) rfl
theorem wt_132 : (Jvm.Cond.lays "ThrownCoins$Told" "ThrownCoins$Told" "law" "I") ∈ TB := tb_1 132 (by decide +kernel) rfl
theorem wt_135 : (Jvm.Cond.classLink "ThrownCoins" (16 : Nat) "ThrownCoins$Lot") ∈ TB := tb_1 135 (by decide +kernel) rfl
theorem wt_138 : (Jvm.Cond.classLink "ThrownCoins" (27 : Nat) "ThrownCoins$Text") ∈ TB := tb_1 138 (by decide +kernel) rfl
theorem wt_139 : (Jvm.Cond.instantiable "ThrownCoins$Text" (8 : Nat)) ∈ TB := tb_1 139 (by decide +kernel) rfl
theorem wt_141 : (Jvm.Cond.instanceMethod ({ cls := "ThrownCoins$Text", name := "<init>", desc := "()V" } : Jvm.MethodName)) ∈ TB := tb_1 141 (by decide +kernel) rfl
theorem wt_142 : (Jvm.Cond.code ({ cls := "ThrownCoins$Text", name := "<init>", desc := "()V" } : Jvm.MethodName) prog_9_method_1_code (1 : Nat) (Option.none : Option Jvm.ClassFile.FieldType)) ∈ TB := tb_1 142 (by decide +kernel) rfl
theorem wt_143 : (Jvm.Cond.methodLink "ThrownCoins$Text" (3 : Nat) ({ cls := "java/lang/Object", name := "<init>", desc := "()V" } : Jvm.MethodName)) ∈ TB := tb_1 143 (by decide +kernel) rfl
theorem wt_144 : (Jvm.Cond.classLink "ThrownCoins$Text" (15 : Nat) "ThrownCoins$Told") ∈ TB := tb_1 144 (by decide +kernel) rfl
theorem wt_145 : (Jvm.Cond.methodLink "ThrownCoins$Text" (17 : Nat) ({ cls := "ThrownCoins$Told", name := "<init>", desc := "()V" } : Jvm.MethodName)) ∈ TB := tb_1 145 (by decide +kernel) rfl
theorem wt_146 : (Jvm.Cond.fieldLink "ThrownCoins$Text" (9 : Nat) "ThrownCoins$Text" "bytes" "[I") ∈ TB := tb_1 146 (by decide +kernel) rfl
theorem wt_147 : (Jvm.Cond.fieldLink "ThrownCoins$Text" (18 : Nat) "ThrownCoins$Text" "draft" "LThrownCoins$Told;") ∈ TB := tb_1 147 (by decide +kernel) rfl
theorem wt_149 : (Jvm.Cond.fieldLink "ThrownCoins$Text" (22 : Nat) "ThrownCoins$Text" "length" "I") ∈ TB := tb_1 149 (by decide +kernel) rfl
theorem wt_151 : (Jvm.Cond.fieldLink "ThrownCoins$Text" (36 : Nat) "ThrownCoins$Text" "lines" "I") ∈ TB := tb_1 151 (by decide +kernel) rfl
theorem wt_153 : (Jvm.Cond.fieldLink "ThrownCoins$Text" (43 : Nat) "ThrownCoins$Text" "begin" "I") ∈ TB := tb_1 153 (by decide +kernel) rfl
theorem wt_154 : (Jvm.Cond.fieldLink "ThrownCoins$Text" (30 : Nat) "ThrownCoins$Text" "end" "I") ∈ TB := tb_1 154 (by decide +kernel) rfl
theorem wt_155 : (Jvm.Cond.fieldLink "ThrownCoins$Text" (46 : Nat) "ThrownCoins$Text" "token" "I") ∈ TB := tb_1 155 (by decide +kernel) rfl
theorem wt_156 : (Jvm.Cond.fieldLink "ThrownCoins$Text" (86 : Nat) "ThrownCoins$Text" "value" "I") ∈ TB := tb_1 156 (by decide +kernel) rfl
theorem wt_157 : (Jvm.Cond.laysFinal "ThrownCoins$Text" "ThrownCoins$Text" "bytes" "[I") ∈ TB := tb_1 157 (by decide +kernel) rfl
theorem wt_159 : (Jvm.Cond.laysFinal "ThrownCoins$Text" "ThrownCoins$Text" "draft" "LThrownCoins$Told;") ∈ TB := tb_1 159 (by decide +kernel) rfl
theorem wt_161 : (Jvm.Cond.lays "ThrownCoins$Text" "ThrownCoins$Text" "length" "I") ∈ TB := tb_1 161 (by decide +kernel) rfl
theorem wt_163 : (Jvm.Cond.lays "ThrownCoins$Text" "ThrownCoins$Text" "lines" "I") ∈ TB := tb_1 163 (by decide +kernel) rfl
theorem wt_165 : (Jvm.Cond.lays "ThrownCoins$Text" "ThrownCoins$Text" "begin" "I") ∈ TB := tb_1 165 (by decide +kernel) rfl
theorem wt_167 : (Jvm.Cond.lays "ThrownCoins$Text" "ThrownCoins$Text" "end" "I") ∈ TB := tb_1 167 (by decide +kernel) rfl
theorem wt_169 : (Jvm.Cond.lays "ThrownCoins$Text" "ThrownCoins$Text" "token" "I") ∈ TB := tb_1 169 (by decide +kernel) rfl
theorem wt_171 : (Jvm.Cond.lays "ThrownCoins$Text" "ThrownCoins$Text" "value" "I") ∈ TB := tb_1 171 (by decide +kernel) rfl
theorem wt_174 : (Jvm.Cond.classLink "ThrownCoins" (34 : Nat) "ThrownCoins$Foretelling") ∈ TB := tb_1 174 (by decide +kernel) rfl
theorem wt_175 : (Jvm.Cond.instantiable "ThrownCoins$Foretelling" (8 : Nat)) ∈ TB := tb_1 175 (by decide +kernel) rfl
theorem wt_176 : (Jvm.Cond.methodLink "ThrownCoins" (36 : Nat) ({ cls := "ThrownCoins$Foretelling", name := "<init>", desc := "(LThrownCoins$Told;)V" } : Jvm.MethodName)) ∈ TB := tb_1 176 (by decide +kernel) rfl
theorem wt_177 : (Jvm.Cond.instanceMethod ({ cls := "ThrownCoins$Foretelling", name := "<init>", desc := "(LThrownCoins$Told;)V" } : Jvm.MethodName)) ∈ TB := tb_1 177 (by decide +kernel) rfl
theorem wt_178 : (Jvm.Cond.code ({ cls := "ThrownCoins$Foretelling", name := "<init>", desc := "(LThrownCoins$Told;)V" } : Jvm.MethodName) prog_4_method_1_code (3 : Nat) (Option.none : Option Jvm.ClassFile.FieldType)) ∈ TB := tb_1 178 (by decide +kernel) rfl
theorem wt_179 : (Jvm.Cond.methodLink "ThrownCoins$Foretelling" (3 : Nat) ({ cls := "java/lang/Object", name := "<init>", desc := "()V" } : Jvm.MethodName)) ∈ TB := tb_1 179 (by decide +kernel) rfl
theorem wt_180 : (Jvm.Cond.classLink "ThrownCoins$Foretelling" (11 : Nat) "ThrownCoins$Lot") ∈ TB := tb_1 180 (by decide +kernel) rfl
theorem wt_181 : (Jvm.Cond.classLink "ThrownCoins$Foretelling" (17 : Nat) "[[I") ∈ TB := tb_1 181 (by decide +kernel) rfl
theorem wt_184 : (Jvm.Cond.fieldLink "ThrownCoins$Foretelling" (29 : Nat) "ThrownCoins$Foretelling" "told" "LThrownCoins$Told;") ∈ TB := tb_1 184 (by decide +kernel) rfl
theorem wt_185 : (Jvm.Cond.fieldLink "ThrownCoins$Foretelling" (13 : Nat) "ThrownCoins$Foretelling" "lots" "[LThrownCoins$Lot;") ∈ TB := tb_1 185 (by decide +kernel) rfl
theorem wt_186 : (Jvm.Cond.fieldLink "ThrownCoins$Foretelling" (19 : Nat) "ThrownCoins$Foretelling" "ends" "[[I") ∈ TB := tb_1 186 (by decide +kernel) rfl
theorem wt_187 : (Jvm.Cond.fieldLink "ThrownCoins$Foretelling" (22 : Nat) "ThrownCoins$Foretelling" "rows" "[[I") ∈ TB := tb_1 187 (by decide +kernel) rfl
theorem wt_188 : (Jvm.Cond.fieldLink "ThrownCoins$Foretelling" (25 : Nat) "ThrownCoins$Foretelling" "goals" "I") ∈ TB := tb_1 188 (by decide +kernel) rfl
theorem wt_189 : (Jvm.Cond.fieldLink "ThrownCoins$Foretelling" (34 : Nat) "ThrownCoins$Foretelling" "steps" "I") ∈ TB := tb_1 189 (by decide +kernel) rfl
theorem wt_190 : (Jvm.Cond.fieldLink "ThrownCoins$Foretelling" (117 : Nat) "ThrownCoins$Foretelling" "hoping" "I") ∈ TB := tb_1 190 (by decide +kernel) rfl
theorem wt_191 : (Jvm.Cond.fieldLink "ThrownCoins$Foretelling" (120 : Nat) "ThrownCoins$Foretelling" "tenths" "I") ∈ TB := tb_1 191 (by decide +kernel) rfl
theorem wt_192 : (Jvm.Cond.laysFinal "ThrownCoins$Foretelling" "ThrownCoins$Foretelling" "told" "LThrownCoins$Told;") ∈ TB := tb_1 192 (by decide +kernel) rfl
theorem wt_194 : (Jvm.Cond.laysFinal "ThrownCoins$Foretelling" "ThrownCoins$Foretelling" "lots" "[LThrownCoins$Lot;") ∈ TB := tb_1 194 (by decide +kernel) rfl
theorem wt_196 : (Jvm.Cond.laysFinal "ThrownCoins$Foretelling" "ThrownCoins$Foretelling" "ends" "[[I") ∈ TB := tb_1 196 (by decide +kernel) rfl
theorem wt_198 : (Jvm.Cond.laysFinal "ThrownCoins$Foretelling" "ThrownCoins$Foretelling" "rows" "[[I") ∈ TB := tb_1 198 (by decide +kernel) rfl
theorem wt_200 : (Jvm.Cond.lays "ThrownCoins$Foretelling" "ThrownCoins$Foretelling" "goals" "I") ∈ TB := tb_1 200 (by decide +kernel) rfl
theorem wt_202 : (Jvm.Cond.lays "ThrownCoins$Foretelling" "ThrownCoins$Foretelling" "steps" "I") ∈ TB := tb_1 202 (by decide +kernel) rfl
theorem wt_204 : (Jvm.Cond.lays "ThrownCoins$Foretelling" "ThrownCoins$Foretelling" "hoping" "I") ∈ TB := tb_1 204 (by decide +kernel) rfl
theorem wt_206 : (Jvm.Cond.lays "ThrownCoins$Foretelling" "ThrownCoins$Foretelling" "tenths" "I") ∈ TB := tb_1 206 (by decide +kernel) rfl
theorem wt_209 : (Jvm.Cond.classLink "ThrownCoins" (43 : Nat) "ThrownCoins$Notes") ∈ TB := tb_1 209 (by decide +kernel) rfl
theorem wt_210 : (Jvm.Cond.instantiable "ThrownCoins$Notes" (9 : Nat)) ∈ TB := tb_1 210 (by decide +kernel) rfl
theorem wt_211 : (Jvm.Cond.methodLink "ThrownCoins" (45 : Nat) ({ cls := "ThrownCoins$Notes", name := "<init>", desc := "(LThrownCoins$Told;)V" } : Jvm.MethodName)) ∈ TB := tb_1 211 (by decide +kernel) rfl
theorem wt_212 : (Jvm.Cond.instanceMethod ({ cls := "ThrownCoins$Notes", name := "<init>", desc := "(LThrownCoins$Told;)V" } : Jvm.MethodName)) ∈ TB := tb_1 212 (by decide +kernel) rfl
theorem wt_213 : (Jvm.Cond.code ({ cls := "ThrownCoins$Notes", name := "<init>", desc := "(LThrownCoins$Told;)V" } : Jvm.MethodName) prog_8_method_1_code (2 : Nat) (Option.none : Option Jvm.ClassFile.FieldType)) ∈ TB := tb_1 213 (by decide +kernel) rfl
theorem wt_214 : (Jvm.Cond.methodLink "ThrownCoins$Notes" (3 : Nat) ({ cls := "java/lang/Object", name := "<init>", desc := "()V" } : Jvm.MethodName)) ∈ TB := tb_1 214 (by decide +kernel) rfl
theorem wt_215 : (Jvm.Cond.classLink "ThrownCoins$Notes" (9 : Nat) "ThrownCoins$Lot") ∈ TB := tb_1 215 (by decide +kernel) rfl
theorem wt_217 : (Jvm.Cond.fieldLink "ThrownCoins$Notes" (31 : Nat) "ThrownCoins$Notes" "told" "LThrownCoins$Told;") ∈ TB := tb_1 217 (by decide +kernel) rfl
theorem wt_218 : (Jvm.Cond.fieldLink "ThrownCoins$Notes" (12 : Nat) "ThrownCoins$Notes" "lot" "LThrownCoins$Lot;") ∈ TB := tb_1 218 (by decide +kernel) rfl
theorem wt_219 : (Jvm.Cond.fieldLink "ThrownCoins$Notes" (18 : Nat) "ThrownCoins$Notes" "thrown" "[I") ∈ TB := tb_1 219 (by decide +kernel) rfl
theorem wt_220 : (Jvm.Cond.fieldLink "ThrownCoins$Notes" (22 : Nat) "ThrownCoins$Notes" "taken" "[I") ∈ TB := tb_1 220 (by decide +kernel) rfl
theorem wt_221 : (Jvm.Cond.fieldLink "ThrownCoins$Notes" (25 : Nat) "ThrownCoins$Notes" "least" "[I") ∈ TB := tb_1 221 (by decide +kernel) rfl
theorem wt_222 : (Jvm.Cond.fieldLink "ThrownCoins$Notes" (28 : Nat) "ThrownCoins$Notes" "most" "[I") ∈ TB := tb_1 222 (by decide +kernel) rfl
theorem wt_223 : (Jvm.Cond.fieldLink "ThrownCoins$Notes" (35 : Nat) "ThrownCoins$Notes" "size" "I") ∈ TB := tb_1 223 (by decide +kernel) rfl
theorem wt_225 : (Jvm.Cond.fieldLink "ThrownCoins$Notes" (39 : Nat) "ThrownCoins$Notes" "layings" "I") ∈ TB := tb_1 225 (by decide +kernel) rfl
theorem wt_227 : (Jvm.Cond.fieldLink "ThrownCoins$Notes" (42 : Nat) "ThrownCoins$Notes" "first" "I") ∈ TB := tb_1 227 (by decide +kernel) rfl
theorem wt_229 : (Jvm.Cond.laysFinal "ThrownCoins$Notes" "ThrownCoins$Notes" "told" "LThrownCoins$Told;") ∈ TB := tb_1 229 (by decide +kernel) rfl
theorem wt_231 : (Jvm.Cond.laysFinal "ThrownCoins$Notes" "ThrownCoins$Notes" "lot" "LThrownCoins$Lot;") ∈ TB := tb_1 231 (by decide +kernel) rfl
theorem wt_233 : (Jvm.Cond.laysFinal "ThrownCoins$Notes" "ThrownCoins$Notes" "thrown" "[I") ∈ TB := tb_1 233 (by decide +kernel) rfl
theorem wt_235 : (Jvm.Cond.laysFinal "ThrownCoins$Notes" "ThrownCoins$Notes" "taken" "[I") ∈ TB := tb_1 235 (by decide +kernel) rfl
theorem wt_237 : (Jvm.Cond.laysFinal "ThrownCoins$Notes" "ThrownCoins$Notes" "least" "[I") ∈ TB := tb_1 237 (by decide +kernel) rfl
theorem wt_239 : (Jvm.Cond.laysFinal "ThrownCoins$Notes" "ThrownCoins$Notes" "most" "[I") ∈ TB := tb_1 239 (by decide +kernel) rfl
theorem wt_241 : (Jvm.Cond.lays "ThrownCoins$Notes" "ThrownCoins$Notes" "size" "I") ∈ TB := tb_2 1 (by decide +kernel) rfl
theorem wt_243 : (Jvm.Cond.lays "ThrownCoins$Notes" "ThrownCoins$Notes" "layings" "I") ∈ TB := tb_2 3 (by decide +kernel) rfl
theorem wt_245 : (Jvm.Cond.lays "ThrownCoins$Notes" "ThrownCoins$Notes" "first" "I") ∈ TB := tb_2 5 (by decide +kernel) rfl
theorem wt_248 : (Jvm.Cond.fieldLink "ThrownCoins" (10 : Nat) "ThrownCoins" "told" "LThrownCoins$Told;") ∈ TB := tb_2 8 (by decide +kernel) rfl
theorem wt_249 : (Jvm.Cond.fieldLink "ThrownCoins" (19 : Nat) "ThrownCoins" "now" "LThrownCoins$Lot;") ∈ TB := tb_2 9 (by decide +kernel) rfl
theorem wt_250 : (Jvm.Cond.fieldLink "ThrownCoins" (23 : Nat) "ThrownCoins" "kept" "[LThrownCoins$Lot;") ∈ TB := tb_2 10 (by decide +kernel) rfl
theorem wt_251 : (Jvm.Cond.fieldLink "ThrownCoins" (30 : Nat) "ThrownCoins" "text" "LThrownCoins$Text;") ∈ TB := tb_2 11 (by decide +kernel) rfl
theorem wt_252 : (Jvm.Cond.fieldLink "ThrownCoins" (39 : Nat) "ThrownCoins" "foretelling" "LThrownCoins$Foretelling;") ∈ TB := tb_2 12 (by decide +kernel) rfl
theorem wt_253 : (Jvm.Cond.fieldLink "ThrownCoins" (46 : Nat) "ThrownCoins" "notes" "LThrownCoins$Notes;") ∈ TB := tb_2 13 (by decide +kernel) rfl
theorem wt_254 : (Jvm.Cond.fieldLink "ThrownCoins" (79 : Nat) "ThrownCoins" "keptBits" "I") ∈ TB := tb_2 14 (by decide +kernel) rfl
theorem wt_255 : (Jvm.Cond.laysFinal "ThrownCoins" "ThrownCoins" "told" "LThrownCoins$Told;") ∈ TB := tb_2 15 (by decide +kernel) rfl
theorem wt_257 : (Jvm.Cond.laysFinal "ThrownCoins" "ThrownCoins" "now" "LThrownCoins$Lot;") ∈ TB := tb_2 17 (by decide +kernel) rfl
theorem wt_259 : (Jvm.Cond.laysFinal "ThrownCoins" "ThrownCoins" "kept" "[LThrownCoins$Lot;") ∈ TB := tb_2 19 (by decide +kernel) rfl
theorem wt_261 : (Jvm.Cond.laysFinal "ThrownCoins" "ThrownCoins" "text" "LThrownCoins$Text;") ∈ TB := tb_2 21 (by decide +kernel) rfl
theorem wt_263 : (Jvm.Cond.laysFinal "ThrownCoins" "ThrownCoins" "foretelling" "LThrownCoins$Foretelling;") ∈ TB := tb_2 23 (by decide +kernel) rfl
theorem wt_265 : (Jvm.Cond.laysFinal "ThrownCoins" "ThrownCoins" "notes" "LThrownCoins$Notes;") ∈ TB := tb_2 25 (by decide +kernel) rfl
theorem wt_267 : (Jvm.Cond.lays "ThrownCoins" "ThrownCoins" "keptBits" "I") ∈ TB := tb_2 27 (by decide +kernel) rfl
theorem wt_270 : (Jvm.Cond.methodLink "ThrownCoinsLaw" (15 : Nat) ({ cls := "ThrownCoins", name := "write", desc := "(JI)I" } : Jvm.MethodName)) ∈ TB := tb_2 30 (by decide +kernel) rfl
theorem wt_271 : (Jvm.Cond.instanceMethod ({ cls := "ThrownCoins", name := "write", desc := "(JI)I" } : Jvm.MethodName)) ∈ TB := tb_2 31 (by decide +kernel) rfl
theorem wt_272 : (Jvm.Cond.selects "ThrownCoins" ({ cls := "ThrownCoins", name := "write", desc := "(JI)I" } : Jvm.MethodName) ({ cls := "ThrownCoins", name := "write", desc := "(JI)I" } : Jvm.MethodName)) ∈ TB := tb_2 32 (by decide +kernel) rfl
theorem wt_273 : (Jvm.Cond.code ({ cls := "ThrownCoins", name := "write", desc := "(JI)I" } : Jvm.MethodName) prog_1_method_2_code (5 : Nat) (Option.some Jvm.ClassFile.FieldType.int)) ∈ TB := tb_2 33 (by decide +kernel) rfl
theorem wt_274 : (Jvm.Cond.constantLong "ThrownCoins" (54 : Nat) (255 : Int64)) ∈ TB := tb_2 34 (by decide +kernel) rfl
theorem wt_275 : (Jvm.Cond.methodLink "ThrownCoins" (56 : Nat) ({ cls := "ThrownCoins$Text", name := "append", desc := "(I)V" } : Jvm.MethodName)) ∈ TB := tb_2 35 (by decide +kernel) rfl
theorem wt_276 : (Jvm.Cond.instanceMethod ({ cls := "ThrownCoins$Text", name := "append", desc := "(I)V" } : Jvm.MethodName)) ∈ TB := tb_2 36 (by decide +kernel) rfl
theorem wt_277 : (Jvm.Cond.selects "ThrownCoins$Text" ({ cls := "ThrownCoins$Text", name := "append", desc := "(I)V" } : Jvm.MethodName) ({ cls := "ThrownCoins$Text", name := "append", desc := "(I)V" } : Jvm.MethodName)) ∈ TB := tb_2 37 (by decide +kernel) rfl
theorem wt_278 : (Jvm.Cond.code ({ cls := "ThrownCoins$Text", name := "append", desc := "(I)V" } : Jvm.MethodName) prog_9_method_2_code (2 : Nat) (Option.none : Option Jvm.ClassFile.FieldType)) ∈ TB := tb_2 38 (by decide +kernel) rfl
theorem wt_279 : (Jvm.Cond.methodLink "ThrownCoinsLaw" (20 : Nat) ({ cls := "ThrownCoins", name := "erase", desc := "()I" } : Jvm.MethodName)) ∈ TB := tb_2 39 (by decide +kernel) rfl
theorem wt_280 : (Jvm.Cond.instanceMethod ({ cls := "ThrownCoins", name := "erase", desc := "()I" } : Jvm.MethodName)) ∈ TB := tb_2 40 (by decide +kernel) rfl
theorem wt_281 : (Jvm.Cond.selects "ThrownCoins" ({ cls := "ThrownCoins", name := "erase", desc := "()I" } : Jvm.MethodName) ({ cls := "ThrownCoins", name := "erase", desc := "()I" } : Jvm.MethodName)) ∈ TB := tb_2 41 (by decide +kernel) rfl
theorem wt_282 : (Jvm.Cond.code ({ cls := "ThrownCoins", name := "erase", desc := "()I" } : Jvm.MethodName) prog_1_method_3_code (2 : Nat) (Option.some Jvm.ClassFile.FieldType.int)) ∈ TB := tb_2 42 (by decide +kernel) rfl
theorem wt_283 : (Jvm.Cond.methodLink "ThrownCoinsLaw" (25 : Nat) ({ cls := "ThrownCoins", name := "fault", desc := "()I" } : Jvm.MethodName)) ∈ TB := tb_2 43 (by decide +kernel) rfl
theorem wt_284 : (Jvm.Cond.instanceMethod ({ cls := "ThrownCoins", name := "fault", desc := "()I" } : Jvm.MethodName)) ∈ TB := tb_2 44 (by decide +kernel) rfl
theorem wt_285 : (Jvm.Cond.selects "ThrownCoins" ({ cls := "ThrownCoins", name := "fault", desc := "()I" } : Jvm.MethodName) ({ cls := "ThrownCoins", name := "fault", desc := "()I" } : Jvm.MethodName)) ∈ TB := tb_2 45 (by decide +kernel) rfl
theorem wt_286 : (Jvm.Cond.code ({ cls := "ThrownCoins", name := "fault", desc := "()I" } : Jvm.MethodName) prog_1_method_4_code (1 : Nat) (Option.some Jvm.ClassFile.FieldType.int)) ∈ TB := tb_2 46 (by decide +kernel) rfl
theorem wt_287 : (Jvm.Cond.methodLink "ThrownCoins" (60 : Nat) ({ cls := "ThrownCoins$Text", name := "readOver", desc := "(LThrownCoins$Told;)I" } : Jvm.MethodName)) ∈ TB := tb_2 47 (by decide +kernel) rfl
theorem wt_288 : (Jvm.Cond.instanceMethod ({ cls := "ThrownCoins$Text", name := "readOver", desc := "(LThrownCoins$Told;)I" } : Jvm.MethodName)) ∈ TB := tb_2 48 (by decide +kernel) rfl
theorem wt_289 : (Jvm.Cond.selects "ThrownCoins$Text" ({ cls := "ThrownCoins$Text", name := "readOver", desc := "(LThrownCoins$Told;)I" } : Jvm.MethodName) ({ cls := "ThrownCoins$Text", name := "readOver", desc := "(LThrownCoins$Told;)I" } : Jvm.MethodName)) ∈ TB := tb_2 49 (by decide +kernel) rfl
theorem wt_290 : (Jvm.Cond.code ({ cls := "ThrownCoins$Text", name := "readOver", desc := "(LThrownCoins$Told;)I" } : Jvm.MethodName) prog_9_method_3_code (2 : Nat) (Option.some Jvm.ClassFile.FieldType.int)) ∈ TB := tb_2 50 (by decide +kernel) rfl
theorem wt_291 : (Jvm.Cond.methodLink "ThrownCoins$Text" (26 : Nat) ({ cls := "ThrownCoins$Told", name := "copyFrom", desc := "(LThrownCoins$Told;)V" } : Jvm.MethodName)) ∈ TB := tb_2 51 (by decide +kernel) rfl
theorem wt_292 : (Jvm.Cond.instanceMethod ({ cls := "ThrownCoins$Told", name := "copyFrom", desc := "(LThrownCoins$Told;)V" } : Jvm.MethodName)) ∈ TB := tb_2 52 (by decide +kernel) rfl
theorem wt_293 : (Jvm.Cond.selects "ThrownCoins$Told" ({ cls := "ThrownCoins$Told", name := "copyFrom", desc := "(LThrownCoins$Told;)V" } : Jvm.MethodName) ({ cls := "ThrownCoins$Told", name := "copyFrom", desc := "(LThrownCoins$Told;)V" } : Jvm.MethodName)) ∈ TB := tb_2 53 (by decide +kernel) rfl
theorem wt_294 : (Jvm.Cond.code ({ cls := "ThrownCoins$Told", name := "copyFrom", desc := "(LThrownCoins$Told;)V" } : Jvm.MethodName) prog_11_method_2_code (2 : Nat) (Option.none : Option Jvm.ClassFile.FieldType)) ∈ TB := tb_2 54 (by decide +kernel) rfl
theorem wt_295 : (Jvm.Cond.methodLink "ThrownCoins$Told" (63 : Nat) ({ cls := "java/lang/System", name := "arraycopy", desc := "(Ljava/lang/Object;ILjava/lang/Object;II)V" } : Jvm.MethodName)) ∈ TB := tb_2 55 (by decide +kernel) rfl
theorem wt_296 : (Jvm.Cond.static ({ cls := "java/lang/System", name := "arraycopy", desc := "(Ljava/lang/Object;ILjava/lang/Object;II)V" } : Jvm.MethodName)) ∈ TB := tb_2 56 (by decide +kernel) rfl
theorem wt_297 : (Jvm.Cond.native ({ cls := "java/lang/System", name := "arraycopy", desc := "(Ljava/lang/Object;ILjava/lang/Object;II)V" } : Jvm.MethodName)) ∈ TB := tb_2 57 (by decide +kernel) rfl
theorem wt_298 : (Jvm.Cond.methodLink "ThrownCoins$Told" (69 : Nat) ({ cls := "ThrownCoins$Lot", name := "copyFrom", desc := "(LThrownCoins$Lot;)V" } : Jvm.MethodName)) ∈ TB := tb_2 58 (by decide +kernel) rfl
theorem wt_299 : (Jvm.Cond.instanceMethod ({ cls := "ThrownCoins$Lot", name := "copyFrom", desc := "(LThrownCoins$Lot;)V" } : Jvm.MethodName)) ∈ TB := tb_2 59 (by decide +kernel) rfl
theorem wt_300 : (Jvm.Cond.selects "ThrownCoins$Lot" ({ cls := "ThrownCoins$Lot", name := "copyFrom", desc := "(LThrownCoins$Lot;)V" } : Jvm.MethodName) ({ cls := "ThrownCoins$Lot", name := "copyFrom", desc := "(LThrownCoins$Lot;)V" } : Jvm.MethodName)) ∈ TB := tb_2 60 (by decide +kernel) rfl
theorem wt_301 : (Jvm.Cond.code ({ cls := "ThrownCoins$Lot", name := "copyFrom", desc := "(LThrownCoins$Lot;)V" } : Jvm.MethodName) prog_6_method_5_code (2 : Nat) (Option.none : Option Jvm.ClassFile.FieldType)) ∈ TB := tb_2 61 (by decide +kernel) rfl
theorem wt_302 : (Jvm.Cond.methodLink "ThrownCoins$Lot" (15 : Nat) ({ cls := "java/lang/System", name := "arraycopy", desc := "(Ljava/lang/Object;ILjava/lang/Object;II)V" } : Jvm.MethodName)) ∈ TB := tb_2 62 (by decide +kernel) rfl
theorem wt_303 : (Jvm.Cond.methodLink "ThrownCoins$Text" (33 : Nat) ({ cls := "ThrownCoins$Text", name := "nextToken", desc := "()V" } : Jvm.MethodName)) ∈ TB := tb_2 63 (by decide +kernel) rfl
theorem wt_305 : (Jvm.Cond.instanceMethod ({ cls := "ThrownCoins$Text", name := "nextToken", desc := "()V" } : Jvm.MethodName)) ∈ TB := tb_2 65 (by decide +kernel) rfl
theorem wt_306 : (Jvm.Cond.code ({ cls := "ThrownCoins$Text", name := "nextToken", desc := "()V" } : Jvm.MethodName) prog_9_method_4_code (2 : Nat) (Option.none : Option Jvm.ClassFile.FieldType)) ∈ TB := tb_2 66 (by decide +kernel) rfl
theorem wt_307 : (Jvm.Cond.methodLink "ThrownCoins$Text" (52 : Nat) ({ cls := "ThrownCoins$Text", name := "byteAt", desc := "(I)I" } : Jvm.MethodName)) ∈ TB := tb_2 67 (by decide +kernel) rfl
theorem wt_309 : (Jvm.Cond.instanceMethod ({ cls := "ThrownCoins$Text", name := "byteAt", desc := "(I)I" } : Jvm.MethodName)) ∈ TB := tb_2 69 (by decide +kernel) rfl
theorem wt_310 : (Jvm.Cond.code ({ cls := "ThrownCoins$Text", name := "byteAt", desc := "(I)I" } : Jvm.MethodName) prog_9_method_5_code (2 : Nat) (Option.some Jvm.ClassFile.FieldType.int)) ∈ TB := tb_2 70 (by decide +kernel) rfl
theorem wt_311 : (Jvm.Cond.methodLink "ThrownCoins$Text" (56 : Nat) ({ cls := "ThrownCoins$Text", name := "tokenOf", desc := "(I)I" } : Jvm.MethodName)) ∈ TB := tb_2 71 (by decide +kernel) rfl
theorem wt_312 : (Jvm.Cond.static ({ cls := "ThrownCoins$Text", name := "tokenOf", desc := "(I)I" } : Jvm.MethodName)) ∈ TB := tb_2 72 (by decide +kernel) rfl
theorem wt_313 : (Jvm.Cond.code ({ cls := "ThrownCoins$Text", name := "tokenOf", desc := "(I)I" } : Jvm.MethodName) prog_9_method_6_code (1 : Nat) (Option.some Jvm.ClassFile.FieldType.int)) ∈ TB := tb_2 73 (by decide +kernel) rfl
theorem wt_314 : (Jvm.Cond.methodLink "ThrownCoins$Text" (59 : Nat) ({ cls := "java/lang/Math", name := "min", desc := "(II)I" } : Jvm.MethodName)) ∈ TB := tb_2 74 (by decide +kernel) rfl
theorem wt_315 : (Jvm.Cond.static ({ cls := "java/lang/Math", name := "min", desc := "(II)I" } : Jvm.MethodName)) ∈ TB := tb_2 75 (by decide +kernel) rfl
theorem wt_316 : (Jvm.Cond.code ({ cls := "java/lang/Math", name := "min", desc := "(II)I" } : Jvm.MethodName) prog_15_method_69_code (2 : Nat) (Option.some Jvm.ClassFile.FieldType.int)) ∈ TB := tb_2 76 (by decide +kernel) rfl
theorem wt_317 : (Jvm.Cond.methodLink "ThrownCoins$Text" (39 : Nat) ({ cls := "ThrownCoins$Text", name := "readLine", desc := "()Z" } : Jvm.MethodName)) ∈ TB := tb_2 77 (by decide +kernel) rfl
theorem wt_319 : (Jvm.Cond.instanceMethod ({ cls := "ThrownCoins$Text", name := "readLine", desc := "()Z" } : Jvm.MethodName)) ∈ TB := tb_2 79 (by decide +kernel) rfl
theorem wt_320 : (Jvm.Cond.code ({ cls := "ThrownCoins$Text", name := "readLine", desc := "()Z" } : Jvm.MethodName) prog_9_method_8_code (1 : Nat) (Option.some Jvm.ClassFile.FieldType.boolean)) ∈ TB := tb_2 80 (by decide +kernel) rfl
theorem wt_322 : (Jvm.Cond.methodLink "ThrownCoins$Text" (67 : Nat) ({ cls := "ThrownCoins$Text", name := "readWord", desc := "(Ljava/lang/String;)Z" } : Jvm.MethodName)) ∈ TB := tb_2 82 (by decide +kernel) rfl
theorem wt_324 : (Jvm.Cond.instanceMethod ({ cls := "ThrownCoins$Text", name := "readWord", desc := "(Ljava/lang/String;)Z" } : Jvm.MethodName)) ∈ TB := tb_2 84 (by decide +kernel) rfl
theorem wt_325 : (Jvm.Cond.code ({ cls := "ThrownCoins$Text", name := "readWord", desc := "(Ljava/lang/String;)Z" } : Jvm.MethodName) prog_9_method_9_code (3 : Nat) (Option.some Jvm.ClassFile.FieldType.boolean)) ∈ TB := tb_2 85 (by decide +kernel) rfl
theorem wt_326 : (Jvm.Cond.methodLink "ThrownCoins$Text" (118 : Nat) ({ cls := "java/lang/String", name := "length", desc := "()I" } : Jvm.MethodName)) ∈ TB := tb_2 86 (by decide +kernel) rfl
theorem wt_327 : (Jvm.Cond.instanceMethod ({ cls := "java/lang/String", name := "length", desc := "()I" } : Jvm.MethodName)) ∈ TB := tb_2 87 (by decide +kernel) rfl
theorem wt_328 : (Jvm.Cond.selects "java/lang/String" ({ cls := "java/lang/String", name := "length", desc := "()I" } : Jvm.MethodName) ({ cls := "java/lang/String", name := "length", desc := "()I" } : Jvm.MethodName)) ∈ TB := tb_2 88 (by decide +kernel) rfl
theorem wt_329 : (Jvm.Cond.code ({ cls := "java/lang/String", name := "length", desc := "()I" } : Jvm.MethodName) prog_16_method_54_code (1 : Nat) (Option.some Jvm.ClassFile.FieldType.int)) ∈ TB := tb_2 89 (by decide +kernel) rfl
theorem wt_330 : (Jvm.Cond.methodLink "java/lang/String" (335 : Nat) ({ cls := "java/lang/String", name := "coder", desc := "()B" } : Jvm.MethodName)) ∈ TB := tb_2 90 (by decide +kernel) rfl
theorem wt_331 : (Jvm.Cond.instanceMethod ({ cls := "java/lang/String", name := "coder", desc := "()B" } : Jvm.MethodName)) ∈ TB := tb_2 91 (by decide +kernel) rfl
theorem wt_332 : (Jvm.Cond.selects "java/lang/String" ({ cls := "java/lang/String", name := "coder", desc := "()B" } : Jvm.MethodName) ({ cls := "java/lang/String", name := "coder", desc := "()B" } : Jvm.MethodName)) ∈ TB := tb_2 92 (by decide +kernel) rfl
theorem wt_333 : (Jvm.Cond.code ({ cls := "java/lang/String", name := "coder", desc := "()B" } : Jvm.MethodName) prog_16_method_152_code (1 : Nat) (Option.some Jvm.ClassFile.FieldType.byte)) ∈ TB := tb_2 93 (by decide +kernel) rfl
theorem wt_334 : (Jvm.Cond.fieldLink "java/lang/String" (38 : Nat) "java/lang/String" "COMPACT_STRINGS" "Z") ∈ TB := tb_2 94 (by decide +kernel) rfl
theorem wt_336 : (Jvm.Cond.methodLink "ThrownCoins$Text" (123 : Nat) ({ cls := "java/lang/String", name := "charAt", desc := "(I)C" } : Jvm.MethodName)) ∈ TB := tb_2 96 (by decide +kernel) rfl
theorem wt_337 : (Jvm.Cond.instanceMethod ({ cls := "java/lang/String", name := "charAt", desc := "(I)C" } : Jvm.MethodName)) ∈ TB := tb_2 97 (by decide +kernel) rfl
theorem wt_338 : (Jvm.Cond.selects "java/lang/String" ({ cls := "java/lang/String", name := "charAt", desc := "(I)C" } : Jvm.MethodName) ({ cls := "java/lang/String", name := "charAt", desc := "(I)C" } : Jvm.MethodName)) ∈ TB := tb_2 98 (by decide +kernel) rfl
theorem wt_339 : (Jvm.Cond.code ({ cls := "java/lang/String", name := "charAt", desc := "(I)C" } : Jvm.MethodName) prog_16_method_56_code (2 : Nat) (Option.some Jvm.ClassFile.FieldType.char)) ∈ TB := tb_2 99 (by decide +kernel) rfl
theorem wt_340 : (Jvm.Cond.methodLink "java/lang/String" (492 : Nat) ({ cls := "java/lang/String", name := "isLatin1", desc := "()Z" } : Jvm.MethodName)) ∈ TB := tb_2 100 (by decide +kernel) rfl
theorem wt_341 : (Jvm.Cond.instanceMethod ({ cls := "java/lang/String", name := "isLatin1", desc := "()Z" } : Jvm.MethodName)) ∈ TB := tb_2 101 (by decide +kernel) rfl
theorem wt_342 : (Jvm.Cond.selects "java/lang/String" ({ cls := "java/lang/String", name := "isLatin1", desc := "()Z" } : Jvm.MethodName) ({ cls := "java/lang/String", name := "isLatin1", desc := "()Z" } : Jvm.MethodName)) ∈ TB := tb_2 102 (by decide +kernel) rfl
theorem wt_343 : (Jvm.Cond.code ({ cls := "java/lang/String", name := "isLatin1", desc := "()Z" } : Jvm.MethodName) prog_16_method_154_code (1 : Nat) (Option.some Jvm.ClassFile.FieldType.boolean)) ∈ TB := tb_2 103 (by decide +kernel) rfl
theorem wt_344 : (Jvm.Cond.methodLink "java/lang/String" (495 : Nat) ({ cls := "java/lang/StringLatin1", name := "charAt", desc := "([BI)C" } : Jvm.MethodName)) ∈ TB := tb_2 104 (by decide +kernel) rfl
theorem wt_345 : (Jvm.Cond.static ({ cls := "java/lang/StringLatin1", name := "charAt", desc := "([BI)C" } : Jvm.MethodName)) ∈ TB := tb_2 105 (by decide +kernel) rfl
theorem wt_346 : (Jvm.Cond.code ({ cls := "java/lang/StringLatin1", name := "charAt", desc := "([BI)C" } : Jvm.MethodName) prog_17_method_2_code (2 : Nat) (Option.some Jvm.ClassFile.FieldType.char)) ∈ TB := tb_2 106 (by decide +kernel) rfl
theorem wt_347 : (Jvm.Cond.methodLink "java/lang/StringLatin1" (9 : Nat) ({ cls := "java/lang/String", name := "checkIndex", desc := "(II)V" } : Jvm.MethodName)) ∈ TB := tb_2 107 (by decide +kernel) rfl
theorem wt_348 : (Jvm.Cond.static ({ cls := "java/lang/String", name := "checkIndex", desc := "(II)V" } : Jvm.MethodName)) ∈ TB := tb_2 108 (by decide +kernel) rfl
theorem wt_349 : (Jvm.Cond.code ({ cls := "java/lang/String", name := "checkIndex", desc := "(II)V" } : Jvm.MethodName) prog_16_method_155_code (2 : Nat) (Option.none : Option Jvm.ClassFile.FieldType)) ∈ TB := tb_2 109 (by decide +kernel) rfl
theorem wt_350 : (Jvm.Cond.fieldLink "java/lang/String" (1053 : Nat) "jdk/internal/util/Preconditions" "SIOOBE_FORMATTER" "Ljava/util/function/BiFunction;") ∈ TB := tb_2 110 (by decide +kernel) rfl
theorem wt_352 : (Jvm.Cond.methodLink "java/lang/String" (1059 : Nat) ({ cls := "jdk/internal/util/Preconditions", name := "checkIndex", desc := "(IILjava/util/function/BiFunction;)I" } : Jvm.MethodName)) ∈ TB := tb_2 112 (by decide +kernel) rfl
theorem wt_353 : (Jvm.Cond.static ({ cls := "jdk/internal/util/Preconditions", name := "checkIndex", desc := "(IILjava/util/function/BiFunction;)I" } : Jvm.MethodName)) ∈ TB := tb_2 113 (by decide +kernel) rfl
theorem wt_354 : (Jvm.Cond.code ({ cls := "jdk/internal/util/Preconditions", name := "checkIndex", desc := "(IILjava/util/function/BiFunction;)I" } : Jvm.MethodName) prog_20_method_11_code (3 : Nat) (Option.some Jvm.ClassFile.FieldType.int)) ∈ TB := tb_2 114 (by decide +kernel) rfl
theorem wt_355 : (Jvm.Cond.methodLink "java/lang/String" (498 : Nat) ({ cls := "java/lang/StringUTF16", name := "charAt", desc := "([BI)C" } : Jvm.MethodName)) ∈ TB := tb_2 115 (by decide +kernel) rfl
theorem wt_356 : (Jvm.Cond.static ({ cls := "java/lang/StringUTF16", name := "charAt", desc := "([BI)C" } : Jvm.MethodName)) ∈ TB := tb_2 116 (by decide +kernel) rfl
theorem wt_357 : (Jvm.Cond.code ({ cls := "java/lang/StringUTF16", name := "charAt", desc := "([BI)C" } : Jvm.MethodName) prog_18_method_83_code (2 : Nat) (Option.some Jvm.ClassFile.FieldType.char)) ∈ TB := tb_2 117 (by decide +kernel) rfl
theorem wt_358 : (Jvm.Cond.methodLink "java/lang/StringUTF16" (67 : Nat) ({ cls := "java/lang/StringUTF16", name := "checkIndex", desc := "(I[B)V" } : Jvm.MethodName)) ∈ TB := tb_2 118 (by decide +kernel) rfl
theorem wt_359 : (Jvm.Cond.static ({ cls := "java/lang/StringUTF16", name := "checkIndex", desc := "(I[B)V" } : Jvm.MethodName)) ∈ TB := tb_2 119 (by decide +kernel) rfl
theorem wt_360 : (Jvm.Cond.code ({ cls := "java/lang/StringUTF16", name := "checkIndex", desc := "(I[B)V" } : Jvm.MethodName) prog_18_method_91_code (2 : Nat) (Option.none : Option Jvm.ClassFile.FieldType)) ∈ TB := tb_2 120 (by decide +kernel) rfl
theorem wt_361 : (Jvm.Cond.methodLink "java/lang/StringUTF16" (48 : Nat) ({ cls := "java/lang/StringUTF16", name := "length", desc := "([B)I" } : Jvm.MethodName)) ∈ TB := tb_2 121 (by decide +kernel) rfl
theorem wt_362 : (Jvm.Cond.static ({ cls := "java/lang/StringUTF16", name := "length", desc := "([B)I" } : Jvm.MethodName)) ∈ TB := tb_2 122 (by decide +kernel) rfl
theorem wt_363 : (Jvm.Cond.code ({ cls := "java/lang/StringUTF16", name := "length", desc := "([B)I" } : Jvm.MethodName) prog_18_method_6_code (1 : Nat) (Option.some Jvm.ClassFile.FieldType.int)) ∈ TB := tb_2 123 (by decide +kernel) rfl
theorem wt_364 : (Jvm.Cond.methodLink "java/lang/StringUTF16" (414 : Nat) ({ cls := "java/lang/String", name := "checkIndex", desc := "(II)V" } : Jvm.MethodName)) ∈ TB := tb_2 124 (by decide +kernel) rfl
theorem wt_365 : (Jvm.Cond.methodLink "java/lang/StringUTF16" (71 : Nat) ({ cls := "java/lang/StringUTF16", name := "getChar", desc := "([BI)C" } : Jvm.MethodName)) ∈ TB := tb_2 125 (by decide +kernel) rfl
theorem wt_366 : (Jvm.Cond.static ({ cls := "java/lang/StringUTF16", name := "getChar", desc := "([BI)C" } : Jvm.MethodName)) ∈ TB := tb_2 126 (by decide +kernel) rfl
theorem wt_367 : (Jvm.Cond.code ({ cls := "java/lang/StringUTF16", name := "getChar", desc := "([BI)C" } : Jvm.MethodName) prog_18_method_5_code (2 : Nat) (Option.some Jvm.ClassFile.FieldType.char)) ∈ TB := tb_2 127 (by decide +kernel) rfl
theorem wt_368 : (Jvm.Cond.fieldLink "java/lang/StringUTF16" (44 : Nat) "java/lang/StringUTF16" "$assertionsDisabled" "Z") ∈ TB := tb_2 128 (by decide +kernel) rfl
theorem wt_370 : (Jvm.Cond.fieldLink "java/lang/StringUTF16" (59 : Nat) "java/lang/StringUTF16" "HI_BYTE_SHIFT" "I") ∈ TB := tb_2 130 (by decide +kernel) rfl
theorem wt_372 : (Jvm.Cond.fieldLink "java/lang/StringUTF16" (63 : Nat) "java/lang/StringUTF16" "LO_BYTE_SHIFT" "I") ∈ TB := tb_2 132 (by decide +kernel) rfl
theorem wt_374 : (Jvm.Cond.methodLink "ThrownCoins$Text" (71 : Nat) ({ cls := "ThrownCoins$Text", name := "readCoins", desc := "()Z" } : Jvm.MethodName)) ∈ TB := tb_2 134 (by decide +kernel) rfl
theorem wt_376 : (Jvm.Cond.instanceMethod ({ cls := "ThrownCoins$Text", name := "readCoins", desc := "()Z" } : Jvm.MethodName)) ∈ TB := tb_2 136 (by decide +kernel) rfl
theorem wt_377 : (Jvm.Cond.code ({ cls := "ThrownCoins$Text", name := "readCoins", desc := "()Z" } : Jvm.MethodName) prog_9_method_11_code (3 : Nat) (Option.some Jvm.ClassFile.FieldType.boolean)) ∈ TB := tb_2 137 (by decide +kernel) rfl
theorem wt_378 : (Jvm.Cond.methodLink "ThrownCoins$Text" (131 : Nat) ({ cls := "ThrownCoins$Lot", name := "empty", desc := "()V" } : Jvm.MethodName)) ∈ TB := tb_2 138 (by decide +kernel) rfl
theorem wt_379 : (Jvm.Cond.instanceMethod ({ cls := "ThrownCoins$Lot", name := "empty", desc := "()V" } : Jvm.MethodName)) ∈ TB := tb_2 139 (by decide +kernel) rfl
theorem wt_380 : (Jvm.Cond.selects "ThrownCoins$Lot" ({ cls := "ThrownCoins$Lot", name := "empty", desc := "()V" } : Jvm.MethodName) ({ cls := "ThrownCoins$Lot", name := "empty", desc := "()V" } : Jvm.MethodName)) ∈ TB := tb_2 140 (by decide +kernel) rfl
theorem wt_381 : (Jvm.Cond.code ({ cls := "ThrownCoins$Lot", name := "empty", desc := "()V" } : Jvm.MethodName) prog_6_method_4_code (2 : Nat) (Option.none : Option Jvm.ClassFile.FieldType)) ∈ TB := tb_2 141 (by decide +kernel) rfl
theorem wt_382 : (Jvm.Cond.methodLink "ThrownCoins$Text" (82 : Nat) ({ cls := "ThrownCoins$Text", name := "readNumber", desc := "(II)Z" } : Jvm.MethodName)) ∈ TB := tb_2 142 (by decide +kernel) rfl
theorem wt_384 : (Jvm.Cond.instanceMethod ({ cls := "ThrownCoins$Text", name := "readNumber", desc := "(II)Z" } : Jvm.MethodName)) ∈ TB := tb_2 144 (by decide +kernel) rfl
theorem wt_385 : (Jvm.Cond.code ({ cls := "ThrownCoins$Text", name := "readNumber", desc := "(II)Z" } : Jvm.MethodName) prog_9_method_10_code (4 : Nat) (Option.some Jvm.ClassFile.FieldType.boolean)) ∈ TB := tb_2 145 (by decide +kernel) rfl
theorem wt_386 : (Jvm.Cond.methodLink "ThrownCoins$Text" (139 : Nat) ({ cls := "ThrownCoins$Told", name := "addKind", desc := "(I)V" } : Jvm.MethodName)) ∈ TB := tb_2 146 (by decide +kernel) rfl
theorem wt_387 : (Jvm.Cond.instanceMethod ({ cls := "ThrownCoins$Told", name := "addKind", desc := "(I)V" } : Jvm.MethodName)) ∈ TB := tb_2 147 (by decide +kernel) rfl
theorem wt_388 : (Jvm.Cond.selects "ThrownCoins$Told" ({ cls := "ThrownCoins$Told", name := "addKind", desc := "(I)V" } : Jvm.MethodName) ({ cls := "ThrownCoins$Told", name := "addKind", desc := "(I)V" } : Jvm.MethodName)) ∈ TB := tb_2 148 (by decide +kernel) rfl
theorem wt_389 : (Jvm.Cond.code ({ cls := "ThrownCoins$Told", name := "addKind", desc := "(I)V" } : Jvm.MethodName) prog_11_method_5_code (2 : Nat) (Option.none : Option Jvm.ClassFile.FieldType)) ∈ TB := tb_2 149 (by decide +kernel) rfl
theorem wt_391 : (Jvm.Cond.methodLink "ThrownCoins$Text" (76 : Nat) ({ cls := "ThrownCoins$Text", name := "readAmount", desc := "(I)Z" } : Jvm.MethodName)) ∈ TB := tb_2 151 (by decide +kernel) rfl
theorem wt_393 : (Jvm.Cond.instanceMethod ({ cls := "ThrownCoins$Text", name := "readAmount", desc := "(I)Z" } : Jvm.MethodName)) ∈ TB := tb_2 153 (by decide +kernel) rfl
theorem wt_394 : (Jvm.Cond.code ({ cls := "ThrownCoins$Text", name := "readAmount", desc := "(I)Z" } : Jvm.MethodName) prog_9_method_12_code (3 : Nat) (Option.some Jvm.ClassFile.FieldType.boolean)) ∈ TB := tb_2 154 (by decide +kernel) rfl
theorem wt_395 : (Jvm.Cond.methodLink "ThrownCoins$Text" (143 : Nat) ({ cls := "ThrownCoins$Lot", name := "of", desc := "(II)I" } : Jvm.MethodName)) ∈ TB := tb_2 155 (by decide +kernel) rfl
theorem wt_396 : (Jvm.Cond.instanceMethod ({ cls := "ThrownCoins$Lot", name := "of", desc := "(II)I" } : Jvm.MethodName)) ∈ TB := tb_2 156 (by decide +kernel) rfl
theorem wt_397 : (Jvm.Cond.selects "ThrownCoins$Lot" ({ cls := "ThrownCoins$Lot", name := "of", desc := "(II)I" } : Jvm.MethodName) ({ cls := "ThrownCoins$Lot", name := "of", desc := "(II)I" } : Jvm.MethodName)) ∈ TB := tb_2 157 (by decide +kernel) rfl
theorem wt_398 : (Jvm.Cond.code ({ cls := "ThrownCoins$Lot", name := "of", desc := "(II)I" } : Jvm.MethodName) prog_6_method_2_code (4 : Nat) (Option.some Jvm.ClassFile.FieldType.int)) ∈ TB := tb_2 158 (by decide +kernel) rfl
theorem wt_399 : (Jvm.Cond.methodLink "ThrownCoins$Text" (146 : Nat) ({ cls := "ThrownCoins$Lot", name := "add", desc := "(III)V" } : Jvm.MethodName)) ∈ TB := tb_2 159 (by decide +kernel) rfl
theorem wt_400 : (Jvm.Cond.instanceMethod ({ cls := "ThrownCoins$Lot", name := "add", desc := "(III)V" } : Jvm.MethodName)) ∈ TB := tb_2 160 (by decide +kernel) rfl
theorem wt_401 : (Jvm.Cond.selects "ThrownCoins$Lot" ({ cls := "ThrownCoins$Lot", name := "add", desc := "(III)V" } : Jvm.MethodName) ({ cls := "ThrownCoins$Lot", name := "add", desc := "(III)V" } : Jvm.MethodName)) ∈ TB := tb_2 161 (by decide +kernel) rfl
theorem wt_402 : (Jvm.Cond.code ({ cls := "ThrownCoins$Lot", name := "add", desc := "(III)V" } : Jvm.MethodName) prog_6_method_3_code (4 : Nat) (Option.none : Option Jvm.ClassFile.FieldType)) ∈ TB := tb_2 162 (by decide +kernel) rfl
theorem wt_405 : (Jvm.Cond.methodLink "ThrownCoins$Text" (91 : Nat) ({ cls := "ThrownCoins$Text", name := "readHabit", desc := "(I)Z" } : Jvm.MethodName)) ∈ TB := tb_2 165 (by decide +kernel) rfl
theorem wt_407 : (Jvm.Cond.instanceMethod ({ cls := "ThrownCoins$Text", name := "readHabit", desc := "(I)Z" } : Jvm.MethodName)) ∈ TB := tb_2 167 (by decide +kernel) rfl
theorem wt_408 : (Jvm.Cond.code ({ cls := "ThrownCoins$Text", name := "readHabit", desc := "(I)Z" } : Jvm.MethodName) prog_9_method_13_code (2 : Nat) (Option.some Jvm.ClassFile.FieldType.boolean)) ∈ TB := tb_2 168 (by decide +kernel) rfl
theorem wt_409 : (Jvm.Cond.methodLink "ThrownCoins$Text" (150 : Nat) ({ cls := "ThrownCoins$Told", name := "setHabit", desc := "(III)V" } : Jvm.MethodName)) ∈ TB := tb_2 169 (by decide +kernel) rfl
theorem wt_410 : (Jvm.Cond.instanceMethod ({ cls := "ThrownCoins$Told", name := "setHabit", desc := "(III)V" } : Jvm.MethodName)) ∈ TB := tb_2 170 (by decide +kernel) rfl
theorem wt_411 : (Jvm.Cond.selects "ThrownCoins$Told" ({ cls := "ThrownCoins$Told", name := "setHabit", desc := "(III)V" } : Jvm.MethodName) ({ cls := "ThrownCoins$Told", name := "setHabit", desc := "(III)V" } : Jvm.MethodName)) ∈ TB := tb_2 171 (by decide +kernel) rfl
theorem wt_412 : (Jvm.Cond.code ({ cls := "ThrownCoins$Told", name := "setHabit", desc := "(III)V" } : Jvm.MethodName) prog_11_method_6_code (4 : Nat) (Option.none : Option Jvm.ClassFile.FieldType)) ∈ TB := tb_2 172 (by decide +kernel) rfl
theorem wt_414 : (Jvm.Cond.static ({ cls := "ThrownCoins", name := "isPerson", desc := "(I)Z" } : Jvm.MethodName)) ∈ TB := tb_2 174 (by decide +kernel) rfl
theorem wt_415 : (Jvm.Cond.code ({ cls := "ThrownCoins", name := "isPerson", desc := "(I)Z" } : Jvm.MethodName) prog_1_method_29_code (1 : Nat) (Option.some Jvm.ClassFile.FieldType.boolean)) ∈ TB := tb_2 175 (by decide +kernel) rfl
theorem wt_418 : (Jvm.Cond.methodLink "ThrownCoins$Text" (98 : Nat) ({ cls := "ThrownCoins$Text", name := "readWaiting", desc := "()Z" } : Jvm.MethodName)) ∈ TB := tb_2 178 (by decide +kernel) rfl
theorem wt_420 : (Jvm.Cond.instanceMethod ({ cls := "ThrownCoins$Text", name := "readWaiting", desc := "()Z" } : Jvm.MethodName)) ∈ TB := tb_2 180 (by decide +kernel) rfl
theorem wt_421 : (Jvm.Cond.code ({ cls := "ThrownCoins$Text", name := "readWaiting", desc := "()Z" } : Jvm.MethodName) prog_9_method_14_code (2 : Nat) (Option.some Jvm.ClassFile.FieldType.boolean)) ∈ TB := tb_2 181 (by decide +kernel) rfl
theorem wt_424 : (Jvm.Cond.methodLink "ThrownCoins$Text" (105 : Nat) ({ cls := "ThrownCoins$Text", name := "readVisits", desc := "()Z" } : Jvm.MethodName)) ∈ TB := tb_2 184 (by decide +kernel) rfl
theorem wt_426 : (Jvm.Cond.instanceMethod ({ cls := "ThrownCoins$Text", name := "readVisits", desc := "()Z" } : Jvm.MethodName)) ∈ TB := tb_2 186 (by decide +kernel) rfl
theorem wt_427 : (Jvm.Cond.code ({ cls := "ThrownCoins$Text", name := "readVisits", desc := "()Z" } : Jvm.MethodName) prog_9_method_15_code (2 : Nat) (Option.some Jvm.ClassFile.FieldType.boolean)) ∈ TB := tb_2 187 (by decide +kernel) rfl
theorem wt_428 : (Jvm.Cond.methodLink "ThrownCoins$Text" (156 : Nat) ({ cls := "ThrownCoins$Told", name := "addVisit", desc := "(I)V" } : Jvm.MethodName)) ∈ TB := tb_2 188 (by decide +kernel) rfl
theorem wt_429 : (Jvm.Cond.instanceMethod ({ cls := "ThrownCoins$Told", name := "addVisit", desc := "(I)V" } : Jvm.MethodName)) ∈ TB := tb_2 189 (by decide +kernel) rfl
theorem wt_430 : (Jvm.Cond.selects "ThrownCoins$Told" ({ cls := "ThrownCoins$Told", name := "addVisit", desc := "(I)V" } : Jvm.MethodName) ({ cls := "ThrownCoins$Told", name := "addVisit", desc := "(I)V" } : Jvm.MethodName)) ∈ TB := tb_2 190 (by decide +kernel) rfl
theorem wt_431 : (Jvm.Cond.code ({ cls := "ThrownCoins$Told", name := "addVisit", desc := "(I)V" } : Jvm.MethodName) prog_11_method_9_code (2 : Nat) (Option.none : Option Jvm.ClassFile.FieldType)) ∈ TB := tb_2 191 (by decide +kernel) rfl
theorem wt_433 : (Jvm.Cond.methodLink "ThrownCoins$Text" (110 : Nat) ({ cls := "ThrownCoins$Text", name := "readLaw", desc := "()Z" } : Jvm.MethodName)) ∈ TB := tb_2 193 (by decide +kernel) rfl
theorem wt_435 : (Jvm.Cond.instanceMethod ({ cls := "ThrownCoins$Text", name := "readLaw", desc := "()Z" } : Jvm.MethodName)) ∈ TB := tb_2 195 (by decide +kernel) rfl
theorem wt_436 : (Jvm.Cond.code ({ cls := "ThrownCoins$Text", name := "readLaw", desc := "()Z" } : Jvm.MethodName) prog_9_method_16_code (1 : Nat) (Option.some Jvm.ClassFile.FieldType.boolean)) ∈ TB := tb_2 196 (by decide +kernel) rfl
theorem wt_438 : (Jvm.Cond.methodLink "ThrownCoins$Text" (115 : Nat) ({ cls := "ThrownCoins$Text", name := "leaveAlone", desc := "()Z" } : Jvm.MethodName)) ∈ TB := tb_2 198 (by decide +kernel) rfl
theorem wt_440 : (Jvm.Cond.instanceMethod ({ cls := "ThrownCoins$Text", name := "leaveAlone", desc := "()Z" } : Jvm.MethodName)) ∈ TB := tb_2 200 (by decide +kernel) rfl
theorem wt_441 : (Jvm.Cond.code ({ cls := "ThrownCoins$Text", name := "leaveAlone", desc := "()Z" } : Jvm.MethodName) prog_9_method_17_code (1 : Nat) (Option.some Jvm.ClassFile.FieldType.boolean)) ∈ TB := tb_2 201 (by decide +kernel) rfl
theorem wt_442 : (Jvm.Cond.methodLink "ThrownCoins$Text" (49 : Nat) ({ cls := "ThrownCoins$Text", name := "isSemicolon", desc := "()Z" } : Jvm.MethodName)) ∈ TB := tb_2 202 (by decide +kernel) rfl
theorem wt_444 : (Jvm.Cond.instanceMethod ({ cls := "ThrownCoins$Text", name := "isSemicolon", desc := "()Z" } : Jvm.MethodName)) ∈ TB := tb_2 204 (by decide +kernel) rfl
theorem wt_445 : (Jvm.Cond.code ({ cls := "ThrownCoins$Text", name := "isSemicolon", desc := "()Z" } : Jvm.MethodName) prog_9_method_7_code (1 : Nat) (Option.some Jvm.ClassFile.FieldType.boolean)) ∈ TB := tb_2 205 (by decide +kernel) rfl
theorem wt_446 : (Jvm.Cond.arrayClass Jvm.ClassFile.FieldType.byte) ∈ TB := tb_2 206 (by decide +kernel) rfl
theorem wt_447 : (Jvm.Cond.methodLink "ThrownCoinsLaw" (29 : Nat) ({ cls := "ThrownCoins", name := "sunday", desc := "()I" } : Jvm.MethodName)) ∈ TB := tb_2 207 (by decide +kernel) rfl
theorem wt_448 : (Jvm.Cond.instanceMethod ({ cls := "ThrownCoins", name := "sunday", desc := "()I" } : Jvm.MethodName)) ∈ TB := tb_2 208 (by decide +kernel) rfl
theorem wt_449 : (Jvm.Cond.selects "ThrownCoins" ({ cls := "ThrownCoins", name := "sunday", desc := "()I" } : Jvm.MethodName) ({ cls := "ThrownCoins", name := "sunday", desc := "()I" } : Jvm.MethodName)) ∈ TB := tb_2 209 (by decide +kernel) rfl
theorem wt_450 : (Jvm.Cond.code ({ cls := "ThrownCoins", name := "sunday", desc := "()I" } : Jvm.MethodName) prog_1_method_5_code (1 : Nat) (Option.some Jvm.ClassFile.FieldType.int)) ∈ TB := tb_2 210 (by decide +kernel) rfl
theorem wt_451 : (Jvm.Cond.methodLink "ThrownCoins" (67 : Nat) ({ cls := "ThrownCoins$Told", name := "copyFrom", desc := "(LThrownCoins$Told;)V" } : Jvm.MethodName)) ∈ TB := tb_2 211 (by decide +kernel) rfl
theorem wt_452 : (Jvm.Cond.methodLink "ThrownCoins" (73 : Nat) ({ cls := "ThrownCoins$Lot", name := "copyFrom", desc := "(LThrownCoins$Lot;)V" } : Jvm.MethodName)) ∈ TB := tb_2 212 (by decide +kernel) rfl
theorem wt_453 : (Jvm.Cond.methodLink "ThrownCoins" (82 : Nat) ({ cls := "ThrownCoins$Foretelling", name := "becomeStale", desc := "()V" } : Jvm.MethodName)) ∈ TB := tb_2 213 (by decide +kernel) rfl
theorem wt_454 : (Jvm.Cond.instanceMethod ({ cls := "ThrownCoins$Foretelling", name := "becomeStale", desc := "()V" } : Jvm.MethodName)) ∈ TB := tb_2 214 (by decide +kernel) rfl
theorem wt_455 : (Jvm.Cond.selects "ThrownCoins$Foretelling" ({ cls := "ThrownCoins$Foretelling", name := "becomeStale", desc := "()V" } : Jvm.MethodName) ({ cls := "ThrownCoins$Foretelling", name := "becomeStale", desc := "()V" } : Jvm.MethodName)) ∈ TB := tb_2 215 (by decide +kernel) rfl
theorem wt_456 : (Jvm.Cond.code ({ cls := "ThrownCoins$Foretelling", name := "becomeStale", desc := "()V" } : Jvm.MethodName) prog_4_method_2_code (1 : Nat) (Option.none : Option Jvm.ClassFile.FieldType)) ∈ TB := tb_2 216 (by decide +kernel) rfl
theorem wt_457 : (Jvm.Cond.methodLink "ThrownCoinsLaw" (33 : Nat) ({ cls := "ThrownCoins", name := "coin", desc := "(II)I" } : Jvm.MethodName)) ∈ TB := tb_2 217 (by decide +kernel) rfl
theorem wt_458 : (Jvm.Cond.instanceMethod ({ cls := "ThrownCoins", name := "coin", desc := "(II)I" } : Jvm.MethodName)) ∈ TB := tb_2 218 (by decide +kernel) rfl
theorem wt_459 : (Jvm.Cond.selects "ThrownCoins" ({ cls := "ThrownCoins", name := "coin", desc := "(II)I" } : Jvm.MethodName) ({ cls := "ThrownCoins", name := "coin", desc := "(II)I" } : Jvm.MethodName)) ∈ TB := tb_2 219 (by decide +kernel) rfl
theorem wt_460 : (Jvm.Cond.code ({ cls := "ThrownCoins", name := "coin", desc := "(II)I" } : Jvm.MethodName) prog_1_method_6_code (3 : Nat) (Option.some Jvm.ClassFile.FieldType.int)) ∈ TB := tb_2 220 (by decide +kernel) rfl
theorem wt_461 : (Jvm.Cond.methodLink "ThrownCoins" (88 : Nat) ({ cls := "ThrownCoins$Told", name := "hasKind", desc := "(I)Z" } : Jvm.MethodName)) ∈ TB := tb_2 221 (by decide +kernel) rfl
theorem wt_462 : (Jvm.Cond.instanceMethod ({ cls := "ThrownCoins$Told", name := "hasKind", desc := "(I)Z" } : Jvm.MethodName)) ∈ TB := tb_2 222 (by decide +kernel) rfl
theorem wt_463 : (Jvm.Cond.selects "ThrownCoins$Told" ({ cls := "ThrownCoins$Told", name := "hasKind", desc := "(I)Z" } : Jvm.MethodName) ({ cls := "ThrownCoins$Told", name := "hasKind", desc := "(I)Z" } : Jvm.MethodName)) ∈ TB := tb_2 223 (by decide +kernel) rfl
theorem wt_464 : (Jvm.Cond.code ({ cls := "ThrownCoins$Told", name := "hasKind", desc := "(I)Z" } : Jvm.MethodName) prog_11_method_3_code (2 : Nat) (Option.some Jvm.ClassFile.FieldType.boolean)) ∈ TB := tb_2 224 (by decide +kernel) rfl
theorem wt_465 : (Jvm.Cond.methodLink "ThrownCoins" (92 : Nat) ({ cls := "ThrownCoins$Told", name := "worthOf", desc := "(I)I" } : Jvm.MethodName)) ∈ TB := tb_2 225 (by decide +kernel) rfl
theorem wt_466 : (Jvm.Cond.instanceMethod ({ cls := "ThrownCoins$Told", name := "worthOf", desc := "(I)I" } : Jvm.MethodName)) ∈ TB := tb_2 226 (by decide +kernel) rfl
theorem wt_467 : (Jvm.Cond.selects "ThrownCoins$Told" ({ cls := "ThrownCoins$Told", name := "worthOf", desc := "(I)I" } : Jvm.MethodName) ({ cls := "ThrownCoins$Told", name := "worthOf", desc := "(I)I" } : Jvm.MethodName)) ∈ TB := tb_2 227 (by decide +kernel) rfl
theorem wt_468 : (Jvm.Cond.code ({ cls := "ThrownCoins$Told", name := "worthOf", desc := "(I)I" } : Jvm.MethodName) prog_11_method_4_code (2 : Nat) (Option.some Jvm.ClassFile.FieldType.int)) ∈ TB := tb_2 228 (by decide +kernel) rfl
theorem wt_469 : (Jvm.Cond.methodLink "ThrownCoins" (96 : Nat) ({ cls := "ThrownCoins$Lot", name := "of", desc := "(II)I" } : Jvm.MethodName)) ∈ TB := tb_2 229 (by decide +kernel) rfl
theorem wt_470 : (Jvm.Cond.methodLink "ThrownCoinsLaw" (38 : Nat) ({ cls := "ThrownCoins", name := "purse", desc := "(II)I" } : Jvm.MethodName)) ∈ TB := tb_2 230 (by decide +kernel) rfl
theorem wt_471 : (Jvm.Cond.instanceMethod ({ cls := "ThrownCoins", name := "purse", desc := "(II)I" } : Jvm.MethodName)) ∈ TB := tb_2 231 (by decide +kernel) rfl
theorem wt_472 : (Jvm.Cond.selects "ThrownCoins" ({ cls := "ThrownCoins", name := "purse", desc := "(II)I" } : Jvm.MethodName) ({ cls := "ThrownCoins", name := "purse", desc := "(II)I" } : Jvm.MethodName)) ∈ TB := tb_2 232 (by decide +kernel) rfl
theorem wt_473 : (Jvm.Cond.code ({ cls := "ThrownCoins", name := "purse", desc := "(II)I" } : Jvm.MethodName) prog_1_method_7_code (3 : Nat) (Option.some Jvm.ClassFile.FieldType.int)) ∈ TB := tb_2 233 (by decide +kernel) rfl
theorem wt_474 : (Jvm.Cond.methodLink "ThrownCoins" (100 : Nat) ({ cls := "ThrownCoins", name := "isPerson", desc := "(I)Z" } : Jvm.MethodName)) ∈ TB := tb_2 234 (by decide +kernel) rfl
theorem wt_475 : (Jvm.Cond.methodLink "ThrownCoinsLaw" (42 : Nat) ({ cls := "ThrownCoins", name := "person", desc := "(II)I" } : Jvm.MethodName)) ∈ TB := tb_2 235 (by decide +kernel) rfl
theorem wt_476 : (Jvm.Cond.instanceMethod ({ cls := "ThrownCoins", name := "person", desc := "(II)I" } : Jvm.MethodName)) ∈ TB := tb_2 236 (by decide +kernel) rfl
theorem wt_477 : (Jvm.Cond.selects "ThrownCoins" ({ cls := "ThrownCoins", name := "person", desc := "(II)I" } : Jvm.MethodName) ({ cls := "ThrownCoins", name := "person", desc := "(II)I" } : Jvm.MethodName)) ∈ TB := tb_2 237 (by decide +kernel) rfl
theorem wt_478 : (Jvm.Cond.code ({ cls := "ThrownCoins", name := "person", desc := "(II)I" } : Jvm.MethodName) prog_1_method_8_code (3 : Nat) (Option.some Jvm.ClassFile.FieldType.int)) ∈ TB := tb_2 238 (by decide +kernel) rfl
theorem wt_479 : (Jvm.Cond.methodLink "ThrownCoins" (103 : Nat) ({ cls := "ThrownCoins$Told", name := "wealth", desc := "(LThrownCoins$Lot;I)I" } : Jvm.MethodName)) ∈ TB := tb_2 239 (by decide +kernel) rfl
theorem wt_480 : (Jvm.Cond.instanceMethod ({ cls := "ThrownCoins$Told", name := "wealth", desc := "(LThrownCoins$Lot;I)I" } : Jvm.MethodName)) ∈ TB := tb_3 0 (by decide +kernel) rfl
theorem wt_481 : (Jvm.Cond.selects "ThrownCoins$Told" ({ cls := "ThrownCoins$Told", name := "wealth", desc := "(LThrownCoins$Lot;I)I" } : Jvm.MethodName) ({ cls := "ThrownCoins$Told", name := "wealth", desc := "(LThrownCoins$Lot;I)I" } : Jvm.MethodName)) ∈ TB := tb_3 1 (by decide +kernel) rfl
theorem wt_482 : (Jvm.Cond.code ({ cls := "ThrownCoins$Told", name := "wealth", desc := "(LThrownCoins$Lot;I)I" } : Jvm.MethodName) prog_11_method_12_code (5 : Nat) (Option.some Jvm.ClassFile.FieldType.int)) ∈ TB := tb_3 2 (by decide +kernel) rfl
theorem wt_483 : (Jvm.Cond.methodLink "ThrownCoins$Told" (87 : Nat) ({ cls := "ThrownCoins$Told", name := "worthOf", desc := "(I)I" } : Jvm.MethodName)) ∈ TB := tb_3 3 (by decide +kernel) rfl
theorem wt_484 : (Jvm.Cond.methodLink "ThrownCoins$Told" (90 : Nat) ({ cls := "ThrownCoins$Lot", name := "of", desc := "(II)I" } : Jvm.MethodName)) ∈ TB := tb_3 4 (by decide +kernel) rfl
theorem wt_485 : (Jvm.Cond.methodLink "ThrownCoins" (107 : Nat) ({ cls := "ThrownCoins$Told", name := "folkOf", desc := "(I)LThrownCoins$Folk;" } : Jvm.MethodName)) ∈ TB := tb_3 5 (by decide +kernel) rfl
theorem wt_486 : (Jvm.Cond.instanceMethod ({ cls := "ThrownCoins$Told", name := "folkOf", desc := "(I)LThrownCoins$Folk;" } : Jvm.MethodName)) ∈ TB := tb_3 6 (by decide +kernel) rfl
theorem wt_487 : (Jvm.Cond.selects "ThrownCoins$Told" ({ cls := "ThrownCoins$Told", name := "folkOf", desc := "(I)LThrownCoins$Folk;" } : Jvm.MethodName) ({ cls := "ThrownCoins$Told", name := "folkOf", desc := "(I)LThrownCoins$Folk;" } : Jvm.MethodName)) ∈ TB := tb_3 7 (by decide +kernel) rfl
theorem wt_488 : (Jvm.Cond.code ({ cls := "ThrownCoins$Told", name := "folkOf", desc := "(I)LThrownCoins$Folk;" } : Jvm.MethodName) prog_11_method_8_code (2 : Nat) (Option.some (Jvm.ClassFile.FieldType.object "ThrownCoins$Folk"))) ∈ TB := tb_3 8 (by decide +kernel) rfl
theorem wt_489 : (Jvm.Cond.methodLink "ThrownCoins" (111 : Nat) ({ cls := "ThrownCoins$Folk", name := "habit", desc := "()I" } : Jvm.MethodName)) ∈ TB := tb_3 9 (by decide +kernel) rfl
theorem wt_491 : (Jvm.Cond.sameMethod "ThrownCoins$Folk" "ThrownCoins$Folk" "habit" "()I") ∈ TB := tb_3 11 (by decide +kernel) rfl
theorem wt_492 : (Jvm.Cond.selects "ThrownCoins$Cheap" ({ cls := "ThrownCoins$Folk", name := "habit", desc := "()I" } : Jvm.MethodName) ({ cls := "ThrownCoins$Cheap", name := "habit", desc := "()I" } : Jvm.MethodName)) ∈ TB := tb_3 12 (by decide +kernel) rfl
theorem wt_493 : (Jvm.Cond.instanceMethod ({ cls := "ThrownCoins$Cheap", name := "habit", desc := "()I" } : Jvm.MethodName)) ∈ TB := tb_3 13 (by decide +kernel) rfl
theorem wt_494 : (Jvm.Cond.code ({ cls := "ThrownCoins$Cheap", name := "habit", desc := "()I" } : Jvm.MethodName) prog_2_method_2_code (1 : Nat) (Option.some Jvm.ClassFile.FieldType.int)) ∈ TB := tb_3 14 (by decide +kernel) rfl
theorem wt_495 : (Jvm.Cond.selects "ThrownCoins$Greedy" ({ cls := "ThrownCoins$Folk", name := "habit", desc := "()I" } : Jvm.MethodName) ({ cls := "ThrownCoins$Greedy", name := "habit", desc := "()I" } : Jvm.MethodName)) ∈ TB := tb_3 15 (by decide +kernel) rfl
theorem wt_496 : (Jvm.Cond.instanceMethod ({ cls := "ThrownCoins$Greedy", name := "habit", desc := "()I" } : Jvm.MethodName)) ∈ TB := tb_3 16 (by decide +kernel) rfl
theorem wt_497 : (Jvm.Cond.code ({ cls := "ThrownCoins$Greedy", name := "habit", desc := "()I" } : Jvm.MethodName) prog_5_method_2_code (1 : Nat) (Option.some Jvm.ClassFile.FieldType.int)) ∈ TB := tb_3 17 (by decide +kernel) rfl
theorem wt_498 : (Jvm.Cond.selects "ThrownCoins$Never" ({ cls := "ThrownCoins$Folk", name := "habit", desc := "()I" } : Jvm.MethodName) ({ cls := "ThrownCoins$Never", name := "habit", desc := "()I" } : Jvm.MethodName)) ∈ TB := tb_3 18 (by decide +kernel) rfl
theorem wt_499 : (Jvm.Cond.instanceMethod ({ cls := "ThrownCoins$Never", name := "habit", desc := "()I" } : Jvm.MethodName)) ∈ TB := tb_3 19 (by decide +kernel) rfl
theorem wt_500 : (Jvm.Cond.code ({ cls := "ThrownCoins$Never", name := "habit", desc := "()I" } : Jvm.MethodName) prog_7_method_2_code (1 : Nat) (Option.some Jvm.ClassFile.FieldType.int)) ∈ TB := tb_3 20 (by decide +kernel) rfl
theorem wt_501 : (Jvm.Cond.selects "ThrownCoins$Waiting" ({ cls := "ThrownCoins$Folk", name := "habit", desc := "()I" } : Jvm.MethodName) ({ cls := "ThrownCoins$Waiting", name := "habit", desc := "()I" } : Jvm.MethodName)) ∈ TB := tb_3 21 (by decide +kernel) rfl
theorem wt_502 : (Jvm.Cond.instanceMethod ({ cls := "ThrownCoins$Waiting", name := "habit", desc := "()I" } : Jvm.MethodName)) ∈ TB := tb_3 22 (by decide +kernel) rfl
theorem wt_503 : (Jvm.Cond.code ({ cls := "ThrownCoins$Waiting", name := "habit", desc := "()I" } : Jvm.MethodName) prog_12_method_2_code (1 : Nat) (Option.some Jvm.ClassFile.FieldType.int)) ∈ TB := tb_3 23 (by decide +kernel) rfl
theorem wt_504 : (Jvm.Cond.methodLink "ThrownCoins" (117 : Nat) ({ cls := "ThrownCoins$Folk", name := "waitsFor", desc := "(LThrownCoins$Told;I)I" } : Jvm.MethodName)) ∈ TB := tb_3 24 (by decide +kernel) rfl
theorem wt_505 : (Jvm.Cond.instanceMethod ({ cls := "ThrownCoins$Folk", name := "waitsFor", desc := "(LThrownCoins$Told;I)I" } : Jvm.MethodName)) ∈ TB := tb_3 25 (by decide +kernel) rfl
theorem wt_506 : (Jvm.Cond.sameMethod "ThrownCoins$Folk" "ThrownCoins$Folk" "waitsFor" "(LThrownCoins$Told;I)I") ∈ TB := tb_3 26 (by decide +kernel) rfl
theorem wt_507 : (Jvm.Cond.selects "ThrownCoins$Cheap" ({ cls := "ThrownCoins$Folk", name := "waitsFor", desc := "(LThrownCoins$Told;I)I" } : Jvm.MethodName) ({ cls := "ThrownCoins$Folk", name := "waitsFor", desc := "(LThrownCoins$Told;I)I" } : Jvm.MethodName)) ∈ TB := tb_3 27 (by decide +kernel) rfl
theorem wt_508 : (Jvm.Cond.selects "ThrownCoins$Greedy" ({ cls := "ThrownCoins$Folk", name := "waitsFor", desc := "(LThrownCoins$Told;I)I" } : Jvm.MethodName) ({ cls := "ThrownCoins$Folk", name := "waitsFor", desc := "(LThrownCoins$Told;I)I" } : Jvm.MethodName)) ∈ TB := tb_3 28 (by decide +kernel) rfl
theorem wt_509 : (Jvm.Cond.selects "ThrownCoins$Never" ({ cls := "ThrownCoins$Folk", name := "waitsFor", desc := "(LThrownCoins$Told;I)I" } : Jvm.MethodName) ({ cls := "ThrownCoins$Folk", name := "waitsFor", desc := "(LThrownCoins$Told;I)I" } : Jvm.MethodName)) ∈ TB := tb_3 29 (by decide +kernel) rfl
theorem wt_510 : (Jvm.Cond.selects "ThrownCoins$Waiting" ({ cls := "ThrownCoins$Folk", name := "waitsFor", desc := "(LThrownCoins$Told;I)I" } : Jvm.MethodName) ({ cls := "ThrownCoins$Waiting", name := "waitsFor", desc := "(LThrownCoins$Told;I)I" } : Jvm.MethodName)) ∈ TB := tb_3 30 (by decide +kernel) rfl
theorem wt_511 : (Jvm.Cond.instanceMethod ({ cls := "ThrownCoins$Waiting", name := "waitsFor", desc := "(LThrownCoins$Told;I)I" } : Jvm.MethodName)) ∈ TB := tb_3 31 (by decide +kernel) rfl
theorem wt_512 : (Jvm.Cond.code ({ cls := "ThrownCoins$Waiting", name := "waitsFor", desc := "(LThrownCoins$Told;I)I" } : Jvm.MethodName) prog_12_method_4_code (3 : Nat) (Option.some Jvm.ClassFile.FieldType.int)) ∈ TB := tb_3 32 (by decide +kernel) rfl
theorem wt_513 : (Jvm.Cond.methodLink "ThrownCoins$Waiting" (9 : Nat) ({ cls := "ThrownCoins$Told", name := "boundOf", desc := "(I)I" } : Jvm.MethodName)) ∈ TB := tb_3 33 (by decide +kernel) rfl
theorem wt_514 : (Jvm.Cond.instanceMethod ({ cls := "ThrownCoins$Told", name := "boundOf", desc := "(I)I" } : Jvm.MethodName)) ∈ TB := tb_3 34 (by decide +kernel) rfl
theorem wt_515 : (Jvm.Cond.selects "ThrownCoins$Told" ({ cls := "ThrownCoins$Told", name := "boundOf", desc := "(I)I" } : Jvm.MethodName) ({ cls := "ThrownCoins$Told", name := "boundOf", desc := "(I)I" } : Jvm.MethodName)) ∈ TB := tb_3 35 (by decide +kernel) rfl
theorem wt_516 : (Jvm.Cond.code ({ cls := "ThrownCoins$Told", name := "boundOf", desc := "(I)I" } : Jvm.MethodName) prog_11_method_7_code (2 : Nat) (Option.some Jvm.ClassFile.FieldType.int)) ∈ TB := tb_3 36 (by decide +kernel) rfl
theorem wt_517 : (Jvm.Cond.code ({ cls := "ThrownCoins$Folk", name := "waitsFor", desc := "(LThrownCoins$Told;I)I" } : Jvm.MethodName) prog_3_method_4_code (3 : Nat) (Option.some Jvm.ClassFile.FieldType.int)) ∈ TB := tb_3 37 (by decide +kernel) rfl
theorem wt_518 : (Jvm.Cond.methodLink "ThrownCoins" (121 : Nat) ({ cls := "ThrownCoins$Told", name := "visitsLeft", desc := "(LThrownCoins$Lot;I)I" } : Jvm.MethodName)) ∈ TB := tb_3 38 (by decide +kernel) rfl
theorem wt_519 : (Jvm.Cond.instanceMethod ({ cls := "ThrownCoins$Told", name := "visitsLeft", desc := "(LThrownCoins$Lot;I)I" } : Jvm.MethodName)) ∈ TB := tb_3 39 (by decide +kernel) rfl
theorem wt_520 : (Jvm.Cond.selects "ThrownCoins$Told" ({ cls := "ThrownCoins$Told", name := "visitsLeft", desc := "(LThrownCoins$Lot;I)I" } : Jvm.MethodName) ({ cls := "ThrownCoins$Told", name := "visitsLeft", desc := "(LThrownCoins$Lot;I)I" } : Jvm.MethodName)) ∈ TB := tb_3 40 (by decide +kernel) rfl
theorem wt_521 : (Jvm.Cond.code ({ cls := "ThrownCoins$Told", name := "visitsLeft", desc := "(LThrownCoins$Lot;I)I" } : Jvm.MethodName) prog_11_method_11_code (5 : Nat) (Option.some Jvm.ClassFile.FieldType.int)) ∈ TB := tb_3 41 (by decide +kernel) rfl
theorem wt_522 : (Jvm.Cond.methodLink "ThrownCoins$Told" (83 : Nat) ({ cls := "ThrownCoins$Told", name := "visitor", desc := "(I)I" } : Jvm.MethodName)) ∈ TB := tb_3 42 (by decide +kernel) rfl
theorem wt_523 : (Jvm.Cond.instanceMethod ({ cls := "ThrownCoins$Told", name := "visitor", desc := "(I)I" } : Jvm.MethodName)) ∈ TB := tb_3 43 (by decide +kernel) rfl
theorem wt_524 : (Jvm.Cond.selects "ThrownCoins$Told" ({ cls := "ThrownCoins$Told", name := "visitor", desc := "(I)I" } : Jvm.MethodName) ({ cls := "ThrownCoins$Told", name := "visitor", desc := "(I)I" } : Jvm.MethodName)) ∈ TB := tb_3 44 (by decide +kernel) rfl
theorem wt_525 : (Jvm.Cond.code ({ cls := "ThrownCoins$Told", name := "visitor", desc := "(I)I" } : Jvm.MethodName) prog_11_method_10_code (2 : Nat) (Option.some Jvm.ClassFile.FieldType.int)) ∈ TB := tb_3 45 (by decide +kernel) rfl
theorem wt_526 : (Jvm.Cond.methodLink "ThrownCoinsLaw" (46 : Nat) ({ cls := "ThrownCoins", name := "as", desc := "(II)I" } : Jvm.MethodName)) ∈ TB := tb_3 46 (by decide +kernel) rfl
theorem wt_527 : (Jvm.Cond.instanceMethod ({ cls := "ThrownCoins", name := "as", desc := "(II)I" } : Jvm.MethodName)) ∈ TB := tb_3 47 (by decide +kernel) rfl
theorem wt_528 : (Jvm.Cond.selects "ThrownCoins" ({ cls := "ThrownCoins", name := "as", desc := "(II)I" } : Jvm.MethodName) ({ cls := "ThrownCoins", name := "as", desc := "(II)I" } : Jvm.MethodName)) ∈ TB := tb_3 48 (by decide +kernel) rfl
theorem wt_529 : (Jvm.Cond.code ({ cls := "ThrownCoins", name := "as", desc := "(II)I" } : Jvm.MethodName) prog_1_method_9_code (4 : Nat) (Option.some Jvm.ClassFile.FieldType.int)) ∈ TB := tb_3 49 (by decide +kernel) rfl
theorem wt_530 : (Jvm.Cond.methodLink "ThrownCoins" (124 : Nat) ({ cls := "ThrownCoins", name := "isA", desc := "(LThrownCoins$Folk;I)Z" } : Jvm.MethodName)) ∈ TB := tb_3 50 (by decide +kernel) rfl
theorem wt_531 : (Jvm.Cond.static ({ cls := "ThrownCoins", name := "isA", desc := "(LThrownCoins$Folk;I)Z" } : Jvm.MethodName)) ∈ TB := tb_3 51 (by decide +kernel) rfl
theorem wt_532 : (Jvm.Cond.code ({ cls := "ThrownCoins", name := "isA", desc := "(LThrownCoins$Folk;I)Z" } : Jvm.MethodName) prog_1_method_31_code (2 : Nat) (Option.some Jvm.ClassFile.FieldType.boolean)) ∈ TB := tb_3 52 (by decide +kernel) rfl
theorem wt_533 : (Jvm.Cond.classLink "ThrownCoins" (214 : Nat) "ThrownCoins$Never") ∈ TB := tb_3 53 (by decide +kernel) rfl
theorem wt_534 : (Jvm.Cond.classLink "ThrownCoins" (216 : Nat) "ThrownCoins$Thrower") ∈ TB := tb_3 54 (by decide +kernel) rfl
theorem wt_535 : (Jvm.Cond.classLink "ThrownCoins" (218 : Nat) "ThrownCoins$Greedy") ∈ TB := tb_3 55 (by decide +kernel) rfl
theorem wt_536 : (Jvm.Cond.classLink "ThrownCoins" (220 : Nat) "ThrownCoins$Waiting") ∈ TB := tb_3 56 (by decide +kernel) rfl
theorem wt_537 : (Jvm.Cond.classLink "ThrownCoins" (222 : Nat) "ThrownCoins$Cheap") ∈ TB := tb_3 57 (by decide +kernel) rfl
theorem wt_538 : (Jvm.Cond.methodLink "ThrownCoins" (128 : Nat) ({ cls := "ThrownCoins$Folk", name := "wouldThrow", desc := "(LThrownCoins$Told;LThrownCoins$Lot;I)I" } : Jvm.MethodName)) ∈ TB := tb_3 58 (by decide +kernel) rfl
theorem wt_540 : (Jvm.Cond.sameMethod "ThrownCoins$Folk" "ThrownCoins$Folk" "wouldThrow" "(LThrownCoins$Told;LThrownCoins$Lot;I)I") ∈ TB := tb_3 60 (by decide +kernel) rfl
theorem wt_541 : (Jvm.Cond.selects "ThrownCoins$Cheap" ({ cls := "ThrownCoins$Folk", name := "wouldThrow", desc := "(LThrownCoins$Told;LThrownCoins$Lot;I)I" } : Jvm.MethodName) ({ cls := "ThrownCoins$Thrower", name := "wouldThrow", desc := "(LThrownCoins$Told;LThrownCoins$Lot;I)I" } : Jvm.MethodName)) ∈ TB := tb_3 61 (by decide +kernel) rfl
theorem wt_542 : (Jvm.Cond.instanceMethod ({ cls := "ThrownCoins$Thrower", name := "wouldThrow", desc := "(LThrownCoins$Told;LThrownCoins$Lot;I)I" } : Jvm.MethodName)) ∈ TB := tb_3 62 (by decide +kernel) rfl
theorem wt_543 : (Jvm.Cond.code ({ cls := "ThrownCoins$Thrower", name := "wouldThrow", desc := "(LThrownCoins$Told;LThrownCoins$Lot;I)I" } : Jvm.MethodName) prog_10_method_4_code (8 : Nat) (Option.some Jvm.ClassFile.FieldType.int)) ∈ TB := tb_3 63 (by decide +kernel) rfl
theorem wt_544 : (Jvm.Cond.methodLink "ThrownCoins$Thrower" (9 : Nat) ({ cls := "ThrownCoins$Thrower", name := "leastGain", desc := "(LThrownCoins$Told;I)I" } : Jvm.MethodName)) ∈ TB := tb_3 64 (by decide +kernel) rfl
theorem wt_545 : (Jvm.Cond.instanceMethod ({ cls := "ThrownCoins$Thrower", name := "leastGain", desc := "(LThrownCoins$Told;I)I" } : Jvm.MethodName)) ∈ TB := tb_3 65 (by decide +kernel) rfl
theorem wt_546 : (Jvm.Cond.sameMethod "ThrownCoins$Thrower" "ThrownCoins$Thrower" "leastGain" "(LThrownCoins$Told;I)I") ∈ TB := tb_3 66 (by decide +kernel) rfl
theorem wt_547 : (Jvm.Cond.selects "ThrownCoins$Cheap" ({ cls := "ThrownCoins$Thrower", name := "leastGain", desc := "(LThrownCoins$Told;I)I" } : Jvm.MethodName) ({ cls := "ThrownCoins$Thrower", name := "leastGain", desc := "(LThrownCoins$Told;I)I" } : Jvm.MethodName)) ∈ TB := tb_3 67 (by decide +kernel) rfl
theorem wt_548 : (Jvm.Cond.selects "ThrownCoins$Greedy" ({ cls := "ThrownCoins$Thrower", name := "leastGain", desc := "(LThrownCoins$Told;I)I" } : Jvm.MethodName) ({ cls := "ThrownCoins$Thrower", name := "leastGain", desc := "(LThrownCoins$Told;I)I" } : Jvm.MethodName)) ∈ TB := tb_3 68 (by decide +kernel) rfl
theorem wt_549 : (Jvm.Cond.selects "ThrownCoins$Waiting" ({ cls := "ThrownCoins$Thrower", name := "leastGain", desc := "(LThrownCoins$Told;I)I" } : Jvm.MethodName) ({ cls := "ThrownCoins$Waiting", name := "leastGain", desc := "(LThrownCoins$Told;I)I" } : Jvm.MethodName)) ∈ TB := tb_3 69 (by decide +kernel) rfl
theorem wt_550 : (Jvm.Cond.instanceMethod ({ cls := "ThrownCoins$Waiting", name := "leastGain", desc := "(LThrownCoins$Told;I)I" } : Jvm.MethodName)) ∈ TB := tb_3 70 (by decide +kernel) rfl
theorem wt_551 : (Jvm.Cond.code ({ cls := "ThrownCoins$Waiting", name := "leastGain", desc := "(LThrownCoins$Told;I)I" } : Jvm.MethodName) prog_12_method_3_code (3 : Nat) (Option.some Jvm.ClassFile.FieldType.int)) ∈ TB := tb_3 71 (by decide +kernel) rfl
theorem wt_552 : (Jvm.Cond.methodLink "ThrownCoins$Waiting" (15 : Nat) ({ cls := "java/lang/Math", name := "max", desc := "(II)I" } : Jvm.MethodName)) ∈ TB := tb_3 72 (by decide +kernel) rfl
theorem wt_553 : (Jvm.Cond.static ({ cls := "java/lang/Math", name := "max", desc := "(II)I" } : Jvm.MethodName)) ∈ TB := tb_3 73 (by decide +kernel) rfl
theorem wt_554 : (Jvm.Cond.code ({ cls := "java/lang/Math", name := "max", desc := "(II)I" } : Jvm.MethodName) prog_15_method_65_code (2 : Nat) (Option.some Jvm.ClassFile.FieldType.int)) ∈ TB := tb_3 74 (by decide +kernel) rfl
theorem wt_555 : (Jvm.Cond.code ({ cls := "ThrownCoins$Thrower", name := "leastGain", desc := "(LThrownCoins$Told;I)I" } : Jvm.MethodName) prog_10_method_3_code (3 : Nat) (Option.some Jvm.ClassFile.FieldType.int)) ∈ TB := tb_3 75 (by decide +kernel) rfl
theorem wt_556 : (Jvm.Cond.methodLink "ThrownCoins$Thrower" (21 : Nat) ({ cls := "ThrownCoins$Lot", name := "of", desc := "(II)I" } : Jvm.MethodName)) ∈ TB := tb_3 76 (by decide +kernel) rfl
theorem wt_557 : (Jvm.Cond.methodLink "ThrownCoins$Thrower" (27 : Nat) ({ cls := "ThrownCoins$Told", name := "gainOf", desc := "(LThrownCoins$Lot;I)I" } : Jvm.MethodName)) ∈ TB := tb_3 77 (by decide +kernel) rfl
theorem wt_558 : (Jvm.Cond.instanceMethod ({ cls := "ThrownCoins$Told", name := "gainOf", desc := "(LThrownCoins$Lot;I)I" } : Jvm.MethodName)) ∈ TB := tb_3 78 (by decide +kernel) rfl
theorem wt_559 : (Jvm.Cond.selects "ThrownCoins$Told" ({ cls := "ThrownCoins$Told", name := "gainOf", desc := "(LThrownCoins$Lot;I)I" } : Jvm.MethodName) ({ cls := "ThrownCoins$Told", name := "gainOf", desc := "(LThrownCoins$Lot;I)I" } : Jvm.MethodName)) ∈ TB := tb_3 79 (by decide +kernel) rfl
theorem wt_560 : (Jvm.Cond.code ({ cls := "ThrownCoins$Told", name := "gainOf", desc := "(LThrownCoins$Lot;I)I" } : Jvm.MethodName) prog_11_method_13_code (6 : Nat) (Option.some Jvm.ClassFile.FieldType.int)) ∈ TB := tb_3 80 (by decide +kernel) rfl
theorem wt_561 : (Jvm.Cond.methodLink "ThrownCoins$Told" (94 : Nat) ({ cls := "ThrownCoins$Told", name := "greatestTaken", desc := "(I)I" } : Jvm.MethodName)) ∈ TB := tb_3 81 (by decide +kernel) rfl
theorem wt_563 : (Jvm.Cond.instanceMethod ({ cls := "ThrownCoins$Told", name := "greatestTaken", desc := "(I)I" } : Jvm.MethodName)) ∈ TB := tb_3 83 (by decide +kernel) rfl
theorem wt_564 : (Jvm.Cond.code ({ cls := "ThrownCoins$Told", name := "greatestTaken", desc := "(I)I" } : Jvm.MethodName) prog_11_method_15_code (2 : Nat) (Option.some Jvm.ClassFile.FieldType.int)) ∈ TB := tb_3 84 (by decide +kernel) rfl
theorem wt_565 : (Jvm.Cond.methodLink "ThrownCoins$Told" (97 : Nat) ({ cls := "ThrownCoins$Told", name := "mostTakenOfKind", desc := "()I" } : Jvm.MethodName)) ∈ TB := tb_3 85 (by decide +kernel) rfl
theorem wt_567 : (Jvm.Cond.instanceMethod ({ cls := "ThrownCoins$Told", name := "mostTakenOfKind", desc := "()I" } : Jvm.MethodName)) ∈ TB := tb_3 87 (by decide +kernel) rfl
theorem wt_568 : (Jvm.Cond.code ({ cls := "ThrownCoins$Told", name := "mostTakenOfKind", desc := "()I" } : Jvm.MethodName) prog_11_method_16_code (1 : Nat) (Option.some Jvm.ClassFile.FieldType.int)) ∈ TB := tb_3 88 (by decide +kernel) rfl
theorem wt_569 : (Jvm.Cond.constant "ThrownCoins$Told" (116 : Nat) (2147483647 : Int32)) ∈ TB := tb_3 89 (by decide +kernel) rfl
theorem wt_570 : (Jvm.Cond.methodLink "ThrownCoins$Told" (101 : Nat) ({ cls := "java/lang/Math", name := "min", desc := "(II)I" } : Jvm.MethodName)) ∈ TB := tb_3 90 (by decide +kernel) rfl
theorem wt_571 : (Jvm.Cond.methodLink "ThrownCoins$Told" (106 : Nat) ({ cls := "ThrownCoins$Told", name := "takesOneKind", desc := "()Z" } : Jvm.MethodName)) ∈ TB := tb_3 91 (by decide +kernel) rfl
theorem wt_573 : (Jvm.Cond.instanceMethod ({ cls := "ThrownCoins$Told", name := "takesOneKind", desc := "()Z" } : Jvm.MethodName)) ∈ TB := tb_3 93 (by decide +kernel) rfl
theorem wt_574 : (Jvm.Cond.code ({ cls := "ThrownCoins$Told", name := "takesOneKind", desc := "()Z" } : Jvm.MethodName) prog_11_method_17_code (1 : Nat) (Option.some Jvm.ClassFile.FieldType.boolean)) ∈ TB := tb_3 94 (by decide +kernel) rfl
theorem wt_575 : (Jvm.Cond.methodLink "ThrownCoins$Thrower" (31 : Nat) ({ cls := "ThrownCoins$Thrower", name := "comparesAll", desc := "()Z" } : Jvm.MethodName)) ∈ TB := tb_3 95 (by decide +kernel) rfl
theorem wt_577 : (Jvm.Cond.sameMethod "ThrownCoins$Thrower" "ThrownCoins$Thrower" "comparesAll" "()Z") ∈ TB := tb_3 97 (by decide +kernel) rfl
theorem wt_578 : (Jvm.Cond.selects "ThrownCoins$Cheap" ({ cls := "ThrownCoins$Thrower", name := "comparesAll", desc := "()Z" } : Jvm.MethodName) ({ cls := "ThrownCoins$Cheap", name := "comparesAll", desc := "()Z" } : Jvm.MethodName)) ∈ TB := tb_3 98 (by decide +kernel) rfl
theorem wt_579 : (Jvm.Cond.instanceMethod ({ cls := "ThrownCoins$Cheap", name := "comparesAll", desc := "()Z" } : Jvm.MethodName)) ∈ TB := tb_3 99 (by decide +kernel) rfl
theorem wt_580 : (Jvm.Cond.code ({ cls := "ThrownCoins$Cheap", name := "comparesAll", desc := "()Z" } : Jvm.MethodName) prog_2_method_3_code (1 : Nat) (Option.some Jvm.ClassFile.FieldType.boolean)) ∈ TB := tb_3 100 (by decide +kernel) rfl
theorem wt_581 : (Jvm.Cond.selects "ThrownCoins$Greedy" ({ cls := "ThrownCoins$Thrower", name := "comparesAll", desc := "()Z" } : Jvm.MethodName) ({ cls := "ThrownCoins$Greedy", name := "comparesAll", desc := "()Z" } : Jvm.MethodName)) ∈ TB := tb_3 101 (by decide +kernel) rfl
theorem wt_582 : (Jvm.Cond.instanceMethod ({ cls := "ThrownCoins$Greedy", name := "comparesAll", desc := "()Z" } : Jvm.MethodName)) ∈ TB := tb_3 102 (by decide +kernel) rfl
theorem wt_583 : (Jvm.Cond.code ({ cls := "ThrownCoins$Greedy", name := "comparesAll", desc := "()Z" } : Jvm.MethodName) prog_5_method_3_code (1 : Nat) (Option.some Jvm.ClassFile.FieldType.boolean)) ∈ TB := tb_3 103 (by decide +kernel) rfl
theorem wt_584 : (Jvm.Cond.selects "ThrownCoins$Waiting" ({ cls := "ThrownCoins$Thrower", name := "comparesAll", desc := "()Z" } : Jvm.MethodName) ({ cls := "ThrownCoins$Greedy", name := "comparesAll", desc := "()Z" } : Jvm.MethodName)) ∈ TB := tb_3 104 (by decide +kernel) rfl
theorem wt_585 : (Jvm.Cond.selects "ThrownCoins$Greedy" ({ cls := "ThrownCoins$Folk", name := "wouldThrow", desc := "(LThrownCoins$Told;LThrownCoins$Lot;I)I" } : Jvm.MethodName) ({ cls := "ThrownCoins$Thrower", name := "wouldThrow", desc := "(LThrownCoins$Told;LThrownCoins$Lot;I)I" } : Jvm.MethodName)) ∈ TB := tb_3 105 (by decide +kernel) rfl
theorem wt_586 : (Jvm.Cond.selects "ThrownCoins$Never" ({ cls := "ThrownCoins$Folk", name := "wouldThrow", desc := "(LThrownCoins$Told;LThrownCoins$Lot;I)I" } : Jvm.MethodName) ({ cls := "ThrownCoins$Never", name := "wouldThrow", desc := "(LThrownCoins$Told;LThrownCoins$Lot;I)I" } : Jvm.MethodName)) ∈ TB := tb_3 106 (by decide +kernel) rfl
theorem wt_587 : (Jvm.Cond.instanceMethod ({ cls := "ThrownCoins$Never", name := "wouldThrow", desc := "(LThrownCoins$Told;LThrownCoins$Lot;I)I" } : Jvm.MethodName)) ∈ TB := tb_3 107 (by decide +kernel) rfl
theorem wt_588 : (Jvm.Cond.code ({ cls := "ThrownCoins$Never", name := "wouldThrow", desc := "(LThrownCoins$Told;LThrownCoins$Lot;I)I" } : Jvm.MethodName) prog_7_method_3_code (4 : Nat) (Option.some Jvm.ClassFile.FieldType.int)) ∈ TB := tb_3 108 (by decide +kernel) rfl
theorem wt_589 : (Jvm.Cond.selects "ThrownCoins$Waiting" ({ cls := "ThrownCoins$Folk", name := "wouldThrow", desc := "(LThrownCoins$Told;LThrownCoins$Lot;I)I" } : Jvm.MethodName) ({ cls := "ThrownCoins$Thrower", name := "wouldThrow", desc := "(LThrownCoins$Told;LThrownCoins$Lot;I)I" } : Jvm.MethodName)) ∈ TB := tb_3 109 (by decide +kernel) rfl
theorem wt_590 : (Jvm.Cond.methodLink "ThrownCoinsLaw" (50 : Nat) ({ cls := "ThrownCoins", name := "come", desc := "(I)I" } : Jvm.MethodName)) ∈ TB := tb_3 110 (by decide +kernel) rfl
theorem wt_591 : (Jvm.Cond.instanceMethod ({ cls := "ThrownCoins", name := "come", desc := "(I)I" } : Jvm.MethodName)) ∈ TB := tb_3 111 (by decide +kernel) rfl
theorem wt_592 : (Jvm.Cond.selects "ThrownCoins" ({ cls := "ThrownCoins", name := "come", desc := "(I)I" } : Jvm.MethodName) ({ cls := "ThrownCoins", name := "come", desc := "(I)I" } : Jvm.MethodName)) ∈ TB := tb_3 112 (by decide +kernel) rfl
theorem wt_593 : (Jvm.Cond.code ({ cls := "ThrownCoins", name := "come", desc := "(I)I" } : Jvm.MethodName) prog_1_method_10_code (2 : Nat) (Option.some Jvm.ClassFile.FieldType.int)) ∈ TB := tb_3 113 (by decide +kernel) rfl
theorem wt_594 : (Jvm.Cond.methodLink "ThrownCoins" (132 : Nat) ({ cls := "ThrownCoins$Told", name := "visitor", desc := "(I)I" } : Jvm.MethodName)) ∈ TB := tb_3 114 (by decide +kernel) rfl
theorem wt_595 : (Jvm.Cond.methodLink "ThrownCoinsLaw" (55 : Nat) ({ cls := "ThrownCoins", name := "gain", desc := "(II)I" } : Jvm.MethodName)) ∈ TB := tb_3 115 (by decide +kernel) rfl
theorem wt_596 : (Jvm.Cond.instanceMethod ({ cls := "ThrownCoins", name := "gain", desc := "(II)I" } : Jvm.MethodName)) ∈ TB := tb_3 116 (by decide +kernel) rfl
theorem wt_597 : (Jvm.Cond.selects "ThrownCoins" ({ cls := "ThrownCoins", name := "gain", desc := "(II)I" } : Jvm.MethodName) ({ cls := "ThrownCoins", name := "gain", desc := "(II)I" } : Jvm.MethodName)) ∈ TB := tb_3 117 (by decide +kernel) rfl
theorem wt_598 : (Jvm.Cond.code ({ cls := "ThrownCoins", name := "gain", desc := "(II)I" } : Jvm.MethodName) prog_1_method_11_code (3 : Nat) (Option.some Jvm.ClassFile.FieldType.int)) ∈ TB := tb_3 118 (by decide +kernel) rfl
theorem wt_599 : (Jvm.Cond.methodLink "ThrownCoins" (135 : Nat) ({ cls := "ThrownCoins$Told", name := "gainOf", desc := "(LThrownCoins$Lot;I)I" } : Jvm.MethodName)) ∈ TB := tb_3 119 (by decide +kernel) rfl
theorem wt_600 : (Jvm.Cond.constant "ThrownCoins" (138 : Nat) (100000 : Int32)) ∈ TB := tb_3 120 (by decide +kernel) rfl
theorem wt_601 : (Jvm.Cond.methodLink "ThrownCoinsLaw" (59 : Nat) ({ cls := "ThrownCoins", name := "visit", desc := "(I)I" } : Jvm.MethodName)) ∈ TB := tb_3 121 (by decide +kernel) rfl
theorem wt_602 : (Jvm.Cond.instanceMethod ({ cls := "ThrownCoins", name := "visit", desc := "(I)I" } : Jvm.MethodName)) ∈ TB := tb_3 122 (by decide +kernel) rfl
theorem wt_603 : (Jvm.Cond.selects "ThrownCoins" ({ cls := "ThrownCoins", name := "visit", desc := "(I)I" } : Jvm.MethodName) ({ cls := "ThrownCoins", name := "visit", desc := "(I)I" } : Jvm.MethodName)) ∈ TB := tb_3 123 (by decide +kernel) rfl
theorem wt_604 : (Jvm.Cond.code ({ cls := "ThrownCoins", name := "visit", desc := "(I)I" } : Jvm.MethodName) prog_1_method_12_code (4 : Nat) (Option.some Jvm.ClassFile.FieldType.int)) ∈ TB := tb_3 124 (by decide +kernel) rfl
theorem wt_605 : (Jvm.Cond.methodLink "ThrownCoins" (142 : Nat) ({ cls := "ThrownCoins$Told", name := "letVisit", desc := "(LThrownCoins$Lot;I)V" } : Jvm.MethodName)) ∈ TB := tb_3 125 (by decide +kernel) rfl
theorem wt_606 : (Jvm.Cond.instanceMethod ({ cls := "ThrownCoins$Told", name := "letVisit", desc := "(LThrownCoins$Lot;I)V" } : Jvm.MethodName)) ∈ TB := tb_3 126 (by decide +kernel) rfl
theorem wt_607 : (Jvm.Cond.selects "ThrownCoins$Told" ({ cls := "ThrownCoins$Told", name := "letVisit", desc := "(LThrownCoins$Lot;I)V" } : Jvm.MethodName) ({ cls := "ThrownCoins$Told", name := "letVisit", desc := "(LThrownCoins$Lot;I)V" } : Jvm.MethodName)) ∈ TB := tb_3 127 (by decide +kernel) rfl
theorem wt_608 : (Jvm.Cond.code ({ cls := "ThrownCoins$Told", name := "letVisit", desc := "(LThrownCoins$Lot;I)V" } : Jvm.MethodName) prog_11_method_19_code (3 : Nat) (Option.none : Option Jvm.ClassFile.FieldType)) ∈ TB := tb_3 128 (by decide +kernel) rfl
theorem wt_609 : (Jvm.Cond.methodLink "ThrownCoins$Told" (127 : Nat) ({ cls := "ThrownCoins$Told", name := "throwCoin", desc := "(LThrownCoins$Lot;II)V" } : Jvm.MethodName)) ∈ TB := tb_3 129 (by decide +kernel) rfl
theorem wt_610 : (Jvm.Cond.instanceMethod ({ cls := "ThrownCoins$Told", name := "throwCoin", desc := "(LThrownCoins$Lot;II)V" } : Jvm.MethodName)) ∈ TB := tb_3 130 (by decide +kernel) rfl
theorem wt_611 : (Jvm.Cond.selects "ThrownCoins$Told" ({ cls := "ThrownCoins$Told", name := "throwCoin", desc := "(LThrownCoins$Lot;II)V" } : Jvm.MethodName) ({ cls := "ThrownCoins$Told", name := "throwCoin", desc := "(LThrownCoins$Lot;II)V" } : Jvm.MethodName)) ∈ TB := tb_3 131 (by decide +kernel) rfl
theorem wt_612 : (Jvm.Cond.code ({ cls := "ThrownCoins$Told", name := "throwCoin", desc := "(LThrownCoins$Lot;II)V" } : Jvm.MethodName) prog_11_method_14_code (6 : Nat) (Option.none : Option Jvm.ClassFile.FieldType)) ∈ TB := tb_3 132 (by decide +kernel) rfl
theorem wt_613 : (Jvm.Cond.methodLink "ThrownCoins$Told" (110 : Nat) ({ cls := "ThrownCoins$Lot", name := "add", desc := "(III)V" } : Jvm.MethodName)) ∈ TB := tb_3 133 (by decide +kernel) rfl
theorem wt_614 : (Jvm.Cond.methodLink "ThrownCoinsLaw" (63 : Nat) ({ cls := "ThrownCoins", name := "go", desc := "(I)I" } : Jvm.MethodName)) ∈ TB := tb_3 134 (by decide +kernel) rfl
theorem wt_615 : (Jvm.Cond.instanceMethod ({ cls := "ThrownCoins", name := "go", desc := "(I)I" } : Jvm.MethodName)) ∈ TB := tb_3 135 (by decide +kernel) rfl
theorem wt_616 : (Jvm.Cond.selects "ThrownCoins" ({ cls := "ThrownCoins", name := "go", desc := "(I)I" } : Jvm.MethodName) ({ cls := "ThrownCoins", name := "go", desc := "(I)I" } : Jvm.MethodName)) ∈ TB := tb_3 136 (by decide +kernel) rfl
theorem wt_617 : (Jvm.Cond.code ({ cls := "ThrownCoins", name := "go", desc := "(I)I" } : Jvm.MethodName) prog_1_method_13_code (3 : Nat) (Option.some Jvm.ClassFile.FieldType.int)) ∈ TB := tb_3 137 (by decide +kernel) rfl
theorem wt_618 : (Jvm.Cond.methodLink "ThrownCoins" (149 : Nat) ({ cls := "ThrownCoins$Told", name := "habitual", desc := "(LThrownCoins$Lot;)I" } : Jvm.MethodName)) ∈ TB := tb_3 138 (by decide +kernel) rfl
theorem wt_619 : (Jvm.Cond.instanceMethod ({ cls := "ThrownCoins$Told", name := "habitual", desc := "(LThrownCoins$Lot;)I" } : Jvm.MethodName)) ∈ TB := tb_3 139 (by decide +kernel) rfl
theorem wt_620 : (Jvm.Cond.selects "ThrownCoins$Told" ({ cls := "ThrownCoins$Told", name := "habitual", desc := "(LThrownCoins$Lot;)I" } : Jvm.MethodName) ({ cls := "ThrownCoins$Told", name := "habitual", desc := "(LThrownCoins$Lot;)I" } : Jvm.MethodName)) ∈ TB := tb_3 140 (by decide +kernel) rfl
theorem wt_621 : (Jvm.Cond.code ({ cls := "ThrownCoins$Told", name := "habitual", desc := "(LThrownCoins$Lot;)I" } : Jvm.MethodName) prog_11_method_18_code (3 : Nat) (Option.some Jvm.ClassFile.FieldType.int)) ∈ TB := tb_3 141 (by decide +kernel) rfl
theorem wt_622 : (Jvm.Cond.methodLink "ThrownCoins$Told" (117 : Nat) ({ cls := "ThrownCoins$Told", name := "folkOf", desc := "(I)LThrownCoins$Folk;" } : Jvm.MethodName)) ∈ TB := tb_3 142 (by decide +kernel) rfl
theorem wt_623 : (Jvm.Cond.methodLink "ThrownCoins$Told" (121 : Nat) ({ cls := "ThrownCoins$Folk", name := "wouldThrow", desc := "(LThrownCoins$Told;LThrownCoins$Lot;I)I" } : Jvm.MethodName)) ∈ TB := tb_3 143 (by decide +kernel) rfl
theorem wt_624 : (Jvm.Cond.methodLink "ThrownCoinsLaw" (67 : Nat) ({ cls := "ThrownCoins", name := "plan", desc := "(II)I" } : Jvm.MethodName)) ∈ TB := tb_3 144 (by decide +kernel) rfl
theorem wt_625 : (Jvm.Cond.instanceMethod ({ cls := "ThrownCoins", name := "plan", desc := "(II)I" } : Jvm.MethodName)) ∈ TB := tb_3 145 (by decide +kernel) rfl
theorem wt_626 : (Jvm.Cond.selects "ThrownCoins" ({ cls := "ThrownCoins", name := "plan", desc := "(II)I" } : Jvm.MethodName) ({ cls := "ThrownCoins", name := "plan", desc := "(II)I" } : Jvm.MethodName)) ∈ TB := tb_3 146 (by decide +kernel) rfl
theorem wt_627 : (Jvm.Cond.code ({ cls := "ThrownCoins", name := "plan", desc := "(II)I" } : Jvm.MethodName) prog_1_method_14_code (4 : Nat) (Option.some Jvm.ClassFile.FieldType.int)) ∈ TB := tb_3 147 (by decide +kernel) rfl
theorem wt_628 : (Jvm.Cond.methodLink "ThrownCoins" (153 : Nat) ({ cls := "ThrownCoins", name := "goalFor", desc := "(II)I" } : Jvm.MethodName)) ∈ TB := tb_3 148 (by decide +kernel) rfl
theorem wt_629 : (Jvm.Cond.static ({ cls := "ThrownCoins", name := "goalFor", desc := "(II)I" } : Jvm.MethodName)) ∈ TB := tb_3 149 (by decide +kernel) rfl
theorem wt_630 : (Jvm.Cond.code ({ cls := "ThrownCoins", name := "goalFor", desc := "(II)I" } : Jvm.MethodName) prog_1_method_30_code (2 : Nat) (Option.some Jvm.ClassFile.FieldType.int)) ∈ TB := tb_3 150 (by decide +kernel) rfl
theorem wt_631 : (Jvm.Cond.methodLink "ThrownCoins" (156 : Nat) ({ cls := "ThrownCoins$Foretelling", name := "foresee", desc := "(LThrownCoins$Lot;I)V" } : Jvm.MethodName)) ∈ TB := tb_3 151 (by decide +kernel) rfl
theorem wt_632 : (Jvm.Cond.instanceMethod ({ cls := "ThrownCoins$Foretelling", name := "foresee", desc := "(LThrownCoins$Lot;I)V" } : Jvm.MethodName)) ∈ TB := tb_3 152 (by decide +kernel) rfl
theorem wt_633 : (Jvm.Cond.selects "ThrownCoins$Foretelling" ({ cls := "ThrownCoins$Foretelling", name := "foresee", desc := "(LThrownCoins$Lot;I)V" } : Jvm.MethodName) ({ cls := "ThrownCoins$Foretelling", name := "foresee", desc := "(LThrownCoins$Lot;I)V" } : Jvm.MethodName)) ∈ TB := tb_3 153 (by decide +kernel) rfl
theorem wt_634 : (Jvm.Cond.code ({ cls := "ThrownCoins$Foretelling", name := "foresee", desc := "(LThrownCoins$Lot;I)V" } : Jvm.MethodName) prog_4_method_3_code (4 : Nat) (Option.none : Option Jvm.ClassFile.FieldType)) ∈ TB := tb_3 154 (by decide +kernel) rfl
theorem wt_635 : (Jvm.Cond.methodLink "ThrownCoins$Foretelling" (45 : Nat) ({ cls := "ThrownCoins$Told", name := "visitor", desc := "(I)I" } : Jvm.MethodName)) ∈ TB := tb_3 155 (by decide +kernel) rfl
theorem wt_636 : (Jvm.Cond.methodLink "ThrownCoins$Foretelling" (49 : Nat) ({ cls := "ThrownCoins$Foretelling", name := "isFree", desc := "(I)Z" } : Jvm.MethodName)) ∈ TB := tb_3 156 (by decide +kernel) rfl
theorem wt_638 : (Jvm.Cond.instanceMethod ({ cls := "ThrownCoins$Foretelling", name := "isFree", desc := "(I)Z" } : Jvm.MethodName)) ∈ TB := tb_3 158 (by decide +kernel) rfl
theorem wt_639 : (Jvm.Cond.code ({ cls := "ThrownCoins$Foretelling", name := "isFree", desc := "(I)Z" } : Jvm.MethodName) prog_4_method_7_code (2 : Nat) (Option.some Jvm.ClassFile.FieldType.boolean)) ∈ TB := tb_3 159 (by decide +kernel) rfl
theorem wt_640 : (Jvm.Cond.methodLink "ThrownCoins$Foretelling" (64 : Nat) ({ cls := "ThrownCoins$Foretelling", name := "goalOf", desc := "(I)I" } : Jvm.MethodName)) ∈ TB := tb_3 160 (by decide +kernel) rfl
theorem wt_642 : (Jvm.Cond.instanceMethod ({ cls := "ThrownCoins$Foretelling", name := "goalOf", desc := "(I)I" } : Jvm.MethodName)) ∈ TB := tb_3 162 (by decide +kernel) rfl
theorem wt_643 : (Jvm.Cond.code ({ cls := "ThrownCoins$Foretelling", name := "goalOf", desc := "(I)I" } : Jvm.MethodName) prog_4_method_6_code (2 : Nat) (Option.some Jvm.ClassFile.FieldType.int)) ∈ TB := tb_3 163 (by decide +kernel) rfl
theorem wt_645 : (Jvm.Cond.methodLink "ThrownCoins$Foretelling" (53 : Nat) ({ cls := "ThrownCoins$Lot", name := "copyFrom", desc := "(LThrownCoins$Lot;)V" } : Jvm.MethodName)) ∈ TB := tb_3 165 (by decide +kernel) rfl
theorem wt_646 : (Jvm.Cond.methodLink "ThrownCoins$Foretelling" (57 : Nat) ({ cls := "ThrownCoins$Foretelling", name := "playOn", desc := "(LThrownCoins$Foretelling;I)V" } : Jvm.MethodName)) ∈ TB := tb_3 166 (by decide +kernel) rfl
theorem wt_647 : (Jvm.Cond.static ({ cls := "ThrownCoins$Foretelling", name := "playOn", desc := "(LThrownCoins$Foretelling;I)V" } : Jvm.MethodName)) ∈ TB := tb_3 167 (by decide +kernel) rfl
theorem wt_648 : (Jvm.Cond.code ({ cls := "ThrownCoins$Foretelling", name := "playOn", desc := "(LThrownCoins$Foretelling;I)V" } : Jvm.MethodName) prog_4_method_8_code (9 : Nat) (Option.none : Option Jvm.ClassFile.FieldType)) ∈ TB := tb_3 168 (by decide +kernel) rfl
theorem wt_649 : (Jvm.Cond.methodLink "ThrownCoins$Foretelling" (67 : Nat) ({ cls := "ThrownCoins$Told", name := "habitual", desc := "(LThrownCoins$Lot;)I" } : Jvm.MethodName)) ∈ TB := tb_3 169 (by decide +kernel) rfl
theorem wt_650 : (Jvm.Cond.methodLink "ThrownCoins$Foretelling" (71 : Nat) ({ cls := "ThrownCoins$Told", name := "letVisit", desc := "(LThrownCoins$Lot;I)V" } : Jvm.MethodName)) ∈ TB := tb_3 170 (by decide +kernel) rfl
theorem wt_651 : (Jvm.Cond.methodLink "ThrownCoins$Foretelling" (75 : Nat) ({ cls := "ThrownCoins$Foretelling", name := "settle", desc := "(I)V" } : Jvm.MethodName)) ∈ TB := tb_3 171 (by decide +kernel) rfl
theorem wt_653 : (Jvm.Cond.instanceMethod ({ cls := "ThrownCoins$Foretelling", name := "settle", desc := "(I)V" } : Jvm.MethodName)) ∈ TB := tb_3 173 (by decide +kernel) rfl
theorem wt_654 : (Jvm.Cond.code ({ cls := "ThrownCoins$Foretelling", name := "settle", desc := "(I)V" } : Jvm.MethodName) prog_4_method_10_code (3 : Nat) (Option.none : Option Jvm.ClassFile.FieldType)) ∈ TB := tb_3 174 (by decide +kernel) rfl
theorem wt_655 : (Jvm.Cond.methodLink "ThrownCoins$Foretelling" (107 : Nat) ({ cls := "ThrownCoins$Told", name := "wealth", desc := "(LThrownCoins$Lot;I)I" } : Jvm.MethodName)) ∈ TB := tb_3 175 (by decide +kernel) rfl
theorem wt_656 : (Jvm.Cond.methodLink "ThrownCoins$Foretelling" (79 : Nat) ({ cls := "ThrownCoins$Foretelling", name := "comesAgain", desc := "(II)Z" } : Jvm.MethodName)) ∈ TB := tb_3 176 (by decide +kernel) rfl
theorem wt_658 : (Jvm.Cond.instanceMethod ({ cls := "ThrownCoins$Foretelling", name := "comesAgain", desc := "(II)Z" } : Jvm.MethodName)) ∈ TB := tb_3 178 (by decide +kernel) rfl
theorem wt_659 : (Jvm.Cond.code ({ cls := "ThrownCoins$Foretelling", name := "comesAgain", desc := "(II)Z" } : Jvm.MethodName) prog_4_method_9_code (4 : Nat) (Option.some Jvm.ClassFile.FieldType.boolean)) ∈ TB := tb_3 179 (by decide +kernel) rfl
theorem wt_660 : (Jvm.Cond.methodLink "ThrownCoins$Foretelling" (87 : Nat) ({ cls := "ThrownCoins$Folk", name := "wouldThrow", desc := "(LThrownCoins$Told;LThrownCoins$Lot;I)I" } : Jvm.MethodName)) ∈ TB := tb_3 180 (by decide +kernel) rfl
theorem wt_661 : (Jvm.Cond.methodLink "ThrownCoins$Foretelling" (96 : Nat) ({ cls := "ThrownCoins$Lot", name := "of", desc := "(II)I" } : Jvm.MethodName)) ∈ TB := tb_3 181 (by decide +kernel) rfl
theorem wt_662 : (Jvm.Cond.methodLink "ThrownCoins$Foretelling" (100 : Nat) ({ cls := "ThrownCoins$Foretelling", name := "reached", desc := "(II)I" } : Jvm.MethodName)) ∈ TB := tb_3 182 (by decide +kernel) rfl
theorem wt_664 : (Jvm.Cond.instanceMethod ({ cls := "ThrownCoins$Foretelling", name := "reached", desc := "(II)I" } : Jvm.MethodName)) ∈ TB := tb_3 184 (by decide +kernel) rfl
theorem wt_665 : (Jvm.Cond.code ({ cls := "ThrownCoins$Foretelling", name := "reached", desc := "(II)I" } : Jvm.MethodName) prog_4_method_11_code (5 : Nat) (Option.some Jvm.ClassFile.FieldType.int)) ∈ TB := tb_3 185 (by decide +kernel) rfl
theorem wt_666 : (Jvm.Cond.methodLink "ThrownCoins$Foretelling" (103 : Nat) ({ cls := "ThrownCoins$Foretelling", name := "takeOver", desc := "(II)V" } : Jvm.MethodName)) ∈ TB := tb_3 186 (by decide +kernel) rfl
theorem wt_668 : (Jvm.Cond.instanceMethod ({ cls := "ThrownCoins$Foretelling", name := "takeOver", desc := "(II)V" } : Jvm.MethodName)) ∈ TB := tb_3 188 (by decide +kernel) rfl
theorem wt_669 : (Jvm.Cond.code ({ cls := "ThrownCoins$Foretelling", name := "takeOver", desc := "(II)V" } : Jvm.MethodName) prog_4_method_12_code (3 : Nat) (Option.none : Option Jvm.ClassFile.FieldType)) ∈ TB := tb_3 189 (by decide +kernel) rfl
theorem wt_670 : (Jvm.Cond.methodLink "ThrownCoins$Foretelling" (111 : Nat) ({ cls := "java/lang/System", name := "arraycopy", desc := "(Ljava/lang/Object;ILjava/lang/Object;II)V" } : Jvm.MethodName)) ∈ TB := tb_3 190 (by decide +kernel) rfl
theorem wt_671 : (Jvm.Cond.methodLink "ThrownCoins" (159 : Nat) ({ cls := "ThrownCoins$Foretelling", name := "endOf", desc := "(I)I" } : Jvm.MethodName)) ∈ TB := tb_3 191 (by decide +kernel) rfl
theorem wt_672 : (Jvm.Cond.instanceMethod ({ cls := "ThrownCoins$Foretelling", name := "endOf", desc := "(I)I" } : Jvm.MethodName)) ∈ TB := tb_3 192 (by decide +kernel) rfl
theorem wt_673 : (Jvm.Cond.selects "ThrownCoins$Foretelling" ({ cls := "ThrownCoins$Foretelling", name := "endOf", desc := "(I)I" } : Jvm.MethodName) ({ cls := "ThrownCoins$Foretelling", name := "endOf", desc := "(I)I" } : Jvm.MethodName)) ∈ TB := tb_3 193 (by decide +kernel) rfl
theorem wt_674 : (Jvm.Cond.code ({ cls := "ThrownCoins$Foretelling", name := "endOf", desc := "(I)I" } : Jvm.MethodName) prog_4_method_4_code (2 : Nat) (Option.some Jvm.ClassFile.FieldType.int)) ∈ TB := tb_3 194 (by decide +kernel) rfl
theorem wt_675 : (Jvm.Cond.methodLink "ThrownCoins" (162 : Nat) ({ cls := "ThrownCoins$Foretelling", name := "step", desc := "(I)I" } : Jvm.MethodName)) ∈ TB := tb_3 195 (by decide +kernel) rfl
theorem wt_676 : (Jvm.Cond.instanceMethod ({ cls := "ThrownCoins$Foretelling", name := "step", desc := "(I)I" } : Jvm.MethodName)) ∈ TB := tb_3 196 (by decide +kernel) rfl
theorem wt_677 : (Jvm.Cond.selects "ThrownCoins$Foretelling" ({ cls := "ThrownCoins$Foretelling", name := "step", desc := "(I)I" } : Jvm.MethodName) ({ cls := "ThrownCoins$Foretelling", name := "step", desc := "(I)I" } : Jvm.MethodName)) ∈ TB := tb_3 197 (by decide +kernel) rfl
theorem wt_678 : (Jvm.Cond.code ({ cls := "ThrownCoins$Foretelling", name := "step", desc := "(I)I" } : Jvm.MethodName) prog_4_method_5_code (2 : Nat) (Option.some Jvm.ClassFile.FieldType.int)) ∈ TB := tb_3 198 (by decide +kernel) rfl
theorem wt_679 : (Jvm.Cond.methodLink "ThrownCoinsLaw" (71 : Nat) ({ cls := "ThrownCoins", name := "game", desc := "(I)I" } : Jvm.MethodName)) ∈ TB := tb_3 199 (by decide +kernel) rfl
theorem wt_680 : (Jvm.Cond.instanceMethod ({ cls := "ThrownCoins", name := "game", desc := "(I)I" } : Jvm.MethodName)) ∈ TB := tb_3 200 (by decide +kernel) rfl
theorem wt_681 : (Jvm.Cond.selects "ThrownCoins" ({ cls := "ThrownCoins", name := "game", desc := "(I)I" } : Jvm.MethodName) ({ cls := "ThrownCoins", name := "game", desc := "(I)I" } : Jvm.MethodName)) ∈ TB := tb_3 201 (by decide +kernel) rfl
theorem wt_682 : (Jvm.Cond.code ({ cls := "ThrownCoins", name := "game", desc := "(I)I" } : Jvm.MethodName) prog_1_method_15_code (2 : Nat) (Option.some Jvm.ClassFile.FieldType.int)) ∈ TB := tb_3 202 (by decide +kernel) rfl
theorem wt_683 : (Jvm.Cond.methodLink "ThrownCoins" (165 : Nat) ({ cls := "ThrownCoins", name := "tooLongForGame", desc := "()Z" } : Jvm.MethodName)) ∈ TB := tb_3 203 (by decide +kernel) rfl
theorem wt_685 : (Jvm.Cond.instanceMethod ({ cls := "ThrownCoins", name := "tooLongForGame", desc := "()Z" } : Jvm.MethodName)) ∈ TB := tb_3 205 (by decide +kernel) rfl
theorem wt_686 : (Jvm.Cond.code ({ cls := "ThrownCoins", name := "tooLongForGame", desc := "()Z" } : Jvm.MethodName) prog_1_method_28_code (1 : Nat) (Option.some Jvm.ClassFile.FieldType.boolean)) ∈ TB := tb_3 206 (by decide +kernel) rfl
theorem wt_687 : (Jvm.Cond.constant "ThrownCoins" (169 : Nat) (33825 : Int32)) ∈ TB := tb_3 207 (by decide +kernel) rfl
theorem wt_688 : (Jvm.Cond.methodLink "ThrownCoinsLaw" (75 : Nat) ({ cls := "ThrownCoins", name := "choice", desc := "(I)I" } : Jvm.MethodName)) ∈ TB := tb_3 208 (by decide +kernel) rfl
theorem wt_689 : (Jvm.Cond.instanceMethod ({ cls := "ThrownCoins", name := "choice", desc := "(I)I" } : Jvm.MethodName)) ∈ TB := tb_3 209 (by decide +kernel) rfl
theorem wt_690 : (Jvm.Cond.selects "ThrownCoins" ({ cls := "ThrownCoins", name := "choice", desc := "(I)I" } : Jvm.MethodName) ({ cls := "ThrownCoins", name := "choice", desc := "(I)I" } : Jvm.MethodName)) ∈ TB := tb_3 210 (by decide +kernel) rfl
theorem wt_691 : (Jvm.Cond.code ({ cls := "ThrownCoins", name := "choice", desc := "(I)I" } : Jvm.MethodName) prog_1_method_16_code (2 : Nat) (Option.some Jvm.ClassFile.FieldType.int)) ∈ TB := tb_3 211 (by decide +kernel) rfl
theorem wt_692 : (Jvm.Cond.methodLink "ThrownCoinsLaw" (79 : Nat) ({ cls := "ThrownCoins", name := "league", desc := "(II)I" } : Jvm.MethodName)) ∈ TB := tb_3 212 (by decide +kernel) rfl
theorem wt_693 : (Jvm.Cond.instanceMethod ({ cls := "ThrownCoins", name := "league", desc := "(II)I" } : Jvm.MethodName)) ∈ TB := tb_3 213 (by decide +kernel) rfl
theorem wt_694 : (Jvm.Cond.selects "ThrownCoins" ({ cls := "ThrownCoins", name := "league", desc := "(II)I" } : Jvm.MethodName) ({ cls := "ThrownCoins", name := "league", desc := "(II)I" } : Jvm.MethodName)) ∈ TB := tb_3 214 (by decide +kernel) rfl
theorem wt_695 : (Jvm.Cond.code ({ cls := "ThrownCoins", name := "league", desc := "(II)I" } : Jvm.MethodName) prog_1_method_17_code (4 : Nat) (Option.some Jvm.ClassFile.FieldType.int)) ∈ TB := tb_3 215 (by decide +kernel) rfl
theorem wt_696 : (Jvm.Cond.methodLink "ThrownCoinsLaw" (83 : Nat) ({ cls := "ThrownCoins", name := "mean", desc := "(III)J" } : Jvm.MethodName)) ∈ TB := tb_3 216 (by decide +kernel) rfl
theorem wt_697 : (Jvm.Cond.instanceMethod ({ cls := "ThrownCoins", name := "mean", desc := "(III)J" } : Jvm.MethodName)) ∈ TB := tb_3 217 (by decide +kernel) rfl
theorem wt_698 : (Jvm.Cond.selects "ThrownCoins" ({ cls := "ThrownCoins", name := "mean", desc := "(III)J" } : Jvm.MethodName) ({ cls := "ThrownCoins", name := "mean", desc := "(III)J" } : Jvm.MethodName)) ∈ TB := tb_3 218 (by decide +kernel) rfl
theorem wt_699 : (Jvm.Cond.code ({ cls := "ThrownCoins", name := "mean", desc := "(III)J" } : Jvm.MethodName) prog_1_method_18_code (4 : Nat) (Option.some Jvm.ClassFile.FieldType.long)) ∈ TB := tb_3 219 (by decide +kernel) rfl
theorem wt_700 : (Jvm.Cond.constantLong "ThrownCoins" (170 : Nat) (-2 : Int64)) ∈ TB := tb_3 220 (by decide +kernel) rfl
theorem wt_701 : (Jvm.Cond.constantLong "ThrownCoins" (172 : Nat) (-3 : Int64)) ∈ TB := tb_3 221 (by decide +kernel) rfl
theorem wt_702 : (Jvm.Cond.constantLong "ThrownCoins" (174 : Nat) (-4 : Int64)) ∈ TB := tb_3 222 (by decide +kernel) rfl
theorem wt_703 : (Jvm.Cond.methodLink "ThrownCoins" (176 : Nat) ({ cls := "ThrownCoins$Foretelling", name := "expected", desc := "(LThrownCoins$Lot;III)J" } : Jvm.MethodName)) ∈ TB := tb_3 223 (by decide +kernel) rfl
theorem wt_704 : (Jvm.Cond.instanceMethod ({ cls := "ThrownCoins$Foretelling", name := "expected", desc := "(LThrownCoins$Lot;III)J" } : Jvm.MethodName)) ∈ TB := tb_3 224 (by decide +kernel) rfl
theorem wt_705 : (Jvm.Cond.selects "ThrownCoins$Foretelling" ({ cls := "ThrownCoins$Foretelling", name := "expected", desc := "(LThrownCoins$Lot;III)J" } : Jvm.MethodName) ({ cls := "ThrownCoins$Foretelling", name := "expected", desc := "(LThrownCoins$Lot;III)J" } : Jvm.MethodName)) ∈ TB := tb_3 225 (by decide +kernel) rfl
theorem wt_706 : (Jvm.Cond.code ({ cls := "ThrownCoins$Foretelling", name := "expected", desc := "(LThrownCoins$Lot;III)J" } : Jvm.MethodName) prog_4_method_13_code (11 : Nat) (Option.some Jvm.ClassFile.FieldType.long)) ∈ TB := tb_3 226 (by decide +kernel) rfl
theorem wt_707 : (Jvm.Cond.methodLink "ThrownCoins$Foretelling" (123 : Nat) ({ cls := "ThrownCoins$Told", name := "visitsLeft", desc := "(LThrownCoins$Lot;I)I" } : Jvm.MethodName)) ∈ TB := tb_3 227 (by decide +kernel) rfl
theorem wt_708 : (Jvm.Cond.methodLink "ThrownCoins$Foretelling" (126 : Nat) ({ cls := "ThrownCoins$Foretelling", name := "weigh", desc := "(LThrownCoins$Foretelling;I)J" } : Jvm.MethodName)) ∈ TB := tb_3 228 (by decide +kernel) rfl
theorem wt_709 : (Jvm.Cond.static ({ cls := "ThrownCoins$Foretelling", name := "weigh", desc := "(LThrownCoins$Foretelling;I)J" } : Jvm.MethodName)) ∈ TB := tb_3 229 (by decide +kernel) rfl
theorem wt_710 : (Jvm.Cond.code ({ cls := "ThrownCoins$Foretelling", name := "weigh", desc := "(LThrownCoins$Foretelling;I)J" } : Jvm.MethodName) prog_4_method_14_code (12 : Nat) (Option.some Jvm.ClassFile.FieldType.long)) ∈ TB := tb_3 230 (by decide +kernel) rfl
theorem wt_711 : (Jvm.Cond.methodLink "ThrownCoins$Foretelling" (136 : Nat) ({ cls := "ThrownCoins$Foretelling", name := "weighNext", desc := "(LThrownCoins$Foretelling;II)J" } : Jvm.MethodName)) ∈ TB := tb_3 231 (by decide +kernel) rfl
theorem wt_712 : (Jvm.Cond.static ({ cls := "ThrownCoins$Foretelling", name := "weighNext", desc := "(LThrownCoins$Foretelling;II)J" } : Jvm.MethodName)) ∈ TB := tb_3 232 (by decide +kernel) rfl
theorem wt_713 : (Jvm.Cond.code ({ cls := "ThrownCoins$Foretelling", name := "weighNext", desc := "(LThrownCoins$Foretelling;II)J" } : Jvm.MethodName) prog_4_method_15_code (3 : Nat) (Option.some Jvm.ClassFile.FieldType.long)) ∈ TB := tb_3 233 (by decide +kernel) rfl
theorem wt_714 : (Jvm.Cond.constantLong "ThrownCoins$Foretelling" (130 : Nat) (10 : Int64)) ∈ TB := tb_3 234 (by decide +kernel) rfl
theorem wt_715 : (Jvm.Cond.constantLong "ThrownCoins$Foretelling" (132 : Nat) (2 : Int64)) ∈ TB := tb_3 235 (by decide +kernel) rfl
theorem wt_716 : (Jvm.Cond.constantLong "ThrownCoins$Foretelling" (134 : Nat) (5 : Int64)) ∈ TB := tb_3 236 (by decide +kernel) rfl
theorem wt_717 : (Jvm.Cond.methodLink "ThrownCoinsLaw" (88 : Nat) ({ cls := "ThrownCoins", name := "dry", desc := "()I" } : Jvm.MethodName)) ∈ TB := tb_3 237 (by decide +kernel) rfl
theorem wt_718 : (Jvm.Cond.instanceMethod ({ cls := "ThrownCoins", name := "dry", desc := "()I" } : Jvm.MethodName)) ∈ TB := tb_3 238 (by decide +kernel) rfl
theorem wt_719 : (Jvm.Cond.selects "ThrownCoins" ({ cls := "ThrownCoins", name := "dry", desc := "()I" } : Jvm.MethodName) ({ cls := "ThrownCoins", name := "dry", desc := "()I" } : Jvm.MethodName)) ∈ TB := tb_3 239 (by decide +kernel) rfl
theorem wt_720 : (Jvm.Cond.code ({ cls := "ThrownCoins", name := "dry", desc := "()I" } : Jvm.MethodName) prog_1_method_19_code (1 : Nat) (Option.some Jvm.ClassFile.FieldType.int)) ∈ TB := tb_4 0 (by decide +kernel) rfl
theorem wt_721 : (Jvm.Cond.methodLink "ThrownCoins" (180 : Nat) ({ cls := "ThrownCoins$Foretelling", name := "tillDry", desc := "(LThrownCoins$Lot;)I" } : Jvm.MethodName)) ∈ TB := tb_4 1 (by decide +kernel) rfl
theorem wt_722 : (Jvm.Cond.instanceMethod ({ cls := "ThrownCoins$Foretelling", name := "tillDry", desc := "(LThrownCoins$Lot;)I" } : Jvm.MethodName)) ∈ TB := tb_4 2 (by decide +kernel) rfl
theorem wt_723 : (Jvm.Cond.selects "ThrownCoins$Foretelling" ({ cls := "ThrownCoins$Foretelling", name := "tillDry", desc := "(LThrownCoins$Lot;)I" } : Jvm.MethodName) ({ cls := "ThrownCoins$Foretelling", name := "tillDry", desc := "(LThrownCoins$Lot;)I" } : Jvm.MethodName)) ∈ TB := tb_4 3 (by decide +kernel) rfl
theorem wt_724 : (Jvm.Cond.code ({ cls := "ThrownCoins$Foretelling", name := "tillDry", desc := "(LThrownCoins$Lot;)I" } : Jvm.MethodName) prog_4_method_16_code (6 : Nat) (Option.some Jvm.ClassFile.FieldType.int)) ∈ TB := tb_4 4 (by decide +kernel) rfl
theorem wt_725 : (Jvm.Cond.methodLink "ThrownCoinsLaw" (92 : Nat) ({ cls := "ThrownCoins", name := "bait", desc := "(I)I" } : Jvm.MethodName)) ∈ TB := tb_4 5 (by decide +kernel) rfl
theorem wt_726 : (Jvm.Cond.instanceMethod ({ cls := "ThrownCoins", name := "bait", desc := "(I)I" } : Jvm.MethodName)) ∈ TB := tb_4 6 (by decide +kernel) rfl
theorem wt_727 : (Jvm.Cond.selects "ThrownCoins" ({ cls := "ThrownCoins", name := "bait", desc := "(I)I" } : Jvm.MethodName) ({ cls := "ThrownCoins", name := "bait", desc := "(I)I" } : Jvm.MethodName)) ∈ TB := tb_4 7 (by decide +kernel) rfl
theorem wt_728 : (Jvm.Cond.code ({ cls := "ThrownCoins", name := "bait", desc := "(I)I" } : Jvm.MethodName) prog_1_method_20_code (2 : Nat) (Option.some Jvm.ClassFile.FieldType.int)) ∈ TB := tb_4 8 (by decide +kernel) rfl
theorem wt_729 : (Jvm.Cond.methodLink "ThrownCoins" (183 : Nat) ({ cls := "ThrownCoins$Foretelling", name := "leastBait", desc := "(LThrownCoins$Lot;I)I" } : Jvm.MethodName)) ∈ TB := tb_4 9 (by decide +kernel) rfl
theorem wt_730 : (Jvm.Cond.instanceMethod ({ cls := "ThrownCoins$Foretelling", name := "leastBait", desc := "(LThrownCoins$Lot;I)I" } : Jvm.MethodName)) ∈ TB := tb_4 10 (by decide +kernel) rfl
theorem wt_731 : (Jvm.Cond.selects "ThrownCoins$Foretelling" ({ cls := "ThrownCoins$Foretelling", name := "leastBait", desc := "(LThrownCoins$Lot;I)I" } : Jvm.MethodName) ({ cls := "ThrownCoins$Foretelling", name := "leastBait", desc := "(LThrownCoins$Lot;I)I" } : Jvm.MethodName)) ∈ TB := tb_4 11 (by decide +kernel) rfl
theorem wt_732 : (Jvm.Cond.code ({ cls := "ThrownCoins$Foretelling", name := "leastBait", desc := "(LThrownCoins$Lot;I)I" } : Jvm.MethodName) prog_4_method_17_code (8 : Nat) (Option.some Jvm.ClassFile.FieldType.int)) ∈ TB := tb_4 12 (by decide +kernel) rfl
theorem wt_733 : (Jvm.Cond.methodLink "ThrownCoins$Foretelling" (140 : Nat) ({ cls := "ThrownCoins$Told", name := "worthOf", desc := "(I)I" } : Jvm.MethodName)) ∈ TB := tb_4 13 (by decide +kernel) rfl
theorem wt_734 : (Jvm.Cond.methodLink "ThrownCoins$Foretelling" (143 : Nat) ({ cls := "ThrownCoins$Foretelling", name := "tempts", desc := "(IIII)Z" } : Jvm.MethodName)) ∈ TB := tb_4 14 (by decide +kernel) rfl
theorem wt_736 : (Jvm.Cond.instanceMethod ({ cls := "ThrownCoins$Foretelling", name := "tempts", desc := "(IIII)Z" } : Jvm.MethodName)) ∈ TB := tb_4 16 (by decide +kernel) rfl
theorem wt_737 : (Jvm.Cond.code ({ cls := "ThrownCoins$Foretelling", name := "tempts", desc := "(IIII)Z" } : Jvm.MethodName) prog_4_method_18_code (6 : Nat) (Option.some Jvm.ClassFile.FieldType.boolean)) ∈ TB := tb_4 17 (by decide +kernel) rfl
theorem wt_738 : (Jvm.Cond.methodLink "ThrownCoins$Foretelling" (147 : Nat) ({ cls := "ThrownCoins$Foretelling", name := "putIn", desc := "(IIII)V" } : Jvm.MethodName)) ∈ TB := tb_4 18 (by decide +kernel) rfl
theorem wt_740 : (Jvm.Cond.instanceMethod ({ cls := "ThrownCoins$Foretelling", name := "putIn", desc := "(IIII)V" } : Jvm.MethodName)) ∈ TB := tb_4 20 (by decide +kernel) rfl
theorem wt_741 : (Jvm.Cond.code ({ cls := "ThrownCoins$Foretelling", name := "putIn", desc := "(IIII)V" } : Jvm.MethodName) prog_4_method_19_code (5 : Nat) (Option.none : Option Jvm.ClassFile.FieldType)) ∈ TB := tb_4 21 (by decide +kernel) rfl
theorem wt_742 : (Jvm.Cond.methodLink "ThrownCoins$Foretelling" (155 : Nat) ({ cls := "ThrownCoins$Lot", name := "add", desc := "(III)V" } : Jvm.MethodName)) ∈ TB := tb_4 22 (by decide +kernel) rfl
theorem wt_743 : (Jvm.Cond.methodLink "ThrownCoins$Foretelling" (151 : Nat) ({ cls := "ThrownCoins$Told", name := "folkOf", desc := "(I)LThrownCoins$Folk;" } : Jvm.MethodName)) ∈ TB := tb_4 23 (by decide +kernel) rfl
theorem wt_744 : (Jvm.Cond.methodLink "ThrownCoinsLaw" (96 : Nat) ({ cls := "ThrownCoins", name := "note", desc := "(II)I" } : Jvm.MethodName)) ∈ TB := tb_4 24 (by decide +kernel) rfl
theorem wt_745 : (Jvm.Cond.instanceMethod ({ cls := "ThrownCoins", name := "note", desc := "(II)I" } : Jvm.MethodName)) ∈ TB := tb_4 25 (by decide +kernel) rfl
theorem wt_746 : (Jvm.Cond.selects "ThrownCoins" ({ cls := "ThrownCoins", name := "note", desc := "(II)I" } : Jvm.MethodName) ({ cls := "ThrownCoins", name := "note", desc := "(II)I" } : Jvm.MethodName)) ∈ TB := tb_4 26 (by decide +kernel) rfl
theorem wt_747 : (Jvm.Cond.code ({ cls := "ThrownCoins", name := "note", desc := "(II)I" } : Jvm.MethodName) prog_1_method_21_code (3 : Nat) (Option.some Jvm.ClassFile.FieldType.int)) ∈ TB := tb_4 27 (by decide +kernel) rfl
theorem wt_748 : (Jvm.Cond.methodLink "ThrownCoins" (186 : Nat) ({ cls := "ThrownCoins$Notes", name := "add", desc := "(II)Z" } : Jvm.MethodName)) ∈ TB := tb_4 28 (by decide +kernel) rfl
theorem wt_749 : (Jvm.Cond.instanceMethod ({ cls := "ThrownCoins$Notes", name := "add", desc := "(II)Z" } : Jvm.MethodName)) ∈ TB := tb_4 29 (by decide +kernel) rfl
theorem wt_750 : (Jvm.Cond.selects "ThrownCoins$Notes" ({ cls := "ThrownCoins$Notes", name := "add", desc := "(II)Z" } : Jvm.MethodName) ({ cls := "ThrownCoins$Notes", name := "add", desc := "(II)Z" } : Jvm.MethodName)) ∈ TB := tb_4 30 (by decide +kernel) rfl
theorem wt_751 : (Jvm.Cond.code ({ cls := "ThrownCoins$Notes", name := "add", desc := "(II)Z" } : Jvm.MethodName) prog_8_method_2_code (3 : Nat) (Option.some Jvm.ClassFile.FieldType.boolean)) ∈ TB := tb_4 31 (by decide +kernel) rfl
theorem wt_752 : (Jvm.Cond.methodLink "ThrownCoinsLaw" (100 : Nat) ({ cls := "ThrownCoins", name := "forget", desc := "()I" } : Jvm.MethodName)) ∈ TB := tb_4 32 (by decide +kernel) rfl
theorem wt_753 : (Jvm.Cond.instanceMethod ({ cls := "ThrownCoins", name := "forget", desc := "()I" } : Jvm.MethodName)) ∈ TB := tb_4 33 (by decide +kernel) rfl
theorem wt_754 : (Jvm.Cond.selects "ThrownCoins" ({ cls := "ThrownCoins", name := "forget", desc := "()I" } : Jvm.MethodName) ({ cls := "ThrownCoins", name := "forget", desc := "()I" } : Jvm.MethodName)) ∈ TB := tb_4 34 (by decide +kernel) rfl
theorem wt_755 : (Jvm.Cond.code ({ cls := "ThrownCoins", name := "forget", desc := "()I" } : Jvm.MethodName) prog_1_method_22_code (2 : Nat) (Option.some Jvm.ClassFile.FieldType.int)) ∈ TB := tb_4 35 (by decide +kernel) rfl
theorem wt_756 : (Jvm.Cond.methodLink "ThrownCoinsLaw" (104 : Nat) ({ cls := "ThrownCoins", name := "lay", desc := "(I)I" } : Jvm.MethodName)) ∈ TB := tb_4 36 (by decide +kernel) rfl
theorem wt_757 : (Jvm.Cond.instanceMethod ({ cls := "ThrownCoins", name := "lay", desc := "(I)I" } : Jvm.MethodName)) ∈ TB := tb_4 37 (by decide +kernel) rfl
theorem wt_758 : (Jvm.Cond.selects "ThrownCoins" ({ cls := "ThrownCoins", name := "lay", desc := "(I)I" } : Jvm.MethodName) ({ cls := "ThrownCoins", name := "lay", desc := "(I)I" } : Jvm.MethodName)) ∈ TB := tb_4 38 (by decide +kernel) rfl
theorem wt_759 : (Jvm.Cond.code ({ cls := "ThrownCoins", name := "lay", desc := "(I)I" } : Jvm.MethodName) prog_1_method_23_code (4 : Nat) (Option.some Jvm.ClassFile.FieldType.int)) ∈ TB := tb_4 39 (by decide +kernel) rfl
theorem wt_760 : (Jvm.Cond.methodLink "ThrownCoins" (193 : Nat) ({ cls := "ThrownCoins$Notes", name := "searchLayings", desc := "()V" } : Jvm.MethodName)) ∈ TB := tb_4 40 (by decide +kernel) rfl
theorem wt_761 : (Jvm.Cond.instanceMethod ({ cls := "ThrownCoins$Notes", name := "searchLayings", desc := "()V" } : Jvm.MethodName)) ∈ TB := tb_4 41 (by decide +kernel) rfl
theorem wt_762 : (Jvm.Cond.selects "ThrownCoins$Notes" ({ cls := "ThrownCoins$Notes", name := "searchLayings", desc := "()V" } : Jvm.MethodName) ({ cls := "ThrownCoins$Notes", name := "searchLayings", desc := "()V" } : Jvm.MethodName)) ∈ TB := tb_4 42 (by decide +kernel) rfl
theorem wt_763 : (Jvm.Cond.code ({ cls := "ThrownCoins$Notes", name := "searchLayings", desc := "()V" } : Jvm.MethodName) prog_8_method_5_code (3 : Nat) (Option.none : Option Jvm.ClassFile.FieldType)) ∈ TB := tb_4 43 (by decide +kernel) rfl
theorem wt_764 : (Jvm.Cond.methodLink "ThrownCoins$Notes" (50 : Nat) ({ cls := "java/lang/Math", name := "min", desc := "(II)I" } : Jvm.MethodName)) ∈ TB := tb_4 44 (by decide +kernel) rfl
theorem wt_765 : (Jvm.Cond.methodLink "ThrownCoins$Notes" (56 : Nat) ({ cls := "ThrownCoins$Notes", name := "fits", desc := "(I)Z" } : Jvm.MethodName)) ∈ TB := tb_4 45 (by decide +kernel) rfl
theorem wt_767 : (Jvm.Cond.instanceMethod ({ cls := "ThrownCoins$Notes", name := "fits", desc := "(I)Z" } : Jvm.MethodName)) ∈ TB := tb_4 47 (by decide +kernel) rfl
theorem wt_768 : (Jvm.Cond.code ({ cls := "ThrownCoins$Notes", name := "fits", desc := "(I)Z" } : Jvm.MethodName) prog_8_method_7_code (3 : Nat) (Option.some Jvm.ClassFile.FieldType.boolean)) ∈ TB := tb_4 48 (by decide +kernel) rfl
theorem wt_769 : (Jvm.Cond.methodLink "ThrownCoins$Notes" (64 : Nat) ({ cls := "ThrownCoins$Lot", name := "empty", desc := "()V" } : Jvm.MethodName)) ∈ TB := tb_4 49 (by decide +kernel) rfl
theorem wt_770 : (Jvm.Cond.methodLink "ThrownCoins$Notes" (67 : Nat) ({ cls := "ThrownCoins$Notes", name := "figureOf", desc := "(II)I" } : Jvm.MethodName)) ∈ TB := tb_4 50 (by decide +kernel) rfl
theorem wt_772 : (Jvm.Cond.instanceMethod ({ cls := "ThrownCoins$Notes", name := "figureOf", desc := "(II)I" } : Jvm.MethodName)) ∈ TB := tb_4 52 (by decide +kernel) rfl
theorem wt_773 : (Jvm.Cond.code ({ cls := "ThrownCoins$Notes", name := "figureOf", desc := "(II)I" } : Jvm.MethodName) prog_8_method_6_code (3 : Nat) (Option.some Jvm.ClassFile.FieldType.int)) ∈ TB := tb_4 53 (by decide +kernel) rfl
theorem wt_774 : (Jvm.Cond.methodLink "ThrownCoins$Notes" (70 : Nat) ({ cls := "ThrownCoins$Lot", name := "add", desc := "(III)V" } : Jvm.MethodName)) ∈ TB := tb_4 54 (by decide +kernel) rfl
theorem wt_775 : (Jvm.Cond.methodLink "ThrownCoins$Notes" (74 : Nat) ({ cls := "ThrownCoins$Told", name := "gainOf", desc := "(LThrownCoins$Lot;I)I" } : Jvm.MethodName)) ∈ TB := tb_4 55 (by decide +kernel) rfl
theorem wt_776 : (Jvm.Cond.methodLink "ThrownCoins$Notes" (78 : Nat) ({ cls := "ThrownCoins$Told", name := "worthOf", desc := "(I)I" } : Jvm.MethodName)) ∈ TB := tb_4 56 (by decide +kernel) rfl
theorem wt_777 : (Jvm.Cond.methodLink "ThrownCoins$Notes" (82 : Nat) ({ cls := "ThrownCoins$Told", name := "throwCoin", desc := "(LThrownCoins$Lot;II)V" } : Jvm.MethodName)) ∈ TB := tb_4 57 (by decide +kernel) rfl
theorem wt_778 : (Jvm.Cond.methodLink "ThrownCoins$Notes" (60 : Nat) ({ cls := "ThrownCoins$Notes", name := "tally", desc := "(I)V" } : Jvm.MethodName)) ∈ TB := tb_4 58 (by decide +kernel) rfl
theorem wt_780 : (Jvm.Cond.instanceMethod ({ cls := "ThrownCoins$Notes", name := "tally", desc := "(I)V" } : Jvm.MethodName)) ∈ TB := tb_4 60 (by decide +kernel) rfl
theorem wt_781 : (Jvm.Cond.code ({ cls := "ThrownCoins$Notes", name := "tally", desc := "(I)V" } : Jvm.MethodName) prog_8_method_8_code (4 : Nat) (Option.none : Option Jvm.ClassFile.FieldType)) ∈ TB := tb_4 61 (by decide +kernel) rfl
theorem wt_782 : (Jvm.Cond.methodLink "ThrownCoins$Notes" (86 : Nat) ({ cls := "java/lang/Math", name := "max", desc := "(II)I" } : Jvm.MethodName)) ∈ TB := tb_4 62 (by decide +kernel) rfl
theorem wt_783 : (Jvm.Cond.methodLink "ThrownCoins" (202 : Nat) ({ cls := "ThrownCoins$Notes", name := "leastOf", desc := "(I)I" } : Jvm.MethodName)) ∈ TB := tb_4 63 (by decide +kernel) rfl
theorem wt_784 : (Jvm.Cond.instanceMethod ({ cls := "ThrownCoins$Notes", name := "leastOf", desc := "(I)I" } : Jvm.MethodName)) ∈ TB := tb_4 64 (by decide +kernel) rfl
theorem wt_785 : (Jvm.Cond.selects "ThrownCoins$Notes" ({ cls := "ThrownCoins$Notes", name := "leastOf", desc := "(I)I" } : Jvm.MethodName) ({ cls := "ThrownCoins$Notes", name := "leastOf", desc := "(I)I" } : Jvm.MethodName)) ∈ TB := tb_4 65 (by decide +kernel) rfl
theorem wt_786 : (Jvm.Cond.code ({ cls := "ThrownCoins$Notes", name := "leastOf", desc := "(I)I" } : Jvm.MethodName) prog_8_method_3_code (2 : Nat) (Option.some Jvm.ClassFile.FieldType.int)) ∈ TB := tb_4 66 (by decide +kernel) rfl
theorem wt_787 : (Jvm.Cond.methodLink "ThrownCoins" (205 : Nat) ({ cls := "ThrownCoins$Notes", name := "mostOf", desc := "(I)I" } : Jvm.MethodName)) ∈ TB := tb_4 67 (by decide +kernel) rfl
theorem wt_788 : (Jvm.Cond.instanceMethod ({ cls := "ThrownCoins$Notes", name := "mostOf", desc := "(I)I" } : Jvm.MethodName)) ∈ TB := tb_4 68 (by decide +kernel) rfl
theorem wt_789 : (Jvm.Cond.selects "ThrownCoins$Notes" ({ cls := "ThrownCoins$Notes", name := "mostOf", desc := "(I)I" } : Jvm.MethodName) ({ cls := "ThrownCoins$Notes", name := "mostOf", desc := "(I)I" } : Jvm.MethodName)) ∈ TB := tb_4 69 (by decide +kernel) rfl
theorem wt_790 : (Jvm.Cond.code ({ cls := "ThrownCoins$Notes", name := "mostOf", desc := "(I)I" } : Jvm.MethodName) prog_8_method_4_code (2 : Nat) (Option.some Jvm.ClassFile.FieldType.int)) ∈ TB := tb_4 70 (by decide +kernel) rfl
theorem wt_791 : (Jvm.Cond.methodLink "ThrownCoinsLaw" (108 : Nat) ({ cls := "ThrownCoins", name := "keep", desc := "(I)I" } : Jvm.MethodName)) ∈ TB := tb_4 71 (by decide +kernel) rfl
theorem wt_792 : (Jvm.Cond.instanceMethod ({ cls := "ThrownCoins", name := "keep", desc := "(I)I" } : Jvm.MethodName)) ∈ TB := tb_4 72 (by decide +kernel) rfl
theorem wt_793 : (Jvm.Cond.selects "ThrownCoins" ({ cls := "ThrownCoins", name := "keep", desc := "(I)I" } : Jvm.MethodName) ({ cls := "ThrownCoins", name := "keep", desc := "(I)I" } : Jvm.MethodName)) ∈ TB := tb_4 73 (by decide +kernel) rfl
theorem wt_794 : (Jvm.Cond.code ({ cls := "ThrownCoins", name := "keep", desc := "(I)I" } : Jvm.MethodName) prog_1_method_24_code (2 : Nat) (Option.some Jvm.ClassFile.FieldType.int)) ∈ TB := tb_4 74 (by decide +kernel) rfl
theorem wt_795 : (Jvm.Cond.methodLink "ThrownCoinsLaw" (112 : Nat) ({ cls := "ThrownCoins", name := "back", desc := "(I)I" } : Jvm.MethodName)) ∈ TB := tb_4 75 (by decide +kernel) rfl
theorem wt_796 : (Jvm.Cond.instanceMethod ({ cls := "ThrownCoins", name := "back", desc := "(I)I" } : Jvm.MethodName)) ∈ TB := tb_4 76 (by decide +kernel) rfl
theorem wt_797 : (Jvm.Cond.selects "ThrownCoins" ({ cls := "ThrownCoins", name := "back", desc := "(I)I" } : Jvm.MethodName) ({ cls := "ThrownCoins", name := "back", desc := "(I)I" } : Jvm.MethodName)) ∈ TB := tb_4 77 (by decide +kernel) rfl
theorem wt_798 : (Jvm.Cond.code ({ cls := "ThrownCoins", name := "back", desc := "(I)I" } : Jvm.MethodName) prog_1_method_25_code (2 : Nat) (Option.some Jvm.ClassFile.FieldType.int)) ∈ TB := tb_4 78 (by decide +kernel) rfl
theorem wt_799 : (Jvm.Cond.methodLink "ThrownCoinsLaw" (116 : Nat) ({ cls := "ThrownCoins", name := "count", desc := "(I)I" } : Jvm.MethodName)) ∈ TB := tb_4 79 (by decide +kernel) rfl
theorem wt_800 : (Jvm.Cond.instanceMethod ({ cls := "ThrownCoins", name := "count", desc := "(I)I" } : Jvm.MethodName)) ∈ TB := tb_4 80 (by decide +kernel) rfl
theorem wt_801 : (Jvm.Cond.selects "ThrownCoins" ({ cls := "ThrownCoins", name := "count", desc := "(I)I" } : Jvm.MethodName) ({ cls := "ThrownCoins", name := "count", desc := "(I)I" } : Jvm.MethodName)) ∈ TB := tb_4 81 (by decide +kernel) rfl
theorem wt_802 : (Jvm.Cond.code ({ cls := "ThrownCoins", name := "count", desc := "(I)I" } : Jvm.MethodName) prog_1_method_26_code (2 : Nat) (Option.some Jvm.ClassFile.FieldType.int)) ∈ TB := tb_4 82 (by decide +kernel) rfl
theorem wt_803 : (Jvm.Cond.methodLink "ThrownCoins" (211 : Nat) ({ cls := "ThrownCoins", name := "wealthOfAll", desc := "()I" } : Jvm.MethodName)) ∈ TB := tb_4 83 (by decide +kernel) rfl
theorem wt_805 : (Jvm.Cond.instanceMethod ({ cls := "ThrownCoins", name := "wealthOfAll", desc := "()I" } : Jvm.MethodName)) ∈ TB := tb_4 85 (by decide +kernel) rfl
theorem wt_806 : (Jvm.Cond.code ({ cls := "ThrownCoins", name := "wealthOfAll", desc := "()I" } : Jvm.MethodName) prog_1_method_27_code (3 : Nat) (Option.some Jvm.ClassFile.FieldType.int)) ∈ TB := tb_4 86 (by decide +kernel) rfl
theorem wt_807 : (Jvm.Cond.classLink "ThrownCoinsLaw" (10 : Nat) "ThrownCoinsModel") ∈ TB := tb_4 87 (by decide +kernel) rfl
theorem wt_808 : (Jvm.Cond.instantiable "ThrownCoinsModel" (28 : Nat)) ∈ TB := tb_4 88 (by decide +kernel) rfl
theorem wt_809 : (Jvm.Cond.methodLink "ThrownCoinsLaw" (12 : Nat) ({ cls := "ThrownCoinsModel", name := "<init>", desc := "()V" } : Jvm.MethodName)) ∈ TB := tb_4 89 (by decide +kernel) rfl
theorem wt_810 : (Jvm.Cond.instanceMethod ({ cls := "ThrownCoinsModel", name := "<init>", desc := "()V" } : Jvm.MethodName)) ∈ TB := tb_4 90 (by decide +kernel) rfl
theorem wt_811 : (Jvm.Cond.code ({ cls := "ThrownCoinsModel", name := "<init>", desc := "()V" } : Jvm.MethodName) prog_14_method_1_code (1 : Nat) (Option.none : Option Jvm.ClassFile.FieldType)) ∈ TB := tb_4 91 (by decide +kernel) rfl
theorem wt_812 : (Jvm.Cond.methodLink "ThrownCoinsModel" (1 : Nat) ({ cls := "java/lang/Object", name := "<init>", desc := "()V" } : Jvm.MethodName)) ∈ TB := tb_4 92 (by decide +kernel) rfl
theorem wt_813 : (Jvm.Cond.fieldLink "ThrownCoinsModel" (7 : Nat) "ThrownCoinsModel" "row" "[I") ∈ TB := tb_4 93 (by decide +kernel) rfl
theorem wt_814 : (Jvm.Cond.fieldLink "ThrownCoinsModel" (13 : Nat) "ThrownCoinsModel" "isKept" "[Z") ∈ TB := tb_4 94 (by decide +kernel) rfl
theorem wt_815 : (Jvm.Cond.fieldLink "ThrownCoinsModel" (17 : Nat) "ThrownCoinsModel" "text" "[I") ∈ TB := tb_4 95 (by decide +kernel) rfl
theorem wt_816 : (Jvm.Cond.fieldLink "ThrownCoinsModel" (66 : Nat) "ThrownCoinsModel" "length" "I") ∈ TB := tb_4 96 (by decide +kernel) rfl
theorem wt_817 : (Jvm.Cond.fieldLink "ThrownCoinsModel" (20 : Nat) "ThrownCoinsModel" "read" "[I") ∈ TB := tb_4 97 (by decide +kernel) rfl
theorem wt_818 : (Jvm.Cond.fieldLink "ThrownCoinsModel" (118 : Nat) "ThrownCoinsModel" "readMany" "I") ∈ TB := tb_4 98 (by decide +kernel) rfl
theorem wt_819 : (Jvm.Cond.fieldLink "ThrownCoinsModel" (23 : Nat) "ThrownCoinsModel" "kinds" "I") ∈ TB := tb_4 99 (by decide +kernel) rfl
theorem wt_820 : (Jvm.Cond.fieldLink "ThrownCoinsModel" (27 : Nat) "ThrownCoinsModel" "worths" "[I") ∈ TB := tb_4 100 (by decide +kernel) rfl
theorem wt_821 : (Jvm.Cond.fieldLink "ThrownCoinsModel" (30 : Nat) "ThrownCoinsModel" "told" "[I") ∈ TB := tb_4 101 (by decide +kernel) rfl
theorem wt_822 : (Jvm.Cond.fieldLink "ThrownCoinsModel" (33 : Nat) "ThrownCoinsModel" "habits" "[I") ∈ TB := tb_4 102 (by decide +kernel) rfl
theorem wt_823 : (Jvm.Cond.fieldLink "ThrownCoinsModel" (36 : Nat) "ThrownCoinsModel" "bounds" "[I") ∈ TB := tb_4 103 (by decide +kernel) rfl
theorem wt_824 : (Jvm.Cond.fieldLink "ThrownCoinsModel" (160 : Nat) "ThrownCoinsModel" "law" "I") ∈ TB := tb_4 104 (by decide +kernel) rfl
theorem wt_825 : (Jvm.Cond.fieldLink "ThrownCoinsModel" (39 : Nat) "ThrownCoinsModel" "visits" "[I") ∈ TB := tb_4 105 (by decide +kernel) rfl
theorem wt_826 : (Jvm.Cond.fieldLink "ThrownCoinsModel" (147 : Nat) "ThrownCoinsModel" "visitMany" "I") ∈ TB := tb_4 106 (by decide +kernel) rfl
theorem wt_827 : (Jvm.Cond.fieldLink "ThrownCoinsModel" (71 : Nat) "ThrownCoinsModel" "at" "I") ∈ TB := tb_4 107 (by decide +kernel) rfl
theorem wt_828 : (Jvm.Cond.fieldLink "ThrownCoinsModel" (74 : Nat) "ThrownCoinsModel" "place" "I") ∈ TB := tb_4 108 (by decide +kernel) rfl
theorem wt_829 : (Jvm.Cond.fieldLink "ThrownCoinsModel" (81 : Nat) "ThrownCoinsModel" "end" "I") ∈ TB := tb_4 109 (by decide +kernel) rfl
theorem wt_830 : (Jvm.Cond.fieldLink "ThrownCoinsModel" (134 : Nat) "ThrownCoinsModel" "readKinds" "I") ∈ TB := tb_4 110 (by decide +kernel) rfl
theorem wt_831 : (Jvm.Cond.fieldLink "ThrownCoinsModel" (128 : Nat) "ThrownCoinsModel" "readVisits" "I") ∈ TB := tb_4 111 (by decide +kernel) rfl
theorem wt_832 : (Jvm.Cond.fieldLink "ThrownCoinsModel" (42 : Nat) "ThrownCoinsModel" "takes" "[I") ∈ TB := tb_4 112 (by decide +kernel) rfl
theorem wt_833 : (Jvm.Cond.fieldLink "ThrownCoinsModel" (228 : Nat) "ThrownCoinsModel" "most" "I") ∈ TB := tb_4 113 (by decide +kernel) rfl
theorem wt_834 : (Jvm.Cond.fieldLink "ThrownCoinsModel" (231 : Nat) "ThrownCoinsModel" "bestRow" "I") ∈ TB := tb_4 114 (by decide +kernel) rfl
theorem wt_835 : (Jvm.Cond.fieldLink "ThrownCoinsModel" (45 : Nat) "ThrownCoinsModel" "tries" "[I") ∈ TB := tb_4 115 (by decide +kernel) rfl
theorem wt_836 : (Jvm.Cond.fieldLink "ThrownCoinsModel" (48 : Nat) "ThrownCoinsModel" "ends" "[I") ∈ TB := tb_4 116 (by decide +kernel) rfl
theorem wt_837 : (Jvm.Cond.fieldLink "ThrownCoinsModel" (51 : Nat) "ThrownCoinsModel" "path" "[I") ∈ TB := tb_4 117 (by decide +kernel) rfl
theorem wt_838 : (Jvm.Cond.fieldLink "ThrownCoinsModel" (54 : Nat) "ThrownCoinsModel" "noteKinds" "[I") ∈ TB := tb_4 118 (by decide +kernel) rfl
theorem wt_839 : (Jvm.Cond.fieldLink "ThrownCoinsModel" (57 : Nat) "ThrownCoinsModel" "noteWorths" "[I") ∈ TB := tb_4 119 (by decide +kernel) rfl
theorem wt_840 : (Jvm.Cond.fieldLink "ThrownCoinsModel" (172 : Nat) "ThrownCoinsModel" "noteMany" "I") ∈ TB := tb_4 120 (by decide +kernel) rfl
theorem wt_841 : (Jvm.Cond.laysFinal "ThrownCoinsModel" "ThrownCoinsModel" "row" "[I") ∈ TB := tb_4 121 (by decide +kernel) rfl
theorem wt_843 : (Jvm.Cond.laysFinal "ThrownCoinsModel" "ThrownCoinsModel" "isKept" "[Z") ∈ TB := tb_4 123 (by decide +kernel) rfl
theorem wt_845 : (Jvm.Cond.laysFinal "ThrownCoinsModel" "ThrownCoinsModel" "text" "[I") ∈ TB := tb_4 125 (by decide +kernel) rfl
theorem wt_847 : (Jvm.Cond.lays "ThrownCoinsModel" "ThrownCoinsModel" "length" "I") ∈ TB := tb_4 127 (by decide +kernel) rfl
theorem wt_849 : (Jvm.Cond.laysFinal "ThrownCoinsModel" "ThrownCoinsModel" "read" "[I") ∈ TB := tb_4 129 (by decide +kernel) rfl
theorem wt_851 : (Jvm.Cond.lays "ThrownCoinsModel" "ThrownCoinsModel" "readMany" "I") ∈ TB := tb_4 131 (by decide +kernel) rfl
theorem wt_853 : (Jvm.Cond.lays "ThrownCoinsModel" "ThrownCoinsModel" "kinds" "I") ∈ TB := tb_4 133 (by decide +kernel) rfl
theorem wt_855 : (Jvm.Cond.laysFinal "ThrownCoinsModel" "ThrownCoinsModel" "worths" "[I") ∈ TB := tb_4 135 (by decide +kernel) rfl
theorem wt_857 : (Jvm.Cond.laysFinal "ThrownCoinsModel" "ThrownCoinsModel" "told" "[I") ∈ TB := tb_4 137 (by decide +kernel) rfl
theorem wt_859 : (Jvm.Cond.laysFinal "ThrownCoinsModel" "ThrownCoinsModel" "habits" "[I") ∈ TB := tb_4 139 (by decide +kernel) rfl
theorem wt_861 : (Jvm.Cond.laysFinal "ThrownCoinsModel" "ThrownCoinsModel" "bounds" "[I") ∈ TB := tb_4 141 (by decide +kernel) rfl
theorem wt_863 : (Jvm.Cond.lays "ThrownCoinsModel" "ThrownCoinsModel" "law" "I") ∈ TB := tb_4 143 (by decide +kernel) rfl
theorem wt_865 : (Jvm.Cond.laysFinal "ThrownCoinsModel" "ThrownCoinsModel" "visits" "[I") ∈ TB := tb_4 145 (by decide +kernel) rfl
theorem wt_867 : (Jvm.Cond.lays "ThrownCoinsModel" "ThrownCoinsModel" "visitMany" "I") ∈ TB := tb_4 147 (by decide +kernel) rfl
theorem wt_869 : (Jvm.Cond.lays "ThrownCoinsModel" "ThrownCoinsModel" "at" "I") ∈ TB := tb_4 149 (by decide +kernel) rfl
theorem wt_871 : (Jvm.Cond.lays "ThrownCoinsModel" "ThrownCoinsModel" "place" "I") ∈ TB := tb_4 151 (by decide +kernel) rfl
theorem wt_873 : (Jvm.Cond.lays "ThrownCoinsModel" "ThrownCoinsModel" "end" "I") ∈ TB := tb_4 153 (by decide +kernel) rfl
theorem wt_875 : (Jvm.Cond.lays "ThrownCoinsModel" "ThrownCoinsModel" "readKinds" "I") ∈ TB := tb_4 155 (by decide +kernel) rfl
theorem wt_877 : (Jvm.Cond.lays "ThrownCoinsModel" "ThrownCoinsModel" "readVisits" "I") ∈ TB := tb_4 157 (by decide +kernel) rfl
theorem wt_879 : (Jvm.Cond.laysFinal "ThrownCoinsModel" "ThrownCoinsModel" "takes" "[I") ∈ TB := tb_4 159 (by decide +kernel) rfl
theorem wt_881 : (Jvm.Cond.lays "ThrownCoinsModel" "ThrownCoinsModel" "most" "I") ∈ TB := tb_4 161 (by decide +kernel) rfl
theorem wt_883 : (Jvm.Cond.lays "ThrownCoinsModel" "ThrownCoinsModel" "bestRow" "I") ∈ TB := tb_4 163 (by decide +kernel) rfl
theorem wt_885 : (Jvm.Cond.laysFinal "ThrownCoinsModel" "ThrownCoinsModel" "tries" "[I") ∈ TB := tb_4 165 (by decide +kernel) rfl
theorem wt_887 : (Jvm.Cond.laysFinal "ThrownCoinsModel" "ThrownCoinsModel" "ends" "[I") ∈ TB := tb_4 167 (by decide +kernel) rfl
theorem wt_889 : (Jvm.Cond.laysFinal "ThrownCoinsModel" "ThrownCoinsModel" "path" "[I") ∈ TB := tb_4 169 (by decide +kernel) rfl
theorem wt_891 : (Jvm.Cond.laysFinal "ThrownCoinsModel" "ThrownCoinsModel" "noteKinds" "[I") ∈ TB := tb_4 171 (by decide +kernel) rfl
theorem wt_893 : (Jvm.Cond.laysFinal "ThrownCoinsModel" "ThrownCoinsModel" "noteWorths" "[I") ∈ TB := tb_4 173 (by decide +kernel) rfl
theorem wt_895 : (Jvm.Cond.lays "ThrownCoinsModel" "ThrownCoinsModel" "noteMany" "I") ∈ TB := tb_4 175 (by decide +kernel) rfl
theorem wt_898 : (Jvm.Cond.arrayClass Jvm.ClassFile.FieldType.boolean) ∈ TB := tb_4 178 (by decide +kernel) rfl
theorem wt_899 : (Jvm.Cond.methodLink "ThrownCoinsLaw" (19 : Nat) ({ cls := "ThrownCoinsModel", name := "write", desc := "(JI)I" } : Jvm.MethodName)) ∈ TB := tb_4 179 (by decide +kernel) rfl
theorem wt_900 : (Jvm.Cond.instanceMethod ({ cls := "ThrownCoinsModel", name := "write", desc := "(JI)I" } : Jvm.MethodName)) ∈ TB := tb_4 180 (by decide +kernel) rfl
theorem wt_901 : (Jvm.Cond.selects "ThrownCoinsModel" ({ cls := "ThrownCoinsModel", name := "write", desc := "(JI)I" } : Jvm.MethodName) ({ cls := "ThrownCoinsModel", name := "write", desc := "(JI)I" } : Jvm.MethodName)) ∈ TB := tb_4 181 (by decide +kernel) rfl
theorem wt_902 : (Jvm.Cond.code ({ cls := "ThrownCoinsModel", name := "write", desc := "(JI)I" } : Jvm.MethodName) prog_14_method_5_code (5 : Nat) (Option.some Jvm.ClassFile.FieldType.int)) ∈ TB := tb_4 182 (by decide +kernel) rfl
theorem wt_903 : (Jvm.Cond.constantLong "ThrownCoinsModel" (60 : Nat) (8 : Int64)) ∈ TB := tb_4 183 (by decide +kernel) rfl
theorem wt_904 : (Jvm.Cond.methodLink "ThrownCoinsModel" (62 : Nat) ({ cls := "ThrownCoinsModel", name := "in", desc := "(JJJ)Z" } : Jvm.MethodName)) ∈ TB := tb_4 184 (by decide +kernel) rfl
theorem wt_905 : (Jvm.Cond.static ({ cls := "ThrownCoinsModel", name := "in", desc := "(JJJ)Z" } : Jvm.MethodName)) ∈ TB := tb_4 185 (by decide +kernel) rfl
theorem wt_906 : (Jvm.Cond.code ({ cls := "ThrownCoinsModel", name := "in", desc := "(JJJ)Z" } : Jvm.MethodName) prog_14_method_2_code (6 : Nat) (Option.some Jvm.ClassFile.FieldType.boolean)) ∈ TB := tb_4 186 (by decide +kernel) rfl
theorem wt_907 : (Jvm.Cond.constantLong "ThrownCoinsModel" (69 : Nat) (255 : Int64)) ∈ TB := tb_4 187 (by decide +kernel) rfl
theorem wt_908 : (Jvm.Cond.methodLink "ThrownCoinsLaw" (24 : Nat) ({ cls := "ThrownCoinsModel", name := "erase", desc := "()I" } : Jvm.MethodName)) ∈ TB := tb_4 188 (by decide +kernel) rfl
theorem wt_909 : (Jvm.Cond.instanceMethod ({ cls := "ThrownCoinsModel", name := "erase", desc := "()I" } : Jvm.MethodName)) ∈ TB := tb_4 189 (by decide +kernel) rfl
theorem wt_910 : (Jvm.Cond.selects "ThrownCoinsModel" ({ cls := "ThrownCoinsModel", name := "erase", desc := "()I" } : Jvm.MethodName) ({ cls := "ThrownCoinsModel", name := "erase", desc := "()I" } : Jvm.MethodName)) ∈ TB := tb_4 190 (by decide +kernel) rfl
theorem wt_911 : (Jvm.Cond.code ({ cls := "ThrownCoinsModel", name := "erase", desc := "()I" } : Jvm.MethodName) prog_14_method_6_code (2 : Nat) (Option.some Jvm.ClassFile.FieldType.int)) ∈ TB := tb_4 191 (by decide +kernel) rfl
theorem wt_912 : (Jvm.Cond.methodLink "ThrownCoinsLaw" (28 : Nat) ({ cls := "ThrownCoinsModel", name := "fault", desc := "()I" } : Jvm.MethodName)) ∈ TB := tb_4 192 (by decide +kernel) rfl
theorem wt_913 : (Jvm.Cond.instanceMethod ({ cls := "ThrownCoinsModel", name := "fault", desc := "()I" } : Jvm.MethodName)) ∈ TB := tb_4 193 (by decide +kernel) rfl
theorem wt_914 : (Jvm.Cond.selects "ThrownCoinsModel" ({ cls := "ThrownCoinsModel", name := "fault", desc := "()I" } : Jvm.MethodName) ({ cls := "ThrownCoinsModel", name := "fault", desc := "()I" } : Jvm.MethodName)) ∈ TB := tb_4 194 (by decide +kernel) rfl
theorem wt_915 : (Jvm.Cond.code ({ cls := "ThrownCoinsModel", name := "fault", desc := "()I" } : Jvm.MethodName) prog_14_method_18_code (2 : Nat) (Option.some Jvm.ClassFile.FieldType.int)) ∈ TB := tb_4 195 (by decide +kernel) rfl
theorem wt_916 : (Jvm.Cond.methodLink "ThrownCoinsModel" (121 : Nat) ({ cls := "ThrownCoinsModel", name := "token", desc := "()V" } : Jvm.MethodName)) ∈ TB := tb_4 196 (by decide +kernel) rfl
theorem wt_918 : (Jvm.Cond.instanceMethod ({ cls := "ThrownCoinsModel", name := "token", desc := "()V" } : Jvm.MethodName)) ∈ TB := tb_4 198 (by decide +kernel) rfl
theorem wt_919 : (Jvm.Cond.code ({ cls := "ThrownCoinsModel", name := "token", desc := "()V" } : Jvm.MethodName) prog_14_method_8_code (1 : Nat) (Option.none : Option Jvm.ClassFile.FieldType)) ∈ TB := tb_4 199 (by decide +kernel) rfl
theorem wt_920 : (Jvm.Cond.methodLink "ThrownCoinsModel" (77 : Nat) ({ cls := "ThrownCoinsModel", name := "sort", desc := "(I)I" } : Jvm.MethodName)) ∈ TB := tb_4 200 (by decide +kernel) rfl
theorem wt_921 : (Jvm.Cond.static ({ cls := "ThrownCoinsModel", name := "sort", desc := "(I)I" } : Jvm.MethodName)) ∈ TB := tb_4 201 (by decide +kernel) rfl
theorem wt_922 : (Jvm.Cond.code ({ cls := "ThrownCoinsModel", name := "sort", desc := "(I)I" } : Jvm.MethodName) prog_14_method_7_code (1 : Nat) (Option.some Jvm.ClassFile.FieldType.int)) ∈ TB := tb_4 202 (by decide +kernel) rfl
theorem wt_923 : (Jvm.Cond.methodLink "ThrownCoinsModel" (150 : Nat) ({ cls := "ThrownCoinsModel", name := "readsLine", desc := "()Z" } : Jvm.MethodName)) ∈ TB := tb_4 203 (by decide +kernel) rfl
theorem wt_925 : (Jvm.Cond.instanceMethod ({ cls := "ThrownCoinsModel", name := "readsLine", desc := "()Z" } : Jvm.MethodName)) ∈ TB := tb_4 205 (by decide +kernel) rfl
theorem wt_926 : (Jvm.Cond.code ({ cls := "ThrownCoinsModel", name := "readsLine", desc := "()Z" } : Jvm.MethodName) prog_14_method_17_code (3 : Nat) (Option.some Jvm.ClassFile.FieldType.boolean)) ∈ TB := tb_4 206 (by decide +kernel) rfl
theorem wt_927 : (Jvm.Cond.methodLink "ThrownCoinsModel" (140 : Nat) ({ cls := "ThrownCoinsModel", name := "wordOf", desc := "()I" } : Jvm.MethodName)) ∈ TB := tb_4 207 (by decide +kernel) rfl
theorem wt_929 : (Jvm.Cond.instanceMethod ({ cls := "ThrownCoinsModel", name := "wordOf", desc := "()I" } : Jvm.MethodName)) ∈ TB := tb_4 209 (by decide +kernel) rfl
theorem wt_930 : (Jvm.Cond.code ({ cls := "ThrownCoinsModel", name := "wordOf", desc := "()I" } : Jvm.MethodName) prog_14_method_11_code (2 : Nat) (Option.some Jvm.ClassFile.FieldType.int)) ∈ TB := tb_4 210 (by decide +kernel) rfl
theorem wt_931 : (Jvm.Cond.methodLink "ThrownCoinsModel" (98 : Nat) ({ cls := "ThrownCoinsModel", name := "habitWord", desc := "()I" } : Jvm.MethodName)) ∈ TB := tb_4 211 (by decide +kernel) rfl
theorem wt_933 : (Jvm.Cond.instanceMethod ({ cls := "ThrownCoinsModel", name := "habitWord", desc := "()I" } : Jvm.MethodName)) ∈ TB := tb_4 213 (by decide +kernel) rfl
theorem wt_934 : (Jvm.Cond.code ({ cls := "ThrownCoinsModel", name := "habitWord", desc := "()I" } : Jvm.MethodName) prog_14_method_10_code (1 : Nat) (Option.some Jvm.ClassFile.FieldType.int)) ∈ TB := tb_4 214 (by decide +kernel) rfl
theorem wt_935 : (Jvm.Cond.constantLong "ThrownCoinsModel" (86 : Nat) (19060910 : Int64)) ∈ TB := tb_4 215 (by decide +kernel) rfl
theorem wt_936 : (Jvm.Cond.methodLink "ThrownCoinsModel" (88 : Nat) ({ cls := "ThrownCoinsModel", name := "isWord", desc := "(JI)Z" } : Jvm.MethodName)) ∈ TB := tb_4 216 (by decide +kernel) rfl
theorem wt_938 : (Jvm.Cond.instanceMethod ({ cls := "ThrownCoinsModel", name := "isWord", desc := "(JI)Z" } : Jvm.MethodName)) ∈ TB := tb_4 218 (by decide +kernel) rfl
theorem wt_939 : (Jvm.Cond.code ({ cls := "ThrownCoinsModel", name := "isWord", desc := "(JI)Z" } : Jvm.MethodName) prog_14_method_9_code (6 : Nat) (Option.some Jvm.ClassFile.FieldType.boolean)) ∈ TB := tb_4 219 (by decide +kernel) rfl
theorem wt_940 : (Jvm.Cond.constantLong "ThrownCoinsModel" (84 : Nat) (31 : Int64)) ∈ TB := tb_4 220 (by decide +kernel) rfl
theorem wt_941 : (Jvm.Cond.constantLong "ThrownCoinsModel" (92 : Nat) (843224647 : Int64)) ∈ TB := tb_4 221 (by decide +kernel) rfl
theorem wt_942 : (Jvm.Cond.constantLong "ThrownCoinsModel" (94 : Nat) (7996056631 : Int64)) ∈ TB := tb_4 222 (by decide +kernel) rfl
theorem wt_943 : (Jvm.Cond.constantLong "ThrownCoinsModel" (96 : Nat) (16815363 : Int64)) ∈ TB := tb_4 223 (by decide +kernel) rfl
theorem wt_944 : (Jvm.Cond.constantLong "ThrownCoinsModel" (102 : Nat) (20391395 : Int64)) ∈ TB := tb_4 224 (by decide +kernel) rfl
theorem wt_945 : (Jvm.Cond.constantLong "ThrownCoinsModel" (104 : Nat) (628012 : Int64)) ∈ TB := tb_4 225 (by decide +kernel) rfl
theorem wt_946 : (Jvm.Cond.constantLong "ThrownCoinsModel" (106 : Nat) (5884592 : Int64)) ∈ TB := tb_4 226 (by decide +kernel) rfl
theorem wt_947 : (Jvm.Cond.constantLong "ThrownCoinsModel" (108 : Nat) (177635 : Int64)) ∈ TB := tb_4 227 (by decide +kernel) rfl
theorem wt_948 : (Jvm.Cond.constantLong "ThrownCoinsModel" (110 : Nat) (23596 : Int64)) ∈ TB := tb_4 228 (by decide +kernel) rfl
theorem wt_949 : (Jvm.Cond.constantLong "ThrownCoinsModel" (112 : Nat) (5717377 : Int64)) ∈ TB := tb_4 229 (by decide +kernel) rfl
theorem wt_950 : (Jvm.Cond.methodLink "ThrownCoinsModel" (143 : Nat) ({ cls := "ThrownCoinsModel", name := "readsRest", desc := "(I)Z" } : Jvm.MethodName)) ∈ TB := tb_4 230 (by decide +kernel) rfl
theorem wt_952 : (Jvm.Cond.instanceMethod ({ cls := "ThrownCoinsModel", name := "readsRest", desc := "(I)Z" } : Jvm.MethodName)) ∈ TB := tb_4 232 (by decide +kernel) rfl
theorem wt_953 : (Jvm.Cond.code ({ cls := "ThrownCoinsModel", name := "readsRest", desc := "(I)Z" } : Jvm.MethodName) prog_14_method_16_code (2 : Nat) (Option.some Jvm.ClassFile.FieldType.boolean)) ∈ TB := tb_4 233 (by decide +kernel) rfl
theorem wt_954 : (Jvm.Cond.methodLink "ThrownCoinsModel" (131 : Nat) ({ cls := "ThrownCoinsModel", name := "readsCoins", desc := "()Z" } : Jvm.MethodName)) ∈ TB := tb_4 234 (by decide +kernel) rfl
theorem wt_956 : (Jvm.Cond.instanceMethod ({ cls := "ThrownCoinsModel", name := "readsCoins", desc := "()Z" } : Jvm.MethodName)) ∈ TB := tb_4 236 (by decide +kernel) rfl
theorem wt_957 : (Jvm.Cond.code ({ cls := "ThrownCoinsModel", name := "readsCoins", desc := "()Z" } : Jvm.MethodName) prog_14_method_14_code (3 : Nat) (Option.some Jvm.ClassFile.FieldType.boolean)) ∈ TB := tb_4 237 (by decide +kernel) rfl
theorem wt_958 : (Jvm.Cond.methodLink "ThrownCoinsModel" (114 : Nat) ({ cls := "ThrownCoinsModel", name := "isNumber", desc := "()Z" } : Jvm.MethodName)) ∈ TB := tb_4 238 (by decide +kernel) rfl
theorem wt_960 : (Jvm.Cond.instanceMethod ({ cls := "ThrownCoinsModel", name := "isNumber", desc := "()Z" } : Jvm.MethodName)) ∈ TB := tb_5 0 (by decide +kernel) rfl
theorem wt_961 : (Jvm.Cond.code ({ cls := "ThrownCoinsModel", name := "isNumber", desc := "()Z" } : Jvm.MethodName) prog_14_method_12_code (1 : Nat) (Option.some Jvm.ClassFile.FieldType.boolean)) ∈ TB := tb_5 1 (by decide +kernel) rfl
theorem wt_962 : (Jvm.Cond.methodLink "ThrownCoinsModel" (124 : Nat) ({ cls := "ThrownCoinsModel", name := "reads", desc := "(II)Z" } : Jvm.MethodName)) ∈ TB := tb_5 2 (by decide +kernel) rfl
theorem wt_964 : (Jvm.Cond.instanceMethod ({ cls := "ThrownCoinsModel", name := "reads", desc := "(II)Z" } : Jvm.MethodName)) ∈ TB := tb_5 4 (by decide +kernel) rfl
theorem wt_965 : (Jvm.Cond.code ({ cls := "ThrownCoinsModel", name := "reads", desc := "(II)Z" } : Jvm.MethodName) prog_14_method_13_code (5 : Nat) (Option.some Jvm.ClassFile.FieldType.boolean)) ∈ TB := tb_5 5 (by decide +kernel) rfl
theorem wt_966 : (Jvm.Cond.methodLink "ThrownCoinsModel" (137 : Nat) ({ cls := "ThrownCoinsModel", name := "readsCome", desc := "()Z" } : Jvm.MethodName)) ∈ TB := tb_5 6 (by decide +kernel) rfl
theorem wt_968 : (Jvm.Cond.instanceMethod ({ cls := "ThrownCoinsModel", name := "readsCome", desc := "()Z" } : Jvm.MethodName)) ∈ TB := tb_5 8 (by decide +kernel) rfl
theorem wt_969 : (Jvm.Cond.code ({ cls := "ThrownCoinsModel", name := "readsCome", desc := "()Z" } : Jvm.MethodName) prog_14_method_15_code (2 : Nat) (Option.some Jvm.ClassFile.FieldType.boolean)) ∈ TB := tb_5 9 (by decide +kernel) rfl
theorem wt_970 : (Jvm.Cond.methodLink "ThrownCoinsLaw" (32 : Nat) ({ cls := "ThrownCoinsModel", name := "sunday", desc := "()I" } : Jvm.MethodName)) ∈ TB := tb_5 10 (by decide +kernel) rfl
theorem wt_971 : (Jvm.Cond.instanceMethod ({ cls := "ThrownCoinsModel", name := "sunday", desc := "()I" } : Jvm.MethodName)) ∈ TB := tb_5 11 (by decide +kernel) rfl
theorem wt_972 : (Jvm.Cond.selects "ThrownCoinsModel" ({ cls := "ThrownCoinsModel", name := "sunday", desc := "()I" } : Jvm.MethodName) ({ cls := "ThrownCoinsModel", name := "sunday", desc := "()I" } : Jvm.MethodName)) ∈ TB := tb_5 12 (by decide +kernel) rfl
theorem wt_973 : (Jvm.Cond.code ({ cls := "ThrownCoinsModel", name := "sunday", desc := "()I" } : Jvm.MethodName) prog_14_method_22_code (2 : Nat) (Option.some Jvm.ClassFile.FieldType.int)) ∈ TB := tb_5 13 (by decide +kernel) rfl
theorem wt_974 : (Jvm.Cond.methodLink "ThrownCoinsModel" (163 : Nat) ({ cls := "ThrownCoinsModel", name := "fault", desc := "()I" } : Jvm.MethodName)) ∈ TB := tb_5 14 (by decide +kernel) rfl
theorem wt_975 : (Jvm.Cond.methodLink "ThrownCoinsModel" (166 : Nat) ({ cls := "ThrownCoinsModel", name := "tell", desc := "(I)V" } : Jvm.MethodName)) ∈ TB := tb_5 15 (by decide +kernel) rfl
theorem wt_977 : (Jvm.Cond.instanceMethod ({ cls := "ThrownCoinsModel", name := "tell", desc := "(I)V" } : Jvm.MethodName)) ∈ TB := tb_5 17 (by decide +kernel) rfl
theorem wt_978 : (Jvm.Cond.code ({ cls := "ThrownCoinsModel", name := "tell", desc := "(I)V" } : Jvm.MethodName) prog_14_method_21_code (3 : Nat) (Option.none : Option Jvm.ClassFile.FieldType)) ∈ TB := tb_5 18 (by decide +kernel) rfl
theorem wt_979 : (Jvm.Cond.methodLink "ThrownCoinsModel" (153 : Nat) ({ cls := "ThrownCoinsModel", name := "tellCoins", desc := "(I)V" } : Jvm.MethodName)) ∈ TB := tb_5 19 (by decide +kernel) rfl
theorem wt_981 : (Jvm.Cond.instanceMethod ({ cls := "ThrownCoinsModel", name := "tellCoins", desc := "(I)V" } : Jvm.MethodName)) ∈ TB := tb_5 21 (by decide +kernel) rfl
theorem wt_982 : (Jvm.Cond.code ({ cls := "ThrownCoinsModel", name := "tellCoins", desc := "(I)V" } : Jvm.MethodName) prog_14_method_19_code (3 : Nat) (Option.none : Option Jvm.ClassFile.FieldType)) ∈ TB := tb_5 22 (by decide +kernel) rfl
theorem wt_983 : (Jvm.Cond.methodLink "ThrownCoinsModel" (157 : Nat) ({ cls := "ThrownCoinsModel", name := "tellCome", desc := "(I)V" } : Jvm.MethodName)) ∈ TB := tb_5 23 (by decide +kernel) rfl
theorem wt_985 : (Jvm.Cond.instanceMethod ({ cls := "ThrownCoinsModel", name := "tellCome", desc := "(I)V" } : Jvm.MethodName)) ∈ TB := tb_5 25 (by decide +kernel) rfl
theorem wt_986 : (Jvm.Cond.code ({ cls := "ThrownCoinsModel", name := "tellCome", desc := "(I)V" } : Jvm.MethodName) prog_14_method_20_code (3 : Nat) (Option.none : Option Jvm.ClassFile.FieldType)) ∈ TB := tb_5 26 (by decide +kernel) rfl
theorem wt_987 : (Jvm.Cond.methodLink "ThrownCoinsModel" (169 : Nat) ({ cls := "ThrownCoinsModel", name := "begin", desc := "()V" } : Jvm.MethodName)) ∈ TB := tb_5 27 (by decide +kernel) rfl
theorem wt_989 : (Jvm.Cond.instanceMethod ({ cls := "ThrownCoinsModel", name := "begin", desc := "()V" } : Jvm.MethodName)) ∈ TB := tb_5 29 (by decide +kernel) rfl
theorem wt_990 : (Jvm.Cond.code ({ cls := "ThrownCoinsModel", name := "begin", desc := "()V" } : Jvm.MethodName) prog_14_method_4_code (2 : Nat) (Option.none : Option Jvm.ClassFile.FieldType)) ∈ TB := tb_5 30 (by decide +kernel) rfl
theorem wt_991 : (Jvm.Cond.methodLink "ThrownCoinsLaw" (37 : Nat) ({ cls := "ThrownCoinsModel", name := "coin", desc := "(II)I" } : Jvm.MethodName)) ∈ TB := tb_5 31 (by decide +kernel) rfl
theorem wt_992 : (Jvm.Cond.instanceMethod ({ cls := "ThrownCoinsModel", name := "coin", desc := "(II)I" } : Jvm.MethodName)) ∈ TB := tb_5 32 (by decide +kernel) rfl
theorem wt_993 : (Jvm.Cond.selects "ThrownCoinsModel" ({ cls := "ThrownCoinsModel", name := "coin", desc := "(II)I" } : Jvm.MethodName) ({ cls := "ThrownCoinsModel", name := "coin", desc := "(II)I" } : Jvm.MethodName)) ∈ TB := tb_5 33 (by decide +kernel) rfl
theorem wt_994 : (Jvm.Cond.code ({ cls := "ThrownCoinsModel", name := "coin", desc := "(II)I" } : Jvm.MethodName) prog_14_method_25_code (3 : Nat) (Option.some Jvm.ClassFile.FieldType.int)) ∈ TB := tb_5 34 (by decide +kernel) rfl
theorem wt_995 : (Jvm.Cond.methodLink "ThrownCoinsModel" (177 : Nat) ({ cls := "ThrownCoinsModel", name := "isKind", desc := "(I)Z" } : Jvm.MethodName)) ∈ TB := tb_5 35 (by decide +kernel) rfl
theorem wt_997 : (Jvm.Cond.instanceMethod ({ cls := "ThrownCoinsModel", name := "isKind", desc := "(I)Z" } : Jvm.MethodName)) ∈ TB := tb_5 37 (by decide +kernel) rfl
theorem wt_998 : (Jvm.Cond.code ({ cls := "ThrownCoinsModel", name := "isKind", desc := "(I)Z" } : Jvm.MethodName) prog_14_method_23_code (2 : Nat) (Option.some Jvm.ClassFile.FieldType.boolean)) ∈ TB := tb_5 38 (by decide +kernel) rfl
theorem wt_999 : (Jvm.Cond.methodLink "ThrownCoinsLaw" (41 : Nat) ({ cls := "ThrownCoinsModel", name := "purse", desc := "(II)I" } : Jvm.MethodName)) ∈ TB := tb_5 39 (by decide +kernel) rfl
theorem wt_1000 : (Jvm.Cond.instanceMethod ({ cls := "ThrownCoinsModel", name := "purse", desc := "(II)I" } : Jvm.MethodName)) ∈ TB := tb_5 40 (by decide +kernel) rfl
theorem wt_1001 : (Jvm.Cond.selects "ThrownCoinsModel" ({ cls := "ThrownCoinsModel", name := "purse", desc := "(II)I" } : Jvm.MethodName) ({ cls := "ThrownCoinsModel", name := "purse", desc := "(II)I" } : Jvm.MethodName)) ∈ TB := tb_5 41 (by decide +kernel) rfl
theorem wt_1002 : (Jvm.Cond.code ({ cls := "ThrownCoinsModel", name := "purse", desc := "(II)I" } : Jvm.MethodName) prog_14_method_26_code (3 : Nat) (Option.some Jvm.ClassFile.FieldType.int)) ∈ TB := tb_5 42 (by decide +kernel) rfl
theorem wt_1003 : (Jvm.Cond.methodLink "ThrownCoinsModel" (180 : Nat) ({ cls := "ThrownCoinsModel", name := "isPerson", desc := "(I)Z" } : Jvm.MethodName)) ∈ TB := tb_5 43 (by decide +kernel) rfl
theorem wt_1004 : (Jvm.Cond.static ({ cls := "ThrownCoinsModel", name := "isPerson", desc := "(I)Z" } : Jvm.MethodName)) ∈ TB := tb_5 44 (by decide +kernel) rfl
theorem wt_1005 : (Jvm.Cond.code ({ cls := "ThrownCoinsModel", name := "isPerson", desc := "(I)Z" } : Jvm.MethodName) prog_14_method_24_code (1 : Nat) (Option.some Jvm.ClassFile.FieldType.boolean)) ∈ TB := tb_5 45 (by decide +kernel) rfl
theorem wt_1006 : (Jvm.Cond.constantLong "ThrownCoinsModel" (175 : Nat) (3 : Int64)) ∈ TB := tb_5 46 (by decide +kernel) rfl
theorem wt_1007 : (Jvm.Cond.methodLink "ThrownCoinsLaw" (45 : Nat) ({ cls := "ThrownCoinsModel", name := "person", desc := "(II)I" } : Jvm.MethodName)) ∈ TB := tb_5 47 (by decide +kernel) rfl
theorem wt_1008 : (Jvm.Cond.instanceMethod ({ cls := "ThrownCoinsModel", name := "person", desc := "(II)I" } : Jvm.MethodName)) ∈ TB := tb_5 48 (by decide +kernel) rfl
theorem wt_1009 : (Jvm.Cond.selects "ThrownCoinsModel" ({ cls := "ThrownCoinsModel", name := "person", desc := "(II)I" } : Jvm.MethodName) ({ cls := "ThrownCoinsModel", name := "person", desc := "(II)I" } : Jvm.MethodName)) ∈ TB := tb_5 49 (by decide +kernel) rfl
theorem wt_1010 : (Jvm.Cond.code ({ cls := "ThrownCoinsModel", name := "person", desc := "(II)I" } : Jvm.MethodName) prog_14_method_30_code (3 : Nat) (Option.some Jvm.ClassFile.FieldType.int)) ∈ TB := tb_5 50 (by decide +kernel) rfl
theorem wt_1011 : (Jvm.Cond.methodLink "ThrownCoinsModel" (186 : Nat) ({ cls := "ThrownCoinsModel", name := "worthOf", desc := "(II)I" } : Jvm.MethodName)) ∈ TB := tb_5 51 (by decide +kernel) rfl
theorem wt_1013 : (Jvm.Cond.instanceMethod ({ cls := "ThrownCoinsModel", name := "worthOf", desc := "(II)I" } : Jvm.MethodName)) ∈ TB := tb_5 53 (by decide +kernel) rfl
theorem wt_1014 : (Jvm.Cond.code ({ cls := "ThrownCoinsModel", name := "worthOf", desc := "(II)I" } : Jvm.MethodName) prog_14_method_27_code (5 : Nat) (Option.some Jvm.ClassFile.FieldType.int)) ∈ TB := tb_5 54 (by decide +kernel) rfl
theorem wt_1015 : (Jvm.Cond.methodLink "ThrownCoinsModel" (190 : Nat) ({ cls := "ThrownCoinsModel", name := "leftOf", desc := "(I)I" } : Jvm.MethodName)) ∈ TB := tb_5 55 (by decide +kernel) rfl
theorem wt_1017 : (Jvm.Cond.instanceMethod ({ cls := "ThrownCoinsModel", name := "leftOf", desc := "(I)I" } : Jvm.MethodName)) ∈ TB := tb_5 57 (by decide +kernel) rfl
theorem wt_1018 : (Jvm.Cond.code ({ cls := "ThrownCoinsModel", name := "leftOf", desc := "(I)I" } : Jvm.MethodName) prog_14_method_29_code (4 : Nat) (Option.some Jvm.ClassFile.FieldType.int)) ∈ TB := tb_5 58 (by decide +kernel) rfl
theorem wt_1019 : (Jvm.Cond.methodLink "ThrownCoinsModel" (183 : Nat) ({ cls := "ThrownCoinsModel", name := "has", desc := "(II)Z" } : Jvm.MethodName)) ∈ TB := tb_5 59 (by decide +kernel) rfl
theorem wt_1020 : (Jvm.Cond.static ({ cls := "ThrownCoinsModel", name := "has", desc := "(II)Z" } : Jvm.MethodName)) ∈ TB := tb_5 60 (by decide +kernel) rfl
theorem wt_1021 : (Jvm.Cond.code ({ cls := "ThrownCoinsModel", name := "has", desc := "(II)Z" } : Jvm.MethodName) prog_14_method_3_code (2 : Nat) (Option.some Jvm.ClassFile.FieldType.boolean)) ∈ TB := tb_5 61 (by decide +kernel) rfl
theorem wt_1022 : (Jvm.Cond.methodLink "ThrownCoinsLaw" (49 : Nat) ({ cls := "ThrownCoinsModel", name := "as", desc := "(II)I" } : Jvm.MethodName)) ∈ TB := tb_5 62 (by decide +kernel) rfl
theorem wt_1023 : (Jvm.Cond.instanceMethod ({ cls := "ThrownCoinsModel", name := "as", desc := "(II)I" } : Jvm.MethodName)) ∈ TB := tb_5 63 (by decide +kernel) rfl
theorem wt_1024 : (Jvm.Cond.selects "ThrownCoinsModel" ({ cls := "ThrownCoinsModel", name := "as", desc := "(II)I" } : Jvm.MethodName) ({ cls := "ThrownCoinsModel", name := "as", desc := "(II)I" } : Jvm.MethodName)) ∈ TB := tb_5 64 (by decide +kernel) rfl
theorem wt_1025 : (Jvm.Cond.code ({ cls := "ThrownCoinsModel", name := "as", desc := "(II)I" } : Jvm.MethodName) prog_14_method_37_code (5 : Nat) (Option.some Jvm.ClassFile.FieldType.int)) ∈ TB := tb_5 65 (by decide +kernel) rfl
theorem wt_1026 : (Jvm.Cond.constantLong "ThrownCoinsModel" (210 : Nat) (5 : Int64)) ∈ TB := tb_5 66 (by decide +kernel) rfl
theorem wt_1027 : (Jvm.Cond.methodLink "ThrownCoinsModel" (203 : Nat) ({ cls := "ThrownCoinsModel", name := "byHabit", desc := "(II)I" } : Jvm.MethodName)) ∈ TB := tb_5 67 (by decide +kernel) rfl
theorem wt_1029 : (Jvm.Cond.instanceMethod ({ cls := "ThrownCoinsModel", name := "byHabit", desc := "(II)I" } : Jvm.MethodName)) ∈ TB := tb_5 69 (by decide +kernel) rfl
theorem wt_1030 : (Jvm.Cond.code ({ cls := "ThrownCoinsModel", name := "byHabit", desc := "(II)I" } : Jvm.MethodName) prog_14_method_35_code (8 : Nat) (Option.some Jvm.ClassFile.FieldType.int)) ∈ TB := tb_5 70 (by decide +kernel) rfl
theorem wt_1031 : (Jvm.Cond.methodLink "ThrownCoinsModel" (196 : Nat) ({ cls := "ThrownCoinsModel", name := "isHad", desc := "(III)Z" } : Jvm.MethodName)) ∈ TB := tb_5 71 (by decide +kernel) rfl
theorem wt_1033 : (Jvm.Cond.instanceMethod ({ cls := "ThrownCoinsModel", name := "isHad", desc := "(III)Z" } : Jvm.MethodName)) ∈ TB := tb_5 73 (by decide +kernel) rfl
theorem wt_1034 : (Jvm.Cond.code ({ cls := "ThrownCoinsModel", name := "isHad", desc := "(III)Z" } : Jvm.MethodName) prog_14_method_33_code (4 : Nat) (Option.some Jvm.ClassFile.FieldType.boolean)) ∈ TB := tb_5 74 (by decide +kernel) rfl
theorem wt_1035 : (Jvm.Cond.methodLink "ThrownCoinsModel" (200 : Nat) ({ cls := "ThrownCoinsModel", name := "gainOf", desc := "(II)I" } : Jvm.MethodName)) ∈ TB := tb_5 75 (by decide +kernel) rfl
theorem wt_1037 : (Jvm.Cond.instanceMethod ({ cls := "ThrownCoinsModel", name := "gainOf", desc := "(II)I" } : Jvm.MethodName)) ∈ TB := tb_5 77 (by decide +kernel) rfl
theorem wt_1038 : (Jvm.Cond.code ({ cls := "ThrownCoinsModel", name := "gainOf", desc := "(II)I" } : Jvm.MethodName) prog_14_method_32_code (3 : Nat) (Option.some Jvm.ClassFile.FieldType.int)) ∈ TB := tb_5 78 (by decide +kernel) rfl
theorem wt_1039 : (Jvm.Cond.methodLink "ThrownCoinsModel" (193 : Nat) ({ cls := "ThrownCoinsModel", name := "layTakes", desc := "(II)I" } : Jvm.MethodName)) ∈ TB := tb_5 79 (by decide +kernel) rfl
theorem wt_1041 : (Jvm.Cond.instanceMethod ({ cls := "ThrownCoinsModel", name := "layTakes", desc := "(II)I" } : Jvm.MethodName)) ∈ TB := tb_5 81 (by decide +kernel) rfl
theorem wt_1042 : (Jvm.Cond.code ({ cls := "ThrownCoinsModel", name := "layTakes", desc := "(II)I" } : Jvm.MethodName) prog_14_method_31_code (7 : Nat) (Option.some Jvm.ClassFile.FieldType.int)) ∈ TB := tb_5 82 (by decide +kernel) rfl
theorem wt_1043 : (Jvm.Cond.methodLink "ThrownCoinsLaw" (54 : Nat) ({ cls := "ThrownCoinsModel", name := "come", desc := "(I)I" } : Jvm.MethodName)) ∈ TB := tb_5 83 (by decide +kernel) rfl
theorem wt_1044 : (Jvm.Cond.instanceMethod ({ cls := "ThrownCoinsModel", name := "come", desc := "(I)I" } : Jvm.MethodName)) ∈ TB := tb_5 84 (by decide +kernel) rfl
theorem wt_1045 : (Jvm.Cond.selects "ThrownCoinsModel" ({ cls := "ThrownCoinsModel", name := "come", desc := "(I)I" } : Jvm.MethodName) ({ cls := "ThrownCoinsModel", name := "come", desc := "(I)I" } : Jvm.MethodName)) ∈ TB := tb_5 85 (by decide +kernel) rfl
theorem wt_1046 : (Jvm.Cond.code ({ cls := "ThrownCoinsModel", name := "come", desc := "(I)I" } : Jvm.MethodName) prog_14_method_38_code (2 : Nat) (Option.some Jvm.ClassFile.FieldType.int)) ∈ TB := tb_5 86 (by decide +kernel) rfl
theorem wt_1047 : (Jvm.Cond.methodLink "ThrownCoinsLaw" (58 : Nat) ({ cls := "ThrownCoinsModel", name := "gain", desc := "(II)I" } : Jvm.MethodName)) ∈ TB := tb_5 87 (by decide +kernel) rfl
theorem wt_1048 : (Jvm.Cond.instanceMethod ({ cls := "ThrownCoinsModel", name := "gain", desc := "(II)I" } : Jvm.MethodName)) ∈ TB := tb_5 88 (by decide +kernel) rfl
theorem wt_1049 : (Jvm.Cond.selects "ThrownCoinsModel" ({ cls := "ThrownCoinsModel", name := "gain", desc := "(II)I" } : Jvm.MethodName) ({ cls := "ThrownCoinsModel", name := "gain", desc := "(II)I" } : Jvm.MethodName)) ∈ TB := tb_5 89 (by decide +kernel) rfl
theorem wt_1050 : (Jvm.Cond.code ({ cls := "ThrownCoinsModel", name := "gain", desc := "(II)I" } : Jvm.MethodName) prog_14_method_39_code (3 : Nat) (Option.some Jvm.ClassFile.FieldType.int)) ∈ TB := tb_5 90 (by decide +kernel) rfl
theorem wt_1051 : (Jvm.Cond.constant "ThrownCoinsModel" (212 : Nat) (100000 : Int32)) ∈ TB := tb_5 91 (by decide +kernel) rfl
theorem wt_1052 : (Jvm.Cond.methodLink "ThrownCoinsLaw" (62 : Nat) ({ cls := "ThrownCoinsModel", name := "visit", desc := "(I)I" } : Jvm.MethodName)) ∈ TB := tb_5 92 (by decide +kernel) rfl
theorem wt_1053 : (Jvm.Cond.instanceMethod ({ cls := "ThrownCoinsModel", name := "visit", desc := "(I)I" } : Jvm.MethodName)) ∈ TB := tb_5 93 (by decide +kernel) rfl
theorem wt_1054 : (Jvm.Cond.selects "ThrownCoinsModel" ({ cls := "ThrownCoinsModel", name := "visit", desc := "(I)I" } : Jvm.MethodName) ({ cls := "ThrownCoinsModel", name := "visit", desc := "(I)I" } : Jvm.MethodName)) ∈ TB := tb_5 94 (by decide +kernel) rfl
theorem wt_1055 : (Jvm.Cond.code ({ cls := "ThrownCoinsModel", name := "visit", desc := "(I)I" } : Jvm.MethodName) prog_14_method_40_code (4 : Nat) (Option.some Jvm.ClassFile.FieldType.int)) ∈ TB := tb_5 95 (by decide +kernel) rfl
theorem wt_1056 : (Jvm.Cond.methodLink "ThrownCoinsModel" (213 : Nat) ({ cls := "ThrownCoinsModel", name := "visitsLeft", desc := "()I" } : Jvm.MethodName)) ∈ TB := tb_5 96 (by decide +kernel) rfl
theorem wt_1058 : (Jvm.Cond.instanceMethod ({ cls := "ThrownCoinsModel", name := "visitsLeft", desc := "()I" } : Jvm.MethodName)) ∈ TB := tb_5 98 (by decide +kernel) rfl
theorem wt_1059 : (Jvm.Cond.code ({ cls := "ThrownCoinsModel", name := "visitsLeft", desc := "()I" } : Jvm.MethodName) prog_14_method_28_code (1 : Nat) (Option.some Jvm.ClassFile.FieldType.int)) ∈ TB := tb_5 99 (by decide +kernel) rfl
theorem wt_1060 : (Jvm.Cond.methodLink "ThrownCoinsModel" (206 : Nat) ({ cls := "ThrownCoinsModel", name := "throwsOne", desc := "(III)V" } : Jvm.MethodName)) ∈ TB := tb_5 100 (by decide +kernel) rfl
theorem wt_1062 : (Jvm.Cond.instanceMethod ({ cls := "ThrownCoinsModel", name := "throwsOne", desc := "(III)V" } : Jvm.MethodName)) ∈ TB := tb_5 102 (by decide +kernel) rfl
theorem wt_1063 : (Jvm.Cond.code ({ cls := "ThrownCoinsModel", name := "throwsOne", desc := "(III)V" } : Jvm.MethodName) prog_14_method_34_code (5 : Nat) (Option.none : Option Jvm.ClassFile.FieldType)) ∈ TB := tb_5 103 (by decide +kernel) rfl
theorem wt_1064 : (Jvm.Cond.methodLink "ThrownCoinsLaw" (66 : Nat) ({ cls := "ThrownCoinsModel", name := "go", desc := "(I)I" } : Jvm.MethodName)) ∈ TB := tb_5 104 (by decide +kernel) rfl
theorem wt_1065 : (Jvm.Cond.instanceMethod ({ cls := "ThrownCoinsModel", name := "go", desc := "(I)I" } : Jvm.MethodName)) ∈ TB := tb_5 105 (by decide +kernel) rfl
theorem wt_1066 : (Jvm.Cond.selects "ThrownCoinsModel" ({ cls := "ThrownCoinsModel", name := "go", desc := "(I)I" } : Jvm.MethodName) ({ cls := "ThrownCoinsModel", name := "go", desc := "(I)I" } : Jvm.MethodName)) ∈ TB := tb_5 106 (by decide +kernel) rfl
theorem wt_1067 : (Jvm.Cond.code ({ cls := "ThrownCoinsModel", name := "go", desc := "(I)I" } : Jvm.MethodName) prog_14_method_41_code (3 : Nat) (Option.some Jvm.ClassFile.FieldType.int)) ∈ TB := tb_5 107 (by decide +kernel) rfl
theorem wt_1068 : (Jvm.Cond.constantLong "ThrownCoinsModel" (216 : Nat) (24 : Int64)) ∈ TB := tb_5 108 (by decide +kernel) rfl
theorem wt_1069 : (Jvm.Cond.methodLink "ThrownCoinsModel" (218 : Nat) ({ cls := "ThrownCoinsModel", name := "visitsBy", desc := "(II)Z" } : Jvm.MethodName)) ∈ TB := tb_5 109 (by decide +kernel) rfl
theorem wt_1071 : (Jvm.Cond.instanceMethod ({ cls := "ThrownCoinsModel", name := "visitsBy", desc := "(II)Z" } : Jvm.MethodName)) ∈ TB := tb_5 111 (by decide +kernel) rfl
theorem wt_1072 : (Jvm.Cond.code ({ cls := "ThrownCoinsModel", name := "visitsBy", desc := "(II)Z" } : Jvm.MethodName) prog_14_method_36_code (4 : Nat) (Option.some Jvm.ClassFile.FieldType.boolean)) ∈ TB := tb_5 112 (by decide +kernel) rfl
theorem wt_1073 : (Jvm.Cond.methodLink "ThrownCoinsLaw" (70 : Nat) ({ cls := "ThrownCoinsModel", name := "plan", desc := "(II)I" } : Jvm.MethodName)) ∈ TB := tb_5 113 (by decide +kernel) rfl
theorem wt_1074 : (Jvm.Cond.instanceMethod ({ cls := "ThrownCoinsModel", name := "plan", desc := "(II)I" } : Jvm.MethodName)) ∈ TB := tb_5 114 (by decide +kernel) rfl
theorem wt_1075 : (Jvm.Cond.selects "ThrownCoinsModel" ({ cls := "ThrownCoinsModel", name := "plan", desc := "(II)I" } : Jvm.MethodName) ({ cls := "ThrownCoinsModel", name := "plan", desc := "(II)I" } : Jvm.MethodName)) ∈ TB := tb_5 115 (by decide +kernel) rfl
theorem wt_1076 : (Jvm.Cond.code ({ cls := "ThrownCoinsModel", name := "plan", desc := "(II)I" } : Jvm.MethodName) prog_14_method_46_code (4 : Nat) (Option.some Jvm.ClassFile.FieldType.int)) ∈ TB := tb_5 116 (by decide +kernel) rfl
theorem wt_1077 : (Jvm.Cond.methodLink "ThrownCoinsModel" (238 : Nat) ({ cls := "ThrownCoinsModel", name := "layPlan", desc := "(II)V" } : Jvm.MethodName)) ∈ TB := tb_5 117 (by decide +kernel) rfl
theorem wt_1079 : (Jvm.Cond.instanceMethod ({ cls := "ThrownCoinsModel", name := "layPlan", desc := "(II)V" } : Jvm.MethodName)) ∈ TB := tb_5 119 (by decide +kernel) rfl
theorem wt_1080 : (Jvm.Cond.code ({ cls := "ThrownCoinsModel", name := "layPlan", desc := "(II)V" } : Jvm.MethodName) prog_14_method_45_code (5 : Nat) (Option.none : Option Jvm.ClassFile.FieldType)) ∈ TB := tb_5 120 (by decide +kernel) rfl
theorem wt_1081 : (Jvm.Cond.methodLink "ThrownCoinsModel" (225 : Nat) ({ cls := "ThrownCoinsModel", name := "powerOf", desc := "(I)I" } : Jvm.MethodName)) ∈ TB := tb_5 121 (by decide +kernel) rfl
theorem wt_1082 : (Jvm.Cond.static ({ cls := "ThrownCoinsModel", name := "powerOf", desc := "(I)I" } : Jvm.MethodName)) ∈ TB := tb_5 122 (by decide +kernel) rfl
theorem wt_1083 : (Jvm.Cond.code ({ cls := "ThrownCoinsModel", name := "powerOf", desc := "(I)I" } : Jvm.MethodName) prog_14_method_43_code (3 : Nat) (Option.some Jvm.ClassFile.FieldType.int)) ∈ TB := tb_5 123 (by decide +kernel) rfl
theorem wt_1084 : (Jvm.Cond.methodLink "ThrownCoinsModel" (234 : Nat) ({ cls := "ThrownCoinsModel", name := "goRow", desc := "(III)I" } : Jvm.MethodName)) ∈ TB := tb_5 124 (by decide +kernel) rfl
theorem wt_1086 : (Jvm.Cond.instanceMethod ({ cls := "ThrownCoinsModel", name := "goRow", desc := "(III)I" } : Jvm.MethodName)) ∈ TB := tb_5 126 (by decide +kernel) rfl
theorem wt_1087 : (Jvm.Cond.code ({ cls := "ThrownCoinsModel", name := "goRow", desc := "(III)I" } : Jvm.MethodName) prog_14_method_44_code (9 : Nat) (Option.some Jvm.ClassFile.FieldType.int)) ∈ TB := tb_5 127 (by decide +kernel) rfl
theorem wt_1088 : (Jvm.Cond.methodLink "ThrownCoinsModel" (221 : Nat) ({ cls := "ThrownCoinsModel", name := "copy", desc := "(II)V" } : Jvm.MethodName)) ∈ TB := tb_5 128 (by decide +kernel) rfl
theorem wt_1090 : (Jvm.Cond.instanceMethod ({ cls := "ThrownCoinsModel", name := "copy", desc := "(II)V" } : Jvm.MethodName)) ∈ TB := tb_5 130 (by decide +kernel) rfl
theorem wt_1091 : (Jvm.Cond.code ({ cls := "ThrownCoinsModel", name := "copy", desc := "(II)V" } : Jvm.MethodName) prog_14_method_42_code (4 : Nat) (Option.none : Option Jvm.ClassFile.FieldType)) ∈ TB := tb_5 131 (by decide +kernel) rfl
theorem wt_1092 : (Jvm.Cond.methodLink "ThrownCoinsLaw" (82 : Nat) ({ cls := "ThrownCoinsModel", name := "league", desc := "(II)I" } : Jvm.MethodName)) ∈ TB := tb_5 132 (by decide +kernel) rfl
theorem wt_1093 : (Jvm.Cond.instanceMethod ({ cls := "ThrownCoinsModel", name := "league", desc := "(II)I" } : Jvm.MethodName)) ∈ TB := tb_5 133 (by decide +kernel) rfl
theorem wt_1094 : (Jvm.Cond.selects "ThrownCoinsModel" ({ cls := "ThrownCoinsModel", name := "league", desc := "(II)I" } : Jvm.MethodName) ({ cls := "ThrownCoinsModel", name := "league", desc := "(II)I" } : Jvm.MethodName)) ∈ TB := tb_5 134 (by decide +kernel) rfl
theorem wt_1095 : (Jvm.Cond.code ({ cls := "ThrownCoinsModel", name := "league", desc := "(II)I" } : Jvm.MethodName) prog_14_method_47_code (5 : Nat) (Option.some Jvm.ClassFile.FieldType.int)) ∈ TB := tb_5 135 (by decide +kernel) rfl
theorem wt_1096 : (Jvm.Cond.methodLink "ThrownCoinsLaw" (74 : Nat) ({ cls := "ThrownCoinsModel", name := "game", desc := "(I)I" } : Jvm.MethodName)) ∈ TB := tb_5 136 (by decide +kernel) rfl
theorem wt_1097 : (Jvm.Cond.instanceMethod ({ cls := "ThrownCoinsModel", name := "game", desc := "(I)I" } : Jvm.MethodName)) ∈ TB := tb_5 137 (by decide +kernel) rfl
theorem wt_1098 : (Jvm.Cond.selects "ThrownCoinsModel" ({ cls := "ThrownCoinsModel", name := "game", desc := "(I)I" } : Jvm.MethodName) ({ cls := "ThrownCoinsModel", name := "game", desc := "(I)I" } : Jvm.MethodName)) ∈ TB := tb_5 138 (by decide +kernel) rfl
theorem wt_1099 : (Jvm.Cond.code ({ cls := "ThrownCoinsModel", name := "game", desc := "(I)I" } : Jvm.MethodName) prog_14_method_51_code (2 : Nat) (Option.some Jvm.ClassFile.FieldType.int)) ∈ TB := tb_5 139 (by decide +kernel) rfl
theorem wt_1100 : (Jvm.Cond.methodLink "ThrownCoinsModel" (247 : Nat) ({ cls := "ThrownCoinsModel", name := "layGame", desc := "()V" } : Jvm.MethodName)) ∈ TB := tb_5 140 (by decide +kernel) rfl
theorem wt_1102 : (Jvm.Cond.instanceMethod ({ cls := "ThrownCoinsModel", name := "layGame", desc := "()V" } : Jvm.MethodName)) ∈ TB := tb_5 142 (by decide +kernel) rfl
theorem wt_1103 : (Jvm.Cond.code ({ cls := "ThrownCoinsModel", name := "layGame", desc := "()V" } : Jvm.MethodName) prog_14_method_50_code (5 : Nat) (Option.none : Option Jvm.ClassFile.FieldType)) ∈ TB := tb_5 143 (by decide +kernel) rfl
theorem wt_1104 : (Jvm.Cond.methodLink "ThrownCoinsModel" (241 : Nat) ({ cls := "ThrownCoinsModel", name := "opens", desc := "(II)Z" } : Jvm.MethodName)) ∈ TB := tb_5 144 (by decide +kernel) rfl
theorem wt_1106 : (Jvm.Cond.instanceMethod ({ cls := "ThrownCoinsModel", name := "opens", desc := "(II)Z" } : Jvm.MethodName)) ∈ TB := tb_5 146 (by decide +kernel) rfl
theorem wt_1107 : (Jvm.Cond.code ({ cls := "ThrownCoinsModel", name := "opens", desc := "(II)Z" } : Jvm.MethodName) prog_14_method_49_code (5 : Nat) (Option.some Jvm.ClassFile.FieldType.boolean)) ∈ TB := tb_5 147 (by decide +kernel) rfl
theorem wt_1108 : (Jvm.Cond.methodLink "ThrownCoinsModel" (244 : Nat) ({ cls := "ThrownCoinsModel", name := "takeUp", desc := "(II)V" } : Jvm.MethodName)) ∈ TB := tb_5 148 (by decide +kernel) rfl
theorem wt_1110 : (Jvm.Cond.instanceMethod ({ cls := "ThrownCoinsModel", name := "takeUp", desc := "(II)V" } : Jvm.MethodName)) ∈ TB := tb_5 150 (by decide +kernel) rfl
theorem wt_1111 : (Jvm.Cond.code ({ cls := "ThrownCoinsModel", name := "takeUp", desc := "(II)V" } : Jvm.MethodName) prog_14_method_48_code (4 : Nat) (Option.none : Option Jvm.ClassFile.FieldType)) ∈ TB := tb_5 151 (by decide +kernel) rfl
theorem wt_1112 : (Jvm.Cond.methodLink "ThrownCoinsLaw" (78 : Nat) ({ cls := "ThrownCoinsModel", name := "choice", desc := "(I)I" } : Jvm.MethodName)) ∈ TB := tb_5 152 (by decide +kernel) rfl
theorem wt_1113 : (Jvm.Cond.instanceMethod ({ cls := "ThrownCoinsModel", name := "choice", desc := "(I)I" } : Jvm.MethodName)) ∈ TB := tb_5 153 (by decide +kernel) rfl
theorem wt_1114 : (Jvm.Cond.selects "ThrownCoinsModel" ({ cls := "ThrownCoinsModel", name := "choice", desc := "(I)I" } : Jvm.MethodName) ({ cls := "ThrownCoinsModel", name := "choice", desc := "(I)I" } : Jvm.MethodName)) ∈ TB := tb_5 154 (by decide +kernel) rfl
theorem wt_1115 : (Jvm.Cond.code ({ cls := "ThrownCoinsModel", name := "choice", desc := "(I)I" } : Jvm.MethodName) prog_14_method_52_code (2 : Nat) (Option.some Jvm.ClassFile.FieldType.int)) ∈ TB := tb_5 155 (by decide +kernel) rfl
theorem wt_1116 : (Jvm.Cond.methodLink "ThrownCoinsLaw" (87 : Nat) ({ cls := "ThrownCoinsModel", name := "mean", desc := "(III)J" } : Jvm.MethodName)) ∈ TB := tb_5 156 (by decide +kernel) rfl
theorem wt_1117 : (Jvm.Cond.instanceMethod ({ cls := "ThrownCoinsModel", name := "mean", desc := "(III)J" } : Jvm.MethodName)) ∈ TB := tb_5 157 (by decide +kernel) rfl
theorem wt_1118 : (Jvm.Cond.selects "ThrownCoinsModel" ({ cls := "ThrownCoinsModel", name := "mean", desc := "(III)J" } : Jvm.MethodName) ({ cls := "ThrownCoinsModel", name := "mean", desc := "(III)J" } : Jvm.MethodName)) ∈ TB := tb_5 158 (by decide +kernel) rfl
theorem wt_1119 : (Jvm.Cond.code ({ cls := "ThrownCoinsModel", name := "mean", desc := "(III)J" } : Jvm.MethodName) prog_14_method_55_code (13 : Nat) (Option.some Jvm.ClassFile.FieldType.long)) ∈ TB := tb_5 159 (by decide +kernel) rfl
theorem wt_1120 : (Jvm.Cond.constantLong "ThrownCoinsModel" (250 : Nat) (-2 : Int64)) ∈ TB := tb_5 160 (by decide +kernel) rfl
theorem wt_1121 : (Jvm.Cond.constantLong "ThrownCoinsModel" (252 : Nat) (10 : Int64)) ∈ TB := tb_5 161 (by decide +kernel) rfl
theorem wt_1122 : (Jvm.Cond.constantLong "ThrownCoinsModel" (254 : Nat) (-3 : Int64)) ∈ TB := tb_5 162 (by decide +kernel) rfl
theorem wt_1123 : (Jvm.Cond.constantLong "ThrownCoinsModel" (256 : Nat) (-4 : Int64)) ∈ TB := tb_5 163 (by decide +kernel) rfl
theorem wt_1124 : (Jvm.Cond.methodLink "ThrownCoinsModel" (258 : Nat) ({ cls := "ThrownCoinsModel", name := "worthBy", desc := "(II)I" } : Jvm.MethodName)) ∈ TB := tb_5 164 (by decide +kernel) rfl
theorem wt_1126 : (Jvm.Cond.instanceMethod ({ cls := "ThrownCoinsModel", name := "worthBy", desc := "(II)I" } : Jvm.MethodName)) ∈ TB := tb_5 166 (by decide +kernel) rfl
theorem wt_1127 : (Jvm.Cond.code ({ cls := "ThrownCoinsModel", name := "worthBy", desc := "(II)I" } : Jvm.MethodName) prog_14_method_54_code (6 : Nat) (Option.some Jvm.ClassFile.FieldType.int)) ∈ TB := tb_5 167 (by decide +kernel) rfl
theorem wt_1128 : (Jvm.Cond.methodLink "ThrownCoinsModel" (261 : Nat) ({ cls := "ThrownCoinsModel", name := "divisor", desc := "(JJ)J" } : Jvm.MethodName)) ∈ TB := tb_5 168 (by decide +kernel) rfl
theorem wt_1129 : (Jvm.Cond.static ({ cls := "ThrownCoinsModel", name := "divisor", desc := "(JJ)J" } : Jvm.MethodName)) ∈ TB := tb_5 169 (by decide +kernel) rfl
theorem wt_1130 : (Jvm.Cond.code ({ cls := "ThrownCoinsModel", name := "divisor", desc := "(JJ)J" } : Jvm.MethodName) prog_14_method_53_code (10 : Nat) (Option.some Jvm.ClassFile.FieldType.long)) ∈ TB := tb_5 170 (by decide +kernel) rfl
theorem wt_1131 : (Jvm.Cond.methodLink "ThrownCoinsLaw" (91 : Nat) ({ cls := "ThrownCoinsModel", name := "dry", desc := "()I" } : Jvm.MethodName)) ∈ TB := tb_5 171 (by decide +kernel) rfl
theorem wt_1132 : (Jvm.Cond.instanceMethod ({ cls := "ThrownCoinsModel", name := "dry", desc := "()I" } : Jvm.MethodName)) ∈ TB := tb_5 172 (by decide +kernel) rfl
theorem wt_1133 : (Jvm.Cond.selects "ThrownCoinsModel" ({ cls := "ThrownCoinsModel", name := "dry", desc := "()I" } : Jvm.MethodName) ({ cls := "ThrownCoinsModel", name := "dry", desc := "()I" } : Jvm.MethodName)) ∈ TB := tb_5 173 (by decide +kernel) rfl
theorem wt_1134 : (Jvm.Cond.code ({ cls := "ThrownCoinsModel", name := "dry", desc := "()I" } : Jvm.MethodName) prog_14_method_56_code (3 : Nat) (Option.some Jvm.ClassFile.FieldType.int)) ∈ TB := tb_5 174 (by decide +kernel) rfl
theorem wt_1135 : (Jvm.Cond.methodLink "ThrownCoinsLaw" (95 : Nat) ({ cls := "ThrownCoinsModel", name := "bait", desc := "(I)I" } : Jvm.MethodName)) ∈ TB := tb_5 175 (by decide +kernel) rfl
theorem wt_1136 : (Jvm.Cond.instanceMethod ({ cls := "ThrownCoinsModel", name := "bait", desc := "(I)I" } : Jvm.MethodName)) ∈ TB := tb_5 176 (by decide +kernel) rfl
theorem wt_1137 : (Jvm.Cond.selects "ThrownCoinsModel" ({ cls := "ThrownCoinsModel", name := "bait", desc := "(I)I" } : Jvm.MethodName) ({ cls := "ThrownCoinsModel", name := "bait", desc := "(I)I" } : Jvm.MethodName)) ∈ TB := tb_5 177 (by decide +kernel) rfl
theorem wt_1138 : (Jvm.Cond.code ({ cls := "ThrownCoinsModel", name := "bait", desc := "(I)I" } : Jvm.MethodName) prog_14_method_57_code (9 : Nat) (Option.some Jvm.ClassFile.FieldType.int)) ∈ TB := tb_5 178 (by decide +kernel) rfl
theorem wt_1139 : (Jvm.Cond.methodLink "ThrownCoinsLaw" (99 : Nat) ({ cls := "ThrownCoinsModel", name := "note", desc := "(II)I" } : Jvm.MethodName)) ∈ TB := tb_5 179 (by decide +kernel) rfl
theorem wt_1140 : (Jvm.Cond.instanceMethod ({ cls := "ThrownCoinsModel", name := "note", desc := "(II)I" } : Jvm.MethodName)) ∈ TB := tb_5 180 (by decide +kernel) rfl
theorem wt_1141 : (Jvm.Cond.selects "ThrownCoinsModel" ({ cls := "ThrownCoinsModel", name := "note", desc := "(II)I" } : Jvm.MethodName) ({ cls := "ThrownCoinsModel", name := "note", desc := "(II)I" } : Jvm.MethodName)) ∈ TB := tb_5 181 (by decide +kernel) rfl
theorem wt_1142 : (Jvm.Cond.code ({ cls := "ThrownCoinsModel", name := "note", desc := "(II)I" } : Jvm.MethodName) prog_14_method_58_code (3 : Nat) (Option.some Jvm.ClassFile.FieldType.int)) ∈ TB := tb_5 182 (by decide +kernel) rfl
theorem wt_1143 : (Jvm.Cond.constantLong "ThrownCoinsModel" (265 : Nat) (9999 : Int64)) ∈ TB := tb_5 183 (by decide +kernel) rfl
theorem wt_1144 : (Jvm.Cond.methodLink "ThrownCoinsLaw" (103 : Nat) ({ cls := "ThrownCoinsModel", name := "forget", desc := "()I" } : Jvm.MethodName)) ∈ TB := tb_5 184 (by decide +kernel) rfl
theorem wt_1145 : (Jvm.Cond.instanceMethod ({ cls := "ThrownCoinsModel", name := "forget", desc := "()I" } : Jvm.MethodName)) ∈ TB := tb_5 185 (by decide +kernel) rfl
theorem wt_1146 : (Jvm.Cond.selects "ThrownCoinsModel" ({ cls := "ThrownCoinsModel", name := "forget", desc := "()I" } : Jvm.MethodName) ({ cls := "ThrownCoinsModel", name := "forget", desc := "()I" } : Jvm.MethodName)) ∈ TB := tb_5 186 (by decide +kernel) rfl
theorem wt_1147 : (Jvm.Cond.code ({ cls := "ThrownCoinsModel", name := "forget", desc := "()I" } : Jvm.MethodName) prog_14_method_59_code (2 : Nat) (Option.some Jvm.ClassFile.FieldType.int)) ∈ TB := tb_5 187 (by decide +kernel) rfl
theorem wt_1148 : (Jvm.Cond.methodLink "ThrownCoinsLaw" (107 : Nat) ({ cls := "ThrownCoinsModel", name := "lay", desc := "(I)I" } : Jvm.MethodName)) ∈ TB := tb_5 188 (by decide +kernel) rfl
theorem wt_1149 : (Jvm.Cond.instanceMethod ({ cls := "ThrownCoinsModel", name := "lay", desc := "(I)I" } : Jvm.MethodName)) ∈ TB := tb_5 189 (by decide +kernel) rfl
theorem wt_1150 : (Jvm.Cond.selects "ThrownCoinsModel" ({ cls := "ThrownCoinsModel", name := "lay", desc := "(I)I" } : Jvm.MethodName) ({ cls := "ThrownCoinsModel", name := "lay", desc := "(I)I" } : Jvm.MethodName)) ∈ TB := tb_5 190 (by decide +kernel) rfl
theorem wt_1151 : (Jvm.Cond.code ({ cls := "ThrownCoinsModel", name := "lay", desc := "(I)I" } : Jvm.MethodName) prog_14_method_62_code (8 : Nat) (Option.some Jvm.ClassFile.FieldType.int)) ∈ TB := tb_5 191 (by decide +kernel) rfl
theorem wt_1152 : (Jvm.Cond.constantLong "ThrownCoinsModel" (270 : Nat) (20 : Int64)) ∈ TB := tb_5 192 (by decide +kernel) rfl
theorem wt_1153 : (Jvm.Cond.methodLink "ThrownCoinsModel" (272 : Nat) ({ cls := "ThrownCoinsModel", name := "isSo", desc := "(I)Z" } : Jvm.MethodName)) ∈ TB := tb_5 193 (by decide +kernel) rfl
theorem wt_1155 : (Jvm.Cond.instanceMethod ({ cls := "ThrownCoinsModel", name := "isSo", desc := "(I)Z" } : Jvm.MethodName)) ∈ TB := tb_5 195 (by decide +kernel) rfl
theorem wt_1156 : (Jvm.Cond.code ({ cls := "ThrownCoinsModel", name := "isSo", desc := "(I)Z" } : Jvm.MethodName) prog_14_method_61_code (6 : Nat) (Option.some Jvm.ClassFile.FieldType.boolean)) ∈ TB := tb_5 196 (by decide +kernel) rfl
theorem wt_1157 : (Jvm.Cond.methodLink "ThrownCoinsModel" (267 : Nat) ({ cls := "ThrownCoinsModel", name := "layOf", desc := "(II)I" } : Jvm.MethodName)) ∈ TB := tb_5 197 (by decide +kernel) rfl
theorem wt_1159 : (Jvm.Cond.instanceMethod ({ cls := "ThrownCoinsModel", name := "layOf", desc := "(II)I" } : Jvm.MethodName)) ∈ TB := tb_5 199 (by decide +kernel) rfl
theorem wt_1160 : (Jvm.Cond.code ({ cls := "ThrownCoinsModel", name := "layOf", desc := "(II)I" } : Jvm.MethodName) prog_14_method_60_code (3 : Nat) (Option.some Jvm.ClassFile.FieldType.int)) ∈ TB := tb_5 200 (by decide +kernel) rfl
theorem wt_1161 : (Jvm.Cond.methodLink "ThrownCoinsLaw" (111 : Nat) ({ cls := "ThrownCoinsModel", name := "keep", desc := "(I)I" } : Jvm.MethodName)) ∈ TB := tb_5 201 (by decide +kernel) rfl
theorem wt_1162 : (Jvm.Cond.instanceMethod ({ cls := "ThrownCoinsModel", name := "keep", desc := "(I)I" } : Jvm.MethodName)) ∈ TB := tb_5 202 (by decide +kernel) rfl
theorem wt_1163 : (Jvm.Cond.selects "ThrownCoinsModel" ({ cls := "ThrownCoinsModel", name := "keep", desc := "(I)I" } : Jvm.MethodName) ({ cls := "ThrownCoinsModel", name := "keep", desc := "(I)I" } : Jvm.MethodName)) ∈ TB := tb_5 203 (by decide +kernel) rfl
theorem wt_1164 : (Jvm.Cond.code ({ cls := "ThrownCoinsModel", name := "keep", desc := "(I)I" } : Jvm.MethodName) prog_14_method_63_code (2 : Nat) (Option.some Jvm.ClassFile.FieldType.int)) ∈ TB := tb_5 204 (by decide +kernel) rfl
theorem wt_1165 : (Jvm.Cond.methodLink "ThrownCoinsLaw" (115 : Nat) ({ cls := "ThrownCoinsModel", name := "back", desc := "(I)I" } : Jvm.MethodName)) ∈ TB := tb_5 205 (by decide +kernel) rfl
theorem wt_1166 : (Jvm.Cond.instanceMethod ({ cls := "ThrownCoinsModel", name := "back", desc := "(I)I" } : Jvm.MethodName)) ∈ TB := tb_5 206 (by decide +kernel) rfl
theorem wt_1167 : (Jvm.Cond.selects "ThrownCoinsModel" ({ cls := "ThrownCoinsModel", name := "back", desc := "(I)I" } : Jvm.MethodName) ({ cls := "ThrownCoinsModel", name := "back", desc := "(I)I" } : Jvm.MethodName)) ∈ TB := tb_5 207 (by decide +kernel) rfl
theorem wt_1168 : (Jvm.Cond.code ({ cls := "ThrownCoinsModel", name := "back", desc := "(I)I" } : Jvm.MethodName) prog_14_method_64_code (2 : Nat) (Option.some Jvm.ClassFile.FieldType.int)) ∈ TB := tb_5 208 (by decide +kernel) rfl
theorem wt_1169 : (Jvm.Cond.methodLink "ThrownCoinsLaw" (119 : Nat) ({ cls := "ThrownCoinsModel", name := "count", desc := "(I)I" } : Jvm.MethodName)) ∈ TB := tb_5 209 (by decide +kernel) rfl
theorem wt_1170 : (Jvm.Cond.instanceMethod ({ cls := "ThrownCoinsModel", name := "count", desc := "(I)I" } : Jvm.MethodName)) ∈ TB := tb_5 210 (by decide +kernel) rfl
theorem wt_1171 : (Jvm.Cond.selects "ThrownCoinsModel" ({ cls := "ThrownCoinsModel", name := "count", desc := "(I)I" } : Jvm.MethodName) ({ cls := "ThrownCoinsModel", name := "count", desc := "(I)I" } : Jvm.MethodName)) ∈ TB := tb_5 211 (by decide +kernel) rfl
theorem wt_1172 : (Jvm.Cond.code ({ cls := "ThrownCoinsModel", name := "count", desc := "(I)I" } : Jvm.MethodName) prog_14_method_66_code (2 : Nat) (Option.some Jvm.ClassFile.FieldType.int)) ∈ TB := tb_5 212 (by decide +kernel) rfl
theorem wt_1173 : (Jvm.Cond.methodLink "ThrownCoinsModel" (275 : Nat) ({ cls := "ThrownCoinsModel", name := "worthThere", desc := "()I" } : Jvm.MethodName)) ∈ TB := tb_5 213 (by decide +kernel) rfl
theorem wt_1175 : (Jvm.Cond.instanceMethod ({ cls := "ThrownCoinsModel", name := "worthThere", desc := "()I" } : Jvm.MethodName)) ∈ TB := tb_5 215 (by decide +kernel) rfl
theorem wt_1176 : (Jvm.Cond.code ({ cls := "ThrownCoinsModel", name := "worthThere", desc := "()I" } : Jvm.MethodName) prog_14_method_65_code (3 : Nat) (Option.some Jvm.ClassFile.FieldType.int)) ∈ TB := tb_5 216 (by decide +kernel) rfl
theorem wt_1177 : (Jvm.Cond.constantLong "ThrownCoinsLaw" (13 : Nat) (4294967295 : Int64)) ∈ TB := tb_5 217 (by decide +kernel) rfl
theorem wt_1182 : (Jvm.Cond.fieldLink "java/lang/String" (9 : Nat) "java/lang/String" "value" "[B") ∈ TB := tb_5 222 (by decide +kernel) rfl
theorem wt_1183 : (Jvm.Cond.fieldLink "java/lang/String" (15 : Nat) "java/lang/String" "coder" "B") ∈ TB := tb_5 223 (by decide +kernel) rfl
end
section
theorem dX0_init_0 : decode cX0_init 0 = .ok (.aload_n 0, 1) := by decide +kernel
theorem dX0_init_1 : decode cX0_init 1 = .ok (.invokespecial 3, 3) := by decide +kernel
theorem dX0_init_4 : decode cX0_init 4 = .ok (.return_, 1) := by decide +kernel
theorem dX0_habit_0 : decode cX0_habit 0 = .ok (.iconst 3, 1) := by decide +kernel
theorem dX0_habit_1 : decode cX0_habit 1 = .ok (.ireturn, 1) := by decide +kernel
theorem dX0_comparesAll_0 : decode cX0_comparesAll 0 = .ok (.iconst 0, 1) := by decide +kernel
theorem dX0_comparesAll_1 : decode cX0_comparesAll 1 = .ok (.ireturn, 1) := by decide +kernel
theorem dX1_init_0 : decode cX1_init 0 = .ok (.aload_n 0, 1) := by decide +kernel
theorem dX1_init_1 : decode cX1_init 1 = .ok (.invokespecial 3, 3) := by decide +kernel
theorem dX1_init_4 : decode cX1_init 4 = .ok (.return_, 1) := by decide +kernel
theorem dX1_waitsFor_0 : decode cX1_waitsFor 0 = .ok (.iconst (-1), 1) := by decide +kernel
theorem dX1_waitsFor_1 : decode cX1_waitsFor 1 = .ok (.ireturn, 1) := by decide +kernel
theorem dX3_init_0 : decode cX3_init 0 = .ok (.aload_n 0, 1) := by decide +kernel
theorem dX3_init_1 : decode cX3_init 1 = .ok (.invokespecial 3, 3) := by decide +kernel
theorem dX3_init_4 : decode cX3_init 4 = .ok (.return_, 1) := by decide +kernel
theorem dX3_habit_0 : decode cX3_habit 0 = .ok (.iconst 1, 1) := by decide +kernel
theorem dX3_habit_1 : decode cX3_habit 1 = .ok (.ireturn, 1) := by decide +kernel
theorem dX3_comparesAll_0 : decode cX3_comparesAll 0 = .ok (.iconst 1, 1) := by decide +kernel
theorem dX3_comparesAll_1 : decode cX3_comparesAll 1 = .ok (.ireturn, 1) := by decide +kernel
theorem dX4_init_0 : decode cX4_init 0 = .ok (.aload_n 0, 1) := by decide +kernel
theorem dX4_init_1 : decode cX4_init 1 = .ok (.invokespecial 3, 3) := by decide +kernel
theorem dX4_init_4 : decode cX4_init 4 = .ok (.aload_n 0, 1) := by decide +kernel
theorem dX4_init_5 : decode cX4_init 5 = .ok (.bipush 30, 2) := by decide +kernel
theorem dX4_init_7 : decode cX4_init 7 = .ok (.newarray .int, 2) := by decide +kernel
theorem dX4_init_9 : decode cX4_init 9 = .ok (.putfield 9, 3) := by decide +kernel
theorem dX4_init_12 : decode cX4_init 12 = .ok (.return_, 1) := by decide +kernel
theorem dX4_of_0 : decode cX4_of 0 = .ok (.iload_n 1, 1) := by decide +kernel
theorem dX4_of_1 : decode cX4_of 1 = .ok (.ifCond .lt 22, 3) := by decide +kernel
theorem dX4_of_4 : decode cX4_of 4 = .ok (.iload_n 1, 1) := by decide +kernel
theorem dX4_of_5 : decode cX4_of 5 = .ok (.iconst 5, 1) := by decide +kernel
theorem dX4_of_6 : decode cX4_of 6 = .ok (.if_icmp .ge 17, 3) := by decide +kernel
theorem dX4_of_9 : decode cX4_of 9 = .ok (.iload_n 2, 1) := by decide +kernel
theorem dX4_of_10 : decode cX4_of 10 = .ok (.ifCond .lt 13, 3) := by decide +kernel
theorem dX4_of_13 : decode cX4_of 13 = .ok (.iload_n 2, 1) := by decide +kernel
theorem dX4_of_14 : decode cX4_of 14 = .ok (.bipush 6, 2) := by decide +kernel
theorem dX4_of_16 : decode cX4_of 16 = .ok (.if_icmp .ge 7, 3) := by decide +kernel
theorem dX4_of_19 : decode cX4_of 19 = .ok (.iconst 1, 1) := by decide +kernel
theorem dX4_of_20 : decode cX4_of 20 = .ok (.goto 4, 3) := by decide +kernel
theorem dX4_of_23 : decode cX4_of 23 = .ok (.iconst 0, 1) := by decide +kernel
theorem dX4_of_24 : decode cX4_of 24 = .ok (.istore_n 3, 1) := by decide +kernel
theorem dX4_of_25 : decode cX4_of 25 = .ok (.iload_n 3, 1) := by decide +kernel
theorem dX4_of_26 : decode cX4_of 26 = .ok (.ifCond .eq 17, 3) := by decide +kernel
theorem dX4_of_29 : decode cX4_of 29 = .ok (.aload_n 0, 1) := by decide +kernel
theorem dX4_of_30 : decode cX4_of 30 = .ok (.getfield 9, 3) := by decide +kernel
theorem dX4_of_33 : decode cX4_of 33 = .ok (.iload_n 1, 1) := by decide +kernel
theorem dX4_of_34 : decode cX4_of 34 = .ok (.bipush 6, 2) := by decide +kernel
theorem dX4_of_36 : decode cX4_of 36 = .ok (.imul, 1) := by decide +kernel
theorem dX4_of_37 : decode cX4_of 37 = .ok (.iload_n 2, 1) := by decide +kernel
theorem dX4_of_38 : decode cX4_of 38 = .ok (.iadd, 1) := by decide +kernel
theorem dX4_of_39 : decode cX4_of 39 = .ok (.iaload, 1) := by decide +kernel
theorem dX4_of_40 : decode cX4_of 40 = .ok (.goto 4, 3) := by decide +kernel
theorem dX4_of_43 : decode cX4_of 43 = .ok (.iconst 0, 1) := by decide +kernel
theorem dX4_of_44 : decode cX4_of 44 = .ok (.ireturn, 1) := by decide +kernel
theorem dX4_add_0 : decode cX4_add 0 = .ok (.iload_n 1, 1) := by decide +kernel
theorem dX4_add_1 : decode cX4_add 1 = .ok (.ifCond .lt 33, 3) := by decide +kernel
theorem dX4_add_4 : decode cX4_add 4 = .ok (.iload_n 1, 1) := by decide +kernel
theorem dX4_add_5 : decode cX4_add 5 = .ok (.iconst 5, 1) := by decide +kernel
theorem dX4_add_6 : decode cX4_add 6 = .ok (.if_icmp .ge 28, 3) := by decide +kernel
theorem dX4_add_9 : decode cX4_add 9 = .ok (.iload_n 2, 1) := by decide +kernel
theorem dX4_add_10 : decode cX4_add 10 = .ok (.ifCond .lt 24, 3) := by decide +kernel
theorem dX4_add_13 : decode cX4_add 13 = .ok (.iload_n 2, 1) := by decide +kernel
theorem dX4_add_14 : decode cX4_add 14 = .ok (.bipush 6, 2) := by decide +kernel
theorem dX4_add_16 : decode cX4_add 16 = .ok (.if_icmp .ge 18, 3) := by decide +kernel
theorem dX4_add_19 : decode cX4_add 19 = .ok (.aload_n 0, 1) := by decide +kernel
theorem dX4_add_20 : decode cX4_add 20 = .ok (.getfield 9, 3) := by decide +kernel
theorem dX4_add_23 : decode cX4_add 23 = .ok (.iload_n 1, 1) := by decide +kernel
theorem dX4_add_24 : decode cX4_add 24 = .ok (.bipush 6, 2) := by decide +kernel
theorem dX4_add_26 : decode cX4_add 26 = .ok (.imul, 1) := by decide +kernel
theorem dX4_add_27 : decode cX4_add 27 = .ok (.iload_n 2, 1) := by decide +kernel
theorem dX4_add_28 : decode cX4_add 28 = .ok (.iadd, 1) := by decide +kernel
theorem dX4_add_29 : decode cX4_add 29 = .ok (.dup2, 1) := by decide +kernel
theorem dX4_add_30 : decode cX4_add 30 = .ok (.iaload, 1) := by decide +kernel
theorem dX4_add_31 : decode cX4_add 31 = .ok (.iload_n 3, 1) := by decide +kernel
theorem dX4_add_32 : decode cX4_add 32 = .ok (.iadd, 1) := by decide +kernel
theorem dX4_add_33 : decode cX4_add 33 = .ok (.iastore, 1) := by decide +kernel
theorem dX4_add_34 : decode cX4_add 34 = .ok (.return_, 1) := by decide +kernel
theorem dX4_empty_0 : decode cX4_empty 0 = .ok (.iconst 0, 1) := by decide +kernel
theorem dX4_empty_1 : decode cX4_empty 1 = .ok (.istore_n 1, 1) := by decide +kernel
theorem dX4_empty_2 : decode cX4_empty 2 = .ok (.iload_n 1, 1) := by decide +kernel
theorem dX4_empty_3 : decode cX4_empty 3 = .ok (.aload_n 0, 1) := by decide +kernel
theorem dX4_empty_4 : decode cX4_empty 4 = .ok (.getfield 9, 3) := by decide +kernel
theorem dX4_empty_7 : decode cX4_empty 7 = .ok (.arraylength, 1) := by decide +kernel
theorem dX4_empty_8 : decode cX4_empty 8 = .ok (.if_icmp .ge 16, 3) := by decide +kernel
theorem dX4_empty_11 : decode cX4_empty 11 = .ok (.aload_n 0, 1) := by decide +kernel
theorem dX4_empty_12 : decode cX4_empty 12 = .ok (.getfield 9, 3) := by decide +kernel
theorem dX4_empty_15 : decode cX4_empty 15 = .ok (.iload_n 1, 1) := by decide +kernel
theorem dX4_empty_16 : decode cX4_empty 16 = .ok (.iconst 0, 1) := by decide +kernel
theorem dX4_empty_17 : decode cX4_empty 17 = .ok (.iastore, 1) := by decide +kernel
theorem dX4_empty_18 : decode cX4_empty 18 = .ok (.iinc 1 1, 3) := by decide +kernel
theorem dX4_empty_21 : decode cX4_empty 21 = .ok (.goto (-19), 3) := by decide +kernel
theorem dX4_empty_24 : decode cX4_empty 24 = .ok (.return_, 1) := by decide +kernel
theorem dX4_copyFrom_0 : decode cX4_copyFrom 0 = .ok (.aload_n 1, 1) := by decide +kernel
theorem dX4_copyFrom_1 : decode cX4_copyFrom 1 = .ok (.getfield 9, 3) := by decide +kernel
theorem dX4_copyFrom_4 : decode cX4_copyFrom 4 = .ok (.iconst 0, 1) := by decide +kernel
theorem dX4_copyFrom_5 : decode cX4_copyFrom 5 = .ok (.aload_n 0, 1) := by decide +kernel
theorem dX4_copyFrom_6 : decode cX4_copyFrom 6 = .ok (.getfield 9, 3) := by decide +kernel
theorem dX4_copyFrom_9 : decode cX4_copyFrom 9 = .ok (.iconst 0, 1) := by decide +kernel
theorem dX4_copyFrom_10 : decode cX4_copyFrom 10 = .ok (.aload_n 0, 1) := by decide +kernel
theorem dX4_copyFrom_11 : decode cX4_copyFrom 11 = .ok (.getfield 9, 3) := by decide +kernel
theorem dX4_copyFrom_14 : decode cX4_copyFrom 14 = .ok (.arraylength, 1) := by decide +kernel
theorem dX4_copyFrom_15 : decode cX4_copyFrom 15 = .ok (.invokestatic 15, 3) := by decide +kernel
theorem dX4_copyFrom_18 : decode cX4_copyFrom 18 = .ok (.aload_n 0, 1) := by decide +kernel
theorem dX4_copyFrom_19 : decode cX4_copyFrom 19 = .ok (.aload_n 1, 1) := by decide +kernel
theorem dX4_copyFrom_20 : decode cX4_copyFrom 20 = .ok (.getfield 21, 3) := by decide +kernel
theorem dX4_copyFrom_23 : decode cX4_copyFrom 23 = .ok (.putfield 21, 3) := by decide +kernel
theorem dX4_copyFrom_26 : decode cX4_copyFrom 26 = .ok (.return_, 1) := by decide +kernel
theorem dX5_init_0 : decode cX5_init 0 = .ok (.aload_n 0, 1) := by decide +kernel
theorem dX5_init_1 : decode cX5_init 1 = .ok (.invokespecial 3, 3) := by decide +kernel
theorem dX5_init_4 : decode cX5_init 4 = .ok (.return_, 1) := by decide +kernel
theorem dX5_habit_0 : decode cX5_habit 0 = .ok (.iconst 0, 1) := by decide +kernel
theorem dX5_habit_1 : decode cX5_habit 1 = .ok (.ireturn, 1) := by decide +kernel
theorem dX5_wouldThrow_0 : decode cX5_wouldThrow 0 = .ok (.iconst (-1), 1) := by decide +kernel
theorem dX5_wouldThrow_1 : decode cX5_wouldThrow 1 = .ok (.ireturn, 1) := by decide +kernel
theorem dX6_init_0 : decode cX6_init 0 = .ok (.aload_n 0, 1) := by decide +kernel
theorem dX6_init_1 : decode cX6_init 1 = .ok (.invokespecial 3, 3) := by decide +kernel
theorem dX6_init_4 : decode cX6_init 4 = .ok (.aload_n 0, 1) := by decide +kernel
theorem dX6_init_5 : decode cX6_init 5 = .ok (.new 9, 3) := by decide +kernel
theorem dX6_init_8 : decode cX6_init 8 = .ok (.dup, 1) := by decide +kernel
theorem dX6_init_9 : decode cX6_init 9 = .ok (.invokespecial 11, 3) := by decide +kernel
theorem dX6_init_12 : decode cX6_init 12 = .ok (.putfield 12, 3) := by decide +kernel
theorem dX6_init_15 : decode cX6_init 15 = .ok (.aload_n 0, 1) := by decide +kernel
theorem dX6_init_16 : decode cX6_init 16 = .ok (.bipush 6, 2) := by decide +kernel
theorem dX6_init_18 : decode cX6_init 18 = .ok (.newarray .int, 2) := by decide +kernel
theorem dX6_init_20 : decode cX6_init 20 = .ok (.putfield 18, 3) := by decide +kernel
theorem dX6_init_23 : decode cX6_init 23 = .ok (.aload_n 0, 1) := by decide +kernel
theorem dX6_init_24 : decode cX6_init 24 = .ok (.bipush 6, 2) := by decide +kernel
theorem dX6_init_26 : decode cX6_init 26 = .ok (.newarray .int, 2) := by decide +kernel
theorem dX6_init_28 : decode cX6_init 28 = .ok (.putfield 22, 3) := by decide +kernel
theorem dX6_init_31 : decode cX6_init 31 = .ok (.aload_n 0, 1) := by decide +kernel
theorem dX6_init_32 : decode cX6_init 32 = .ok (.bipush 6, 2) := by decide +kernel
theorem dX6_init_34 : decode cX6_init 34 = .ok (.newarray .int, 2) := by decide +kernel
theorem dX6_init_36 : decode cX6_init 36 = .ok (.putfield 25, 3) := by decide +kernel
theorem dX6_init_39 : decode cX6_init 39 = .ok (.aload_n 0, 1) := by decide +kernel
theorem dX6_init_40 : decode cX6_init 40 = .ok (.bipush 6, 2) := by decide +kernel
theorem dX6_init_42 : decode cX6_init 42 = .ok (.newarray .int, 2) := by decide +kernel
theorem dX6_init_44 : decode cX6_init 44 = .ok (.putfield 28, 3) := by decide +kernel
theorem dX6_init_47 : decode cX6_init 47 = .ok (.aload_n 0, 1) := by decide +kernel
theorem dX6_init_48 : decode cX6_init 48 = .ok (.aload_n 1, 1) := by decide +kernel
theorem dX6_init_49 : decode cX6_init 49 = .ok (.putfield 31, 3) := by decide +kernel
theorem dX6_init_52 : decode cX6_init 52 = .ok (.return_, 1) := by decide +kernel
theorem dX6_add_0 : decode cX6_add 0 = .ok (.aload_n 0, 1) := by decide +kernel
theorem dX6_add_1 : decode cX6_add 1 = .ok (.getfield 35, 3) := by decide +kernel
theorem dX6_add_4 : decode cX6_add 4 = .ok (.ifCond .lt 12, 3) := by decide +kernel
theorem dX6_add_7 : decode cX6_add 7 = .ok (.aload_n 0, 1) := by decide +kernel
theorem dX6_add_8 : decode cX6_add 8 = .ok (.getfield 35, 3) := by decide +kernel
theorem dX6_add_11 : decode cX6_add 11 = .ok (.bipush 6, 2) := by decide +kernel
theorem dX6_add_13 : decode cX6_add 13 = .ok (.if_icmp .lt 5, 3) := by decide +kernel
theorem dX6_add_16 : decode cX6_add 16 = .ok (.iconst 0, 1) := by decide +kernel
theorem dX6_add_17 : decode cX6_add 17 = .ok (.ireturn, 1) := by decide +kernel
theorem dX6_add_18 : decode cX6_add 18 = .ok (.aload_n 0, 1) := by decide +kernel
theorem dX6_add_19 : decode cX6_add 19 = .ok (.getfield 18, 3) := by decide +kernel
theorem dX6_add_22 : decode cX6_add 22 = .ok (.aload_n 0, 1) := by decide +kernel
theorem dX6_add_23 : decode cX6_add 23 = .ok (.getfield 35, 3) := by decide +kernel
theorem dX6_add_26 : decode cX6_add 26 = .ok (.iload_n 1, 1) := by decide +kernel
theorem dX6_add_27 : decode cX6_add 27 = .ok (.iastore, 1) := by decide +kernel
theorem dX6_add_28 : decode cX6_add 28 = .ok (.aload_n 0, 1) := by decide +kernel
theorem dX6_add_29 : decode cX6_add 29 = .ok (.getfield 22, 3) := by decide +kernel
theorem dX6_add_32 : decode cX6_add 32 = .ok (.aload_n 0, 1) := by decide +kernel
theorem dX6_add_33 : decode cX6_add 33 = .ok (.getfield 35, 3) := by decide +kernel
theorem dX6_add_36 : decode cX6_add 36 = .ok (.iload_n 2, 1) := by decide +kernel
theorem dX6_add_37 : decode cX6_add 37 = .ok (.iastore, 1) := by decide +kernel
theorem dX6_add_38 : decode cX6_add 38 = .ok (.aload_n 0, 1) := by decide +kernel
theorem dX6_add_39 : decode cX6_add 39 = .ok (.dup, 1) := by decide +kernel
theorem dX6_add_40 : decode cX6_add 40 = .ok (.getfield 35, 3) := by decide +kernel
theorem dX6_add_43 : decode cX6_add 43 = .ok (.iconst 1, 1) := by decide +kernel
theorem dX6_add_44 : decode cX6_add 44 = .ok (.iadd, 1) := by decide +kernel
theorem dX6_add_45 : decode cX6_add 45 = .ok (.putfield 35, 3) := by decide +kernel
theorem dX6_add_48 : decode cX6_add 48 = .ok (.iconst 1, 1) := by decide +kernel
theorem dX6_add_49 : decode cX6_add 49 = .ok (.ireturn, 1) := by decide +kernel
theorem dX6_leastOf_0 : decode cX6_leastOf 0 = .ok (.iload_n 1, 1) := by decide +kernel
theorem dX6_leastOf_1 : decode cX6_leastOf 1 = .ok (.ifCond .lt 18, 3) := by decide +kernel
theorem dX6_leastOf_4 : decode cX6_leastOf 4 = .ok (.iload_n 1, 1) := by decide +kernel
theorem dX6_leastOf_5 : decode cX6_leastOf 5 = .ok (.bipush 6, 2) := by decide +kernel
theorem dX6_leastOf_7 : decode cX6_leastOf 7 = .ok (.if_icmp .ge 12, 3) := by decide +kernel
theorem dX6_leastOf_10 : decode cX6_leastOf 10 = .ok (.aload_n 0, 1) := by decide +kernel
theorem dX6_leastOf_11 : decode cX6_leastOf 11 = .ok (.getfield 25, 3) := by decide +kernel
theorem dX6_leastOf_14 : decode cX6_leastOf 14 = .ok (.iload_n 1, 1) := by decide +kernel
theorem dX6_leastOf_15 : decode cX6_leastOf 15 = .ok (.iaload, 1) := by decide +kernel
theorem dX6_leastOf_16 : decode cX6_leastOf 16 = .ok (.goto 4, 3) := by decide +kernel
theorem dX6_leastOf_19 : decode cX6_leastOf 19 = .ok (.iconst (-1), 1) := by decide +kernel
theorem dX6_leastOf_20 : decode cX6_leastOf 20 = .ok (.ireturn, 1) := by decide +kernel
theorem dX6_mostOf_0 : decode cX6_mostOf 0 = .ok (.iload_n 1, 1) := by decide +kernel
theorem dX6_mostOf_1 : decode cX6_mostOf 1 = .ok (.ifCond .lt 18, 3) := by decide +kernel
theorem dX6_mostOf_4 : decode cX6_mostOf 4 = .ok (.iload_n 1, 1) := by decide +kernel
theorem dX6_mostOf_5 : decode cX6_mostOf 5 = .ok (.bipush 6, 2) := by decide +kernel
theorem dX6_mostOf_7 : decode cX6_mostOf 7 = .ok (.if_icmp .ge 12, 3) := by decide +kernel
theorem dX6_mostOf_10 : decode cX6_mostOf 10 = .ok (.aload_n 0, 1) := by decide +kernel
theorem dX6_mostOf_11 : decode cX6_mostOf 11 = .ok (.getfield 28, 3) := by decide +kernel
theorem dX6_mostOf_14 : decode cX6_mostOf 14 = .ok (.iload_n 1, 1) := by decide +kernel
theorem dX6_mostOf_15 : decode cX6_mostOf 15 = .ok (.iaload, 1) := by decide +kernel
theorem dX6_mostOf_16 : decode cX6_mostOf 16 = .ok (.goto 4, 3) := by decide +kernel
theorem dX6_mostOf_19 : decode cX6_mostOf 19 = .ok (.iconst (-1), 1) := by decide +kernel
theorem dX6_mostOf_20 : decode cX6_mostOf 20 = .ok (.ireturn, 1) := by decide +kernel
theorem dX6_searchLayings_0 : decode cX6_searchLayings 0 = .ok (.aload_n 0, 1) := by decide +kernel
theorem dX6_searchLayings_1 : decode cX6_searchLayings 1 = .ok (.iconst 0, 1) := by decide +kernel
theorem dX6_searchLayings_2 : decode cX6_searchLayings 2 = .ok (.putfield 39, 3) := by decide +kernel
theorem dX6_searchLayings_5 : decode cX6_searchLayings 5 = .ok (.aload_n 0, 1) := by decide +kernel
theorem dX6_searchLayings_6 : decode cX6_searchLayings 6 = .ok (.iconst (-1), 1) := by decide +kernel
theorem dX6_searchLayings_7 : decode cX6_searchLayings 7 = .ok (.putfield 42, 3) := by decide +kernel
theorem dX6_searchLayings_10 : decode cX6_searchLayings 10 = .ok (.iconst 0, 1) := by decide +kernel
theorem dX6_searchLayings_11 : decode cX6_searchLayings 11 = .ok (.istore_n 1, 1) := by decide +kernel
theorem dX6_searchLayings_12 : decode cX6_searchLayings 12 = .ok (.iload_n 1, 1) := by decide +kernel
theorem dX6_searchLayings_13 : decode cX6_searchLayings 13 = .ok (.bipush 6, 2) := by decide +kernel
theorem dX6_searchLayings_15 : decode cX6_searchLayings 15 = .ok (.if_icmp .ge 23, 3) := by decide +kernel
theorem dX6_searchLayings_18 : decode cX6_searchLayings 18 = .ok (.aload_n 0, 1) := by decide +kernel
theorem dX6_searchLayings_19 : decode cX6_searchLayings 19 = .ok (.getfield 25, 3) := by decide +kernel
theorem dX6_searchLayings_22 : decode cX6_searchLayings 22 = .ok (.iload_n 1, 1) := by decide +kernel
theorem dX6_searchLayings_23 : decode cX6_searchLayings 23 = .ok (.iconst (-1), 1) := by decide +kernel
theorem dX6_searchLayings_24 : decode cX6_searchLayings 24 = .ok (.iastore, 1) := by decide +kernel
theorem dX6_searchLayings_25 : decode cX6_searchLayings 25 = .ok (.aload_n 0, 1) := by decide +kernel
theorem dX6_searchLayings_26 : decode cX6_searchLayings 26 = .ok (.getfield 28, 3) := by decide +kernel
theorem dX6_searchLayings_29 : decode cX6_searchLayings 29 = .ok (.iload_n 1, 1) := by decide +kernel
theorem dX6_searchLayings_30 : decode cX6_searchLayings 30 = .ok (.iconst (-1), 1) := by decide +kernel
theorem dX6_searchLayings_31 : decode cX6_searchLayings 31 = .ok (.iastore, 1) := by decide +kernel
theorem dX6_searchLayings_32 : decode cX6_searchLayings 32 = .ok (.iinc 1 1, 3) := by decide +kernel
theorem dX6_searchLayings_35 : decode cX6_searchLayings 35 = .ok (.goto (-23), 3) := by decide +kernel
theorem dX6_searchLayings_38 : decode cX6_searchLayings 38 = .ok (.iconst 1, 1) := by decide +kernel
theorem dX6_searchLayings_39 : decode cX6_searchLayings 39 = .ok (.iconst 2, 1) := by decide +kernel
theorem dX6_searchLayings_40 : decode cX6_searchLayings 40 = .ok (.aload_n 0, 1) := by decide +kernel
theorem dX6_searchLayings_41 : decode cX6_searchLayings 41 = .ok (.getfield 31, 3) := by decide +kernel
theorem dX6_searchLayings_44 : decode cX6_searchLayings 44 = .ok (.getfield 45, 3) := by decide +kernel
theorem dX6_searchLayings_47 : decode cX6_searchLayings 47 = .ok (.iconst 4, 1) := by decide +kernel
theorem dX6_searchLayings_48 : decode cX6_searchLayings 48 = .ok (.invokestatic 50, 3) := by decide +kernel
theorem dX6_searchLayings_51 : decode cX6_searchLayings 51 = .ok (.imul, 1) := by decide +kernel
theorem dX6_searchLayings_52 : decode cX6_searchLayings 52 = .ok (.ishl, 1) := by decide +kernel
theorem dX6_searchLayings_53 : decode cX6_searchLayings 53 = .ok (.istore_n 1, 1) := by decide +kernel
theorem dX6_searchLayings_54 : decode cX6_searchLayings 54 = .ok (.iconst 0, 1) := by decide +kernel
theorem dX6_searchLayings_55 : decode cX6_searchLayings 55 = .ok (.istore_n 2, 1) := by decide +kernel
theorem dX6_searchLayings_56 : decode cX6_searchLayings 56 = .ok (.iload_n 2, 1) := by decide +kernel
theorem dX6_searchLayings_57 : decode cX6_searchLayings 57 = .ok (.iload_n 1, 1) := by decide +kernel
theorem dX6_searchLayings_58 : decode cX6_searchLayings 58 = .ok (.if_icmp .ge 22, 3) := by decide +kernel
theorem dX6_searchLayings_61 : decode cX6_searchLayings 61 = .ok (.aload_n 0, 1) := by decide +kernel
theorem dX6_searchLayings_62 : decode cX6_searchLayings 62 = .ok (.iload_n 2, 1) := by decide +kernel
theorem dX6_searchLayings_63 : decode cX6_searchLayings 63 = .ok (.invokevirtual 56, 3) := by decide +kernel
theorem dX6_searchLayings_66 : decode cX6_searchLayings 66 = .ok (.ifCond .eq 8, 3) := by decide +kernel
theorem dX6_searchLayings_69 : decode cX6_searchLayings 69 = .ok (.aload_n 0, 1) := by decide +kernel
theorem dX6_searchLayings_70 : decode cX6_searchLayings 70 = .ok (.iload_n 2, 1) := by decide +kernel
theorem dX6_searchLayings_71 : decode cX6_searchLayings 71 = .ok (.invokevirtual 60, 3) := by decide +kernel
theorem dX6_searchLayings_74 : decode cX6_searchLayings 74 = .ok (.iinc 2 1, 3) := by decide +kernel
theorem dX6_searchLayings_77 : decode cX6_searchLayings 77 = .ok (.goto (-21), 3) := by decide +kernel
theorem dX6_searchLayings_80 : decode cX6_searchLayings 80 = .ok (.return_, 1) := by decide +kernel
theorem dX6_figureOf_0 : decode cX6_figureOf 0 = .ok (.iload_n 1, 1) := by decide +kernel
theorem dX6_figureOf_1 : decode cX6_figureOf 1 = .ok (.iconst 2, 1) := by decide +kernel
theorem dX6_figureOf_2 : decode cX6_figureOf 2 = .ok (.aload_n 0, 1) := by decide +kernel
theorem dX6_figureOf_3 : decode cX6_figureOf 3 = .ok (.getfield 31, 3) := by decide +kernel
theorem dX6_figureOf_6 : decode cX6_figureOf 6 = .ok (.getfield 45, 3) := by decide +kernel
theorem dX6_figureOf_9 : decode cX6_figureOf 9 = .ok (.iconst 1, 1) := by decide +kernel
theorem dX6_figureOf_10 : decode cX6_figureOf 10 = .ok (.isub, 1) := by decide +kernel
theorem dX6_figureOf_11 : decode cX6_figureOf 11 = .ok (.iload_n 2, 1) := by decide +kernel
theorem dX6_figureOf_12 : decode cX6_figureOf 12 = .ok (.isub, 1) := by decide +kernel
theorem dX6_figureOf_13 : decode cX6_figureOf 13 = .ok (.imul, 1) := by decide +kernel
theorem dX6_figureOf_14 : decode cX6_figureOf 14 = .ok (.ishr, 1) := by decide +kernel
theorem dX6_figureOf_15 : decode cX6_figureOf 15 = .ok (.iconst 3, 1) := by decide +kernel
theorem dX6_figureOf_16 : decode cX6_figureOf 16 = .ok (.iand, 1) := by decide +kernel
theorem dX6_figureOf_17 : decode cX6_figureOf 17 = .ok (.ireturn, 1) := by decide +kernel
theorem dX6_fits_0 : decode cX6_fits 0 = .ok (.aload_n 0, 1) := by decide +kernel
theorem dX6_fits_1 : decode cX6_fits 1 = .ok (.getfield 12, 3) := by decide +kernel
theorem dX6_fits_4 : decode cX6_fits 4 = .ok (.invokevirtual 64, 3) := by decide +kernel
theorem dX6_fits_7 : decode cX6_fits 7 = .ok (.iconst 0, 1) := by decide +kernel
theorem dX6_fits_8 : decode cX6_fits 8 = .ok (.istore_n 2, 1) := by decide +kernel
theorem dX6_fits_9 : decode cX6_fits 9 = .ok (.iload_n 2, 1) := by decide +kernel
theorem dX6_fits_10 : decode cX6_fits 10 = .ok (.aload_n 0, 1) := by decide +kernel
theorem dX6_fits_11 : decode cX6_fits 11 = .ok (.getfield 31, 3) := by decide +kernel
theorem dX6_fits_14 : decode cX6_fits 14 = .ok (.getfield 45, 3) := by decide +kernel
theorem dX6_fits_17 : decode cX6_fits 17 = .ok (.if_icmp .ge 24, 3) := by decide +kernel
theorem dX6_fits_20 : decode cX6_fits 20 = .ok (.aload_n 0, 1) := by decide +kernel
theorem dX6_fits_21 : decode cX6_fits 21 = .ok (.getfield 12, 3) := by decide +kernel
theorem dX6_fits_24 : decode cX6_fits 24 = .ok (.iconst 4, 1) := by decide +kernel
theorem dX6_fits_25 : decode cX6_fits 25 = .ok (.iload_n 2, 1) := by decide +kernel
theorem dX6_fits_26 : decode cX6_fits 26 = .ok (.aload_n 0, 1) := by decide +kernel
theorem dX6_fits_27 : decode cX6_fits 27 = .ok (.iload_n 1, 1) := by decide +kernel
theorem dX6_fits_28 : decode cX6_fits 28 = .ok (.iload_n 2, 1) := by decide +kernel
theorem dX6_fits_29 : decode cX6_fits 29 = .ok (.invokevirtual 67, 3) := by decide +kernel
theorem dX6_fits_32 : decode cX6_fits 32 = .ok (.invokevirtual 70, 3) := by decide +kernel
theorem dX6_fits_35 : decode cX6_fits 35 = .ok (.iinc 2 1, 3) := by decide +kernel
theorem dX6_fits_38 : decode cX6_fits 38 = .ok (.goto (-29), 3) := by decide +kernel
theorem dX6_fits_41 : decode cX6_fits 41 = .ok (.iconst 0, 1) := by decide +kernel
theorem dX6_fits_42 : decode cX6_fits 42 = .ok (.istore_n 2, 1) := by decide +kernel
theorem dX6_fits_43 : decode cX6_fits 43 = .ok (.iload_n 2, 1) := by decide +kernel
theorem dX6_fits_44 : decode cX6_fits 44 = .ok (.aload_n 0, 1) := by decide +kernel
theorem dX6_fits_45 : decode cX6_fits 45 = .ok (.getfield 35, 3) := by decide +kernel
theorem dX6_fits_48 : decode cX6_fits 48 = .ok (.if_icmp .ge 75, 3) := by decide +kernel
theorem dX6_fits_51 : decode cX6_fits 51 = .ok (.iload_n 2, 1) := by decide +kernel
theorem dX6_fits_52 : decode cX6_fits 52 = .ok (.bipush 6, 2) := by decide +kernel
theorem dX6_fits_54 : decode cX6_fits 54 = .ok (.if_icmp .ge 69, 3) := by decide +kernel
theorem dX6_fits_57 : decode cX6_fits 57 = .ok (.aload_n 0, 1) := by decide +kernel
theorem dX6_fits_58 : decode cX6_fits 58 = .ok (.getfield 31, 3) := by decide +kernel
theorem dX6_fits_61 : decode cX6_fits 61 = .ok (.aload_n 0, 1) := by decide +kernel
theorem dX6_fits_62 : decode cX6_fits 62 = .ok (.getfield 12, 3) := by decide +kernel
theorem dX6_fits_65 : decode cX6_fits 65 = .ok (.aload_n 0, 1) := by decide +kernel
theorem dX6_fits_66 : decode cX6_fits 66 = .ok (.getfield 18, 3) := by decide +kernel
theorem dX6_fits_69 : decode cX6_fits 69 = .ok (.iload_n 2, 1) := by decide +kernel
theorem dX6_fits_70 : decode cX6_fits 70 = .ok (.iaload, 1) := by decide +kernel
theorem dX6_fits_71 : decode cX6_fits 71 = .ok (.invokevirtual 74, 3) := by decide +kernel
theorem dX6_fits_74 : decode cX6_fits 74 = .ok (.aload_n 0, 1) := by decide +kernel
theorem dX6_fits_75 : decode cX6_fits 75 = .ok (.getfield 31, 3) := by decide +kernel
theorem dX6_fits_78 : decode cX6_fits 78 = .ok (.aload_n 0, 1) := by decide +kernel
theorem dX6_fits_79 : decode cX6_fits 79 = .ok (.getfield 18, 3) := by decide +kernel
theorem dX6_fits_82 : decode cX6_fits 82 = .ok (.iload_n 2, 1) := by decide +kernel
theorem dX6_fits_83 : decode cX6_fits 83 = .ok (.iaload, 1) := by decide +kernel
theorem dX6_fits_84 : decode cX6_fits 84 = .ok (.invokevirtual 78, 3) := by decide +kernel
theorem dX6_fits_87 : decode cX6_fits 87 = .ok (.iadd, 1) := by decide +kernel
theorem dX6_fits_88 : decode cX6_fits 88 = .ok (.aload_n 0, 1) := by decide +kernel
theorem dX6_fits_89 : decode cX6_fits 89 = .ok (.getfield 22, 3) := by decide +kernel
theorem dX6_fits_92 : decode cX6_fits 92 = .ok (.iload_n 2, 1) := by decide +kernel
theorem dX6_fits_93 : decode cX6_fits 93 = .ok (.iaload, 1) := by decide +kernel
theorem dX6_fits_94 : decode cX6_fits 94 = .ok (.if_icmp .eq 5, 3) := by decide +kernel
theorem dX6_fits_97 : decode cX6_fits 97 = .ok (.iconst 0, 1) := by decide +kernel
theorem dX6_fits_98 : decode cX6_fits 98 = .ok (.ireturn, 1) := by decide +kernel
theorem dX6_fits_99 : decode cX6_fits 99 = .ok (.aload_n 0, 1) := by decide +kernel
theorem dX6_fits_100 : decode cX6_fits 100 = .ok (.getfield 31, 3) := by decide +kernel
theorem dX6_fits_103 : decode cX6_fits 103 = .ok (.aload_n 0, 1) := by decide +kernel
theorem dX6_fits_104 : decode cX6_fits 104 = .ok (.getfield 12, 3) := by decide +kernel
theorem dX6_fits_107 : decode cX6_fits 107 = .ok (.iconst 0, 1) := by decide +kernel
theorem dX6_fits_108 : decode cX6_fits 108 = .ok (.aload_n 0, 1) := by decide +kernel
theorem dX6_fits_109 : decode cX6_fits 109 = .ok (.getfield 18, 3) := by decide +kernel
theorem dX6_fits_112 : decode cX6_fits 112 = .ok (.iload_n 2, 1) := by decide +kernel
theorem dX6_fits_113 : decode cX6_fits 113 = .ok (.iaload, 1) := by decide +kernel
theorem dX6_fits_114 : decode cX6_fits 114 = .ok (.invokevirtual 82, 3) := by decide +kernel
theorem dX6_fits_117 : decode cX6_fits 117 = .ok (.iinc 2 1, 3) := by decide +kernel
theorem dX6_fits_120 : decode cX6_fits 120 = .ok (.goto (-77), 3) := by decide +kernel
theorem dX6_fits_123 : decode cX6_fits 123 = .ok (.iconst 1, 1) := by decide +kernel
theorem dX6_fits_124 : decode cX6_fits 124 = .ok (.ireturn, 1) := by decide +kernel
theorem dX6_tally_0 : decode cX6_tally 0 = .ok (.aload_n 0, 1) := by decide +kernel
theorem dX6_tally_1 : decode cX6_tally 1 = .ok (.dup, 1) := by decide +kernel
theorem dX6_tally_2 : decode cX6_tally 2 = .ok (.getfield 39, 3) := by decide +kernel
theorem dX6_tally_5 : decode cX6_tally 5 = .ok (.iconst 1, 1) := by decide +kernel
theorem dX6_tally_6 : decode cX6_tally 6 = .ok (.iadd, 1) := by decide +kernel
theorem dX6_tally_7 : decode cX6_tally 7 = .ok (.putfield 39, 3) := by decide +kernel
theorem dX6_tally_10 : decode cX6_tally 10 = .ok (.aload_n 0, 1) := by decide +kernel
theorem dX6_tally_11 : decode cX6_tally 11 = .ok (.aload_n 0, 1) := by decide +kernel
theorem dX6_tally_12 : decode cX6_tally 12 = .ok (.getfield 42, 3) := by decide +kernel
theorem dX6_tally_15 : decode cX6_tally 15 = .ok (.iconst (-1), 1) := by decide +kernel
theorem dX6_tally_16 : decode cX6_tally 16 = .ok (.if_icmp .ne 7, 3) := by decide +kernel
theorem dX6_tally_19 : decode cX6_tally 19 = .ok (.iload_n 1, 1) := by decide +kernel
theorem dX6_tally_20 : decode cX6_tally 20 = .ok (.goto 7, 3) := by decide +kernel
theorem dX6_tally_23 : decode cX6_tally 23 = .ok (.aload_n 0, 1) := by decide +kernel
theorem dX6_tally_24 : decode cX6_tally 24 = .ok (.getfield 42, 3) := by decide +kernel
theorem dX6_tally_27 : decode cX6_tally 27 = .ok (.putfield 42, 3) := by decide +kernel
theorem dX6_tally_30 : decode cX6_tally 30 = .ok (.iconst 0, 1) := by decide +kernel
theorem dX6_tally_31 : decode cX6_tally 31 = .ok (.istore_n 2, 1) := by decide +kernel
theorem dX6_tally_32 : decode cX6_tally 32 = .ok (.iload_n 2, 1) := by decide +kernel
theorem dX6_tally_33 : decode cX6_tally 33 = .ok (.aload_n 0, 1) := by decide +kernel
theorem dX6_tally_34 : decode cX6_tally 34 = .ok (.getfield 31, 3) := by decide +kernel
theorem dX6_tally_37 : decode cX6_tally 37 = .ok (.getfield 45, 3) := by decide +kernel
theorem dX6_tally_40 : decode cX6_tally 40 = .ok (.if_icmp .ge 68, 3) := by decide +kernel
theorem dX6_tally_43 : decode cX6_tally 43 = .ok (.iload_n 2, 1) := by decide +kernel
theorem dX6_tally_44 : decode cX6_tally 44 = .ok (.bipush 6, 2) := by decide +kernel
theorem dX6_tally_46 : decode cX6_tally 46 = .ok (.if_icmp .ge 62, 3) := by decide +kernel
theorem dX6_tally_49 : decode cX6_tally 49 = .ok (.aload_n 0, 1) := by decide +kernel
theorem dX6_tally_50 : decode cX6_tally 50 = .ok (.iload_n 1, 1) := by decide +kernel
theorem dX6_tally_51 : decode cX6_tally 51 = .ok (.iload_n 2, 1) := by decide +kernel
theorem dX6_tally_52 : decode cX6_tally 52 = .ok (.invokevirtual 67, 3) := by decide +kernel
theorem dX6_tally_55 : decode cX6_tally 55 = .ok (.istore_n 3, 1) := by decide +kernel
theorem dX6_tally_56 : decode cX6_tally 56 = .ok (.aload_n 0, 1) := by decide +kernel
theorem dX6_tally_57 : decode cX6_tally 57 = .ok (.getfield 25, 3) := by decide +kernel
theorem dX6_tally_60 : decode cX6_tally 60 = .ok (.iload_n 2, 1) := by decide +kernel
theorem dX6_tally_61 : decode cX6_tally 61 = .ok (.aload_n 0, 1) := by decide +kernel
theorem dX6_tally_62 : decode cX6_tally 62 = .ok (.getfield 25, 3) := by decide +kernel
theorem dX6_tally_65 : decode cX6_tally 65 = .ok (.iload_n 2, 1) := by decide +kernel
theorem dX6_tally_66 : decode cX6_tally 66 = .ok (.iaload, 1) := by decide +kernel
theorem dX6_tally_67 : decode cX6_tally 67 = .ok (.iconst (-1), 1) := by decide +kernel
theorem dX6_tally_68 : decode cX6_tally 68 = .ok (.if_icmp .ne 7, 3) := by decide +kernel
theorem dX6_tally_71 : decode cX6_tally 71 = .ok (.iload_n 3, 1) := by decide +kernel
theorem dX6_tally_72 : decode cX6_tally 72 = .ok (.goto 13, 3) := by decide +kernel
theorem dX6_tally_75 : decode cX6_tally 75 = .ok (.aload_n 0, 1) := by decide +kernel
theorem dX6_tally_76 : decode cX6_tally 76 = .ok (.getfield 25, 3) := by decide +kernel
theorem dX6_tally_79 : decode cX6_tally 79 = .ok (.iload_n 2, 1) := by decide +kernel
theorem dX6_tally_80 : decode cX6_tally 80 = .ok (.iaload, 1) := by decide +kernel
theorem dX6_tally_81 : decode cX6_tally 81 = .ok (.iload_n 3, 1) := by decide +kernel
theorem dX6_tally_82 : decode cX6_tally 82 = .ok (.invokestatic 50, 3) := by decide +kernel
theorem dX6_tally_85 : decode cX6_tally 85 = .ok (.iastore, 1) := by decide +kernel
theorem dX6_tally_86 : decode cX6_tally 86 = .ok (.aload_n 0, 1) := by decide +kernel
theorem dX6_tally_87 : decode cX6_tally 87 = .ok (.getfield 28, 3) := by decide +kernel
theorem dX6_tally_90 : decode cX6_tally 90 = .ok (.iload_n 2, 1) := by decide +kernel
theorem dX6_tally_91 : decode cX6_tally 91 = .ok (.aload_n 0, 1) := by decide +kernel
theorem dX6_tally_92 : decode cX6_tally 92 = .ok (.getfield 28, 3) := by decide +kernel
theorem dX6_tally_95 : decode cX6_tally 95 = .ok (.iload_n 2, 1) := by decide +kernel
theorem dX6_tally_96 : decode cX6_tally 96 = .ok (.iaload, 1) := by decide +kernel
theorem dX6_tally_97 : decode cX6_tally 97 = .ok (.iload_n 3, 1) := by decide +kernel
theorem dX6_tally_98 : decode cX6_tally 98 = .ok (.invokestatic 86, 3) := by decide +kernel
theorem dX6_tally_101 : decode cX6_tally 101 = .ok (.iastore, 1) := by decide +kernel
theorem dX6_tally_102 : decode cX6_tally 102 = .ok (.iinc 2 1, 3) := by decide +kernel
theorem dX6_tally_105 : decode cX6_tally 105 = .ok (.goto (-73), 3) := by decide +kernel
theorem dX6_tally_108 : decode cX6_tally 108 = .ok (.return_, 1) := by decide +kernel
theorem dX8_init_0 : decode cX8_init 0 = .ok (.aload_n 0, 1) := by decide +kernel
theorem dX8_init_1 : decode cX8_init 1 = .ok (.invokespecial 3, 3) := by decide +kernel
theorem dX8_init_4 : decode cX8_init 4 = .ok (.return_, 1) := by decide +kernel
theorem dX8_leastGain_0 : decode cX8_leastGain 0 = .ok (.iconst 1, 1) := by decide +kernel
theorem dX8_leastGain_1 : decode cX8_leastGain 1 = .ok (.ireturn, 1) := by decide +kernel
theorem dX8_wouldThrow_0 : decode cX8_wouldThrow 0 = .ok (.iconst (-1), 1) := by decide +kernel
theorem dX8_wouldThrow_1 : decode cX8_wouldThrow 1 = .ok (.istore 4, 2) := by decide +kernel
theorem dX8_wouldThrow_3 : decode cX8_wouldThrow 3 = .ok (.aload_n 0, 1) := by decide +kernel
theorem dX8_wouldThrow_4 : decode cX8_wouldThrow 4 = .ok (.aload_n 1, 1) := by decide +kernel
theorem dX8_wouldThrow_5 : decode cX8_wouldThrow 5 = .ok (.iload_n 3, 1) := by decide +kernel
theorem dX8_wouldThrow_6 : decode cX8_wouldThrow 6 = .ok (.invokevirtual 9, 3) := by decide +kernel
theorem dX8_wouldThrow_9 : decode cX8_wouldThrow 9 = .ok (.istore 5, 2) := by decide +kernel
theorem dX8_wouldThrow_11 : decode cX8_wouldThrow 11 = .ok (.iconst 0, 1) := by decide +kernel
theorem dX8_wouldThrow_12 : decode cX8_wouldThrow 12 = .ok (.istore 6, 2) := by decide +kernel
theorem dX8_wouldThrow_14 : decode cX8_wouldThrow 14 = .ok (.iload 6, 2) := by decide +kernel
theorem dX8_wouldThrow_16 : decode cX8_wouldThrow 16 = .ok (.aload_n 1, 1) := by decide +kernel
theorem dX8_wouldThrow_17 : decode cX8_wouldThrow 17 = .ok (.getfield 15, 3) := by decide +kernel
theorem dX8_wouldThrow_20 : decode cX8_wouldThrow 20 = .ok (.if_icmp .ge 59, 3) := by decide +kernel
theorem dX8_wouldThrow_23 : decode cX8_wouldThrow 23 = .ok (.aload_n 2, 1) := by decide +kernel
theorem dX8_wouldThrow_24 : decode cX8_wouldThrow 24 = .ok (.iload_n 3, 1) := by decide +kernel
theorem dX8_wouldThrow_25 : decode cX8_wouldThrow 25 = .ok (.iload 6, 2) := by decide +kernel
theorem dX8_wouldThrow_27 : decode cX8_wouldThrow 27 = .ok (.invokevirtual 21, 3) := by decide +kernel
theorem dX8_wouldThrow_30 : decode cX8_wouldThrow 30 = .ok (.ifCond .le 13, 3) := by decide +kernel
theorem dX8_wouldThrow_33 : decode cX8_wouldThrow 33 = .ok (.aload_n 1, 1) := by decide +kernel
theorem dX8_wouldThrow_34 : decode cX8_wouldThrow 34 = .ok (.aload_n 2, 1) := by decide +kernel
theorem dX8_wouldThrow_35 : decode cX8_wouldThrow 35 = .ok (.iload 6, 2) := by decide +kernel
theorem dX8_wouldThrow_37 : decode cX8_wouldThrow 37 = .ok (.invokevirtual 27, 3) := by decide +kernel
theorem dX8_wouldThrow_40 : decode cX8_wouldThrow 40 = .ok (.goto 4, 3) := by decide +kernel
theorem dX8_wouldThrow_43 : decode cX8_wouldThrow 43 = .ok (.iconst 0, 1) := by decide +kernel
theorem dX8_wouldThrow_44 : decode cX8_wouldThrow 44 = .ok (.istore 7, 2) := by decide +kernel
theorem dX8_wouldThrow_46 : decode cX8_wouldThrow 46 = .ok (.iload 7, 2) := by decide +kernel
theorem dX8_wouldThrow_48 : decode cX8_wouldThrow 48 = .ok (.iload 5, 2) := by decide +kernel
theorem dX8_wouldThrow_50 : decode cX8_wouldThrow 50 = .ok (.if_icmp .lt 23, 3) := by decide +kernel
theorem dX8_wouldThrow_53 : decode cX8_wouldThrow 53 = .ok (.iload 6, 2) := by decide +kernel
theorem dX8_wouldThrow_55 : decode cX8_wouldThrow 55 = .ok (.istore 4, 2) := by decide +kernel
theorem dX8_wouldThrow_57 : decode cX8_wouldThrow 57 = .ok (.iload 7, 2) := by decide +kernel
theorem dX8_wouldThrow_59 : decode cX8_wouldThrow 59 = .ok (.iconst 1, 1) := by decide +kernel
theorem dX8_wouldThrow_60 : decode cX8_wouldThrow 60 = .ok (.iadd, 1) := by decide +kernel
theorem dX8_wouldThrow_61 : decode cX8_wouldThrow 61 = .ok (.istore 5, 2) := by decide +kernel
theorem dX8_wouldThrow_63 : decode cX8_wouldThrow 63 = .ok (.aload_n 0, 1) := by decide +kernel
theorem dX8_wouldThrow_64 : decode cX8_wouldThrow 64 = .ok (.invokevirtual 31, 3) := by decide +kernel
theorem dX8_wouldThrow_67 : decode cX8_wouldThrow 67 = .ok (.ifCond .ne 6, 3) := by decide +kernel
theorem dX8_wouldThrow_70 : decode cX8_wouldThrow 70 = .ok (.iload 4, 2) := by decide +kernel
theorem dX8_wouldThrow_72 : decode cX8_wouldThrow 72 = .ok (.ireturn, 1) := by decide +kernel
theorem dX8_wouldThrow_73 : decode cX8_wouldThrow 73 = .ok (.iinc 6 1, 3) := by decide +kernel
theorem dX8_wouldThrow_76 : decode cX8_wouldThrow 76 = .ok (.goto (-62), 3) := by decide +kernel
theorem dX8_wouldThrow_79 : decode cX8_wouldThrow 79 = .ok (.iload 4, 2) := by decide +kernel
theorem dX8_wouldThrow_81 : decode cX8_wouldThrow 81 = .ok (.ireturn, 1) := by decide +kernel
theorem dX9_init_0 : decode cX9_init 0 = .ok (.aload_n 0, 1) := by decide +kernel
theorem dX9_init_1 : decode cX9_init 1 = .ok (.invokespecial 3, 3) := by decide +kernel
theorem dX9_init_4 : decode cX9_init 4 = .ok (.aload_n 0, 1) := by decide +kernel
theorem dX9_init_5 : decode cX9_init 5 = .ok (.new 9, 3) := by decide +kernel
theorem dX9_init_8 : decode cX9_init 8 = .ok (.dup, 1) := by decide +kernel
theorem dX9_init_9 : decode cX9_init 9 = .ok (.invokespecial 11, 3) := by decide +kernel
theorem dX9_init_12 : decode cX9_init 12 = .ok (.putfield 12, 3) := by decide +kernel
theorem dX9_init_15 : decode cX9_init 15 = .ok (.aload_n 0, 1) := by decide +kernel
theorem dX9_init_16 : decode cX9_init 16 = .ok (.new 18, 3) := by decide +kernel
theorem dX9_init_19 : decode cX9_init 19 = .ok (.dup, 1) := by decide +kernel
theorem dX9_init_20 : decode cX9_init 20 = .ok (.invokespecial 20, 3) := by decide +kernel
theorem dX9_init_23 : decode cX9_init 23 = .ok (.putfield 21, 3) := by decide +kernel
theorem dX9_init_26 : decode cX9_init 26 = .ok (.aload_n 0, 1) := by decide +kernel
theorem dX9_init_27 : decode cX9_init 27 = .ok (.new 24, 3) := by decide +kernel
theorem dX9_init_30 : decode cX9_init 30 = .ok (.dup, 1) := by decide +kernel
theorem dX9_init_31 : decode cX9_init 31 = .ok (.invokespecial 26, 3) := by decide +kernel
theorem dX9_init_34 : decode cX9_init 34 = .ok (.putfield 27, 3) := by decide +kernel
theorem dX9_init_37 : decode cX9_init 37 = .ok (.aload_n 0, 1) := by decide +kernel
theorem dX9_init_38 : decode cX9_init 38 = .ok (.new 30, 3) := by decide +kernel
theorem dX9_init_41 : decode cX9_init 41 = .ok (.dup, 1) := by decide +kernel
theorem dX9_init_42 : decode cX9_init 42 = .ok (.invokespecial 32, 3) := by decide +kernel
theorem dX9_init_45 : decode cX9_init 45 = .ok (.putfield 33, 3) := by decide +kernel
theorem dX9_init_48 : decode cX9_init 48 = .ok (.aload_n 0, 1) := by decide +kernel
theorem dX9_init_49 : decode cX9_init 49 = .ok (.bipush 6, 2) := by decide +kernel
theorem dX9_init_51 : decode cX9_init 51 = .ok (.newarray .int, 2) := by decide +kernel
theorem dX9_init_53 : decode cX9_init 53 = .ok (.putfield 36, 3) := by decide +kernel
theorem dX9_init_56 : decode cX9_init 56 = .ok (.aload_n 0, 1) := by decide +kernel
theorem dX9_init_57 : decode cX9_init 57 = .ok (.iconst 4, 1) := by decide +kernel
theorem dX9_init_58 : decode cX9_init 58 = .ok (.newarray .int, 2) := by decide +kernel
theorem dX9_init_60 : decode cX9_init 60 = .ok (.putfield 40, 3) := by decide +kernel
theorem dX9_init_63 : decode cX9_init 63 = .ok (.aload_n 0, 1) := by decide +kernel
theorem dX9_init_64 : decode cX9_init 64 = .ok (.iconst 4, 1) := by decide +kernel
theorem dX9_init_65 : decode cX9_init 65 = .ok (.newarray .int, 2) := by decide +kernel
theorem dX9_init_67 : decode cX9_init 67 = .ok (.putfield 43, 3) := by decide +kernel
theorem dX9_init_70 : decode cX9_init 70 = .ok (.aload_n 0, 1) := by decide +kernel
theorem dX9_init_71 : decode cX9_init 71 = .ok (.bipush 24, 2) := by decide +kernel
theorem dX9_init_73 : decode cX9_init 73 = .ok (.newarray .int, 2) := by decide +kernel
theorem dX9_init_75 : decode cX9_init 75 = .ok (.putfield 46, 3) := by decide +kernel
theorem dX9_init_78 : decode cX9_init 78 = .ok (.aload_n 0, 1) := by decide +kernel
theorem dX9_init_79 : decode cX9_init 79 = .ok (.new 49, 3) := by decide +kernel
theorem dX9_init_82 : decode cX9_init 82 = .ok (.dup, 1) := by decide +kernel
theorem dX9_init_83 : decode cX9_init 83 = .ok (.invokespecial 51, 3) := by decide +kernel
theorem dX9_init_86 : decode cX9_init 86 = .ok (.putfield 52, 3) := by decide +kernel
theorem dX9_init_89 : decode cX9_init 89 = .ok (.aload_n 0, 1) := by decide +kernel
theorem dX9_init_90 : decode cX9_init 90 = .ok (.iconst 1, 1) := by decide +kernel
theorem dX9_init_91 : decode cX9_init 91 = .ok (.putfield 56, 3) := by decide +kernel
theorem dX9_init_94 : decode cX9_init 94 = .ok (.aload_n 0, 1) := by decide +kernel
theorem dX9_init_95 : decode cX9_init 95 = .ok (.iconst 0, 1) := by decide +kernel
theorem dX9_init_96 : decode cX9_init 96 = .ok (.putfield 60, 3) := by decide +kernel
theorem dX9_init_99 : decode cX9_init 99 = .ok (.aload_n 0, 1) := by decide +kernel
theorem dX9_init_100 : decode cX9_init 100 = .ok (.getfield 36, 3) := by decide +kernel
theorem dX9_init_103 : decode cX9_init 103 = .ok (.iconst 0, 1) := by decide +kernel
theorem dX9_init_104 : decode cX9_init 104 = .ok (.iconst 1, 1) := by decide +kernel
theorem dX9_init_105 : decode cX9_init 105 = .ok (.iastore, 1) := by decide +kernel
theorem dX9_init_106 : decode cX9_init 106 = .ok (.return_, 1) := by decide +kernel
theorem dX9_copyFrom_0 : decode cX9_copyFrom 0 = .ok (.aload_n 1, 1) := by decide +kernel
theorem dX9_copyFrom_1 : decode cX9_copyFrom 1 = .ok (.getfield 36, 3) := by decide +kernel
theorem dX9_copyFrom_4 : decode cX9_copyFrom 4 = .ok (.iconst 0, 1) := by decide +kernel
theorem dX9_copyFrom_5 : decode cX9_copyFrom 5 = .ok (.aload_n 0, 1) := by decide +kernel
theorem dX9_copyFrom_6 : decode cX9_copyFrom 6 = .ok (.getfield 36, 3) := by decide +kernel
theorem dX9_copyFrom_9 : decode cX9_copyFrom 9 = .ok (.iconst 0, 1) := by decide +kernel
theorem dX9_copyFrom_10 : decode cX9_copyFrom 10 = .ok (.bipush 6, 2) := by decide +kernel
theorem dX9_copyFrom_12 : decode cX9_copyFrom 12 = .ok (.invokestatic 63, 3) := by decide +kernel
theorem dX9_copyFrom_15 : decode cX9_copyFrom 15 = .ok (.aload_n 1, 1) := by decide +kernel
theorem dX9_copyFrom_16 : decode cX9_copyFrom 16 = .ok (.getfield 40, 3) := by decide +kernel
theorem dX9_copyFrom_19 : decode cX9_copyFrom 19 = .ok (.iconst 0, 1) := by decide +kernel
theorem dX9_copyFrom_20 : decode cX9_copyFrom 20 = .ok (.aload_n 0, 1) := by decide +kernel
theorem dX9_copyFrom_21 : decode cX9_copyFrom 21 = .ok (.getfield 40, 3) := by decide +kernel
theorem dX9_copyFrom_24 : decode cX9_copyFrom 24 = .ok (.iconst 0, 1) := by decide +kernel
theorem dX9_copyFrom_25 : decode cX9_copyFrom 25 = .ok (.iconst 4, 1) := by decide +kernel
theorem dX9_copyFrom_26 : decode cX9_copyFrom 26 = .ok (.invokestatic 63, 3) := by decide +kernel
theorem dX9_copyFrom_29 : decode cX9_copyFrom 29 = .ok (.aload_n 1, 1) := by decide +kernel
theorem dX9_copyFrom_30 : decode cX9_copyFrom 30 = .ok (.getfield 43, 3) := by decide +kernel
theorem dX9_copyFrom_33 : decode cX9_copyFrom 33 = .ok (.iconst 0, 1) := by decide +kernel
theorem dX9_copyFrom_34 : decode cX9_copyFrom 34 = .ok (.aload_n 0, 1) := by decide +kernel
theorem dX9_copyFrom_35 : decode cX9_copyFrom 35 = .ok (.getfield 43, 3) := by decide +kernel
theorem dX9_copyFrom_38 : decode cX9_copyFrom 38 = .ok (.iconst 0, 1) := by decide +kernel
theorem dX9_copyFrom_39 : decode cX9_copyFrom 39 = .ok (.iconst 4, 1) := by decide +kernel
theorem dX9_copyFrom_40 : decode cX9_copyFrom 40 = .ok (.invokestatic 63, 3) := by decide +kernel
theorem dX9_copyFrom_43 : decode cX9_copyFrom 43 = .ok (.aload_n 1, 1) := by decide +kernel
theorem dX9_copyFrom_44 : decode cX9_copyFrom 44 = .ok (.getfield 46, 3) := by decide +kernel
theorem dX9_copyFrom_47 : decode cX9_copyFrom 47 = .ok (.iconst 0, 1) := by decide +kernel
theorem dX9_copyFrom_48 : decode cX9_copyFrom 48 = .ok (.aload_n 0, 1) := by decide +kernel
theorem dX9_copyFrom_49 : decode cX9_copyFrom 49 = .ok (.getfield 46, 3) := by decide +kernel
theorem dX9_copyFrom_52 : decode cX9_copyFrom 52 = .ok (.iconst 0, 1) := by decide +kernel
theorem dX9_copyFrom_53 : decode cX9_copyFrom 53 = .ok (.bipush 24, 2) := by decide +kernel
theorem dX9_copyFrom_55 : decode cX9_copyFrom 55 = .ok (.invokestatic 63, 3) := by decide +kernel
theorem dX9_copyFrom_58 : decode cX9_copyFrom 58 = .ok (.aload_n 0, 1) := by decide +kernel
theorem dX9_copyFrom_59 : decode cX9_copyFrom 59 = .ok (.getfield 52, 3) := by decide +kernel
theorem dX9_copyFrom_62 : decode cX9_copyFrom 62 = .ok (.aload_n 1, 1) := by decide +kernel
theorem dX9_copyFrom_63 : decode cX9_copyFrom 63 = .ok (.getfield 52, 3) := by decide +kernel
theorem dX9_copyFrom_66 : decode cX9_copyFrom 66 = .ok (.invokevirtual 69, 3) := by decide +kernel
theorem dX9_copyFrom_69 : decode cX9_copyFrom 69 = .ok (.aload_n 0, 1) := by decide +kernel
theorem dX9_copyFrom_70 : decode cX9_copyFrom 70 = .ok (.aload_n 1, 1) := by decide +kernel
theorem dX9_copyFrom_71 : decode cX9_copyFrom 71 = .ok (.getfield 56, 3) := by decide +kernel
theorem dX9_copyFrom_74 : decode cX9_copyFrom 74 = .ok (.putfield 56, 3) := by decide +kernel
theorem dX9_copyFrom_77 : decode cX9_copyFrom 77 = .ok (.aload_n 0, 1) := by decide +kernel
theorem dX9_copyFrom_78 : decode cX9_copyFrom 78 = .ok (.aload_n 1, 1) := by decide +kernel
theorem dX9_copyFrom_79 : decode cX9_copyFrom 79 = .ok (.getfield 73, 3) := by decide +kernel
theorem dX9_copyFrom_82 : decode cX9_copyFrom 82 = .ok (.putfield 73, 3) := by decide +kernel
theorem dX9_copyFrom_85 : decode cX9_copyFrom 85 = .ok (.aload_n 0, 1) := by decide +kernel
theorem dX9_copyFrom_86 : decode cX9_copyFrom 86 = .ok (.aload_n 1, 1) := by decide +kernel
theorem dX9_copyFrom_87 : decode cX9_copyFrom 87 = .ok (.getfield 60, 3) := by decide +kernel
theorem dX9_copyFrom_90 : decode cX9_copyFrom 90 = .ok (.putfield 60, 3) := by decide +kernel
theorem dX9_copyFrom_93 : decode cX9_copyFrom 93 = .ok (.return_, 1) := by decide +kernel
theorem dX9_hasKind_0 : decode cX9_hasKind 0 = .ok (.iload_n 1, 1) := by decide +kernel
theorem dX9_hasKind_1 : decode cX9_hasKind 1 = .ok (.ifCond .lt 15, 3) := by decide +kernel
theorem dX9_hasKind_4 : decode cX9_hasKind 4 = .ok (.iload_n 1, 1) := by decide +kernel
theorem dX9_hasKind_5 : decode cX9_hasKind 5 = .ok (.aload_n 0, 1) := by decide +kernel
theorem dX9_hasKind_6 : decode cX9_hasKind 6 = .ok (.getfield 56, 3) := by decide +kernel
theorem dX9_hasKind_9 : decode cX9_hasKind 9 = .ok (.if_icmp .ge 7, 3) := by decide +kernel
theorem dX9_hasKind_12 : decode cX9_hasKind 12 = .ok (.iconst 1, 1) := by decide +kernel
theorem dX9_hasKind_13 : decode cX9_hasKind 13 = .ok (.goto 4, 3) := by decide +kernel
theorem dX9_hasKind_16 : decode cX9_hasKind 16 = .ok (.iconst 0, 1) := by decide +kernel
theorem dX9_hasKind_17 : decode cX9_hasKind 17 = .ok (.ireturn, 1) := by decide +kernel
theorem dX9_worthOf_0 : decode cX9_worthOf 0 = .ok (.iload_n 1, 1) := by decide +kernel
theorem dX9_worthOf_1 : decode cX9_worthOf 1 = .ok (.ifCond .lt 18, 3) := by decide +kernel
theorem dX9_worthOf_4 : decode cX9_worthOf 4 = .ok (.iload_n 1, 1) := by decide +kernel
theorem dX9_worthOf_5 : decode cX9_worthOf 5 = .ok (.bipush 6, 2) := by decide +kernel
theorem dX9_worthOf_7 : decode cX9_worthOf 7 = .ok (.if_icmp .ge 12, 3) := by decide +kernel
theorem dX9_worthOf_10 : decode cX9_worthOf 10 = .ok (.aload_n 0, 1) := by decide +kernel
theorem dX9_worthOf_11 : decode cX9_worthOf 11 = .ok (.getfield 36, 3) := by decide +kernel
theorem dX9_worthOf_14 : decode cX9_worthOf 14 = .ok (.iload_n 1, 1) := by decide +kernel
theorem dX9_worthOf_15 : decode cX9_worthOf 15 = .ok (.iaload, 1) := by decide +kernel
theorem dX9_worthOf_16 : decode cX9_worthOf 16 = .ok (.goto 4, 3) := by decide +kernel
theorem dX9_worthOf_19 : decode cX9_worthOf 19 = .ok (.iconst 0, 1) := by decide +kernel
theorem dX9_worthOf_20 : decode cX9_worthOf 20 = .ok (.ireturn, 1) := by decide +kernel
theorem dX9_addKind_0 : decode cX9_addKind 0 = .ok (.aload_n 0, 1) := by decide +kernel
theorem dX9_addKind_1 : decode cX9_addKind 1 = .ok (.getfield 56, 3) := by decide +kernel
theorem dX9_addKind_4 : decode cX9_addKind 4 = .ok (.ifCond .lt 32, 3) := by decide +kernel
theorem dX9_addKind_7 : decode cX9_addKind 7 = .ok (.aload_n 0, 1) := by decide +kernel
theorem dX9_addKind_8 : decode cX9_addKind 8 = .ok (.getfield 56, 3) := by decide +kernel
theorem dX9_addKind_11 : decode cX9_addKind 11 = .ok (.bipush 6, 2) := by decide +kernel
theorem dX9_addKind_13 : decode cX9_addKind 13 = .ok (.if_icmp .ge 23, 3) := by decide +kernel
theorem dX9_addKind_16 : decode cX9_addKind 16 = .ok (.aload_n 0, 1) := by decide +kernel
theorem dX9_addKind_17 : decode cX9_addKind 17 = .ok (.getfield 36, 3) := by decide +kernel
theorem dX9_addKind_20 : decode cX9_addKind 20 = .ok (.aload_n 0, 1) := by decide +kernel
theorem dX9_addKind_21 : decode cX9_addKind 21 = .ok (.getfield 56, 3) := by decide +kernel
theorem dX9_addKind_24 : decode cX9_addKind 24 = .ok (.iload_n 1, 1) := by decide +kernel
theorem dX9_addKind_25 : decode cX9_addKind 25 = .ok (.iastore, 1) := by decide +kernel
theorem dX9_addKind_26 : decode cX9_addKind 26 = .ok (.aload_n 0, 1) := by decide +kernel
theorem dX9_addKind_27 : decode cX9_addKind 27 = .ok (.dup, 1) := by decide +kernel
theorem dX9_addKind_28 : decode cX9_addKind 28 = .ok (.getfield 56, 3) := by decide +kernel
theorem dX9_addKind_31 : decode cX9_addKind 31 = .ok (.iconst 1, 1) := by decide +kernel
theorem dX9_addKind_32 : decode cX9_addKind 32 = .ok (.iadd, 1) := by decide +kernel
theorem dX9_addKind_33 : decode cX9_addKind 33 = .ok (.putfield 56, 3) := by decide +kernel
theorem dX9_addKind_36 : decode cX9_addKind 36 = .ok (.return_, 1) := by decide +kernel
theorem dX9_setHabit_0 : decode cX9_setHabit 0 = .ok (.iload_n 1, 1) := by decide +kernel
theorem dX9_setHabit_1 : decode cX9_setHabit 1 = .ok (.invokestatic 76, 3) := by decide +kernel
theorem dX9_setHabit_4 : decode cX9_setHabit 4 = .ok (.ifCond .eq 17, 3) := by decide +kernel
theorem dX9_setHabit_7 : decode cX9_setHabit 7 = .ok (.aload_n 0, 1) := by decide +kernel
theorem dX9_setHabit_8 : decode cX9_setHabit 8 = .ok (.getfield 40, 3) := by decide +kernel
theorem dX9_setHabit_11 : decode cX9_setHabit 11 = .ok (.iload_n 1, 1) := by decide +kernel
theorem dX9_setHabit_12 : decode cX9_setHabit 12 = .ok (.iload_n 2, 1) := by decide +kernel
theorem dX9_setHabit_13 : decode cX9_setHabit 13 = .ok (.iastore, 1) := by decide +kernel
theorem dX9_setHabit_14 : decode cX9_setHabit 14 = .ok (.aload_n 0, 1) := by decide +kernel
theorem dX9_setHabit_15 : decode cX9_setHabit 15 = .ok (.getfield 43, 3) := by decide +kernel
theorem dX9_setHabit_18 : decode cX9_setHabit 18 = .ok (.iload_n 1, 1) := by decide +kernel
theorem dX9_setHabit_19 : decode cX9_setHabit 19 = .ok (.iload_n 3, 1) := by decide +kernel
theorem dX9_setHabit_20 : decode cX9_setHabit 20 = .ok (.iastore, 1) := by decide +kernel
theorem dX9_setHabit_21 : decode cX9_setHabit 21 = .ok (.return_, 1) := by decide +kernel
theorem dX9_boundOf_0 : decode cX9_boundOf 0 = .ok (.iload_n 1, 1) := by decide +kernel
theorem dX9_boundOf_1 : decode cX9_boundOf 1 = .ok (.ifCond .lt 17, 3) := by decide +kernel
theorem dX9_boundOf_4 : decode cX9_boundOf 4 = .ok (.iload_n 1, 1) := by decide +kernel
theorem dX9_boundOf_5 : decode cX9_boundOf 5 = .ok (.iconst 4, 1) := by decide +kernel
theorem dX9_boundOf_6 : decode cX9_boundOf 6 = .ok (.if_icmp .ge 12, 3) := by decide +kernel
theorem dX9_boundOf_9 : decode cX9_boundOf 9 = .ok (.aload_n 0, 1) := by decide +kernel
theorem dX9_boundOf_10 : decode cX9_boundOf 10 = .ok (.getfield 43, 3) := by decide +kernel
theorem dX9_boundOf_13 : decode cX9_boundOf 13 = .ok (.iload_n 1, 1) := by decide +kernel
theorem dX9_boundOf_14 : decode cX9_boundOf 14 = .ok (.iaload, 1) := by decide +kernel
theorem dX9_boundOf_15 : decode cX9_boundOf 15 = .ok (.goto 4, 3) := by decide +kernel
theorem dX9_boundOf_18 : decode cX9_boundOf 18 = .ok (.iconst 0, 1) := by decide +kernel
theorem dX9_boundOf_19 : decode cX9_boundOf 19 = .ok (.ireturn, 1) := by decide +kernel
theorem dX9_folkOf_0 : decode cX9_folkOf 0 = .ok (.iload_n 1, 1) := by decide +kernel
theorem dX9_folkOf_1 : decode cX9_folkOf 1 = .ok (.invokestatic 76, 3) := by decide +kernel
theorem dX9_folkOf_4 : decode cX9_folkOf 4 = .ok (.ifCond .eq 12, 3) := by decide +kernel
theorem dX9_folkOf_7 : decode cX9_folkOf 7 = .ok (.aload_n 0, 1) := by decide +kernel
theorem dX9_folkOf_8 : decode cX9_folkOf 8 = .ok (.getfield 40, 3) := by decide +kernel
theorem dX9_folkOf_11 : decode cX9_folkOf 11 = .ok (.iload_n 1, 1) := by decide +kernel
theorem dX9_folkOf_12 : decode cX9_folkOf 12 = .ok (.iaload, 1) := by decide +kernel
theorem dX9_folkOf_13 : decode cX9_folkOf 13 = .ok (.goto 4, 3) := by decide +kernel
theorem dX9_folkOf_16 : decode cX9_folkOf 16 = .ok (.iconst 0, 1) := by decide +kernel
theorem dX9_folkOf_17 : decode cX9_folkOf 17 = .ok (.tableswitch 42 1 3 #[27, 32, 37], 27) := by decide +kernel
theorem dX9_folkOf_44 : decode cX9_folkOf 44 = .ok (.aload_n 0, 1) := by decide +kernel
theorem dX9_folkOf_45 : decode cX9_folkOf 45 = .ok (.getfield 21, 3) := by decide +kernel
theorem dX9_folkOf_48 : decode cX9_folkOf 48 = .ok (.areturn, 1) := by decide +kernel
theorem dX9_folkOf_49 : decode cX9_folkOf 49 = .ok (.aload_n 0, 1) := by decide +kernel
theorem dX9_folkOf_50 : decode cX9_folkOf 50 = .ok (.getfield 27, 3) := by decide +kernel
theorem dX9_folkOf_53 : decode cX9_folkOf 53 = .ok (.areturn, 1) := by decide +kernel
theorem dX9_folkOf_54 : decode cX9_folkOf 54 = .ok (.aload_n 0, 1) := by decide +kernel
theorem dX9_folkOf_55 : decode cX9_folkOf 55 = .ok (.getfield 33, 3) := by decide +kernel
theorem dX9_folkOf_58 : decode cX9_folkOf 58 = .ok (.areturn, 1) := by decide +kernel
theorem dX9_folkOf_59 : decode cX9_folkOf 59 = .ok (.aload_n 0, 1) := by decide +kernel
theorem dX9_folkOf_60 : decode cX9_folkOf 60 = .ok (.getfield 12, 3) := by decide +kernel
theorem dX9_folkOf_63 : decode cX9_folkOf 63 = .ok (.areturn, 1) := by decide +kernel
theorem dX9_addVisit_0 : decode cX9_addVisit 0 = .ok (.aload_n 0, 1) := by decide +kernel
theorem dX9_addVisit_1 : decode cX9_addVisit 1 = .ok (.getfield 73, 3) := by decide +kernel
theorem dX9_addVisit_4 : decode cX9_addVisit 4 = .ok (.ifCond .lt 32, 3) := by decide +kernel
theorem dX9_addVisit_7 : decode cX9_addVisit 7 = .ok (.aload_n 0, 1) := by decide +kernel
theorem dX9_addVisit_8 : decode cX9_addVisit 8 = .ok (.getfield 73, 3) := by decide +kernel
theorem dX9_addVisit_11 : decode cX9_addVisit 11 = .ok (.bipush 24, 2) := by decide +kernel
theorem dX9_addVisit_13 : decode cX9_addVisit 13 = .ok (.if_icmp .ge 23, 3) := by decide +kernel
theorem dX9_addVisit_16 : decode cX9_addVisit 16 = .ok (.aload_n 0, 1) := by decide +kernel
theorem dX9_addVisit_17 : decode cX9_addVisit 17 = .ok (.getfield 46, 3) := by decide +kernel
theorem dX9_addVisit_20 : decode cX9_addVisit 20 = .ok (.aload_n 0, 1) := by decide +kernel
theorem dX9_addVisit_21 : decode cX9_addVisit 21 = .ok (.getfield 73, 3) := by decide +kernel
theorem dX9_addVisit_24 : decode cX9_addVisit 24 = .ok (.iload_n 1, 1) := by decide +kernel
theorem dX9_addVisit_25 : decode cX9_addVisit 25 = .ok (.iastore, 1) := by decide +kernel
theorem dX9_addVisit_26 : decode cX9_addVisit 26 = .ok (.aload_n 0, 1) := by decide +kernel
theorem dX9_addVisit_27 : decode cX9_addVisit 27 = .ok (.dup, 1) := by decide +kernel
theorem dX9_addVisit_28 : decode cX9_addVisit 28 = .ok (.getfield 73, 3) := by decide +kernel
theorem dX9_addVisit_31 : decode cX9_addVisit 31 = .ok (.iconst 1, 1) := by decide +kernel
theorem dX9_addVisit_32 : decode cX9_addVisit 32 = .ok (.iadd, 1) := by decide +kernel
theorem dX9_addVisit_33 : decode cX9_addVisit 33 = .ok (.putfield 73, 3) := by decide +kernel
theorem dX9_addVisit_36 : decode cX9_addVisit 36 = .ok (.return_, 1) := by decide +kernel
theorem dX9_visitor_0 : decode cX9_visitor 0 = .ok (.iload_n 1, 1) := by decide +kernel
theorem dX9_visitor_1 : decode cX9_visitor 1 = .ok (.ifCond .lt 26, 3) := by decide +kernel
theorem dX9_visitor_4 : decode cX9_visitor 4 = .ok (.iload_n 1, 1) := by decide +kernel
theorem dX9_visitor_5 : decode cX9_visitor 5 = .ok (.aload_n 0, 1) := by decide +kernel
theorem dX9_visitor_6 : decode cX9_visitor 6 = .ok (.getfield 73, 3) := by decide +kernel
theorem dX9_visitor_9 : decode cX9_visitor 9 = .ok (.if_icmp .ge 18, 3) := by decide +kernel
theorem dX9_visitor_12 : decode cX9_visitor 12 = .ok (.iload_n 1, 1) := by decide +kernel
theorem dX9_visitor_13 : decode cX9_visitor 13 = .ok (.bipush 24, 2) := by decide +kernel
theorem dX9_visitor_15 : decode cX9_visitor 15 = .ok (.if_icmp .ge 12, 3) := by decide +kernel
theorem dX9_visitor_18 : decode cX9_visitor 18 = .ok (.aload_n 0, 1) := by decide +kernel
theorem dX9_visitor_19 : decode cX9_visitor 19 = .ok (.getfield 46, 3) := by decide +kernel
theorem dX9_visitor_22 : decode cX9_visitor 22 = .ok (.iload_n 1, 1) := by decide +kernel
theorem dX9_visitor_23 : decode cX9_visitor 23 = .ok (.iaload, 1) := by decide +kernel
theorem dX9_visitor_24 : decode cX9_visitor 24 = .ok (.goto 4, 3) := by decide +kernel
theorem dX9_visitor_27 : decode cX9_visitor 27 = .ok (.iconst (-1), 1) := by decide +kernel
theorem dX9_visitor_28 : decode cX9_visitor 28 = .ok (.ireturn, 1) := by decide +kernel
theorem dX9_visitsLeft_0 : decode cX9_visitsLeft 0 = .ok (.iconst 0, 1) := by decide +kernel
theorem dX9_visitsLeft_1 : decode cX9_visitsLeft 1 = .ok (.istore_n 3, 1) := by decide +kernel
theorem dX9_visitsLeft_2 : decode cX9_visitsLeft 2 = .ok (.aload_n 1, 1) := by decide +kernel
theorem dX9_visitsLeft_3 : decode cX9_visitsLeft 3 = .ok (.getfield 80, 3) := by decide +kernel
theorem dX9_visitsLeft_6 : decode cX9_visitsLeft 6 = .ok (.istore 4, 2) := by decide +kernel
theorem dX9_visitsLeft_8 : decode cX9_visitsLeft 8 = .ok (.iload 4, 2) := by decide +kernel
theorem dX9_visitsLeft_10 : decode cX9_visitsLeft 10 = .ok (.aload_n 0, 1) := by decide +kernel
theorem dX9_visitsLeft_11 : decode cX9_visitsLeft 11 = .ok (.getfield 73, 3) := by decide +kernel
theorem dX9_visitsLeft_14 : decode cX9_visitsLeft 14 = .ok (.if_icmp .ge 22, 3) := by decide +kernel
theorem dX9_visitsLeft_17 : decode cX9_visitsLeft 17 = .ok (.iload_n 3, 1) := by decide +kernel
theorem dX9_visitsLeft_18 : decode cX9_visitsLeft 18 = .ok (.iload_n 2, 1) := by decide +kernel
theorem dX9_visitsLeft_19 : decode cX9_visitsLeft 19 = .ok (.aload_n 0, 1) := by decide +kernel
theorem dX9_visitsLeft_20 : decode cX9_visitsLeft 20 = .ok (.iload 4, 2) := by decide +kernel
theorem dX9_visitsLeft_22 : decode cX9_visitsLeft 22 = .ok (.invokevirtual 83, 3) := by decide +kernel
theorem dX9_visitsLeft_25 : decode cX9_visitsLeft 25 = .ok (.ishr, 1) := by decide +kernel
theorem dX9_visitsLeft_26 : decode cX9_visitsLeft 26 = .ok (.iconst 1, 1) := by decide +kernel
theorem dX9_visitsLeft_27 : decode cX9_visitsLeft 27 = .ok (.iand, 1) := by decide +kernel
theorem dX9_visitsLeft_28 : decode cX9_visitsLeft 28 = .ok (.iadd, 1) := by decide +kernel
theorem dX9_visitsLeft_29 : decode cX9_visitsLeft 29 = .ok (.istore_n 3, 1) := by decide +kernel
theorem dX9_visitsLeft_30 : decode cX9_visitsLeft 30 = .ok (.iinc 4 1, 3) := by decide +kernel
theorem dX9_visitsLeft_33 : decode cX9_visitsLeft 33 = .ok (.goto (-25), 3) := by decide +kernel
theorem dX9_visitsLeft_36 : decode cX9_visitsLeft 36 = .ok (.iload_n 3, 1) := by decide +kernel
theorem dX9_visitsLeft_37 : decode cX9_visitsLeft 37 = .ok (.ireturn, 1) := by decide +kernel
theorem dX9_wealth_0 : decode cX9_wealth 0 = .ok (.iconst 0, 1) := by decide +kernel
theorem dX9_wealth_1 : decode cX9_wealth 1 = .ok (.istore_n 3, 1) := by decide +kernel
theorem dX9_wealth_2 : decode cX9_wealth 2 = .ok (.iconst 0, 1) := by decide +kernel
theorem dX9_wealth_3 : decode cX9_wealth 3 = .ok (.istore 4, 2) := by decide +kernel
theorem dX9_wealth_5 : decode cX9_wealth 5 = .ok (.iload 4, 2) := by decide +kernel
theorem dX9_wealth_7 : decode cX9_wealth 7 = .ok (.aload_n 0, 1) := by decide +kernel
theorem dX9_wealth_8 : decode cX9_wealth 8 = .ok (.getfield 56, 3) := by decide +kernel
theorem dX9_wealth_11 : decode cX9_wealth 11 = .ok (.if_icmp .ge 26, 3) := by decide +kernel
theorem dX9_wealth_14 : decode cX9_wealth 14 = .ok (.iload_n 3, 1) := by decide +kernel
theorem dX9_wealth_15 : decode cX9_wealth 15 = .ok (.aload_n 0, 1) := by decide +kernel
theorem dX9_wealth_16 : decode cX9_wealth 16 = .ok (.iload 4, 2) := by decide +kernel
theorem dX9_wealth_18 : decode cX9_wealth 18 = .ok (.invokevirtual 87, 3) := by decide +kernel
theorem dX9_wealth_21 : decode cX9_wealth 21 = .ok (.aload_n 1, 1) := by decide +kernel
theorem dX9_wealth_22 : decode cX9_wealth 22 = .ok (.iload_n 2, 1) := by decide +kernel
theorem dX9_wealth_23 : decode cX9_wealth 23 = .ok (.iload 4, 2) := by decide +kernel
theorem dX9_wealth_25 : decode cX9_wealth 25 = .ok (.invokevirtual 90, 3) := by decide +kernel
theorem dX9_wealth_28 : decode cX9_wealth 28 = .ok (.imul, 1) := by decide +kernel
theorem dX9_wealth_29 : decode cX9_wealth 29 = .ok (.iadd, 1) := by decide +kernel
theorem dX9_wealth_30 : decode cX9_wealth 30 = .ok (.istore_n 3, 1) := by decide +kernel
theorem dX9_wealth_31 : decode cX9_wealth 31 = .ok (.iinc 4 1, 3) := by decide +kernel
theorem dX9_wealth_34 : decode cX9_wealth 34 = .ok (.goto (-29), 3) := by decide +kernel
theorem dX9_wealth_37 : decode cX9_wealth 37 = .ok (.iload_n 3, 1) := by decide +kernel
theorem dX9_wealth_38 : decode cX9_wealth 38 = .ok (.ireturn, 1) := by decide +kernel
theorem dX9_gainOf_0 : decode cX9_gainOf 0 = .ok (.aload_n 0, 1) := by decide +kernel
theorem dX9_gainOf_1 : decode cX9_gainOf 1 = .ok (.iload_n 2, 1) := by decide +kernel
theorem dX9_gainOf_2 : decode cX9_gainOf 2 = .ok (.invokevirtual 87, 3) := by decide +kernel
theorem dX9_gainOf_5 : decode cX9_gainOf 5 = .ok (.ineg, 1) := by decide +kernel
theorem dX9_gainOf_6 : decode cX9_gainOf 6 = .ok (.istore_n 3, 1) := by decide +kernel
theorem dX9_gainOf_7 : decode cX9_gainOf 7 = .ok (.aload_n 0, 1) := by decide +kernel
theorem dX9_gainOf_8 : decode cX9_gainOf 8 = .ok (.iload_n 2, 1) := by decide +kernel
theorem dX9_gainOf_9 : decode cX9_gainOf 9 = .ok (.invokevirtual 94, 3) := by decide +kernel
theorem dX9_gainOf_12 : decode cX9_gainOf 12 = .ok (.istore 4, 2) := by decide +kernel
theorem dX9_gainOf_14 : decode cX9_gainOf 14 = .ok (.iload 4, 2) := by decide +kernel
theorem dX9_gainOf_16 : decode cX9_gainOf 16 = .ok (.ifCond .lt 52, 3) := by decide +kernel
theorem dX9_gainOf_19 : decode cX9_gainOf 19 = .ok (.aload_n 1, 1) := by decide +kernel
theorem dX9_gainOf_20 : decode cX9_gainOf 20 = .ok (.iconst 4, 1) := by decide +kernel
theorem dX9_gainOf_21 : decode cX9_gainOf 21 = .ok (.iload 4, 2) := by decide +kernel
theorem dX9_gainOf_23 : decode cX9_gainOf 23 = .ok (.invokevirtual 90, 3) := by decide +kernel
theorem dX9_gainOf_26 : decode cX9_gainOf 26 = .ok (.aload_n 0, 1) := by decide +kernel
theorem dX9_gainOf_27 : decode cX9_gainOf 27 = .ok (.invokevirtual 97, 3) := by decide +kernel
theorem dX9_gainOf_30 : decode cX9_gainOf 30 = .ok (.invokestatic 101, 3) := by decide +kernel
theorem dX9_gainOf_33 : decode cX9_gainOf 33 = .ok (.istore 5, 2) := by decide +kernel
theorem dX9_gainOf_35 : decode cX9_gainOf 35 = .ok (.iload_n 3, 1) := by decide +kernel
theorem dX9_gainOf_36 : decode cX9_gainOf 36 = .ok (.aload_n 0, 1) := by decide +kernel
theorem dX9_gainOf_37 : decode cX9_gainOf 37 = .ok (.iload 4, 2) := by decide +kernel
theorem dX9_gainOf_39 : decode cX9_gainOf 39 = .ok (.invokevirtual 87, 3) := by decide +kernel
theorem dX9_gainOf_42 : decode cX9_gainOf 42 = .ok (.iload 5, 2) := by decide +kernel
theorem dX9_gainOf_44 : decode cX9_gainOf 44 = .ok (.imul, 1) := by decide +kernel
theorem dX9_gainOf_45 : decode cX9_gainOf 45 = .ok (.iadd, 1) := by decide +kernel
theorem dX9_gainOf_46 : decode cX9_gainOf 46 = .ok (.istore_n 3, 1) := by decide +kernel
theorem dX9_gainOf_47 : decode cX9_gainOf 47 = .ok (.iload 5, 2) := by decide +kernel
theorem dX9_gainOf_49 : decode cX9_gainOf 49 = .ok (.ifCond .le 13, 3) := by decide +kernel
theorem dX9_gainOf_52 : decode cX9_gainOf 52 = .ok (.aload_n 0, 1) := by decide +kernel
theorem dX9_gainOf_53 : decode cX9_gainOf 53 = .ok (.invokevirtual 106, 3) := by decide +kernel
theorem dX9_gainOf_56 : decode cX9_gainOf 56 = .ok (.ifCond .eq 6, 3) := by decide +kernel
theorem dX9_gainOf_59 : decode cX9_gainOf 59 = .ok (.goto 9, 3) := by decide +kernel
theorem dX9_gainOf_62 : decode cX9_gainOf 62 = .ok (.iinc 4 (-1), 3) := by decide +kernel
theorem dX9_gainOf_65 : decode cX9_gainOf 65 = .ok (.goto (-51), 3) := by decide +kernel
theorem dX9_gainOf_68 : decode cX9_gainOf 68 = .ok (.iload_n 3, 1) := by decide +kernel
theorem dX9_gainOf_69 : decode cX9_gainOf 69 = .ok (.ireturn, 1) := by decide +kernel
theorem dX9_throwCoin_0 : decode cX9_throwCoin 0 = .ok (.aload_n 0, 1) := by decide +kernel
theorem dX9_throwCoin_1 : decode cX9_throwCoin 1 = .ok (.iload_n 3, 1) := by decide +kernel
theorem dX9_throwCoin_2 : decode cX9_throwCoin 2 = .ok (.invokevirtual 94, 3) := by decide +kernel
theorem dX9_throwCoin_5 : decode cX9_throwCoin 5 = .ok (.istore 4, 2) := by decide +kernel
theorem dX9_throwCoin_7 : decode cX9_throwCoin 7 = .ok (.iload 4, 2) := by decide +kernel
theorem dX9_throwCoin_9 : decode cX9_throwCoin 9 = .ok (.ifCond .lt 59, 3) := by decide +kernel
theorem dX9_throwCoin_12 : decode cX9_throwCoin 12 = .ok (.aload_n 1, 1) := by decide +kernel
theorem dX9_throwCoin_13 : decode cX9_throwCoin 13 = .ok (.iconst 4, 1) := by decide +kernel
theorem dX9_throwCoin_14 : decode cX9_throwCoin 14 = .ok (.iload 4, 2) := by decide +kernel
theorem dX9_throwCoin_16 : decode cX9_throwCoin 16 = .ok (.invokevirtual 90, 3) := by decide +kernel
theorem dX9_throwCoin_19 : decode cX9_throwCoin 19 = .ok (.aload_n 0, 1) := by decide +kernel
theorem dX9_throwCoin_20 : decode cX9_throwCoin 20 = .ok (.invokevirtual 97, 3) := by decide +kernel
theorem dX9_throwCoin_23 : decode cX9_throwCoin 23 = .ok (.invokestatic 101, 3) := by decide +kernel
theorem dX9_throwCoin_26 : decode cX9_throwCoin 26 = .ok (.istore 5, 2) := by decide +kernel
theorem dX9_throwCoin_28 : decode cX9_throwCoin 28 = .ok (.aload_n 1, 1) := by decide +kernel
theorem dX9_throwCoin_29 : decode cX9_throwCoin 29 = .ok (.iconst 4, 1) := by decide +kernel
theorem dX9_throwCoin_30 : decode cX9_throwCoin 30 = .ok (.iload 4, 2) := by decide +kernel
theorem dX9_throwCoin_32 : decode cX9_throwCoin 32 = .ok (.iload 5, 2) := by decide +kernel
theorem dX9_throwCoin_34 : decode cX9_throwCoin 34 = .ok (.ineg, 1) := by decide +kernel
theorem dX9_throwCoin_35 : decode cX9_throwCoin 35 = .ok (.invokevirtual 110, 3) := by decide +kernel
theorem dX9_throwCoin_38 : decode cX9_throwCoin 38 = .ok (.aload_n 1, 1) := by decide +kernel
theorem dX9_throwCoin_39 : decode cX9_throwCoin 39 = .ok (.iload_n 2, 1) := by decide +kernel
theorem dX9_throwCoin_40 : decode cX9_throwCoin 40 = .ok (.iload 4, 2) := by decide +kernel
theorem dX9_throwCoin_42 : decode cX9_throwCoin 42 = .ok (.iload 5, 2) := by decide +kernel
theorem dX9_throwCoin_44 : decode cX9_throwCoin 44 = .ok (.invokevirtual 110, 3) := by decide +kernel
theorem dX9_throwCoin_47 : decode cX9_throwCoin 47 = .ok (.iload 5, 2) := by decide +kernel
theorem dX9_throwCoin_49 : decode cX9_throwCoin 49 = .ok (.ifCond .le 13, 3) := by decide +kernel
theorem dX9_throwCoin_52 : decode cX9_throwCoin 52 = .ok (.aload_n 0, 1) := by decide +kernel
theorem dX9_throwCoin_53 : decode cX9_throwCoin 53 = .ok (.invokevirtual 106, 3) := by decide +kernel
theorem dX9_throwCoin_56 : decode cX9_throwCoin 56 = .ok (.ifCond .eq 6, 3) := by decide +kernel
theorem dX9_throwCoin_59 : decode cX9_throwCoin 59 = .ok (.goto 9, 3) := by decide +kernel
theorem dX9_throwCoin_62 : decode cX9_throwCoin 62 = .ok (.iinc 4 (-1), 3) := by decide +kernel
theorem dX9_throwCoin_65 : decode cX9_throwCoin 65 = .ok (.goto (-58), 3) := by decide +kernel
theorem dX9_throwCoin_68 : decode cX9_throwCoin 68 = .ok (.aload_n 1, 1) := by decide +kernel
theorem dX9_throwCoin_69 : decode cX9_throwCoin 69 = .ok (.iload_n 2, 1) := by decide +kernel
theorem dX9_throwCoin_70 : decode cX9_throwCoin 70 = .ok (.iload_n 3, 1) := by decide +kernel
theorem dX9_throwCoin_71 : decode cX9_throwCoin 71 = .ok (.iconst (-1), 1) := by decide +kernel
theorem dX9_throwCoin_72 : decode cX9_throwCoin 72 = .ok (.invokevirtual 110, 3) := by decide +kernel
theorem dX9_throwCoin_75 : decode cX9_throwCoin 75 = .ok (.aload_n 1, 1) := by decide +kernel
theorem dX9_throwCoin_76 : decode cX9_throwCoin 76 = .ok (.iconst 4, 1) := by decide +kernel
theorem dX9_throwCoin_77 : decode cX9_throwCoin 77 = .ok (.iload_n 3, 1) := by decide +kernel
theorem dX9_throwCoin_78 : decode cX9_throwCoin 78 = .ok (.iconst 1, 1) := by decide +kernel
theorem dX9_throwCoin_79 : decode cX9_throwCoin 79 = .ok (.invokevirtual 110, 3) := by decide +kernel
theorem dX9_throwCoin_82 : decode cX9_throwCoin 82 = .ok (.return_, 1) := by decide +kernel
theorem dX9_greatestTaken_0 : decode cX9_greatestTaken 0 = .ok (.aload_n 0, 1) := by decide +kernel
theorem dX9_greatestTaken_1 : decode cX9_greatestTaken 1 = .ok (.getfield 60, 3) := by decide +kernel
theorem dX9_greatestTaken_4 : decode cX9_greatestTaken 4 = .ok (.iconst 1, 1) := by decide +kernel
theorem dX9_greatestTaken_5 : decode cX9_greatestTaken 5 = .ok (.if_icmp .ne 7, 3) := by decide +kernel
theorem dX9_greatestTaken_8 : decode cX9_greatestTaken 8 = .ok (.iload_n 1, 1) := by decide +kernel
theorem dX9_greatestTaken_9 : decode cX9_greatestTaken 9 = .ok (.goto 6, 3) := by decide +kernel
theorem dX9_greatestTaken_12 : decode cX9_greatestTaken 12 = .ok (.iload_n 1, 1) := by decide +kernel
theorem dX9_greatestTaken_13 : decode cX9_greatestTaken 13 = .ok (.iconst 1, 1) := by decide +kernel
theorem dX9_greatestTaken_14 : decode cX9_greatestTaken 14 = .ok (.isub, 1) := by decide +kernel
theorem dX9_greatestTaken_15 : decode cX9_greatestTaken 15 = .ok (.ireturn, 1) := by decide +kernel
theorem dX9_mostTakenOfKind_0 : decode cX9_mostTakenOfKind 0 = .ok (.aload_n 0, 1) := by decide +kernel
theorem dX9_mostTakenOfKind_1 : decode cX9_mostTakenOfKind 1 = .ok (.getfield 60, 3) := by decide +kernel
theorem dX9_mostTakenOfKind_4 : decode cX9_mostTakenOfKind 4 = .ok (.iconst 2, 1) := by decide +kernel
theorem dX9_mostTakenOfKind_5 : decode cX9_mostTakenOfKind 5 = .ok (.if_icmp .ne 7, 3) := by decide +kernel
theorem dX9_mostTakenOfKind_8 : decode cX9_mostTakenOfKind 8 = .ok (.iconst 1, 1) := by decide +kernel
theorem dX9_mostTakenOfKind_9 : decode cX9_mostTakenOfKind 9 = .ok (.goto 5, 3) := by decide +kernel
theorem dX9_mostTakenOfKind_12 : decode cX9_mostTakenOfKind 12 = .ok (.ldc 116, 2) := by decide +kernel
theorem dX9_mostTakenOfKind_14 : decode cX9_mostTakenOfKind 14 = .ok (.ireturn, 1) := by decide +kernel
theorem dX9_takesOneKind_0 : decode cX9_takesOneKind 0 = .ok (.aload_n 0, 1) := by decide +kernel
theorem dX9_takesOneKind_1 : decode cX9_takesOneKind 1 = .ok (.getfield 60, 3) := by decide +kernel
theorem dX9_takesOneKind_4 : decode cX9_takesOneKind 4 = .ok (.iconst 2, 1) := by decide +kernel
theorem dX9_takesOneKind_5 : decode cX9_takesOneKind 5 = .ok (.if_icmp .eq 11, 3) := by decide +kernel
theorem dX9_takesOneKind_8 : decode cX9_takesOneKind 8 = .ok (.aload_n 0, 1) := by decide +kernel
theorem dX9_takesOneKind_9 : decode cX9_takesOneKind 9 = .ok (.getfield 60, 3) := by decide +kernel
theorem dX9_takesOneKind_12 : decode cX9_takesOneKind 12 = .ok (.iconst 3, 1) := by decide +kernel
theorem dX9_takesOneKind_13 : decode cX9_takesOneKind 13 = .ok (.if_icmp .ne 7, 3) := by decide +kernel
theorem dX9_takesOneKind_16 : decode cX9_takesOneKind 16 = .ok (.iconst 1, 1) := by decide +kernel
theorem dX9_takesOneKind_17 : decode cX9_takesOneKind 17 = .ok (.goto 4, 3) := by decide +kernel
theorem dX9_takesOneKind_20 : decode cX9_takesOneKind 20 = .ok (.iconst 0, 1) := by decide +kernel
theorem dX9_takesOneKind_21 : decode cX9_takesOneKind 21 = .ok (.ireturn, 1) := by decide +kernel
theorem dX9_habitual_0 : decode cX9_habitual 0 = .ok (.aload_n 0, 1) := by decide +kernel
theorem dX9_habitual_1 : decode cX9_habitual 1 = .ok (.aload_n 1, 1) := by decide +kernel
theorem dX9_habitual_2 : decode cX9_habitual 2 = .ok (.getfield 80, 3) := by decide +kernel
theorem dX9_habitual_5 : decode cX9_habitual 5 = .ok (.invokevirtual 83, 3) := by decide +kernel
theorem dX9_habitual_8 : decode cX9_habitual 8 = .ok (.istore_n 2, 1) := by decide +kernel
theorem dX9_habitual_9 : decode cX9_habitual 9 = .ok (.aload_n 0, 1) := by decide +kernel
theorem dX9_habitual_10 : decode cX9_habitual 10 = .ok (.iload_n 2, 1) := by decide +kernel
theorem dX9_habitual_11 : decode cX9_habitual 11 = .ok (.invokevirtual 117, 3) := by decide +kernel
theorem dX9_habitual_14 : decode cX9_habitual 14 = .ok (.aload_n 0, 1) := by decide +kernel
theorem dX9_habitual_15 : decode cX9_habitual 15 = .ok (.aload_n 1, 1) := by decide +kernel
theorem dX9_habitual_16 : decode cX9_habitual 16 = .ok (.iload_n 2, 1) := by decide +kernel
theorem dX9_habitual_17 : decode cX9_habitual 17 = .ok (.invokevirtual 121, 3) := by decide +kernel
theorem dX9_habitual_20 : decode cX9_habitual 20 = .ok (.ireturn, 1) := by decide +kernel
theorem dX9_letVisit_0 : decode cX9_letVisit 0 = .ok (.iload_n 2, 1) := by decide +kernel
theorem dX9_letVisit_1 : decode cX9_letVisit 1 = .ok (.iconst (-1), 1) := by decide +kernel
theorem dX9_letVisit_2 : decode cX9_letVisit 2 = .ok (.if_icmp .eq 17, 3) := by decide +kernel
theorem dX9_letVisit_5 : decode cX9_letVisit 5 = .ok (.aload_n 0, 1) := by decide +kernel
theorem dX9_letVisit_6 : decode cX9_letVisit 6 = .ok (.aload_n 1, 1) := by decide +kernel
theorem dX9_letVisit_7 : decode cX9_letVisit 7 = .ok (.aload_n 0, 1) := by decide +kernel
theorem dX9_letVisit_8 : decode cX9_letVisit 8 = .ok (.aload_n 1, 1) := by decide +kernel
theorem dX9_letVisit_9 : decode cX9_letVisit 9 = .ok (.getfield 80, 3) := by decide +kernel
theorem dX9_letVisit_12 : decode cX9_letVisit 12 = .ok (.invokevirtual 83, 3) := by decide +kernel
theorem dX9_letVisit_15 : decode cX9_letVisit 15 = .ok (.iload_n 2, 1) := by decide +kernel
theorem dX9_letVisit_16 : decode cX9_letVisit 16 = .ok (.invokevirtual 127, 3) := by decide +kernel
theorem dX9_letVisit_19 : decode cX9_letVisit 19 = .ok (.aload_n 1, 1) := by decide +kernel
theorem dX9_letVisit_20 : decode cX9_letVisit 20 = .ok (.dup, 1) := by decide +kernel
theorem dX9_letVisit_21 : decode cX9_letVisit 21 = .ok (.getfield 80, 3) := by decide +kernel
theorem dX9_letVisit_24 : decode cX9_letVisit 24 = .ok (.iconst 1, 1) := by decide +kernel
theorem dX9_letVisit_25 : decode cX9_letVisit 25 = .ok (.iadd, 1) := by decide +kernel
theorem dX9_letVisit_26 : decode cX9_letVisit 26 = .ok (.putfield 80, 3) := by decide +kernel
theorem dX9_letVisit_29 : decode cX9_letVisit 29 = .ok (.return_, 1) := by decide +kernel
theorem dX10_init_0 : decode cX10_init 0 = .ok (.aload_n 0, 1) := by decide +kernel
theorem dX10_init_1 : decode cX10_init 1 = .ok (.invokespecial 3, 3) := by decide +kernel
theorem dX10_init_4 : decode cX10_init 4 = .ok (.return_, 1) := by decide +kernel
theorem dX10_habit_0 : decode cX10_habit 0 = .ok (.iconst 2, 1) := by decide +kernel
theorem dX10_habit_1 : decode cX10_habit 1 = .ok (.ireturn, 1) := by decide +kernel
theorem dX10_leastGain_0 : decode cX10_leastGain 0 = .ok (.iconst 1, 1) := by decide +kernel
theorem dX10_leastGain_1 : decode cX10_leastGain 1 = .ok (.aload_n 1, 1) := by decide +kernel
theorem dX10_leastGain_2 : decode cX10_leastGain 2 = .ok (.iload_n 2, 1) := by decide +kernel
theorem dX10_leastGain_3 : decode cX10_leastGain 3 = .ok (.invokevirtual 9, 3) := by decide +kernel
theorem dX10_leastGain_6 : decode cX10_leastGain 6 = .ok (.invokestatic 15, 3) := by decide +kernel
theorem dX10_leastGain_9 : decode cX10_leastGain 9 = .ok (.ireturn, 1) := by decide +kernel
theorem dX10_waitsFor_0 : decode cX10_waitsFor 0 = .ok (.aload_n 1, 1) := by decide +kernel
theorem dX10_waitsFor_1 : decode cX10_waitsFor 1 = .ok (.iload_n 2, 1) := by decide +kernel
theorem dX10_waitsFor_2 : decode cX10_waitsFor 2 = .ok (.invokevirtual 9, 3) := by decide +kernel
theorem dX10_waitsFor_5 : decode cX10_waitsFor 5 = .ok (.ireturn, 1) := by decide +kernel
end
section
theorem dX2_init_0 : decode cX2_init 0 = .ok (.aload_n 0, 1) := by decide +kernel
theorem dX2_init_1 : decode cX2_init 1 = .ok (.invokespecial 3, 3) := by decide +kernel
theorem dX2_init_4 : decode cX2_init 4 = .ok (.aload_n 0, 1) := by decide +kernel
theorem dX2_init_5 : decode cX2_init 5 = .ok (.bipush 11, 2) := by decide +kernel
theorem dX2_init_7 : decode cX2_init 7 = .ok (.anewarray 11, 3) := by decide +kernel
theorem dX2_init_10 : decode cX2_init 10 = .ok (.putfield 13, 3) := by decide +kernel
theorem dX2_init_13 : decode cX2_init 13 = .ok (.aload_n 0, 1) := by decide +kernel
theorem dX2_init_14 : decode cX2_init 14 = .ok (.bipush 11, 2) := by decide +kernel
theorem dX2_init_16 : decode cX2_init 16 = .ok (.iconst 4, 1) := by decide +kernel
theorem dX2_init_17 : decode cX2_init 17 = .ok (.multianewarray 17 2, 4) := by decide +kernel
theorem dX2_init_21 : decode cX2_init 21 = .ok (.putfield 19, 3) := by decide +kernel
theorem dX2_init_24 : decode cX2_init 24 = .ok (.aload_n 0, 1) := by decide +kernel
theorem dX2_init_25 : decode cX2_init 25 = .ok (.bipush 11, 2) := by decide +kernel
theorem dX2_init_27 : decode cX2_init 27 = .ok (.bipush 11, 2) := by decide +kernel
theorem dX2_init_29 : decode cX2_init 29 = .ok (.multianewarray 17 2, 4) := by decide +kernel
theorem dX2_init_33 : decode cX2_init 33 = .ok (.putfield 22, 3) := by decide +kernel
theorem dX2_init_36 : decode cX2_init 36 = .ok (.aload_n 0, 1) := by decide +kernel
theorem dX2_init_37 : decode cX2_init 37 = .ok (.iconst (-1), 1) := by decide +kernel
theorem dX2_init_38 : decode cX2_init 38 = .ok (.putfield 25, 3) := by decide +kernel
theorem dX2_init_41 : decode cX2_init 41 = .ok (.aload_n 0, 1) := by decide +kernel
theorem dX2_init_42 : decode cX2_init 42 = .ok (.aload_n 1, 1) := by decide +kernel
theorem dX2_init_43 : decode cX2_init 43 = .ok (.putfield 29, 3) := by decide +kernel
theorem dX2_init_46 : decode cX2_init 46 = .ok (.iconst 0, 1) := by decide +kernel
theorem dX2_init_47 : decode cX2_init 47 = .ok (.istore_n 2, 1) := by decide +kernel
theorem dX2_init_48 : decode cX2_init 48 = .ok (.iload_n 2, 1) := by decide +kernel
theorem dX2_init_49 : decode cX2_init 49 = .ok (.bipush 11, 2) := by decide +kernel
theorem dX2_init_51 : decode cX2_init 51 = .ok (.if_icmp .ge 22, 3) := by decide +kernel
theorem dX2_init_54 : decode cX2_init 54 = .ok (.aload_n 0, 1) := by decide +kernel
theorem dX2_init_55 : decode cX2_init 55 = .ok (.getfield 13, 3) := by decide +kernel
theorem dX2_init_58 : decode cX2_init 58 = .ok (.iload_n 2, 1) := by decide +kernel
theorem dX2_init_59 : decode cX2_init 59 = .ok (.new 11, 3) := by decide +kernel
theorem dX2_init_62 : decode cX2_init 62 = .ok (.dup, 1) := by decide +kernel
theorem dX2_init_63 : decode cX2_init 63 = .ok (.invokespecial 33, 3) := by decide +kernel
theorem dX2_init_66 : decode cX2_init 66 = .ok (.aastore, 1) := by decide +kernel
theorem dX2_init_67 : decode cX2_init 67 = .ok (.iinc 2 1, 3) := by decide +kernel
theorem dX2_init_70 : decode cX2_init 70 = .ok (.goto (-22), 3) := by decide +kernel
theorem dX2_init_73 : decode cX2_init 73 = .ok (.return_, 1) := by decide +kernel
theorem dX2_becomeStale_0 : decode cX2_becomeStale 0 = .ok (.aload_n 0, 1) := by decide +kernel
theorem dX2_becomeStale_1 : decode cX2_becomeStale 1 = .ok (.iconst (-1), 1) := by decide +kernel
theorem dX2_becomeStale_2 : decode cX2_becomeStale 2 = .ok (.putfield 25, 3) := by decide +kernel
theorem dX2_becomeStale_5 : decode cX2_becomeStale 5 = .ok (.return_, 1) := by decide +kernel
theorem dX2_foresee_0 : decode cX2_foresee 0 = .ok (.aload_n 0, 1) := by decide +kernel
theorem dX2_foresee_1 : decode cX2_foresee 1 = .ok (.getfield 25, 3) := by decide +kernel
theorem dX2_foresee_4 : decode cX2_foresee 4 = .ok (.iload_n 2, 1) := by decide +kernel
theorem dX2_foresee_5 : decode cX2_foresee 5 = .ok (.if_icmp .ne 4, 3) := by decide +kernel
theorem dX2_foresee_8 : decode cX2_foresee 8 = .ok (.return_, 1) := by decide +kernel
theorem dX2_foresee_9 : decode cX2_foresee 9 = .ok (.aload_n 0, 1) := by decide +kernel
theorem dX2_foresee_10 : decode cX2_foresee 10 = .ok (.iload_n 2, 1) := by decide +kernel
theorem dX2_foresee_11 : decode cX2_foresee 11 = .ok (.putfield 25, 3) := by decide +kernel
theorem dX2_foresee_14 : decode cX2_foresee 14 = .ok (.aload_n 0, 1) := by decide +kernel
theorem dX2_foresee_15 : decode cX2_foresee 15 = .ok (.iconst 0, 1) := by decide +kernel
theorem dX2_foresee_16 : decode cX2_foresee 16 = .ok (.putfield 34, 3) := by decide +kernel
theorem dX2_foresee_19 : decode cX2_foresee 19 = .ok (.aload_n 1, 1) := by decide +kernel
theorem dX2_foresee_20 : decode cX2_foresee 20 = .ok (.getfield 37, 3) := by decide +kernel
theorem dX2_foresee_23 : decode cX2_foresee 23 = .ok (.istore_n 3, 1) := by decide +kernel
theorem dX2_foresee_24 : decode cX2_foresee 24 = .ok (.iload_n 3, 1) := by decide +kernel
theorem dX2_foresee_25 : decode cX2_foresee 25 = .ok (.aload_n 0, 1) := by decide +kernel
theorem dX2_foresee_26 : decode cX2_foresee 26 = .ok (.getfield 29, 3) := by decide +kernel
theorem dX2_foresee_29 : decode cX2_foresee 29 = .ok (.getfield 40, 3) := by decide +kernel
theorem dX2_foresee_32 : decode cX2_foresee 32 = .ok (.if_icmp .ge 38, 3) := by decide +kernel
theorem dX2_foresee_35 : decode cX2_foresee 35 = .ok (.aload_n 0, 1) := by decide +kernel
theorem dX2_foresee_36 : decode cX2_foresee 36 = .ok (.dup, 1) := by decide +kernel
theorem dX2_foresee_37 : decode cX2_foresee 37 = .ok (.getfield 34, 3) := by decide +kernel
theorem dX2_foresee_40 : decode cX2_foresee 40 = .ok (.aload_n 0, 1) := by decide +kernel
theorem dX2_foresee_41 : decode cX2_foresee 41 = .ok (.aload_n 0, 1) := by decide +kernel
theorem dX2_foresee_42 : decode cX2_foresee 42 = .ok (.getfield 29, 3) := by decide +kernel
theorem dX2_foresee_45 : decode cX2_foresee 45 = .ok (.iload_n 3, 1) := by decide +kernel
theorem dX2_foresee_46 : decode cX2_foresee 46 = .ok (.invokevirtual 45, 3) := by decide +kernel
theorem dX2_foresee_49 : decode cX2_foresee 49 = .ok (.invokevirtual 49, 3) := by decide +kernel
theorem dX2_foresee_52 : decode cX2_foresee 52 = .ok (.ifCond .eq 7, 3) := by decide +kernel
theorem dX2_foresee_55 : decode cX2_foresee 55 = .ok (.iconst 1, 1) := by decide +kernel
theorem dX2_foresee_56 : decode cX2_foresee 56 = .ok (.goto 4, 3) := by decide +kernel
theorem dX2_foresee_59 : decode cX2_foresee 59 = .ok (.iconst 0, 1) := by decide +kernel
theorem dX2_foresee_60 : decode cX2_foresee 60 = .ok (.iadd, 1) := by decide +kernel
theorem dX2_foresee_61 : decode cX2_foresee 61 = .ok (.putfield 34, 3) := by decide +kernel
theorem dX2_foresee_64 : decode cX2_foresee 64 = .ok (.iinc 3 1, 3) := by decide +kernel
theorem dX2_foresee_67 : decode cX2_foresee 67 = .ok (.goto (-43), 3) := by decide +kernel
theorem dX2_foresee_70 : decode cX2_foresee 70 = .ok (.aload_n 0, 1) := by decide +kernel
theorem dX2_foresee_71 : decode cX2_foresee 71 = .ok (.getfield 13, 3) := by decide +kernel
theorem dX2_foresee_74 : decode cX2_foresee 74 = .ok (.iconst 0, 1) := by decide +kernel
theorem dX2_foresee_75 : decode cX2_foresee 75 = .ok (.aaload, 1) := by decide +kernel
theorem dX2_foresee_76 : decode cX2_foresee 76 = .ok (.aload_n 1, 1) := by decide +kernel
theorem dX2_foresee_77 : decode cX2_foresee 77 = .ok (.invokevirtual 53, 3) := by decide +kernel
theorem dX2_foresee_80 : decode cX2_foresee 80 = .ok (.aload_n 0, 1) := by decide +kernel
theorem dX2_foresee_81 : decode cX2_foresee 81 = .ok (.iconst 0, 1) := by decide +kernel
theorem dX2_foresee_82 : decode cX2_foresee 82 = .ok (.invokestatic 57, 3) := by decide +kernel
theorem dX2_foresee_85 : decode cX2_foresee 85 = .ok (.return_, 1) := by decide +kernel
theorem dX2_endOf_0 : decode cX2_endOf 0 = .ok (.iload_n 1, 1) := by decide +kernel
theorem dX2_endOf_1 : decode cX2_endOf 1 = .ok (.invokestatic 61, 3) := by decide +kernel
theorem dX2_endOf_4 : decode cX2_endOf 4 = .ok (.ifCond .eq 14, 3) := by decide +kernel
theorem dX2_endOf_7 : decode cX2_endOf 7 = .ok (.aload_n 0, 1) := by decide +kernel
theorem dX2_endOf_8 : decode cX2_endOf 8 = .ok (.getfield 19, 3) := by decide +kernel
theorem dX2_endOf_11 : decode cX2_endOf 11 = .ok (.iconst 0, 1) := by decide +kernel
theorem dX2_endOf_12 : decode cX2_endOf 12 = .ok (.aaload, 1) := by decide +kernel
theorem dX2_endOf_13 : decode cX2_endOf 13 = .ok (.iload_n 1, 1) := by decide +kernel
theorem dX2_endOf_14 : decode cX2_endOf 14 = .ok (.iaload, 1) := by decide +kernel
theorem dX2_endOf_15 : decode cX2_endOf 15 = .ok (.goto 4, 3) := by decide +kernel
theorem dX2_endOf_18 : decode cX2_endOf 18 = .ok (.iconst 0, 1) := by decide +kernel
theorem dX2_endOf_19 : decode cX2_endOf 19 = .ok (.ireturn, 1) := by decide +kernel
theorem dX2_step_0 : decode cX2_step 0 = .ok (.iload_n 1, 1) := by decide +kernel
theorem dX2_step_1 : decode cX2_step 1 = .ok (.ifCond .lt 30, 3) := by decide +kernel
theorem dX2_step_4 : decode cX2_step 4 = .ok (.iload_n 1, 1) := by decide +kernel
theorem dX2_step_5 : decode cX2_step 5 = .ok (.aload_n 0, 1) := by decide +kernel
theorem dX2_step_6 : decode cX2_step 6 = .ok (.getfield 34, 3) := by decide +kernel
theorem dX2_step_9 : decode cX2_step 9 = .ok (.if_icmp .ge 22, 3) := by decide +kernel
theorem dX2_step_12 : decode cX2_step 12 = .ok (.iload_n 1, 1) := by decide +kernel
theorem dX2_step_13 : decode cX2_step 13 = .ok (.bipush 11, 2) := by decide +kernel
theorem dX2_step_15 : decode cX2_step 15 = .ok (.if_icmp .ge 16, 3) := by decide +kernel
theorem dX2_step_18 : decode cX2_step 18 = .ok (.aload_n 0, 1) := by decide +kernel
theorem dX2_step_19 : decode cX2_step 19 = .ok (.getfield 22, 3) := by decide +kernel
theorem dX2_step_22 : decode cX2_step 22 = .ok (.iconst 0, 1) := by decide +kernel
theorem dX2_step_23 : decode cX2_step 23 = .ok (.aaload, 1) := by decide +kernel
theorem dX2_step_24 : decode cX2_step 24 = .ok (.iload_n 1, 1) := by decide +kernel
theorem dX2_step_25 : decode cX2_step 25 = .ok (.iaload, 1) := by decide +kernel
theorem dX2_step_26 : decode cX2_step 26 = .ok (.iconst 1, 1) := by decide +kernel
theorem dX2_step_27 : decode cX2_step 27 = .ok (.iadd, 1) := by decide +kernel
theorem dX2_step_28 : decode cX2_step 28 = .ok (.goto 4, 3) := by decide +kernel
theorem dX2_step_31 : decode cX2_step 31 = .ok (.iconst (-1), 1) := by decide +kernel
theorem dX2_step_32 : decode cX2_step 32 = .ok (.ireturn, 1) := by decide +kernel
theorem dX2_goalOf_0 : decode cX2_goalOf 0 = .ok (.iload_n 1, 1) := by decide +kernel
theorem dX2_goalOf_1 : decode cX2_goalOf 1 = .ok (.invokestatic 61, 3) := by decide +kernel
theorem dX2_goalOf_4 : decode cX2_goalOf 4 = .ok (.ifCond .eq 17, 3) := by decide +kernel
theorem dX2_goalOf_7 : decode cX2_goalOf 7 = .ok (.aload_n 0, 1) := by decide +kernel
theorem dX2_goalOf_8 : decode cX2_goalOf 8 = .ok (.getfield 25, 3) := by decide +kernel
theorem dX2_goalOf_11 : decode cX2_goalOf 11 = .ok (.iconst 4, 1) := by decide +kernel
theorem dX2_goalOf_12 : decode cX2_goalOf 12 = .ok (.iload_n 1, 1) := by decide +kernel
theorem dX2_goalOf_13 : decode cX2_goalOf 13 = .ok (.imul, 1) := by decide +kernel
theorem dX2_goalOf_14 : decode cX2_goalOf 14 = .ok (.ishr, 1) := by decide +kernel
theorem dX2_goalOf_15 : decode cX2_goalOf 15 = .ok (.bipush 15, 2) := by decide +kernel
theorem dX2_goalOf_17 : decode cX2_goalOf 17 = .ok (.iand, 1) := by decide +kernel
theorem dX2_goalOf_18 : decode cX2_goalOf 18 = .ok (.goto 4, 3) := by decide +kernel
theorem dX2_goalOf_21 : decode cX2_goalOf 21 = .ok (.iconst 0, 1) := by decide +kernel
theorem dX2_goalOf_22 : decode cX2_goalOf 22 = .ok (.ireturn, 1) := by decide +kernel
theorem dX2_isFree_0 : decode cX2_isFree 0 = .ok (.aload_n 0, 1) := by decide +kernel
theorem dX2_isFree_1 : decode cX2_isFree 1 = .ok (.iload_n 1, 1) := by decide +kernel
theorem dX2_isFree_2 : decode cX2_isFree 2 = .ok (.invokevirtual 64, 3) := by decide +kernel
theorem dX2_isFree_5 : decode cX2_isFree 5 = .ok (.ifCond .eq 7, 3) := by decide +kernel
theorem dX2_isFree_8 : decode cX2_isFree 8 = .ok (.iconst 1, 1) := by decide +kernel
theorem dX2_isFree_9 : decode cX2_isFree 9 = .ok (.goto 4, 3) := by decide +kernel
theorem dX2_isFree_12 : decode cX2_isFree 12 = .ok (.iconst 0, 1) := by decide +kernel
theorem dX2_isFree_13 : decode cX2_isFree 13 = .ok (.ireturn, 1) := by decide +kernel
theorem dX2_playOn_0 : decode cX2_playOn 0 = .ok (.iload_n 1, 1) := by decide +kernel
theorem dX2_playOn_1 : decode cX2_playOn 1 = .ok (.ifCond .lt 9, 3) := by decide +kernel
theorem dX2_playOn_4 : decode cX2_playOn 4 = .ok (.iload_n 1, 1) := by decide +kernel
theorem dX2_playOn_5 : decode cX2_playOn 5 = .ok (.bipush 11, 2) := by decide +kernel
theorem dX2_playOn_7 : decode cX2_playOn 7 = .ok (.if_icmp .lt 4, 3) := by decide +kernel
theorem dX2_playOn_10 : decode cX2_playOn 10 = .ok (.return_, 1) := by decide +kernel
theorem dX2_playOn_11 : decode cX2_playOn 11 = .ok (.aload_n 0, 1) := by decide +kernel
theorem dX2_playOn_12 : decode cX2_playOn 12 = .ok (.getfield 13, 3) := by decide +kernel
theorem dX2_playOn_15 : decode cX2_playOn 15 = .ok (.iload_n 1, 1) := by decide +kernel
theorem dX2_playOn_16 : decode cX2_playOn 16 = .ok (.aaload, 1) := by decide +kernel
theorem dX2_playOn_17 : decode cX2_playOn 17 = .ok (.astore_n 2, 1) := by decide +kernel
theorem dX2_playOn_18 : decode cX2_playOn 18 = .ok (.aload_n 2, 1) := by decide +kernel
theorem dX2_playOn_19 : decode cX2_playOn 19 = .ok (.getfield 37, 3) := by decide +kernel
theorem dX2_playOn_22 : decode cX2_playOn 22 = .ok (.istore_n 3, 1) := by decide +kernel
theorem dX2_playOn_23 : decode cX2_playOn 23 = .ok (.iload_n 3, 1) := by decide +kernel
theorem dX2_playOn_24 : decode cX2_playOn 24 = .ok (.aload_n 0, 1) := by decide +kernel
theorem dX2_playOn_25 : decode cX2_playOn 25 = .ok (.getfield 29, 3) := by decide +kernel
theorem dX2_playOn_28 : decode cX2_playOn 28 = .ok (.getfield 40, 3) := by decide +kernel
theorem dX2_playOn_31 : decode cX2_playOn 31 = .ok (.if_icmp .ge 40, 3) := by decide +kernel
theorem dX2_playOn_34 : decode cX2_playOn 34 = .ok (.aload_n 0, 1) := by decide +kernel
theorem dX2_playOn_35 : decode cX2_playOn 35 = .ok (.aload_n 0, 1) := by decide +kernel
theorem dX2_playOn_36 : decode cX2_playOn 36 = .ok (.getfield 29, 3) := by decide +kernel
theorem dX2_playOn_39 : decode cX2_playOn 39 = .ok (.iload_n 3, 1) := by decide +kernel
theorem dX2_playOn_40 : decode cX2_playOn 40 = .ok (.invokevirtual 45, 3) := by decide +kernel
theorem dX2_playOn_43 : decode cX2_playOn 43 = .ok (.invokevirtual 49, 3) := by decide +kernel
theorem dX2_playOn_46 : decode cX2_playOn 46 = .ok (.ifCond .ne 25, 3) := by decide +kernel
theorem dX2_playOn_49 : decode cX2_playOn 49 = .ok (.aload_n 0, 1) := by decide +kernel
theorem dX2_playOn_50 : decode cX2_playOn 50 = .ok (.getfield 29, 3) := by decide +kernel
theorem dX2_playOn_53 : decode cX2_playOn 53 = .ok (.aload_n 2, 1) := by decide +kernel
theorem dX2_playOn_54 : decode cX2_playOn 54 = .ok (.aload_n 0, 1) := by decide +kernel
theorem dX2_playOn_55 : decode cX2_playOn 55 = .ok (.getfield 29, 3) := by decide +kernel
theorem dX2_playOn_58 : decode cX2_playOn 58 = .ok (.aload_n 2, 1) := by decide +kernel
theorem dX2_playOn_59 : decode cX2_playOn 59 = .ok (.invokevirtual 67, 3) := by decide +kernel
theorem dX2_playOn_62 : decode cX2_playOn 62 = .ok (.invokevirtual 71, 3) := by decide +kernel
theorem dX2_playOn_65 : decode cX2_playOn 65 = .ok (.iinc 3 1, 3) := by decide +kernel
theorem dX2_playOn_68 : decode cX2_playOn 68 = .ok (.goto (-45), 3) := by decide +kernel
theorem dX2_playOn_71 : decode cX2_playOn 71 = .ok (.aload_n 2, 1) := by decide +kernel
theorem dX2_playOn_72 : decode cX2_playOn 72 = .ok (.getfield 37, 3) := by decide +kernel
theorem dX2_playOn_75 : decode cX2_playOn 75 = .ok (.aload_n 0, 1) := by decide +kernel
theorem dX2_playOn_76 : decode cX2_playOn 76 = .ok (.getfield 29, 3) := by decide +kernel
theorem dX2_playOn_79 : decode cX2_playOn 79 = .ok (.getfield 40, 3) := by decide +kernel
theorem dX2_playOn_82 : decode cX2_playOn 82 = .ok (.if_icmp .ge 11, 3) := by decide +kernel
theorem dX2_playOn_85 : decode cX2_playOn 85 = .ok (.iload_n 1, 1) := by decide +kernel
theorem dX2_playOn_86 : decode cX2_playOn 86 = .ok (.iconst 1, 1) := by decide +kernel
theorem dX2_playOn_87 : decode cX2_playOn 87 = .ok (.iadd, 1) := by decide +kernel
theorem dX2_playOn_88 : decode cX2_playOn 88 = .ok (.bipush 11, 2) := by decide +kernel
theorem dX2_playOn_90 : decode cX2_playOn 90 = .ok (.if_icmp .lt 9, 3) := by decide +kernel
theorem dX2_playOn_93 : decode cX2_playOn 93 = .ok (.aload_n 0, 1) := by decide +kernel
theorem dX2_playOn_94 : decode cX2_playOn 94 = .ok (.iload_n 1, 1) := by decide +kernel
theorem dX2_playOn_95 : decode cX2_playOn 95 = .ok (.invokevirtual 75, 3) := by decide +kernel
theorem dX2_playOn_98 : decode cX2_playOn 98 = .ok (.return_, 1) := by decide +kernel
theorem dX2_playOn_99 : decode cX2_playOn 99 = .ok (.aload_n 0, 1) := by decide +kernel
theorem dX2_playOn_100 : decode cX2_playOn 100 = .ok (.getfield 29, 3) := by decide +kernel
theorem dX2_playOn_103 : decode cX2_playOn 103 = .ok (.aload_n 2, 1) := by decide +kernel
theorem dX2_playOn_104 : decode cX2_playOn 104 = .ok (.getfield 37, 3) := by decide +kernel
theorem dX2_playOn_107 : decode cX2_playOn 107 = .ok (.invokevirtual 45, 3) := by decide +kernel
theorem dX2_playOn_110 : decode cX2_playOn 110 = .ok (.istore_n 3, 1) := by decide +kernel
theorem dX2_playOn_111 : decode cX2_playOn 111 = .ok (.aload_n 0, 1) := by decide +kernel
theorem dX2_playOn_112 : decode cX2_playOn 112 = .ok (.iload_n 3, 1) := by decide +kernel
theorem dX2_playOn_113 : decode cX2_playOn 113 = .ok (.aload_n 2, 1) := by decide +kernel
theorem dX2_playOn_114 : decode cX2_playOn 114 = .ok (.getfield 37, 3) := by decide +kernel
theorem dX2_playOn_117 : decode cX2_playOn 117 = .ok (.invokevirtual 79, 3) := by decide +kernel
theorem dX2_playOn_120 : decode cX2_playOn 120 = .ok (.ifCond .ne 7, 3) := by decide +kernel
theorem dX2_playOn_123 : decode cX2_playOn 123 = .ok (.iconst 1, 1) := by decide +kernel
theorem dX2_playOn_124 : decode cX2_playOn 124 = .ok (.goto 4, 3) := by decide +kernel
theorem dX2_playOn_127 : decode cX2_playOn 127 = .ok (.iconst 0, 1) := by decide +kernel
theorem dX2_playOn_128 : decode cX2_playOn 128 = .ok (.istore 4, 2) := by decide +kernel
theorem dX2_playOn_130 : decode cX2_playOn 130 = .ok (.iload 4, 2) := by decide +kernel
theorem dX2_playOn_132 : decode cX2_playOn 132 = .ok (.ifCond .eq 22, 3) := by decide +kernel
theorem dX2_playOn_135 : decode cX2_playOn 135 = .ok (.aload_n 0, 1) := by decide +kernel
theorem dX2_playOn_136 : decode cX2_playOn 136 = .ok (.getfield 29, 3) := by decide +kernel
theorem dX2_playOn_139 : decode cX2_playOn 139 = .ok (.getfield 83, 3) := by decide +kernel
theorem dX2_playOn_142 : decode cX2_playOn 142 = .ok (.aload_n 0, 1) := by decide +kernel
theorem dX2_playOn_143 : decode cX2_playOn 143 = .ok (.getfield 29, 3) := by decide +kernel
theorem dX2_playOn_146 : decode cX2_playOn 146 = .ok (.aload_n 2, 1) := by decide +kernel
theorem dX2_playOn_147 : decode cX2_playOn 147 = .ok (.iload_n 3, 1) := by decide +kernel
theorem dX2_playOn_148 : decode cX2_playOn 148 = .ok (.invokevirtual 87, 3) := by decide +kernel
theorem dX2_playOn_151 : decode cX2_playOn 151 = .ok (.goto 4, 3) := by decide +kernel
theorem dX2_playOn_154 : decode cX2_playOn 154 = .ok (.iconst (-1), 1) := by decide +kernel
theorem dX2_playOn_155 : decode cX2_playOn 155 = .ok (.istore 5, 2) := by decide +kernel
theorem dX2_playOn_157 : decode cX2_playOn 157 = .ok (.iconst (-1), 1) := by decide +kernel
theorem dX2_playOn_158 : decode cX2_playOn 158 = .ok (.istore 6, 2) := by decide +kernel
theorem dX2_playOn_160 : decode cX2_playOn 160 = .ok (.iconst (-1), 1) := by decide +kernel
theorem dX2_playOn_161 : decode cX2_playOn 161 = .ok (.istore 7, 2) := by decide +kernel
theorem dX2_playOn_163 : decode cX2_playOn 163 = .ok (.iload 7, 2) := by decide +kernel
theorem dX2_playOn_165 : decode cX2_playOn 165 = .ok (.aload_n 0, 1) := by decide +kernel
theorem dX2_playOn_166 : decode cX2_playOn 166 = .ok (.getfield 29, 3) := by decide +kernel
theorem dX2_playOn_169 : decode cX2_playOn 169 = .ok (.getfield 93, 3) := by decide +kernel
theorem dX2_playOn_172 : decode cX2_playOn 172 = .ok (.if_icmp .ge 107, 3) := by decide +kernel
theorem dX2_playOn_175 : decode cX2_playOn 175 = .ok (.iload 4, 2) := by decide +kernel
theorem dX2_playOn_177 : decode cX2_playOn 177 = .ok (.ifCond .eq 13, 3) := by decide +kernel
theorem dX2_playOn_180 : decode cX2_playOn 180 = .ok (.iload 7, 2) := by decide +kernel
theorem dX2_playOn_182 : decode cX2_playOn 182 = .ok (.iload 5, 2) := by decide +kernel
theorem dX2_playOn_184 : decode cX2_playOn 184 = .ok (.if_icmp .eq 25, 3) := by decide +kernel
theorem dX2_playOn_187 : decode cX2_playOn 187 = .ok (.goto 86, 3) := by decide +kernel
theorem dX2_playOn_190 : decode cX2_playOn 190 = .ok (.iload 7, 2) := by decide +kernel
theorem dX2_playOn_192 : decode cX2_playOn 192 = .ok (.iconst (-1), 1) := by decide +kernel
theorem dX2_playOn_193 : decode cX2_playOn 193 = .ok (.if_icmp .eq 16, 3) := by decide +kernel
theorem dX2_playOn_196 : decode cX2_playOn 196 = .ok (.aload_n 2, 1) := by decide +kernel
theorem dX2_playOn_197 : decode cX2_playOn 197 = .ok (.iload_n 3, 1) := by decide +kernel
theorem dX2_playOn_198 : decode cX2_playOn 198 = .ok (.iload 7, 2) := by decide +kernel
theorem dX2_playOn_200 : decode cX2_playOn 200 = .ok (.invokevirtual 96, 3) := by decide +kernel
theorem dX2_playOn_203 : decode cX2_playOn 203 = .ok (.ifCond .ne 6, 3) := by decide +kernel
theorem dX2_playOn_206 : decode cX2_playOn 206 = .ok (.goto 67, 3) := by decide +kernel
theorem dX2_playOn_209 : decode cX2_playOn 209 = .ok (.aload_n 0, 1) := by decide +kernel
theorem dX2_playOn_210 : decode cX2_playOn 210 = .ok (.getfield 13, 3) := by decide +kernel
theorem dX2_playOn_213 : decode cX2_playOn 213 = .ok (.iload_n 1, 1) := by decide +kernel
theorem dX2_playOn_214 : decode cX2_playOn 214 = .ok (.iconst 1, 1) := by decide +kernel
theorem dX2_playOn_215 : decode cX2_playOn 215 = .ok (.iadd, 1) := by decide +kernel
theorem dX2_playOn_216 : decode cX2_playOn 216 = .ok (.aaload, 1) := by decide +kernel
theorem dX2_playOn_217 : decode cX2_playOn 217 = .ok (.aload_n 2, 1) := by decide +kernel
theorem dX2_playOn_218 : decode cX2_playOn 218 = .ok (.invokevirtual 53, 3) := by decide +kernel
theorem dX2_playOn_221 : decode cX2_playOn 221 = .ok (.aload_n 0, 1) := by decide +kernel
theorem dX2_playOn_222 : decode cX2_playOn 222 = .ok (.getfield 29, 3) := by decide +kernel
theorem dX2_playOn_225 : decode cX2_playOn 225 = .ok (.aload_n 0, 1) := by decide +kernel
theorem dX2_playOn_226 : decode cX2_playOn 226 = .ok (.getfield 13, 3) := by decide +kernel
theorem dX2_playOn_229 : decode cX2_playOn 229 = .ok (.iload_n 1, 1) := by decide +kernel
theorem dX2_playOn_230 : decode cX2_playOn 230 = .ok (.iconst 1, 1) := by decide +kernel
theorem dX2_playOn_231 : decode cX2_playOn 231 = .ok (.iadd, 1) := by decide +kernel
theorem dX2_playOn_232 : decode cX2_playOn 232 = .ok (.aaload, 1) := by decide +kernel
theorem dX2_playOn_233 : decode cX2_playOn 233 = .ok (.iload 7, 2) := by decide +kernel
theorem dX2_playOn_235 : decode cX2_playOn 235 = .ok (.invokevirtual 71, 3) := by decide +kernel
theorem dX2_playOn_238 : decode cX2_playOn 238 = .ok (.aload_n 0, 1) := by decide +kernel
theorem dX2_playOn_239 : decode cX2_playOn 239 = .ok (.iload_n 1, 1) := by decide +kernel
theorem dX2_playOn_240 : decode cX2_playOn 240 = .ok (.iconst 1, 1) := by decide +kernel
theorem dX2_playOn_241 : decode cX2_playOn 241 = .ok (.iadd, 1) := by decide +kernel
theorem dX2_playOn_242 : decode cX2_playOn 242 = .ok (.invokestatic 57, 3) := by decide +kernel
theorem dX2_playOn_245 : decode cX2_playOn 245 = .ok (.aload_n 0, 1) := by decide +kernel
theorem dX2_playOn_246 : decode cX2_playOn 246 = .ok (.iload_n 1, 1) := by decide +kernel
theorem dX2_playOn_247 : decode cX2_playOn 247 = .ok (.iconst 1, 1) := by decide +kernel
theorem dX2_playOn_248 : decode cX2_playOn 248 = .ok (.iadd, 1) := by decide +kernel
theorem dX2_playOn_249 : decode cX2_playOn 249 = .ok (.iload_n 3, 1) := by decide +kernel
theorem dX2_playOn_250 : decode cX2_playOn 250 = .ok (.invokevirtual 100, 3) := by decide +kernel
theorem dX2_playOn_253 : decode cX2_playOn 253 = .ok (.istore 8, 2) := by decide +kernel
theorem dX2_playOn_255 : decode cX2_playOn 255 = .ok (.iload 8, 2) := by decide +kernel
theorem dX2_playOn_257 : decode cX2_playOn 257 = .ok (.iload 6, 2) := by decide +kernel
theorem dX2_playOn_259 : decode cX2_playOn 259 = .ok (.if_icmp .le 14, 3) := by decide +kernel
theorem dX2_playOn_262 : decode cX2_playOn 262 = .ok (.iload 8, 2) := by decide +kernel
theorem dX2_playOn_264 : decode cX2_playOn 264 = .ok (.istore 6, 2) := by decide +kernel
theorem dX2_playOn_266 : decode cX2_playOn 266 = .ok (.aload_n 0, 1) := by decide +kernel
theorem dX2_playOn_267 : decode cX2_playOn 267 = .ok (.iload_n 1, 1) := by decide +kernel
theorem dX2_playOn_268 : decode cX2_playOn 268 = .ok (.iload 7, 2) := by decide +kernel
theorem dX2_playOn_270 : decode cX2_playOn 270 = .ok (.invokevirtual 103, 3) := by decide +kernel
theorem dX2_playOn_273 : decode cX2_playOn 273 = .ok (.iinc 7 1, 3) := by decide +kernel
theorem dX2_playOn_276 : decode cX2_playOn 276 = .ok (.goto (-113), 3) := by decide +kernel
theorem dX2_playOn_279 : decode cX2_playOn 279 = .ok (.return_, 1) := by decide +kernel
theorem dX2_comesAgain_0 : decode cX2_comesAgain 0 = .ok (.iload_n 2, 1) := by decide +kernel
theorem dX2_comesAgain_1 : decode cX2_comesAgain 1 = .ok (.iconst 1, 1) := by decide +kernel
theorem dX2_comesAgain_2 : decode cX2_comesAgain 2 = .ok (.iadd, 1) := by decide +kernel
theorem dX2_comesAgain_3 : decode cX2_comesAgain 3 = .ok (.istore_n 3, 1) := by decide +kernel
theorem dX2_comesAgain_4 : decode cX2_comesAgain 4 = .ok (.iload_n 3, 1) := by decide +kernel
theorem dX2_comesAgain_5 : decode cX2_comesAgain 5 = .ok (.aload_n 0, 1) := by decide +kernel
theorem dX2_comesAgain_6 : decode cX2_comesAgain 6 = .ok (.getfield 29, 3) := by decide +kernel
theorem dX2_comesAgain_9 : decode cX2_comesAgain 9 = .ok (.getfield 40, 3) := by decide +kernel
theorem dX2_comesAgain_12 : decode cX2_comesAgain 12 = .ok (.if_icmp .ge 31, 3) := by decide +kernel
theorem dX2_comesAgain_15 : decode cX2_comesAgain 15 = .ok (.aload_n 0, 1) := by decide +kernel
theorem dX2_comesAgain_16 : decode cX2_comesAgain 16 = .ok (.aload_n 0, 1) := by decide +kernel
theorem dX2_comesAgain_17 : decode cX2_comesAgain 17 = .ok (.getfield 29, 3) := by decide +kernel
theorem dX2_comesAgain_20 : decode cX2_comesAgain 20 = .ok (.iload_n 3, 1) := by decide +kernel
theorem dX2_comesAgain_21 : decode cX2_comesAgain 21 = .ok (.invokevirtual 45, 3) := by decide +kernel
theorem dX2_comesAgain_24 : decode cX2_comesAgain 24 = .ok (.invokevirtual 64, 3) := by decide +kernel
theorem dX2_comesAgain_27 : decode cX2_comesAgain 27 = .ok (.aload_n 0, 1) := by decide +kernel
theorem dX2_comesAgain_28 : decode cX2_comesAgain 28 = .ok (.iload_n 1, 1) := by decide +kernel
theorem dX2_comesAgain_29 : decode cX2_comesAgain 29 = .ok (.invokevirtual 64, 3) := by decide +kernel
theorem dX2_comesAgain_32 : decode cX2_comesAgain 32 = .ok (.if_icmp .ne 5, 3) := by decide +kernel
theorem dX2_comesAgain_35 : decode cX2_comesAgain 35 = .ok (.iconst 1, 1) := by decide +kernel
theorem dX2_comesAgain_36 : decode cX2_comesAgain 36 = .ok (.ireturn, 1) := by decide +kernel
theorem dX2_comesAgain_37 : decode cX2_comesAgain 37 = .ok (.iinc 3 1, 3) := by decide +kernel
theorem dX2_comesAgain_40 : decode cX2_comesAgain 40 = .ok (.goto (-36), 3) := by decide +kernel
theorem dX2_comesAgain_43 : decode cX2_comesAgain 43 = .ok (.iconst 0, 1) := by decide +kernel
theorem dX2_comesAgain_44 : decode cX2_comesAgain 44 = .ok (.ireturn, 1) := by decide +kernel
theorem dX2_settle_0 : decode cX2_settle 0 = .ok (.iconst 0, 1) := by decide +kernel
theorem dX2_settle_1 : decode cX2_settle 1 = .ok (.istore_n 2, 1) := by decide +kernel
theorem dX2_settle_2 : decode cX2_settle 2 = .ok (.iload_n 2, 1) := by decide +kernel
theorem dX2_settle_3 : decode cX2_settle 3 = .ok (.iconst 4, 1) := by decide +kernel
theorem dX2_settle_4 : decode cX2_settle 4 = .ok (.if_icmp .ge 31, 3) := by decide +kernel
theorem dX2_settle_7 : decode cX2_settle 7 = .ok (.aload_n 0, 1) := by decide +kernel
theorem dX2_settle_8 : decode cX2_settle 8 = .ok (.getfield 19, 3) := by decide +kernel
theorem dX2_settle_11 : decode cX2_settle 11 = .ok (.iload_n 1, 1) := by decide +kernel
theorem dX2_settle_12 : decode cX2_settle 12 = .ok (.aaload, 1) := by decide +kernel
theorem dX2_settle_13 : decode cX2_settle 13 = .ok (.iload_n 2, 1) := by decide +kernel
theorem dX2_settle_14 : decode cX2_settle 14 = .ok (.aload_n 0, 1) := by decide +kernel
theorem dX2_settle_15 : decode cX2_settle 15 = .ok (.getfield 29, 3) := by decide +kernel
theorem dX2_settle_18 : decode cX2_settle 18 = .ok (.aload_n 0, 1) := by decide +kernel
theorem dX2_settle_19 : decode cX2_settle 19 = .ok (.getfield 13, 3) := by decide +kernel
theorem dX2_settle_22 : decode cX2_settle 22 = .ok (.iload_n 1, 1) := by decide +kernel
theorem dX2_settle_23 : decode cX2_settle 23 = .ok (.aaload, 1) := by decide +kernel
theorem dX2_settle_24 : decode cX2_settle 24 = .ok (.iload_n 2, 1) := by decide +kernel
theorem dX2_settle_25 : decode cX2_settle 25 = .ok (.invokevirtual 107, 3) := by decide +kernel
theorem dX2_settle_28 : decode cX2_settle 28 = .ok (.iastore, 1) := by decide +kernel
theorem dX2_settle_29 : decode cX2_settle 29 = .ok (.iinc 2 1, 3) := by decide +kernel
theorem dX2_settle_32 : decode cX2_settle 32 = .ok (.goto (-30), 3) := by decide +kernel
theorem dX2_settle_35 : decode cX2_settle 35 = .ok (.return_, 1) := by decide +kernel
theorem dX2_reached_0 : decode cX2_reached 0 = .ok (.iconst 0, 1) := by decide +kernel
theorem dX2_reached_1 : decode cX2_reached 1 = .ok (.istore_n 3, 1) := by decide +kernel
theorem dX2_reached_2 : decode cX2_reached 2 = .ok (.iconst 0, 1) := by decide +kernel
theorem dX2_reached_3 : decode cX2_reached 3 = .ok (.istore 4, 2) := by decide +kernel
theorem dX2_reached_5 : decode cX2_reached 5 = .ok (.iload 4, 2) := by decide +kernel
theorem dX2_reached_7 : decode cX2_reached 7 = .ok (.iconst 4, 1) := by decide +kernel
theorem dX2_reached_8 : decode cX2_reached 8 = .ok (.if_icmp .ge 32, 3) := by decide +kernel
theorem dX2_reached_11 : decode cX2_reached 11 = .ok (.iload_n 3, 1) := by decide +kernel
theorem dX2_reached_12 : decode cX2_reached 12 = .ok (.aload_n 0, 1) := by decide +kernel
theorem dX2_reached_13 : decode cX2_reached 13 = .ok (.iload_n 2, 1) := by decide +kernel
theorem dX2_reached_14 : decode cX2_reached 14 = .ok (.invokevirtual 64, 3) := by decide +kernel
theorem dX2_reached_17 : decode cX2_reached 17 = .ok (.iload 4, 2) := by decide +kernel
theorem dX2_reached_19 : decode cX2_reached 19 = .ok (.ishr, 1) := by decide +kernel
theorem dX2_reached_20 : decode cX2_reached 20 = .ok (.iconst 1, 1) := by decide +kernel
theorem dX2_reached_21 : decode cX2_reached 21 = .ok (.iand, 1) := by decide +kernel
theorem dX2_reached_22 : decode cX2_reached 22 = .ok (.aload_n 0, 1) := by decide +kernel
theorem dX2_reached_23 : decode cX2_reached 23 = .ok (.getfield 19, 3) := by decide +kernel
theorem dX2_reached_26 : decode cX2_reached 26 = .ok (.iload_n 1, 1) := by decide +kernel
theorem dX2_reached_27 : decode cX2_reached 27 = .ok (.aaload, 1) := by decide +kernel
theorem dX2_reached_28 : decode cX2_reached 28 = .ok (.iload 4, 2) := by decide +kernel
theorem dX2_reached_30 : decode cX2_reached 30 = .ok (.iaload, 1) := by decide +kernel
theorem dX2_reached_31 : decode cX2_reached 31 = .ok (.imul, 1) := by decide +kernel
theorem dX2_reached_32 : decode cX2_reached 32 = .ok (.iadd, 1) := by decide +kernel
theorem dX2_reached_33 : decode cX2_reached 33 = .ok (.istore_n 3, 1) := by decide +kernel
theorem dX2_reached_34 : decode cX2_reached 34 = .ok (.iinc 4 1, 3) := by decide +kernel
theorem dX2_reached_37 : decode cX2_reached 37 = .ok (.goto (-32), 3) := by decide +kernel
theorem dX2_reached_40 : decode cX2_reached 40 = .ok (.iload_n 3, 1) := by decide +kernel
theorem dX2_reached_41 : decode cX2_reached 41 = .ok (.ireturn, 1) := by decide +kernel
theorem dX2_takeOver_0 : decode cX2_takeOver 0 = .ok (.aload_n 0, 1) := by decide +kernel
theorem dX2_takeOver_1 : decode cX2_takeOver 1 = .ok (.getfield 19, 3) := by decide +kernel
theorem dX2_takeOver_4 : decode cX2_takeOver 4 = .ok (.iload_n 1, 1) := by decide +kernel
theorem dX2_takeOver_5 : decode cX2_takeOver 5 = .ok (.iconst 1, 1) := by decide +kernel
theorem dX2_takeOver_6 : decode cX2_takeOver 6 = .ok (.iadd, 1) := by decide +kernel
theorem dX2_takeOver_7 : decode cX2_takeOver 7 = .ok (.aaload, 1) := by decide +kernel
theorem dX2_takeOver_8 : decode cX2_takeOver 8 = .ok (.iconst 0, 1) := by decide +kernel
theorem dX2_takeOver_9 : decode cX2_takeOver 9 = .ok (.aload_n 0, 1) := by decide +kernel
theorem dX2_takeOver_10 : decode cX2_takeOver 10 = .ok (.getfield 19, 3) := by decide +kernel
theorem dX2_takeOver_13 : decode cX2_takeOver 13 = .ok (.iload_n 1, 1) := by decide +kernel
theorem dX2_takeOver_14 : decode cX2_takeOver 14 = .ok (.aaload, 1) := by decide +kernel
theorem dX2_takeOver_15 : decode cX2_takeOver 15 = .ok (.iconst 0, 1) := by decide +kernel
theorem dX2_takeOver_16 : decode cX2_takeOver 16 = .ok (.iconst 4, 1) := by decide +kernel
theorem dX2_takeOver_17 : decode cX2_takeOver 17 = .ok (.invokestatic 111, 3) := by decide +kernel
theorem dX2_takeOver_20 : decode cX2_takeOver 20 = .ok (.aload_n 0, 1) := by decide +kernel
theorem dX2_takeOver_21 : decode cX2_takeOver 21 = .ok (.getfield 22, 3) := by decide +kernel
theorem dX2_takeOver_24 : decode cX2_takeOver 24 = .ok (.iload_n 1, 1) := by decide +kernel
theorem dX2_takeOver_25 : decode cX2_takeOver 25 = .ok (.iconst 1, 1) := by decide +kernel
theorem dX2_takeOver_26 : decode cX2_takeOver 26 = .ok (.iadd, 1) := by decide +kernel
theorem dX2_takeOver_27 : decode cX2_takeOver 27 = .ok (.aaload, 1) := by decide +kernel
theorem dX2_takeOver_28 : decode cX2_takeOver 28 = .ok (.iconst 0, 1) := by decide +kernel
theorem dX2_takeOver_29 : decode cX2_takeOver 29 = .ok (.aload_n 0, 1) := by decide +kernel
theorem dX2_takeOver_30 : decode cX2_takeOver 30 = .ok (.getfield 22, 3) := by decide +kernel
theorem dX2_takeOver_33 : decode cX2_takeOver 33 = .ok (.iload_n 1, 1) := by decide +kernel
theorem dX2_takeOver_34 : decode cX2_takeOver 34 = .ok (.aaload, 1) := by decide +kernel
theorem dX2_takeOver_35 : decode cX2_takeOver 35 = .ok (.iconst 0, 1) := by decide +kernel
theorem dX2_takeOver_36 : decode cX2_takeOver 36 = .ok (.bipush 11, 2) := by decide +kernel
theorem dX2_takeOver_38 : decode cX2_takeOver 38 = .ok (.invokestatic 111, 3) := by decide +kernel
theorem dX2_takeOver_41 : decode cX2_takeOver 41 = .ok (.aload_n 0, 1) := by decide +kernel
theorem dX2_takeOver_42 : decode cX2_takeOver 42 = .ok (.getfield 22, 3) := by decide +kernel
theorem dX2_takeOver_45 : decode cX2_takeOver 45 = .ok (.iload_n 1, 1) := by decide +kernel
theorem dX2_takeOver_46 : decode cX2_takeOver 46 = .ok (.aaload, 1) := by decide +kernel
theorem dX2_takeOver_47 : decode cX2_takeOver 47 = .ok (.iload_n 1, 1) := by decide +kernel
theorem dX2_takeOver_48 : decode cX2_takeOver 48 = .ok (.iload_n 2, 1) := by decide +kernel
theorem dX2_takeOver_49 : decode cX2_takeOver 49 = .ok (.iastore, 1) := by decide +kernel
theorem dX2_takeOver_50 : decode cX2_takeOver 50 = .ok (.return_, 1) := by decide +kernel
theorem dX2_expected_0 : decode cX2_expected 0 = .ok (.aload_n 0, 1) := by decide +kernel
theorem dX2_expected_1 : decode cX2_expected 1 = .ok (.iload_n 2, 1) := by decide +kernel
theorem dX2_expected_2 : decode cX2_expected 2 = .ok (.putfield 117, 3) := by decide +kernel
theorem dX2_expected_5 : decode cX2_expected 5 = .ok (.aload_n 0, 1) := by decide +kernel
theorem dX2_expected_6 : decode cX2_expected 6 = .ok (.iload_n 3, 1) := by decide +kernel
theorem dX2_expected_7 : decode cX2_expected 7 = .ok (.putfield 120, 3) := by decide +kernel
theorem dX2_expected_10 : decode cX2_expected 10 = .ok (.aload_n 0, 1) := by decide +kernel
theorem dX2_expected_11 : decode cX2_expected 11 = .ok (.getfield 13, 3) := by decide +kernel
theorem dX2_expected_14 : decode cX2_expected 14 = .ok (.iconst 0, 1) := by decide +kernel
theorem dX2_expected_15 : decode cX2_expected 15 = .ok (.aaload, 1) := by decide +kernel
theorem dX2_expected_16 : decode cX2_expected 16 = .ok (.aload_n 1, 1) := by decide +kernel
theorem dX2_expected_17 : decode cX2_expected 17 = .ok (.invokevirtual 53, 3) := by decide +kernel
theorem dX2_expected_20 : decode cX2_expected 20 = .ok (.aload_n 0, 1) := by decide +kernel
theorem dX2_expected_21 : decode cX2_expected 21 = .ok (.getfield 29, 3) := by decide +kernel
theorem dX2_expected_24 : decode cX2_expected 24 = .ok (.aload_n 1, 1) := by decide +kernel
theorem dX2_expected_25 : decode cX2_expected 25 = .ok (.bipush 15, 2) := by decide +kernel
theorem dX2_expected_27 : decode cX2_expected 27 = .ok (.iconst 1, 1) := by decide +kernel
theorem dX2_expected_28 : decode cX2_expected 28 = .ok (.iload_n 2, 1) := by decide +kernel
theorem dX2_expected_29 : decode cX2_expected 29 = .ok (.ishl, 1) := by decide +kernel
theorem dX2_expected_30 : decode cX2_expected 30 = .ok (.iconst (-1), 1) := by decide +kernel
theorem dX2_expected_31 : decode cX2_expected 31 = .ok (.ixor, 1) := by decide +kernel
theorem dX2_expected_32 : decode cX2_expected 32 = .ok (.iand, 1) := by decide +kernel
theorem dX2_expected_33 : decode cX2_expected 33 = .ok (.invokevirtual 123, 3) := by decide +kernel
theorem dX2_expected_36 : decode cX2_expected 36 = .ok (.istore 5, 2) := by decide +kernel
theorem dX2_expected_38 : decode cX2_expected 38 = .ok (.aload_n 0, 1) := by decide +kernel
theorem dX2_expected_39 : decode cX2_expected 39 = .ok (.iconst 0, 1) := by decide +kernel
theorem dX2_expected_40 : decode cX2_expected 40 = .ok (.invokestatic 126, 3) := by decide +kernel
theorem dX2_expected_43 : decode cX2_expected 43 = .ok (.lstore 6, 2) := by decide +kernel
theorem dX2_expected_45 : decode cX2_expected 45 = .ok (.lconst 1, 1) := by decide +kernel
theorem dX2_expected_46 : decode cX2_expected 46 = .ok (.lstore 8, 2) := by decide +kernel
theorem dX2_expected_48 : decode cX2_expected 48 = .ok (.iconst 0, 1) := by decide +kernel
theorem dX2_expected_49 : decode cX2_expected 49 = .ok (.istore 10, 2) := by decide +kernel
theorem dX2_expected_51 : decode cX2_expected 51 = .ok (.iload 10, 2) := by decide +kernel
theorem dX2_expected_53 : decode cX2_expected 53 = .ok (.iload 5, 2) := by decide +kernel
theorem dX2_expected_55 : decode cX2_expected 55 = .ok (.if_icmp .ge 24, 3) := by decide +kernel
theorem dX2_expected_58 : decode cX2_expected 58 = .ok (.iload 10, 2) := by decide +kernel
theorem dX2_expected_60 : decode cX2_expected 60 = .ok (.bipush 10, 2) := by decide +kernel
theorem dX2_expected_62 : decode cX2_expected 62 = .ok (.if_icmp .ge 17, 3) := by decide +kernel
theorem dX2_expected_65 : decode cX2_expected 65 = .ok (.lload 8, 2) := by decide +kernel
theorem dX2_expected_67 : decode cX2_expected 67 = .ok (.ldc2_w 130, 3) := by decide +kernel
theorem dX2_expected_70 : decode cX2_expected 70 = .ok (.lmul, 1) := by decide +kernel
theorem dX2_expected_71 : decode cX2_expected 71 = .ok (.lstore 8, 2) := by decide +kernel
theorem dX2_expected_73 : decode cX2_expected 73 = .ok (.iinc 10 1, 3) := by decide +kernel
theorem dX2_expected_76 : decode cX2_expected 76 = .ok (.goto (-25), 3) := by decide +kernel
theorem dX2_expected_79 : decode cX2_expected 79 = .ok (.iconst 0, 1) := by decide +kernel
theorem dX2_expected_80 : decode cX2_expected 80 = .ok (.istore 10, 2) := by decide +kernel
theorem dX2_expected_82 : decode cX2_expected 82 = .ok (.iload 10, 2) := by decide +kernel
theorem dX2_expected_84 : decode cX2_expected 84 = .ok (.iload 5, 2) := by decide +kernel
theorem dX2_expected_86 : decode cX2_expected 86 = .ok (.if_icmp .ge 70, 3) := by decide +kernel
theorem dX2_expected_89 : decode cX2_expected 89 = .ok (.iload 10, 2) := by decide +kernel
theorem dX2_expected_91 : decode cX2_expected 91 = .ok (.bipush 10, 2) := by decide +kernel
theorem dX2_expected_93 : decode cX2_expected 93 = .ok (.if_icmp .ge 63, 3) := by decide +kernel
theorem dX2_expected_96 : decode cX2_expected 96 = .ok (.lload 6, 2) := by decide +kernel
theorem dX2_expected_98 : decode cX2_expected 98 = .ok (.ldc2_w 132, 3) := by decide +kernel
theorem dX2_expected_101 : decode cX2_expected 101 = .ok (.lrem, 1) := by decide +kernel
theorem dX2_expected_102 : decode cX2_expected 102 = .ok (.lconst 0, 1) := by decide +kernel
theorem dX2_expected_103 : decode cX2_expected 103 = .ok (.lcmp, 1) := by decide +kernel
theorem dX2_expected_104 : decode cX2_expected 104 = .ok (.ifCond .ne 19, 3) := by decide +kernel
theorem dX2_expected_107 : decode cX2_expected 107 = .ok (.lload 6, 2) := by decide +kernel
theorem dX2_expected_109 : decode cX2_expected 109 = .ok (.ldc2_w 132, 3) := by decide +kernel
theorem dX2_expected_112 : decode cX2_expected 112 = .ok (.ldiv, 1) := by decide +kernel
theorem dX2_expected_113 : decode cX2_expected 113 = .ok (.lstore 6, 2) := by decide +kernel
theorem dX2_expected_115 : decode cX2_expected 115 = .ok (.lload 8, 2) := by decide +kernel
theorem dX2_expected_117 : decode cX2_expected 117 = .ok (.ldc2_w 132, 3) := by decide +kernel
theorem dX2_expected_120 : decode cX2_expected 120 = .ok (.ldiv, 1) := by decide +kernel
theorem dX2_expected_121 : decode cX2_expected 121 = .ok (.lstore 8, 2) := by decide +kernel
theorem dX2_expected_123 : decode cX2_expected 123 = .ok (.lload 6, 2) := by decide +kernel
theorem dX2_expected_125 : decode cX2_expected 125 = .ok (.ldc2_w 134, 3) := by decide +kernel
theorem dX2_expected_128 : decode cX2_expected 128 = .ok (.lrem, 1) := by decide +kernel
theorem dX2_expected_129 : decode cX2_expected 129 = .ok (.lconst 0, 1) := by decide +kernel
theorem dX2_expected_130 : decode cX2_expected 130 = .ok (.lcmp, 1) := by decide +kernel
theorem dX2_expected_131 : decode cX2_expected 131 = .ok (.ifCond .ne 19, 3) := by decide +kernel
theorem dX2_expected_134 : decode cX2_expected 134 = .ok (.lload 6, 2) := by decide +kernel
theorem dX2_expected_136 : decode cX2_expected 136 = .ok (.ldc2_w 134, 3) := by decide +kernel
theorem dX2_expected_139 : decode cX2_expected 139 = .ok (.ldiv, 1) := by decide +kernel
theorem dX2_expected_140 : decode cX2_expected 140 = .ok (.lstore 6, 2) := by decide +kernel
theorem dX2_expected_142 : decode cX2_expected 142 = .ok (.lload 8, 2) := by decide +kernel
theorem dX2_expected_144 : decode cX2_expected 144 = .ok (.ldc2_w 134, 3) := by decide +kernel
theorem dX2_expected_147 : decode cX2_expected 147 = .ok (.ldiv, 1) := by decide +kernel
theorem dX2_expected_148 : decode cX2_expected 148 = .ok (.lstore 8, 2) := by decide +kernel
theorem dX2_expected_150 : decode cX2_expected 150 = .ok (.iinc 10 1, 3) := by decide +kernel
theorem dX2_expected_153 : decode cX2_expected 153 = .ok (.goto (-71), 3) := by decide +kernel
theorem dX2_expected_156 : decode cX2_expected 156 = .ok (.iload 4, 2) := by decide +kernel
theorem dX2_expected_158 : decode cX2_expected 158 = .ok (.ifCond .ne 8, 3) := by decide +kernel
theorem dX2_expected_161 : decode cX2_expected 161 = .ok (.lload 6, 2) := by decide +kernel
theorem dX2_expected_163 : decode cX2_expected 163 = .ok (.goto 5, 3) := by decide +kernel
theorem dX2_expected_166 : decode cX2_expected 166 = .ok (.lload 8, 2) := by decide +kernel
theorem dX2_expected_168 : decode cX2_expected 168 = .ok (.lreturn, 1) := by decide +kernel
theorem dX2_weigh_0 : decode cX2_weigh 0 = .ok (.iload_n 1, 1) := by decide +kernel
theorem dX2_weigh_1 : decode cX2_weigh 1 = .ok (.ifCond .lt 9, 3) := by decide +kernel
theorem dX2_weigh_4 : decode cX2_weigh 4 = .ok (.iload_n 1, 1) := by decide +kernel
theorem dX2_weigh_5 : decode cX2_weigh 5 = .ok (.bipush 11, 2) := by decide +kernel
theorem dX2_weigh_7 : decode cX2_weigh 7 = .ok (.if_icmp .lt 5, 3) := by decide +kernel
theorem dX2_weigh_10 : decode cX2_weigh 10 = .ok (.lconst 0, 1) := by decide +kernel
theorem dX2_weigh_11 : decode cX2_weigh 11 = .ok (.lreturn, 1) := by decide +kernel
theorem dX2_weigh_12 : decode cX2_weigh 12 = .ok (.aload_n 0, 1) := by decide +kernel
theorem dX2_weigh_13 : decode cX2_weigh 13 = .ok (.getfield 13, 3) := by decide +kernel
theorem dX2_weigh_16 : decode cX2_weigh 16 = .ok (.iload_n 1, 1) := by decide +kernel
theorem dX2_weigh_17 : decode cX2_weigh 17 = .ok (.aaload, 1) := by decide +kernel
theorem dX2_weigh_18 : decode cX2_weigh 18 = .ok (.astore_n 2, 1) := by decide +kernel
theorem dX2_weigh_19 : decode cX2_weigh 19 = .ok (.lconst 1, 1) := by decide +kernel
theorem dX2_weigh_20 : decode cX2_weigh 20 = .ok (.lstore_n 3, 1) := by decide +kernel
theorem dX2_weigh_21 : decode cX2_weigh 21 = .ok (.aload_n 2, 1) := by decide +kernel
theorem dX2_weigh_22 : decode cX2_weigh 22 = .ok (.getfield 37, 3) := by decide +kernel
theorem dX2_weigh_25 : decode cX2_weigh 25 = .ok (.istore 5, 2) := by decide +kernel
theorem dX2_weigh_27 : decode cX2_weigh 27 = .ok (.iload 5, 2) := by decide +kernel
theorem dX2_weigh_29 : decode cX2_weigh 29 = .ok (.aload_n 0, 1) := by decide +kernel
theorem dX2_weigh_30 : decode cX2_weigh 30 = .ok (.getfield 29, 3) := by decide +kernel
theorem dX2_weigh_33 : decode cX2_weigh 33 = .ok (.getfield 40, 3) := by decide +kernel
theorem dX2_weigh_36 : decode cX2_weigh 36 = .ok (.if_icmp .ge 118, 3) := by decide +kernel
theorem dX2_weigh_39 : decode cX2_weigh 39 = .ok (.aload_n 0, 1) := by decide +kernel
theorem dX2_weigh_40 : decode cX2_weigh 40 = .ok (.getfield 29, 3) := by decide +kernel
theorem dX2_weigh_43 : decode cX2_weigh 43 = .ok (.iload 5, 2) := by decide +kernel
theorem dX2_weigh_45 : decode cX2_weigh 45 = .ok (.invokevirtual 45, 3) := by decide +kernel
theorem dX2_weigh_48 : decode cX2_weigh 48 = .ok (.aload_n 0, 1) := by decide +kernel
theorem dX2_weigh_49 : decode cX2_weigh 49 = .ok (.getfield 117, 3) := by decide +kernel
theorem dX2_weigh_52 : decode cX2_weigh 52 = .ok (.if_icmp .ne 7, 3) := by decide +kernel
theorem dX2_weigh_55 : decode cX2_weigh 55 = .ok (.iconst 1, 1) := by decide +kernel
theorem dX2_weigh_56 : decode cX2_weigh 56 = .ok (.goto 4, 3) := by decide +kernel
theorem dX2_weigh_59 : decode cX2_weigh 59 = .ok (.iconst 0, 1) := by decide +kernel
theorem dX2_weigh_60 : decode cX2_weigh 60 = .ok (.istore 6, 2) := by decide +kernel
theorem dX2_weigh_62 : decode cX2_weigh 62 = .ok (.aload_n 0, 1) := by decide +kernel
theorem dX2_weigh_63 : decode cX2_weigh 63 = .ok (.getfield 29, 3) := by decide +kernel
theorem dX2_weigh_66 : decode cX2_weigh 66 = .ok (.aload_n 2, 1) := by decide +kernel
theorem dX2_weigh_67 : decode cX2_weigh 67 = .ok (.invokevirtual 67, 3) := by decide +kernel
theorem dX2_weigh_70 : decode cX2_weigh 70 = .ok (.istore 7, 2) := by decide +kernel
theorem dX2_weigh_72 : decode cX2_weigh 72 = .ok (.iload 6, 2) := by decide +kernel
theorem dX2_weigh_74 : decode cX2_weigh 74 = .ok (.ifCond .ne 49, 3) := by decide +kernel
theorem dX2_weigh_77 : decode cX2_weigh 77 = .ok (.iload 7, 2) := by decide +kernel
theorem dX2_weigh_79 : decode cX2_weigh 79 = .ok (.iconst (-1), 1) := by decide +kernel
theorem dX2_weigh_80 : decode cX2_weigh 80 = .ok (.if_icmp .eq 43, 3) := by decide +kernel
theorem dX2_weigh_83 : decode cX2_weigh 83 = .ok (.bipush 10, 2) := by decide +kernel
theorem dX2_weigh_85 : decode cX2_weigh 85 = .ok (.aload_n 0, 1) := by decide +kernel
theorem dX2_weigh_86 : decode cX2_weigh 86 = .ok (.getfield 120, 3) := by decide +kernel
theorem dX2_weigh_89 : decode cX2_weigh 89 = .ok (.isub, 1) := by decide +kernel
theorem dX2_weigh_90 : decode cX2_weigh 90 = .ok (.i2l, 1) := by decide +kernel
theorem dX2_weigh_91 : decode cX2_weigh 91 = .ok (.aload_n 0, 1) := by decide +kernel
theorem dX2_weigh_92 : decode cX2_weigh 92 = .ok (.iload_n 1, 1) := by decide +kernel
theorem dX2_weigh_93 : decode cX2_weigh 93 = .ok (.iconst (-1), 1) := by decide +kernel
theorem dX2_weigh_94 : decode cX2_weigh 94 = .ok (.invokestatic 136, 3) := by decide +kernel
theorem dX2_weigh_97 : decode cX2_weigh 97 = .ok (.lmul, 1) := by decide +kernel
theorem dX2_weigh_98 : decode cX2_weigh 98 = .ok (.lstore 8, 2) := by decide +kernel
theorem dX2_weigh_100 : decode cX2_weigh 100 = .ok (.aload_n 0, 1) := by decide +kernel
theorem dX2_weigh_101 : decode cX2_weigh 101 = .ok (.getfield 120, 3) := by decide +kernel
theorem dX2_weigh_104 : decode cX2_weigh 104 = .ok (.i2l, 1) := by decide +kernel
theorem dX2_weigh_105 : decode cX2_weigh 105 = .ok (.aload_n 0, 1) := by decide +kernel
theorem dX2_weigh_106 : decode cX2_weigh 106 = .ok (.iload_n 1, 1) := by decide +kernel
theorem dX2_weigh_107 : decode cX2_weigh 107 = .ok (.iload 7, 2) := by decide +kernel
theorem dX2_weigh_109 : decode cX2_weigh 109 = .ok (.invokestatic 136, 3) := by decide +kernel
theorem dX2_weigh_112 : decode cX2_weigh 112 = .ok (.lmul, 1) := by decide +kernel
theorem dX2_weigh_113 : decode cX2_weigh 113 = .ok (.lstore 10, 2) := by decide +kernel
theorem dX2_weigh_115 : decode cX2_weigh 115 = .ok (.lload_n 3, 1) := by decide +kernel
theorem dX2_weigh_116 : decode cX2_weigh 116 = .ok (.lload 8, 2) := by decide +kernel
theorem dX2_weigh_118 : decode cX2_weigh 118 = .ok (.lload 10, 2) := by decide +kernel
theorem dX2_weigh_120 : decode cX2_weigh 120 = .ok (.ladd, 1) := by decide +kernel
theorem dX2_weigh_121 : decode cX2_weigh 121 = .ok (.lmul, 1) := by decide +kernel
theorem dX2_weigh_122 : decode cX2_weigh 122 = .ok (.lreturn, 1) := by decide +kernel
theorem dX2_weigh_123 : decode cX2_weigh 123 = .ok (.aload_n 0, 1) := by decide +kernel
theorem dX2_weigh_124 : decode cX2_weigh 124 = .ok (.getfield 29, 3) := by decide +kernel
theorem dX2_weigh_127 : decode cX2_weigh 127 = .ok (.aload_n 2, 1) := by decide +kernel
theorem dX2_weigh_128 : decode cX2_weigh 128 = .ok (.iload 7, 2) := by decide +kernel
theorem dX2_weigh_130 : decode cX2_weigh 130 = .ok (.invokevirtual 71, 3) := by decide +kernel
theorem dX2_weigh_133 : decode cX2_weigh 133 = .ok (.lload_n 3, 1) := by decide +kernel
theorem dX2_weigh_134 : decode cX2_weigh 134 = .ok (.iload 6, 2) := by decide +kernel
theorem dX2_weigh_136 : decode cX2_weigh 136 = .ok (.ifCond .eq 7, 3) := by decide +kernel
theorem dX2_weigh_139 : decode cX2_weigh 139 = .ok (.lconst 1, 1) := by decide +kernel
theorem dX2_weigh_140 : decode cX2_weigh 140 = .ok (.goto 6, 3) := by decide +kernel
theorem dX2_weigh_143 : decode cX2_weigh 143 = .ok (.ldc2_w 130, 3) := by decide +kernel
theorem dX2_weigh_146 : decode cX2_weigh 146 = .ok (.lmul, 1) := by decide +kernel
theorem dX2_weigh_147 : decode cX2_weigh 147 = .ok (.lstore_n 3, 1) := by decide +kernel
theorem dX2_weigh_148 : decode cX2_weigh 148 = .ok (.iinc 5 1, 3) := by decide +kernel
theorem dX2_weigh_151 : decode cX2_weigh 151 = .ok (.goto (-124), 3) := by decide +kernel
theorem dX2_weigh_154 : decode cX2_weigh 154 = .ok (.lload_n 3, 1) := by decide +kernel
theorem dX2_weigh_155 : decode cX2_weigh 155 = .ok (.aload_n 0, 1) := by decide +kernel
theorem dX2_weigh_156 : decode cX2_weigh 156 = .ok (.getfield 29, 3) := by decide +kernel
theorem dX2_weigh_159 : decode cX2_weigh 159 = .ok (.aload_n 2, 1) := by decide +kernel
theorem dX2_weigh_160 : decode cX2_weigh 160 = .ok (.aload_n 0, 1) := by decide +kernel
theorem dX2_weigh_161 : decode cX2_weigh 161 = .ok (.getfield 117, 3) := by decide +kernel
theorem dX2_weigh_164 : decode cX2_weigh 164 = .ok (.invokevirtual 107, 3) := by decide +kernel
theorem dX2_weigh_167 : decode cX2_weigh 167 = .ok (.i2l, 1) := by decide +kernel
theorem dX2_weigh_168 : decode cX2_weigh 168 = .ok (.lmul, 1) := by decide +kernel
theorem dX2_weigh_169 : decode cX2_weigh 169 = .ok (.lreturn, 1) := by decide +kernel
theorem dX2_weighNext_0 : decode cX2_weighNext 0 = .ok (.iload_n 1, 1) := by decide +kernel
theorem dX2_weighNext_1 : decode cX2_weighNext 1 = .ok (.ifCond .lt 11, 3) := by decide +kernel
theorem dX2_weighNext_4 : decode cX2_weighNext 4 = .ok (.iload_n 1, 1) := by decide +kernel
theorem dX2_weighNext_5 : decode cX2_weighNext 5 = .ok (.iconst 1, 1) := by decide +kernel
theorem dX2_weighNext_6 : decode cX2_weighNext 6 = .ok (.iadd, 1) := by decide +kernel
theorem dX2_weighNext_7 : decode cX2_weighNext 7 = .ok (.bipush 11, 2) := by decide +kernel
theorem dX2_weighNext_9 : decode cX2_weighNext 9 = .ok (.if_icmp .lt 5, 3) := by decide +kernel
theorem dX2_weighNext_12 : decode cX2_weighNext 12 = .ok (.lconst 0, 1) := by decide +kernel
theorem dX2_weighNext_13 : decode cX2_weighNext 13 = .ok (.lreturn, 1) := by decide +kernel
theorem dX2_weighNext_14 : decode cX2_weighNext 14 = .ok (.aload_n 0, 1) := by decide +kernel
theorem dX2_weighNext_15 : decode cX2_weighNext 15 = .ok (.getfield 13, 3) := by decide +kernel
theorem dX2_weighNext_18 : decode cX2_weighNext 18 = .ok (.iload_n 1, 1) := by decide +kernel
theorem dX2_weighNext_19 : decode cX2_weighNext 19 = .ok (.iconst 1, 1) := by decide +kernel
theorem dX2_weighNext_20 : decode cX2_weighNext 20 = .ok (.iadd, 1) := by decide +kernel
theorem dX2_weighNext_21 : decode cX2_weighNext 21 = .ok (.aaload, 1) := by decide +kernel
theorem dX2_weighNext_22 : decode cX2_weighNext 22 = .ok (.aload_n 0, 1) := by decide +kernel
theorem dX2_weighNext_23 : decode cX2_weighNext 23 = .ok (.getfield 13, 3) := by decide +kernel
theorem dX2_weighNext_26 : decode cX2_weighNext 26 = .ok (.iload_n 1, 1) := by decide +kernel
theorem dX2_weighNext_27 : decode cX2_weighNext 27 = .ok (.aaload, 1) := by decide +kernel
theorem dX2_weighNext_28 : decode cX2_weighNext 28 = .ok (.invokevirtual 53, 3) := by decide +kernel
theorem dX2_weighNext_31 : decode cX2_weighNext 31 = .ok (.aload_n 0, 1) := by decide +kernel
theorem dX2_weighNext_32 : decode cX2_weighNext 32 = .ok (.getfield 29, 3) := by decide +kernel
theorem dX2_weighNext_35 : decode cX2_weighNext 35 = .ok (.aload_n 0, 1) := by decide +kernel
theorem dX2_weighNext_36 : decode cX2_weighNext 36 = .ok (.getfield 13, 3) := by decide +kernel
theorem dX2_weighNext_39 : decode cX2_weighNext 39 = .ok (.iload_n 1, 1) := by decide +kernel
theorem dX2_weighNext_40 : decode cX2_weighNext 40 = .ok (.iconst 1, 1) := by decide +kernel
theorem dX2_weighNext_41 : decode cX2_weighNext 41 = .ok (.iadd, 1) := by decide +kernel
theorem dX2_weighNext_42 : decode cX2_weighNext 42 = .ok (.aaload, 1) := by decide +kernel
theorem dX2_weighNext_43 : decode cX2_weighNext 43 = .ok (.iload_n 2, 1) := by decide +kernel
theorem dX2_weighNext_44 : decode cX2_weighNext 44 = .ok (.invokevirtual 71, 3) := by decide +kernel
theorem dX2_weighNext_47 : decode cX2_weighNext 47 = .ok (.aload_n 0, 1) := by decide +kernel
theorem dX2_weighNext_48 : decode cX2_weighNext 48 = .ok (.iload_n 1, 1) := by decide +kernel
theorem dX2_weighNext_49 : decode cX2_weighNext 49 = .ok (.iconst 1, 1) := by decide +kernel
theorem dX2_weighNext_50 : decode cX2_weighNext 50 = .ok (.iadd, 1) := by decide +kernel
theorem dX2_weighNext_51 : decode cX2_weighNext 51 = .ok (.invokestatic 126, 3) := by decide +kernel
theorem dX2_weighNext_54 : decode cX2_weighNext 54 = .ok (.lreturn, 1) := by decide +kernel
theorem dX2_tillDry_0 : decode cX2_tillDry 0 = .ok (.aload_n 0, 1) := by decide +kernel
theorem dX2_tillDry_1 : decode cX2_tillDry 1 = .ok (.getfield 13, 3) := by decide +kernel
theorem dX2_tillDry_4 : decode cX2_tillDry 4 = .ok (.iconst 0, 1) := by decide +kernel
theorem dX2_tillDry_5 : decode cX2_tillDry 5 = .ok (.aaload, 1) := by decide +kernel
theorem dX2_tillDry_6 : decode cX2_tillDry 6 = .ok (.astore_n 2, 1) := by decide +kernel
theorem dX2_tillDry_7 : decode cX2_tillDry 7 = .ok (.aload_n 2, 1) := by decide +kernel
theorem dX2_tillDry_8 : decode cX2_tillDry 8 = .ok (.aload_n 1, 1) := by decide +kernel
theorem dX2_tillDry_9 : decode cX2_tillDry 9 = .ok (.invokevirtual 53, 3) := by decide +kernel
theorem dX2_tillDry_12 : decode cX2_tillDry 12 = .ok (.iconst 0, 1) := by decide +kernel
theorem dX2_tillDry_13 : decode cX2_tillDry 13 = .ok (.istore_n 3, 1) := by decide +kernel
theorem dX2_tillDry_14 : decode cX2_tillDry 14 = .ok (.iconst 1, 1) := by decide +kernel
theorem dX2_tillDry_15 : decode cX2_tillDry 15 = .ok (.istore 4, 2) := by decide +kernel
theorem dX2_tillDry_17 : decode cX2_tillDry 17 = .ok (.iload 4, 2) := by decide +kernel
theorem dX2_tillDry_19 : decode cX2_tillDry 19 = .ok (.sipush 200, 3) := by decide +kernel
theorem dX2_tillDry_22 : decode cX2_tillDry 22 = .ok (.if_icmp .gt 86, 3) := by decide +kernel
theorem dX2_tillDry_25 : decode cX2_tillDry 25 = .ok (.aload_n 0, 1) := by decide +kernel
theorem dX2_tillDry_26 : decode cX2_tillDry 26 = .ok (.getfield 29, 3) := by decide +kernel
theorem dX2_tillDry_29 : decode cX2_tillDry 29 = .ok (.getfield 40, 3) := by decide +kernel
theorem dX2_tillDry_32 : decode cX2_tillDry 32 = .ok (.ifCond .le 76, 3) := by decide +kernel
theorem dX2_tillDry_35 : decode cX2_tillDry 35 = .ok (.aload_n 2, 1) := by decide +kernel
theorem dX2_tillDry_36 : decode cX2_tillDry 36 = .ok (.getfield 37, 3) := by decide +kernel
theorem dX2_tillDry_39 : decode cX2_tillDry 39 = .ok (.aload_n 0, 1) := by decide +kernel
theorem dX2_tillDry_40 : decode cX2_tillDry 40 = .ok (.getfield 29, 3) := by decide +kernel
theorem dX2_tillDry_43 : decode cX2_tillDry 43 = .ok (.getfield 40, 3) := by decide +kernel
theorem dX2_tillDry_46 : decode cX2_tillDry 46 = .ok (.if_icmp .lt 8, 3) := by decide +kernel
theorem dX2_tillDry_49 : decode cX2_tillDry 49 = .ok (.aload_n 2, 1) := by decide +kernel
theorem dX2_tillDry_50 : decode cX2_tillDry 50 = .ok (.iconst 0, 1) := by decide +kernel
theorem dX2_tillDry_51 : decode cX2_tillDry 51 = .ok (.putfield 37, 3) := by decide +kernel
theorem dX2_tillDry_54 : decode cX2_tillDry 54 = .ok (.aload_n 0, 1) := by decide +kernel
theorem dX2_tillDry_55 : decode cX2_tillDry 55 = .ok (.getfield 29, 3) := by decide +kernel
theorem dX2_tillDry_58 : decode cX2_tillDry 58 = .ok (.aload_n 2, 1) := by decide +kernel
theorem dX2_tillDry_59 : decode cX2_tillDry 59 = .ok (.invokevirtual 67, 3) := by decide +kernel
theorem dX2_tillDry_62 : decode cX2_tillDry 62 = .ok (.istore 5, 2) := by decide +kernel
theorem dX2_tillDry_64 : decode cX2_tillDry 64 = .ok (.aload_n 0, 1) := by decide +kernel
theorem dX2_tillDry_65 : decode cX2_tillDry 65 = .ok (.getfield 29, 3) := by decide +kernel
theorem dX2_tillDry_68 : decode cX2_tillDry 68 = .ok (.aload_n 2, 1) := by decide +kernel
theorem dX2_tillDry_69 : decode cX2_tillDry 69 = .ok (.iload 5, 2) := by decide +kernel
theorem dX2_tillDry_71 : decode cX2_tillDry 71 = .ok (.invokevirtual 71, 3) := by decide +kernel
theorem dX2_tillDry_74 : decode cX2_tillDry 74 = .ok (.iload 5, 2) := by decide +kernel
theorem dX2_tillDry_76 : decode cX2_tillDry 76 = .ok (.iconst (-1), 1) := by decide +kernel
theorem dX2_tillDry_77 : decode cX2_tillDry 77 = .ok (.if_icmp .ne 9, 3) := by decide +kernel
theorem dX2_tillDry_80 : decode cX2_tillDry 80 = .ok (.iload_n 3, 1) := by decide +kernel
theorem dX2_tillDry_81 : decode cX2_tillDry 81 = .ok (.iconst 1, 1) := by decide +kernel
theorem dX2_tillDry_82 : decode cX2_tillDry 82 = .ok (.iadd, 1) := by decide +kernel
theorem dX2_tillDry_83 : decode cX2_tillDry 83 = .ok (.goto 4, 3) := by decide +kernel
theorem dX2_tillDry_86 : decode cX2_tillDry 86 = .ok (.iconst 0, 1) := by decide +kernel
theorem dX2_tillDry_87 : decode cX2_tillDry 87 = .ok (.istore_n 3, 1) := by decide +kernel
theorem dX2_tillDry_88 : decode cX2_tillDry 88 = .ok (.iload_n 3, 1) := by decide +kernel
theorem dX2_tillDry_89 : decode cX2_tillDry 89 = .ok (.aload_n 0, 1) := by decide +kernel
theorem dX2_tillDry_90 : decode cX2_tillDry 90 = .ok (.getfield 29, 3) := by decide +kernel
theorem dX2_tillDry_93 : decode cX2_tillDry 93 = .ok (.getfield 40, 3) := by decide +kernel
theorem dX2_tillDry_96 : decode cX2_tillDry 96 = .ok (.if_icmp .ne 6, 3) := by decide +kernel
theorem dX2_tillDry_99 : decode cX2_tillDry 99 = .ok (.iload 4, 2) := by decide +kernel
theorem dX2_tillDry_101 : decode cX2_tillDry 101 = .ok (.ireturn, 1) := by decide +kernel
theorem dX2_tillDry_102 : decode cX2_tillDry 102 = .ok (.iinc 4 1, 3) := by decide +kernel
theorem dX2_tillDry_105 : decode cX2_tillDry 105 = .ok (.goto (-88), 3) := by decide +kernel
theorem dX2_tillDry_108 : decode cX2_tillDry 108 = .ok (.iconst (-1), 1) := by decide +kernel
theorem dX2_tillDry_109 : decode cX2_tillDry 109 = .ok (.ireturn, 1) := by decide +kernel
theorem dX2_leastBait_0 : decode cX2_leastBait 0 = .ok (.iconst (-1), 1) := by decide +kernel
theorem dX2_leastBait_1 : decode cX2_leastBait 1 = .ok (.istore_n 3, 1) := by decide +kernel
theorem dX2_leastBait_2 : decode cX2_leastBait 2 = .ok (.aload_n 0, 1) := by decide +kernel
theorem dX2_leastBait_3 : decode cX2_leastBait 3 = .ok (.getfield 13, 3) := by decide +kernel
theorem dX2_leastBait_6 : decode cX2_leastBait 6 = .ok (.iconst 0, 1) := by decide +kernel
theorem dX2_leastBait_7 : decode cX2_leastBait 7 = .ok (.aaload, 1) := by decide +kernel
theorem dX2_leastBait_8 : decode cX2_leastBait 8 = .ok (.aload_n 1, 1) := by decide +kernel
theorem dX2_leastBait_9 : decode cX2_leastBait 9 = .ok (.invokevirtual 53, 3) := by decide +kernel
theorem dX2_leastBait_12 : decode cX2_leastBait 12 = .ok (.iconst (-1), 1) := by decide +kernel
theorem dX2_leastBait_13 : decode cX2_leastBait 13 = .ok (.istore 4, 2) := by decide +kernel
theorem dX2_leastBait_15 : decode cX2_leastBait 15 = .ok (.iload 4, 2) := by decide +kernel
theorem dX2_leastBait_17 : decode cX2_leastBait 17 = .ok (.aload_n 0, 1) := by decide +kernel
theorem dX2_leastBait_18 : decode cX2_leastBait 18 = .ok (.getfield 29, 3) := by decide +kernel
theorem dX2_leastBait_21 : decode cX2_leastBait 21 = .ok (.getfield 93, 3) := by decide +kernel
theorem dX2_leastBait_24 : decode cX2_leastBait 24 = .ok (.if_icmp .ge 112, 3) := by decide +kernel
theorem dX2_leastBait_27 : decode cX2_leastBait 27 = .ok (.iload 4, 2) := by decide +kernel
theorem dX2_leastBait_29 : decode cX2_leastBait 29 = .ok (.istore 5, 2) := by decide +kernel
theorem dX2_leastBait_31 : decode cX2_leastBait 31 = .ok (.iload 5, 2) := by decide +kernel
theorem dX2_leastBait_33 : decode cX2_leastBait 33 = .ok (.aload_n 0, 1) := by decide +kernel
theorem dX2_leastBait_34 : decode cX2_leastBait 34 = .ok (.getfield 29, 3) := by decide +kernel
theorem dX2_leastBait_37 : decode cX2_leastBait 37 = .ok (.getfield 93, 3) := by decide +kernel
theorem dX2_leastBait_40 : decode cX2_leastBait 40 = .ok (.if_icmp .ge 90, 3) := by decide +kernel
theorem dX2_leastBait_43 : decode cX2_leastBait 43 = .ok (.iload 5, 2) := by decide +kernel
theorem dX2_leastBait_45 : decode cX2_leastBait 45 = .ok (.istore 6, 2) := by decide +kernel
theorem dX2_leastBait_47 : decode cX2_leastBait 47 = .ok (.iload 6, 2) := by decide +kernel
theorem dX2_leastBait_49 : decode cX2_leastBait 49 = .ok (.aload_n 0, 1) := by decide +kernel
theorem dX2_leastBait_50 : decode cX2_leastBait 50 = .ok (.getfield 29, 3) := by decide +kernel
theorem dX2_leastBait_53 : decode cX2_leastBait 53 = .ok (.getfield 93, 3) := by decide +kernel
theorem dX2_leastBait_56 : decode cX2_leastBait 56 = .ok (.if_icmp .ge 68, 3) := by decide +kernel
theorem dX2_leastBait_59 : decode cX2_leastBait 59 = .ok (.aload_n 0, 1) := by decide +kernel
theorem dX2_leastBait_60 : decode cX2_leastBait 60 = .ok (.getfield 29, 3) := by decide +kernel
theorem dX2_leastBait_63 : decode cX2_leastBait 63 = .ok (.iload 4, 2) := by decide +kernel
theorem dX2_leastBait_65 : decode cX2_leastBait 65 = .ok (.invokevirtual 140, 3) := by decide +kernel
theorem dX2_leastBait_68 : decode cX2_leastBait 68 = .ok (.aload_n 0, 1) := by decide +kernel
theorem dX2_leastBait_69 : decode cX2_leastBait 69 = .ok (.getfield 29, 3) := by decide +kernel
theorem dX2_leastBait_72 : decode cX2_leastBait 72 = .ok (.iload 5, 2) := by decide +kernel
theorem dX2_leastBait_74 : decode cX2_leastBait 74 = .ok (.invokevirtual 140, 3) := by decide +kernel
theorem dX2_leastBait_77 : decode cX2_leastBait 77 = .ok (.iadd, 1) := by decide +kernel
theorem dX2_leastBait_78 : decode cX2_leastBait 78 = .ok (.aload_n 0, 1) := by decide +kernel
theorem dX2_leastBait_79 : decode cX2_leastBait 79 = .ok (.getfield 29, 3) := by decide +kernel
theorem dX2_leastBait_82 : decode cX2_leastBait 82 = .ok (.iload 6, 2) := by decide +kernel
theorem dX2_leastBait_84 : decode cX2_leastBait 84 = .ok (.invokevirtual 140, 3) := by decide +kernel
theorem dX2_leastBait_87 : decode cX2_leastBait 87 = .ok (.iadd, 1) := by decide +kernel
theorem dX2_leastBait_88 : decode cX2_leastBait 88 = .ok (.istore 7, 2) := by decide +kernel
theorem dX2_leastBait_90 : decode cX2_leastBait 90 = .ok (.iload_n 3, 1) := by decide +kernel
theorem dX2_leastBait_91 : decode cX2_leastBait 91 = .ok (.iconst (-1), 1) := by decide +kernel
theorem dX2_leastBait_92 : decode cX2_leastBait 92 = .ok (.if_icmp .eq 9, 3) := by decide +kernel
theorem dX2_leastBait_95 : decode cX2_leastBait 95 = .ok (.iload 7, 2) := by decide +kernel
theorem dX2_leastBait_97 : decode cX2_leastBait 97 = .ok (.iload_n 3, 1) := by decide +kernel
theorem dX2_leastBait_98 : decode cX2_leastBait 98 = .ok (.if_icmp .ge 20, 3) := by decide +kernel
theorem dX2_leastBait_101 : decode cX2_leastBait 101 = .ok (.aload_n 0, 1) := by decide +kernel
theorem dX2_leastBait_102 : decode cX2_leastBait 102 = .ok (.iload_n 2, 1) := by decide +kernel
theorem dX2_leastBait_103 : decode cX2_leastBait 103 = .ok (.iload 4, 2) := by decide +kernel
theorem dX2_leastBait_105 : decode cX2_leastBait 105 = .ok (.iload 5, 2) := by decide +kernel
theorem dX2_leastBait_107 : decode cX2_leastBait 107 = .ok (.iload 6, 2) := by decide +kernel
theorem dX2_leastBait_109 : decode cX2_leastBait 109 = .ok (.invokevirtual 143, 3) := by decide +kernel
theorem dX2_leastBait_112 : decode cX2_leastBait 112 = .ok (.ifCond .eq 6, 3) := by decide +kernel
theorem dX2_leastBait_115 : decode cX2_leastBait 115 = .ok (.iload 7, 2) := by decide +kernel
theorem dX2_leastBait_117 : decode cX2_leastBait 117 = .ok (.istore_n 3, 1) := by decide +kernel
theorem dX2_leastBait_118 : decode cX2_leastBait 118 = .ok (.iinc 6 1, 3) := by decide +kernel
theorem dX2_leastBait_121 : decode cX2_leastBait 121 = .ok (.goto (-74), 3) := by decide +kernel
theorem dX2_leastBait_124 : decode cX2_leastBait 124 = .ok (.iinc 5 1, 3) := by decide +kernel
theorem dX2_leastBait_127 : decode cX2_leastBait 127 = .ok (.goto (-96), 3) := by decide +kernel
theorem dX2_leastBait_130 : decode cX2_leastBait 130 = .ok (.iinc 4 1, 3) := by decide +kernel
theorem dX2_leastBait_133 : decode cX2_leastBait 133 = .ok (.goto (-118), 3) := by decide +kernel
theorem dX2_leastBait_136 : decode cX2_leastBait 136 = .ok (.iload_n 3, 1) := by decide +kernel
theorem dX2_leastBait_137 : decode cX2_leastBait 137 = .ok (.ireturn, 1) := by decide +kernel
theorem dX2_tempts_0 : decode cX2_tempts 0 = .ok (.aload_n 0, 1) := by decide +kernel
theorem dX2_tempts_1 : decode cX2_tempts 1 = .ok (.iload_n 2, 1) := by decide +kernel
theorem dX2_tempts_2 : decode cX2_tempts 2 = .ok (.iload_n 3, 1) := by decide +kernel
theorem dX2_tempts_3 : decode cX2_tempts 3 = .ok (.iload 4, 2) := by decide +kernel
theorem dX2_tempts_5 : decode cX2_tempts 5 = .ok (.iconst 1, 1) := by decide +kernel
theorem dX2_tempts_6 : decode cX2_tempts 6 = .ok (.invokevirtual 147, 3) := by decide +kernel
theorem dX2_tempts_9 : decode cX2_tempts 9 = .ok (.aload_n 0, 1) := by decide +kernel
theorem dX2_tempts_10 : decode cX2_tempts 10 = .ok (.getfield 29, 3) := by decide +kernel
theorem dX2_tempts_13 : decode cX2_tempts 13 = .ok (.iload_n 1, 1) := by decide +kernel
theorem dX2_tempts_14 : decode cX2_tempts 14 = .ok (.invokevirtual 151, 3) := by decide +kernel
theorem dX2_tempts_17 : decode cX2_tempts 17 = .ok (.aload_n 0, 1) := by decide +kernel
theorem dX2_tempts_18 : decode cX2_tempts 18 = .ok (.getfield 29, 3) := by decide +kernel
theorem dX2_tempts_21 : decode cX2_tempts 21 = .ok (.aload_n 0, 1) := by decide +kernel
theorem dX2_tempts_22 : decode cX2_tempts 22 = .ok (.getfield 13, 3) := by decide +kernel
theorem dX2_tempts_25 : decode cX2_tempts 25 = .ok (.iconst 0, 1) := by decide +kernel
theorem dX2_tempts_26 : decode cX2_tempts 26 = .ok (.aaload, 1) := by decide +kernel
theorem dX2_tempts_27 : decode cX2_tempts 27 = .ok (.iload_n 1, 1) := by decide +kernel
theorem dX2_tempts_28 : decode cX2_tempts 28 = .ok (.invokevirtual 87, 3) := by decide +kernel
theorem dX2_tempts_31 : decode cX2_tempts 31 = .ok (.iconst (-1), 1) := by decide +kernel
theorem dX2_tempts_32 : decode cX2_tempts 32 = .ok (.if_icmp .eq 7, 3) := by decide +kernel
theorem dX2_tempts_35 : decode cX2_tempts 35 = .ok (.iconst 1, 1) := by decide +kernel
theorem dX2_tempts_36 : decode cX2_tempts 36 = .ok (.goto 4, 3) := by decide +kernel
theorem dX2_tempts_39 : decode cX2_tempts 39 = .ok (.iconst 0, 1) := by decide +kernel
theorem dX2_tempts_40 : decode cX2_tempts 40 = .ok (.istore 5, 2) := by decide +kernel
theorem dX2_tempts_42 : decode cX2_tempts 42 = .ok (.aload_n 0, 1) := by decide +kernel
theorem dX2_tempts_43 : decode cX2_tempts 43 = .ok (.iload_n 2, 1) := by decide +kernel
theorem dX2_tempts_44 : decode cX2_tempts 44 = .ok (.iload_n 3, 1) := by decide +kernel
theorem dX2_tempts_45 : decode cX2_tempts 45 = .ok (.iload 4, 2) := by decide +kernel
theorem dX2_tempts_47 : decode cX2_tempts 47 = .ok (.iconst (-1), 1) := by decide +kernel
theorem dX2_tempts_48 : decode cX2_tempts 48 = .ok (.invokevirtual 147, 3) := by decide +kernel
theorem dX2_tempts_51 : decode cX2_tempts 51 = .ok (.iload 5, 2) := by decide +kernel
theorem dX2_tempts_53 : decode cX2_tempts 53 = .ok (.ireturn, 1) := by decide +kernel
theorem dX2_putIn_0 : decode cX2_putIn 0 = .ok (.aload_n 0, 1) := by decide +kernel
theorem dX2_putIn_1 : decode cX2_putIn 1 = .ok (.getfield 13, 3) := by decide +kernel
theorem dX2_putIn_4 : decode cX2_putIn 4 = .ok (.iconst 0, 1) := by decide +kernel
theorem dX2_putIn_5 : decode cX2_putIn 5 = .ok (.aaload, 1) := by decide +kernel
theorem dX2_putIn_6 : decode cX2_putIn 6 = .ok (.iconst 4, 1) := by decide +kernel
theorem dX2_putIn_7 : decode cX2_putIn 7 = .ok (.iload_n 1, 1) := by decide +kernel
theorem dX2_putIn_8 : decode cX2_putIn 8 = .ok (.iload 4, 2) := by decide +kernel
theorem dX2_putIn_10 : decode cX2_putIn 10 = .ok (.invokevirtual 155, 3) := by decide +kernel
theorem dX2_putIn_13 : decode cX2_putIn 13 = .ok (.aload_n 0, 1) := by decide +kernel
theorem dX2_putIn_14 : decode cX2_putIn 14 = .ok (.getfield 13, 3) := by decide +kernel
theorem dX2_putIn_17 : decode cX2_putIn 17 = .ok (.iconst 0, 1) := by decide +kernel
theorem dX2_putIn_18 : decode cX2_putIn 18 = .ok (.aaload, 1) := by decide +kernel
theorem dX2_putIn_19 : decode cX2_putIn 19 = .ok (.iconst 4, 1) := by decide +kernel
theorem dX2_putIn_20 : decode cX2_putIn 20 = .ok (.iload_n 2, 1) := by decide +kernel
theorem dX2_putIn_21 : decode cX2_putIn 21 = .ok (.iload 4, 2) := by decide +kernel
theorem dX2_putIn_23 : decode cX2_putIn 23 = .ok (.invokevirtual 155, 3) := by decide +kernel
theorem dX2_putIn_26 : decode cX2_putIn 26 = .ok (.aload_n 0, 1) := by decide +kernel
theorem dX2_putIn_27 : decode cX2_putIn 27 = .ok (.getfield 13, 3) := by decide +kernel
theorem dX2_putIn_30 : decode cX2_putIn 30 = .ok (.iconst 0, 1) := by decide +kernel
theorem dX2_putIn_31 : decode cX2_putIn 31 = .ok (.aaload, 1) := by decide +kernel
theorem dX2_putIn_32 : decode cX2_putIn 32 = .ok (.iconst 4, 1) := by decide +kernel
theorem dX2_putIn_33 : decode cX2_putIn 33 = .ok (.iload_n 3, 1) := by decide +kernel
theorem dX2_putIn_34 : decode cX2_putIn 34 = .ok (.iload 4, 2) := by decide +kernel
theorem dX2_putIn_36 : decode cX2_putIn 36 = .ok (.invokevirtual 155, 3) := by decide +kernel
theorem dX2_putIn_39 : decode cX2_putIn 39 = .ok (.return_, 1) := by decide +kernel
theorem dX7_init_0 : decode cX7_init 0 = .ok (.aload_n 0, 1) := by decide +kernel
theorem dX7_init_1 : decode cX7_init 1 = .ok (.invokespecial 3, 3) := by decide +kernel
theorem dX7_init_4 : decode cX7_init 4 = .ok (.aload_n 0, 1) := by decide +kernel
theorem dX7_init_5 : decode cX7_init 5 = .ok (.sipush 200, 3) := by decide +kernel
theorem dX7_init_8 : decode cX7_init 8 = .ok (.newarray .int, 2) := by decide +kernel
theorem dX7_init_10 : decode cX7_init 10 = .ok (.putfield 9, 3) := by decide +kernel
theorem dX7_init_13 : decode cX7_init 13 = .ok (.aload_n 0, 1) := by decide +kernel
theorem dX7_init_14 : decode cX7_init 14 = .ok (.new 15, 3) := by decide +kernel
theorem dX7_init_17 : decode cX7_init 17 = .ok (.dup, 1) := by decide +kernel
theorem dX7_init_18 : decode cX7_init 18 = .ok (.invokespecial 17, 3) := by decide +kernel
theorem dX7_init_21 : decode cX7_init 21 = .ok (.putfield 18, 3) := by decide +kernel
theorem dX7_init_24 : decode cX7_init 24 = .ok (.return_, 1) := by decide +kernel
theorem dX7_append_0 : decode cX7_append 0 = .ok (.aload_n 0, 1) := by decide +kernel
theorem dX7_append_1 : decode cX7_append 1 = .ok (.getfield 22, 3) := by decide +kernel
theorem dX7_append_4 : decode cX7_append 4 = .ok (.ifCond .lt 33, 3) := by decide +kernel
theorem dX7_append_7 : decode cX7_append 7 = .ok (.aload_n 0, 1) := by decide +kernel
theorem dX7_append_8 : decode cX7_append 8 = .ok (.getfield 22, 3) := by decide +kernel
theorem dX7_append_11 : decode cX7_append 11 = .ok (.sipush 200, 3) := by decide +kernel
theorem dX7_append_14 : decode cX7_append 14 = .ok (.if_icmp .ge 23, 3) := by decide +kernel
theorem dX7_append_17 : decode cX7_append 17 = .ok (.aload_n 0, 1) := by decide +kernel
theorem dX7_append_18 : decode cX7_append 18 = .ok (.getfield 9, 3) := by decide +kernel
theorem dX7_append_21 : decode cX7_append 21 = .ok (.aload_n 0, 1) := by decide +kernel
theorem dX7_append_22 : decode cX7_append 22 = .ok (.getfield 22, 3) := by decide +kernel
theorem dX7_append_25 : decode cX7_append 25 = .ok (.iload_n 1, 1) := by decide +kernel
theorem dX7_append_26 : decode cX7_append 26 = .ok (.iastore, 1) := by decide +kernel
theorem dX7_append_27 : decode cX7_append 27 = .ok (.aload_n 0, 1) := by decide +kernel
theorem dX7_append_28 : decode cX7_append 28 = .ok (.dup, 1) := by decide +kernel
theorem dX7_append_29 : decode cX7_append 29 = .ok (.getfield 22, 3) := by decide +kernel
theorem dX7_append_32 : decode cX7_append 32 = .ok (.iconst 1, 1) := by decide +kernel
theorem dX7_append_33 : decode cX7_append 33 = .ok (.iadd, 1) := by decide +kernel
theorem dX7_append_34 : decode cX7_append 34 = .ok (.putfield 22, 3) := by decide +kernel
theorem dX7_append_37 : decode cX7_append 37 = .ok (.return_, 1) := by decide +kernel
theorem dX7_readOver_0 : decode cX7_readOver 0 = .ok (.aload_n 0, 1) := by decide +kernel
theorem dX7_readOver_1 : decode cX7_readOver 1 = .ok (.getfield 18, 3) := by decide +kernel
theorem dX7_readOver_4 : decode cX7_readOver 4 = .ok (.aload_n 1, 1) := by decide +kernel
theorem dX7_readOver_5 : decode cX7_readOver 5 = .ok (.invokevirtual 26, 3) := by decide +kernel
theorem dX7_readOver_8 : decode cX7_readOver 8 = .ok (.aload_n 0, 1) := by decide +kernel
theorem dX7_readOver_9 : decode cX7_readOver 9 = .ok (.iconst 0, 1) := by decide +kernel
theorem dX7_readOver_10 : decode cX7_readOver 10 = .ok (.putfield 30, 3) := by decide +kernel
theorem dX7_readOver_13 : decode cX7_readOver 13 = .ok (.aload_n 0, 1) := by decide +kernel
theorem dX7_readOver_14 : decode cX7_readOver 14 = .ok (.invokevirtual 33, 3) := by decide +kernel
theorem dX7_readOver_17 : decode cX7_readOver 17 = .ok (.aload_n 0, 1) := by decide +kernel
theorem dX7_readOver_18 : decode cX7_readOver 18 = .ok (.iconst 1, 1) := by decide +kernel
theorem dX7_readOver_19 : decode cX7_readOver 19 = .ok (.putfield 36, 3) := by decide +kernel
theorem dX7_readOver_22 : decode cX7_readOver 22 = .ok (.aload_n 0, 1) := by decide +kernel
theorem dX7_readOver_23 : decode cX7_readOver 23 = .ok (.getfield 36, 3) := by decide +kernel
theorem dX7_readOver_26 : decode cX7_readOver 26 = .ok (.bipush 10, 2) := by decide +kernel
theorem dX7_readOver_28 : decode cX7_readOver 28 = .ok (.if_icmp .gt 62, 3) := by decide +kernel
theorem dX7_readOver_31 : decode cX7_readOver 31 = .ok (.aload_n 0, 1) := by decide +kernel
theorem dX7_readOver_32 : decode cX7_readOver 32 = .ok (.invokevirtual 39, 3) := by decide +kernel
theorem dX7_readOver_35 : decode cX7_readOver 35 = .ok (.ifCond .ne 8, 3) := by decide +kernel
theorem dX7_readOver_38 : decode cX7_readOver 38 = .ok (.aload_n 0, 1) := by decide +kernel
theorem dX7_readOver_39 : decode cX7_readOver 39 = .ok (.getfield 43, 3) := by decide +kernel
theorem dX7_readOver_42 : decode cX7_readOver 42 = .ok (.ireturn, 1) := by decide +kernel
theorem dX7_readOver_43 : decode cX7_readOver 43 = .ok (.aload_n 0, 1) := by decide +kernel
theorem dX7_readOver_44 : decode cX7_readOver 44 = .ok (.getfield 46, 3) := by decide +kernel
theorem dX7_readOver_47 : decode cX7_readOver 47 = .ok (.ifCond .ne 5, 3) := by decide +kernel
theorem dX7_readOver_50 : decode cX7_readOver 50 = .ok (.iconst (-1), 1) := by decide +kernel
theorem dX7_readOver_51 : decode cX7_readOver 51 = .ok (.ireturn, 1) := by decide +kernel
theorem dX7_readOver_52 : decode cX7_readOver 52 = .ok (.aload_n 0, 1) := by decide +kernel
theorem dX7_readOver_53 : decode cX7_readOver 53 = .ok (.invokevirtual 49, 3) := by decide +kernel
theorem dX7_readOver_56 : decode cX7_readOver 56 = .ok (.ifCond .eq 12, 3) := by decide +kernel
theorem dX7_readOver_59 : decode cX7_readOver 59 = .ok (.aload_n 0, 1) := by decide +kernel
theorem dX7_readOver_60 : decode cX7_readOver 60 = .ok (.getfield 36, 3) := by decide +kernel
theorem dX7_readOver_63 : decode cX7_readOver 63 = .ok (.bipush 10, 2) := by decide +kernel
theorem dX7_readOver_65 : decode cX7_readOver 65 = .ok (.if_icmp .ne 8, 3) := by decide +kernel
theorem dX7_readOver_68 : decode cX7_readOver 68 = .ok (.aload_n 0, 1) := by decide +kernel
theorem dX7_readOver_69 : decode cX7_readOver 69 = .ok (.getfield 43, 3) := by decide +kernel
theorem dX7_readOver_72 : decode cX7_readOver 72 = .ok (.ireturn, 1) := by decide +kernel
theorem dX7_readOver_73 : decode cX7_readOver 73 = .ok (.aload_n 0, 1) := by decide +kernel
theorem dX7_readOver_74 : decode cX7_readOver 74 = .ok (.invokevirtual 33, 3) := by decide +kernel
theorem dX7_readOver_77 : decode cX7_readOver 77 = .ok (.aload_n 0, 1) := by decide +kernel
theorem dX7_readOver_78 : decode cX7_readOver 78 = .ok (.dup, 1) := by decide +kernel
theorem dX7_readOver_79 : decode cX7_readOver 79 = .ok (.getfield 36, 3) := by decide +kernel
theorem dX7_readOver_82 : decode cX7_readOver 82 = .ok (.iconst 1, 1) := by decide +kernel
theorem dX7_readOver_83 : decode cX7_readOver 83 = .ok (.iadd, 1) := by decide +kernel
theorem dX7_readOver_84 : decode cX7_readOver 84 = .ok (.putfield 36, 3) := by decide +kernel
theorem dX7_readOver_87 : decode cX7_readOver 87 = .ok (.goto (-65), 3) := by decide +kernel
theorem dX7_readOver_90 : decode cX7_readOver 90 = .ok (.aload_n 0, 1) := by decide +kernel
theorem dX7_readOver_91 : decode cX7_readOver 91 = .ok (.getfield 43, 3) := by decide +kernel
theorem dX7_readOver_94 : decode cX7_readOver 94 = .ok (.ireturn, 1) := by decide +kernel
theorem dX7_nextToken_0 : decode cX7_nextToken 0 = .ok (.aload_n 0, 1) := by decide +kernel
theorem dX7_nextToken_1 : decode cX7_nextToken 1 = .ok (.aload_n 0, 1) := by decide +kernel
theorem dX7_nextToken_2 : decode cX7_nextToken 2 = .ok (.getfield 30, 3) := by decide +kernel
theorem dX7_nextToken_5 : decode cX7_nextToken 5 = .ok (.putfield 43, 3) := by decide +kernel
theorem dX7_nextToken_8 : decode cX7_nextToken 8 = .ok (.aload_n 0, 1) := by decide +kernel
theorem dX7_nextToken_9 : decode cX7_nextToken 9 = .ok (.getfield 43, 3) := by decide +kernel
theorem dX7_nextToken_12 : decode cX7_nextToken 12 = .ok (.aload_n 0, 1) := by decide +kernel
theorem dX7_nextToken_13 : decode cX7_nextToken 13 = .ok (.getfield 22, 3) := by decide +kernel
theorem dX7_nextToken_16 : decode cX7_nextToken 16 = .ok (.if_icmp .ge 29, 3) := by decide +kernel
theorem dX7_nextToken_19 : decode cX7_nextToken 19 = .ok (.aload_n 0, 1) := by decide +kernel
theorem dX7_nextToken_20 : decode cX7_nextToken 20 = .ok (.aload_n 0, 1) := by decide +kernel
theorem dX7_nextToken_21 : decode cX7_nextToken 21 = .ok (.getfield 43, 3) := by decide +kernel
theorem dX7_nextToken_24 : decode cX7_nextToken 24 = .ok (.invokevirtual 52, 3) := by decide +kernel
theorem dX7_nextToken_27 : decode cX7_nextToken 27 = .ok (.bipush 32, 2) := by decide +kernel
theorem dX7_nextToken_29 : decode cX7_nextToken 29 = .ok (.if_icmp .ne 16, 3) := by decide +kernel
theorem dX7_nextToken_32 : decode cX7_nextToken 32 = .ok (.aload_n 0, 1) := by decide +kernel
theorem dX7_nextToken_33 : decode cX7_nextToken 33 = .ok (.dup, 1) := by decide +kernel
theorem dX7_nextToken_34 : decode cX7_nextToken 34 = .ok (.getfield 43, 3) := by decide +kernel
theorem dX7_nextToken_37 : decode cX7_nextToken 37 = .ok (.iconst 1, 1) := by decide +kernel
theorem dX7_nextToken_38 : decode cX7_nextToken 38 = .ok (.iadd, 1) := by decide +kernel
theorem dX7_nextToken_39 : decode cX7_nextToken 39 = .ok (.putfield 43, 3) := by decide +kernel
theorem dX7_nextToken_42 : decode cX7_nextToken 42 = .ok (.goto (-34), 3) := by decide +kernel
theorem dX7_nextToken_45 : decode cX7_nextToken 45 = .ok (.aload_n 0, 1) := by decide +kernel
theorem dX7_nextToken_46 : decode cX7_nextToken 46 = .ok (.aload_n 0, 1) := by decide +kernel
theorem dX7_nextToken_47 : decode cX7_nextToken 47 = .ok (.aload_n 0, 1) := by decide +kernel
theorem dX7_nextToken_48 : decode cX7_nextToken 48 = .ok (.getfield 43, 3) := by decide +kernel
theorem dX7_nextToken_51 : decode cX7_nextToken 51 = .ok (.invokevirtual 52, 3) := by decide +kernel
theorem dX7_nextToken_54 : decode cX7_nextToken 54 = .ok (.invokestatic 56, 3) := by decide +kernel
theorem dX7_nextToken_57 : decode cX7_nextToken 57 = .ok (.putfield 46, 3) := by decide +kernel
theorem dX7_nextToken_60 : decode cX7_nextToken 60 = .ok (.aload_n 0, 1) := by decide +kernel
theorem dX7_nextToken_61 : decode cX7_nextToken 61 = .ok (.aload_n 0, 1) := by decide +kernel
theorem dX7_nextToken_62 : decode cX7_nextToken 62 = .ok (.getfield 43, 3) := by decide +kernel
theorem dX7_nextToken_65 : decode cX7_nextToken 65 = .ok (.iconst 1, 1) := by decide +kernel
theorem dX7_nextToken_66 : decode cX7_nextToken 66 = .ok (.iadd, 1) := by decide +kernel
theorem dX7_nextToken_67 : decode cX7_nextToken 67 = .ok (.aload_n 0, 1) := by decide +kernel
theorem dX7_nextToken_68 : decode cX7_nextToken 68 = .ok (.getfield 22, 3) := by decide +kernel
theorem dX7_nextToken_71 : decode cX7_nextToken 71 = .ok (.invokestatic 59, 3) := by decide +kernel
theorem dX7_nextToken_74 : decode cX7_nextToken 74 = .ok (.putfield 30, 3) := by decide +kernel
theorem dX7_nextToken_77 : decode cX7_nextToken 77 = .ok (.aload_n 0, 1) := by decide +kernel
theorem dX7_nextToken_78 : decode cX7_nextToken 78 = .ok (.getfield 46, 3) := by decide +kernel
theorem dX7_nextToken_81 : decode cX7_nextToken 81 = .ok (.iconst 1, 1) := by decide +kernel
theorem dX7_nextToken_82 : decode cX7_nextToken 82 = .ok (.if_icmp .eq 11, 3) := by decide +kernel
theorem dX7_nextToken_85 : decode cX7_nextToken 85 = .ok (.aload_n 0, 1) := by decide +kernel
theorem dX7_nextToken_86 : decode cX7_nextToken 86 = .ok (.getfield 46, 3) := by decide +kernel
theorem dX7_nextToken_89 : decode cX7_nextToken 89 = .ok (.iconst 2, 1) := by decide +kernel
theorem dX7_nextToken_90 : decode cX7_nextToken 90 = .ok (.if_icmp .ne 7, 3) := by decide +kernel
theorem dX7_nextToken_93 : decode cX7_nextToken 93 = .ok (.iconst 1, 1) := by decide +kernel
theorem dX7_nextToken_94 : decode cX7_nextToken 94 = .ok (.goto 4, 3) := by decide +kernel
theorem dX7_nextToken_97 : decode cX7_nextToken 97 = .ok (.iconst 0, 1) := by decide +kernel
theorem dX7_nextToken_98 : decode cX7_nextToken 98 = .ok (.istore_n 1, 1) := by decide +kernel
theorem dX7_nextToken_99 : decode cX7_nextToken 99 = .ok (.iload_n 1, 1) := by decide +kernel
theorem dX7_nextToken_100 : decode cX7_nextToken 100 = .ok (.ifCond .eq 45, 3) := by decide +kernel
theorem dX7_nextToken_103 : decode cX7_nextToken 103 = .ok (.aload_n 0, 1) := by decide +kernel
theorem dX7_nextToken_104 : decode cX7_nextToken 104 = .ok (.getfield 30, 3) := by decide +kernel
theorem dX7_nextToken_107 : decode cX7_nextToken 107 = .ok (.aload_n 0, 1) := by decide +kernel
theorem dX7_nextToken_108 : decode cX7_nextToken 108 = .ok (.getfield 22, 3) := by decide +kernel
theorem dX7_nextToken_111 : decode cX7_nextToken 111 = .ok (.if_icmp .ge 34, 3) := by decide +kernel
theorem dX7_nextToken_114 : decode cX7_nextToken 114 = .ok (.aload_n 0, 1) := by decide +kernel
theorem dX7_nextToken_115 : decode cX7_nextToken 115 = .ok (.aload_n 0, 1) := by decide +kernel
theorem dX7_nextToken_116 : decode cX7_nextToken 116 = .ok (.getfield 30, 3) := by decide +kernel
theorem dX7_nextToken_119 : decode cX7_nextToken 119 = .ok (.invokevirtual 52, 3) := by decide +kernel
theorem dX7_nextToken_122 : decode cX7_nextToken 122 = .ok (.invokestatic 56, 3) := by decide +kernel
theorem dX7_nextToken_125 : decode cX7_nextToken 125 = .ok (.aload_n 0, 1) := by decide +kernel
theorem dX7_nextToken_126 : decode cX7_nextToken 126 = .ok (.getfield 46, 3) := by decide +kernel
theorem dX7_nextToken_129 : decode cX7_nextToken 129 = .ok (.if_icmp .ne 16, 3) := by decide +kernel
theorem dX7_nextToken_132 : decode cX7_nextToken 132 = .ok (.aload_n 0, 1) := by decide +kernel
theorem dX7_nextToken_133 : decode cX7_nextToken 133 = .ok (.dup, 1) := by decide +kernel
theorem dX7_nextToken_134 : decode cX7_nextToken 134 = .ok (.getfield 30, 3) := by decide +kernel
theorem dX7_nextToken_137 : decode cX7_nextToken 137 = .ok (.iconst 1, 1) := by decide +kernel
theorem dX7_nextToken_138 : decode cX7_nextToken 138 = .ok (.iadd, 1) := by decide +kernel
theorem dX7_nextToken_139 : decode cX7_nextToken 139 = .ok (.putfield 30, 3) := by decide +kernel
theorem dX7_nextToken_142 : decode cX7_nextToken 142 = .ok (.goto (-43), 3) := by decide +kernel
theorem dX7_nextToken_145 : decode cX7_nextToken 145 = .ok (.return_, 1) := by decide +kernel
theorem dX7_byteAt_0 : decode cX7_byteAt 0 = .ok (.iload_n 1, 1) := by decide +kernel
theorem dX7_byteAt_1 : decode cX7_byteAt 1 = .ok (.ifCond .lt 27, 3) := by decide +kernel
theorem dX7_byteAt_4 : decode cX7_byteAt 4 = .ok (.iload_n 1, 1) := by decide +kernel
theorem dX7_byteAt_5 : decode cX7_byteAt 5 = .ok (.aload_n 0, 1) := by decide +kernel
theorem dX7_byteAt_6 : decode cX7_byteAt 6 = .ok (.getfield 22, 3) := by decide +kernel
theorem dX7_byteAt_9 : decode cX7_byteAt 9 = .ok (.if_icmp .ge 19, 3) := by decide +kernel
theorem dX7_byteAt_12 : decode cX7_byteAt 12 = .ok (.iload_n 1, 1) := by decide +kernel
theorem dX7_byteAt_13 : decode cX7_byteAt 13 = .ok (.sipush 200, 3) := by decide +kernel
theorem dX7_byteAt_16 : decode cX7_byteAt 16 = .ok (.if_icmp .ge 12, 3) := by decide +kernel
theorem dX7_byteAt_19 : decode cX7_byteAt 19 = .ok (.aload_n 0, 1) := by decide +kernel
theorem dX7_byteAt_20 : decode cX7_byteAt 20 = .ok (.getfield 9, 3) := by decide +kernel
theorem dX7_byteAt_23 : decode cX7_byteAt 23 = .ok (.iload_n 1, 1) := by decide +kernel
theorem dX7_byteAt_24 : decode cX7_byteAt 24 = .ok (.iaload, 1) := by decide +kernel
theorem dX7_byteAt_25 : decode cX7_byteAt 25 = .ok (.goto 4, 3) := by decide +kernel
theorem dX7_byteAt_28 : decode cX7_byteAt 28 = .ok (.iconst (-1), 1) := by decide +kernel
theorem dX7_byteAt_29 : decode cX7_byteAt 29 = .ok (.ireturn, 1) := by decide +kernel
theorem dX7_tokenOf_0 : decode cX7_tokenOf 0 = .ok (.iload_n 0, 1) := by decide +kernel
theorem dX7_tokenOf_1 : decode cX7_tokenOf 1 = .ok (.iconst (-1), 1) := by decide +kernel
theorem dX7_tokenOf_2 : decode cX7_tokenOf 2 = .ok (.if_icmp .ne 5, 3) := by decide +kernel
theorem dX7_tokenOf_5 : decode cX7_tokenOf 5 = .ok (.iconst 0, 1) := by decide +kernel
theorem dX7_tokenOf_6 : decode cX7_tokenOf 6 = .ok (.ireturn, 1) := by decide +kernel
theorem dX7_tokenOf_7 : decode cX7_tokenOf 7 = .ok (.iload_n 0, 1) := by decide +kernel
theorem dX7_tokenOf_8 : decode cX7_tokenOf 8 = .ok (.bipush 97, 2) := by decide +kernel
theorem dX7_tokenOf_10 : decode cX7_tokenOf 10 = .ok (.if_icmp .lt 11, 3) := by decide +kernel
theorem dX7_tokenOf_13 : decode cX7_tokenOf 13 = .ok (.iload_n 0, 1) := by decide +kernel
theorem dX7_tokenOf_14 : decode cX7_tokenOf 14 = .ok (.bipush 122, 2) := by decide +kernel
theorem dX7_tokenOf_16 : decode cX7_tokenOf 16 = .ok (.if_icmp .gt 5, 3) := by decide +kernel
theorem dX7_tokenOf_19 : decode cX7_tokenOf 19 = .ok (.iconst 1, 1) := by decide +kernel
theorem dX7_tokenOf_20 : decode cX7_tokenOf 20 = .ok (.ireturn, 1) := by decide +kernel
theorem dX7_tokenOf_21 : decode cX7_tokenOf 21 = .ok (.iload_n 0, 1) := by decide +kernel
theorem dX7_tokenOf_22 : decode cX7_tokenOf 22 = .ok (.bipush 48, 2) := by decide +kernel
theorem dX7_tokenOf_24 : decode cX7_tokenOf 24 = .ok (.if_icmp .lt 13, 3) := by decide +kernel
theorem dX7_tokenOf_27 : decode cX7_tokenOf 27 = .ok (.iload_n 0, 1) := by decide +kernel
theorem dX7_tokenOf_28 : decode cX7_tokenOf 28 = .ok (.bipush 57, 2) := by decide +kernel
theorem dX7_tokenOf_30 : decode cX7_tokenOf 30 = .ok (.if_icmp .gt 7, 3) := by decide +kernel
theorem dX7_tokenOf_33 : decode cX7_tokenOf 33 = .ok (.iconst 2, 1) := by decide +kernel
theorem dX7_tokenOf_34 : decode cX7_tokenOf 34 = .ok (.goto 4, 3) := by decide +kernel
theorem dX7_tokenOf_37 : decode cX7_tokenOf 37 = .ok (.iconst 3, 1) := by decide +kernel
theorem dX7_tokenOf_38 : decode cX7_tokenOf 38 = .ok (.ireturn, 1) := by decide +kernel
theorem dX7_isSemicolon_0 : decode cX7_isSemicolon 0 = .ok (.aload_n 0, 1) := by decide +kernel
theorem dX7_isSemicolon_1 : decode cX7_isSemicolon 1 = .ok (.getfield 46, 3) := by decide +kernel
theorem dX7_isSemicolon_4 : decode cX7_isSemicolon 4 = .ok (.iconst 3, 1) := by decide +kernel
theorem dX7_isSemicolon_5 : decode cX7_isSemicolon 5 = .ok (.if_icmp .ne 20, 3) := by decide +kernel
theorem dX7_isSemicolon_8 : decode cX7_isSemicolon 8 = .ok (.aload_n 0, 1) := by decide +kernel
theorem dX7_isSemicolon_9 : decode cX7_isSemicolon 9 = .ok (.aload_n 0, 1) := by decide +kernel
theorem dX7_isSemicolon_10 : decode cX7_isSemicolon 10 = .ok (.getfield 43, 3) := by decide +kernel
theorem dX7_isSemicolon_13 : decode cX7_isSemicolon 13 = .ok (.invokevirtual 52, 3) := by decide +kernel
theorem dX7_isSemicolon_16 : decode cX7_isSemicolon 16 = .ok (.bipush 59, 2) := by decide +kernel
theorem dX7_isSemicolon_18 : decode cX7_isSemicolon 18 = .ok (.if_icmp .ne 7, 3) := by decide +kernel
theorem dX7_isSemicolon_21 : decode cX7_isSemicolon 21 = .ok (.iconst 1, 1) := by decide +kernel
theorem dX7_isSemicolon_22 : decode cX7_isSemicolon 22 = .ok (.goto 4, 3) := by decide +kernel
theorem dX7_isSemicolon_25 : decode cX7_isSemicolon 25 = .ok (.iconst 0, 1) := by decide +kernel
theorem dX7_isSemicolon_26 : decode cX7_isSemicolon 26 = .ok (.ireturn, 1) := by decide +kernel
theorem dX7_readLine_0 : decode cX7_readLine 0 = .ok (.aload_n 0, 1) := by decide +kernel
theorem dX7_readLine_1 : decode cX7_readLine 1 = .ok (.ldc 65, 2) := by decide +kernel
theorem dX7_readLine_3 : decode cX7_readLine 3 = .ok (.invokevirtual 67, 3) := by decide +kernel
theorem dX7_readLine_6 : decode cX7_readLine 6 = .ok (.ifCond .eq 8, 3) := by decide +kernel
theorem dX7_readLine_9 : decode cX7_readLine 9 = .ok (.aload_n 0, 1) := by decide +kernel
theorem dX7_readLine_10 : decode cX7_readLine 10 = .ok (.invokevirtual 71, 3) := by decide +kernel
theorem dX7_readLine_13 : decode cX7_readLine 13 = .ok (.ireturn, 1) := by decide +kernel
theorem dX7_readLine_14 : decode cX7_readLine 14 = .ok (.aload_n 0, 1) := by decide +kernel
theorem dX7_readLine_15 : decode cX7_readLine 15 = .ok (.ldc 74, 2) := by decide +kernel
theorem dX7_readLine_17 : decode cX7_readLine 17 = .ok (.invokevirtual 67, 3) := by decide +kernel
theorem dX7_readLine_20 : decode cX7_readLine 20 = .ok (.ifCond .eq 9, 3) := by decide +kernel
theorem dX7_readLine_23 : decode cX7_readLine 23 = .ok (.aload_n 0, 1) := by decide +kernel
theorem dX7_readLine_24 : decode cX7_readLine 24 = .ok (.iconst 4, 1) := by decide +kernel
theorem dX7_readLine_25 : decode cX7_readLine 25 = .ok (.invokevirtual 76, 3) := by decide +kernel
theorem dX7_readLine_28 : decode cX7_readLine 28 = .ok (.ireturn, 1) := by decide +kernel
theorem dX7_readLine_29 : decode cX7_readLine 29 = .ok (.aload_n 0, 1) := by decide +kernel
theorem dX7_readLine_30 : decode cX7_readLine 30 = .ok (.ldc 80, 2) := by decide +kernel
theorem dX7_readLine_32 : decode cX7_readLine 32 = .ok (.invokevirtual 67, 3) := by decide +kernel
theorem dX7_readLine_35 : decode cX7_readLine 35 = .ok (.ifCond .eq 29, 3) := by decide +kernel
theorem dX7_readLine_38 : decode cX7_readLine 38 = .ok (.aload_n 0, 1) := by decide +kernel
theorem dX7_readLine_39 : decode cX7_readLine 39 = .ok (.iconst 0, 1) := by decide +kernel
theorem dX7_readLine_40 : decode cX7_readLine 40 = .ok (.iconst 3, 1) := by decide +kernel
theorem dX7_readLine_41 : decode cX7_readLine 41 = .ok (.invokevirtual 82, 3) := by decide +kernel
theorem dX7_readLine_44 : decode cX7_readLine 44 = .ok (.ifCond .eq 18, 3) := by decide +kernel
theorem dX7_readLine_47 : decode cX7_readLine 47 = .ok (.aload_n 0, 1) := by decide +kernel
theorem dX7_readLine_48 : decode cX7_readLine 48 = .ok (.aload_n 0, 1) := by decide +kernel
theorem dX7_readLine_49 : decode cX7_readLine 49 = .ok (.getfield 86, 3) := by decide +kernel
theorem dX7_readLine_52 : decode cX7_readLine 52 = .ok (.invokevirtual 76, 3) := by decide +kernel
theorem dX7_readLine_55 : decode cX7_readLine 55 = .ok (.ifCond .eq 7, 3) := by decide +kernel
theorem dX7_readLine_58 : decode cX7_readLine 58 = .ok (.iconst 1, 1) := by decide +kernel
theorem dX7_readLine_59 : decode cX7_readLine 59 = .ok (.goto 4, 3) := by decide +kernel
theorem dX7_readLine_62 : decode cX7_readLine 62 = .ok (.iconst 0, 1) := by decide +kernel
theorem dX7_readLine_63 : decode cX7_readLine 63 = .ok (.ireturn, 1) := by decide +kernel
theorem dX7_readLine_64 : decode cX7_readLine 64 = .ok (.aload_n 0, 1) := by decide +kernel
theorem dX7_readLine_65 : decode cX7_readLine 65 = .ok (.ldc 89, 2) := by decide +kernel
theorem dX7_readLine_67 : decode cX7_readLine 67 = .ok (.invokevirtual 67, 3) := by decide +kernel
theorem dX7_readLine_70 : decode cX7_readLine 70 = .ok (.ifCond .eq 9, 3) := by decide +kernel
theorem dX7_readLine_73 : decode cX7_readLine 73 = .ok (.aload_n 0, 1) := by decide +kernel
theorem dX7_readLine_74 : decode cX7_readLine 74 = .ok (.iconst 0, 1) := by decide +kernel
theorem dX7_readLine_75 : decode cX7_readLine 75 = .ok (.invokevirtual 91, 3) := by decide +kernel
theorem dX7_readLine_78 : decode cX7_readLine 78 = .ok (.ireturn, 1) := by decide +kernel
theorem dX7_readLine_79 : decode cX7_readLine 79 = .ok (.aload_n 0, 1) := by decide +kernel
theorem dX7_readLine_80 : decode cX7_readLine 80 = .ok (.ldc 94, 2) := by decide +kernel
theorem dX7_readLine_82 : decode cX7_readLine 82 = .ok (.invokevirtual 67, 3) := by decide +kernel
theorem dX7_readLine_85 : decode cX7_readLine 85 = .ok (.ifCond .eq 9, 3) := by decide +kernel
theorem dX7_readLine_88 : decode cX7_readLine 88 = .ok (.aload_n 0, 1) := by decide +kernel
theorem dX7_readLine_89 : decode cX7_readLine 89 = .ok (.iconst 1, 1) := by decide +kernel
theorem dX7_readLine_90 : decode cX7_readLine 90 = .ok (.invokevirtual 91, 3) := by decide +kernel
theorem dX7_readLine_93 : decode cX7_readLine 93 = .ok (.ireturn, 1) := by decide +kernel
theorem dX7_readLine_94 : decode cX7_readLine 94 = .ok (.aload_n 0, 1) := by decide +kernel
theorem dX7_readLine_95 : decode cX7_readLine 95 = .ok (.ldc 96, 2) := by decide +kernel
theorem dX7_readLine_97 : decode cX7_readLine 97 = .ok (.invokevirtual 67, 3) := by decide +kernel
theorem dX7_readLine_100 : decode cX7_readLine 100 = .ok (.ifCond .eq 8, 3) := by decide +kernel
theorem dX7_readLine_103 : decode cX7_readLine 103 = .ok (.aload_n 0, 1) := by decide +kernel
theorem dX7_readLine_104 : decode cX7_readLine 104 = .ok (.invokevirtual 98, 3) := by decide +kernel
theorem dX7_readLine_107 : decode cX7_readLine 107 = .ok (.ireturn, 1) := by decide +kernel
theorem dX7_readLine_108 : decode cX7_readLine 108 = .ok (.aload_n 0, 1) := by decide +kernel
theorem dX7_readLine_109 : decode cX7_readLine 109 = .ok (.ldc 101, 2) := by decide +kernel
theorem dX7_readLine_111 : decode cX7_readLine 111 = .ok (.invokevirtual 67, 3) := by decide +kernel
theorem dX7_readLine_114 : decode cX7_readLine 114 = .ok (.ifCond .eq 9, 3) := by decide +kernel
theorem dX7_readLine_117 : decode cX7_readLine 117 = .ok (.aload_n 0, 1) := by decide +kernel
theorem dX7_readLine_118 : decode cX7_readLine 118 = .ok (.iconst 3, 1) := by decide +kernel
theorem dX7_readLine_119 : decode cX7_readLine 119 = .ok (.invokevirtual 91, 3) := by decide +kernel
theorem dX7_readLine_122 : decode cX7_readLine 122 = .ok (.ireturn, 1) := by decide +kernel
theorem dX7_readLine_123 : decode cX7_readLine 123 = .ok (.aload_n 0, 1) := by decide +kernel
theorem dX7_readLine_124 : decode cX7_readLine 124 = .ok (.ldc 103, 2) := by decide +kernel
theorem dX7_readLine_126 : decode cX7_readLine 126 = .ok (.invokevirtual 67, 3) := by decide +kernel
theorem dX7_readLine_129 : decode cX7_readLine 129 = .ok (.ifCond .eq 8, 3) := by decide +kernel
theorem dX7_readLine_132 : decode cX7_readLine 132 = .ok (.aload_n 0, 1) := by decide +kernel
theorem dX7_readLine_133 : decode cX7_readLine 133 = .ok (.invokevirtual 105, 3) := by decide +kernel
theorem dX7_readLine_136 : decode cX7_readLine 136 = .ok (.ireturn, 1) := by decide +kernel
theorem dX7_readLine_137 : decode cX7_readLine 137 = .ok (.aload_n 0, 1) := by decide +kernel
theorem dX7_readLine_138 : decode cX7_readLine 138 = .ok (.ldc 108, 2) := by decide +kernel
theorem dX7_readLine_140 : decode cX7_readLine 140 = .ok (.invokevirtual 67, 3) := by decide +kernel
theorem dX7_readLine_143 : decode cX7_readLine 143 = .ok (.ifCond .eq 8, 3) := by decide +kernel
theorem dX7_readLine_146 : decode cX7_readLine 146 = .ok (.aload_n 0, 1) := by decide +kernel
theorem dX7_readLine_147 : decode cX7_readLine 147 = .ok (.invokevirtual 110, 3) := by decide +kernel
theorem dX7_readLine_150 : decode cX7_readLine 150 = .ok (.ireturn, 1) := by decide +kernel
theorem dX7_readLine_151 : decode cX7_readLine 151 = .ok (.aload_n 0, 1) := by decide +kernel
theorem dX7_readLine_152 : decode cX7_readLine 152 = .ok (.ldc 113, 2) := by decide +kernel
theorem dX7_readLine_154 : decode cX7_readLine 154 = .ok (.invokevirtual 67, 3) := by decide +kernel
theorem dX7_readLine_157 : decode cX7_readLine 157 = .ok (.ifCond .eq 14, 3) := by decide +kernel
theorem dX7_readLine_160 : decode cX7_readLine 160 = .ok (.aload_n 0, 1) := by decide +kernel
theorem dX7_readLine_161 : decode cX7_readLine 161 = .ok (.invokevirtual 115, 3) := by decide +kernel
theorem dX7_readLine_164 : decode cX7_readLine 164 = .ok (.ifCond .eq 7, 3) := by decide +kernel
theorem dX7_readLine_167 : decode cX7_readLine 167 = .ok (.iconst 1, 1) := by decide +kernel
theorem dX7_readLine_168 : decode cX7_readLine 168 = .ok (.goto 4, 3) := by decide +kernel
theorem dX7_readLine_171 : decode cX7_readLine 171 = .ok (.iconst 0, 1) := by decide +kernel
theorem dX7_readLine_172 : decode cX7_readLine 172 = .ok (.ireturn, 1) := by decide +kernel
theorem dX7_readWord_0 : decode cX7_readWord 0 = .ok (.aload_n 0, 1) := by decide +kernel
theorem dX7_readWord_1 : decode cX7_readWord 1 = .ok (.getfield 46, 3) := by decide +kernel
theorem dX7_readWord_4 : decode cX7_readWord 4 = .ok (.iconst 1, 1) := by decide +kernel
theorem dX7_readWord_5 : decode cX7_readWord 5 = .ok (.if_icmp .ne 19, 3) := by decide +kernel
theorem dX7_readWord_8 : decode cX7_readWord 8 = .ok (.aload_n 0, 1) := by decide +kernel
theorem dX7_readWord_9 : decode cX7_readWord 9 = .ok (.getfield 30, 3) := by decide +kernel
theorem dX7_readWord_12 : decode cX7_readWord 12 = .ok (.aload_n 0, 1) := by decide +kernel
theorem dX7_readWord_13 : decode cX7_readWord 13 = .ok (.getfield 43, 3) := by decide +kernel
theorem dX7_readWord_16 : decode cX7_readWord 16 = .ok (.isub, 1) := by decide +kernel
theorem dX7_readWord_17 : decode cX7_readWord 17 = .ok (.aload_n 1, 1) := by decide +kernel
theorem dX7_readWord_18 : decode cX7_readWord 18 = .ok (.invokevirtual 118, 3) := by decide +kernel
theorem dX7_readWord_21 : decode cX7_readWord 21 = .ok (.if_icmp .eq 5, 3) := by decide +kernel
theorem dX7_readWord_24 : decode cX7_readWord 24 = .ok (.iconst 0, 1) := by decide +kernel
theorem dX7_readWord_25 : decode cX7_readWord 25 = .ok (.ireturn, 1) := by decide +kernel
theorem dX7_readWord_26 : decode cX7_readWord 26 = .ok (.iconst 0, 1) := by decide +kernel
theorem dX7_readWord_27 : decode cX7_readWord 27 = .ok (.istore_n 2, 1) := by decide +kernel
theorem dX7_readWord_28 : decode cX7_readWord 28 = .ok (.iload_n 2, 1) := by decide +kernel
theorem dX7_readWord_29 : decode cX7_readWord 29 = .ok (.aload_n 1, 1) := by decide +kernel
theorem dX7_readWord_30 : decode cX7_readWord 30 = .ok (.invokevirtual 118, 3) := by decide +kernel
theorem dX7_readWord_33 : decode cX7_readWord 33 = .ok (.if_icmp .ge 29, 3) := by decide +kernel
theorem dX7_readWord_36 : decode cX7_readWord 36 = .ok (.aload_n 0, 1) := by decide +kernel
theorem dX7_readWord_37 : decode cX7_readWord 37 = .ok (.aload_n 0, 1) := by decide +kernel
theorem dX7_readWord_38 : decode cX7_readWord 38 = .ok (.getfield 43, 3) := by decide +kernel
theorem dX7_readWord_41 : decode cX7_readWord 41 = .ok (.iload_n 2, 1) := by decide +kernel
theorem dX7_readWord_42 : decode cX7_readWord 42 = .ok (.iadd, 1) := by decide +kernel
theorem dX7_readWord_43 : decode cX7_readWord 43 = .ok (.invokevirtual 52, 3) := by decide +kernel
theorem dX7_readWord_46 : decode cX7_readWord 46 = .ok (.aload_n 1, 1) := by decide +kernel
theorem dX7_readWord_47 : decode cX7_readWord 47 = .ok (.iload_n 2, 1) := by decide +kernel
theorem dX7_readWord_48 : decode cX7_readWord 48 = .ok (.invokevirtual 123, 3) := by decide +kernel
theorem dX7_readWord_51 : decode cX7_readWord 51 = .ok (.if_icmp .eq 5, 3) := by decide +kernel
theorem dX7_readWord_54 : decode cX7_readWord 54 = .ok (.iconst 0, 1) := by decide +kernel
theorem dX7_readWord_55 : decode cX7_readWord 55 = .ok (.ireturn, 1) := by decide +kernel
theorem dX7_readWord_56 : decode cX7_readWord 56 = .ok (.iinc 2 1, 3) := by decide +kernel
theorem dX7_readWord_59 : decode cX7_readWord 59 = .ok (.goto (-31), 3) := by decide +kernel
theorem dX7_readWord_62 : decode cX7_readWord 62 = .ok (.aload_n 0, 1) := by decide +kernel
theorem dX7_readWord_63 : decode cX7_readWord 63 = .ok (.invokevirtual 33, 3) := by decide +kernel
theorem dX7_readWord_66 : decode cX7_readWord 66 = .ok (.iconst 1, 1) := by decide +kernel
theorem dX7_readWord_67 : decode cX7_readWord 67 = .ok (.ireturn, 1) := by decide +kernel
theorem dX7_readNumber_0 : decode cX7_readNumber 0 = .ok (.aload_n 0, 1) := by decide +kernel
theorem dX7_readNumber_1 : decode cX7_readNumber 1 = .ok (.getfield 46, 3) := by decide +kernel
theorem dX7_readNumber_4 : decode cX7_readNumber 4 = .ok (.iconst 2, 1) := by decide +kernel
theorem dX7_readNumber_5 : decode cX7_readNumber 5 = .ok (.if_icmp .ne 16, 3) := by decide +kernel
theorem dX7_readNumber_8 : decode cX7_readNumber 8 = .ok (.aload_n 0, 1) := by decide +kernel
theorem dX7_readNumber_9 : decode cX7_readNumber 9 = .ok (.getfield 30, 3) := by decide +kernel
theorem dX7_readNumber_12 : decode cX7_readNumber 12 = .ok (.aload_n 0, 1) := by decide +kernel
theorem dX7_readNumber_13 : decode cX7_readNumber 13 = .ok (.getfield 43, 3) := by decide +kernel
theorem dX7_readNumber_16 : decode cX7_readNumber 16 = .ok (.isub, 1) := by decide +kernel
theorem dX7_readNumber_17 : decode cX7_readNumber 17 = .ok (.iconst 3, 1) := by decide +kernel
theorem dX7_readNumber_18 : decode cX7_readNumber 18 = .ok (.if_icmp .le 5, 3) := by decide +kernel
theorem dX7_readNumber_21 : decode cX7_readNumber 21 = .ok (.iconst 0, 1) := by decide +kernel
theorem dX7_readNumber_22 : decode cX7_readNumber 22 = .ok (.ireturn, 1) := by decide +kernel
theorem dX7_readNumber_23 : decode cX7_readNumber 23 = .ok (.aload_n 0, 1) := by decide +kernel
theorem dX7_readNumber_24 : decode cX7_readNumber 24 = .ok (.iconst 0, 1) := by decide +kernel
theorem dX7_readNumber_25 : decode cX7_readNumber 25 = .ok (.putfield 86, 3) := by decide +kernel
theorem dX7_readNumber_28 : decode cX7_readNumber 28 = .ok (.aload_n 0, 1) := by decide +kernel
theorem dX7_readNumber_29 : decode cX7_readNumber 29 = .ok (.getfield 43, 3) := by decide +kernel
theorem dX7_readNumber_32 : decode cX7_readNumber 32 = .ok (.istore_n 3, 1) := by decide +kernel
theorem dX7_readNumber_33 : decode cX7_readNumber 33 = .ok (.iload_n 3, 1) := by decide +kernel
theorem dX7_readNumber_34 : decode cX7_readNumber 34 = .ok (.aload_n 0, 1) := by decide +kernel
theorem dX7_readNumber_35 : decode cX7_readNumber 35 = .ok (.getfield 30, 3) := by decide +kernel
theorem dX7_readNumber_38 : decode cX7_readNumber 38 = .ok (.if_icmp .ge 29, 3) := by decide +kernel
theorem dX7_readNumber_41 : decode cX7_readNumber 41 = .ok (.aload_n 0, 1) := by decide +kernel
theorem dX7_readNumber_42 : decode cX7_readNumber 42 = .ok (.bipush 10, 2) := by decide +kernel
theorem dX7_readNumber_44 : decode cX7_readNumber 44 = .ok (.aload_n 0, 1) := by decide +kernel
theorem dX7_readNumber_45 : decode cX7_readNumber 45 = .ok (.getfield 86, 3) := by decide +kernel
theorem dX7_readNumber_48 : decode cX7_readNumber 48 = .ok (.imul, 1) := by decide +kernel
theorem dX7_readNumber_49 : decode cX7_readNumber 49 = .ok (.aload_n 0, 1) := by decide +kernel
theorem dX7_readNumber_50 : decode cX7_readNumber 50 = .ok (.iload_n 3, 1) := by decide +kernel
theorem dX7_readNumber_51 : decode cX7_readNumber 51 = .ok (.invokevirtual 52, 3) := by decide +kernel
theorem dX7_readNumber_54 : decode cX7_readNumber 54 = .ok (.iadd, 1) := by decide +kernel
theorem dX7_readNumber_55 : decode cX7_readNumber 55 = .ok (.bipush 48, 2) := by decide +kernel
theorem dX7_readNumber_57 : decode cX7_readNumber 57 = .ok (.isub, 1) := by decide +kernel
theorem dX7_readNumber_58 : decode cX7_readNumber 58 = .ok (.putfield 86, 3) := by decide +kernel
theorem dX7_readNumber_61 : decode cX7_readNumber 61 = .ok (.iinc 3 1, 3) := by decide +kernel
theorem dX7_readNumber_64 : decode cX7_readNumber 64 = .ok (.goto (-31), 3) := by decide +kernel
theorem dX7_readNumber_67 : decode cX7_readNumber 67 = .ok (.aload_n 0, 1) := by decide +kernel
theorem dX7_readNumber_68 : decode cX7_readNumber 68 = .ok (.getfield 86, 3) := by decide +kernel
theorem dX7_readNumber_71 : decode cX7_readNumber 71 = .ok (.iload_n 1, 1) := by decide +kernel
theorem dX7_readNumber_72 : decode cX7_readNumber 72 = .ok (.if_icmp .lt 11, 3) := by decide +kernel
theorem dX7_readNumber_75 : decode cX7_readNumber 75 = .ok (.aload_n 0, 1) := by decide +kernel
theorem dX7_readNumber_76 : decode cX7_readNumber 76 = .ok (.getfield 86, 3) := by decide +kernel
theorem dX7_readNumber_79 : decode cX7_readNumber 79 = .ok (.iload_n 2, 1) := by decide +kernel
theorem dX7_readNumber_80 : decode cX7_readNumber 80 = .ok (.if_icmp .le 5, 3) := by decide +kernel
theorem dX7_readNumber_83 : decode cX7_readNumber 83 = .ok (.iconst 0, 1) := by decide +kernel
theorem dX7_readNumber_84 : decode cX7_readNumber 84 = .ok (.ireturn, 1) := by decide +kernel
theorem dX7_readNumber_85 : decode cX7_readNumber 85 = .ok (.aload_n 0, 1) := by decide +kernel
theorem dX7_readNumber_86 : decode cX7_readNumber 86 = .ok (.invokevirtual 33, 3) := by decide +kernel
theorem dX7_readNumber_89 : decode cX7_readNumber 89 = .ok (.iconst 1, 1) := by decide +kernel
theorem dX7_readNumber_90 : decode cX7_readNumber 90 = .ok (.ireturn, 1) := by decide +kernel
theorem dX7_readCoins_0 : decode cX7_readCoins 0 = .ok (.aload_n 0, 1) := by decide +kernel
theorem dX7_readCoins_1 : decode cX7_readCoins 1 = .ok (.getfield 18, 3) := by decide +kernel
theorem dX7_readCoins_4 : decode cX7_readCoins 4 = .ok (.getfield 127, 3) := by decide +kernel
theorem dX7_readCoins_7 : decode cX7_readCoins 7 = .ok (.invokevirtual 131, 3) := by decide +kernel
theorem dX7_readCoins_10 : decode cX7_readCoins 10 = .ok (.aload_n 0, 1) := by decide +kernel
theorem dX7_readCoins_11 : decode cX7_readCoins 11 = .ok (.getfield 18, 3) := by decide +kernel
theorem dX7_readCoins_14 : decode cX7_readCoins 14 = .ok (.iconst 0, 1) := by decide +kernel
theorem dX7_readCoins_15 : decode cX7_readCoins 15 = .ok (.putfield 136, 3) := by decide +kernel
theorem dX7_readCoins_18 : decode cX7_readCoins 18 = .ok (.iconst 0, 1) := by decide +kernel
theorem dX7_readCoins_19 : decode cX7_readCoins 19 = .ok (.istore_n 1, 1) := by decide +kernel
theorem dX7_readCoins_20 : decode cX7_readCoins 20 = .ok (.iconst 0, 1) := by decide +kernel
theorem dX7_readCoins_21 : decode cX7_readCoins 21 = .ok (.istore_n 2, 1) := by decide +kernel
theorem dX7_readCoins_22 : decode cX7_readCoins 22 = .ok (.iload_n 2, 1) := by decide +kernel
theorem dX7_readCoins_23 : decode cX7_readCoins 23 = .ok (.bipush 6, 2) := by decide +kernel
theorem dX7_readCoins_25 : decode cX7_readCoins 25 = .ok (.if_icmp .ge 54, 3) := by decide +kernel
theorem dX7_readCoins_28 : decode cX7_readCoins 28 = .ok (.iload_n 2, 1) := by decide +kernel
theorem dX7_readCoins_29 : decode cX7_readCoins 29 = .ok (.ifCond .le 13, 3) := by decide +kernel
theorem dX7_readCoins_32 : decode cX7_readCoins 32 = .ok (.aload_n 0, 1) := by decide +kernel
theorem dX7_readCoins_33 : decode cX7_readCoins 33 = .ok (.getfield 46, 3) := by decide +kernel
theorem dX7_readCoins_36 : decode cX7_readCoins 36 = .ok (.iconst 2, 1) := by decide +kernel
theorem dX7_readCoins_37 : decode cX7_readCoins 37 = .ok (.if_icmp .eq 5, 3) := by decide +kernel
theorem dX7_readCoins_40 : decode cX7_readCoins 40 = .ok (.iconst 1, 1) := by decide +kernel
theorem dX7_readCoins_41 : decode cX7_readCoins 41 = .ok (.ireturn, 1) := by decide +kernel
theorem dX7_readCoins_42 : decode cX7_readCoins 42 = .ok (.aload_n 0, 1) := by decide +kernel
theorem dX7_readCoins_43 : decode cX7_readCoins 43 = .ok (.iload_n 1, 1) := by decide +kernel
theorem dX7_readCoins_44 : decode cX7_readCoins 44 = .ok (.iconst 1, 1) := by decide +kernel
theorem dX7_readCoins_45 : decode cX7_readCoins 45 = .ok (.iadd, 1) := by decide +kernel
theorem dX7_readCoins_46 : decode cX7_readCoins 46 = .ok (.sipush 999, 3) := by decide +kernel
theorem dX7_readCoins_49 : decode cX7_readCoins 49 = .ok (.invokevirtual 82, 3) := by decide +kernel
theorem dX7_readCoins_52 : decode cX7_readCoins 52 = .ok (.ifCond .ne 5, 3) := by decide +kernel
theorem dX7_readCoins_55 : decode cX7_readCoins 55 = .ok (.iconst 0, 1) := by decide +kernel
theorem dX7_readCoins_56 : decode cX7_readCoins 56 = .ok (.ireturn, 1) := by decide +kernel
theorem dX7_readCoins_57 : decode cX7_readCoins 57 = .ok (.aload_n 0, 1) := by decide +kernel
theorem dX7_readCoins_58 : decode cX7_readCoins 58 = .ok (.getfield 86, 3) := by decide +kernel
theorem dX7_readCoins_61 : decode cX7_readCoins 61 = .ok (.istore_n 1, 1) := by decide +kernel
theorem dX7_readCoins_62 : decode cX7_readCoins 62 = .ok (.aload_n 0, 1) := by decide +kernel
theorem dX7_readCoins_63 : decode cX7_readCoins 63 = .ok (.getfield 18, 3) := by decide +kernel
theorem dX7_readCoins_66 : decode cX7_readCoins 66 = .ok (.aload_n 0, 1) := by decide +kernel
theorem dX7_readCoins_67 : decode cX7_readCoins 67 = .ok (.getfield 86, 3) := by decide +kernel
theorem dX7_readCoins_70 : decode cX7_readCoins 70 = .ok (.invokevirtual 139, 3) := by decide +kernel
theorem dX7_readCoins_73 : decode cX7_readCoins 73 = .ok (.iinc 2 1, 3) := by decide +kernel
theorem dX7_readCoins_76 : decode cX7_readCoins 76 = .ok (.goto (-54), 3) := by decide +kernel
theorem dX7_readCoins_79 : decode cX7_readCoins 79 = .ok (.iconst 1, 1) := by decide +kernel
theorem dX7_readCoins_80 : decode cX7_readCoins 80 = .ok (.ireturn, 1) := by decide +kernel
theorem dX7_readAmount_0 : decode cX7_readAmount 0 = .ok (.aload_n 0, 1) := by decide +kernel
theorem dX7_readAmount_1 : decode cX7_readAmount 1 = .ok (.iconst 0, 1) := by decide +kernel
theorem dX7_readAmount_2 : decode cX7_readAmount 2 = .ok (.aload_n 0, 1) := by decide +kernel
theorem dX7_readAmount_3 : decode cX7_readAmount 3 = .ok (.getfield 18, 3) := by decide +kernel
theorem dX7_readAmount_6 : decode cX7_readAmount 6 = .ok (.getfield 136, 3) := by decide +kernel
theorem dX7_readAmount_9 : decode cX7_readAmount 9 = .ok (.iconst 1, 1) := by decide +kernel
theorem dX7_readAmount_10 : decode cX7_readAmount 10 = .ok (.isub, 1) := by decide +kernel
theorem dX7_readAmount_11 : decode cX7_readAmount 11 = .ok (.invokevirtual 82, 3) := by decide +kernel
theorem dX7_readAmount_14 : decode cX7_readAmount 14 = .ok (.ifCond .ne 5, 3) := by decide +kernel
theorem dX7_readAmount_17 : decode cX7_readAmount 17 = .ok (.iconst 0, 1) := by decide +kernel
theorem dX7_readAmount_18 : decode cX7_readAmount 18 = .ok (.ireturn, 1) := by decide +kernel
theorem dX7_readAmount_19 : decode cX7_readAmount 19 = .ok (.aload_n 0, 1) := by decide +kernel
theorem dX7_readAmount_20 : decode cX7_readAmount 20 = .ok (.getfield 86, 3) := by decide +kernel
theorem dX7_readAmount_23 : decode cX7_readAmount 23 = .ok (.istore_n 2, 1) := by decide +kernel
theorem dX7_readAmount_24 : decode cX7_readAmount 24 = .ok (.aload_n 0, 1) := by decide +kernel
theorem dX7_readAmount_25 : decode cX7_readAmount 25 = .ok (.iconst 0, 1) := by decide +kernel
theorem dX7_readAmount_26 : decode cX7_readAmount 26 = .ok (.bipush 20, 2) := by decide +kernel
theorem dX7_readAmount_28 : decode cX7_readAmount 28 = .ok (.invokevirtual 82, 3) := by decide +kernel
theorem dX7_readAmount_31 : decode cX7_readAmount 31 = .ok (.ifCond .ne 5, 3) := by decide +kernel
theorem dX7_readAmount_34 : decode cX7_readAmount 34 = .ok (.iconst 0, 1) := by decide +kernel
theorem dX7_readAmount_35 : decode cX7_readAmount 35 = .ok (.ireturn, 1) := by decide +kernel
theorem dX7_readAmount_36 : decode cX7_readAmount 36 = .ok (.aload_n 0, 1) := by decide +kernel
theorem dX7_readAmount_37 : decode cX7_readAmount 37 = .ok (.getfield 18, 3) := by decide +kernel
theorem dX7_readAmount_40 : decode cX7_readAmount 40 = .ok (.getfield 127, 3) := by decide +kernel
theorem dX7_readAmount_43 : decode cX7_readAmount 43 = .ok (.iload_n 1, 1) := by decide +kernel
theorem dX7_readAmount_44 : decode cX7_readAmount 44 = .ok (.iload_n 2, 1) := by decide +kernel
theorem dX7_readAmount_45 : decode cX7_readAmount 45 = .ok (.aload_n 0, 1) := by decide +kernel
theorem dX7_readAmount_46 : decode cX7_readAmount 46 = .ok (.getfield 86, 3) := by decide +kernel
theorem dX7_readAmount_49 : decode cX7_readAmount 49 = .ok (.aload_n 0, 1) := by decide +kernel
theorem dX7_readAmount_50 : decode cX7_readAmount 50 = .ok (.getfield 18, 3) := by decide +kernel
theorem dX7_readAmount_53 : decode cX7_readAmount 53 = .ok (.getfield 127, 3) := by decide +kernel
theorem dX7_readAmount_56 : decode cX7_readAmount 56 = .ok (.iload_n 1, 1) := by decide +kernel
theorem dX7_readAmount_57 : decode cX7_readAmount 57 = .ok (.iload_n 2, 1) := by decide +kernel
theorem dX7_readAmount_58 : decode cX7_readAmount 58 = .ok (.invokevirtual 143, 3) := by decide +kernel
theorem dX7_readAmount_61 : decode cX7_readAmount 61 = .ok (.isub, 1) := by decide +kernel
theorem dX7_readAmount_62 : decode cX7_readAmount 62 = .ok (.invokevirtual 146, 3) := by decide +kernel
theorem dX7_readAmount_65 : decode cX7_readAmount 65 = .ok (.iconst 1, 1) := by decide +kernel
theorem dX7_readAmount_66 : decode cX7_readAmount 66 = .ok (.ireturn, 1) := by decide +kernel
theorem dX7_readHabit_0 : decode cX7_readHabit 0 = .ok (.aload_n 0, 1) := by decide +kernel
theorem dX7_readHabit_1 : decode cX7_readHabit 1 = .ok (.iconst 0, 1) := by decide +kernel
theorem dX7_readHabit_2 : decode cX7_readHabit 2 = .ok (.iconst 3, 1) := by decide +kernel
theorem dX7_readHabit_3 : decode cX7_readHabit 3 = .ok (.invokevirtual 82, 3) := by decide +kernel
theorem dX7_readHabit_6 : decode cX7_readHabit 6 = .ok (.ifCond .ne 5, 3) := by decide +kernel
theorem dX7_readHabit_9 : decode cX7_readHabit 9 = .ok (.iconst 0, 1) := by decide +kernel
theorem dX7_readHabit_10 : decode cX7_readHabit 10 = .ok (.ireturn, 1) := by decide +kernel
theorem dX7_readHabit_11 : decode cX7_readHabit 11 = .ok (.aload_n 0, 1) := by decide +kernel
theorem dX7_readHabit_12 : decode cX7_readHabit 12 = .ok (.getfield 18, 3) := by decide +kernel
theorem dX7_readHabit_15 : decode cX7_readHabit 15 = .ok (.aload_n 0, 1) := by decide +kernel
theorem dX7_readHabit_16 : decode cX7_readHabit 16 = .ok (.getfield 86, 3) := by decide +kernel
theorem dX7_readHabit_19 : decode cX7_readHabit 19 = .ok (.iload_n 1, 1) := by decide +kernel
theorem dX7_readHabit_20 : decode cX7_readHabit 20 = .ok (.iconst 0, 1) := by decide +kernel
theorem dX7_readHabit_21 : decode cX7_readHabit 21 = .ok (.invokevirtual 150, 3) := by decide +kernel
theorem dX7_readHabit_24 : decode cX7_readHabit 24 = .ok (.iconst 1, 1) := by decide +kernel
theorem dX7_readHabit_25 : decode cX7_readHabit 25 = .ok (.ireturn, 1) := by decide +kernel
theorem dX7_readWaiting_0 : decode cX7_readWaiting 0 = .ok (.aload_n 0, 1) := by decide +kernel
theorem dX7_readWaiting_1 : decode cX7_readWaiting 1 = .ok (.iconst 0, 1) := by decide +kernel
theorem dX7_readWaiting_2 : decode cX7_readWaiting 2 = .ok (.iconst 3, 1) := by decide +kernel
theorem dX7_readWaiting_3 : decode cX7_readWaiting 3 = .ok (.invokevirtual 82, 3) := by decide +kernel
theorem dX7_readWaiting_6 : decode cX7_readWaiting 6 = .ok (.ifCond .ne 5, 3) := by decide +kernel
theorem dX7_readWaiting_9 : decode cX7_readWaiting 9 = .ok (.iconst 0, 1) := by decide +kernel
theorem dX7_readWaiting_10 : decode cX7_readWaiting 10 = .ok (.ireturn, 1) := by decide +kernel
theorem dX7_readWaiting_11 : decode cX7_readWaiting 11 = .ok (.aload_n 0, 1) := by decide +kernel
theorem dX7_readWaiting_12 : decode cX7_readWaiting 12 = .ok (.getfield 86, 3) := by decide +kernel
theorem dX7_readWaiting_15 : decode cX7_readWaiting 15 = .ok (.istore_n 1, 1) := by decide +kernel
theorem dX7_readWaiting_16 : decode cX7_readWaiting 16 = .ok (.aload_n 0, 1) := by decide +kernel
theorem dX7_readWaiting_17 : decode cX7_readWaiting 17 = .ok (.iconst 0, 1) := by decide +kernel
theorem dX7_readWaiting_18 : decode cX7_readWaiting 18 = .ok (.bipush 99, 2) := by decide +kernel
theorem dX7_readWaiting_20 : decode cX7_readWaiting 20 = .ok (.invokevirtual 82, 3) := by decide +kernel
theorem dX7_readWaiting_23 : decode cX7_readWaiting 23 = .ok (.ifCond .ne 5, 3) := by decide +kernel
theorem dX7_readWaiting_26 : decode cX7_readWaiting 26 = .ok (.iconst 0, 1) := by decide +kernel
theorem dX7_readWaiting_27 : decode cX7_readWaiting 27 = .ok (.ireturn, 1) := by decide +kernel
theorem dX7_readWaiting_28 : decode cX7_readWaiting 28 = .ok (.aload_n 0, 1) := by decide +kernel
theorem dX7_readWaiting_29 : decode cX7_readWaiting 29 = .ok (.getfield 18, 3) := by decide +kernel
theorem dX7_readWaiting_32 : decode cX7_readWaiting 32 = .ok (.iload_n 1, 1) := by decide +kernel
theorem dX7_readWaiting_33 : decode cX7_readWaiting 33 = .ok (.iconst 2, 1) := by decide +kernel
theorem dX7_readWaiting_34 : decode cX7_readWaiting 34 = .ok (.aload_n 0, 1) := by decide +kernel
theorem dX7_readWaiting_35 : decode cX7_readWaiting 35 = .ok (.getfield 86, 3) := by decide +kernel
theorem dX7_readWaiting_38 : decode cX7_readWaiting 38 = .ok (.invokevirtual 150, 3) := by decide +kernel
theorem dX7_readWaiting_41 : decode cX7_readWaiting 41 = .ok (.iconst 1, 1) := by decide +kernel
theorem dX7_readWaiting_42 : decode cX7_readWaiting 42 = .ok (.ireturn, 1) := by decide +kernel
theorem dX7_readVisits_0 : decode cX7_readVisits 0 = .ok (.iconst 0, 1) := by decide +kernel
theorem dX7_readVisits_1 : decode cX7_readVisits 1 = .ok (.istore_n 1, 1) := by decide +kernel
theorem dX7_readVisits_2 : decode cX7_readVisits 2 = .ok (.iload_n 1, 1) := by decide +kernel
theorem dX7_readVisits_3 : decode cX7_readVisits 3 = .ok (.bipush 9, 2) := by decide +kernel
theorem dX7_readVisits_5 : decode cX7_readVisits 5 = .ok (.if_icmp .ge 57, 3) := by decide +kernel
theorem dX7_readVisits_8 : decode cX7_readVisits 8 = .ok (.iload_n 1, 1) := by decide +kernel
theorem dX7_readVisits_9 : decode cX7_readVisits 9 = .ok (.ifCond .le 13, 3) := by decide +kernel
theorem dX7_readVisits_12 : decode cX7_readVisits 12 = .ok (.aload_n 0, 1) := by decide +kernel
theorem dX7_readVisits_13 : decode cX7_readVisits 13 = .ok (.getfield 46, 3) := by decide +kernel
theorem dX7_readVisits_16 : decode cX7_readVisits 16 = .ok (.iconst 2, 1) := by decide +kernel
theorem dX7_readVisits_17 : decode cX7_readVisits 17 = .ok (.if_icmp .eq 5, 3) := by decide +kernel
theorem dX7_readVisits_20 : decode cX7_readVisits 20 = .ok (.iconst 1, 1) := by decide +kernel
theorem dX7_readVisits_21 : decode cX7_readVisits 21 = .ok (.ireturn, 1) := by decide +kernel
theorem dX7_readVisits_22 : decode cX7_readVisits 22 = .ok (.aload_n 0, 1) := by decide +kernel
theorem dX7_readVisits_23 : decode cX7_readVisits 23 = .ok (.getfield 18, 3) := by decide +kernel
theorem dX7_readVisits_26 : decode cX7_readVisits 26 = .ok (.getfield 153, 3) := by decide +kernel
theorem dX7_readVisits_29 : decode cX7_readVisits 29 = .ok (.bipush 24, 2) := by decide +kernel
theorem dX7_readVisits_31 : decode cX7_readVisits 31 = .ok (.if_icmp .ge 12, 3) := by decide +kernel
theorem dX7_readVisits_34 : decode cX7_readVisits 34 = .ok (.aload_n 0, 1) := by decide +kernel
theorem dX7_readVisits_35 : decode cX7_readVisits 35 = .ok (.iconst 0, 1) := by decide +kernel
theorem dX7_readVisits_36 : decode cX7_readVisits 36 = .ok (.iconst 3, 1) := by decide +kernel
theorem dX7_readVisits_37 : decode cX7_readVisits 37 = .ok (.invokevirtual 82, 3) := by decide +kernel
theorem dX7_readVisits_40 : decode cX7_readVisits 40 = .ok (.ifCond .ne 5, 3) := by decide +kernel
theorem dX7_readVisits_43 : decode cX7_readVisits 43 = .ok (.iconst 0, 1) := by decide +kernel
theorem dX7_readVisits_44 : decode cX7_readVisits 44 = .ok (.ireturn, 1) := by decide +kernel
theorem dX7_readVisits_45 : decode cX7_readVisits 45 = .ok (.aload_n 0, 1) := by decide +kernel
theorem dX7_readVisits_46 : decode cX7_readVisits 46 = .ok (.getfield 18, 3) := by decide +kernel
theorem dX7_readVisits_49 : decode cX7_readVisits 49 = .ok (.aload_n 0, 1) := by decide +kernel
theorem dX7_readVisits_50 : decode cX7_readVisits 50 = .ok (.getfield 86, 3) := by decide +kernel
theorem dX7_readVisits_53 : decode cX7_readVisits 53 = .ok (.invokevirtual 156, 3) := by decide +kernel
theorem dX7_readVisits_56 : decode cX7_readVisits 56 = .ok (.iinc 1 1, 3) := by decide +kernel
theorem dX7_readVisits_59 : decode cX7_readVisits 59 = .ok (.goto (-57), 3) := by decide +kernel
theorem dX7_readVisits_62 : decode cX7_readVisits 62 = .ok (.iconst 1, 1) := by decide +kernel
theorem dX7_readVisits_63 : decode cX7_readVisits 63 = .ok (.ireturn, 1) := by decide +kernel
theorem dX7_readLaw_0 : decode cX7_readLaw 0 = .ok (.aload_n 0, 1) := by decide +kernel
theorem dX7_readLaw_1 : decode cX7_readLaw 1 = .ok (.iconst 0, 1) := by decide +kernel
theorem dX7_readLaw_2 : decode cX7_readLaw 2 = .ok (.iconst 3, 1) := by decide +kernel
theorem dX7_readLaw_3 : decode cX7_readLaw 3 = .ok (.invokevirtual 82, 3) := by decide +kernel
theorem dX7_readLaw_6 : decode cX7_readLaw 6 = .ok (.ifCond .ne 5, 3) := by decide +kernel
theorem dX7_readLaw_9 : decode cX7_readLaw 9 = .ok (.iconst 0, 1) := by decide +kernel
theorem dX7_readLaw_10 : decode cX7_readLaw 10 = .ok (.ireturn, 1) := by decide +kernel
theorem dX7_readLaw_11 : decode cX7_readLaw 11 = .ok (.aload_n 0, 1) := by decide +kernel
theorem dX7_readLaw_12 : decode cX7_readLaw 12 = .ok (.getfield 18, 3) := by decide +kernel
theorem dX7_readLaw_15 : decode cX7_readLaw 15 = .ok (.aload_n 0, 1) := by decide +kernel
theorem dX7_readLaw_16 : decode cX7_readLaw 16 = .ok (.getfield 86, 3) := by decide +kernel
theorem dX7_readLaw_19 : decode cX7_readLaw 19 = .ok (.putfield 159, 3) := by decide +kernel
theorem dX7_readLaw_22 : decode cX7_readLaw 22 = .ok (.iconst 1, 1) := by decide +kernel
theorem dX7_readLaw_23 : decode cX7_readLaw 23 = .ok (.ireturn, 1) := by decide +kernel
theorem dX7_leaveAlone_0 : decode cX7_leaveAlone 0 = .ok (.aload_n 0, 1) := by decide +kernel
theorem dX7_leaveAlone_1 : decode cX7_leaveAlone 1 = .ok (.getfield 18, 3) := by decide +kernel
theorem dX7_leaveAlone_4 : decode cX7_leaveAlone 4 = .ok (.iconst 0, 1) := by decide +kernel
theorem dX7_leaveAlone_5 : decode cX7_leaveAlone 5 = .ok (.putfield 153, 3) := by decide +kernel
theorem dX7_leaveAlone_8 : decode cX7_leaveAlone 8 = .ok (.iconst 1, 1) := by decide +kernel
theorem dX7_leaveAlone_9 : decode cX7_leaveAlone 9 = .ok (.ireturn, 1) := by decide +kernel
theorem dX11_init_0 : decode cX11_init 0 = .ok (.aload_n 0, 1) := by decide +kernel
theorem dX11_init_1 : decode cX11_init 1 = .ok (.invokespecial 1, 3) := by decide +kernel
theorem dX11_init_4 : decode cX11_init 4 = .ok (.aload_n 0, 1) := by decide +kernel
theorem dX11_init_5 : decode cX11_init 5 = .ok (.new 7, 3) := by decide +kernel
theorem dX11_init_8 : decode cX11_init 8 = .ok (.dup, 1) := by decide +kernel
theorem dX11_init_9 : decode cX11_init 9 = .ok (.invokespecial 9, 3) := by decide +kernel
theorem dX11_init_12 : decode cX11_init 12 = .ok (.putfield 10, 3) := by decide +kernel
theorem dX11_init_15 : decode cX11_init 15 = .ok (.aload_n 0, 1) := by decide +kernel
theorem dX11_init_16 : decode cX11_init 16 = .ok (.new 16, 3) := by decide +kernel
theorem dX11_init_19 : decode cX11_init 19 = .ok (.dup, 1) := by decide +kernel
theorem dX11_init_20 : decode cX11_init 20 = .ok (.invokespecial 18, 3) := by decide +kernel
theorem dX11_init_23 : decode cX11_init 23 = .ok (.putfield 19, 3) := by decide +kernel
theorem dX11_init_26 : decode cX11_init 26 = .ok (.aload_n 0, 1) := by decide +kernel
theorem dX11_init_27 : decode cX11_init 27 = .ok (.iconst 2, 1) := by decide +kernel
theorem dX11_init_28 : decode cX11_init 28 = .ok (.anewarray 16, 3) := by decide +kernel
theorem dX11_init_31 : decode cX11_init 31 = .ok (.dup, 1) := by decide +kernel
theorem dX11_init_32 : decode cX11_init 32 = .ok (.iconst 0, 1) := by decide +kernel
theorem dX11_init_33 : decode cX11_init 33 = .ok (.new 16, 3) := by decide +kernel
theorem dX11_init_36 : decode cX11_init 36 = .ok (.dup, 1) := by decide +kernel
theorem dX11_init_37 : decode cX11_init 37 = .ok (.invokespecial 18, 3) := by decide +kernel
theorem dX11_init_40 : decode cX11_init 40 = .ok (.aastore, 1) := by decide +kernel
theorem dX11_init_41 : decode cX11_init 41 = .ok (.dup, 1) := by decide +kernel
theorem dX11_init_42 : decode cX11_init 42 = .ok (.iconst 1, 1) := by decide +kernel
theorem dX11_init_43 : decode cX11_init 43 = .ok (.new 16, 3) := by decide +kernel
theorem dX11_init_46 : decode cX11_init 46 = .ok (.dup, 1) := by decide +kernel
theorem dX11_init_47 : decode cX11_init 47 = .ok (.invokespecial 18, 3) := by decide +kernel
theorem dX11_init_50 : decode cX11_init 50 = .ok (.aastore, 1) := by decide +kernel
theorem dX11_init_51 : decode cX11_init 51 = .ok (.putfield 23, 3) := by decide +kernel
theorem dX11_init_54 : decode cX11_init 54 = .ok (.aload_n 0, 1) := by decide +kernel
theorem dX11_init_55 : decode cX11_init 55 = .ok (.new 27, 3) := by decide +kernel
theorem dX11_init_58 : decode cX11_init 58 = .ok (.dup, 1) := by decide +kernel
theorem dX11_init_59 : decode cX11_init 59 = .ok (.invokespecial 29, 3) := by decide +kernel
theorem dX11_init_62 : decode cX11_init 62 = .ok (.putfield 30, 3) := by decide +kernel
theorem dX11_init_65 : decode cX11_init 65 = .ok (.aload_n 0, 1) := by decide +kernel
theorem dX11_init_66 : decode cX11_init 66 = .ok (.new 34, 3) := by decide +kernel
theorem dX11_init_69 : decode cX11_init 69 = .ok (.dup, 1) := by decide +kernel
theorem dX11_init_70 : decode cX11_init 70 = .ok (.aload_n 0, 1) := by decide +kernel
theorem dX11_init_71 : decode cX11_init 71 = .ok (.getfield 10, 3) := by decide +kernel
theorem dX11_init_74 : decode cX11_init 74 = .ok (.invokespecial 36, 3) := by decide +kernel
theorem dX11_init_77 : decode cX11_init 77 = .ok (.putfield 39, 3) := by decide +kernel
theorem dX11_init_80 : decode cX11_init 80 = .ok (.aload_n 0, 1) := by decide +kernel
theorem dX11_init_81 : decode cX11_init 81 = .ok (.new 43, 3) := by decide +kernel
theorem dX11_init_84 : decode cX11_init 84 = .ok (.dup, 1) := by decide +kernel
theorem dX11_init_85 : decode cX11_init 85 = .ok (.aload_n 0, 1) := by decide +kernel
theorem dX11_init_86 : decode cX11_init 86 = .ok (.getfield 10, 3) := by decide +kernel
theorem dX11_init_89 : decode cX11_init 89 = .ok (.invokespecial 45, 3) := by decide +kernel
theorem dX11_init_92 : decode cX11_init 92 = .ok (.putfield 46, 3) := by decide +kernel
theorem dX11_init_95 : decode cX11_init 95 = .ok (.return_, 1) := by decide +kernel
theorem dX11_write_0 : decode cX11_write 0 = .ok (.iload_n 3, 1) := by decide +kernel
theorem dX11_write_1 : decode cX11_write 1 = .ok (.iconst 1, 1) := by decide +kernel
theorem dX11_write_2 : decode cX11_write 2 = .ok (.if_icmp .lt 9, 3) := by decide +kernel
theorem dX11_write_5 : decode cX11_write 5 = .ok (.iload_n 3, 1) := by decide +kernel
theorem dX11_write_6 : decode cX11_write 6 = .ok (.bipush 8, 2) := by decide +kernel
theorem dX11_write_8 : decode cX11_write 8 = .ok (.if_icmp .le 6, 3) := by decide +kernel
theorem dX11_write_11 : decode cX11_write 11 = .ok (.bipush (-3), 2) := by decide +kernel
theorem dX11_write_13 : decode cX11_write 13 = .ok (.ireturn, 1) := by decide +kernel
theorem dX11_write_14 : decode cX11_write 14 = .ok (.aload_n 0, 1) := by decide +kernel
theorem dX11_write_15 : decode cX11_write 15 = .ok (.getfield 30, 3) := by decide +kernel
theorem dX11_write_18 : decode cX11_write 18 = .ok (.getfield 50, 3) := by decide +kernel
theorem dX11_write_21 : decode cX11_write 21 = .ok (.iload_n 3, 1) := by decide +kernel
theorem dX11_write_22 : decode cX11_write 22 = .ok (.iadd, 1) := by decide +kernel
theorem dX11_write_23 : decode cX11_write 23 = .ok (.sipush 200, 3) := by decide +kernel
theorem dX11_write_26 : decode cX11_write 26 = .ok (.if_icmp .le 6, 3) := by decide +kernel
theorem dX11_write_29 : decode cX11_write 29 = .ok (.bipush (-5), 2) := by decide +kernel
theorem dX11_write_31 : decode cX11_write 31 = .ok (.ireturn, 1) := by decide +kernel
theorem dX11_write_32 : decode cX11_write 32 = .ok (.iconst 0, 1) := by decide +kernel
theorem dX11_write_33 : decode cX11_write 33 = .ok (.istore 4, 2) := by decide +kernel
theorem dX11_write_35 : decode cX11_write 35 = .ok (.iload 4, 2) := by decide +kernel
theorem dX11_write_37 : decode cX11_write 37 = .ok (.iload_n 3, 1) := by decide +kernel
theorem dX11_write_38 : decode cX11_write 38 = .ok (.if_icmp .ge 28, 3) := by decide +kernel
theorem dX11_write_41 : decode cX11_write 41 = .ok (.aload_n 0, 1) := by decide +kernel
theorem dX11_write_42 : decode cX11_write 42 = .ok (.getfield 30, 3) := by decide +kernel
theorem dX11_write_45 : decode cX11_write 45 = .ok (.lload_n 1, 1) := by decide +kernel
theorem dX11_write_46 : decode cX11_write 46 = .ok (.bipush 8, 2) := by decide +kernel
theorem dX11_write_48 : decode cX11_write 48 = .ok (.iload 4, 2) := by decide +kernel
theorem dX11_write_50 : decode cX11_write 50 = .ok (.imul, 1) := by decide +kernel
theorem dX11_write_51 : decode cX11_write 51 = .ok (.lshr, 1) := by decide +kernel
theorem dX11_write_52 : decode cX11_write 52 = .ok (.ldc2_w 54, 3) := by decide +kernel
theorem dX11_write_55 : decode cX11_write 55 = .ok (.land, 1) := by decide +kernel
theorem dX11_write_56 : decode cX11_write 56 = .ok (.l2i, 1) := by decide +kernel
theorem dX11_write_57 : decode cX11_write 57 = .ok (.invokevirtual 56, 3) := by decide +kernel
theorem dX11_write_60 : decode cX11_write 60 = .ok (.iinc 4 1, 3) := by decide +kernel
theorem dX11_write_63 : decode cX11_write 63 = .ok (.goto (-28), 3) := by decide +kernel
theorem dX11_write_66 : decode cX11_write 66 = .ok (.aload_n 0, 1) := by decide +kernel
theorem dX11_write_67 : decode cX11_write 67 = .ok (.getfield 30, 3) := by decide +kernel
theorem dX11_write_70 : decode cX11_write 70 = .ok (.getfield 50, 3) := by decide +kernel
theorem dX11_write_73 : decode cX11_write 73 = .ok (.ireturn, 1) := by decide +kernel
theorem dX11_erase_0 : decode cX11_erase 0 = .ok (.aload_n 0, 1) := by decide +kernel
theorem dX11_erase_1 : decode cX11_erase 1 = .ok (.getfield 30, 3) := by decide +kernel
theorem dX11_erase_4 : decode cX11_erase 4 = .ok (.getfield 50, 3) := by decide +kernel
theorem dX11_erase_7 : decode cX11_erase 7 = .ok (.istore_n 1, 1) := by decide +kernel
theorem dX11_erase_8 : decode cX11_erase 8 = .ok (.aload_n 0, 1) := by decide +kernel
theorem dX11_erase_9 : decode cX11_erase 9 = .ok (.getfield 30, 3) := by decide +kernel
theorem dX11_erase_12 : decode cX11_erase 12 = .ok (.iconst 0, 1) := by decide +kernel
theorem dX11_erase_13 : decode cX11_erase 13 = .ok (.putfield 50, 3) := by decide +kernel
theorem dX11_erase_16 : decode cX11_erase 16 = .ok (.iload_n 1, 1) := by decide +kernel
theorem dX11_erase_17 : decode cX11_erase 17 = .ok (.ireturn, 1) := by decide +kernel
theorem dX11_fault_0 : decode cX11_fault 0 = .ok (.aload_n 0, 1) := by decide +kernel
theorem dX11_fault_1 : decode cX11_fault 1 = .ok (.getfield 30, 3) := by decide +kernel
theorem dX11_fault_4 : decode cX11_fault 4 = .ok (.aload_n 0, 1) := by decide +kernel
theorem dX11_fault_5 : decode cX11_fault 5 = .ok (.getfield 10, 3) := by decide +kernel
theorem dX11_fault_8 : decode cX11_fault 8 = .ok (.invokevirtual 60, 3) := by decide +kernel
theorem dX11_fault_11 : decode cX11_fault 11 = .ok (.ireturn, 1) := by decide +kernel
theorem dX11_sunday_0 : decode cX11_sunday 0 = .ok (.aload_n 0, 1) := by decide +kernel
theorem dX11_sunday_1 : decode cX11_sunday 1 = .ok (.getfield 30, 3) := by decide +kernel
theorem dX11_sunday_4 : decode cX11_sunday 4 = .ok (.aload_n 0, 1) := by decide +kernel
theorem dX11_sunday_5 : decode cX11_sunday 5 = .ok (.getfield 10, 3) := by decide +kernel
theorem dX11_sunday_8 : decode cX11_sunday 8 = .ok (.invokevirtual 60, 3) := by decide +kernel
theorem dX11_sunday_11 : decode cX11_sunday 11 = .ok (.iconst (-1), 1) := by decide +kernel
theorem dX11_sunday_12 : decode cX11_sunday 12 = .ok (.if_icmp .eq 6, 3) := by decide +kernel
theorem dX11_sunday_15 : decode cX11_sunday 15 = .ok (.bipush (-4), 2) := by decide +kernel
theorem dX11_sunday_17 : decode cX11_sunday 17 = .ok (.ireturn, 1) := by decide +kernel
theorem dX11_sunday_18 : decode cX11_sunday 18 = .ok (.aload_n 0, 1) := by decide +kernel
theorem dX11_sunday_19 : decode cX11_sunday 19 = .ok (.getfield 10, 3) := by decide +kernel
theorem dX11_sunday_22 : decode cX11_sunday 22 = .ok (.aload_n 0, 1) := by decide +kernel
theorem dX11_sunday_23 : decode cX11_sunday 23 = .ok (.getfield 30, 3) := by decide +kernel
theorem dX11_sunday_26 : decode cX11_sunday 26 = .ok (.getfield 64, 3) := by decide +kernel
theorem dX11_sunday_29 : decode cX11_sunday 29 = .ok (.invokevirtual 67, 3) := by decide +kernel
theorem dX11_sunday_32 : decode cX11_sunday 32 = .ok (.aload_n 0, 1) := by decide +kernel
theorem dX11_sunday_33 : decode cX11_sunday 33 = .ok (.getfield 19, 3) := by decide +kernel
theorem dX11_sunday_36 : decode cX11_sunday 36 = .ok (.aload_n 0, 1) := by decide +kernel
theorem dX11_sunday_37 : decode cX11_sunday 37 = .ok (.getfield 10, 3) := by decide +kernel
theorem dX11_sunday_40 : decode cX11_sunday 40 = .ok (.getfield 70, 3) := by decide +kernel
theorem dX11_sunday_43 : decode cX11_sunday 43 = .ok (.invokevirtual 73, 3) := by decide +kernel
theorem dX11_sunday_46 : decode cX11_sunday 46 = .ok (.aload_n 0, 1) := by decide +kernel
theorem dX11_sunday_47 : decode cX11_sunday 47 = .ok (.getfield 30, 3) := by decide +kernel
theorem dX11_sunday_50 : decode cX11_sunday 50 = .ok (.iconst 0, 1) := by decide +kernel
theorem dX11_sunday_51 : decode cX11_sunday 51 = .ok (.putfield 50, 3) := by decide +kernel
theorem dX11_sunday_54 : decode cX11_sunday 54 = .ok (.aload_n 0, 1) := by decide +kernel
theorem dX11_sunday_55 : decode cX11_sunday 55 = .ok (.getfield 46, 3) := by decide +kernel
theorem dX11_sunday_58 : decode cX11_sunday 58 = .ok (.iconst 0, 1) := by decide +kernel
theorem dX11_sunday_59 : decode cX11_sunday 59 = .ok (.putfield 76, 3) := by decide +kernel
theorem dX11_sunday_62 : decode cX11_sunday 62 = .ok (.aload_n 0, 1) := by decide +kernel
theorem dX11_sunday_63 : decode cX11_sunday 63 = .ok (.iconst 0, 1) := by decide +kernel
theorem dX11_sunday_64 : decode cX11_sunday 64 = .ok (.putfield 79, 3) := by decide +kernel
theorem dX11_sunday_67 : decode cX11_sunday 67 = .ok (.aload_n 0, 1) := by decide +kernel
theorem dX11_sunday_68 : decode cX11_sunday 68 = .ok (.getfield 39, 3) := by decide +kernel
theorem dX11_sunday_71 : decode cX11_sunday 71 = .ok (.invokevirtual 82, 3) := by decide +kernel
theorem dX11_sunday_74 : decode cX11_sunday 74 = .ok (.aload_n 0, 1) := by decide +kernel
theorem dX11_sunday_75 : decode cX11_sunday 75 = .ok (.getfield 30, 3) := by decide +kernel
theorem dX11_sunday_78 : decode cX11_sunday 78 = .ok (.getfield 85, 3) := by decide +kernel
theorem dX11_sunday_81 : decode cX11_sunday 81 = .ok (.ireturn, 1) := by decide +kernel
theorem dX11_coin_0 : decode cX11_coin 0 = .ok (.aload_n 0, 1) := by decide +kernel
theorem dX11_coin_1 : decode cX11_coin 1 = .ok (.getfield 10, 3) := by decide +kernel
theorem dX11_coin_4 : decode cX11_coin 4 = .ok (.iload_n 1, 1) := by decide +kernel
theorem dX11_coin_5 : decode cX11_coin 5 = .ok (.invokevirtual 88, 3) := by decide +kernel
theorem dX11_coin_8 : decode cX11_coin 8 = .ok (.ifCond .ne 6, 3) := by decide +kernel
theorem dX11_coin_11 : decode cX11_coin 11 = .ok (.bipush (-2), 2) := by decide +kernel
theorem dX11_coin_13 : decode cX11_coin 13 = .ok (.ireturn, 1) := by decide +kernel
theorem dX11_coin_14 : decode cX11_coin 14 = .ok (.iload_n 2, 1) := by decide +kernel
theorem dX11_coin_15 : decode cX11_coin 15 = .ok (.ifCond .lt 8, 3) := by decide +kernel
theorem dX11_coin_18 : decode cX11_coin 18 = .ok (.iload_n 2, 1) := by decide +kernel
theorem dX11_coin_19 : decode cX11_coin 19 = .ok (.iconst 1, 1) := by decide +kernel
theorem dX11_coin_20 : decode cX11_coin 20 = .ok (.if_icmp .le 6, 3) := by decide +kernel
theorem dX11_coin_23 : decode cX11_coin 23 = .ok (.bipush (-3), 2) := by decide +kernel
theorem dX11_coin_25 : decode cX11_coin 25 = .ok (.ireturn, 1) := by decide +kernel
theorem dX11_coin_26 : decode cX11_coin 26 = .ok (.iload_n 2, 1) := by decide +kernel
theorem dX11_coin_27 : decode cX11_coin 27 = .ok (.ifCond .ne 14, 3) := by decide +kernel
theorem dX11_coin_30 : decode cX11_coin 30 = .ok (.aload_n 0, 1) := by decide +kernel
theorem dX11_coin_31 : decode cX11_coin 31 = .ok (.getfield 10, 3) := by decide +kernel
theorem dX11_coin_34 : decode cX11_coin 34 = .ok (.iload_n 1, 1) := by decide +kernel
theorem dX11_coin_35 : decode cX11_coin 35 = .ok (.invokevirtual 92, 3) := by decide +kernel
theorem dX11_coin_38 : decode cX11_coin 38 = .ok (.goto 12, 3) := by decide +kernel
theorem dX11_coin_41 : decode cX11_coin 41 = .ok (.aload_n 0, 1) := by decide +kernel
theorem dX11_coin_42 : decode cX11_coin 42 = .ok (.getfield 19, 3) := by decide +kernel
theorem dX11_coin_45 : decode cX11_coin 45 = .ok (.iconst 4, 1) := by decide +kernel
theorem dX11_coin_46 : decode cX11_coin 46 = .ok (.iload_n 1, 1) := by decide +kernel
theorem dX11_coin_47 : decode cX11_coin 47 = .ok (.invokevirtual 96, 3) := by decide +kernel
theorem dX11_coin_50 : decode cX11_coin 50 = .ok (.ireturn, 1) := by decide +kernel
theorem dX11_purse_0 : decode cX11_purse 0 = .ok (.iload_n 1, 1) := by decide +kernel
theorem dX11_purse_1 : decode cX11_purse 1 = .ok (.invokestatic 100, 3) := by decide +kernel
theorem dX11_purse_4 : decode cX11_purse 4 = .ok (.ifCond .eq 14, 3) := by decide +kernel
theorem dX11_purse_7 : decode cX11_purse 7 = .ok (.aload_n 0, 1) := by decide +kernel
theorem dX11_purse_8 : decode cX11_purse 8 = .ok (.getfield 10, 3) := by decide +kernel
theorem dX11_purse_11 : decode cX11_purse 11 = .ok (.iload_n 2, 1) := by decide +kernel
theorem dX11_purse_12 : decode cX11_purse 12 = .ok (.invokevirtual 88, 3) := by decide +kernel
theorem dX11_purse_15 : decode cX11_purse 15 = .ok (.ifCond .ne 6, 3) := by decide +kernel
theorem dX11_purse_18 : decode cX11_purse 18 = .ok (.bipush (-2), 2) := by decide +kernel
theorem dX11_purse_20 : decode cX11_purse 20 = .ok (.ireturn, 1) := by decide +kernel
theorem dX11_purse_21 : decode cX11_purse 21 = .ok (.aload_n 0, 1) := by decide +kernel
theorem dX11_purse_22 : decode cX11_purse 22 = .ok (.getfield 19, 3) := by decide +kernel
theorem dX11_purse_25 : decode cX11_purse 25 = .ok (.iload_n 1, 1) := by decide +kernel
theorem dX11_purse_26 : decode cX11_purse 26 = .ok (.iload_n 2, 1) := by decide +kernel
theorem dX11_purse_27 : decode cX11_purse 27 = .ok (.invokevirtual 96, 3) := by decide +kernel
theorem dX11_purse_30 : decode cX11_purse 30 = .ok (.ireturn, 1) := by decide +kernel
theorem dX11_person_0 : decode cX11_person 0 = .ok (.iload_n 1, 1) := by decide +kernel
theorem dX11_person_1 : decode cX11_person 1 = .ok (.invokestatic 100, 3) := by decide +kernel
theorem dX11_person_4 : decode cX11_person 4 = .ok (.ifCond .ne 6, 3) := by decide +kernel
theorem dX11_person_7 : decode cX11_person 7 = .ok (.bipush (-2), 2) := by decide +kernel
theorem dX11_person_9 : decode cX11_person 9 = .ok (.ireturn, 1) := by decide +kernel
theorem dX11_person_10 : decode cX11_person 10 = .ok (.iload_n 2, 1) := by decide +kernel
theorem dX11_person_11 : decode cX11_person 11 = .ok (.tableswitch 86 0 3 #[29, 42, 54, 71], 29) := by decide +kernel
theorem dX11_person_40 : decode cX11_person 40 = .ok (.aload_n 0, 1) := by decide +kernel
theorem dX11_person_41 : decode cX11_person 41 = .ok (.getfield 10, 3) := by decide +kernel
theorem dX11_person_44 : decode cX11_person 44 = .ok (.aload_n 0, 1) := by decide +kernel
theorem dX11_person_45 : decode cX11_person 45 = .ok (.getfield 19, 3) := by decide +kernel
theorem dX11_person_48 : decode cX11_person 48 = .ok (.iload_n 1, 1) := by decide +kernel
theorem dX11_person_49 : decode cX11_person 49 = .ok (.invokevirtual 103, 3) := by decide +kernel
theorem dX11_person_52 : decode cX11_person 52 = .ok (.ireturn, 1) := by decide +kernel
theorem dX11_person_53 : decode cX11_person 53 = .ok (.aload_n 0, 1) := by decide +kernel
theorem dX11_person_54 : decode cX11_person 54 = .ok (.getfield 10, 3) := by decide +kernel
theorem dX11_person_57 : decode cX11_person 57 = .ok (.iload_n 1, 1) := by decide +kernel
theorem dX11_person_58 : decode cX11_person 58 = .ok (.invokevirtual 107, 3) := by decide +kernel
theorem dX11_person_61 : decode cX11_person 61 = .ok (.invokevirtual 111, 3) := by decide +kernel
theorem dX11_person_64 : decode cX11_person 64 = .ok (.ireturn, 1) := by decide +kernel
theorem dX11_person_65 : decode cX11_person 65 = .ok (.aload_n 0, 1) := by decide +kernel
theorem dX11_person_66 : decode cX11_person 66 = .ok (.getfield 10, 3) := by decide +kernel
theorem dX11_person_69 : decode cX11_person 69 = .ok (.iload_n 1, 1) := by decide +kernel
theorem dX11_person_70 : decode cX11_person 70 = .ok (.invokevirtual 107, 3) := by decide +kernel
theorem dX11_person_73 : decode cX11_person 73 = .ok (.aload_n 0, 1) := by decide +kernel
theorem dX11_person_74 : decode cX11_person 74 = .ok (.getfield 10, 3) := by decide +kernel
theorem dX11_person_77 : decode cX11_person 77 = .ok (.iload_n 1, 1) := by decide +kernel
theorem dX11_person_78 : decode cX11_person 78 = .ok (.invokevirtual 117, 3) := by decide +kernel
theorem dX11_person_81 : decode cX11_person 81 = .ok (.ireturn, 1) := by decide +kernel
theorem dX11_person_82 : decode cX11_person 82 = .ok (.aload_n 0, 1) := by decide +kernel
theorem dX11_person_83 : decode cX11_person 83 = .ok (.getfield 10, 3) := by decide +kernel
theorem dX11_person_86 : decode cX11_person 86 = .ok (.aload_n 0, 1) := by decide +kernel
theorem dX11_person_87 : decode cX11_person 87 = .ok (.getfield 19, 3) := by decide +kernel
theorem dX11_person_90 : decode cX11_person 90 = .ok (.iconst 1, 1) := by decide +kernel
theorem dX11_person_91 : decode cX11_person 91 = .ok (.iload_n 1, 1) := by decide +kernel
theorem dX11_person_92 : decode cX11_person 92 = .ok (.ishl, 1) := by decide +kernel
theorem dX11_person_93 : decode cX11_person 93 = .ok (.invokevirtual 121, 3) := by decide +kernel
theorem dX11_person_96 : decode cX11_person 96 = .ok (.ireturn, 1) := by decide +kernel
theorem dX11_person_97 : decode cX11_person 97 = .ok (.bipush (-3), 2) := by decide +kernel
theorem dX11_person_99 : decode cX11_person 99 = .ok (.ireturn, 1) := by decide +kernel
theorem dX11_as_0 : decode cX11_as 0 = .ok (.iload_n 1, 1) := by decide +kernel
theorem dX11_as_1 : decode cX11_as 1 = .ok (.invokestatic 100, 3) := by decide +kernel
theorem dX11_as_4 : decode cX11_as 4 = .ok (.ifCond .ne 6, 3) := by decide +kernel
theorem dX11_as_7 : decode cX11_as 7 = .ok (.bipush (-2), 2) := by decide +kernel
theorem dX11_as_9 : decode cX11_as 9 = .ok (.ireturn, 1) := by decide +kernel
theorem dX11_as_10 : decode cX11_as 10 = .ok (.iload_n 2, 1) := by decide +kernel
theorem dX11_as_11 : decode cX11_as 11 = .ok (.ifCond .lt 8, 3) := by decide +kernel
theorem dX11_as_14 : decode cX11_as 14 = .ok (.iload_n 2, 1) := by decide +kernel
theorem dX11_as_15 : decode cX11_as 15 = .ok (.iconst 5, 1) := by decide +kernel
theorem dX11_as_16 : decode cX11_as 16 = .ok (.if_icmp .le 6, 3) := by decide +kernel
theorem dX11_as_19 : decode cX11_as 19 = .ok (.bipush (-3), 2) := by decide +kernel
theorem dX11_as_21 : decode cX11_as 21 = .ok (.ireturn, 1) := by decide +kernel
theorem dX11_as_22 : decode cX11_as 22 = .ok (.aload_n 0, 1) := by decide +kernel
theorem dX11_as_23 : decode cX11_as 23 = .ok (.getfield 10, 3) := by decide +kernel
theorem dX11_as_26 : decode cX11_as 26 = .ok (.iload_n 1, 1) := by decide +kernel
theorem dX11_as_27 : decode cX11_as 27 = .ok (.invokevirtual 107, 3) := by decide +kernel
theorem dX11_as_30 : decode cX11_as 30 = .ok (.astore_n 3, 1) := by decide +kernel
theorem dX11_as_31 : decode cX11_as 31 = .ok (.aload_n 3, 1) := by decide +kernel
theorem dX11_as_32 : decode cX11_as 32 = .ok (.iload_n 2, 1) := by decide +kernel
theorem dX11_as_33 : decode cX11_as 33 = .ok (.invokestatic 124, 3) := by decide +kernel
theorem dX11_as_36 : decode cX11_as 36 = .ok (.ifCond .eq 19, 3) := by decide +kernel
theorem dX11_as_39 : decode cX11_as 39 = .ok (.aload_n 3, 1) := by decide +kernel
theorem dX11_as_40 : decode cX11_as 40 = .ok (.aload_n 0, 1) := by decide +kernel
theorem dX11_as_41 : decode cX11_as 41 = .ok (.getfield 10, 3) := by decide +kernel
theorem dX11_as_44 : decode cX11_as 44 = .ok (.aload_n 0, 1) := by decide +kernel
theorem dX11_as_45 : decode cX11_as 45 = .ok (.getfield 19, 3) := by decide +kernel
theorem dX11_as_48 : decode cX11_as 48 = .ok (.iload_n 1, 1) := by decide +kernel
theorem dX11_as_49 : decode cX11_as 49 = .ok (.invokevirtual 128, 3) := by decide +kernel
theorem dX11_as_52 : decode cX11_as 52 = .ok (.goto 5, 3) := by decide +kernel
theorem dX11_as_55 : decode cX11_as 55 = .ok (.bipush (-4), 2) := by decide +kernel
theorem dX11_as_57 : decode cX11_as 57 = .ok (.ireturn, 1) := by decide +kernel
theorem dX11_come_0 : decode cX11_come 0 = .ok (.iload_n 1, 1) := by decide +kernel
theorem dX11_come_1 : decode cX11_come 1 = .ok (.ifCond .ge 8, 3) := by decide +kernel
theorem dX11_come_4 : decode cX11_come 4 = .ok (.bipush (-3), 2) := by decide +kernel
theorem dX11_come_6 : decode cX11_come 6 = .ok (.goto 11, 3) := by decide +kernel
theorem dX11_come_9 : decode cX11_come 9 = .ok (.aload_n 0, 1) := by decide +kernel
theorem dX11_come_10 : decode cX11_come 10 = .ok (.getfield 10, 3) := by decide +kernel
theorem dX11_come_13 : decode cX11_come 13 = .ok (.iload_n 1, 1) := by decide +kernel
theorem dX11_come_14 : decode cX11_come 14 = .ok (.invokevirtual 132, 3) := by decide +kernel
theorem dX11_come_17 : decode cX11_come 17 = .ok (.ireturn, 1) := by decide +kernel
theorem dX11_gain_0 : decode cX11_gain 0 = .ok (.iload_n 1, 1) := by decide +kernel
theorem dX11_gain_1 : decode cX11_gain 1 = .ok (.invokestatic 100, 3) := by decide +kernel
theorem dX11_gain_4 : decode cX11_gain 4 = .ok (.ifCond .eq 14, 3) := by decide +kernel
theorem dX11_gain_7 : decode cX11_gain 7 = .ok (.aload_n 0, 1) := by decide +kernel
theorem dX11_gain_8 : decode cX11_gain 8 = .ok (.getfield 10, 3) := by decide +kernel
theorem dX11_gain_11 : decode cX11_gain 11 = .ok (.iload_n 2, 1) := by decide +kernel
theorem dX11_gain_12 : decode cX11_gain 12 = .ok (.invokevirtual 88, 3) := by decide +kernel
theorem dX11_gain_15 : decode cX11_gain 15 = .ok (.ifCond .ne 6, 3) := by decide +kernel
theorem dX11_gain_18 : decode cX11_gain 18 = .ok (.bipush (-2), 2) := by decide +kernel
theorem dX11_gain_20 : decode cX11_gain 20 = .ok (.ireturn, 1) := by decide +kernel
theorem dX11_gain_21 : decode cX11_gain 21 = .ok (.aload_n 0, 1) := by decide +kernel
theorem dX11_gain_22 : decode cX11_gain 22 = .ok (.getfield 19, 3) := by decide +kernel
theorem dX11_gain_25 : decode cX11_gain 25 = .ok (.iload_n 1, 1) := by decide +kernel
theorem dX11_gain_26 : decode cX11_gain 26 = .ok (.iload_n 2, 1) := by decide +kernel
theorem dX11_gain_27 : decode cX11_gain 27 = .ok (.invokevirtual 96, 3) := by decide +kernel
theorem dX11_gain_30 : decode cX11_gain 30 = .ok (.ifCond .ne 6, 3) := by decide +kernel
theorem dX11_gain_33 : decode cX11_gain 33 = .ok (.bipush (-4), 2) := by decide +kernel
theorem dX11_gain_35 : decode cX11_gain 35 = .ok (.ireturn, 1) := by decide +kernel
theorem dX11_gain_36 : decode cX11_gain 36 = .ok (.aload_n 0, 1) := by decide +kernel
theorem dX11_gain_37 : decode cX11_gain 37 = .ok (.getfield 10, 3) := by decide +kernel
theorem dX11_gain_40 : decode cX11_gain 40 = .ok (.aload_n 0, 1) := by decide +kernel
theorem dX11_gain_41 : decode cX11_gain 41 = .ok (.getfield 19, 3) := by decide +kernel
theorem dX11_gain_44 : decode cX11_gain 44 = .ok (.iload_n 2, 1) := by decide +kernel
theorem dX11_gain_45 : decode cX11_gain 45 = .ok (.invokevirtual 135, 3) := by decide +kernel
theorem dX11_gain_48 : decode cX11_gain 48 = .ok (.ldc 138, 2) := by decide +kernel
theorem dX11_gain_50 : decode cX11_gain 50 = .ok (.iadd, 1) := by decide +kernel
theorem dX11_gain_51 : decode cX11_gain 51 = .ok (.ireturn, 1) := by decide +kernel
theorem dX11_visit_0 : decode cX11_visit 0 = .ok (.iload_n 1, 1) := by decide +kernel
theorem dX11_visit_1 : decode cX11_visit 1 = .ok (.iconst (-1), 1) := by decide +kernel
theorem dX11_visit_2 : decode cX11_visit 2 = .ok (.if_icmp .eq 17, 3) := by decide +kernel
theorem dX11_visit_5 : decode cX11_visit 5 = .ok (.aload_n 0, 1) := by decide +kernel
theorem dX11_visit_6 : decode cX11_visit 6 = .ok (.getfield 10, 3) := by decide +kernel
theorem dX11_visit_9 : decode cX11_visit 9 = .ok (.iload_n 1, 1) := by decide +kernel
theorem dX11_visit_10 : decode cX11_visit 10 = .ok (.invokevirtual 88, 3) := by decide +kernel
theorem dX11_visit_13 : decode cX11_visit 13 = .ok (.ifCond .ne 6, 3) := by decide +kernel
theorem dX11_visit_16 : decode cX11_visit 16 = .ok (.bipush (-2), 2) := by decide +kernel
theorem dX11_visit_18 : decode cX11_visit 18 = .ok (.ireturn, 1) := by decide +kernel
theorem dX11_visit_19 : decode cX11_visit 19 = .ok (.aload_n 0, 1) := by decide +kernel
theorem dX11_visit_20 : decode cX11_visit 20 = .ok (.getfield 10, 3) := by decide +kernel
theorem dX11_visit_23 : decode cX11_visit 23 = .ok (.aload_n 0, 1) := by decide +kernel
theorem dX11_visit_24 : decode cX11_visit 24 = .ok (.getfield 19, 3) := by decide +kernel
theorem dX11_visit_27 : decode cX11_visit 27 = .ok (.getfield 139, 3) := by decide +kernel
theorem dX11_visit_30 : decode cX11_visit 30 = .ok (.invokevirtual 132, 3) := by decide +kernel
theorem dX11_visit_33 : decode cX11_visit 33 = .ok (.istore_n 2, 1) := by decide +kernel
theorem dX11_visit_34 : decode cX11_visit 34 = .ok (.iload_n 2, 1) := by decide +kernel
theorem dX11_visit_35 : decode cX11_visit 35 = .ok (.iconst (-1), 1) := by decide +kernel
theorem dX11_visit_36 : decode cX11_visit 36 = .ok (.if_icmp .eq 20, 3) := by decide +kernel
theorem dX11_visit_39 : decode cX11_visit 39 = .ok (.iload_n 1, 1) := by decide +kernel
theorem dX11_visit_40 : decode cX11_visit 40 = .ok (.iconst (-1), 1) := by decide +kernel
theorem dX11_visit_41 : decode cX11_visit 41 = .ok (.if_icmp .eq 18, 3) := by decide +kernel
theorem dX11_visit_44 : decode cX11_visit 44 = .ok (.aload_n 0, 1) := by decide +kernel
theorem dX11_visit_45 : decode cX11_visit 45 = .ok (.getfield 19, 3) := by decide +kernel
theorem dX11_visit_48 : decode cX11_visit 48 = .ok (.iload_n 2, 1) := by decide +kernel
theorem dX11_visit_49 : decode cX11_visit 49 = .ok (.iload_n 1, 1) := by decide +kernel
theorem dX11_visit_50 : decode cX11_visit 50 = .ok (.invokevirtual 96, 3) := by decide +kernel
theorem dX11_visit_53 : decode cX11_visit 53 = .ok (.ifCond .ne 6, 3) := by decide +kernel
theorem dX11_visit_56 : decode cX11_visit 56 = .ok (.bipush (-4), 2) := by decide +kernel
theorem dX11_visit_58 : decode cX11_visit 58 = .ok (.ireturn, 1) := by decide +kernel
theorem dX11_visit_59 : decode cX11_visit 59 = .ok (.iload_n 1, 1) := by decide +kernel
theorem dX11_visit_60 : decode cX11_visit 60 = .ok (.iconst (-1), 1) := by decide +kernel
theorem dX11_visit_61 : decode cX11_visit 61 = .ok (.if_icmp .ne 7, 3) := by decide +kernel
theorem dX11_visit_64 : decode cX11_visit 64 = .ok (.iconst 0, 1) := by decide +kernel
theorem dX11_visit_65 : decode cX11_visit 65 = .ok (.goto 15, 3) := by decide +kernel
theorem dX11_visit_68 : decode cX11_visit 68 = .ok (.aload_n 0, 1) := by decide +kernel
theorem dX11_visit_69 : decode cX11_visit 69 = .ok (.getfield 10, 3) := by decide +kernel
theorem dX11_visit_72 : decode cX11_visit 72 = .ok (.aload_n 0, 1) := by decide +kernel
theorem dX11_visit_73 : decode cX11_visit 73 = .ok (.getfield 19, 3) := by decide +kernel
theorem dX11_visit_76 : decode cX11_visit 76 = .ok (.iload_n 1, 1) := by decide +kernel
theorem dX11_visit_77 : decode cX11_visit 77 = .ok (.invokevirtual 135, 3) := by decide +kernel
theorem dX11_visit_80 : decode cX11_visit 80 = .ok (.istore_n 3, 1) := by decide +kernel
theorem dX11_visit_81 : decode cX11_visit 81 = .ok (.aload_n 0, 1) := by decide +kernel
theorem dX11_visit_82 : decode cX11_visit 82 = .ok (.getfield 10, 3) := by decide +kernel
theorem dX11_visit_85 : decode cX11_visit 85 = .ok (.aload_n 0, 1) := by decide +kernel
theorem dX11_visit_86 : decode cX11_visit 86 = .ok (.getfield 19, 3) := by decide +kernel
theorem dX11_visit_89 : decode cX11_visit 89 = .ok (.iload_n 1, 1) := by decide +kernel
theorem dX11_visit_90 : decode cX11_visit 90 = .ok (.invokevirtual 142, 3) := by decide +kernel
theorem dX11_visit_93 : decode cX11_visit 93 = .ok (.aload_n 0, 1) := by decide +kernel
theorem dX11_visit_94 : decode cX11_visit 94 = .ok (.getfield 39, 3) := by decide +kernel
theorem dX11_visit_97 : decode cX11_visit 97 = .ok (.invokevirtual 82, 3) := by decide +kernel
theorem dX11_visit_100 : decode cX11_visit 100 = .ok (.iload_n 3, 1) := by decide +kernel
theorem dX11_visit_101 : decode cX11_visit 101 = .ok (.ldc 138, 2) := by decide +kernel
theorem dX11_visit_103 : decode cX11_visit 103 = .ok (.iadd, 1) := by decide +kernel
theorem dX11_visit_104 : decode cX11_visit 104 = .ok (.ireturn, 1) := by decide +kernel
theorem dX11_go_0 : decode cX11_go 0 = .ok (.iload_n 1, 1) := by decide +kernel
theorem dX11_go_1 : decode cX11_go 1 = .ok (.iconst 1, 1) := by decide +kernel
theorem dX11_go_2 : decode cX11_go 2 = .ok (.if_icmp .lt 9, 3) := by decide +kernel
theorem dX11_go_5 : decode cX11_go 5 = .ok (.iload_n 1, 1) := by decide +kernel
theorem dX11_go_6 : decode cX11_go 6 = .ok (.bipush 24, 2) := by decide +kernel
theorem dX11_go_8 : decode cX11_go 8 = .ok (.if_icmp .le 6, 3) := by decide +kernel
theorem dX11_go_11 : decode cX11_go 11 = .ok (.bipush (-3), 2) := by decide +kernel
theorem dX11_go_13 : decode cX11_go 13 = .ok (.ireturn, 1) := by decide +kernel
theorem dX11_go_14 : decode cX11_go 14 = .ok (.iconst 0, 1) := by decide +kernel
theorem dX11_go_15 : decode cX11_go 15 = .ok (.istore_n 2, 1) := by decide +kernel
theorem dX11_go_16 : decode cX11_go 16 = .ok (.iload_n 2, 1) := by decide +kernel
theorem dX11_go_17 : decode cX11_go 17 = .ok (.iload_n 1, 1) := by decide +kernel
theorem dX11_go_18 : decode cX11_go 18 = .ok (.if_icmp .ge 48, 3) := by decide +kernel
theorem dX11_go_21 : decode cX11_go 21 = .ok (.aload_n 0, 1) := by decide +kernel
theorem dX11_go_22 : decode cX11_go 22 = .ok (.getfield 19, 3) := by decide +kernel
theorem dX11_go_25 : decode cX11_go 25 = .ok (.getfield 139, 3) := by decide +kernel
theorem dX11_go_28 : decode cX11_go 28 = .ok (.aload_n 0, 1) := by decide +kernel
theorem dX11_go_29 : decode cX11_go 29 = .ok (.getfield 10, 3) := by decide +kernel
theorem dX11_go_32 : decode cX11_go 32 = .ok (.getfield 146, 3) := by decide +kernel
theorem dX11_go_35 : decode cX11_go 35 = .ok (.if_icmp .ge 31, 3) := by decide +kernel
theorem dX11_go_38 : decode cX11_go 38 = .ok (.aload_n 0, 1) := by decide +kernel
theorem dX11_go_39 : decode cX11_go 39 = .ok (.getfield 10, 3) := by decide +kernel
theorem dX11_go_42 : decode cX11_go 42 = .ok (.aload_n 0, 1) := by decide +kernel
theorem dX11_go_43 : decode cX11_go 43 = .ok (.getfield 19, 3) := by decide +kernel
theorem dX11_go_46 : decode cX11_go 46 = .ok (.aload_n 0, 1) := by decide +kernel
theorem dX11_go_47 : decode cX11_go 47 = .ok (.getfield 10, 3) := by decide +kernel
theorem dX11_go_50 : decode cX11_go 50 = .ok (.aload_n 0, 1) := by decide +kernel
theorem dX11_go_51 : decode cX11_go 51 = .ok (.getfield 19, 3) := by decide +kernel
theorem dX11_go_54 : decode cX11_go 54 = .ok (.invokevirtual 149, 3) := by decide +kernel
theorem dX11_go_57 : decode cX11_go 57 = .ok (.invokevirtual 142, 3) := by decide +kernel
theorem dX11_go_60 : decode cX11_go 60 = .ok (.iinc 2 1, 3) := by decide +kernel
theorem dX11_go_63 : decode cX11_go 63 = .ok (.goto (-47), 3) := by decide +kernel
theorem dX11_go_66 : decode cX11_go 66 = .ok (.aload_n 0, 1) := by decide +kernel
theorem dX11_go_67 : decode cX11_go 67 = .ok (.getfield 39, 3) := by decide +kernel
theorem dX11_go_70 : decode cX11_go 70 = .ok (.invokevirtual 82, 3) := by decide +kernel
theorem dX11_go_73 : decode cX11_go 73 = .ok (.aload_n 0, 1) := by decide +kernel
theorem dX11_go_74 : decode cX11_go 74 = .ok (.getfield 19, 3) := by decide +kernel
theorem dX11_go_77 : decode cX11_go 77 = .ok (.getfield 139, 3) := by decide +kernel
theorem dX11_go_80 : decode cX11_go 80 = .ok (.ireturn, 1) := by decide +kernel
theorem dX11_plan_0 : decode cX11_plan 0 = .ok (.iload_n 1, 1) := by decide +kernel
theorem dX11_plan_1 : decode cX11_plan 1 = .ok (.invokestatic 100, 3) := by decide +kernel
theorem dX11_plan_4 : decode cX11_plan 4 = .ok (.ifCond .ne 6, 3) := by decide +kernel
theorem dX11_plan_7 : decode cX11_plan 7 = .ok (.bipush (-2), 2) := by decide +kernel
theorem dX11_plan_9 : decode cX11_plan 9 = .ok (.ireturn, 1) := by decide +kernel
theorem dX11_plan_10 : decode cX11_plan 10 = .ok (.iload_n 2, 1) := by decide +kernel
theorem dX11_plan_11 : decode cX11_plan 11 = .ok (.iconst (-1), 1) := by decide +kernel
theorem dX11_plan_12 : decode cX11_plan 12 = .ok (.if_icmp .ge 6, 3) := by decide +kernel
theorem dX11_plan_15 : decode cX11_plan 15 = .ok (.bipush (-3), 2) := by decide +kernel
theorem dX11_plan_17 : decode cX11_plan 17 = .ok (.ireturn, 1) := by decide +kernel
theorem dX11_plan_18 : decode cX11_plan 18 = .ok (.iconst 1, 1) := by decide +kernel
theorem dX11_plan_19 : decode cX11_plan 19 = .ok (.iload_n 1, 1) := by decide +kernel
theorem dX11_plan_20 : decode cX11_plan 20 = .ok (.ishl, 1) := by decide +kernel
theorem dX11_plan_21 : decode cX11_plan 21 = .ok (.istore_n 3, 1) := by decide +kernel
theorem dX11_plan_22 : decode cX11_plan 22 = .ok (.aload_n 0, 1) := by decide +kernel
theorem dX11_plan_23 : decode cX11_plan 23 = .ok (.getfield 10, 3) := by decide +kernel
theorem dX11_plan_26 : decode cX11_plan 26 = .ok (.aload_n 0, 1) := by decide +kernel
theorem dX11_plan_27 : decode cX11_plan 27 = .ok (.getfield 19, 3) := by decide +kernel
theorem dX11_plan_30 : decode cX11_plan 30 = .ok (.iload_n 3, 1) := by decide +kernel
theorem dX11_plan_31 : decode cX11_plan 31 = .ok (.invokevirtual 121, 3) := by decide +kernel
theorem dX11_plan_34 : decode cX11_plan 34 = .ok (.iconst 5, 1) := by decide +kernel
theorem dX11_plan_35 : decode cX11_plan 35 = .ok (.if_icmp .le 6, 3) := by decide +kernel
theorem dX11_plan_38 : decode cX11_plan 38 = .ok (.bipush (-4), 2) := by decide +kernel
theorem dX11_plan_40 : decode cX11_plan 40 = .ok (.ireturn, 1) := by decide +kernel
theorem dX11_plan_41 : decode cX11_plan 41 = .ok (.aload_n 0, 1) := by decide +kernel
theorem dX11_plan_42 : decode cX11_plan 42 = .ok (.getfield 39, 3) := by decide +kernel
theorem dX11_plan_45 : decode cX11_plan 45 = .ok (.aload_n 0, 1) := by decide +kernel
theorem dX11_plan_46 : decode cX11_plan 46 = .ok (.getfield 19, 3) := by decide +kernel
theorem dX11_plan_49 : decode cX11_plan 49 = .ok (.iload_n 1, 1) := by decide +kernel
theorem dX11_plan_50 : decode cX11_plan 50 = .ok (.iload_n 3, 1) := by decide +kernel
theorem dX11_plan_51 : decode cX11_plan 51 = .ok (.invokestatic 153, 3) := by decide +kernel
theorem dX11_plan_54 : decode cX11_plan 54 = .ok (.invokevirtual 156, 3) := by decide +kernel
theorem dX11_plan_57 : decode cX11_plan 57 = .ok (.iload_n 2, 1) := by decide +kernel
theorem dX11_plan_58 : decode cX11_plan 58 = .ok (.iconst (-1), 1) := by decide +kernel
theorem dX11_plan_59 : decode cX11_plan 59 = .ok (.if_icmp .ne 14, 3) := by decide +kernel
theorem dX11_plan_62 : decode cX11_plan 62 = .ok (.aload_n 0, 1) := by decide +kernel
theorem dX11_plan_63 : decode cX11_plan 63 = .ok (.getfield 39, 3) := by decide +kernel
theorem dX11_plan_66 : decode cX11_plan 66 = .ok (.iload_n 1, 1) := by decide +kernel
theorem dX11_plan_67 : decode cX11_plan 67 = .ok (.invokevirtual 159, 3) := by decide +kernel
theorem dX11_plan_70 : decode cX11_plan 70 = .ok (.goto 11, 3) := by decide +kernel
theorem dX11_plan_73 : decode cX11_plan 73 = .ok (.aload_n 0, 1) := by decide +kernel
theorem dX11_plan_74 : decode cX11_plan 74 = .ok (.getfield 39, 3) := by decide +kernel
theorem dX11_plan_77 : decode cX11_plan 77 = .ok (.iload_n 2, 1) := by decide +kernel
theorem dX11_plan_78 : decode cX11_plan 78 = .ok (.invokevirtual 162, 3) := by decide +kernel
theorem dX11_plan_81 : decode cX11_plan 81 = .ok (.ireturn, 1) := by decide +kernel
theorem dX11_game_0 : decode cX11_game 0 = .ok (.iload_n 1, 1) := by decide +kernel
theorem dX11_game_1 : decode cX11_game 1 = .ok (.invokestatic 100, 3) := by decide +kernel
theorem dX11_game_4 : decode cX11_game 4 = .ok (.ifCond .ne 6, 3) := by decide +kernel
theorem dX11_game_7 : decode cX11_game 7 = .ok (.bipush (-2), 2) := by decide +kernel
theorem dX11_game_9 : decode cX11_game 9 = .ok (.ireturn, 1) := by decide +kernel
theorem dX11_game_10 : decode cX11_game 10 = .ok (.aload_n 0, 1) := by decide +kernel
theorem dX11_game_11 : decode cX11_game 11 = .ok (.invokevirtual 165, 3) := by decide +kernel
theorem dX11_game_14 : decode cX11_game 14 = .ok (.ifCond .eq 6, 3) := by decide +kernel
theorem dX11_game_17 : decode cX11_game 17 = .ok (.bipush (-4), 2) := by decide +kernel
theorem dX11_game_19 : decode cX11_game 19 = .ok (.ireturn, 1) := by decide +kernel
theorem dX11_game_20 : decode cX11_game 20 = .ok (.aload_n 0, 1) := by decide +kernel
theorem dX11_game_21 : decode cX11_game 21 = .ok (.getfield 39, 3) := by decide +kernel
theorem dX11_game_24 : decode cX11_game 24 = .ok (.aload_n 0, 1) := by decide +kernel
theorem dX11_game_25 : decode cX11_game 25 = .ok (.getfield 19, 3) := by decide +kernel
theorem dX11_game_28 : decode cX11_game 28 = .ok (.ldc 169, 2) := by decide +kernel
theorem dX11_game_30 : decode cX11_game 30 = .ok (.invokevirtual 156, 3) := by decide +kernel
theorem dX11_game_33 : decode cX11_game 33 = .ok (.aload_n 0, 1) := by decide +kernel
theorem dX11_game_34 : decode cX11_game 34 = .ok (.getfield 39, 3) := by decide +kernel
theorem dX11_game_37 : decode cX11_game 37 = .ok (.iload_n 1, 1) := by decide +kernel
theorem dX11_game_38 : decode cX11_game 38 = .ok (.invokevirtual 159, 3) := by decide +kernel
theorem dX11_game_41 : decode cX11_game 41 = .ok (.ireturn, 1) := by decide +kernel
theorem dX11_choice_0 : decode cX11_choice 0 = .ok (.iload_n 1, 1) := by decide +kernel
theorem dX11_choice_1 : decode cX11_choice 1 = .ok (.ifCond .ge 6, 3) := by decide +kernel
theorem dX11_choice_4 : decode cX11_choice 4 = .ok (.bipush (-3), 2) := by decide +kernel
theorem dX11_choice_6 : decode cX11_choice 6 = .ok (.ireturn, 1) := by decide +kernel
theorem dX11_choice_7 : decode cX11_choice 7 = .ok (.aload_n 0, 1) := by decide +kernel
theorem dX11_choice_8 : decode cX11_choice 8 = .ok (.invokevirtual 165, 3) := by decide +kernel
theorem dX11_choice_11 : decode cX11_choice 11 = .ok (.ifCond .eq 6, 3) := by decide +kernel
theorem dX11_choice_14 : decode cX11_choice 14 = .ok (.bipush (-4), 2) := by decide +kernel
theorem dX11_choice_16 : decode cX11_choice 16 = .ok (.ireturn, 1) := by decide +kernel
theorem dX11_choice_17 : decode cX11_choice 17 = .ok (.aload_n 0, 1) := by decide +kernel
theorem dX11_choice_18 : decode cX11_choice 18 = .ok (.getfield 39, 3) := by decide +kernel
theorem dX11_choice_21 : decode cX11_choice 21 = .ok (.aload_n 0, 1) := by decide +kernel
theorem dX11_choice_22 : decode cX11_choice 22 = .ok (.getfield 19, 3) := by decide +kernel
theorem dX11_choice_25 : decode cX11_choice 25 = .ok (.ldc 169, 2) := by decide +kernel
theorem dX11_choice_27 : decode cX11_choice 27 = .ok (.invokevirtual 156, 3) := by decide +kernel
theorem dX11_choice_30 : decode cX11_choice 30 = .ok (.aload_n 0, 1) := by decide +kernel
theorem dX11_choice_31 : decode cX11_choice 31 = .ok (.getfield 39, 3) := by decide +kernel
theorem dX11_choice_34 : decode cX11_choice 34 = .ok (.iload_n 1, 1) := by decide +kernel
theorem dX11_choice_35 : decode cX11_choice 35 = .ok (.invokevirtual 162, 3) := by decide +kernel
theorem dX11_choice_38 : decode cX11_choice 38 = .ok (.ireturn, 1) := by decide +kernel
theorem dX11_league_0 : decode cX11_league 0 = .ok (.iload_n 1, 1) := by decide +kernel
theorem dX11_league_1 : decode cX11_league 1 = .ok (.invokestatic 100, 3) := by decide +kernel
theorem dX11_league_4 : decode cX11_league 4 = .ok (.ifCond .eq 10, 3) := by decide +kernel
theorem dX11_league_7 : decode cX11_league 7 = .ok (.iload_n 2, 1) := by decide +kernel
theorem dX11_league_8 : decode cX11_league 8 = .ok (.invokestatic 100, 3) := by decide +kernel
theorem dX11_league_11 : decode cX11_league 11 = .ok (.ifCond .ne 6, 3) := by decide +kernel
theorem dX11_league_14 : decode cX11_league 14 = .ok (.bipush (-2), 2) := by decide +kernel
theorem dX11_league_16 : decode cX11_league 16 = .ok (.ireturn, 1) := by decide +kernel
theorem dX11_league_17 : decode cX11_league 17 = .ok (.iload_n 1, 1) := by decide +kernel
theorem dX11_league_18 : decode cX11_league 18 = .ok (.iload_n 2, 1) := by decide +kernel
theorem dX11_league_19 : decode cX11_league 19 = .ok (.if_icmp .ne 6, 3) := by decide +kernel
theorem dX11_league_22 : decode cX11_league 22 = .ok (.bipush (-3), 2) := by decide +kernel
theorem dX11_league_24 : decode cX11_league 24 = .ok (.ireturn, 1) := by decide +kernel
theorem dX11_league_25 : decode cX11_league 25 = .ok (.iconst 1, 1) := by decide +kernel
theorem dX11_league_26 : decode cX11_league 26 = .ok (.iload_n 1, 1) := by decide +kernel
theorem dX11_league_27 : decode cX11_league 27 = .ok (.ishl, 1) := by decide +kernel
theorem dX11_league_28 : decode cX11_league 28 = .ok (.iconst 1, 1) := by decide +kernel
theorem dX11_league_29 : decode cX11_league 29 = .ok (.iload_n 2, 1) := by decide +kernel
theorem dX11_league_30 : decode cX11_league 30 = .ok (.ishl, 1) := by decide +kernel
theorem dX11_league_31 : decode cX11_league 31 = .ok (.ior, 1) := by decide +kernel
theorem dX11_league_32 : decode cX11_league 32 = .ok (.istore_n 3, 1) := by decide +kernel
theorem dX11_league_33 : decode cX11_league 33 = .ok (.aload_n 0, 1) := by decide +kernel
theorem dX11_league_34 : decode cX11_league 34 = .ok (.getfield 10, 3) := by decide +kernel
theorem dX11_league_37 : decode cX11_league 37 = .ok (.aload_n 0, 1) := by decide +kernel
theorem dX11_league_38 : decode cX11_league 38 = .ok (.getfield 19, 3) := by decide +kernel
theorem dX11_league_41 : decode cX11_league 41 = .ok (.iload_n 3, 1) := by decide +kernel
theorem dX11_league_42 : decode cX11_league 42 = .ok (.invokevirtual 121, 3) := by decide +kernel
theorem dX11_league_45 : decode cX11_league 45 = .ok (.iconst 5, 1) := by decide +kernel
theorem dX11_league_46 : decode cX11_league 46 = .ok (.if_icmp .le 6, 3) := by decide +kernel
theorem dX11_league_49 : decode cX11_league 49 = .ok (.bipush (-4), 2) := by decide +kernel
theorem dX11_league_51 : decode cX11_league 51 = .ok (.ireturn, 1) := by decide +kernel
theorem dX11_league_52 : decode cX11_league 52 = .ok (.aload_n 0, 1) := by decide +kernel
theorem dX11_league_53 : decode cX11_league 53 = .ok (.getfield 39, 3) := by decide +kernel
theorem dX11_league_56 : decode cX11_league 56 = .ok (.aload_n 0, 1) := by decide +kernel
theorem dX11_league_57 : decode cX11_league 57 = .ok (.getfield 19, 3) := by decide +kernel
theorem dX11_league_60 : decode cX11_league 60 = .ok (.iload_n 1, 1) := by decide +kernel
theorem dX11_league_61 : decode cX11_league 61 = .ok (.iload_n 3, 1) := by decide +kernel
theorem dX11_league_62 : decode cX11_league 62 = .ok (.invokestatic 153, 3) := by decide +kernel
theorem dX11_league_65 : decode cX11_league 65 = .ok (.iload_n 2, 1) := by decide +kernel
theorem dX11_league_66 : decode cX11_league 66 = .ok (.iload_n 3, 1) := by decide +kernel
theorem dX11_league_67 : decode cX11_league 67 = .ok (.invokestatic 153, 3) := by decide +kernel
theorem dX11_league_70 : decode cX11_league 70 = .ok (.ior, 1) := by decide +kernel
theorem dX11_league_71 : decode cX11_league 71 = .ok (.invokevirtual 156, 3) := by decide +kernel
theorem dX11_league_74 : decode cX11_league 74 = .ok (.aload_n 0, 1) := by decide +kernel
theorem dX11_league_75 : decode cX11_league 75 = .ok (.getfield 39, 3) := by decide +kernel
theorem dX11_league_78 : decode cX11_league 78 = .ok (.iload_n 1, 1) := by decide +kernel
theorem dX11_league_79 : decode cX11_league 79 = .ok (.invokevirtual 159, 3) := by decide +kernel
theorem dX11_league_82 : decode cX11_league 82 = .ok (.aload_n 0, 1) := by decide +kernel
theorem dX11_league_83 : decode cX11_league 83 = .ok (.getfield 39, 3) := by decide +kernel
theorem dX11_league_86 : decode cX11_league 86 = .ok (.iload_n 2, 1) := by decide +kernel
theorem dX11_league_87 : decode cX11_league 87 = .ok (.invokevirtual 159, 3) := by decide +kernel
theorem dX11_league_90 : decode cX11_league 90 = .ok (.iadd, 1) := by decide +kernel
theorem dX11_league_91 : decode cX11_league 91 = .ok (.ireturn, 1) := by decide +kernel
theorem dX11_mean_0 : decode cX11_mean 0 = .ok (.iload_n 1, 1) := by decide +kernel
theorem dX11_mean_1 : decode cX11_mean 1 = .ok (.invokestatic 100, 3) := by decide +kernel
theorem dX11_mean_4 : decode cX11_mean 4 = .ok (.ifCond .ne 7, 3) := by decide +kernel
theorem dX11_mean_7 : decode cX11_mean 7 = .ok (.ldc2_w 170, 3) := by decide +kernel
theorem dX11_mean_10 : decode cX11_mean 10 = .ok (.lreturn, 1) := by decide +kernel
theorem dX11_mean_11 : decode cX11_mean 11 = .ok (.iload_n 2, 1) := by decide +kernel
theorem dX11_mean_12 : decode cX11_mean 12 = .ok (.ifCond .lt 18, 3) := by decide +kernel
theorem dX11_mean_15 : decode cX11_mean 15 = .ok (.iload_n 2, 1) := by decide +kernel
theorem dX11_mean_16 : decode cX11_mean 16 = .ok (.bipush 10, 2) := by decide +kernel
theorem dX11_mean_18 : decode cX11_mean 18 = .ok (.if_icmp .gt 12, 3) := by decide +kernel
theorem dX11_mean_21 : decode cX11_mean 21 = .ok (.iload_n 3, 1) := by decide +kernel
theorem dX11_mean_22 : decode cX11_mean 22 = .ok (.ifCond .lt 8, 3) := by decide +kernel
theorem dX11_mean_25 : decode cX11_mean 25 = .ok (.iload_n 3, 1) := by decide +kernel
theorem dX11_mean_26 : decode cX11_mean 26 = .ok (.iconst 1, 1) := by decide +kernel
theorem dX11_mean_27 : decode cX11_mean 27 = .ok (.if_icmp .le 7, 3) := by decide +kernel
theorem dX11_mean_30 : decode cX11_mean 30 = .ok (.ldc2_w 172, 3) := by decide +kernel
theorem dX11_mean_33 : decode cX11_mean 33 = .ok (.lreturn, 1) := by decide +kernel
theorem dX11_mean_34 : decode cX11_mean 34 = .ok (.aload_n 0, 1) := by decide +kernel
theorem dX11_mean_35 : decode cX11_mean 35 = .ok (.getfield 10, 3) := by decide +kernel
theorem dX11_mean_38 : decode cX11_mean 38 = .ok (.getfield 146, 3) := by decide +kernel
theorem dX11_mean_41 : decode cX11_mean 41 = .ok (.aload_n 0, 1) := by decide +kernel
theorem dX11_mean_42 : decode cX11_mean 42 = .ok (.getfield 19, 3) := by decide +kernel
theorem dX11_mean_45 : decode cX11_mean 45 = .ok (.getfield 139, 3) := by decide +kernel
theorem dX11_mean_48 : decode cX11_mean 48 = .ok (.isub, 1) := by decide +kernel
theorem dX11_mean_49 : decode cX11_mean 49 = .ok (.bipush 10, 2) := by decide +kernel
theorem dX11_mean_51 : decode cX11_mean 51 = .ok (.if_icmp .le 7, 3) := by decide +kernel
theorem dX11_mean_54 : decode cX11_mean 54 = .ok (.ldc2_w 174, 3) := by decide +kernel
theorem dX11_mean_57 : decode cX11_mean 57 = .ok (.lreturn, 1) := by decide +kernel
theorem dX11_mean_58 : decode cX11_mean 58 = .ok (.aload_n 0, 1) := by decide +kernel
theorem dX11_mean_59 : decode cX11_mean 59 = .ok (.getfield 39, 3) := by decide +kernel
theorem dX11_mean_62 : decode cX11_mean 62 = .ok (.aload_n 0, 1) := by decide +kernel
theorem dX11_mean_63 : decode cX11_mean 63 = .ok (.getfield 19, 3) := by decide +kernel
theorem dX11_mean_66 : decode cX11_mean 66 = .ok (.iload_n 1, 1) := by decide +kernel
theorem dX11_mean_67 : decode cX11_mean 67 = .ok (.iload_n 2, 1) := by decide +kernel
theorem dX11_mean_68 : decode cX11_mean 68 = .ok (.iload_n 3, 1) := by decide +kernel
theorem dX11_mean_69 : decode cX11_mean 69 = .ok (.invokevirtual 176, 3) := by decide +kernel
theorem dX11_mean_72 : decode cX11_mean 72 = .ok (.lreturn, 1) := by decide +kernel
theorem dX11_dry_0 : decode cX11_dry 0 = .ok (.aload_n 0, 1) := by decide +kernel
theorem dX11_dry_1 : decode cX11_dry 1 = .ok (.getfield 39, 3) := by decide +kernel
theorem dX11_dry_4 : decode cX11_dry 4 = .ok (.aload_n 0, 1) := by decide +kernel
theorem dX11_dry_5 : decode cX11_dry 5 = .ok (.getfield 19, 3) := by decide +kernel
theorem dX11_dry_8 : decode cX11_dry 8 = .ok (.invokevirtual 180, 3) := by decide +kernel
theorem dX11_dry_11 : decode cX11_dry 11 = .ok (.ireturn, 1) := by decide +kernel
theorem dX11_bait_0 : decode cX11_bait 0 = .ok (.iload_n 1, 1) := by decide +kernel
theorem dX11_bait_1 : decode cX11_bait 1 = .ok (.invokestatic 100, 3) := by decide +kernel
theorem dX11_bait_4 : decode cX11_bait 4 = .ok (.ifCond .eq 18, 3) := by decide +kernel
theorem dX11_bait_7 : decode cX11_bait 7 = .ok (.aload_n 0, 1) := by decide +kernel
theorem dX11_bait_8 : decode cX11_bait 8 = .ok (.getfield 39, 3) := by decide +kernel
theorem dX11_bait_11 : decode cX11_bait 11 = .ok (.aload_n 0, 1) := by decide +kernel
theorem dX11_bait_12 : decode cX11_bait 12 = .ok (.getfield 19, 3) := by decide +kernel
theorem dX11_bait_15 : decode cX11_bait 15 = .ok (.iload_n 1, 1) := by decide +kernel
theorem dX11_bait_16 : decode cX11_bait 16 = .ok (.invokevirtual 183, 3) := by decide +kernel
theorem dX11_bait_19 : decode cX11_bait 19 = .ok (.goto 5, 3) := by decide +kernel
theorem dX11_bait_22 : decode cX11_bait 22 = .ok (.bipush (-2), 2) := by decide +kernel
theorem dX11_bait_24 : decode cX11_bait 24 = .ok (.ireturn, 1) := by decide +kernel
theorem dX11_note_0 : decode cX11_note 0 = .ok (.aload_n 0, 1) := by decide +kernel
theorem dX11_note_1 : decode cX11_note 1 = .ok (.getfield 10, 3) := by decide +kernel
theorem dX11_note_4 : decode cX11_note 4 = .ok (.iload_n 1, 1) := by decide +kernel
theorem dX11_note_5 : decode cX11_note 5 = .ok (.invokevirtual 88, 3) := by decide +kernel
theorem dX11_note_8 : decode cX11_note 8 = .ok (.ifCond .ne 6, 3) := by decide +kernel
theorem dX11_note_11 : decode cX11_note 11 = .ok (.bipush (-2), 2) := by decide +kernel
theorem dX11_note_13 : decode cX11_note 13 = .ok (.ireturn, 1) := by decide +kernel
theorem dX11_note_14 : decode cX11_note 14 = .ok (.iload_n 2, 1) := by decide +kernel
theorem dX11_note_15 : decode cX11_note 15 = .ok (.ifCond .lt 10, 3) := by decide +kernel
theorem dX11_note_18 : decode cX11_note 18 = .ok (.iload_n 2, 1) := by decide +kernel
theorem dX11_note_19 : decode cX11_note 19 = .ok (.sipush 9999, 3) := by decide +kernel
theorem dX11_note_22 : decode cX11_note 22 = .ok (.if_icmp .le 6, 3) := by decide +kernel
theorem dX11_note_25 : decode cX11_note 25 = .ok (.bipush (-3), 2) := by decide +kernel
theorem dX11_note_27 : decode cX11_note 27 = .ok (.ireturn, 1) := by decide +kernel
theorem dX11_note_28 : decode cX11_note 28 = .ok (.aload_n 0, 1) := by decide +kernel
theorem dX11_note_29 : decode cX11_note 29 = .ok (.getfield 46, 3) := by decide +kernel
theorem dX11_note_32 : decode cX11_note 32 = .ok (.iload_n 1, 1) := by decide +kernel
theorem dX11_note_33 : decode cX11_note 33 = .ok (.iload_n 2, 1) := by decide +kernel
theorem dX11_note_34 : decode cX11_note 34 = .ok (.invokevirtual 186, 3) := by decide +kernel
theorem dX11_note_37 : decode cX11_note 37 = .ok (.ifCond .eq 13, 3) := by decide +kernel
theorem dX11_note_40 : decode cX11_note 40 = .ok (.aload_n 0, 1) := by decide +kernel
theorem dX11_note_41 : decode cX11_note 41 = .ok (.getfield 46, 3) := by decide +kernel
theorem dX11_note_44 : decode cX11_note 44 = .ok (.getfield 76, 3) := by decide +kernel
theorem dX11_note_47 : decode cX11_note 47 = .ok (.goto 5, 3) := by decide +kernel
theorem dX11_note_50 : decode cX11_note 50 = .ok (.bipush (-5), 2) := by decide +kernel
theorem dX11_note_52 : decode cX11_note 52 = .ok (.ireturn, 1) := by decide +kernel
theorem dX11_forget_0 : decode cX11_forget 0 = .ok (.aload_n 0, 1) := by decide +kernel
theorem dX11_forget_1 : decode cX11_forget 1 = .ok (.getfield 46, 3) := by decide +kernel
theorem dX11_forget_4 : decode cX11_forget 4 = .ok (.getfield 76, 3) := by decide +kernel
theorem dX11_forget_7 : decode cX11_forget 7 = .ok (.istore_n 1, 1) := by decide +kernel
theorem dX11_forget_8 : decode cX11_forget 8 = .ok (.aload_n 0, 1) := by decide +kernel
theorem dX11_forget_9 : decode cX11_forget 9 = .ok (.getfield 46, 3) := by decide +kernel
theorem dX11_forget_12 : decode cX11_forget 12 = .ok (.iconst 0, 1) := by decide +kernel
theorem dX11_forget_13 : decode cX11_forget 13 = .ok (.putfield 76, 3) := by decide +kernel
theorem dX11_forget_16 : decode cX11_forget 16 = .ok (.iload_n 1, 1) := by decide +kernel
theorem dX11_forget_17 : decode cX11_forget 17 = .ok (.ireturn, 1) := by decide +kernel
theorem dX11_lay_0 : decode cX11_lay 0 = .ok (.iload_n 1, 1) := by decide +kernel
theorem dX11_lay_1 : decode cX11_lay 1 = .ok (.bipush 10, 2) := by decide +kernel
theorem dX11_lay_3 : decode cX11_lay 3 = .ok (.if_icmp .lt 16, 3) := by decide +kernel
theorem dX11_lay_6 : decode cX11_lay 6 = .ok (.iload_n 1, 1) := by decide +kernel
theorem dX11_lay_7 : decode cX11_lay 7 = .ok (.bipush 20, 2) := by decide +kernel
theorem dX11_lay_9 : decode cX11_lay 9 = .ok (.if_icmp .ge 10, 3) := by decide +kernel
theorem dX11_lay_12 : decode cX11_lay 12 = .ok (.iload_n 1, 1) := by decide +kernel
theorem dX11_lay_13 : decode cX11_lay 13 = .ok (.bipush 10, 2) := by decide +kernel
theorem dX11_lay_15 : decode cX11_lay 15 = .ok (.isub, 1) := by decide +kernel
theorem dX11_lay_16 : decode cX11_lay 16 = .ok (.goto 4, 3) := by decide +kernel
theorem dX11_lay_19 : decode cX11_lay 19 = .ok (.iconst (-1), 1) := by decide +kernel
theorem dX11_lay_20 : decode cX11_lay 20 = .ok (.istore_n 2, 1) := by decide +kernel
theorem dX11_lay_21 : decode cX11_lay 21 = .ok (.iload_n 1, 1) := by decide +kernel
theorem dX11_lay_22 : decode cX11_lay 22 = .ok (.bipush 20, 2) := by decide +kernel
theorem dX11_lay_24 : decode cX11_lay 24 = .ok (.if_icmp .lt 16, 3) := by decide +kernel
theorem dX11_lay_27 : decode cX11_lay 27 = .ok (.iload_n 1, 1) := by decide +kernel
theorem dX11_lay_28 : decode cX11_lay 28 = .ok (.bipush 30, 2) := by decide +kernel
theorem dX11_lay_30 : decode cX11_lay 30 = .ok (.if_icmp .ge 10, 3) := by decide +kernel
theorem dX11_lay_33 : decode cX11_lay 33 = .ok (.iload_n 1, 1) := by decide +kernel
theorem dX11_lay_34 : decode cX11_lay 34 = .ok (.bipush 20, 2) := by decide +kernel
theorem dX11_lay_36 : decode cX11_lay 36 = .ok (.isub, 1) := by decide +kernel
theorem dX11_lay_37 : decode cX11_lay 37 = .ok (.goto 4, 3) := by decide +kernel
theorem dX11_lay_40 : decode cX11_lay 40 = .ok (.iconst (-1), 1) := by decide +kernel
theorem dX11_lay_41 : decode cX11_lay 41 = .ok (.istore_n 3, 1) := by decide +kernel
theorem dX11_lay_42 : decode cX11_lay 42 = .ok (.iload_n 1, 1) := by decide +kernel
theorem dX11_lay_43 : decode cX11_lay 43 = .ok (.ifCond .eq 33, 3) := by decide +kernel
theorem dX11_lay_46 : decode cX11_lay 46 = .ok (.iload_n 1, 1) := by decide +kernel
theorem dX11_lay_47 : decode cX11_lay 47 = .ok (.iconst 1, 1) := by decide +kernel
theorem dX11_lay_48 : decode cX11_lay 48 = .ok (.if_icmp .eq 28, 3) := by decide +kernel
theorem dX11_lay_51 : decode cX11_lay 51 = .ok (.aload_n 0, 1) := by decide +kernel
theorem dX11_lay_52 : decode cX11_lay 52 = .ok (.getfield 10, 3) := by decide +kernel
theorem dX11_lay_55 : decode cX11_lay 55 = .ok (.iload_n 2, 1) := by decide +kernel
theorem dX11_lay_56 : decode cX11_lay 56 = .ok (.invokevirtual 88, 3) := by decide +kernel
theorem dX11_lay_59 : decode cX11_lay 59 = .ok (.ifCond .ne 17, 3) := by decide +kernel
theorem dX11_lay_62 : decode cX11_lay 62 = .ok (.aload_n 0, 1) := by decide +kernel
theorem dX11_lay_63 : decode cX11_lay 63 = .ok (.getfield 10, 3) := by decide +kernel
theorem dX11_lay_66 : decode cX11_lay 66 = .ok (.iload_n 3, 1) := by decide +kernel
theorem dX11_lay_67 : decode cX11_lay 67 = .ok (.invokevirtual 88, 3) := by decide +kernel
theorem dX11_lay_70 : decode cX11_lay 70 = .ok (.ifCond .ne 6, 3) := by decide +kernel
theorem dX11_lay_73 : decode cX11_lay 73 = .ok (.bipush (-3), 2) := by decide +kernel
theorem dX11_lay_75 : decode cX11_lay 75 = .ok (.ireturn, 1) := by decide +kernel
theorem dX11_lay_76 : decode cX11_lay 76 = .ok (.aload_n 0, 1) := by decide +kernel
theorem dX11_lay_77 : decode cX11_lay 77 = .ok (.getfield 10, 3) := by decide +kernel
theorem dX11_lay_80 : decode cX11_lay 80 = .ok (.getfield 190, 3) := by decide +kernel
theorem dX11_lay_83 : decode cX11_lay 83 = .ok (.iconst 4, 1) := by decide +kernel
theorem dX11_lay_84 : decode cX11_lay 84 = .ok (.if_icmp .le 6, 3) := by decide +kernel
theorem dX11_lay_87 : decode cX11_lay 87 = .ok (.bipush (-4), 2) := by decide +kernel
theorem dX11_lay_89 : decode cX11_lay 89 = .ok (.ireturn, 1) := by decide +kernel
theorem dX11_lay_90 : decode cX11_lay 90 = .ok (.aload_n 0, 1) := by decide +kernel
theorem dX11_lay_91 : decode cX11_lay 91 = .ok (.getfield 46, 3) := by decide +kernel
theorem dX11_lay_94 : decode cX11_lay 94 = .ok (.invokevirtual 193, 3) := by decide +kernel
theorem dX11_lay_97 : decode cX11_lay 97 = .ok (.iload_n 1, 1) := by decide +kernel
theorem dX11_lay_98 : decode cX11_lay 98 = .ok (.ifCond .ne 11, 3) := by decide +kernel
theorem dX11_lay_101 : decode cX11_lay 101 = .ok (.aload_n 0, 1) := by decide +kernel
theorem dX11_lay_102 : decode cX11_lay 102 = .ok (.getfield 46, 3) := by decide +kernel
theorem dX11_lay_105 : decode cX11_lay 105 = .ok (.getfield 196, 3) := by decide +kernel
theorem dX11_lay_108 : decode cX11_lay 108 = .ok (.ireturn, 1) := by decide +kernel
theorem dX11_lay_109 : decode cX11_lay 109 = .ok (.iload_n 1, 1) := by decide +kernel
theorem dX11_lay_110 : decode cX11_lay 110 = .ok (.iconst 1, 1) := by decide +kernel
theorem dX11_lay_111 : decode cX11_lay 111 = .ok (.if_icmp .ne 11, 3) := by decide +kernel
theorem dX11_lay_114 : decode cX11_lay 114 = .ok (.aload_n 0, 1) := by decide +kernel
theorem dX11_lay_115 : decode cX11_lay 115 = .ok (.getfield 46, 3) := by decide +kernel
theorem dX11_lay_118 : decode cX11_lay 118 = .ok (.getfield 199, 3) := by decide +kernel
theorem dX11_lay_121 : decode cX11_lay 121 = .ok (.ireturn, 1) := by decide +kernel
theorem dX11_lay_122 : decode cX11_lay 122 = .ok (.iload_n 2, 1) := by decide +kernel
theorem dX11_lay_123 : decode cX11_lay 123 = .ok (.iconst (-1), 1) := by decide +kernel
theorem dX11_lay_124 : decode cX11_lay 124 = .ok (.if_icmp .eq 14, 3) := by decide +kernel
theorem dX11_lay_127 : decode cX11_lay 127 = .ok (.aload_n 0, 1) := by decide +kernel
theorem dX11_lay_128 : decode cX11_lay 128 = .ok (.getfield 46, 3) := by decide +kernel
theorem dX11_lay_131 : decode cX11_lay 131 = .ok (.iload_n 2, 1) := by decide +kernel
theorem dX11_lay_132 : decode cX11_lay 132 = .ok (.invokevirtual 202, 3) := by decide +kernel
theorem dX11_lay_135 : decode cX11_lay 135 = .ok (.goto 11, 3) := by decide +kernel
theorem dX11_lay_138 : decode cX11_lay 138 = .ok (.aload_n 0, 1) := by decide +kernel
theorem dX11_lay_139 : decode cX11_lay 139 = .ok (.getfield 46, 3) := by decide +kernel
theorem dX11_lay_142 : decode cX11_lay 142 = .ok (.iload_n 3, 1) := by decide +kernel
theorem dX11_lay_143 : decode cX11_lay 143 = .ok (.invokevirtual 205, 3) := by decide +kernel
theorem dX11_lay_146 : decode cX11_lay 146 = .ok (.ireturn, 1) := by decide +kernel
theorem dX11_keep_0 : decode cX11_keep 0 = .ok (.iload_n 1, 1) := by decide +kernel
theorem dX11_keep_1 : decode cX11_keep 1 = .ok (.ifCond .lt 8, 3) := by decide +kernel
theorem dX11_keep_4 : decode cX11_keep 4 = .ok (.iload_n 1, 1) := by decide +kernel
theorem dX11_keep_5 : decode cX11_keep 5 = .ok (.iconst 2, 1) := by decide +kernel
theorem dX11_keep_6 : decode cX11_keep 6 = .ok (.if_icmp .lt 6, 3) := by decide +kernel
theorem dX11_keep_9 : decode cX11_keep 9 = .ok (.bipush (-2), 2) := by decide +kernel
theorem dX11_keep_11 : decode cX11_keep 11 = .ok (.ireturn, 1) := by decide +kernel
theorem dX11_keep_12 : decode cX11_keep 12 = .ok (.aload_n 0, 1) := by decide +kernel
theorem dX11_keep_13 : decode cX11_keep 13 = .ok (.getfield 23, 3) := by decide +kernel
theorem dX11_keep_16 : decode cX11_keep 16 = .ok (.iload_n 1, 1) := by decide +kernel
theorem dX11_keep_17 : decode cX11_keep 17 = .ok (.aaload, 1) := by decide +kernel
theorem dX11_keep_18 : decode cX11_keep 18 = .ok (.aload_n 0, 1) := by decide +kernel
theorem dX11_keep_19 : decode cX11_keep 19 = .ok (.getfield 19, 3) := by decide +kernel
theorem dX11_keep_22 : decode cX11_keep 22 = .ok (.invokevirtual 73, 3) := by decide +kernel
theorem dX11_keep_25 : decode cX11_keep 25 = .ok (.aload_n 0, 1) := by decide +kernel
theorem dX11_keep_26 : decode cX11_keep 26 = .ok (.dup, 1) := by decide +kernel
theorem dX11_keep_27 : decode cX11_keep 27 = .ok (.getfield 79, 3) := by decide +kernel
theorem dX11_keep_30 : decode cX11_keep 30 = .ok (.iconst 1, 1) := by decide +kernel
theorem dX11_keep_31 : decode cX11_keep 31 = .ok (.iload_n 1, 1) := by decide +kernel
theorem dX11_keep_32 : decode cX11_keep 32 = .ok (.ishl, 1) := by decide +kernel
theorem dX11_keep_33 : decode cX11_keep 33 = .ok (.ior, 1) := by decide +kernel
theorem dX11_keep_34 : decode cX11_keep 34 = .ok (.putfield 79, 3) := by decide +kernel
theorem dX11_keep_37 : decode cX11_keep 37 = .ok (.aload_n 0, 1) := by decide +kernel
theorem dX11_keep_38 : decode cX11_keep 38 = .ok (.getfield 19, 3) := by decide +kernel
theorem dX11_keep_41 : decode cX11_keep 41 = .ok (.getfield 139, 3) := by decide +kernel
theorem dX11_keep_44 : decode cX11_keep 44 = .ok (.ireturn, 1) := by decide +kernel
theorem dX11_back_0 : decode cX11_back 0 = .ok (.iload_n 1, 1) := by decide +kernel
theorem dX11_back_1 : decode cX11_back 1 = .ok (.ifCond .lt 8, 3) := by decide +kernel
theorem dX11_back_4 : decode cX11_back 4 = .ok (.iload_n 1, 1) := by decide +kernel
theorem dX11_back_5 : decode cX11_back 5 = .ok (.iconst 2, 1) := by decide +kernel
theorem dX11_back_6 : decode cX11_back 6 = .ok (.if_icmp .lt 6, 3) := by decide +kernel
theorem dX11_back_9 : decode cX11_back 9 = .ok (.bipush (-2), 2) := by decide +kernel
theorem dX11_back_11 : decode cX11_back 11 = .ok (.ireturn, 1) := by decide +kernel
theorem dX11_back_12 : decode cX11_back 12 = .ok (.aload_n 0, 1) := by decide +kernel
theorem dX11_back_13 : decode cX11_back 13 = .ok (.getfield 79, 3) := by decide +kernel
theorem dX11_back_16 : decode cX11_back 16 = .ok (.iload_n 1, 1) := by decide +kernel
theorem dX11_back_17 : decode cX11_back 17 = .ok (.ishr, 1) := by decide +kernel
theorem dX11_back_18 : decode cX11_back 18 = .ok (.iconst 1, 1) := by decide +kernel
theorem dX11_back_19 : decode cX11_back 19 = .ok (.iand, 1) := by decide +kernel
theorem dX11_back_20 : decode cX11_back 20 = .ok (.ifCond .ne 6, 3) := by decide +kernel
theorem dX11_back_23 : decode cX11_back 23 = .ok (.bipush (-4), 2) := by decide +kernel
theorem dX11_back_25 : decode cX11_back 25 = .ok (.ireturn, 1) := by decide +kernel
theorem dX11_back_26 : decode cX11_back 26 = .ok (.aload_n 0, 1) := by decide +kernel
theorem dX11_back_27 : decode cX11_back 27 = .ok (.getfield 19, 3) := by decide +kernel
theorem dX11_back_30 : decode cX11_back 30 = .ok (.aload_n 0, 1) := by decide +kernel
theorem dX11_back_31 : decode cX11_back 31 = .ok (.getfield 23, 3) := by decide +kernel
theorem dX11_back_34 : decode cX11_back 34 = .ok (.iload_n 1, 1) := by decide +kernel
theorem dX11_back_35 : decode cX11_back 35 = .ok (.aaload, 1) := by decide +kernel
theorem dX11_back_36 : decode cX11_back 36 = .ok (.invokevirtual 73, 3) := by decide +kernel
theorem dX11_back_39 : decode cX11_back 39 = .ok (.aload_n 0, 1) := by decide +kernel
theorem dX11_back_40 : decode cX11_back 40 = .ok (.getfield 39, 3) := by decide +kernel
theorem dX11_back_43 : decode cX11_back 43 = .ok (.invokevirtual 82, 3) := by decide +kernel
theorem dX11_back_46 : decode cX11_back 46 = .ok (.aload_n 0, 1) := by decide +kernel
theorem dX11_back_47 : decode cX11_back 47 = .ok (.getfield 19, 3) := by decide +kernel
theorem dX11_back_50 : decode cX11_back 50 = .ok (.getfield 139, 3) := by decide +kernel
theorem dX11_back_53 : decode cX11_back 53 = .ok (.ireturn, 1) := by decide +kernel
theorem dX11_count_0 : decode cX11_count 0 = .ok (.iload_n 1, 1) := by decide +kernel
theorem dX11_count_1 : decode cX11_count 1 = .ok (.tableswitch 113 0 7 #[47, 55, 68, 76, 84, 92, 100, 108], 47) := by decide +kernel
theorem dX11_count_48 : decode cX11_count 48 = .ok (.aload_n 0, 1) := by decide +kernel
theorem dX11_count_49 : decode cX11_count 49 = .ok (.getfield 10, 3) := by decide +kernel
theorem dX11_count_52 : decode cX11_count 52 = .ok (.getfield 190, 3) := by decide +kernel
theorem dX11_count_55 : decode cX11_count 55 = .ok (.ireturn, 1) := by decide +kernel
theorem dX11_count_56 : decode cX11_count 56 = .ok (.aload_n 0, 1) := by decide +kernel
theorem dX11_count_57 : decode cX11_count 57 = .ok (.getfield 10, 3) := by decide +kernel
theorem dX11_count_60 : decode cX11_count 60 = .ok (.aload_n 0, 1) := by decide +kernel
theorem dX11_count_61 : decode cX11_count 61 = .ok (.getfield 19, 3) := by decide +kernel
theorem dX11_count_64 : decode cX11_count 64 = .ok (.iconst 4, 1) := by decide +kernel
theorem dX11_count_65 : decode cX11_count 65 = .ok (.invokevirtual 103, 3) := by decide +kernel
theorem dX11_count_68 : decode cX11_count 68 = .ok (.ireturn, 1) := by decide +kernel
theorem dX11_count_69 : decode cX11_count 69 = .ok (.aload_n 0, 1) := by decide +kernel
theorem dX11_count_70 : decode cX11_count 70 = .ok (.getfield 10, 3) := by decide +kernel
theorem dX11_count_73 : decode cX11_count 73 = .ok (.getfield 208, 3) := by decide +kernel
theorem dX11_count_76 : decode cX11_count 76 = .ok (.ireturn, 1) := by decide +kernel
theorem dX11_count_77 : decode cX11_count 77 = .ok (.aload_n 0, 1) := by decide +kernel
theorem dX11_count_78 : decode cX11_count 78 = .ok (.getfield 10, 3) := by decide +kernel
theorem dX11_count_81 : decode cX11_count 81 = .ok (.getfield 146, 3) := by decide +kernel
theorem dX11_count_84 : decode cX11_count 84 = .ok (.ireturn, 1) := by decide +kernel
theorem dX11_count_85 : decode cX11_count 85 = .ok (.aload_n 0, 1) := by decide +kernel
theorem dX11_count_86 : decode cX11_count 86 = .ok (.getfield 19, 3) := by decide +kernel
theorem dX11_count_89 : decode cX11_count 89 = .ok (.getfield 139, 3) := by decide +kernel
theorem dX11_count_92 : decode cX11_count 92 = .ok (.ireturn, 1) := by decide +kernel
theorem dX11_count_93 : decode cX11_count 93 = .ok (.aload_n 0, 1) := by decide +kernel
theorem dX11_count_94 : decode cX11_count 94 = .ok (.getfield 46, 3) := by decide +kernel
theorem dX11_count_97 : decode cX11_count 97 = .ok (.getfield 76, 3) := by decide +kernel
theorem dX11_count_100 : decode cX11_count 100 = .ok (.ireturn, 1) := by decide +kernel
theorem dX11_count_101 : decode cX11_count 101 = .ok (.aload_n 0, 1) := by decide +kernel
theorem dX11_count_102 : decode cX11_count 102 = .ok (.getfield 30, 3) := by decide +kernel
theorem dX11_count_105 : decode cX11_count 105 = .ok (.getfield 50, 3) := by decide +kernel
theorem dX11_count_108 : decode cX11_count 108 = .ok (.ireturn, 1) := by decide +kernel
theorem dX11_count_109 : decode cX11_count 109 = .ok (.aload_n 0, 1) := by decide +kernel
theorem dX11_count_110 : decode cX11_count 110 = .ok (.invokevirtual 211, 3) := by decide +kernel
theorem dX11_count_113 : decode cX11_count 113 = .ok (.ireturn, 1) := by decide +kernel
theorem dX11_count_114 : decode cX11_count 114 = .ok (.bipush (-3), 2) := by decide +kernel
theorem dX11_count_116 : decode cX11_count 116 = .ok (.ireturn, 1) := by decide +kernel
theorem dX11_wealthOfAll_0 : decode cX11_wealthOfAll 0 = .ok (.iconst 0, 1) := by decide +kernel
theorem dX11_wealthOfAll_1 : decode cX11_wealthOfAll 1 = .ok (.istore_n 1, 1) := by decide +kernel
theorem dX11_wealthOfAll_2 : decode cX11_wealthOfAll 2 = .ok (.iconst 0, 1) := by decide +kernel
theorem dX11_wealthOfAll_3 : decode cX11_wealthOfAll 3 = .ok (.istore_n 2, 1) := by decide +kernel
theorem dX11_wealthOfAll_4 : decode cX11_wealthOfAll 4 = .ok (.iload_n 2, 1) := by decide +kernel
theorem dX11_wealthOfAll_5 : decode cX11_wealthOfAll 5 = .ok (.iconst 5, 1) := by decide +kernel
theorem dX11_wealthOfAll_6 : decode cX11_wealthOfAll 6 = .ok (.if_icmp .ge 24, 3) := by decide +kernel
theorem dX11_wealthOfAll_9 : decode cX11_wealthOfAll 9 = .ok (.iload_n 1, 1) := by decide +kernel
theorem dX11_wealthOfAll_10 : decode cX11_wealthOfAll 10 = .ok (.aload_n 0, 1) := by decide +kernel
theorem dX11_wealthOfAll_11 : decode cX11_wealthOfAll 11 = .ok (.getfield 10, 3) := by decide +kernel
theorem dX11_wealthOfAll_14 : decode cX11_wealthOfAll 14 = .ok (.aload_n 0, 1) := by decide +kernel
theorem dX11_wealthOfAll_15 : decode cX11_wealthOfAll 15 = .ok (.getfield 19, 3) := by decide +kernel
theorem dX11_wealthOfAll_18 : decode cX11_wealthOfAll 18 = .ok (.iload_n 2, 1) := by decide +kernel
theorem dX11_wealthOfAll_19 : decode cX11_wealthOfAll 19 = .ok (.invokevirtual 103, 3) := by decide +kernel
theorem dX11_wealthOfAll_22 : decode cX11_wealthOfAll 22 = .ok (.iadd, 1) := by decide +kernel
theorem dX11_wealthOfAll_23 : decode cX11_wealthOfAll 23 = .ok (.istore_n 1, 1) := by decide +kernel
theorem dX11_wealthOfAll_24 : decode cX11_wealthOfAll 24 = .ok (.iinc 2 1, 3) := by decide +kernel
theorem dX11_wealthOfAll_27 : decode cX11_wealthOfAll 27 = .ok (.goto (-23), 3) := by decide +kernel
theorem dX11_wealthOfAll_30 : decode cX11_wealthOfAll 30 = .ok (.iload_n 1, 1) := by decide +kernel
theorem dX11_wealthOfAll_31 : decode cX11_wealthOfAll 31 = .ok (.ireturn, 1) := by decide +kernel
theorem dX11_tooLongForGame_0 : decode cX11_tooLongForGame 0 = .ok (.aload_n 0, 1) := by decide +kernel
theorem dX11_tooLongForGame_1 : decode cX11_tooLongForGame 1 = .ok (.getfield 10, 3) := by decide +kernel
theorem dX11_tooLongForGame_4 : decode cX11_tooLongForGame 4 = .ok (.getfield 146, 3) := by decide +kernel
theorem dX11_tooLongForGame_7 : decode cX11_tooLongForGame 7 = .ok (.aload_n 0, 1) := by decide +kernel
theorem dX11_tooLongForGame_8 : decode cX11_tooLongForGame 8 = .ok (.getfield 19, 3) := by decide +kernel
theorem dX11_tooLongForGame_11 : decode cX11_tooLongForGame 11 = .ok (.getfield 139, 3) := by decide +kernel
theorem dX11_tooLongForGame_14 : decode cX11_tooLongForGame 14 = .ok (.isub, 1) := by decide +kernel
theorem dX11_tooLongForGame_15 : decode cX11_tooLongForGame 15 = .ok (.bipush 6, 2) := by decide +kernel
theorem dX11_tooLongForGame_17 : decode cX11_tooLongForGame 17 = .ok (.if_icmp .le 7, 3) := by decide +kernel
theorem dX11_tooLongForGame_20 : decode cX11_tooLongForGame 20 = .ok (.iconst 1, 1) := by decide +kernel
theorem dX11_tooLongForGame_21 : decode cX11_tooLongForGame 21 = .ok (.goto 4, 3) := by decide +kernel
theorem dX11_tooLongForGame_24 : decode cX11_tooLongForGame 24 = .ok (.iconst 0, 1) := by decide +kernel
theorem dX11_tooLongForGame_25 : decode cX11_tooLongForGame 25 = .ok (.ireturn, 1) := by decide +kernel
theorem dX11_isPerson_0 : decode cX11_isPerson 0 = .ok (.iload_n 0, 1) := by decide +kernel
theorem dX11_isPerson_1 : decode cX11_isPerson 1 = .ok (.ifCond .lt 12, 3) := by decide +kernel
theorem dX11_isPerson_4 : decode cX11_isPerson 4 = .ok (.iload_n 0, 1) := by decide +kernel
theorem dX11_isPerson_5 : decode cX11_isPerson 5 = .ok (.iconst 4, 1) := by decide +kernel
theorem dX11_isPerson_6 : decode cX11_isPerson 6 = .ok (.if_icmp .ge 7, 3) := by decide +kernel
theorem dX11_isPerson_9 : decode cX11_isPerson 9 = .ok (.iconst 1, 1) := by decide +kernel
theorem dX11_isPerson_10 : decode cX11_isPerson 10 = .ok (.goto 4, 3) := by decide +kernel
theorem dX11_isPerson_13 : decode cX11_isPerson 13 = .ok (.iconst 0, 1) := by decide +kernel
theorem dX11_isPerson_14 : decode cX11_isPerson 14 = .ok (.ireturn, 1) := by decide +kernel
theorem dX11_goalFor_0 : decode cX11_goalFor 0 = .ok (.iload_n 1, 1) := by decide +kernel
theorem dX11_goalFor_1 : decode cX11_goalFor 1 = .ok (.iconst 4, 1) := by decide +kernel
theorem dX11_goalFor_2 : decode cX11_goalFor 2 = .ok (.iload_n 0, 1) := by decide +kernel
theorem dX11_goalFor_3 : decode cX11_goalFor 3 = .ok (.imul, 1) := by decide +kernel
theorem dX11_goalFor_4 : decode cX11_goalFor 4 = .ok (.ishl, 1) := by decide +kernel
theorem dX11_goalFor_5 : decode cX11_goalFor 5 = .ok (.ireturn, 1) := by decide +kernel
theorem dX11_isA_0 : decode cX11_isA 0 = .ok (.iload_n 1, 1) := by decide +kernel
theorem dX11_isA_1 : decode cX11_isA 1 = .ok (.tableswitch 57 0 4 #[35, 37, 42, 47, 52], 35) := by decide +kernel
theorem dX11_isA_36 : decode cX11_isA 36 = .ok (.iconst 1, 1) := by decide +kernel
theorem dX11_isA_37 : decode cX11_isA 37 = .ok (.ireturn, 1) := by decide +kernel
theorem dX11_isA_38 : decode cX11_isA 38 = .ok (.aload_n 0, 1) := by decide +kernel
theorem dX11_isA_39 : decode cX11_isA 39 = .ok (.instanceof 214, 3) := by decide +kernel
theorem dX11_isA_42 : decode cX11_isA 42 = .ok (.ireturn, 1) := by decide +kernel
theorem dX11_isA_43 : decode cX11_isA 43 = .ok (.aload_n 0, 1) := by decide +kernel
theorem dX11_isA_44 : decode cX11_isA 44 = .ok (.instanceof 216, 3) := by decide +kernel
theorem dX11_isA_47 : decode cX11_isA 47 = .ok (.ireturn, 1) := by decide +kernel
theorem dX11_isA_48 : decode cX11_isA 48 = .ok (.aload_n 0, 1) := by decide +kernel
theorem dX11_isA_49 : decode cX11_isA 49 = .ok (.instanceof 218, 3) := by decide +kernel
theorem dX11_isA_52 : decode cX11_isA 52 = .ok (.ireturn, 1) := by decide +kernel
theorem dX11_isA_53 : decode cX11_isA 53 = .ok (.aload_n 0, 1) := by decide +kernel
theorem dX11_isA_54 : decode cX11_isA 54 = .ok (.instanceof 220, 3) := by decide +kernel
theorem dX11_isA_57 : decode cX11_isA 57 = .ok (.ireturn, 1) := by decide +kernel
theorem dX11_isA_58 : decode cX11_isA 58 = .ok (.aload_n 0, 1) := by decide +kernel
theorem dX11_isA_59 : decode cX11_isA 59 = .ok (.instanceof 222, 3) := by decide +kernel
theorem dX11_isA_62 : decode cX11_isA 62 = .ok (.ireturn, 1) := by decide +kernel
end
section
theorem dX12_init_0 : decode cX12_init 0 = .ok (.aload_n 0, 1) := by decide +kernel
theorem dX12_init_1 : decode cX12_init 1 = .ok (.invokespecial 1, 3) := by decide +kernel
theorem dX12_init_4 : decode cX12_init 4 = .ok (.aload_n 0, 1) := by decide +kernel
theorem dX12_init_5 : decode cX12_init 5 = .ok (.sipush 341, 3) := by decide +kernel
theorem dX12_init_8 : decode cX12_init 8 = .ok (.newarray .int, 2) := by decide +kernel
theorem dX12_init_10 : decode cX12_init 10 = .ok (.putfield 7, 3) := by decide +kernel
theorem dX12_init_13 : decode cX12_init 13 = .ok (.aload_n 0, 1) := by decide +kernel
theorem dX12_init_14 : decode cX12_init 14 = .ok (.iconst 2, 1) := by decide +kernel
theorem dX12_init_15 : decode cX12_init 15 = .ok (.newarray .boolean, 2) := by decide +kernel
theorem dX12_init_17 : decode cX12_init 17 = .ok (.putfield 13, 3) := by decide +kernel
theorem dX12_init_20 : decode cX12_init 20 = .ok (.aload_n 0, 1) := by decide +kernel
theorem dX12_init_21 : decode cX12_init 21 = .ok (.sipush 200, 3) := by decide +kernel
theorem dX12_init_24 : decode cX12_init 24 = .ok (.newarray .int, 2) := by decide +kernel
theorem dX12_init_26 : decode cX12_init 26 = .ok (.putfield 17, 3) := by decide +kernel
theorem dX12_init_29 : decode cX12_init 29 = .ok (.aload_n 0, 1) := by decide +kernel
theorem dX12_init_30 : decode cX12_init 30 = .ok (.bipush 120, 2) := by decide +kernel
theorem dX12_init_32 : decode cX12_init 32 = .ok (.newarray .int, 2) := by decide +kernel
theorem dX12_init_34 : decode cX12_init 34 = .ok (.putfield 20, 3) := by decide +kernel
theorem dX12_init_37 : decode cX12_init 37 = .ok (.aload_n 0, 1) := by decide +kernel
theorem dX12_init_38 : decode cX12_init 38 = .ok (.iconst 1, 1) := by decide +kernel
theorem dX12_init_39 : decode cX12_init 39 = .ok (.putfield 23, 3) := by decide +kernel
theorem dX12_init_42 : decode cX12_init 42 = .ok (.aload_n 0, 1) := by decide +kernel
theorem dX12_init_43 : decode cX12_init 43 = .ok (.bipush 6, 2) := by decide +kernel
theorem dX12_init_45 : decode cX12_init 45 = .ok (.newarray .int, 2) := by decide +kernel
theorem dX12_init_47 : decode cX12_init 47 = .ok (.dup, 1) := by decide +kernel
theorem dX12_init_48 : decode cX12_init 48 = .ok (.iconst 0, 1) := by decide +kernel
theorem dX12_init_49 : decode cX12_init 49 = .ok (.iconst 1, 1) := by decide +kernel
theorem dX12_init_50 : decode cX12_init 50 = .ok (.iastore, 1) := by decide +kernel
theorem dX12_init_51 : decode cX12_init 51 = .ok (.dup, 1) := by decide +kernel
theorem dX12_init_52 : decode cX12_init 52 = .ok (.iconst 1, 1) := by decide +kernel
theorem dX12_init_53 : decode cX12_init 53 = .ok (.iconst 0, 1) := by decide +kernel
theorem dX12_init_54 : decode cX12_init 54 = .ok (.iastore, 1) := by decide +kernel
theorem dX12_init_55 : decode cX12_init 55 = .ok (.dup, 1) := by decide +kernel
theorem dX12_init_56 : decode cX12_init 56 = .ok (.iconst 2, 1) := by decide +kernel
theorem dX12_init_57 : decode cX12_init 57 = .ok (.iconst 0, 1) := by decide +kernel
theorem dX12_init_58 : decode cX12_init 58 = .ok (.iastore, 1) := by decide +kernel
theorem dX12_init_59 : decode cX12_init 59 = .ok (.dup, 1) := by decide +kernel
theorem dX12_init_60 : decode cX12_init 60 = .ok (.iconst 3, 1) := by decide +kernel
theorem dX12_init_61 : decode cX12_init 61 = .ok (.iconst 0, 1) := by decide +kernel
theorem dX12_init_62 : decode cX12_init 62 = .ok (.iastore, 1) := by decide +kernel
theorem dX12_init_63 : decode cX12_init 63 = .ok (.dup, 1) := by decide +kernel
theorem dX12_init_64 : decode cX12_init 64 = .ok (.iconst 4, 1) := by decide +kernel
theorem dX12_init_65 : decode cX12_init 65 = .ok (.iconst 0, 1) := by decide +kernel
theorem dX12_init_66 : decode cX12_init 66 = .ok (.iastore, 1) := by decide +kernel
theorem dX12_init_67 : decode cX12_init 67 = .ok (.dup, 1) := by decide +kernel
theorem dX12_init_68 : decode cX12_init 68 = .ok (.iconst 5, 1) := by decide +kernel
theorem dX12_init_69 : decode cX12_init 69 = .ok (.iconst 0, 1) := by decide +kernel
theorem dX12_init_70 : decode cX12_init 70 = .ok (.iastore, 1) := by decide +kernel
theorem dX12_init_71 : decode cX12_init 71 = .ok (.putfield 27, 3) := by decide +kernel
theorem dX12_init_74 : decode cX12_init 74 = .ok (.aload_n 0, 1) := by decide +kernel
theorem dX12_init_75 : decode cX12_init 75 = .ok (.bipush 30, 2) := by decide +kernel
theorem dX12_init_77 : decode cX12_init 77 = .ok (.newarray .int, 2) := by decide +kernel
theorem dX12_init_79 : decode cX12_init 79 = .ok (.putfield 30, 3) := by decide +kernel
theorem dX12_init_82 : decode cX12_init 82 = .ok (.aload_n 0, 1) := by decide +kernel
theorem dX12_init_83 : decode cX12_init 83 = .ok (.iconst 4, 1) := by decide +kernel
theorem dX12_init_84 : decode cX12_init 84 = .ok (.newarray .int, 2) := by decide +kernel
theorem dX12_init_86 : decode cX12_init 86 = .ok (.putfield 33, 3) := by decide +kernel
theorem dX12_init_89 : decode cX12_init 89 = .ok (.aload_n 0, 1) := by decide +kernel
theorem dX12_init_90 : decode cX12_init 90 = .ok (.iconst 4, 1) := by decide +kernel
theorem dX12_init_91 : decode cX12_init 91 = .ok (.newarray .int, 2) := by decide +kernel
theorem dX12_init_93 : decode cX12_init 93 = .ok (.putfield 36, 3) := by decide +kernel
theorem dX12_init_96 : decode cX12_init 96 = .ok (.aload_n 0, 1) := by decide +kernel
theorem dX12_init_97 : decode cX12_init 97 = .ok (.bipush 24, 2) := by decide +kernel
theorem dX12_init_99 : decode cX12_init 99 = .ok (.newarray .int, 2) := by decide +kernel
theorem dX12_init_101 : decode cX12_init 101 = .ok (.putfield 39, 3) := by decide +kernel
theorem dX12_init_104 : decode cX12_init 104 = .ok (.aload_n 0, 1) := by decide +kernel
theorem dX12_init_105 : decode cX12_init 105 = .ok (.bipush 6, 2) := by decide +kernel
theorem dX12_init_107 : decode cX12_init 107 = .ok (.newarray .int, 2) := by decide +kernel
theorem dX12_init_109 : decode cX12_init 109 = .ok (.putfield 42, 3) := by decide +kernel
theorem dX12_init_112 : decode cX12_init 112 = .ok (.aload_n 0, 1) := by decide +kernel
theorem dX12_init_113 : decode cX12_init 113 = .ok (.bipush 8, 2) := by decide +kernel
theorem dX12_init_115 : decode cX12_init 115 = .ok (.newarray .int, 2) := by decide +kernel
theorem dX12_init_117 : decode cX12_init 117 = .ok (.putfield 45, 3) := by decide +kernel
theorem dX12_init_120 : decode cX12_init 120 = .ok (.aload_n 0, 1) := by decide +kernel
theorem dX12_init_121 : decode cX12_init 121 = .ok (.bipush 32, 2) := by decide +kernel
theorem dX12_init_123 : decode cX12_init 123 = .ok (.newarray .int, 2) := by decide +kernel
theorem dX12_init_125 : decode cX12_init 125 = .ok (.putfield 48, 3) := by decide +kernel
theorem dX12_init_128 : decode cX12_init 128 = .ok (.aload_n 0, 1) := by decide +kernel
theorem dX12_init_129 : decode cX12_init 129 = .ok (.bipush 56, 2) := by decide +kernel
theorem dX12_init_131 : decode cX12_init 131 = .ok (.newarray .int, 2) := by decide +kernel
theorem dX12_init_133 : decode cX12_init 133 = .ok (.putfield 51, 3) := by decide +kernel
theorem dX12_init_136 : decode cX12_init 136 = .ok (.aload_n 0, 1) := by decide +kernel
theorem dX12_init_137 : decode cX12_init 137 = .ok (.bipush 6, 2) := by decide +kernel
theorem dX12_init_139 : decode cX12_init 139 = .ok (.newarray .int, 2) := by decide +kernel
theorem dX12_init_141 : decode cX12_init 141 = .ok (.putfield 54, 3) := by decide +kernel
theorem dX12_init_144 : decode cX12_init 144 = .ok (.aload_n 0, 1) := by decide +kernel
theorem dX12_init_145 : decode cX12_init 145 = .ok (.bipush 6, 2) := by decide +kernel
theorem dX12_init_147 : decode cX12_init 147 = .ok (.newarray .int, 2) := by decide +kernel
theorem dX12_init_149 : decode cX12_init 149 = .ok (.putfield 57, 3) := by decide +kernel
theorem dX12_init_152 : decode cX12_init 152 = .ok (.return_, 1) := by decide +kernel
theorem dX12_in_0 : decode cX12_in 0 = .ok (.lload_n 0, 1) := by decide +kernel
theorem dX12_in_1 : decode cX12_in 1 = .ok (.lload_n 2, 1) := by decide +kernel
theorem dX12_in_2 : decode cX12_in 2 = .ok (.lcmp, 1) := by decide +kernel
theorem dX12_in_3 : decode cX12_in 3 = .ok (.ifCond .lt 14, 3) := by decide +kernel
theorem dX12_in_6 : decode cX12_in 6 = .ok (.lload_n 0, 1) := by decide +kernel
theorem dX12_in_7 : decode cX12_in 7 = .ok (.lload 4, 2) := by decide +kernel
theorem dX12_in_9 : decode cX12_in 9 = .ok (.lcmp, 1) := by decide +kernel
theorem dX12_in_10 : decode cX12_in 10 = .ok (.ifCond .gt 7, 3) := by decide +kernel
theorem dX12_in_13 : decode cX12_in 13 = .ok (.iconst 1, 1) := by decide +kernel
theorem dX12_in_14 : decode cX12_in 14 = .ok (.goto 4, 3) := by decide +kernel
theorem dX12_in_17 : decode cX12_in 17 = .ok (.iconst 0, 1) := by decide +kernel
theorem dX12_in_18 : decode cX12_in 18 = .ok (.ireturn, 1) := by decide +kernel
theorem dX12_has_0 : decode cX12_has 0 = .ok (.iload_n 0, 1) := by decide +kernel
theorem dX12_has_1 : decode cX12_has 1 = .ok (.iload_n 1, 1) := by decide +kernel
theorem dX12_has_2 : decode cX12_has 2 = .ok (.ishr, 1) := by decide +kernel
theorem dX12_has_3 : decode cX12_has 3 = .ok (.iconst 1, 1) := by decide +kernel
theorem dX12_has_4 : decode cX12_has 4 = .ok (.iand, 1) := by decide +kernel
theorem dX12_has_5 : decode cX12_has 5 = .ok (.iconst 1, 1) := by decide +kernel
theorem dX12_has_6 : decode cX12_has 6 = .ok (.if_icmp .ne 7, 3) := by decide +kernel
theorem dX12_has_9 : decode cX12_has 9 = .ok (.iconst 1, 1) := by decide +kernel
theorem dX12_has_10 : decode cX12_has 10 = .ok (.goto 4, 3) := by decide +kernel
theorem dX12_has_13 : decode cX12_has 13 = .ok (.iconst 0, 1) := by decide +kernel
theorem dX12_has_14 : decode cX12_has 14 = .ok (.ireturn, 1) := by decide +kernel
theorem dX12_begin_0 : decode cX12_begin 0 = .ok (.iconst 0, 1) := by decide +kernel
theorem dX12_begin_1 : decode cX12_begin 1 = .ok (.istore_n 1, 1) := by decide +kernel
theorem dX12_begin_2 : decode cX12_begin 2 = .ok (.iload_n 1, 1) := by decide +kernel
theorem dX12_begin_3 : decode cX12_begin 3 = .ok (.bipush 30, 2) := by decide +kernel
theorem dX12_begin_5 : decode cX12_begin 5 = .ok (.if_icmp .ge 21, 3) := by decide +kernel
theorem dX12_begin_8 : decode cX12_begin 8 = .ok (.aload_n 0, 1) := by decide +kernel
theorem dX12_begin_9 : decode cX12_begin 9 = .ok (.getfield 7, 3) := by decide +kernel
theorem dX12_begin_12 : decode cX12_begin 12 = .ok (.iload_n 1, 1) := by decide +kernel
theorem dX12_begin_13 : decode cX12_begin 13 = .ok (.aload_n 0, 1) := by decide +kernel
theorem dX12_begin_14 : decode cX12_begin 14 = .ok (.getfield 30, 3) := by decide +kernel
theorem dX12_begin_17 : decode cX12_begin 17 = .ok (.iload_n 1, 1) := by decide +kernel
theorem dX12_begin_18 : decode cX12_begin 18 = .ok (.iaload, 1) := by decide +kernel
theorem dX12_begin_19 : decode cX12_begin 19 = .ok (.iastore, 1) := by decide +kernel
theorem dX12_begin_20 : decode cX12_begin 20 = .ok (.iinc 1 1, 3) := by decide +kernel
theorem dX12_begin_23 : decode cX12_begin 23 = .ok (.goto (-21), 3) := by decide +kernel
theorem dX12_begin_26 : decode cX12_begin 26 = .ok (.aload_n 0, 1) := by decide +kernel
theorem dX12_begin_27 : decode cX12_begin 27 = .ok (.getfield 7, 3) := by decide +kernel
theorem dX12_begin_30 : decode cX12_begin 30 = .ok (.bipush 30, 2) := by decide +kernel
theorem dX12_begin_32 : decode cX12_begin 32 = .ok (.iconst 0, 1) := by decide +kernel
theorem dX12_begin_33 : decode cX12_begin 33 = .ok (.iastore, 1) := by decide +kernel
theorem dX12_begin_34 : decode cX12_begin 34 = .ok (.return_, 1) := by decide +kernel
theorem dX12_write_0 : decode cX12_write 0 = .ok (.iload_n 3, 1) := by decide +kernel
theorem dX12_write_1 : decode cX12_write 1 = .ok (.i2l, 1) := by decide +kernel
theorem dX12_write_2 : decode cX12_write 2 = .ok (.lconst 1, 1) := by decide +kernel
theorem dX12_write_3 : decode cX12_write 3 = .ok (.ldc2_w 60, 3) := by decide +kernel
theorem dX12_write_6 : decode cX12_write 6 = .ok (.invokestatic 62, 3) := by decide +kernel
theorem dX12_write_9 : decode cX12_write 9 = .ok (.ifCond .ne 6, 3) := by decide +kernel
theorem dX12_write_12 : decode cX12_write 12 = .ok (.bipush (-3), 2) := by decide +kernel
theorem dX12_write_14 : decode cX12_write 14 = .ok (.ireturn, 1) := by decide +kernel
theorem dX12_write_15 : decode cX12_write 15 = .ok (.aload_n 0, 1) := by decide +kernel
theorem dX12_write_16 : decode cX12_write 16 = .ok (.getfield 66, 3) := by decide +kernel
theorem dX12_write_19 : decode cX12_write 19 = .ok (.iload_n 3, 1) := by decide +kernel
theorem dX12_write_20 : decode cX12_write 20 = .ok (.iadd, 1) := by decide +kernel
theorem dX12_write_21 : decode cX12_write 21 = .ok (.sipush 200, 3) := by decide +kernel
theorem dX12_write_24 : decode cX12_write 24 = .ok (.if_icmp .le 6, 3) := by decide +kernel
theorem dX12_write_27 : decode cX12_write 27 = .ok (.bipush (-5), 2) := by decide +kernel
theorem dX12_write_29 : decode cX12_write 29 = .ok (.ireturn, 1) := by decide +kernel
theorem dX12_write_30 : decode cX12_write 30 = .ok (.iconst 0, 1) := by decide +kernel
theorem dX12_write_31 : decode cX12_write 31 = .ok (.istore 4, 2) := by decide +kernel
theorem dX12_write_33 : decode cX12_write 33 = .ok (.iload 4, 2) := by decide +kernel
theorem dX12_write_35 : decode cX12_write 35 = .ok (.iload_n 3, 1) := by decide +kernel
theorem dX12_write_36 : decode cX12_write 36 = .ok (.if_icmp .ge 40, 3) := by decide +kernel
theorem dX12_write_39 : decode cX12_write 39 = .ok (.aload_n 0, 1) := by decide +kernel
theorem dX12_write_40 : decode cX12_write 40 = .ok (.getfield 17, 3) := by decide +kernel
theorem dX12_write_43 : decode cX12_write 43 = .ok (.aload_n 0, 1) := by decide +kernel
theorem dX12_write_44 : decode cX12_write 44 = .ok (.getfield 66, 3) := by decide +kernel
theorem dX12_write_47 : decode cX12_write 47 = .ok (.lload_n 1, 1) := by decide +kernel
theorem dX12_write_48 : decode cX12_write 48 = .ok (.bipush 8, 2) := by decide +kernel
theorem dX12_write_50 : decode cX12_write 50 = .ok (.iload 4, 2) := by decide +kernel
theorem dX12_write_52 : decode cX12_write 52 = .ok (.imul, 1) := by decide +kernel
theorem dX12_write_53 : decode cX12_write 53 = .ok (.lshr, 1) := by decide +kernel
theorem dX12_write_54 : decode cX12_write 54 = .ok (.ldc2_w 69, 3) := by decide +kernel
theorem dX12_write_57 : decode cX12_write 57 = .ok (.land, 1) := by decide +kernel
theorem dX12_write_58 : decode cX12_write 58 = .ok (.l2i, 1) := by decide +kernel
theorem dX12_write_59 : decode cX12_write 59 = .ok (.iastore, 1) := by decide +kernel
theorem dX12_write_60 : decode cX12_write 60 = .ok (.aload_n 0, 1) := by decide +kernel
theorem dX12_write_61 : decode cX12_write 61 = .ok (.dup, 1) := by decide +kernel
theorem dX12_write_62 : decode cX12_write 62 = .ok (.getfield 66, 3) := by decide +kernel
theorem dX12_write_65 : decode cX12_write 65 = .ok (.iconst 1, 1) := by decide +kernel
theorem dX12_write_66 : decode cX12_write 66 = .ok (.iadd, 1) := by decide +kernel
theorem dX12_write_67 : decode cX12_write 67 = .ok (.putfield 66, 3) := by decide +kernel
theorem dX12_write_70 : decode cX12_write 70 = .ok (.iinc 4 1, 3) := by decide +kernel
theorem dX12_write_73 : decode cX12_write 73 = .ok (.goto (-40), 3) := by decide +kernel
theorem dX12_write_76 : decode cX12_write 76 = .ok (.aload_n 0, 1) := by decide +kernel
theorem dX12_write_77 : decode cX12_write 77 = .ok (.getfield 66, 3) := by decide +kernel
theorem dX12_write_80 : decode cX12_write 80 = .ok (.ireturn, 1) := by decide +kernel
theorem dX12_erase_0 : decode cX12_erase 0 = .ok (.aload_n 0, 1) := by decide +kernel
theorem dX12_erase_1 : decode cX12_erase 1 = .ok (.getfield 66, 3) := by decide +kernel
theorem dX12_erase_4 : decode cX12_erase 4 = .ok (.istore_n 1, 1) := by decide +kernel
theorem dX12_erase_5 : decode cX12_erase 5 = .ok (.aload_n 0, 1) := by decide +kernel
theorem dX12_erase_6 : decode cX12_erase 6 = .ok (.iconst 0, 1) := by decide +kernel
theorem dX12_erase_7 : decode cX12_erase 7 = .ok (.putfield 66, 3) := by decide +kernel
theorem dX12_erase_10 : decode cX12_erase 10 = .ok (.iload_n 1, 1) := by decide +kernel
theorem dX12_erase_11 : decode cX12_erase 11 = .ok (.ireturn, 1) := by decide +kernel
theorem dX12_sort_0 : decode cX12_sort 0 = .ok (.iload_n 0, 1) := by decide +kernel
theorem dX12_sort_1 : decode cX12_sort 1 = .ok (.bipush 97, 2) := by decide +kernel
theorem dX12_sort_3 : decode cX12_sort 3 = .ok (.if_icmp .lt 13, 3) := by decide +kernel
theorem dX12_sort_6 : decode cX12_sort 6 = .ok (.iload_n 0, 1) := by decide +kernel
theorem dX12_sort_7 : decode cX12_sort 7 = .ok (.bipush 122, 2) := by decide +kernel
theorem dX12_sort_9 : decode cX12_sort 9 = .ok (.if_icmp .gt 7, 3) := by decide +kernel
theorem dX12_sort_12 : decode cX12_sort 12 = .ok (.iconst 1, 1) := by decide +kernel
theorem dX12_sort_13 : decode cX12_sort 13 = .ok (.goto 20, 3) := by decide +kernel
theorem dX12_sort_16 : decode cX12_sort 16 = .ok (.iload_n 0, 1) := by decide +kernel
theorem dX12_sort_17 : decode cX12_sort 17 = .ok (.bipush 48, 2) := by decide +kernel
theorem dX12_sort_19 : decode cX12_sort 19 = .ok (.if_icmp .lt 13, 3) := by decide +kernel
theorem dX12_sort_22 : decode cX12_sort 22 = .ok (.iload_n 0, 1) := by decide +kernel
theorem dX12_sort_23 : decode cX12_sort 23 = .ok (.bipush 57, 2) := by decide +kernel
theorem dX12_sort_25 : decode cX12_sort 25 = .ok (.if_icmp .gt 7, 3) := by decide +kernel
theorem dX12_sort_28 : decode cX12_sort 28 = .ok (.iconst 2, 1) := by decide +kernel
theorem dX12_sort_29 : decode cX12_sort 29 = .ok (.goto 4, 3) := by decide +kernel
theorem dX12_sort_32 : decode cX12_sort 32 = .ok (.iconst 0, 1) := by decide +kernel
theorem dX12_sort_33 : decode cX12_sort 33 = .ok (.ireturn, 1) := by decide +kernel
theorem dX12_token_0 : decode cX12_token 0 = .ok (.aload_n 0, 1) := by decide +kernel
theorem dX12_token_1 : decode cX12_token 1 = .ok (.getfield 71, 3) := by decide +kernel
theorem dX12_token_4 : decode cX12_token 4 = .ok (.aload_n 0, 1) := by decide +kernel
theorem dX12_token_5 : decode cX12_token 5 = .ok (.getfield 66, 3) := by decide +kernel
theorem dX12_token_8 : decode cX12_token 8 = .ok (.if_icmp .ge 30, 3) := by decide +kernel
theorem dX12_token_11 : decode cX12_token 11 = .ok (.aload_n 0, 1) := by decide +kernel
theorem dX12_token_12 : decode cX12_token 12 = .ok (.getfield 17, 3) := by decide +kernel
theorem dX12_token_15 : decode cX12_token 15 = .ok (.aload_n 0, 1) := by decide +kernel
theorem dX12_token_16 : decode cX12_token 16 = .ok (.getfield 71, 3) := by decide +kernel
theorem dX12_token_19 : decode cX12_token 19 = .ok (.iaload, 1) := by decide +kernel
theorem dX12_token_20 : decode cX12_token 20 = .ok (.bipush 32, 2) := by decide +kernel
theorem dX12_token_22 : decode cX12_token 22 = .ok (.if_icmp .ne 16, 3) := by decide +kernel
theorem dX12_token_25 : decode cX12_token 25 = .ok (.aload_n 0, 1) := by decide +kernel
theorem dX12_token_26 : decode cX12_token 26 = .ok (.dup, 1) := by decide +kernel
theorem dX12_token_27 : decode cX12_token 27 = .ok (.getfield 71, 3) := by decide +kernel
theorem dX12_token_30 : decode cX12_token 30 = .ok (.iconst 1, 1) := by decide +kernel
theorem dX12_token_31 : decode cX12_token 31 = .ok (.iadd, 1) := by decide +kernel
theorem dX12_token_32 : decode cX12_token 32 = .ok (.putfield 71, 3) := by decide +kernel
theorem dX12_token_35 : decode cX12_token 35 = .ok (.goto (-35), 3) := by decide +kernel
theorem dX12_token_38 : decode cX12_token 38 = .ok (.aload_n 0, 1) := by decide +kernel
theorem dX12_token_39 : decode cX12_token 39 = .ok (.aload_n 0, 1) := by decide +kernel
theorem dX12_token_40 : decode cX12_token 40 = .ok (.getfield 71, 3) := by decide +kernel
theorem dX12_token_43 : decode cX12_token 43 = .ok (.putfield 74, 3) := by decide +kernel
theorem dX12_token_46 : decode cX12_token 46 = .ok (.aload_n 0, 1) := by decide +kernel
theorem dX12_token_47 : decode cX12_token 47 = .ok (.dup, 1) := by decide +kernel
theorem dX12_token_48 : decode cX12_token 48 = .ok (.getfield 71, 3) := by decide +kernel
theorem dX12_token_51 : decode cX12_token 51 = .ok (.aload_n 0, 1) := by decide +kernel
theorem dX12_token_52 : decode cX12_token 52 = .ok (.getfield 71, 3) := by decide +kernel
theorem dX12_token_55 : decode cX12_token 55 = .ok (.aload_n 0, 1) := by decide +kernel
theorem dX12_token_56 : decode cX12_token 56 = .ok (.getfield 66, 3) := by decide +kernel
theorem dX12_token_59 : decode cX12_token 59 = .ok (.if_icmp .ge 7, 3) := by decide +kernel
theorem dX12_token_62 : decode cX12_token 62 = .ok (.iconst 1, 1) := by decide +kernel
theorem dX12_token_63 : decode cX12_token 63 = .ok (.goto 4, 3) := by decide +kernel
theorem dX12_token_66 : decode cX12_token 66 = .ok (.iconst 0, 1) := by decide +kernel
theorem dX12_token_67 : decode cX12_token 67 = .ok (.iadd, 1) := by decide +kernel
theorem dX12_token_68 : decode cX12_token 68 = .ok (.putfield 71, 3) := by decide +kernel
theorem dX12_token_71 : decode cX12_token 71 = .ok (.aload_n 0, 1) := by decide +kernel
theorem dX12_token_72 : decode cX12_token 72 = .ok (.getfield 71, 3) := by decide +kernel
theorem dX12_token_75 : decode cX12_token 75 = .ok (.aload_n 0, 1) := by decide +kernel
theorem dX12_token_76 : decode cX12_token 76 = .ok (.getfield 66, 3) := by decide +kernel
theorem dX12_token_79 : decode cX12_token 79 = .ok (.if_icmp .ge 58, 3) := by decide +kernel
theorem dX12_token_82 : decode cX12_token 82 = .ok (.aload_n 0, 1) := by decide +kernel
theorem dX12_token_83 : decode cX12_token 83 = .ok (.getfield 17, 3) := by decide +kernel
theorem dX12_token_86 : decode cX12_token 86 = .ok (.aload_n 0, 1) := by decide +kernel
theorem dX12_token_87 : decode cX12_token 87 = .ok (.getfield 74, 3) := by decide +kernel
theorem dX12_token_90 : decode cX12_token 90 = .ok (.iaload, 1) := by decide +kernel
theorem dX12_token_91 : decode cX12_token 91 = .ok (.invokestatic 77, 3) := by decide +kernel
theorem dX12_token_94 : decode cX12_token 94 = .ok (.ifCond .le 43, 3) := by decide +kernel
theorem dX12_token_97 : decode cX12_token 97 = .ok (.aload_n 0, 1) := by decide +kernel
theorem dX12_token_98 : decode cX12_token 98 = .ok (.getfield 17, 3) := by decide +kernel
theorem dX12_token_101 : decode cX12_token 101 = .ok (.aload_n 0, 1) := by decide +kernel
theorem dX12_token_102 : decode cX12_token 102 = .ok (.getfield 71, 3) := by decide +kernel
theorem dX12_token_105 : decode cX12_token 105 = .ok (.iaload, 1) := by decide +kernel
theorem dX12_token_106 : decode cX12_token 106 = .ok (.invokestatic 77, 3) := by decide +kernel
theorem dX12_token_109 : decode cX12_token 109 = .ok (.aload_n 0, 1) := by decide +kernel
theorem dX12_token_110 : decode cX12_token 110 = .ok (.getfield 17, 3) := by decide +kernel
theorem dX12_token_113 : decode cX12_token 113 = .ok (.aload_n 0, 1) := by decide +kernel
theorem dX12_token_114 : decode cX12_token 114 = .ok (.getfield 74, 3) := by decide +kernel
theorem dX12_token_117 : decode cX12_token 117 = .ok (.iaload, 1) := by decide +kernel
theorem dX12_token_118 : decode cX12_token 118 = .ok (.invokestatic 77, 3) := by decide +kernel
theorem dX12_token_121 : decode cX12_token 121 = .ok (.if_icmp .ne 16, 3) := by decide +kernel
theorem dX12_token_124 : decode cX12_token 124 = .ok (.aload_n 0, 1) := by decide +kernel
theorem dX12_token_125 : decode cX12_token 125 = .ok (.dup, 1) := by decide +kernel
theorem dX12_token_126 : decode cX12_token 126 = .ok (.getfield 71, 3) := by decide +kernel
theorem dX12_token_129 : decode cX12_token 129 = .ok (.iconst 1, 1) := by decide +kernel
theorem dX12_token_130 : decode cX12_token 130 = .ok (.iadd, 1) := by decide +kernel
theorem dX12_token_131 : decode cX12_token 131 = .ok (.putfield 71, 3) := by decide +kernel
theorem dX12_token_134 : decode cX12_token 134 = .ok (.goto (-63), 3) := by decide +kernel
theorem dX12_token_137 : decode cX12_token 137 = .ok (.aload_n 0, 1) := by decide +kernel
theorem dX12_token_138 : decode cX12_token 138 = .ok (.aload_n 0, 1) := by decide +kernel
theorem dX12_token_139 : decode cX12_token 139 = .ok (.getfield 71, 3) := by decide +kernel
theorem dX12_token_142 : decode cX12_token 142 = .ok (.putfield 81, 3) := by decide +kernel
theorem dX12_token_145 : decode cX12_token 145 = .ok (.return_, 1) := by decide +kernel
theorem dX12_isWord_0 : decode cX12_isWord 0 = .ok (.aload_n 0, 1) := by decide +kernel
theorem dX12_isWord_1 : decode cX12_isWord 1 = .ok (.getfield 81, 3) := by decide +kernel
theorem dX12_isWord_4 : decode cX12_isWord 4 = .ok (.aload_n 0, 1) := by decide +kernel
theorem dX12_isWord_5 : decode cX12_isWord 5 = .ok (.getfield 74, 3) := by decide +kernel
theorem dX12_isWord_8 : decode cX12_isWord 8 = .ok (.isub, 1) := by decide +kernel
theorem dX12_isWord_9 : decode cX12_isWord 9 = .ok (.iload_n 3, 1) := by decide +kernel
theorem dX12_isWord_10 : decode cX12_isWord 10 = .ok (.if_icmp .ne 7, 3) := by decide +kernel
theorem dX12_isWord_13 : decode cX12_isWord 13 = .ok (.iconst 1, 1) := by decide +kernel
theorem dX12_isWord_14 : decode cX12_isWord 14 = .ok (.goto 4, 3) := by decide +kernel
theorem dX12_isWord_17 : decode cX12_isWord 17 = .ok (.iconst 0, 1) := by decide +kernel
theorem dX12_isWord_18 : decode cX12_isWord 18 = .ok (.istore 4, 2) := by decide +kernel
theorem dX12_isWord_20 : decode cX12_isWord 20 = .ok (.iconst 0, 1) := by decide +kernel
theorem dX12_isWord_21 : decode cX12_isWord 21 = .ok (.istore 5, 2) := by decide +kernel
theorem dX12_isWord_23 : decode cX12_isWord 23 = .ok (.iload 4, 2) := by decide +kernel
theorem dX12_isWord_25 : decode cX12_isWord 25 = .ok (.ifCond .eq 51, 3) := by decide +kernel
theorem dX12_isWord_28 : decode cX12_isWord 28 = .ok (.iload 5, 2) := by decide +kernel
theorem dX12_isWord_30 : decode cX12_isWord 30 = .ok (.iload_n 3, 1) := by decide +kernel
theorem dX12_isWord_31 : decode cX12_isWord 31 = .ok (.if_icmp .ge 45, 3) := by decide +kernel
theorem dX12_isWord_34 : decode cX12_isWord 34 = .ok (.aload_n 0, 1) := by decide +kernel
theorem dX12_isWord_35 : decode cX12_isWord 35 = .ok (.getfield 17, 3) := by decide +kernel
theorem dX12_isWord_38 : decode cX12_isWord 38 = .ok (.aload_n 0, 1) := by decide +kernel
theorem dX12_isWord_39 : decode cX12_isWord 39 = .ok (.getfield 74, 3) := by decide +kernel
theorem dX12_isWord_42 : decode cX12_isWord 42 = .ok (.iload 5, 2) := by decide +kernel
theorem dX12_isWord_44 : decode cX12_isWord 44 = .ok (.iadd, 1) := by decide +kernel
theorem dX12_isWord_45 : decode cX12_isWord 45 = .ok (.iaload, 1) := by decide +kernel
theorem dX12_isWord_46 : decode cX12_isWord 46 = .ok (.bipush 96, 2) := by decide +kernel
theorem dX12_isWord_48 : decode cX12_isWord 48 = .ok (.lload_n 1, 1) := by decide +kernel
theorem dX12_isWord_49 : decode cX12_isWord 49 = .ok (.iconst 5, 1) := by decide +kernel
theorem dX12_isWord_50 : decode cX12_isWord 50 = .ok (.iload 5, 2) := by decide +kernel
theorem dX12_isWord_52 : decode cX12_isWord 52 = .ok (.imul, 1) := by decide +kernel
theorem dX12_isWord_53 : decode cX12_isWord 53 = .ok (.lshr, 1) := by decide +kernel
theorem dX12_isWord_54 : decode cX12_isWord 54 = .ok (.ldc2_w 84, 3) := by decide +kernel
theorem dX12_isWord_57 : decode cX12_isWord 57 = .ok (.land, 1) := by decide +kernel
theorem dX12_isWord_58 : decode cX12_isWord 58 = .ok (.l2i, 1) := by decide +kernel
theorem dX12_isWord_59 : decode cX12_isWord 59 = .ok (.iadd, 1) := by decide +kernel
theorem dX12_isWord_60 : decode cX12_isWord 60 = .ok (.if_icmp .ne 7, 3) := by decide +kernel
theorem dX12_isWord_63 : decode cX12_isWord 63 = .ok (.iconst 1, 1) := by decide +kernel
theorem dX12_isWord_64 : decode cX12_isWord 64 = .ok (.goto 4, 3) := by decide +kernel
theorem dX12_isWord_67 : decode cX12_isWord 67 = .ok (.iconst 0, 1) := by decide +kernel
theorem dX12_isWord_68 : decode cX12_isWord 68 = .ok (.istore 4, 2) := by decide +kernel
theorem dX12_isWord_70 : decode cX12_isWord 70 = .ok (.iinc 5 1, 3) := by decide +kernel
theorem dX12_isWord_73 : decode cX12_isWord 73 = .ok (.goto (-50), 3) := by decide +kernel
theorem dX12_isWord_76 : decode cX12_isWord 76 = .ok (.iload 4, 2) := by decide +kernel
theorem dX12_isWord_78 : decode cX12_isWord 78 = .ok (.ireturn, 1) := by decide +kernel
theorem dX12_habitWord_0 : decode cX12_habitWord 0 = .ok (.aload_n 0, 1) := by decide +kernel
theorem dX12_habitWord_1 : decode cX12_habitWord 1 = .ok (.ldc2_w 86, 3) := by decide +kernel
theorem dX12_habitWord_4 : decode cX12_habitWord 4 = .ok (.iconst 5, 1) := by decide +kernel
theorem dX12_habitWord_5 : decode cX12_habitWord 5 = .ok (.invokevirtual 88, 3) := by decide +kernel
theorem dX12_habitWord_8 : decode cX12_habitWord 8 = .ok (.ifCond .eq 7, 3) := by decide +kernel
theorem dX12_habitWord_11 : decode cX12_habitWord 11 = .ok (.iconst 3, 1) := by decide +kernel
theorem dX12_habitWord_12 : decode cX12_habitWord 12 = .ok (.goto 52, 3) := by decide +kernel
theorem dX12_habitWord_15 : decode cX12_habitWord 15 = .ok (.aload_n 0, 1) := by decide +kernel
theorem dX12_habitWord_16 : decode cX12_habitWord 16 = .ok (.ldc2_w 92, 3) := by decide +kernel
theorem dX12_habitWord_19 : decode cX12_habitWord 19 = .ok (.bipush 6, 2) := by decide +kernel
theorem dX12_habitWord_21 : decode cX12_habitWord 21 = .ok (.invokevirtual 88, 3) := by decide +kernel
theorem dX12_habitWord_24 : decode cX12_habitWord 24 = .ok (.ifCond .eq 7, 3) := by decide +kernel
theorem dX12_habitWord_27 : decode cX12_habitWord 27 = .ok (.iconst 4, 1) := by decide +kernel
theorem dX12_habitWord_28 : decode cX12_habitWord 28 = .ok (.goto 36, 3) := by decide +kernel
theorem dX12_habitWord_31 : decode cX12_habitWord 31 = .ok (.aload_n 0, 1) := by decide +kernel
theorem dX12_habitWord_32 : decode cX12_habitWord 32 = .ok (.ldc2_w 94, 3) := by decide +kernel
theorem dX12_habitWord_35 : decode cX12_habitWord 35 = .ok (.bipush 7, 2) := by decide +kernel
theorem dX12_habitWord_37 : decode cX12_habitWord 37 = .ok (.invokevirtual 88, 3) := by decide +kernel
theorem dX12_habitWord_40 : decode cX12_habitWord 40 = .ok (.ifCond .eq 7, 3) := by decide +kernel
theorem dX12_habitWord_43 : decode cX12_habitWord 43 = .ok (.iconst 5, 1) := by decide +kernel
theorem dX12_habitWord_44 : decode cX12_habitWord 44 = .ok (.goto 20, 3) := by decide +kernel
theorem dX12_habitWord_47 : decode cX12_habitWord 47 = .ok (.aload_n 0, 1) := by decide +kernel
theorem dX12_habitWord_48 : decode cX12_habitWord 48 = .ok (.ldc2_w 96, 3) := by decide +kernel
theorem dX12_habitWord_51 : decode cX12_habitWord 51 = .ok (.iconst 5, 1) := by decide +kernel
theorem dX12_habitWord_52 : decode cX12_habitWord 52 = .ok (.invokevirtual 88, 3) := by decide +kernel
theorem dX12_habitWord_55 : decode cX12_habitWord 55 = .ok (.ifCond .eq 8, 3) := by decide +kernel
theorem dX12_habitWord_58 : decode cX12_habitWord 58 = .ok (.bipush 6, 2) := by decide +kernel
theorem dX12_habitWord_60 : decode cX12_habitWord 60 = .ok (.goto 4, 3) := by decide +kernel
theorem dX12_habitWord_63 : decode cX12_habitWord 63 = .ok (.iconst (-1), 1) := by decide +kernel
theorem dX12_habitWord_64 : decode cX12_habitWord 64 = .ok (.ireturn, 1) := by decide +kernel
theorem dX12_wordOf_0 : decode cX12_wordOf 0 = .ok (.aload_n 0, 1) := by decide +kernel
theorem dX12_wordOf_1 : decode cX12_wordOf 1 = .ok (.invokevirtual 98, 3) := by decide +kernel
theorem dX12_wordOf_4 : decode cX12_wordOf 4 = .ok (.istore_n 1, 1) := by decide +kernel
theorem dX12_wordOf_5 : decode cX12_wordOf 5 = .ok (.iload_n 1, 1) := by decide +kernel
theorem dX12_wordOf_6 : decode cX12_wordOf 6 = .ok (.iconst (-1), 1) := by decide +kernel
theorem dX12_wordOf_7 : decode cX12_wordOf 7 = .ok (.if_icmp .eq 7, 3) := by decide +kernel
theorem dX12_wordOf_10 : decode cX12_wordOf 10 = .ok (.iload_n 1, 1) := by decide +kernel
theorem dX12_wordOf_11 : decode cX12_wordOf 11 = .ok (.goto 97, 3) := by decide +kernel
theorem dX12_wordOf_14 : decode cX12_wordOf 14 = .ok (.aload_n 0, 1) := by decide +kernel
theorem dX12_wordOf_15 : decode cX12_wordOf 15 = .ok (.ldc2_w 102, 3) := by decide +kernel
theorem dX12_wordOf_18 : decode cX12_wordOf 18 = .ok (.iconst 5, 1) := by decide +kernel
theorem dX12_wordOf_19 : decode cX12_wordOf 19 = .ok (.invokevirtual 88, 3) := by decide +kernel
theorem dX12_wordOf_22 : decode cX12_wordOf 22 = .ok (.ifCond .eq 7, 3) := by decide +kernel
theorem dX12_wordOf_25 : decode cX12_wordOf 25 = .ok (.iconst 0, 1) := by decide +kernel
theorem dX12_wordOf_26 : decode cX12_wordOf 26 = .ok (.goto 82, 3) := by decide +kernel
theorem dX12_wordOf_29 : decode cX12_wordOf 29 = .ok (.aload_n 0, 1) := by decide +kernel
theorem dX12_wordOf_30 : decode cX12_wordOf 30 = .ok (.ldc2_w 104, 3) := by decide +kernel
theorem dX12_wordOf_33 : decode cX12_wordOf 33 = .ok (.iconst 4, 1) := by decide +kernel
theorem dX12_wordOf_34 : decode cX12_wordOf 34 = .ok (.invokevirtual 88, 3) := by decide +kernel
theorem dX12_wordOf_37 : decode cX12_wordOf 37 = .ok (.ifCond .eq 7, 3) := by decide +kernel
theorem dX12_wordOf_40 : decode cX12_wordOf 40 = .ok (.iconst 1, 1) := by decide +kernel
theorem dX12_wordOf_41 : decode cX12_wordOf 41 = .ok (.goto 67, 3) := by decide +kernel
theorem dX12_wordOf_44 : decode cX12_wordOf 44 = .ok (.aload_n 0, 1) := by decide +kernel
theorem dX12_wordOf_45 : decode cX12_wordOf 45 = .ok (.ldc2_w 106, 3) := by decide +kernel
theorem dX12_wordOf_48 : decode cX12_wordOf 48 = .ok (.iconst 5, 1) := by decide +kernel
theorem dX12_wordOf_49 : decode cX12_wordOf 49 = .ok (.invokevirtual 88, 3) := by decide +kernel
theorem dX12_wordOf_52 : decode cX12_wordOf 52 = .ok (.ifCond .eq 7, 3) := by decide +kernel
theorem dX12_wordOf_55 : decode cX12_wordOf 55 = .ok (.iconst 2, 1) := by decide +kernel
theorem dX12_wordOf_56 : decode cX12_wordOf 56 = .ok (.goto 52, 3) := by decide +kernel
theorem dX12_wordOf_59 : decode cX12_wordOf 59 = .ok (.aload_n 0, 1) := by decide +kernel
theorem dX12_wordOf_60 : decode cX12_wordOf 60 = .ok (.ldc2_w 108, 3) := by decide +kernel
theorem dX12_wordOf_63 : decode cX12_wordOf 63 = .ok (.iconst 4, 1) := by decide +kernel
theorem dX12_wordOf_64 : decode cX12_wordOf 64 = .ok (.invokevirtual 88, 3) := by decide +kernel
theorem dX12_wordOf_67 : decode cX12_wordOf 67 = .ok (.ifCond .eq 8, 3) := by decide +kernel
theorem dX12_wordOf_70 : decode cX12_wordOf 70 = .ok (.bipush 7, 2) := by decide +kernel
theorem dX12_wordOf_72 : decode cX12_wordOf 72 = .ok (.goto 36, 3) := by decide +kernel
theorem dX12_wordOf_75 : decode cX12_wordOf 75 = .ok (.aload_n 0, 1) := by decide +kernel
theorem dX12_wordOf_76 : decode cX12_wordOf 76 = .ok (.ldc2_w 110, 3) := by decide +kernel
theorem dX12_wordOf_79 : decode cX12_wordOf 79 = .ok (.iconst 3, 1) := by decide +kernel
theorem dX12_wordOf_80 : decode cX12_wordOf 80 = .ok (.invokevirtual 88, 3) := by decide +kernel
theorem dX12_wordOf_83 : decode cX12_wordOf 83 = .ok (.ifCond .eq 8, 3) := by decide +kernel
theorem dX12_wordOf_86 : decode cX12_wordOf 86 = .ok (.bipush 8, 2) := by decide +kernel
theorem dX12_wordOf_88 : decode cX12_wordOf 88 = .ok (.goto 20, 3) := by decide +kernel
theorem dX12_wordOf_91 : decode cX12_wordOf 91 = .ok (.aload_n 0, 1) := by decide +kernel
theorem dX12_wordOf_92 : decode cX12_wordOf 92 = .ok (.ldc2_w 112, 3) := by decide +kernel
theorem dX12_wordOf_95 : decode cX12_wordOf 95 = .ok (.iconst 5, 1) := by decide +kernel
theorem dX12_wordOf_96 : decode cX12_wordOf 96 = .ok (.invokevirtual 88, 3) := by decide +kernel
theorem dX12_wordOf_99 : decode cX12_wordOf 99 = .ok (.ifCond .eq 8, 3) := by decide +kernel
theorem dX12_wordOf_102 : decode cX12_wordOf 102 = .ok (.bipush 9, 2) := by decide +kernel
theorem dX12_wordOf_104 : decode cX12_wordOf 104 = .ok (.goto 4, 3) := by decide +kernel
theorem dX12_wordOf_107 : decode cX12_wordOf 107 = .ok (.iconst (-1), 1) := by decide +kernel
theorem dX12_wordOf_108 : decode cX12_wordOf 108 = .ok (.ireturn, 1) := by decide +kernel
theorem dX12_isNumber_0 : decode cX12_isNumber 0 = .ok (.aload_n 0, 1) := by decide +kernel
theorem dX12_isNumber_1 : decode cX12_isNumber 1 = .ok (.getfield 74, 3) := by decide +kernel
theorem dX12_isNumber_4 : decode cX12_isNumber 4 = .ok (.aload_n 0, 1) := by decide +kernel
theorem dX12_isNumber_5 : decode cX12_isNumber 5 = .ok (.getfield 66, 3) := by decide +kernel
theorem dX12_isNumber_8 : decode cX12_isNumber 8 = .ok (.if_icmp .ge 23, 3) := by decide +kernel
theorem dX12_isNumber_11 : decode cX12_isNumber 11 = .ok (.aload_n 0, 1) := by decide +kernel
theorem dX12_isNumber_12 : decode cX12_isNumber 12 = .ok (.getfield 17, 3) := by decide +kernel
theorem dX12_isNumber_15 : decode cX12_isNumber 15 = .ok (.aload_n 0, 1) := by decide +kernel
theorem dX12_isNumber_16 : decode cX12_isNumber 16 = .ok (.getfield 74, 3) := by decide +kernel
theorem dX12_isNumber_19 : decode cX12_isNumber 19 = .ok (.iaload, 1) := by decide +kernel
theorem dX12_isNumber_20 : decode cX12_isNumber 20 = .ok (.invokestatic 77, 3) := by decide +kernel
theorem dX12_isNumber_23 : decode cX12_isNumber 23 = .ok (.iconst 2, 1) := by decide +kernel
theorem dX12_isNumber_24 : decode cX12_isNumber 24 = .ok (.if_icmp .ne 7, 3) := by decide +kernel
theorem dX12_isNumber_27 : decode cX12_isNumber 27 = .ok (.iconst 1, 1) := by decide +kernel
theorem dX12_isNumber_28 : decode cX12_isNumber 28 = .ok (.goto 4, 3) := by decide +kernel
theorem dX12_isNumber_31 : decode cX12_isNumber 31 = .ok (.iconst 0, 1) := by decide +kernel
theorem dX12_isNumber_32 : decode cX12_isNumber 32 = .ok (.ireturn, 1) := by decide +kernel
theorem dX12_reads_0 : decode cX12_reads 0 = .ok (.aload_n 0, 1) := by decide +kernel
theorem dX12_reads_1 : decode cX12_reads 1 = .ok (.invokevirtual 114, 3) := by decide +kernel
theorem dX12_reads_4 : decode cX12_reads 4 = .ok (.ifCond .eq 16, 3) := by decide +kernel
theorem dX12_reads_7 : decode cX12_reads 7 = .ok (.aload_n 0, 1) := by decide +kernel
theorem dX12_reads_8 : decode cX12_reads 8 = .ok (.getfield 81, 3) := by decide +kernel
theorem dX12_reads_11 : decode cX12_reads 11 = .ok (.aload_n 0, 1) := by decide +kernel
theorem dX12_reads_12 : decode cX12_reads 12 = .ok (.getfield 74, 3) := by decide +kernel
theorem dX12_reads_15 : decode cX12_reads 15 = .ok (.isub, 1) := by decide +kernel
theorem dX12_reads_16 : decode cX12_reads 16 = .ok (.iconst 3, 1) := by decide +kernel
theorem dX12_reads_17 : decode cX12_reads 17 = .ok (.if_icmp .le 5, 3) := by decide +kernel
theorem dX12_reads_20 : decode cX12_reads 20 = .ok (.iconst 0, 1) := by decide +kernel
theorem dX12_reads_21 : decode cX12_reads 21 = .ok (.ireturn, 1) := by decide +kernel
theorem dX12_reads_22 : decode cX12_reads 22 = .ok (.iconst 0, 1) := by decide +kernel
theorem dX12_reads_23 : decode cX12_reads 23 = .ok (.istore_n 3, 1) := by decide +kernel
theorem dX12_reads_24 : decode cX12_reads 24 = .ok (.aload_n 0, 1) := by decide +kernel
theorem dX12_reads_25 : decode cX12_reads 25 = .ok (.getfield 74, 3) := by decide +kernel
theorem dX12_reads_28 : decode cX12_reads 28 = .ok (.istore 4, 2) := by decide +kernel
theorem dX12_reads_30 : decode cX12_reads 30 = .ok (.iload 4, 2) := by decide +kernel
theorem dX12_reads_32 : decode cX12_reads 32 = .ok (.aload_n 0, 1) := by decide +kernel
theorem dX12_reads_33 : decode cX12_reads 33 = .ok (.getfield 81, 3) := by decide +kernel
theorem dX12_reads_36 : decode cX12_reads 36 = .ok (.if_icmp .ge 25, 3) := by decide +kernel
theorem dX12_reads_39 : decode cX12_reads 39 = .ok (.bipush 10, 2) := by decide +kernel
theorem dX12_reads_41 : decode cX12_reads 41 = .ok (.iload_n 3, 1) := by decide +kernel
theorem dX12_reads_42 : decode cX12_reads 42 = .ok (.imul, 1) := by decide +kernel
theorem dX12_reads_43 : decode cX12_reads 43 = .ok (.aload_n 0, 1) := by decide +kernel
theorem dX12_reads_44 : decode cX12_reads 44 = .ok (.getfield 17, 3) := by decide +kernel
theorem dX12_reads_47 : decode cX12_reads 47 = .ok (.iload 4, 2) := by decide +kernel
theorem dX12_reads_49 : decode cX12_reads 49 = .ok (.iaload, 1) := by decide +kernel
theorem dX12_reads_50 : decode cX12_reads 50 = .ok (.iadd, 1) := by decide +kernel
theorem dX12_reads_51 : decode cX12_reads 51 = .ok (.bipush 48, 2) := by decide +kernel
theorem dX12_reads_53 : decode cX12_reads 53 = .ok (.isub, 1) := by decide +kernel
theorem dX12_reads_54 : decode cX12_reads 54 = .ok (.istore_n 3, 1) := by decide +kernel
theorem dX12_reads_55 : decode cX12_reads 55 = .ok (.iinc 4 1, 3) := by decide +kernel
theorem dX12_reads_58 : decode cX12_reads 58 = .ok (.goto (-28), 3) := by decide +kernel
theorem dX12_reads_61 : decode cX12_reads 61 = .ok (.iload_n 3, 1) := by decide +kernel
theorem dX12_reads_62 : decode cX12_reads 62 = .ok (.i2l, 1) := by decide +kernel
theorem dX12_reads_63 : decode cX12_reads 63 = .ok (.iload_n 1, 1) := by decide +kernel
theorem dX12_reads_64 : decode cX12_reads 64 = .ok (.i2l, 1) := by decide +kernel
theorem dX12_reads_65 : decode cX12_reads 65 = .ok (.iload_n 2, 1) := by decide +kernel
theorem dX12_reads_66 : decode cX12_reads 66 = .ok (.i2l, 1) := by decide +kernel
theorem dX12_reads_67 : decode cX12_reads 67 = .ok (.invokestatic 62, 3) := by decide +kernel
theorem dX12_reads_70 : decode cX12_reads 70 = .ok (.ifCond .ne 5, 3) := by decide +kernel
theorem dX12_reads_73 : decode cX12_reads 73 = .ok (.iconst 0, 1) := by decide +kernel
theorem dX12_reads_74 : decode cX12_reads 74 = .ok (.ireturn, 1) := by decide +kernel
theorem dX12_reads_75 : decode cX12_reads 75 = .ok (.bipush 12, 2) := by decide +kernel
theorem dX12_reads_77 : decode cX12_reads 77 = .ok (.aload_n 0, 1) := by decide +kernel
theorem dX12_reads_78 : decode cX12_reads 78 = .ok (.getfield 118, 3) := by decide +kernel
theorem dX12_reads_81 : decode cX12_reads 81 = .ok (.imul, 1) := by decide +kernel
theorem dX12_reads_82 : decode cX12_reads 82 = .ok (.istore 4, 2) := by decide +kernel
theorem dX12_reads_84 : decode cX12_reads 84 = .ok (.aload_n 0, 1) := by decide +kernel
theorem dX12_reads_85 : decode cX12_reads 85 = .ok (.getfield 20, 3) := by decide +kernel
theorem dX12_reads_88 : decode cX12_reads 88 = .ok (.iload 4, 2) := by decide +kernel
theorem dX12_reads_90 : decode cX12_reads 90 = .ok (.iconst 2, 1) := by decide +kernel
theorem dX12_reads_91 : decode cX12_reads 91 = .ok (.iadd, 1) := by decide +kernel
theorem dX12_reads_92 : decode cX12_reads 92 = .ok (.aload_n 0, 1) := by decide +kernel
theorem dX12_reads_93 : decode cX12_reads 93 = .ok (.getfield 20, 3) := by decide +kernel
theorem dX12_reads_96 : decode cX12_reads 96 = .ok (.iload 4, 2) := by decide +kernel
theorem dX12_reads_98 : decode cX12_reads 98 = .ok (.iconst 1, 1) := by decide +kernel
theorem dX12_reads_99 : decode cX12_reads 99 = .ok (.iadd, 1) := by decide +kernel
theorem dX12_reads_100 : decode cX12_reads 100 = .ok (.iaload, 1) := by decide +kernel
theorem dX12_reads_101 : decode cX12_reads 101 = .ok (.iadd, 1) := by decide +kernel
theorem dX12_reads_102 : decode cX12_reads 102 = .ok (.iload_n 3, 1) := by decide +kernel
theorem dX12_reads_103 : decode cX12_reads 103 = .ok (.iastore, 1) := by decide +kernel
theorem dX12_reads_104 : decode cX12_reads 104 = .ok (.aload_n 0, 1) := by decide +kernel
theorem dX12_reads_105 : decode cX12_reads 105 = .ok (.getfield 20, 3) := by decide +kernel
theorem dX12_reads_108 : decode cX12_reads 108 = .ok (.iload 4, 2) := by decide +kernel
theorem dX12_reads_110 : decode cX12_reads 110 = .ok (.iconst 1, 1) := by decide +kernel
theorem dX12_reads_111 : decode cX12_reads 111 = .ok (.iadd, 1) := by decide +kernel
theorem dX12_reads_112 : decode cX12_reads 112 = .ok (.dup2, 1) := by decide +kernel
theorem dX12_reads_113 : decode cX12_reads 113 = .ok (.iaload, 1) := by decide +kernel
theorem dX12_reads_114 : decode cX12_reads 114 = .ok (.iconst 1, 1) := by decide +kernel
theorem dX12_reads_115 : decode cX12_reads 115 = .ok (.iadd, 1) := by decide +kernel
theorem dX12_reads_116 : decode cX12_reads 116 = .ok (.iastore, 1) := by decide +kernel
theorem dX12_reads_117 : decode cX12_reads 117 = .ok (.aload_n 0, 1) := by decide +kernel
theorem dX12_reads_118 : decode cX12_reads 118 = .ok (.invokevirtual 121, 3) := by decide +kernel
theorem dX12_reads_121 : decode cX12_reads 121 = .ok (.iconst 1, 1) := by decide +kernel
theorem dX12_reads_122 : decode cX12_reads 122 = .ok (.ireturn, 1) := by decide +kernel
theorem dX12_readsCoins_0 : decode cX12_readsCoins 0 = .ok (.bipush 12, 2) := by decide +kernel
theorem dX12_readsCoins_2 : decode cX12_readsCoins 2 = .ok (.aload_n 0, 1) := by decide +kernel
theorem dX12_readsCoins_3 : decode cX12_readsCoins 3 = .ok (.getfield 118, 3) := by decide +kernel
theorem dX12_readsCoins_6 : decode cX12_readsCoins 6 = .ok (.imul, 1) := by decide +kernel
theorem dX12_readsCoins_7 : decode cX12_readsCoins 7 = .ok (.istore_n 1, 1) := by decide +kernel
theorem dX12_readsCoins_8 : decode cX12_readsCoins 8 = .ok (.iconst 1, 1) := by decide +kernel
theorem dX12_readsCoins_9 : decode cX12_readsCoins 9 = .ok (.istore_n 2, 1) := by decide +kernel
theorem dX12_readsCoins_10 : decode cX12_readsCoins 10 = .ok (.aload_n 0, 1) := by decide +kernel
theorem dX12_readsCoins_11 : decode cX12_readsCoins 11 = .ok (.getfield 20, 3) := by decide +kernel
theorem dX12_readsCoins_14 : decode cX12_readsCoins 14 = .ok (.iload_n 1, 1) := by decide +kernel
theorem dX12_readsCoins_15 : decode cX12_readsCoins 15 = .ok (.iconst 1, 1) := by decide +kernel
theorem dX12_readsCoins_16 : decode cX12_readsCoins 16 = .ok (.iadd, 1) := by decide +kernel
theorem dX12_readsCoins_17 : decode cX12_readsCoins 17 = .ok (.iaload, 1) := by decide +kernel
theorem dX12_readsCoins_18 : decode cX12_readsCoins 18 = .ok (.ifCond .eq 23, 3) := by decide +kernel
theorem dX12_readsCoins_21 : decode cX12_readsCoins 21 = .ok (.aload_n 0, 1) := by decide +kernel
theorem dX12_readsCoins_22 : decode cX12_readsCoins 22 = .ok (.invokevirtual 114, 3) := by decide +kernel
theorem dX12_readsCoins_25 : decode cX12_readsCoins 25 = .ok (.ifCond .eq 52, 3) := by decide +kernel
theorem dX12_readsCoins_28 : decode cX12_readsCoins 28 = .ok (.aload_n 0, 1) := by decide +kernel
theorem dX12_readsCoins_29 : decode cX12_readsCoins 29 = .ok (.getfield 20, 3) := by decide +kernel
theorem dX12_readsCoins_32 : decode cX12_readsCoins 32 = .ok (.iload_n 1, 1) := by decide +kernel
theorem dX12_readsCoins_33 : decode cX12_readsCoins 33 = .ok (.iconst 1, 1) := by decide +kernel
theorem dX12_readsCoins_34 : decode cX12_readsCoins 34 = .ok (.iadd, 1) := by decide +kernel
theorem dX12_readsCoins_35 : decode cX12_readsCoins 35 = .ok (.iaload, 1) := by decide +kernel
theorem dX12_readsCoins_36 : decode cX12_readsCoins 36 = .ok (.bipush 6, 2) := by decide +kernel
theorem dX12_readsCoins_38 : decode cX12_readsCoins 38 = .ok (.if_icmp .ge 39, 3) := by decide +kernel
theorem dX12_readsCoins_41 : decode cX12_readsCoins 41 = .ok (.aload_n 0, 1) := by decide +kernel
theorem dX12_readsCoins_42 : decode cX12_readsCoins 42 = .ok (.iload_n 2, 1) := by decide +kernel
theorem dX12_readsCoins_43 : decode cX12_readsCoins 43 = .ok (.sipush 999, 3) := by decide +kernel
theorem dX12_readsCoins_46 : decode cX12_readsCoins 46 = .ok (.invokevirtual 124, 3) := by decide +kernel
theorem dX12_readsCoins_49 : decode cX12_readsCoins 49 = .ok (.ifCond .ne 5, 3) := by decide +kernel
theorem dX12_readsCoins_52 : decode cX12_readsCoins 52 = .ok (.iconst 0, 1) := by decide +kernel
theorem dX12_readsCoins_53 : decode cX12_readsCoins 53 = .ok (.ireturn, 1) := by decide +kernel
theorem dX12_readsCoins_54 : decode cX12_readsCoins 54 = .ok (.aload_n 0, 1) := by decide +kernel
theorem dX12_readsCoins_55 : decode cX12_readsCoins 55 = .ok (.getfield 20, 3) := by decide +kernel
theorem dX12_readsCoins_58 : decode cX12_readsCoins 58 = .ok (.iload_n 1, 1) := by decide +kernel
theorem dX12_readsCoins_59 : decode cX12_readsCoins 59 = .ok (.iconst 1, 1) := by decide +kernel
theorem dX12_readsCoins_60 : decode cX12_readsCoins 60 = .ok (.iadd, 1) := by decide +kernel
theorem dX12_readsCoins_61 : decode cX12_readsCoins 61 = .ok (.aload_n 0, 1) := by decide +kernel
theorem dX12_readsCoins_62 : decode cX12_readsCoins 62 = .ok (.getfield 20, 3) := by decide +kernel
theorem dX12_readsCoins_65 : decode cX12_readsCoins 65 = .ok (.iload_n 1, 1) := by decide +kernel
theorem dX12_readsCoins_66 : decode cX12_readsCoins 66 = .ok (.iconst 1, 1) := by decide +kernel
theorem dX12_readsCoins_67 : decode cX12_readsCoins 67 = .ok (.iadd, 1) := by decide +kernel
theorem dX12_readsCoins_68 : decode cX12_readsCoins 68 = .ok (.iaload, 1) := by decide +kernel
theorem dX12_readsCoins_69 : decode cX12_readsCoins 69 = .ok (.iadd, 1) := by decide +kernel
theorem dX12_readsCoins_70 : decode cX12_readsCoins 70 = .ok (.iaload, 1) := by decide +kernel
theorem dX12_readsCoins_71 : decode cX12_readsCoins 71 = .ok (.iconst 1, 1) := by decide +kernel
theorem dX12_readsCoins_72 : decode cX12_readsCoins 72 = .ok (.iadd, 1) := by decide +kernel
theorem dX12_readsCoins_73 : decode cX12_readsCoins 73 = .ok (.istore_n 2, 1) := by decide +kernel
theorem dX12_readsCoins_74 : decode cX12_readsCoins 74 = .ok (.goto (-64), 3) := by decide +kernel
theorem dX12_readsCoins_77 : decode cX12_readsCoins 77 = .ok (.iconst 1, 1) := by decide +kernel
theorem dX12_readsCoins_78 : decode cX12_readsCoins 78 = .ok (.ireturn, 1) := by decide +kernel
theorem dX12_readsCome_0 : decode cX12_readsCome 0 = .ok (.bipush 12, 2) := by decide +kernel
theorem dX12_readsCome_2 : decode cX12_readsCome 2 = .ok (.aload_n 0, 1) := by decide +kernel
theorem dX12_readsCome_3 : decode cX12_readsCome 3 = .ok (.getfield 118, 3) := by decide +kernel
theorem dX12_readsCome_6 : decode cX12_readsCome 6 = .ok (.imul, 1) := by decide +kernel
theorem dX12_readsCome_7 : decode cX12_readsCome 7 = .ok (.istore_n 1, 1) := by decide +kernel
theorem dX12_readsCome_8 : decode cX12_readsCome 8 = .ok (.aload_n 0, 1) := by decide +kernel
theorem dX12_readsCome_9 : decode cX12_readsCome 9 = .ok (.getfield 20, 3) := by decide +kernel
theorem dX12_readsCome_12 : decode cX12_readsCome 12 = .ok (.iload_n 1, 1) := by decide +kernel
theorem dX12_readsCome_13 : decode cX12_readsCome 13 = .ok (.iconst 1, 1) := by decide +kernel
theorem dX12_readsCome_14 : decode cX12_readsCome 14 = .ok (.iadd, 1) := by decide +kernel
theorem dX12_readsCome_15 : decode cX12_readsCome 15 = .ok (.iaload, 1) := by decide +kernel
theorem dX12_readsCome_16 : decode cX12_readsCome 16 = .ok (.ifCond .eq 23, 3) := by decide +kernel
theorem dX12_readsCome_19 : decode cX12_readsCome 19 = .ok (.aload_n 0, 1) := by decide +kernel
theorem dX12_readsCome_20 : decode cX12_readsCome 20 = .ok (.invokevirtual 114, 3) := by decide +kernel
theorem dX12_readsCome_23 : decode cX12_readsCome 23 = .ok (.ifCond .eq 45, 3) := by decide +kernel
theorem dX12_readsCome_26 : decode cX12_readsCome 26 = .ok (.aload_n 0, 1) := by decide +kernel
theorem dX12_readsCome_27 : decode cX12_readsCome 27 = .ok (.getfield 20, 3) := by decide +kernel
theorem dX12_readsCome_30 : decode cX12_readsCome 30 = .ok (.iload_n 1, 1) := by decide +kernel
theorem dX12_readsCome_31 : decode cX12_readsCome 31 = .ok (.iconst 1, 1) := by decide +kernel
theorem dX12_readsCome_32 : decode cX12_readsCome 32 = .ok (.iadd, 1) := by decide +kernel
theorem dX12_readsCome_33 : decode cX12_readsCome 33 = .ok (.iaload, 1) := by decide +kernel
theorem dX12_readsCome_34 : decode cX12_readsCome 34 = .ok (.bipush 9, 2) := by decide +kernel
theorem dX12_readsCome_36 : decode cX12_readsCome 36 = .ok (.if_icmp .ge 32, 3) := by decide +kernel
theorem dX12_readsCome_39 : decode cX12_readsCome 39 = .ok (.aload_n 0, 1) := by decide +kernel
theorem dX12_readsCome_40 : decode cX12_readsCome 40 = .ok (.getfield 128, 3) := by decide +kernel
theorem dX12_readsCome_43 : decode cX12_readsCome 43 = .ok (.aload_n 0, 1) := by decide +kernel
theorem dX12_readsCome_44 : decode cX12_readsCome 44 = .ok (.getfield 20, 3) := by decide +kernel
theorem dX12_readsCome_47 : decode cX12_readsCome 47 = .ok (.iload_n 1, 1) := by decide +kernel
theorem dX12_readsCome_48 : decode cX12_readsCome 48 = .ok (.iconst 1, 1) := by decide +kernel
theorem dX12_readsCome_49 : decode cX12_readsCome 49 = .ok (.iadd, 1) := by decide +kernel
theorem dX12_readsCome_50 : decode cX12_readsCome 50 = .ok (.iaload, 1) := by decide +kernel
theorem dX12_readsCome_51 : decode cX12_readsCome 51 = .ok (.iadd, 1) := by decide +kernel
theorem dX12_readsCome_52 : decode cX12_readsCome 52 = .ok (.bipush 24, 2) := by decide +kernel
theorem dX12_readsCome_54 : decode cX12_readsCome 54 = .ok (.if_icmp .eq 12, 3) := by decide +kernel
theorem dX12_readsCome_57 : decode cX12_readsCome 57 = .ok (.aload_n 0, 1) := by decide +kernel
theorem dX12_readsCome_58 : decode cX12_readsCome 58 = .ok (.iconst 0, 1) := by decide +kernel
theorem dX12_readsCome_59 : decode cX12_readsCome 59 = .ok (.iconst 3, 1) := by decide +kernel
theorem dX12_readsCome_60 : decode cX12_readsCome 60 = .ok (.invokevirtual 124, 3) := by decide +kernel
theorem dX12_readsCome_63 : decode cX12_readsCome 63 = .ok (.ifCond .ne (-55), 3) := by decide +kernel
theorem dX12_readsCome_66 : decode cX12_readsCome 66 = .ok (.iconst 0, 1) := by decide +kernel
theorem dX12_readsCome_67 : decode cX12_readsCome 67 = .ok (.ireturn, 1) := by decide +kernel
theorem dX12_readsCome_68 : decode cX12_readsCome 68 = .ok (.iconst 1, 1) := by decide +kernel
theorem dX12_readsCome_69 : decode cX12_readsCome 69 = .ok (.ireturn, 1) := by decide +kernel
theorem dX12_readsRest_0 : decode cX12_readsRest 0 = .ok (.iload_n 1, 1) := by decide +kernel
theorem dX12_readsRest_1 : decode cX12_readsRest 1 = .ok (.tableswitch 161 0 9 #[55, 60, 90, 161, 161, 129, 161, 154, 161, 159], 55) := by decide +kernel
theorem dX12_readsRest_56 : decode cX12_readsRest 56 = .ok (.aload_n 0, 1) := by decide +kernel
theorem dX12_readsRest_57 : decode cX12_readsRest 57 = .ok (.invokevirtual 131, 3) := by decide +kernel
theorem dX12_readsRest_60 : decode cX12_readsRest 60 = .ok (.ireturn, 1) := by decide +kernel
theorem dX12_readsRest_61 : decode cX12_readsRest 61 = .ok (.aload_n 0, 1) := by decide +kernel
theorem dX12_readsRest_62 : decode cX12_readsRest 62 = .ok (.iconst 0, 1) := by decide +kernel
theorem dX12_readsRest_63 : decode cX12_readsRest 63 = .ok (.aload_n 0, 1) := by decide +kernel
theorem dX12_readsRest_64 : decode cX12_readsRest 64 = .ok (.getfield 134, 3) := by decide +kernel
theorem dX12_readsRest_67 : decode cX12_readsRest 67 = .ok (.iconst 1, 1) := by decide +kernel
theorem dX12_readsRest_68 : decode cX12_readsRest 68 = .ok (.isub, 1) := by decide +kernel
theorem dX12_readsRest_69 : decode cX12_readsRest 69 = .ok (.invokevirtual 124, 3) := by decide +kernel
theorem dX12_readsRest_72 : decode cX12_readsRest 72 = .ok (.ifCond .eq 17, 3) := by decide +kernel
theorem dX12_readsRest_75 : decode cX12_readsRest 75 = .ok (.aload_n 0, 1) := by decide +kernel
theorem dX12_readsRest_76 : decode cX12_readsRest 76 = .ok (.iconst 0, 1) := by decide +kernel
theorem dX12_readsRest_77 : decode cX12_readsRest 77 = .ok (.bipush 20, 2) := by decide +kernel
theorem dX12_readsRest_79 : decode cX12_readsRest 79 = .ok (.invokevirtual 124, 3) := by decide +kernel
theorem dX12_readsRest_82 : decode cX12_readsRest 82 = .ok (.ifCond .eq 7, 3) := by decide +kernel
theorem dX12_readsRest_85 : decode cX12_readsRest 85 = .ok (.iconst 1, 1) := by decide +kernel
theorem dX12_readsRest_86 : decode cX12_readsRest 86 = .ok (.goto 4, 3) := by decide +kernel
theorem dX12_readsRest_89 : decode cX12_readsRest 89 = .ok (.iconst 0, 1) := by decide +kernel
theorem dX12_readsRest_90 : decode cX12_readsRest 90 = .ok (.ireturn, 1) := by decide +kernel
theorem dX12_readsRest_91 : decode cX12_readsRest 91 = .ok (.aload_n 0, 1) := by decide +kernel
theorem dX12_readsRest_92 : decode cX12_readsRest 92 = .ok (.iconst 0, 1) := by decide +kernel
theorem dX12_readsRest_93 : decode cX12_readsRest 93 = .ok (.iconst 3, 1) := by decide +kernel
theorem dX12_readsRest_94 : decode cX12_readsRest 94 = .ok (.invokevirtual 124, 3) := by decide +kernel
theorem dX12_readsRest_97 : decode cX12_readsRest 97 = .ok (.ifCond .eq 31, 3) := by decide +kernel
theorem dX12_readsRest_100 : decode cX12_readsRest 100 = .ok (.aload_n 0, 1) := by decide +kernel
theorem dX12_readsRest_101 : decode cX12_readsRest 101 = .ok (.iconst 0, 1) := by decide +kernel
theorem dX12_readsRest_102 : decode cX12_readsRest 102 = .ok (.aload_n 0, 1) := by decide +kernel
theorem dX12_readsRest_103 : decode cX12_readsRest 103 = .ok (.getfield 134, 3) := by decide +kernel
theorem dX12_readsRest_106 : decode cX12_readsRest 106 = .ok (.iconst 1, 1) := by decide +kernel
theorem dX12_readsRest_107 : decode cX12_readsRest 107 = .ok (.isub, 1) := by decide +kernel
theorem dX12_readsRest_108 : decode cX12_readsRest 108 = .ok (.invokevirtual 124, 3) := by decide +kernel
theorem dX12_readsRest_111 : decode cX12_readsRest 111 = .ok (.ifCond .eq 17, 3) := by decide +kernel
theorem dX12_readsRest_114 : decode cX12_readsRest 114 = .ok (.aload_n 0, 1) := by decide +kernel
theorem dX12_readsRest_115 : decode cX12_readsRest 115 = .ok (.iconst 0, 1) := by decide +kernel
theorem dX12_readsRest_116 : decode cX12_readsRest 116 = .ok (.bipush 20, 2) := by decide +kernel
theorem dX12_readsRest_118 : decode cX12_readsRest 118 = .ok (.invokevirtual 124, 3) := by decide +kernel
theorem dX12_readsRest_121 : decode cX12_readsRest 121 = .ok (.ifCond .eq 7, 3) := by decide +kernel
theorem dX12_readsRest_124 : decode cX12_readsRest 124 = .ok (.iconst 1, 1) := by decide +kernel
theorem dX12_readsRest_125 : decode cX12_readsRest 125 = .ok (.goto 4, 3) := by decide +kernel
theorem dX12_readsRest_128 : decode cX12_readsRest 128 = .ok (.iconst 0, 1) := by decide +kernel
theorem dX12_readsRest_129 : decode cX12_readsRest 129 = .ok (.ireturn, 1) := by decide +kernel
theorem dX12_readsRest_130 : decode cX12_readsRest 130 = .ok (.aload_n 0, 1) := by decide +kernel
theorem dX12_readsRest_131 : decode cX12_readsRest 131 = .ok (.iconst 0, 1) := by decide +kernel
theorem dX12_readsRest_132 : decode cX12_readsRest 132 = .ok (.iconst 3, 1) := by decide +kernel
theorem dX12_readsRest_133 : decode cX12_readsRest 133 = .ok (.invokevirtual 124, 3) := by decide +kernel
theorem dX12_readsRest_136 : decode cX12_readsRest 136 = .ok (.ifCond .eq 17, 3) := by decide +kernel
theorem dX12_readsRest_139 : decode cX12_readsRest 139 = .ok (.aload_n 0, 1) := by decide +kernel
theorem dX12_readsRest_140 : decode cX12_readsRest 140 = .ok (.iconst 0, 1) := by decide +kernel
theorem dX12_readsRest_141 : decode cX12_readsRest 141 = .ok (.bipush 99, 2) := by decide +kernel
theorem dX12_readsRest_143 : decode cX12_readsRest 143 = .ok (.invokevirtual 124, 3) := by decide +kernel
theorem dX12_readsRest_146 : decode cX12_readsRest 146 = .ok (.ifCond .eq 7, 3) := by decide +kernel
theorem dX12_readsRest_149 : decode cX12_readsRest 149 = .ok (.iconst 1, 1) := by decide +kernel
theorem dX12_readsRest_150 : decode cX12_readsRest 150 = .ok (.goto 4, 3) := by decide +kernel
theorem dX12_readsRest_153 : decode cX12_readsRest 153 = .ok (.iconst 0, 1) := by decide +kernel
theorem dX12_readsRest_154 : decode cX12_readsRest 154 = .ok (.ireturn, 1) := by decide +kernel
theorem dX12_readsRest_155 : decode cX12_readsRest 155 = .ok (.aload_n 0, 1) := by decide +kernel
theorem dX12_readsRest_156 : decode cX12_readsRest 156 = .ok (.invokevirtual 137, 3) := by decide +kernel
theorem dX12_readsRest_159 : decode cX12_readsRest 159 = .ok (.ireturn, 1) := by decide +kernel
theorem dX12_readsRest_160 : decode cX12_readsRest 160 = .ok (.iconst 1, 1) := by decide +kernel
theorem dX12_readsRest_161 : decode cX12_readsRest 161 = .ok (.ireturn, 1) := by decide +kernel
theorem dX12_readsRest_162 : decode cX12_readsRest 162 = .ok (.aload_n 0, 1) := by decide +kernel
theorem dX12_readsRest_163 : decode cX12_readsRest 163 = .ok (.iconst 0, 1) := by decide +kernel
theorem dX12_readsRest_164 : decode cX12_readsRest 164 = .ok (.iconst 3, 1) := by decide +kernel
theorem dX12_readsRest_165 : decode cX12_readsRest 165 = .ok (.invokevirtual 124, 3) := by decide +kernel
theorem dX12_readsRest_168 : decode cX12_readsRest 168 = .ok (.ireturn, 1) := by decide +kernel
theorem dX12_readsLine_0 : decode cX12_readsLine 0 = .ok (.aload_n 0, 1) := by decide +kernel
theorem dX12_readsLine_1 : decode cX12_readsLine 1 = .ok (.invokevirtual 140, 3) := by decide +kernel
theorem dX12_readsLine_4 : decode cX12_readsLine 4 = .ok (.istore_n 1, 1) := by decide +kernel
theorem dX12_readsLine_5 : decode cX12_readsLine 5 = .ok (.iload_n 1, 1) := by decide +kernel
theorem dX12_readsLine_6 : decode cX12_readsLine 6 = .ok (.iconst (-1), 1) := by decide +kernel
theorem dX12_readsLine_7 : decode cX12_readsLine 7 = .ok (.if_icmp .ne 5, 3) := by decide +kernel
theorem dX12_readsLine_10 : decode cX12_readsLine 10 = .ok (.iconst 0, 1) := by decide +kernel
theorem dX12_readsLine_11 : decode cX12_readsLine 11 = .ok (.ireturn, 1) := by decide +kernel
theorem dX12_readsLine_12 : decode cX12_readsLine 12 = .ok (.bipush 12, 2) := by decide +kernel
theorem dX12_readsLine_14 : decode cX12_readsLine 14 = .ok (.aload_n 0, 1) := by decide +kernel
theorem dX12_readsLine_15 : decode cX12_readsLine 15 = .ok (.getfield 118, 3) := by decide +kernel
theorem dX12_readsLine_18 : decode cX12_readsLine 18 = .ok (.imul, 1) := by decide +kernel
theorem dX12_readsLine_19 : decode cX12_readsLine 19 = .ok (.istore_n 2, 1) := by decide +kernel
theorem dX12_readsLine_20 : decode cX12_readsLine 20 = .ok (.aload_n 0, 1) := by decide +kernel
theorem dX12_readsLine_21 : decode cX12_readsLine 21 = .ok (.getfield 20, 3) := by decide +kernel
theorem dX12_readsLine_24 : decode cX12_readsLine 24 = .ok (.iload_n 2, 1) := by decide +kernel
theorem dX12_readsLine_25 : decode cX12_readsLine 25 = .ok (.iload_n 1, 1) := by decide +kernel
theorem dX12_readsLine_26 : decode cX12_readsLine 26 = .ok (.iastore, 1) := by decide +kernel
theorem dX12_readsLine_27 : decode cX12_readsLine 27 = .ok (.aload_n 0, 1) := by decide +kernel
theorem dX12_readsLine_28 : decode cX12_readsLine 28 = .ok (.getfield 20, 3) := by decide +kernel
theorem dX12_readsLine_31 : decode cX12_readsLine 31 = .ok (.iload_n 2, 1) := by decide +kernel
theorem dX12_readsLine_32 : decode cX12_readsLine 32 = .ok (.iconst 1, 1) := by decide +kernel
theorem dX12_readsLine_33 : decode cX12_readsLine 33 = .ok (.iadd, 1) := by decide +kernel
theorem dX12_readsLine_34 : decode cX12_readsLine 34 = .ok (.iconst 0, 1) := by decide +kernel
theorem dX12_readsLine_35 : decode cX12_readsLine 35 = .ok (.iastore, 1) := by decide +kernel
theorem dX12_readsLine_36 : decode cX12_readsLine 36 = .ok (.aload_n 0, 1) := by decide +kernel
theorem dX12_readsLine_37 : decode cX12_readsLine 37 = .ok (.invokevirtual 121, 3) := by decide +kernel
theorem dX12_readsLine_40 : decode cX12_readsLine 40 = .ok (.aload_n 0, 1) := by decide +kernel
theorem dX12_readsLine_41 : decode cX12_readsLine 41 = .ok (.iload_n 1, 1) := by decide +kernel
theorem dX12_readsLine_42 : decode cX12_readsLine 42 = .ok (.invokevirtual 143, 3) := by decide +kernel
theorem dX12_readsLine_45 : decode cX12_readsLine 45 = .ok (.ifCond .ne 5, 3) := by decide +kernel
theorem dX12_readsLine_48 : decode cX12_readsLine 48 = .ok (.iconst 0, 1) := by decide +kernel
theorem dX12_readsLine_49 : decode cX12_readsLine 49 = .ok (.ireturn, 1) := by decide +kernel
theorem dX12_readsLine_50 : decode cX12_readsLine 50 = .ok (.aload_n 0, 1) := by decide +kernel
theorem dX12_readsLine_51 : decode cX12_readsLine 51 = .ok (.iload_n 1, 1) := by decide +kernel
theorem dX12_readsLine_52 : decode cX12_readsLine 52 = .ok (.ifCond .ne 14, 3) := by decide +kernel
theorem dX12_readsLine_55 : decode cX12_readsLine 55 = .ok (.aload_n 0, 1) := by decide +kernel
theorem dX12_readsLine_56 : decode cX12_readsLine 56 = .ok (.getfield 20, 3) := by decide +kernel
theorem dX12_readsLine_59 : decode cX12_readsLine 59 = .ok (.iload_n 2, 1) := by decide +kernel
theorem dX12_readsLine_60 : decode cX12_readsLine 60 = .ok (.iconst 1, 1) := by decide +kernel
theorem dX12_readsLine_61 : decode cX12_readsLine 61 = .ok (.iadd, 1) := by decide +kernel
theorem dX12_readsLine_62 : decode cX12_readsLine 62 = .ok (.iaload, 1) := by decide +kernel
theorem dX12_readsLine_63 : decode cX12_readsLine 63 = .ok (.goto 7, 3) := by decide +kernel
theorem dX12_readsLine_66 : decode cX12_readsLine 66 = .ok (.aload_n 0, 1) := by decide +kernel
theorem dX12_readsLine_67 : decode cX12_readsLine 67 = .ok (.getfield 134, 3) := by decide +kernel
theorem dX12_readsLine_70 : decode cX12_readsLine 70 = .ok (.putfield 134, 3) := by decide +kernel
theorem dX12_readsLine_73 : decode cX12_readsLine 73 = .ok (.aload_n 0, 1) := by decide +kernel
theorem dX12_readsLine_74 : decode cX12_readsLine 74 = .ok (.iload_n 1, 1) := by decide +kernel
theorem dX12_readsLine_75 : decode cX12_readsLine 75 = .ok (.bipush 7, 2) := by decide +kernel
theorem dX12_readsLine_77 : decode cX12_readsLine 77 = .ok (.if_icmp .ne 19, 3) := by decide +kernel
theorem dX12_readsLine_80 : decode cX12_readsLine 80 = .ok (.aload_n 0, 1) := by decide +kernel
theorem dX12_readsLine_81 : decode cX12_readsLine 81 = .ok (.getfield 128, 3) := by decide +kernel
theorem dX12_readsLine_84 : decode cX12_readsLine 84 = .ok (.aload_n 0, 1) := by decide +kernel
theorem dX12_readsLine_85 : decode cX12_readsLine 85 = .ok (.getfield 20, 3) := by decide +kernel
theorem dX12_readsLine_88 : decode cX12_readsLine 88 = .ok (.iload_n 2, 1) := by decide +kernel
theorem dX12_readsLine_89 : decode cX12_readsLine 89 = .ok (.iconst 1, 1) := by decide +kernel
theorem dX12_readsLine_90 : decode cX12_readsLine 90 = .ok (.iadd, 1) := by decide +kernel
theorem dX12_readsLine_91 : decode cX12_readsLine 91 = .ok (.iaload, 1) := by decide +kernel
theorem dX12_readsLine_92 : decode cX12_readsLine 92 = .ok (.iadd, 1) := by decide +kernel
theorem dX12_readsLine_93 : decode cX12_readsLine 93 = .ok (.goto 17, 3) := by decide +kernel
theorem dX12_readsLine_96 : decode cX12_readsLine 96 = .ok (.iload_n 1, 1) := by decide +kernel
theorem dX12_readsLine_97 : decode cX12_readsLine 97 = .ok (.bipush 9, 2) := by decide +kernel
theorem dX12_readsLine_99 : decode cX12_readsLine 99 = .ok (.if_icmp .ne 7, 3) := by decide +kernel
theorem dX12_readsLine_102 : decode cX12_readsLine 102 = .ok (.iconst 0, 1) := by decide +kernel
theorem dX12_readsLine_103 : decode cX12_readsLine 103 = .ok (.goto 7, 3) := by decide +kernel
theorem dX12_readsLine_106 : decode cX12_readsLine 106 = .ok (.aload_n 0, 1) := by decide +kernel
theorem dX12_readsLine_107 : decode cX12_readsLine 107 = .ok (.getfield 128, 3) := by decide +kernel
theorem dX12_readsLine_110 : decode cX12_readsLine 110 = .ok (.putfield 128, 3) := by decide +kernel
theorem dX12_readsLine_113 : decode cX12_readsLine 113 = .ok (.aload_n 0, 1) := by decide +kernel
theorem dX12_readsLine_114 : decode cX12_readsLine 114 = .ok (.dup, 1) := by decide +kernel
theorem dX12_readsLine_115 : decode cX12_readsLine 115 = .ok (.getfield 118, 3) := by decide +kernel
theorem dX12_readsLine_118 : decode cX12_readsLine 118 = .ok (.iconst 1, 1) := by decide +kernel
theorem dX12_readsLine_119 : decode cX12_readsLine 119 = .ok (.iadd, 1) := by decide +kernel
theorem dX12_readsLine_120 : decode cX12_readsLine 120 = .ok (.putfield 118, 3) := by decide +kernel
theorem dX12_readsLine_123 : decode cX12_readsLine 123 = .ok (.iconst 1, 1) := by decide +kernel
theorem dX12_readsLine_124 : decode cX12_readsLine 124 = .ok (.ireturn, 1) := by decide +kernel
theorem dX12_fault_0 : decode cX12_fault 0 = .ok (.aload_n 0, 1) := by decide +kernel
theorem dX12_fault_1 : decode cX12_fault 1 = .ok (.iconst 0, 1) := by decide +kernel
theorem dX12_fault_2 : decode cX12_fault 2 = .ok (.putfield 71, 3) := by decide +kernel
theorem dX12_fault_5 : decode cX12_fault 5 = .ok (.aload_n 0, 1) := by decide +kernel
theorem dX12_fault_6 : decode cX12_fault 6 = .ok (.iconst 0, 1) := by decide +kernel
theorem dX12_fault_7 : decode cX12_fault 7 = .ok (.putfield 118, 3) := by decide +kernel
theorem dX12_fault_10 : decode cX12_fault 10 = .ok (.aload_n 0, 1) := by decide +kernel
theorem dX12_fault_11 : decode cX12_fault 11 = .ok (.aload_n 0, 1) := by decide +kernel
theorem dX12_fault_12 : decode cX12_fault 12 = .ok (.getfield 23, 3) := by decide +kernel
theorem dX12_fault_15 : decode cX12_fault 15 = .ok (.putfield 134, 3) := by decide +kernel
theorem dX12_fault_18 : decode cX12_fault 18 = .ok (.aload_n 0, 1) := by decide +kernel
theorem dX12_fault_19 : decode cX12_fault 19 = .ok (.aload_n 0, 1) := by decide +kernel
theorem dX12_fault_20 : decode cX12_fault 20 = .ok (.getfield 147, 3) := by decide +kernel
theorem dX12_fault_23 : decode cX12_fault 23 = .ok (.putfield 128, 3) := by decide +kernel
theorem dX12_fault_26 : decode cX12_fault 26 = .ok (.aload_n 0, 1) := by decide +kernel
theorem dX12_fault_27 : decode cX12_fault 27 = .ok (.invokevirtual 121, 3) := by decide +kernel
theorem dX12_fault_30 : decode cX12_fault 30 = .ok (.aload_n 0, 1) := by decide +kernel
theorem dX12_fault_31 : decode cX12_fault 31 = .ok (.invokevirtual 150, 3) := by decide +kernel
theorem dX12_fault_34 : decode cX12_fault 34 = .ok (.ifCond .ne 8, 3) := by decide +kernel
theorem dX12_fault_37 : decode cX12_fault 37 = .ok (.aload_n 0, 1) := by decide +kernel
theorem dX12_fault_38 : decode cX12_fault 38 = .ok (.getfield 74, 3) := by decide +kernel
theorem dX12_fault_41 : decode cX12_fault 41 = .ok (.ireturn, 1) := by decide +kernel
theorem dX12_fault_42 : decode cX12_fault 42 = .ok (.aload_n 0, 1) := by decide +kernel
theorem dX12_fault_43 : decode cX12_fault 43 = .ok (.getfield 74, 3) := by decide +kernel
theorem dX12_fault_46 : decode cX12_fault 46 = .ok (.aload_n 0, 1) := by decide +kernel
theorem dX12_fault_47 : decode cX12_fault 47 = .ok (.getfield 66, 3) := by decide +kernel
theorem dX12_fault_50 : decode cX12_fault 50 = .ok (.if_icmp .ge 70, 3) := by decide +kernel
theorem dX12_fault_53 : decode cX12_fault 53 = .ok (.aload_n 0, 1) := by decide +kernel
theorem dX12_fault_54 : decode cX12_fault 54 = .ok (.getfield 81, 3) := by decide +kernel
theorem dX12_fault_57 : decode cX12_fault 57 = .ok (.aload_n 0, 1) := by decide +kernel
theorem dX12_fault_58 : decode cX12_fault 58 = .ok (.getfield 74, 3) := by decide +kernel
theorem dX12_fault_61 : decode cX12_fault 61 = .ok (.isub, 1) := by decide +kernel
theorem dX12_fault_62 : decode cX12_fault 62 = .ok (.iconst 1, 1) := by decide +kernel
theorem dX12_fault_63 : decode cX12_fault 63 = .ok (.if_icmp .ne 30, 3) := by decide +kernel
theorem dX12_fault_66 : decode cX12_fault 66 = .ok (.aload_n 0, 1) := by decide +kernel
theorem dX12_fault_67 : decode cX12_fault 67 = .ok (.getfield 17, 3) := by decide +kernel
theorem dX12_fault_70 : decode cX12_fault 70 = .ok (.aload_n 0, 1) := by decide +kernel
theorem dX12_fault_71 : decode cX12_fault 71 = .ok (.getfield 74, 3) := by decide +kernel
theorem dX12_fault_74 : decode cX12_fault 74 = .ok (.iaload, 1) := by decide +kernel
theorem dX12_fault_75 : decode cX12_fault 75 = .ok (.bipush 59, 2) := by decide +kernel
theorem dX12_fault_77 : decode cX12_fault 77 = .ok (.if_icmp .ne 16, 3) := by decide +kernel
theorem dX12_fault_80 : decode cX12_fault 80 = .ok (.aload_n 0, 1) := by decide +kernel
theorem dX12_fault_81 : decode cX12_fault 81 = .ok (.getfield 118, 3) := by decide +kernel
theorem dX12_fault_84 : decode cX12_fault 84 = .ok (.bipush 10, 2) := by decide +kernel
theorem dX12_fault_86 : decode cX12_fault 86 = .ok (.if_icmp .ge 7, 3) := by decide +kernel
theorem dX12_fault_89 : decode cX12_fault 89 = .ok (.iconst 1, 1) := by decide +kernel
theorem dX12_fault_90 : decode cX12_fault 90 = .ok (.goto 4, 3) := by decide +kernel
theorem dX12_fault_93 : decode cX12_fault 93 = .ok (.iconst 0, 1) := by decide +kernel
theorem dX12_fault_94 : decode cX12_fault 94 = .ok (.istore_n 1, 1) := by decide +kernel
theorem dX12_fault_95 : decode cX12_fault 95 = .ok (.iload_n 1, 1) := by decide +kernel
theorem dX12_fault_96 : decode cX12_fault 96 = .ok (.ifCond .eq 12, 3) := by decide +kernel
theorem dX12_fault_99 : decode cX12_fault 99 = .ok (.aload_n 0, 1) := by decide +kernel
theorem dX12_fault_100 : decode cX12_fault 100 = .ok (.invokevirtual 121, 3) := by decide +kernel
theorem dX12_fault_103 : decode cX12_fault 103 = .ok (.aload_n 0, 1) := by decide +kernel
theorem dX12_fault_104 : decode cX12_fault 104 = .ok (.invokevirtual 150, 3) := by decide +kernel
theorem dX12_fault_107 : decode cX12_fault 107 = .ok (.istore_n 1, 1) := by decide +kernel
theorem dX12_fault_108 : decode cX12_fault 108 = .ok (.iload_n 1, 1) := by decide +kernel
theorem dX12_fault_109 : decode cX12_fault 109 = .ok (.ifCond .ne 8, 3) := by decide +kernel
theorem dX12_fault_112 : decode cX12_fault 112 = .ok (.aload_n 0, 1) := by decide +kernel
theorem dX12_fault_113 : decode cX12_fault 113 = .ok (.getfield 74, 3) := by decide +kernel
theorem dX12_fault_116 : decode cX12_fault 116 = .ok (.ireturn, 1) := by decide +kernel
theorem dX12_fault_117 : decode cX12_fault 117 = .ok (.goto (-75), 3) := by decide +kernel
theorem dX12_fault_120 : decode cX12_fault 120 = .ok (.iconst (-1), 1) := by decide +kernel
theorem dX12_fault_121 : decode cX12_fault 121 = .ok (.ireturn, 1) := by decide +kernel
theorem dX12_tellCoins_0 : decode cX12_tellCoins 0 = .ok (.aload_n 0, 1) := by decide +kernel
theorem dX12_tellCoins_1 : decode cX12_tellCoins 1 = .ok (.aload_n 0, 1) := by decide +kernel
theorem dX12_tellCoins_2 : decode cX12_tellCoins 2 = .ok (.getfield 20, 3) := by decide +kernel
theorem dX12_tellCoins_5 : decode cX12_tellCoins 5 = .ok (.iload_n 1, 1) := by decide +kernel
theorem dX12_tellCoins_6 : decode cX12_tellCoins 6 = .ok (.iconst 1, 1) := by decide +kernel
theorem dX12_tellCoins_7 : decode cX12_tellCoins 7 = .ok (.iadd, 1) := by decide +kernel
theorem dX12_tellCoins_8 : decode cX12_tellCoins 8 = .ok (.iaload, 1) := by decide +kernel
theorem dX12_tellCoins_9 : decode cX12_tellCoins 9 = .ok (.putfield 23, 3) := by decide +kernel
theorem dX12_tellCoins_12 : decode cX12_tellCoins 12 = .ok (.iconst 0, 1) := by decide +kernel
theorem dX12_tellCoins_13 : decode cX12_tellCoins 13 = .ok (.istore_n 2, 1) := by decide +kernel
theorem dX12_tellCoins_14 : decode cX12_tellCoins 14 = .ok (.iload_n 2, 1) := by decide +kernel
theorem dX12_tellCoins_15 : decode cX12_tellCoins 15 = .ok (.aload_n 0, 1) := by decide +kernel
theorem dX12_tellCoins_16 : decode cX12_tellCoins 16 = .ok (.getfield 23, 3) := by decide +kernel
theorem dX12_tellCoins_19 : decode cX12_tellCoins 19 = .ok (.if_icmp .ge 25, 3) := by decide +kernel
theorem dX12_tellCoins_22 : decode cX12_tellCoins 22 = .ok (.aload_n 0, 1) := by decide +kernel
theorem dX12_tellCoins_23 : decode cX12_tellCoins 23 = .ok (.getfield 27, 3) := by decide +kernel
theorem dX12_tellCoins_26 : decode cX12_tellCoins 26 = .ok (.iload_n 2, 1) := by decide +kernel
theorem dX12_tellCoins_27 : decode cX12_tellCoins 27 = .ok (.aload_n 0, 1) := by decide +kernel
theorem dX12_tellCoins_28 : decode cX12_tellCoins 28 = .ok (.getfield 20, 3) := by decide +kernel
theorem dX12_tellCoins_31 : decode cX12_tellCoins 31 = .ok (.iload_n 1, 1) := by decide +kernel
theorem dX12_tellCoins_32 : decode cX12_tellCoins 32 = .ok (.iconst 2, 1) := by decide +kernel
theorem dX12_tellCoins_33 : decode cX12_tellCoins 33 = .ok (.iadd, 1) := by decide +kernel
theorem dX12_tellCoins_34 : decode cX12_tellCoins 34 = .ok (.iload_n 2, 1) := by decide +kernel
theorem dX12_tellCoins_35 : decode cX12_tellCoins 35 = .ok (.iadd, 1) := by decide +kernel
theorem dX12_tellCoins_36 : decode cX12_tellCoins 36 = .ok (.iaload, 1) := by decide +kernel
theorem dX12_tellCoins_37 : decode cX12_tellCoins 37 = .ok (.iastore, 1) := by decide +kernel
theorem dX12_tellCoins_38 : decode cX12_tellCoins 38 = .ok (.iinc 2 1, 3) := by decide +kernel
theorem dX12_tellCoins_41 : decode cX12_tellCoins 41 = .ok (.goto (-27), 3) := by decide +kernel
theorem dX12_tellCoins_44 : decode cX12_tellCoins 44 = .ok (.iconst 0, 1) := by decide +kernel
theorem dX12_tellCoins_45 : decode cX12_tellCoins 45 = .ok (.istore_n 2, 1) := by decide +kernel
theorem dX12_tellCoins_46 : decode cX12_tellCoins 46 = .ok (.iload_n 2, 1) := by decide +kernel
theorem dX12_tellCoins_47 : decode cX12_tellCoins 47 = .ok (.bipush 30, 2) := by decide +kernel
theorem dX12_tellCoins_49 : decode cX12_tellCoins 49 = .ok (.if_icmp .ge 16, 3) := by decide +kernel
theorem dX12_tellCoins_52 : decode cX12_tellCoins 52 = .ok (.aload_n 0, 1) := by decide +kernel
theorem dX12_tellCoins_53 : decode cX12_tellCoins 53 = .ok (.getfield 30, 3) := by decide +kernel
theorem dX12_tellCoins_56 : decode cX12_tellCoins 56 = .ok (.iload_n 2, 1) := by decide +kernel
theorem dX12_tellCoins_57 : decode cX12_tellCoins 57 = .ok (.iconst 0, 1) := by decide +kernel
theorem dX12_tellCoins_58 : decode cX12_tellCoins 58 = .ok (.iastore, 1) := by decide +kernel
theorem dX12_tellCoins_59 : decode cX12_tellCoins 59 = .ok (.iinc 2 1, 3) := by decide +kernel
theorem dX12_tellCoins_62 : decode cX12_tellCoins 62 = .ok (.goto (-16), 3) := by decide +kernel
theorem dX12_tellCoins_65 : decode cX12_tellCoins 65 = .ok (.return_, 1) := by decide +kernel
theorem dX12_tellCome_0 : decode cX12_tellCome 0 = .ok (.iconst 0, 1) := by decide +kernel
theorem dX12_tellCome_1 : decode cX12_tellCome 1 = .ok (.istore_n 2, 1) := by decide +kernel
theorem dX12_tellCome_2 : decode cX12_tellCome 2 = .ok (.iload_n 2, 1) := by decide +kernel
theorem dX12_tellCome_3 : decode cX12_tellCome 3 = .ok (.aload_n 0, 1) := by decide +kernel
theorem dX12_tellCome_4 : decode cX12_tellCome 4 = .ok (.getfield 20, 3) := by decide +kernel
theorem dX12_tellCome_7 : decode cX12_tellCome 7 = .ok (.iload_n 1, 1) := by decide +kernel
theorem dX12_tellCome_8 : decode cX12_tellCome 8 = .ok (.iconst 1, 1) := by decide +kernel
theorem dX12_tellCome_9 : decode cX12_tellCome 9 = .ok (.iadd, 1) := by decide +kernel
theorem dX12_tellCome_10 : decode cX12_tellCome 10 = .ok (.iaload, 1) := by decide +kernel
theorem dX12_tellCome_11 : decode cX12_tellCome 11 = .ok (.if_icmp .ge 38, 3) := by decide +kernel
theorem dX12_tellCome_14 : decode cX12_tellCome 14 = .ok (.aload_n 0, 1) := by decide +kernel
theorem dX12_tellCome_15 : decode cX12_tellCome 15 = .ok (.getfield 39, 3) := by decide +kernel
theorem dX12_tellCome_18 : decode cX12_tellCome 18 = .ok (.aload_n 0, 1) := by decide +kernel
theorem dX12_tellCome_19 : decode cX12_tellCome 19 = .ok (.getfield 147, 3) := by decide +kernel
theorem dX12_tellCome_22 : decode cX12_tellCome 22 = .ok (.aload_n 0, 1) := by decide +kernel
theorem dX12_tellCome_23 : decode cX12_tellCome 23 = .ok (.getfield 20, 3) := by decide +kernel
theorem dX12_tellCome_26 : decode cX12_tellCome 26 = .ok (.iload_n 1, 1) := by decide +kernel
theorem dX12_tellCome_27 : decode cX12_tellCome 27 = .ok (.iconst 2, 1) := by decide +kernel
theorem dX12_tellCome_28 : decode cX12_tellCome 28 = .ok (.iadd, 1) := by decide +kernel
theorem dX12_tellCome_29 : decode cX12_tellCome 29 = .ok (.iload_n 2, 1) := by decide +kernel
theorem dX12_tellCome_30 : decode cX12_tellCome 30 = .ok (.iadd, 1) := by decide +kernel
theorem dX12_tellCome_31 : decode cX12_tellCome 31 = .ok (.iaload, 1) := by decide +kernel
theorem dX12_tellCome_32 : decode cX12_tellCome 32 = .ok (.iastore, 1) := by decide +kernel
theorem dX12_tellCome_33 : decode cX12_tellCome 33 = .ok (.aload_n 0, 1) := by decide +kernel
theorem dX12_tellCome_34 : decode cX12_tellCome 34 = .ok (.dup, 1) := by decide +kernel
theorem dX12_tellCome_35 : decode cX12_tellCome 35 = .ok (.getfield 147, 3) := by decide +kernel
theorem dX12_tellCome_38 : decode cX12_tellCome 38 = .ok (.iconst 1, 1) := by decide +kernel
theorem dX12_tellCome_39 : decode cX12_tellCome 39 = .ok (.iadd, 1) := by decide +kernel
theorem dX12_tellCome_40 : decode cX12_tellCome 40 = .ok (.putfield 147, 3) := by decide +kernel
theorem dX12_tellCome_43 : decode cX12_tellCome 43 = .ok (.iinc 2 1, 3) := by decide +kernel
theorem dX12_tellCome_46 : decode cX12_tellCome 46 = .ok (.goto (-44), 3) := by decide +kernel
theorem dX12_tellCome_49 : decode cX12_tellCome 49 = .ok (.return_, 1) := by decide +kernel
theorem dX12_tell_0 : decode cX12_tell 0 = .ok (.aload_n 0, 1) := by decide +kernel
theorem dX12_tell_1 : decode cX12_tell 1 = .ok (.getfield 20, 3) := by decide +kernel
theorem dX12_tell_4 : decode cX12_tell 4 = .ok (.iload_n 1, 1) := by decide +kernel
theorem dX12_tell_5 : decode cX12_tell 5 = .ok (.iconst 2, 1) := by decide +kernel
theorem dX12_tell_6 : decode cX12_tell 6 = .ok (.iadd, 1) := by decide +kernel
theorem dX12_tell_7 : decode cX12_tell 7 = .ok (.iaload, 1) := by decide +kernel
theorem dX12_tell_8 : decode cX12_tell 8 = .ok (.istore_n 2, 1) := by decide +kernel
theorem dX12_tell_9 : decode cX12_tell 9 = .ok (.aload_n 0, 1) := by decide +kernel
theorem dX12_tell_10 : decode cX12_tell 10 = .ok (.getfield 20, 3) := by decide +kernel
theorem dX12_tell_13 : decode cX12_tell 13 = .ok (.iload_n 1, 1) := by decide +kernel
theorem dX12_tell_14 : decode cX12_tell 14 = .ok (.iaload, 1) := by decide +kernel
theorem dX12_tell_15 : decode cX12_tell 15 = .ok (.tableswitch 124 0 9 #[53, 59, 76, 124, 124, 124, 124, 106, 112, 118], 53) := by decide +kernel
theorem dX12_tell_68 : decode cX12_tell 68 = .ok (.aload_n 0, 1) := by decide +kernel
theorem dX12_tell_69 : decode cX12_tell 69 = .ok (.iload_n 1, 1) := by decide +kernel
theorem dX12_tell_70 : decode cX12_tell 70 = .ok (.invokevirtual 153, 3) := by decide +kernel
theorem dX12_tell_73 : decode cX12_tell 73 = .ok (.return_, 1) := by decide +kernel
theorem dX12_tell_74 : decode cX12_tell 74 = .ok (.aload_n 0, 1) := by decide +kernel
theorem dX12_tell_75 : decode cX12_tell 75 = .ok (.getfield 30, 3) := by decide +kernel
theorem dX12_tell_78 : decode cX12_tell 78 = .ok (.iconst 0, 1) := by decide +kernel
theorem dX12_tell_79 : decode cX12_tell 79 = .ok (.iload_n 2, 1) := by decide +kernel
theorem dX12_tell_80 : decode cX12_tell 80 = .ok (.iadd, 1) := by decide +kernel
theorem dX12_tell_81 : decode cX12_tell 81 = .ok (.aload_n 0, 1) := by decide +kernel
theorem dX12_tell_82 : decode cX12_tell 82 = .ok (.getfield 20, 3) := by decide +kernel
theorem dX12_tell_85 : decode cX12_tell 85 = .ok (.iload_n 1, 1) := by decide +kernel
theorem dX12_tell_86 : decode cX12_tell 86 = .ok (.iconst 3, 1) := by decide +kernel
theorem dX12_tell_87 : decode cX12_tell 87 = .ok (.iadd, 1) := by decide +kernel
theorem dX12_tell_88 : decode cX12_tell 88 = .ok (.iaload, 1) := by decide +kernel
theorem dX12_tell_89 : decode cX12_tell 89 = .ok (.iastore, 1) := by decide +kernel
theorem dX12_tell_90 : decode cX12_tell 90 = .ok (.return_, 1) := by decide +kernel
theorem dX12_tell_91 : decode cX12_tell 91 = .ok (.aload_n 0, 1) := by decide +kernel
theorem dX12_tell_92 : decode cX12_tell 92 = .ok (.getfield 30, 3) := by decide +kernel
theorem dX12_tell_95 : decode cX12_tell 95 = .ok (.bipush 6, 2) := by decide +kernel
theorem dX12_tell_97 : decode cX12_tell 97 = .ok (.bipush 6, 2) := by decide +kernel
theorem dX12_tell_99 : decode cX12_tell 99 = .ok (.iload_n 2, 1) := by decide +kernel
theorem dX12_tell_100 : decode cX12_tell 100 = .ok (.imul, 1) := by decide +kernel
theorem dX12_tell_101 : decode cX12_tell 101 = .ok (.iadd, 1) := by decide +kernel
theorem dX12_tell_102 : decode cX12_tell 102 = .ok (.aload_n 0, 1) := by decide +kernel
theorem dX12_tell_103 : decode cX12_tell 103 = .ok (.getfield 20, 3) := by decide +kernel
theorem dX12_tell_106 : decode cX12_tell 106 = .ok (.iload_n 1, 1) := by decide +kernel
theorem dX12_tell_107 : decode cX12_tell 107 = .ok (.iconst 3, 1) := by decide +kernel
theorem dX12_tell_108 : decode cX12_tell 108 = .ok (.iadd, 1) := by decide +kernel
theorem dX12_tell_109 : decode cX12_tell 109 = .ok (.iaload, 1) := by decide +kernel
theorem dX12_tell_110 : decode cX12_tell 110 = .ok (.iadd, 1) := by decide +kernel
theorem dX12_tell_111 : decode cX12_tell 111 = .ok (.aload_n 0, 1) := by decide +kernel
theorem dX12_tell_112 : decode cX12_tell 112 = .ok (.getfield 20, 3) := by decide +kernel
theorem dX12_tell_115 : decode cX12_tell 115 = .ok (.iload_n 1, 1) := by decide +kernel
theorem dX12_tell_116 : decode cX12_tell 116 = .ok (.iconst 4, 1) := by decide +kernel
theorem dX12_tell_117 : decode cX12_tell 117 = .ok (.iadd, 1) := by decide +kernel
theorem dX12_tell_118 : decode cX12_tell 118 = .ok (.iaload, 1) := by decide +kernel
theorem dX12_tell_119 : decode cX12_tell 119 = .ok (.iastore, 1) := by decide +kernel
theorem dX12_tell_120 : decode cX12_tell 120 = .ok (.return_, 1) := by decide +kernel
theorem dX12_tell_121 : decode cX12_tell 121 = .ok (.aload_n 0, 1) := by decide +kernel
theorem dX12_tell_122 : decode cX12_tell 122 = .ok (.iload_n 1, 1) := by decide +kernel
theorem dX12_tell_123 : decode cX12_tell 123 = .ok (.invokevirtual 157, 3) := by decide +kernel
theorem dX12_tell_126 : decode cX12_tell 126 = .ok (.return_, 1) := by decide +kernel
theorem dX12_tell_127 : decode cX12_tell 127 = .ok (.aload_n 0, 1) := by decide +kernel
theorem dX12_tell_128 : decode cX12_tell 128 = .ok (.iload_n 2, 1) := by decide +kernel
theorem dX12_tell_129 : decode cX12_tell 129 = .ok (.putfield 160, 3) := by decide +kernel
theorem dX12_tell_132 : decode cX12_tell 132 = .ok (.return_, 1) := by decide +kernel
theorem dX12_tell_133 : decode cX12_tell 133 = .ok (.aload_n 0, 1) := by decide +kernel
theorem dX12_tell_134 : decode cX12_tell 134 = .ok (.iconst 0, 1) := by decide +kernel
theorem dX12_tell_135 : decode cX12_tell 135 = .ok (.putfield 147, 3) := by decide +kernel
theorem dX12_tell_138 : decode cX12_tell 138 = .ok (.return_, 1) := by decide +kernel
theorem dX12_tell_139 : decode cX12_tell 139 = .ok (.aload_n 0, 1) := by decide +kernel
theorem dX12_tell_140 : decode cX12_tell 140 = .ok (.getfield 33, 3) := by decide +kernel
theorem dX12_tell_143 : decode cX12_tell 143 = .ok (.iload_n 2, 1) := by decide +kernel
theorem dX12_tell_144 : decode cX12_tell 144 = .ok (.aload_n 0, 1) := by decide +kernel
theorem dX12_tell_145 : decode cX12_tell 145 = .ok (.getfield 20, 3) := by decide +kernel
theorem dX12_tell_148 : decode cX12_tell 148 = .ok (.iload_n 1, 1) := by decide +kernel
theorem dX12_tell_149 : decode cX12_tell 149 = .ok (.iaload, 1) := by decide +kernel
theorem dX12_tell_150 : decode cX12_tell 150 = .ok (.iconst 3, 1) := by decide +kernel
theorem dX12_tell_151 : decode cX12_tell 151 = .ok (.isub, 1) := by decide +kernel
theorem dX12_tell_152 : decode cX12_tell 152 = .ok (.iastore, 1) := by decide +kernel
theorem dX12_tell_153 : decode cX12_tell 153 = .ok (.aload_n 0, 1) := by decide +kernel
theorem dX12_tell_154 : decode cX12_tell 154 = .ok (.getfield 36, 3) := by decide +kernel
theorem dX12_tell_157 : decode cX12_tell 157 = .ok (.iload_n 2, 1) := by decide +kernel
theorem dX12_tell_158 : decode cX12_tell 158 = .ok (.aload_n 0, 1) := by decide +kernel
theorem dX12_tell_159 : decode cX12_tell 159 = .ok (.getfield 20, 3) := by decide +kernel
theorem dX12_tell_162 : decode cX12_tell 162 = .ok (.iload_n 1, 1) := by decide +kernel
theorem dX12_tell_163 : decode cX12_tell 163 = .ok (.iconst 3, 1) := by decide +kernel
theorem dX12_tell_164 : decode cX12_tell 164 = .ok (.iadd, 1) := by decide +kernel
theorem dX12_tell_165 : decode cX12_tell 165 = .ok (.iaload, 1) := by decide +kernel
theorem dX12_tell_166 : decode cX12_tell 166 = .ok (.iastore, 1) := by decide +kernel
theorem dX12_tell_167 : decode cX12_tell 167 = .ok (.return_, 1) := by decide +kernel
theorem dX12_sunday_0 : decode cX12_sunday 0 = .ok (.aload_n 0, 1) := by decide +kernel
theorem dX12_sunday_1 : decode cX12_sunday 1 = .ok (.invokevirtual 163, 3) := by decide +kernel
theorem dX12_sunday_4 : decode cX12_sunday 4 = .ok (.iconst (-1), 1) := by decide +kernel
theorem dX12_sunday_5 : decode cX12_sunday 5 = .ok (.if_icmp .eq 6, 3) := by decide +kernel
theorem dX12_sunday_8 : decode cX12_sunday 8 = .ok (.bipush (-4), 2) := by decide +kernel
theorem dX12_sunday_10 : decode cX12_sunday 10 = .ok (.ireturn, 1) := by decide +kernel
theorem dX12_sunday_11 : decode cX12_sunday 11 = .ok (.iconst 0, 1) := by decide +kernel
theorem dX12_sunday_12 : decode cX12_sunday 12 = .ok (.istore_n 1, 1) := by decide +kernel
theorem dX12_sunday_13 : decode cX12_sunday 13 = .ok (.iload_n 1, 1) := by decide +kernel
theorem dX12_sunday_14 : decode cX12_sunday 14 = .ok (.aload_n 0, 1) := by decide +kernel
theorem dX12_sunday_15 : decode cX12_sunday 15 = .ok (.getfield 118, 3) := by decide +kernel
theorem dX12_sunday_18 : decode cX12_sunday 18 = .ok (.if_icmp .ge 17, 3) := by decide +kernel
theorem dX12_sunday_21 : decode cX12_sunday 21 = .ok (.aload_n 0, 1) := by decide +kernel
theorem dX12_sunday_22 : decode cX12_sunday 22 = .ok (.bipush 12, 2) := by decide +kernel
theorem dX12_sunday_24 : decode cX12_sunday 24 = .ok (.iload_n 1, 1) := by decide +kernel
theorem dX12_sunday_25 : decode cX12_sunday 25 = .ok (.imul, 1) := by decide +kernel
theorem dX12_sunday_26 : decode cX12_sunday 26 = .ok (.invokevirtual 166, 3) := by decide +kernel
theorem dX12_sunday_29 : decode cX12_sunday 29 = .ok (.iinc 1 1, 3) := by decide +kernel
theorem dX12_sunday_32 : decode cX12_sunday 32 = .ok (.goto (-19), 3) := by decide +kernel
theorem dX12_sunday_35 : decode cX12_sunday 35 = .ok (.aload_n 0, 1) := by decide +kernel
theorem dX12_sunday_36 : decode cX12_sunday 36 = .ok (.invokevirtual 169, 3) := by decide +kernel
theorem dX12_sunday_39 : decode cX12_sunday 39 = .ok (.aload_n 0, 1) := by decide +kernel
theorem dX12_sunday_40 : decode cX12_sunday 40 = .ok (.iconst 0, 1) := by decide +kernel
theorem dX12_sunday_41 : decode cX12_sunday 41 = .ok (.putfield 172, 3) := by decide +kernel
theorem dX12_sunday_44 : decode cX12_sunday 44 = .ok (.aload_n 0, 1) := by decide +kernel
theorem dX12_sunday_45 : decode cX12_sunday 45 = .ok (.getfield 13, 3) := by decide +kernel
theorem dX12_sunday_48 : decode cX12_sunday 48 = .ok (.iconst 0, 1) := by decide +kernel
theorem dX12_sunday_49 : decode cX12_sunday 49 = .ok (.iconst 0, 1) := by decide +kernel
theorem dX12_sunday_50 : decode cX12_sunday 50 = .ok (.bastore, 1) := by decide +kernel
theorem dX12_sunday_51 : decode cX12_sunday 51 = .ok (.aload_n 0, 1) := by decide +kernel
theorem dX12_sunday_52 : decode cX12_sunday 52 = .ok (.getfield 13, 3) := by decide +kernel
theorem dX12_sunday_55 : decode cX12_sunday 55 = .ok (.iconst 1, 1) := by decide +kernel
theorem dX12_sunday_56 : decode cX12_sunday 56 = .ok (.iconst 0, 1) := by decide +kernel
theorem dX12_sunday_57 : decode cX12_sunday 57 = .ok (.bastore, 1) := by decide +kernel
theorem dX12_sunday_58 : decode cX12_sunday 58 = .ok (.aload_n 0, 1) := by decide +kernel
theorem dX12_sunday_59 : decode cX12_sunday 59 = .ok (.iconst 0, 1) := by decide +kernel
theorem dX12_sunday_60 : decode cX12_sunday 60 = .ok (.putfield 66, 3) := by decide +kernel
theorem dX12_sunday_63 : decode cX12_sunday 63 = .ok (.aload_n 0, 1) := by decide +kernel
theorem dX12_sunday_64 : decode cX12_sunday 64 = .ok (.getfield 118, 3) := by decide +kernel
theorem dX12_sunday_67 : decode cX12_sunday 67 = .ok (.ireturn, 1) := by decide +kernel
theorem dX12_isKind_0 : decode cX12_isKind 0 = .ok (.iload_n 1, 1) := by decide +kernel
theorem dX12_isKind_1 : decode cX12_isKind 1 = .ok (.i2l, 1) := by decide +kernel
theorem dX12_isKind_2 : decode cX12_isKind 2 = .ok (.lconst 0, 1) := by decide +kernel
theorem dX12_isKind_3 : decode cX12_isKind 3 = .ok (.aload_n 0, 1) := by decide +kernel
theorem dX12_isKind_4 : decode cX12_isKind 4 = .ok (.getfield 23, 3) := by decide +kernel
theorem dX12_isKind_7 : decode cX12_isKind 7 = .ok (.iconst 1, 1) := by decide +kernel
theorem dX12_isKind_8 : decode cX12_isKind 8 = .ok (.isub, 1) := by decide +kernel
theorem dX12_isKind_9 : decode cX12_isKind 9 = .ok (.i2l, 1) := by decide +kernel
theorem dX12_isKind_10 : decode cX12_isKind 10 = .ok (.invokestatic 62, 3) := by decide +kernel
theorem dX12_isKind_13 : decode cX12_isKind 13 = .ok (.ireturn, 1) := by decide +kernel
theorem dX12_isPerson_0 : decode cX12_isPerson 0 = .ok (.iload_n 0, 1) := by decide +kernel
theorem dX12_isPerson_1 : decode cX12_isPerson 1 = .ok (.i2l, 1) := by decide +kernel
theorem dX12_isPerson_2 : decode cX12_isPerson 2 = .ok (.lconst 0, 1) := by decide +kernel
theorem dX12_isPerson_3 : decode cX12_isPerson 3 = .ok (.ldc2_w 175, 3) := by decide +kernel
theorem dX12_isPerson_6 : decode cX12_isPerson 6 = .ok (.invokestatic 62, 3) := by decide +kernel
theorem dX12_isPerson_9 : decode cX12_isPerson 9 = .ok (.ireturn, 1) := by decide +kernel
theorem dX12_coin_0 : decode cX12_coin 0 = .ok (.aload_n 0, 1) := by decide +kernel
theorem dX12_coin_1 : decode cX12_coin 1 = .ok (.iload_n 1, 1) := by decide +kernel
theorem dX12_coin_2 : decode cX12_coin 2 = .ok (.invokevirtual 177, 3) := by decide +kernel
theorem dX12_coin_5 : decode cX12_coin 5 = .ok (.ifCond .ne 6, 3) := by decide +kernel
theorem dX12_coin_8 : decode cX12_coin 8 = .ok (.bipush (-2), 2) := by decide +kernel
theorem dX12_coin_10 : decode cX12_coin 10 = .ok (.ireturn, 1) := by decide +kernel
theorem dX12_coin_11 : decode cX12_coin 11 = .ok (.iload_n 2, 1) := by decide +kernel
theorem dX12_coin_12 : decode cX12_coin 12 = .ok (.ifCond .ne 12, 3) := by decide +kernel
theorem dX12_coin_15 : decode cX12_coin 15 = .ok (.aload_n 0, 1) := by decide +kernel
theorem dX12_coin_16 : decode cX12_coin 16 = .ok (.getfield 27, 3) := by decide +kernel
theorem dX12_coin_19 : decode cX12_coin 19 = .ok (.iload_n 1, 1) := by decide +kernel
theorem dX12_coin_20 : decode cX12_coin 20 = .ok (.iaload, 1) := by decide +kernel
theorem dX12_coin_21 : decode cX12_coin 21 = .ok (.goto 21, 3) := by decide +kernel
theorem dX12_coin_24 : decode cX12_coin 24 = .ok (.iload_n 2, 1) := by decide +kernel
theorem dX12_coin_25 : decode cX12_coin 25 = .ok (.iconst 1, 1) := by decide +kernel
theorem dX12_coin_26 : decode cX12_coin 26 = .ok (.if_icmp .ne 14, 3) := by decide +kernel
theorem dX12_coin_29 : decode cX12_coin 29 = .ok (.aload_n 0, 1) := by decide +kernel
theorem dX12_coin_30 : decode cX12_coin 30 = .ok (.getfield 7, 3) := by decide +kernel
theorem dX12_coin_33 : decode cX12_coin 33 = .ok (.iconst 0, 1) := by decide +kernel
theorem dX12_coin_34 : decode cX12_coin 34 = .ok (.iload_n 1, 1) := by decide +kernel
theorem dX12_coin_35 : decode cX12_coin 35 = .ok (.iadd, 1) := by decide +kernel
theorem dX12_coin_36 : decode cX12_coin 36 = .ok (.iaload, 1) := by decide +kernel
theorem dX12_coin_37 : decode cX12_coin 37 = .ok (.goto 5, 3) := by decide +kernel
theorem dX12_coin_40 : decode cX12_coin 40 = .ok (.bipush (-3), 2) := by decide +kernel
theorem dX12_coin_42 : decode cX12_coin 42 = .ok (.ireturn, 1) := by decide +kernel
theorem dX12_purse_0 : decode cX12_purse 0 = .ok (.iload_n 1, 1) := by decide +kernel
theorem dX12_purse_1 : decode cX12_purse 1 = .ok (.invokestatic 180, 3) := by decide +kernel
theorem dX12_purse_4 : decode cX12_purse 4 = .ok (.ifCond .eq 28, 3) := by decide +kernel
theorem dX12_purse_7 : decode cX12_purse 7 = .ok (.aload_n 0, 1) := by decide +kernel
theorem dX12_purse_8 : decode cX12_purse 8 = .ok (.iload_n 2, 1) := by decide +kernel
theorem dX12_purse_9 : decode cX12_purse 9 = .ok (.invokevirtual 177, 3) := by decide +kernel
theorem dX12_purse_12 : decode cX12_purse 12 = .ok (.ifCond .eq 20, 3) := by decide +kernel
theorem dX12_purse_15 : decode cX12_purse 15 = .ok (.aload_n 0, 1) := by decide +kernel
theorem dX12_purse_16 : decode cX12_purse 16 = .ok (.getfield 7, 3) := by decide +kernel
theorem dX12_purse_19 : decode cX12_purse 19 = .ok (.bipush 6, 2) := by decide +kernel
theorem dX12_purse_21 : decode cX12_purse 21 = .ok (.bipush 6, 2) := by decide +kernel
theorem dX12_purse_23 : decode cX12_purse 23 = .ok (.iload_n 1, 1) := by decide +kernel
theorem dX12_purse_24 : decode cX12_purse 24 = .ok (.imul, 1) := by decide +kernel
theorem dX12_purse_25 : decode cX12_purse 25 = .ok (.iadd, 1) := by decide +kernel
theorem dX12_purse_26 : decode cX12_purse 26 = .ok (.iload_n 2, 1) := by decide +kernel
theorem dX12_purse_27 : decode cX12_purse 27 = .ok (.iadd, 1) := by decide +kernel
theorem dX12_purse_28 : decode cX12_purse 28 = .ok (.iaload, 1) := by decide +kernel
theorem dX12_purse_29 : decode cX12_purse 29 = .ok (.goto 5, 3) := by decide +kernel
theorem dX12_purse_32 : decode cX12_purse 32 = .ok (.bipush (-2), 2) := by decide +kernel
theorem dX12_purse_34 : decode cX12_purse 34 = .ok (.ireturn, 1) := by decide +kernel
theorem dX12_worthOf_0 : decode cX12_worthOf 0 = .ok (.iconst 0, 1) := by decide +kernel
theorem dX12_worthOf_1 : decode cX12_worthOf 1 = .ok (.istore_n 3, 1) := by decide +kernel
theorem dX12_worthOf_2 : decode cX12_worthOf 2 = .ok (.iconst 0, 1) := by decide +kernel
theorem dX12_worthOf_3 : decode cX12_worthOf 3 = .ok (.istore 4, 2) := by decide +kernel
theorem dX12_worthOf_5 : decode cX12_worthOf 5 = .ok (.iload 4, 2) := by decide +kernel
theorem dX12_worthOf_7 : decode cX12_worthOf 7 = .ok (.aload_n 0, 1) := by decide +kernel
theorem dX12_worthOf_8 : decode cX12_worthOf 8 = .ok (.getfield 23, 3) := by decide +kernel
theorem dX12_worthOf_11 : decode cX12_worthOf 11 = .ok (.if_icmp .ge 37, 3) := by decide +kernel
theorem dX12_worthOf_14 : decode cX12_worthOf 14 = .ok (.iload_n 3, 1) := by decide +kernel
theorem dX12_worthOf_15 : decode cX12_worthOf 15 = .ok (.aload_n 0, 1) := by decide +kernel
theorem dX12_worthOf_16 : decode cX12_worthOf 16 = .ok (.getfield 7, 3) := by decide +kernel
theorem dX12_worthOf_19 : decode cX12_worthOf 19 = .ok (.iload_n 1, 1) := by decide +kernel
theorem dX12_worthOf_20 : decode cX12_worthOf 20 = .ok (.bipush 6, 2) := by decide +kernel
theorem dX12_worthOf_22 : decode cX12_worthOf 22 = .ok (.iadd, 1) := by decide +kernel
theorem dX12_worthOf_23 : decode cX12_worthOf 23 = .ok (.bipush 6, 2) := by decide +kernel
theorem dX12_worthOf_25 : decode cX12_worthOf 25 = .ok (.iload_n 2, 1) := by decide +kernel
theorem dX12_worthOf_26 : decode cX12_worthOf 26 = .ok (.imul, 1) := by decide +kernel
theorem dX12_worthOf_27 : decode cX12_worthOf 27 = .ok (.iadd, 1) := by decide +kernel
theorem dX12_worthOf_28 : decode cX12_worthOf 28 = .ok (.iload 4, 2) := by decide +kernel
theorem dX12_worthOf_30 : decode cX12_worthOf 30 = .ok (.iadd, 1) := by decide +kernel
theorem dX12_worthOf_31 : decode cX12_worthOf 31 = .ok (.iaload, 1) := by decide +kernel
theorem dX12_worthOf_32 : decode cX12_worthOf 32 = .ok (.aload_n 0, 1) := by decide +kernel
theorem dX12_worthOf_33 : decode cX12_worthOf 33 = .ok (.getfield 27, 3) := by decide +kernel
theorem dX12_worthOf_36 : decode cX12_worthOf 36 = .ok (.iload 4, 2) := by decide +kernel
theorem dX12_worthOf_38 : decode cX12_worthOf 38 = .ok (.iaload, 1) := by decide +kernel
theorem dX12_worthOf_39 : decode cX12_worthOf 39 = .ok (.imul, 1) := by decide +kernel
theorem dX12_worthOf_40 : decode cX12_worthOf 40 = .ok (.iadd, 1) := by decide +kernel
theorem dX12_worthOf_41 : decode cX12_worthOf 41 = .ok (.istore_n 3, 1) := by decide +kernel
theorem dX12_worthOf_42 : decode cX12_worthOf 42 = .ok (.iinc 4 1, 3) := by decide +kernel
theorem dX12_worthOf_45 : decode cX12_worthOf 45 = .ok (.goto (-40), 3) := by decide +kernel
theorem dX12_worthOf_48 : decode cX12_worthOf 48 = .ok (.iload_n 3, 1) := by decide +kernel
theorem dX12_worthOf_49 : decode cX12_worthOf 49 = .ok (.ireturn, 1) := by decide +kernel
theorem dX12_visitsLeft_0 : decode cX12_visitsLeft 0 = .ok (.aload_n 0, 1) := by decide +kernel
theorem dX12_visitsLeft_1 : decode cX12_visitsLeft 1 = .ok (.getfield 147, 3) := by decide +kernel
theorem dX12_visitsLeft_4 : decode cX12_visitsLeft 4 = .ok (.aload_n 0, 1) := by decide +kernel
theorem dX12_visitsLeft_5 : decode cX12_visitsLeft 5 = .ok (.getfield 7, 3) := by decide +kernel
theorem dX12_visitsLeft_8 : decode cX12_visitsLeft 8 = .ok (.bipush 30, 2) := by decide +kernel
theorem dX12_visitsLeft_10 : decode cX12_visitsLeft 10 = .ok (.iaload, 1) := by decide +kernel
theorem dX12_visitsLeft_11 : decode cX12_visitsLeft 11 = .ok (.isub, 1) := by decide +kernel
theorem dX12_visitsLeft_12 : decode cX12_visitsLeft 12 = .ok (.ireturn, 1) := by decide +kernel
theorem dX12_leftOf_0 : decode cX12_leftOf 0 = .ok (.iconst 0, 1) := by decide +kernel
theorem dX12_leftOf_1 : decode cX12_leftOf 1 = .ok (.istore_n 2, 1) := by decide +kernel
theorem dX12_leftOf_2 : decode cX12_leftOf 2 = .ok (.aload_n 0, 1) := by decide +kernel
theorem dX12_leftOf_3 : decode cX12_leftOf 3 = .ok (.getfield 7, 3) := by decide +kernel
theorem dX12_leftOf_6 : decode cX12_leftOf 6 = .ok (.bipush 30, 2) := by decide +kernel
theorem dX12_leftOf_8 : decode cX12_leftOf 8 = .ok (.iaload, 1) := by decide +kernel
theorem dX12_leftOf_9 : decode cX12_leftOf 9 = .ok (.istore_n 3, 1) := by decide +kernel
theorem dX12_leftOf_10 : decode cX12_leftOf 10 = .ok (.iload_n 3, 1) := by decide +kernel
theorem dX12_leftOf_11 : decode cX12_leftOf 11 = .ok (.aload_n 0, 1) := by decide +kernel
theorem dX12_leftOf_12 : decode cX12_leftOf 12 = .ok (.getfield 147, 3) := by decide +kernel
theorem dX12_leftOf_15 : decode cX12_leftOf 15 = .ok (.if_icmp .ge 30, 3) := by decide +kernel
theorem dX12_leftOf_18 : decode cX12_leftOf 18 = .ok (.iload_n 2, 1) := by decide +kernel
theorem dX12_leftOf_19 : decode cX12_leftOf 19 = .ok (.iload_n 1, 1) := by decide +kernel
theorem dX12_leftOf_20 : decode cX12_leftOf 20 = .ok (.aload_n 0, 1) := by decide +kernel
theorem dX12_leftOf_21 : decode cX12_leftOf 21 = .ok (.getfield 39, 3) := by decide +kernel
theorem dX12_leftOf_24 : decode cX12_leftOf 24 = .ok (.iload_n 3, 1) := by decide +kernel
theorem dX12_leftOf_25 : decode cX12_leftOf 25 = .ok (.iaload, 1) := by decide +kernel
theorem dX12_leftOf_26 : decode cX12_leftOf 26 = .ok (.invokestatic 183, 3) := by decide +kernel
theorem dX12_leftOf_29 : decode cX12_leftOf 29 = .ok (.ifCond .eq 7, 3) := by decide +kernel
theorem dX12_leftOf_32 : decode cX12_leftOf 32 = .ok (.iconst 1, 1) := by decide +kernel
theorem dX12_leftOf_33 : decode cX12_leftOf 33 = .ok (.goto 4, 3) := by decide +kernel
theorem dX12_leftOf_36 : decode cX12_leftOf 36 = .ok (.iconst 0, 1) := by decide +kernel
theorem dX12_leftOf_37 : decode cX12_leftOf 37 = .ok (.iadd, 1) := by decide +kernel
theorem dX12_leftOf_38 : decode cX12_leftOf 38 = .ok (.istore_n 2, 1) := by decide +kernel
theorem dX12_leftOf_39 : decode cX12_leftOf 39 = .ok (.iinc 3 1, 3) := by decide +kernel
theorem dX12_leftOf_42 : decode cX12_leftOf 42 = .ok (.goto (-32), 3) := by decide +kernel
theorem dX12_leftOf_45 : decode cX12_leftOf 45 = .ok (.iload_n 2, 1) := by decide +kernel
theorem dX12_leftOf_46 : decode cX12_leftOf 46 = .ok (.ireturn, 1) := by decide +kernel
theorem dX12_person_0 : decode cX12_person 0 = .ok (.iload_n 1, 1) := by decide +kernel
theorem dX12_person_1 : decode cX12_person 1 = .ok (.invokestatic 180, 3) := by decide +kernel
theorem dX12_person_4 : decode cX12_person 4 = .ok (.ifCond .ne 6, 3) := by decide +kernel
theorem dX12_person_7 : decode cX12_person 7 = .ok (.bipush (-2), 2) := by decide +kernel
theorem dX12_person_9 : decode cX12_person 9 = .ok (.ireturn, 1) := by decide +kernel
theorem dX12_person_10 : decode cX12_person 10 = .ok (.iload_n 2, 1) := by decide +kernel
theorem dX12_person_11 : decode cX12_person 11 = .ok (.tableswitch 72 0 3 #[29, 36, 43, 64], 29) := by decide +kernel
theorem dX12_person_40 : decode cX12_person 40 = .ok (.aload_n 0, 1) := by decide +kernel
theorem dX12_person_41 : decode cX12_person 41 = .ok (.iconst 0, 1) := by decide +kernel
theorem dX12_person_42 : decode cX12_person 42 = .ok (.iload_n 1, 1) := by decide +kernel
theorem dX12_person_43 : decode cX12_person 43 = .ok (.invokevirtual 186, 3) := by decide +kernel
theorem dX12_person_46 : decode cX12_person 46 = .ok (.ireturn, 1) := by decide +kernel
theorem dX12_person_47 : decode cX12_person 47 = .ok (.aload_n 0, 1) := by decide +kernel
theorem dX12_person_48 : decode cX12_person 48 = .ok (.getfield 33, 3) := by decide +kernel
theorem dX12_person_51 : decode cX12_person 51 = .ok (.iload_n 1, 1) := by decide +kernel
theorem dX12_person_52 : decode cX12_person 52 = .ok (.iaload, 1) := by decide +kernel
theorem dX12_person_53 : decode cX12_person 53 = .ok (.ireturn, 1) := by decide +kernel
theorem dX12_person_54 : decode cX12_person 54 = .ok (.aload_n 0, 1) := by decide +kernel
theorem dX12_person_55 : decode cX12_person 55 = .ok (.getfield 33, 3) := by decide +kernel
theorem dX12_person_58 : decode cX12_person 58 = .ok (.iload_n 1, 1) := by decide +kernel
theorem dX12_person_59 : decode cX12_person 59 = .ok (.iaload, 1) := by decide +kernel
theorem dX12_person_60 : decode cX12_person 60 = .ok (.iconst 2, 1) := by decide +kernel
theorem dX12_person_61 : decode cX12_person 61 = .ok (.if_icmp .ne 12, 3) := by decide +kernel
theorem dX12_person_64 : decode cX12_person 64 = .ok (.aload_n 0, 1) := by decide +kernel
theorem dX12_person_65 : decode cX12_person 65 = .ok (.getfield 36, 3) := by decide +kernel
theorem dX12_person_68 : decode cX12_person 68 = .ok (.iload_n 1, 1) := by decide +kernel
theorem dX12_person_69 : decode cX12_person 69 = .ok (.iaload, 1) := by decide +kernel
theorem dX12_person_70 : decode cX12_person 70 = .ok (.goto 4, 3) := by decide +kernel
theorem dX12_person_73 : decode cX12_person 73 = .ok (.iconst (-1), 1) := by decide +kernel
theorem dX12_person_74 : decode cX12_person 74 = .ok (.ireturn, 1) := by decide +kernel
theorem dX12_person_75 : decode cX12_person 75 = .ok (.aload_n 0, 1) := by decide +kernel
theorem dX12_person_76 : decode cX12_person 76 = .ok (.iconst 1, 1) := by decide +kernel
theorem dX12_person_77 : decode cX12_person 77 = .ok (.iload_n 1, 1) := by decide +kernel
theorem dX12_person_78 : decode cX12_person 78 = .ok (.ishl, 1) := by decide +kernel
theorem dX12_person_79 : decode cX12_person 79 = .ok (.invokevirtual 190, 3) := by decide +kernel
theorem dX12_person_82 : decode cX12_person 82 = .ok (.ireturn, 1) := by decide +kernel
theorem dX12_person_83 : decode cX12_person 83 = .ok (.bipush (-3), 2) := by decide +kernel
theorem dX12_person_85 : decode cX12_person 85 = .ok (.ireturn, 1) := by decide +kernel
theorem dX12_layTakes_0 : decode cX12_layTakes 0 = .ok (.iconst 0, 1) := by decide +kernel
theorem dX12_layTakes_1 : decode cX12_layTakes 1 = .ok (.istore_n 3, 1) := by decide +kernel
theorem dX12_layTakes_2 : decode cX12_layTakes 2 = .ok (.iconst (-1), 1) := by decide +kernel
theorem dX12_layTakes_3 : decode cX12_layTakes 3 = .ok (.istore 4, 2) := by decide +kernel
theorem dX12_layTakes_5 : decode cX12_layTakes 5 = .ok (.iconst 0, 1) := by decide +kernel
theorem dX12_layTakes_6 : decode cX12_layTakes 6 = .ok (.istore 5, 2) := by decide +kernel
theorem dX12_layTakes_8 : decode cX12_layTakes 8 = .ok (.iload 5, 2) := by decide +kernel
theorem dX12_layTakes_10 : decode cX12_layTakes 10 = .ok (.aload_n 0, 1) := by decide +kernel
theorem dX12_layTakes_11 : decode cX12_layTakes 11 = .ok (.getfield 23, 3) := by decide +kernel
theorem dX12_layTakes_14 : decode cX12_layTakes 14 = .ok (.if_icmp .ge 38, 3) := by decide +kernel
theorem dX12_layTakes_17 : decode cX12_layTakes 17 = .ok (.iload 5, 2) := by decide +kernel
theorem dX12_layTakes_19 : decode cX12_layTakes 19 = .ok (.iload_n 2, 1) := by decide +kernel
theorem dX12_layTakes_20 : decode cX12_layTakes 20 = .ok (.if_icmp .ge 22, 3) := by decide +kernel
theorem dX12_layTakes_23 : decode cX12_layTakes 23 = .ok (.aload_n 0, 1) := by decide +kernel
theorem dX12_layTakes_24 : decode cX12_layTakes 24 = .ok (.getfield 7, 3) := by decide +kernel
theorem dX12_layTakes_27 : decode cX12_layTakes 27 = .ok (.iload_n 1, 1) := by decide +kernel
theorem dX12_layTakes_28 : decode cX12_layTakes 28 = .ok (.iconst 0, 1) := by decide +kernel
theorem dX12_layTakes_29 : decode cX12_layTakes 29 = .ok (.iadd, 1) := by decide +kernel
theorem dX12_layTakes_30 : decode cX12_layTakes 30 = .ok (.iload 5, 2) := by decide +kernel
theorem dX12_layTakes_32 : decode cX12_layTakes 32 = .ok (.iadd, 1) := by decide +kernel
theorem dX12_layTakes_33 : decode cX12_layTakes 33 = .ok (.iaload, 1) := by decide +kernel
theorem dX12_layTakes_34 : decode cX12_layTakes 34 = .ok (.ifCond .le 8, 3) := by decide +kernel
theorem dX12_layTakes_37 : decode cX12_layTakes 37 = .ok (.iload 5, 2) := by decide +kernel
theorem dX12_layTakes_39 : decode cX12_layTakes 39 = .ok (.goto 5, 3) := by decide +kernel
theorem dX12_layTakes_42 : decode cX12_layTakes 42 = .ok (.iload 4, 2) := by decide +kernel
theorem dX12_layTakes_44 : decode cX12_layTakes 44 = .ok (.istore 4, 2) := by decide +kernel
theorem dX12_layTakes_46 : decode cX12_layTakes 46 = .ok (.iinc 5 1, 3) := by decide +kernel
theorem dX12_layTakes_49 : decode cX12_layTakes 49 = .ok (.goto (-41), 3) := by decide +kernel
theorem dX12_layTakes_52 : decode cX12_layTakes 52 = .ok (.iconst 0, 1) := by decide +kernel
theorem dX12_layTakes_53 : decode cX12_layTakes 53 = .ok (.istore 5, 2) := by decide +kernel
theorem dX12_layTakes_55 : decode cX12_layTakes 55 = .ok (.iload 5, 2) := by decide +kernel
theorem dX12_layTakes_57 : decode cX12_layTakes 57 = .ok (.aload_n 0, 1) := by decide +kernel
theorem dX12_layTakes_58 : decode cX12_layTakes 58 = .ok (.getfield 23, 3) := by decide +kernel
theorem dX12_layTakes_61 : decode cX12_layTakes 61 = .ok (.if_icmp .ge 117, 3) := by decide +kernel
theorem dX12_layTakes_64 : decode cX12_layTakes 64 = .ok (.aload_n 0, 1) := by decide +kernel
theorem dX12_layTakes_65 : decode cX12_layTakes 65 = .ok (.getfield 7, 3) := by decide +kernel
theorem dX12_layTakes_68 : decode cX12_layTakes 68 = .ok (.iload_n 1, 1) := by decide +kernel
theorem dX12_layTakes_69 : decode cX12_layTakes 69 = .ok (.iconst 0, 1) := by decide +kernel
theorem dX12_layTakes_70 : decode cX12_layTakes 70 = .ok (.iadd, 1) := by decide +kernel
theorem dX12_layTakes_71 : decode cX12_layTakes 71 = .ok (.iload 5, 2) := by decide +kernel
theorem dX12_layTakes_73 : decode cX12_layTakes 73 = .ok (.iadd, 1) := by decide +kernel
theorem dX12_layTakes_74 : decode cX12_layTakes 74 = .ok (.iaload, 1) := by decide +kernel
theorem dX12_layTakes_75 : decode cX12_layTakes 75 = .ok (.istore 6, 2) := by decide +kernel
theorem dX12_layTakes_77 : decode cX12_layTakes 77 = .ok (.aload_n 0, 1) := by decide +kernel
theorem dX12_layTakes_78 : decode cX12_layTakes 78 = .ok (.getfield 42, 3) := by decide +kernel
theorem dX12_layTakes_81 : decode cX12_layTakes 81 = .ok (.iload 5, 2) := by decide +kernel
theorem dX12_layTakes_83 : decode cX12_layTakes 83 = .ok (.aload_n 0, 1) := by decide +kernel
theorem dX12_layTakes_84 : decode cX12_layTakes 84 = .ok (.getfield 160, 3) := by decide +kernel
theorem dX12_layTakes_87 : decode cX12_layTakes 87 = .ok (.ifCond .ne 18, 3) := by decide +kernel
theorem dX12_layTakes_90 : decode cX12_layTakes 90 = .ok (.iload 5, 2) := by decide +kernel
theorem dX12_layTakes_92 : decode cX12_layTakes 92 = .ok (.iload_n 2, 1) := by decide +kernel
theorem dX12_layTakes_93 : decode cX12_layTakes 93 = .ok (.if_icmp .ge 8, 3) := by decide +kernel
theorem dX12_layTakes_96 : decode cX12_layTakes 96 = .ok (.iload 6, 2) := by decide +kernel
theorem dX12_layTakes_98 : decode cX12_layTakes 98 = .ok (.goto 55, 3) := by decide +kernel
theorem dX12_layTakes_101 : decode cX12_layTakes 101 = .ok (.iconst 0, 1) := by decide +kernel
theorem dX12_layTakes_102 : decode cX12_layTakes 102 = .ok (.goto 51, 3) := by decide +kernel
theorem dX12_layTakes_105 : decode cX12_layTakes 105 = .ok (.aload_n 0, 1) := by decide +kernel
theorem dX12_layTakes_106 : decode cX12_layTakes 106 = .ok (.getfield 160, 3) := by decide +kernel
theorem dX12_layTakes_109 : decode cX12_layTakes 109 = .ok (.iconst 1, 1) := by decide +kernel
theorem dX12_layTakes_110 : decode cX12_layTakes 110 = .ok (.if_icmp .ne 18, 3) := by decide +kernel
theorem dX12_layTakes_113 : decode cX12_layTakes 113 = .ok (.iload 5, 2) := by decide +kernel
theorem dX12_layTakes_115 : decode cX12_layTakes 115 = .ok (.iload_n 2, 1) := by decide +kernel
theorem dX12_layTakes_116 : decode cX12_layTakes 116 = .ok (.if_icmp .gt 8, 3) := by decide +kernel
theorem dX12_layTakes_119 : decode cX12_layTakes 119 = .ok (.iload 6, 2) := by decide +kernel
theorem dX12_layTakes_121 : decode cX12_layTakes 121 = .ok (.goto 32, 3) := by decide +kernel
theorem dX12_layTakes_124 : decode cX12_layTakes 124 = .ok (.iconst 0, 1) := by decide +kernel
theorem dX12_layTakes_125 : decode cX12_layTakes 125 = .ok (.goto 28, 3) := by decide +kernel
theorem dX12_layTakes_128 : decode cX12_layTakes 128 = .ok (.iload 5, 2) := by decide +kernel
theorem dX12_layTakes_130 : decode cX12_layTakes 130 = .ok (.iload 4, 2) := by decide +kernel
theorem dX12_layTakes_132 : decode cX12_layTakes 132 = .ok (.if_icmp .eq 7, 3) := by decide +kernel
theorem dX12_layTakes_135 : decode cX12_layTakes 135 = .ok (.iconst 0, 1) := by decide +kernel
theorem dX12_layTakes_136 : decode cX12_layTakes 136 = .ok (.goto 17, 3) := by decide +kernel
theorem dX12_layTakes_139 : decode cX12_layTakes 139 = .ok (.aload_n 0, 1) := by decide +kernel
theorem dX12_layTakes_140 : decode cX12_layTakes 140 = .ok (.getfield 160, 3) := by decide +kernel
theorem dX12_layTakes_143 : decode cX12_layTakes 143 = .ok (.iconst 2, 1) := by decide +kernel
theorem dX12_layTakes_144 : decode cX12_layTakes 144 = .ok (.if_icmp .ne 7, 3) := by decide +kernel
theorem dX12_layTakes_147 : decode cX12_layTakes 147 = .ok (.iconst 1, 1) := by decide +kernel
theorem dX12_layTakes_148 : decode cX12_layTakes 148 = .ok (.goto 5, 3) := by decide +kernel
theorem dX12_layTakes_151 : decode cX12_layTakes 151 = .ok (.iload 6, 2) := by decide +kernel
theorem dX12_layTakes_153 : decode cX12_layTakes 153 = .ok (.iastore, 1) := by decide +kernel
theorem dX12_layTakes_154 : decode cX12_layTakes 154 = .ok (.iload_n 3, 1) := by decide +kernel
theorem dX12_layTakes_155 : decode cX12_layTakes 155 = .ok (.aload_n 0, 1) := by decide +kernel
theorem dX12_layTakes_156 : decode cX12_layTakes 156 = .ok (.getfield 42, 3) := by decide +kernel
theorem dX12_layTakes_159 : decode cX12_layTakes 159 = .ok (.iload 5, 2) := by decide +kernel
theorem dX12_layTakes_161 : decode cX12_layTakes 161 = .ok (.iaload, 1) := by decide +kernel
theorem dX12_layTakes_162 : decode cX12_layTakes 162 = .ok (.aload_n 0, 1) := by decide +kernel
theorem dX12_layTakes_163 : decode cX12_layTakes 163 = .ok (.getfield 27, 3) := by decide +kernel
theorem dX12_layTakes_166 : decode cX12_layTakes 166 = .ok (.iload 5, 2) := by decide +kernel
theorem dX12_layTakes_168 : decode cX12_layTakes 168 = .ok (.iaload, 1) := by decide +kernel
theorem dX12_layTakes_169 : decode cX12_layTakes 169 = .ok (.imul, 1) := by decide +kernel
theorem dX12_layTakes_170 : decode cX12_layTakes 170 = .ok (.iadd, 1) := by decide +kernel
theorem dX12_layTakes_171 : decode cX12_layTakes 171 = .ok (.istore_n 3, 1) := by decide +kernel
theorem dX12_layTakes_172 : decode cX12_layTakes 172 = .ok (.iinc 5 1, 3) := by decide +kernel
theorem dX12_layTakes_175 : decode cX12_layTakes 175 = .ok (.goto (-120), 3) := by decide +kernel
theorem dX12_layTakes_178 : decode cX12_layTakes 178 = .ok (.iload_n 3, 1) := by decide +kernel
theorem dX12_layTakes_179 : decode cX12_layTakes 179 = .ok (.ireturn, 1) := by decide +kernel
theorem dX12_gainOf_0 : decode cX12_gainOf 0 = .ok (.aload_n 0, 1) := by decide +kernel
theorem dX12_gainOf_1 : decode cX12_gainOf 1 = .ok (.iload_n 1, 1) := by decide +kernel
theorem dX12_gainOf_2 : decode cX12_gainOf 2 = .ok (.iload_n 2, 1) := by decide +kernel
theorem dX12_gainOf_3 : decode cX12_gainOf 3 = .ok (.invokevirtual 193, 3) := by decide +kernel
theorem dX12_gainOf_6 : decode cX12_gainOf 6 = .ok (.aload_n 0, 1) := by decide +kernel
theorem dX12_gainOf_7 : decode cX12_gainOf 7 = .ok (.getfield 27, 3) := by decide +kernel
theorem dX12_gainOf_10 : decode cX12_gainOf 10 = .ok (.iload_n 2, 1) := by decide +kernel
theorem dX12_gainOf_11 : decode cX12_gainOf 11 = .ok (.iaload, 1) := by decide +kernel
theorem dX12_gainOf_12 : decode cX12_gainOf 12 = .ok (.isub, 1) := by decide +kernel
theorem dX12_gainOf_13 : decode cX12_gainOf 13 = .ok (.ireturn, 1) := by decide +kernel
theorem dX12_isHad_0 : decode cX12_isHad 0 = .ok (.aload_n 0, 1) := by decide +kernel
theorem dX12_isHad_1 : decode cX12_isHad 1 = .ok (.getfield 7, 3) := by decide +kernel
theorem dX12_isHad_4 : decode cX12_isHad 4 = .ok (.iload_n 1, 1) := by decide +kernel
theorem dX12_isHad_5 : decode cX12_isHad 5 = .ok (.bipush 6, 2) := by decide +kernel
theorem dX12_isHad_7 : decode cX12_isHad 7 = .ok (.iadd, 1) := by decide +kernel
theorem dX12_isHad_8 : decode cX12_isHad 8 = .ok (.bipush 6, 2) := by decide +kernel
theorem dX12_isHad_10 : decode cX12_isHad 10 = .ok (.iload_n 2, 1) := by decide +kernel
theorem dX12_isHad_11 : decode cX12_isHad 11 = .ok (.imul, 1) := by decide +kernel
theorem dX12_isHad_12 : decode cX12_isHad 12 = .ok (.iadd, 1) := by decide +kernel
theorem dX12_isHad_13 : decode cX12_isHad 13 = .ok (.iload_n 3, 1) := by decide +kernel
theorem dX12_isHad_14 : decode cX12_isHad 14 = .ok (.iadd, 1) := by decide +kernel
theorem dX12_isHad_15 : decode cX12_isHad 15 = .ok (.iaload, 1) := by decide +kernel
theorem dX12_isHad_16 : decode cX12_isHad 16 = .ok (.ifCond .le 7, 3) := by decide +kernel
theorem dX12_isHad_19 : decode cX12_isHad 19 = .ok (.iconst 1, 1) := by decide +kernel
theorem dX12_isHad_20 : decode cX12_isHad 20 = .ok (.goto 4, 3) := by decide +kernel
theorem dX12_isHad_23 : decode cX12_isHad 23 = .ok (.iconst 0, 1) := by decide +kernel
theorem dX12_isHad_24 : decode cX12_isHad 24 = .ok (.ireturn, 1) := by decide +kernel
theorem dX12_throwsOne_0 : decode cX12_throwsOne 0 = .ok (.aload_n 0, 1) := by decide +kernel
theorem dX12_throwsOne_1 : decode cX12_throwsOne 1 = .ok (.iload_n 1, 1) := by decide +kernel
theorem dX12_throwsOne_2 : decode cX12_throwsOne 2 = .ok (.iload_n 3, 1) := by decide +kernel
theorem dX12_throwsOne_3 : decode cX12_throwsOne 3 = .ok (.invokevirtual 193, 3) := by decide +kernel
theorem dX12_throwsOne_6 : decode cX12_throwsOne 6 = .ok (.pop, 1) := by decide +kernel
theorem dX12_throwsOne_7 : decode cX12_throwsOne 7 = .ok (.iconst 0, 1) := by decide +kernel
theorem dX12_throwsOne_8 : decode cX12_throwsOne 8 = .ok (.istore 4, 2) := by decide +kernel
theorem dX12_throwsOne_10 : decode cX12_throwsOne 10 = .ok (.iload 4, 2) := by decide +kernel
theorem dX12_throwsOne_12 : decode cX12_throwsOne 12 = .ok (.aload_n 0, 1) := by decide +kernel
theorem dX12_throwsOne_13 : decode cX12_throwsOne 13 = .ok (.getfield 23, 3) := by decide +kernel
theorem dX12_throwsOne_16 : decode cX12_throwsOne 16 = .ok (.if_icmp .ge 57, 3) := by decide +kernel
theorem dX12_throwsOne_19 : decode cX12_throwsOne 19 = .ok (.aload_n 0, 1) := by decide +kernel
theorem dX12_throwsOne_20 : decode cX12_throwsOne 20 = .ok (.getfield 7, 3) := by decide +kernel
theorem dX12_throwsOne_23 : decode cX12_throwsOne 23 = .ok (.iload_n 1, 1) := by decide +kernel
theorem dX12_throwsOne_24 : decode cX12_throwsOne 24 = .ok (.iconst 0, 1) := by decide +kernel
theorem dX12_throwsOne_25 : decode cX12_throwsOne 25 = .ok (.iadd, 1) := by decide +kernel
theorem dX12_throwsOne_26 : decode cX12_throwsOne 26 = .ok (.iload 4, 2) := by decide +kernel
theorem dX12_throwsOne_28 : decode cX12_throwsOne 28 = .ok (.iadd, 1) := by decide +kernel
theorem dX12_throwsOne_29 : decode cX12_throwsOne 29 = .ok (.dup2, 1) := by decide +kernel
theorem dX12_throwsOne_30 : decode cX12_throwsOne 30 = .ok (.iaload, 1) := by decide +kernel
theorem dX12_throwsOne_31 : decode cX12_throwsOne 31 = .ok (.aload_n 0, 1) := by decide +kernel
theorem dX12_throwsOne_32 : decode cX12_throwsOne 32 = .ok (.getfield 42, 3) := by decide +kernel
theorem dX12_throwsOne_35 : decode cX12_throwsOne 35 = .ok (.iload 4, 2) := by decide +kernel
theorem dX12_throwsOne_37 : decode cX12_throwsOne 37 = .ok (.iaload, 1) := by decide +kernel
theorem dX12_throwsOne_38 : decode cX12_throwsOne 38 = .ok (.isub, 1) := by decide +kernel
theorem dX12_throwsOne_39 : decode cX12_throwsOne 39 = .ok (.iastore, 1) := by decide +kernel
theorem dX12_throwsOne_40 : decode cX12_throwsOne 40 = .ok (.aload_n 0, 1) := by decide +kernel
theorem dX12_throwsOne_41 : decode cX12_throwsOne 41 = .ok (.getfield 7, 3) := by decide +kernel
theorem dX12_throwsOne_44 : decode cX12_throwsOne 44 = .ok (.iload_n 1, 1) := by decide +kernel
theorem dX12_throwsOne_45 : decode cX12_throwsOne 45 = .ok (.bipush 6, 2) := by decide +kernel
theorem dX12_throwsOne_47 : decode cX12_throwsOne 47 = .ok (.iadd, 1) := by decide +kernel
theorem dX12_throwsOne_48 : decode cX12_throwsOne 48 = .ok (.bipush 6, 2) := by decide +kernel
theorem dX12_throwsOne_50 : decode cX12_throwsOne 50 = .ok (.iload_n 2, 1) := by decide +kernel
theorem dX12_throwsOne_51 : decode cX12_throwsOne 51 = .ok (.imul, 1) := by decide +kernel
theorem dX12_throwsOne_52 : decode cX12_throwsOne 52 = .ok (.iadd, 1) := by decide +kernel
theorem dX12_throwsOne_53 : decode cX12_throwsOne 53 = .ok (.iload 4, 2) := by decide +kernel
theorem dX12_throwsOne_55 : decode cX12_throwsOne 55 = .ok (.iadd, 1) := by decide +kernel
theorem dX12_throwsOne_56 : decode cX12_throwsOne 56 = .ok (.dup2, 1) := by decide +kernel
theorem dX12_throwsOne_57 : decode cX12_throwsOne 57 = .ok (.iaload, 1) := by decide +kernel
theorem dX12_throwsOne_58 : decode cX12_throwsOne 58 = .ok (.aload_n 0, 1) := by decide +kernel
theorem dX12_throwsOne_59 : decode cX12_throwsOne 59 = .ok (.getfield 42, 3) := by decide +kernel
theorem dX12_throwsOne_62 : decode cX12_throwsOne 62 = .ok (.iload 4, 2) := by decide +kernel
theorem dX12_throwsOne_64 : decode cX12_throwsOne 64 = .ok (.iaload, 1) := by decide +kernel
theorem dX12_throwsOne_65 : decode cX12_throwsOne 65 = .ok (.iadd, 1) := by decide +kernel
theorem dX12_throwsOne_66 : decode cX12_throwsOne 66 = .ok (.iastore, 1) := by decide +kernel
theorem dX12_throwsOne_67 : decode cX12_throwsOne 67 = .ok (.iinc 4 1, 3) := by decide +kernel
theorem dX12_throwsOne_70 : decode cX12_throwsOne 70 = .ok (.goto (-60), 3) := by decide +kernel
theorem dX12_throwsOne_73 : decode cX12_throwsOne 73 = .ok (.aload_n 0, 1) := by decide +kernel
theorem dX12_throwsOne_74 : decode cX12_throwsOne 74 = .ok (.getfield 7, 3) := by decide +kernel
theorem dX12_throwsOne_77 : decode cX12_throwsOne 77 = .ok (.iload_n 1, 1) := by decide +kernel
theorem dX12_throwsOne_78 : decode cX12_throwsOne 78 = .ok (.iconst 0, 1) := by decide +kernel
theorem dX12_throwsOne_79 : decode cX12_throwsOne 79 = .ok (.iadd, 1) := by decide +kernel
theorem dX12_throwsOne_80 : decode cX12_throwsOne 80 = .ok (.iload_n 3, 1) := by decide +kernel
theorem dX12_throwsOne_81 : decode cX12_throwsOne 81 = .ok (.iadd, 1) := by decide +kernel
theorem dX12_throwsOne_82 : decode cX12_throwsOne 82 = .ok (.dup2, 1) := by decide +kernel
theorem dX12_throwsOne_83 : decode cX12_throwsOne 83 = .ok (.iaload, 1) := by decide +kernel
theorem dX12_throwsOne_84 : decode cX12_throwsOne 84 = .ok (.iconst 1, 1) := by decide +kernel
theorem dX12_throwsOne_85 : decode cX12_throwsOne 85 = .ok (.iadd, 1) := by decide +kernel
theorem dX12_throwsOne_86 : decode cX12_throwsOne 86 = .ok (.iastore, 1) := by decide +kernel
theorem dX12_throwsOne_87 : decode cX12_throwsOne 87 = .ok (.aload_n 0, 1) := by decide +kernel
theorem dX12_throwsOne_88 : decode cX12_throwsOne 88 = .ok (.getfield 7, 3) := by decide +kernel
theorem dX12_throwsOne_91 : decode cX12_throwsOne 91 = .ok (.iload_n 1, 1) := by decide +kernel
theorem dX12_throwsOne_92 : decode cX12_throwsOne 92 = .ok (.bipush 6, 2) := by decide +kernel
theorem dX12_throwsOne_94 : decode cX12_throwsOne 94 = .ok (.iadd, 1) := by decide +kernel
theorem dX12_throwsOne_95 : decode cX12_throwsOne 95 = .ok (.bipush 6, 2) := by decide +kernel
theorem dX12_throwsOne_97 : decode cX12_throwsOne 97 = .ok (.iload_n 2, 1) := by decide +kernel
theorem dX12_throwsOne_98 : decode cX12_throwsOne 98 = .ok (.imul, 1) := by decide +kernel
theorem dX12_throwsOne_99 : decode cX12_throwsOne 99 = .ok (.iadd, 1) := by decide +kernel
theorem dX12_throwsOne_100 : decode cX12_throwsOne 100 = .ok (.iload_n 3, 1) := by decide +kernel
theorem dX12_throwsOne_101 : decode cX12_throwsOne 101 = .ok (.iadd, 1) := by decide +kernel
theorem dX12_throwsOne_102 : decode cX12_throwsOne 102 = .ok (.dup2, 1) := by decide +kernel
theorem dX12_throwsOne_103 : decode cX12_throwsOne 103 = .ok (.iaload, 1) := by decide +kernel
theorem dX12_throwsOne_104 : decode cX12_throwsOne 104 = .ok (.iconst 1, 1) := by decide +kernel
theorem dX12_throwsOne_105 : decode cX12_throwsOne 105 = .ok (.isub, 1) := by decide +kernel
theorem dX12_throwsOne_106 : decode cX12_throwsOne 106 = .ok (.iastore, 1) := by decide +kernel
theorem dX12_throwsOne_107 : decode cX12_throwsOne 107 = .ok (.return_, 1) := by decide +kernel
theorem dX12_byHabit_0 : decode cX12_byHabit 0 = .ok (.iconst (-1), 1) := by decide +kernel
theorem dX12_byHabit_1 : decode cX12_byHabit 1 = .ok (.istore_n 3, 1) := by decide +kernel
theorem dX12_byHabit_2 : decode cX12_byHabit 2 = .ok (.iconst 0, 1) := by decide +kernel
theorem dX12_byHabit_3 : decode cX12_byHabit 3 = .ok (.istore 4, 2) := by decide +kernel
theorem dX12_byHabit_5 : decode cX12_byHabit 5 = .ok (.iconst 0, 1) := by decide +kernel
theorem dX12_byHabit_6 : decode cX12_byHabit 6 = .ok (.istore 5, 2) := by decide +kernel
theorem dX12_byHabit_8 : decode cX12_byHabit 8 = .ok (.iload 5, 2) := by decide +kernel
theorem dX12_byHabit_10 : decode cX12_byHabit 10 = .ok (.aload_n 0, 1) := by decide +kernel
theorem dX12_byHabit_11 : decode cX12_byHabit 11 = .ok (.getfield 23, 3) := by decide +kernel
theorem dX12_byHabit_14 : decode cX12_byHabit 14 = .ok (.if_icmp .ge 88, 3) := by decide +kernel
theorem dX12_byHabit_17 : decode cX12_byHabit 17 = .ok (.aload_n 0, 1) := by decide +kernel
theorem dX12_byHabit_18 : decode cX12_byHabit 18 = .ok (.iload_n 1, 1) := by decide +kernel
theorem dX12_byHabit_19 : decode cX12_byHabit 19 = .ok (.iload_n 2, 1) := by decide +kernel
theorem dX12_byHabit_20 : decode cX12_byHabit 20 = .ok (.iload 5, 2) := by decide +kernel
theorem dX12_byHabit_22 : decode cX12_byHabit 22 = .ok (.invokevirtual 196, 3) := by decide +kernel
theorem dX12_byHabit_25 : decode cX12_byHabit 25 = .ok (.ifCond .eq 13, 3) := by decide +kernel
theorem dX12_byHabit_28 : decode cX12_byHabit 28 = .ok (.aload_n 0, 1) := by decide +kernel
theorem dX12_byHabit_29 : decode cX12_byHabit 29 = .ok (.iload_n 1, 1) := by decide +kernel
theorem dX12_byHabit_30 : decode cX12_byHabit 30 = .ok (.iload 5, 2) := by decide +kernel
theorem dX12_byHabit_32 : decode cX12_byHabit 32 = .ok (.invokevirtual 200, 3) := by decide +kernel
theorem dX12_byHabit_35 : decode cX12_byHabit 35 = .ok (.goto 4, 3) := by decide +kernel
theorem dX12_byHabit_38 : decode cX12_byHabit 38 = .ok (.iconst 0, 1) := by decide +kernel
theorem dX12_byHabit_39 : decode cX12_byHabit 39 = .ok (.istore 6, 2) := by decide +kernel
theorem dX12_byHabit_41 : decode cX12_byHabit 41 = .ok (.iload 6, 2) := by decide +kernel
theorem dX12_byHabit_43 : decode cX12_byHabit 43 = .ok (.iload 4, 2) := by decide +kernel
theorem dX12_byHabit_45 : decode cX12_byHabit 45 = .ok (.if_icmp .le 22, 3) := by decide +kernel
theorem dX12_byHabit_48 : decode cX12_byHabit 48 = .ok (.aload_n 0, 1) := by decide +kernel
theorem dX12_byHabit_49 : decode cX12_byHabit 49 = .ok (.getfield 33, 3) := by decide +kernel
theorem dX12_byHabit_52 : decode cX12_byHabit 52 = .ok (.iload_n 2, 1) := by decide +kernel
theorem dX12_byHabit_53 : decode cX12_byHabit 53 = .ok (.iaload, 1) := by decide +kernel
theorem dX12_byHabit_54 : decode cX12_byHabit 54 = .ok (.iconst 3, 1) := by decide +kernel
theorem dX12_byHabit_55 : decode cX12_byHabit 55 = .ok (.if_icmp .ne 8, 3) := by decide +kernel
theorem dX12_byHabit_58 : decode cX12_byHabit 58 = .ok (.iload_n 3, 1) := by decide +kernel
theorem dX12_byHabit_59 : decode cX12_byHabit 59 = .ok (.iconst (-1), 1) := by decide +kernel
theorem dX12_byHabit_60 : decode cX12_byHabit 60 = .ok (.if_icmp .ne 7, 3) := by decide +kernel
theorem dX12_byHabit_63 : decode cX12_byHabit 63 = .ok (.iconst 1, 1) := by decide +kernel
theorem dX12_byHabit_64 : decode cX12_byHabit 64 = .ok (.goto 4, 3) := by decide +kernel
theorem dX12_byHabit_67 : decode cX12_byHabit 67 = .ok (.iconst 0, 1) := by decide +kernel
theorem dX12_byHabit_68 : decode cX12_byHabit 68 = .ok (.istore 7, 2) := by decide +kernel
theorem dX12_byHabit_70 : decode cX12_byHabit 70 = .ok (.iload 7, 2) := by decide +kernel
theorem dX12_byHabit_72 : decode cX12_byHabit 72 = .ok (.ifCond .eq 8, 3) := by decide +kernel
theorem dX12_byHabit_75 : decode cX12_byHabit 75 = .ok (.iload 5, 2) := by decide +kernel
theorem dX12_byHabit_77 : decode cX12_byHabit 77 = .ok (.goto 4, 3) := by decide +kernel
theorem dX12_byHabit_80 : decode cX12_byHabit 80 = .ok (.iload_n 3, 1) := by decide +kernel
theorem dX12_byHabit_81 : decode cX12_byHabit 81 = .ok (.istore_n 3, 1) := by decide +kernel
theorem dX12_byHabit_82 : decode cX12_byHabit 82 = .ok (.iload 7, 2) := by decide +kernel
theorem dX12_byHabit_84 : decode cX12_byHabit 84 = .ok (.ifCond .eq 8, 3) := by decide +kernel
theorem dX12_byHabit_87 : decode cX12_byHabit 87 = .ok (.iload 6, 2) := by decide +kernel
theorem dX12_byHabit_89 : decode cX12_byHabit 89 = .ok (.goto 5, 3) := by decide +kernel
theorem dX12_byHabit_92 : decode cX12_byHabit 92 = .ok (.iload 4, 2) := by decide +kernel
theorem dX12_byHabit_94 : decode cX12_byHabit 94 = .ok (.istore 4, 2) := by decide +kernel
theorem dX12_byHabit_96 : decode cX12_byHabit 96 = .ok (.iinc 5 1, 3) := by decide +kernel
theorem dX12_byHabit_99 : decode cX12_byHabit 99 = .ok (.goto (-91), 3) := by decide +kernel
theorem dX12_byHabit_102 : decode cX12_byHabit 102 = .ok (.aload_n 0, 1) := by decide +kernel
theorem dX12_byHabit_103 : decode cX12_byHabit 103 = .ok (.getfield 33, 3) := by decide +kernel
theorem dX12_byHabit_106 : decode cX12_byHabit 106 = .ok (.iload_n 2, 1) := by decide +kernel
theorem dX12_byHabit_107 : decode cX12_byHabit 107 = .ok (.iaload, 1) := by decide +kernel
theorem dX12_byHabit_108 : decode cX12_byHabit 108 = .ok (.ifCond .eq 24, 3) := by decide +kernel
theorem dX12_byHabit_111 : decode cX12_byHabit 111 = .ok (.aload_n 0, 1) := by decide +kernel
theorem dX12_byHabit_112 : decode cX12_byHabit 112 = .ok (.getfield 33, 3) := by decide +kernel
theorem dX12_byHabit_115 : decode cX12_byHabit 115 = .ok (.iload_n 2, 1) := by decide +kernel
theorem dX12_byHabit_116 : decode cX12_byHabit 116 = .ok (.iaload, 1) := by decide +kernel
theorem dX12_byHabit_117 : decode cX12_byHabit 117 = .ok (.iconst 2, 1) := by decide +kernel
theorem dX12_byHabit_118 : decode cX12_byHabit 118 = .ok (.if_icmp .ne 18, 3) := by decide +kernel
theorem dX12_byHabit_121 : decode cX12_byHabit 121 = .ok (.iload 4, 2) := by decide +kernel
theorem dX12_byHabit_123 : decode cX12_byHabit 123 = .ok (.aload_n 0, 1) := by decide +kernel
theorem dX12_byHabit_124 : decode cX12_byHabit 124 = .ok (.getfield 36, 3) := by decide +kernel
theorem dX12_byHabit_127 : decode cX12_byHabit 127 = .ok (.iload_n 2, 1) := by decide +kernel
theorem dX12_byHabit_128 : decode cX12_byHabit 128 = .ok (.iaload, 1) := by decide +kernel
theorem dX12_byHabit_129 : decode cX12_byHabit 129 = .ok (.if_icmp .ge 7, 3) := by decide +kernel
theorem dX12_byHabit_132 : decode cX12_byHabit 132 = .ok (.iconst (-1), 1) := by decide +kernel
theorem dX12_byHabit_133 : decode cX12_byHabit 133 = .ok (.goto 4, 3) := by decide +kernel
theorem dX12_byHabit_136 : decode cX12_byHabit 136 = .ok (.iload_n 3, 1) := by decide +kernel
theorem dX12_byHabit_137 : decode cX12_byHabit 137 = .ok (.ireturn, 1) := by decide +kernel
theorem dX12_visitsBy_0 : decode cX12_visitsBy 0 = .ok (.aload_n 0, 1) := by decide +kernel
theorem dX12_visitsBy_1 : decode cX12_visitsBy 1 = .ok (.iload_n 1, 1) := by decide +kernel
theorem dX12_visitsBy_2 : decode cX12_visitsBy 2 = .ok (.iload_n 2, 1) := by decide +kernel
theorem dX12_visitsBy_3 : decode cX12_visitsBy 3 = .ok (.invokevirtual 203, 3) := by decide +kernel
theorem dX12_visitsBy_6 : decode cX12_visitsBy 6 = .ok (.istore_n 3, 1) := by decide +kernel
theorem dX12_visitsBy_7 : decode cX12_visitsBy 7 = .ok (.iload_n 3, 1) := by decide +kernel
theorem dX12_visitsBy_8 : decode cX12_visitsBy 8 = .ok (.iconst (-1), 1) := by decide +kernel
theorem dX12_visitsBy_9 : decode cX12_visitsBy 9 = .ok (.if_icmp .eq 10, 3) := by decide +kernel
theorem dX12_visitsBy_12 : decode cX12_visitsBy 12 = .ok (.aload_n 0, 1) := by decide +kernel
theorem dX12_visitsBy_13 : decode cX12_visitsBy 13 = .ok (.iload_n 1, 1) := by decide +kernel
theorem dX12_visitsBy_14 : decode cX12_visitsBy 14 = .ok (.iload_n 2, 1) := by decide +kernel
theorem dX12_visitsBy_15 : decode cX12_visitsBy 15 = .ok (.iload_n 3, 1) := by decide +kernel
theorem dX12_visitsBy_16 : decode cX12_visitsBy 16 = .ok (.invokevirtual 206, 3) := by decide +kernel
theorem dX12_visitsBy_19 : decode cX12_visitsBy 19 = .ok (.iload_n 3, 1) := by decide +kernel
theorem dX12_visitsBy_20 : decode cX12_visitsBy 20 = .ok (.iconst (-1), 1) := by decide +kernel
theorem dX12_visitsBy_21 : decode cX12_visitsBy 21 = .ok (.if_icmp .eq 7, 3) := by decide +kernel
theorem dX12_visitsBy_24 : decode cX12_visitsBy 24 = .ok (.iconst 1, 1) := by decide +kernel
theorem dX12_visitsBy_25 : decode cX12_visitsBy 25 = .ok (.goto 4, 3) := by decide +kernel
theorem dX12_visitsBy_28 : decode cX12_visitsBy 28 = .ok (.iconst 0, 1) := by decide +kernel
theorem dX12_visitsBy_29 : decode cX12_visitsBy 29 = .ok (.ireturn, 1) := by decide +kernel
theorem dX12_as_0 : decode cX12_as 0 = .ok (.iload_n 1, 1) := by decide +kernel
theorem dX12_as_1 : decode cX12_as 1 = .ok (.invokestatic 180, 3) := by decide +kernel
theorem dX12_as_4 : decode cX12_as 4 = .ok (.ifCond .ne 6, 3) := by decide +kernel
theorem dX12_as_7 : decode cX12_as 7 = .ok (.bipush (-2), 2) := by decide +kernel
theorem dX12_as_9 : decode cX12_as 9 = .ok (.ireturn, 1) := by decide +kernel
theorem dX12_as_10 : decode cX12_as 10 = .ok (.iload_n 2, 1) := by decide +kernel
theorem dX12_as_11 : decode cX12_as 11 = .ok (.i2l, 1) := by decide +kernel
theorem dX12_as_12 : decode cX12_as 12 = .ok (.lconst 0, 1) := by decide +kernel
theorem dX12_as_13 : decode cX12_as 13 = .ok (.ldc2_w 210, 3) := by decide +kernel
theorem dX12_as_16 : decode cX12_as 16 = .ok (.invokestatic 62, 3) := by decide +kernel
theorem dX12_as_19 : decode cX12_as 19 = .ok (.ifCond .ne 6, 3) := by decide +kernel
theorem dX12_as_22 : decode cX12_as 22 = .ok (.bipush (-3), 2) := by decide +kernel
theorem dX12_as_24 : decode cX12_as 24 = .ok (.ireturn, 1) := by decide +kernel
theorem dX12_as_25 : decode cX12_as 25 = .ok (.aload_n 0, 1) := by decide +kernel
theorem dX12_as_26 : decode cX12_as 26 = .ok (.getfield 33, 3) := by decide +kernel
theorem dX12_as_29 : decode cX12_as 29 = .ok (.iload_n 1, 1) := by decide +kernel
theorem dX12_as_30 : decode cX12_as 30 = .ok (.iaload, 1) := by decide +kernel
theorem dX12_as_31 : decode cX12_as 31 = .ok (.istore_n 3, 1) := by decide +kernel
theorem dX12_as_32 : decode cX12_as 32 = .ok (.iload_n 2, 1) := by decide +kernel
theorem dX12_as_33 : decode cX12_as 33 = .ok (.ifCond .eq 56, 3) := by decide +kernel
theorem dX12_as_36 : decode cX12_as 36 = .ok (.iload_n 2, 1) := by decide +kernel
theorem dX12_as_37 : decode cX12_as 37 = .ok (.iconst 1, 1) := by decide +kernel
theorem dX12_as_38 : decode cX12_as 38 = .ok (.if_icmp .ne 7, 3) := by decide +kernel
theorem dX12_as_41 : decode cX12_as 41 = .ok (.iload_n 3, 1) := by decide +kernel
theorem dX12_as_42 : decode cX12_as 42 = .ok (.ifCond .eq 47, 3) := by decide +kernel
theorem dX12_as_45 : decode cX12_as 45 = .ok (.iload_n 2, 1) := by decide +kernel
theorem dX12_as_46 : decode cX12_as 46 = .ok (.iconst 2, 1) := by decide +kernel
theorem dX12_as_47 : decode cX12_as 47 = .ok (.if_icmp .ne 7, 3) := by decide +kernel
theorem dX12_as_50 : decode cX12_as 50 = .ok (.iload_n 3, 1) := by decide +kernel
theorem dX12_as_51 : decode cX12_as 51 = .ok (.ifCond .ne 38, 3) := by decide +kernel
theorem dX12_as_54 : decode cX12_as 54 = .ok (.iload_n 2, 1) := by decide +kernel
theorem dX12_as_55 : decode cX12_as 55 = .ok (.iconst 3, 1) := by decide +kernel
theorem dX12_as_56 : decode cX12_as 56 = .ok (.if_icmp .ne 13, 3) := by decide +kernel
theorem dX12_as_59 : decode cX12_as 59 = .ok (.iload_n 3, 1) := by decide +kernel
theorem dX12_as_60 : decode cX12_as 60 = .ok (.iconst 1, 1) := by decide +kernel
theorem dX12_as_61 : decode cX12_as 61 = .ok (.if_icmp .eq 28, 3) := by decide +kernel
theorem dX12_as_64 : decode cX12_as 64 = .ok (.iload_n 3, 1) := by decide +kernel
theorem dX12_as_65 : decode cX12_as 65 = .ok (.iconst 2, 1) := by decide +kernel
theorem dX12_as_66 : decode cX12_as 66 = .ok (.if_icmp .eq 23, 3) := by decide +kernel
theorem dX12_as_69 : decode cX12_as 69 = .ok (.iload_n 2, 1) := by decide +kernel
theorem dX12_as_70 : decode cX12_as 70 = .ok (.iconst 4, 1) := by decide +kernel
theorem dX12_as_71 : decode cX12_as 71 = .ok (.if_icmp .ne 8, 3) := by decide +kernel
theorem dX12_as_74 : decode cX12_as 74 = .ok (.iload_n 3, 1) := by decide +kernel
theorem dX12_as_75 : decode cX12_as 75 = .ok (.iconst 2, 1) := by decide +kernel
theorem dX12_as_76 : decode cX12_as 76 = .ok (.if_icmp .eq 13, 3) := by decide +kernel
theorem dX12_as_79 : decode cX12_as 79 = .ok (.iload_n 2, 1) := by decide +kernel
theorem dX12_as_80 : decode cX12_as 80 = .ok (.iconst 5, 1) := by decide +kernel
theorem dX12_as_81 : decode cX12_as 81 = .ok (.if_icmp .ne 12, 3) := by decide +kernel
theorem dX12_as_84 : decode cX12_as 84 = .ok (.iload_n 3, 1) := by decide +kernel
theorem dX12_as_85 : decode cX12_as 85 = .ok (.iconst 3, 1) := by decide +kernel
theorem dX12_as_86 : decode cX12_as 86 = .ok (.if_icmp .ne 7, 3) := by decide +kernel
theorem dX12_as_89 : decode cX12_as 89 = .ok (.iconst 1, 1) := by decide +kernel
theorem dX12_as_90 : decode cX12_as 90 = .ok (.goto 4, 3) := by decide +kernel
theorem dX12_as_93 : decode cX12_as 93 = .ok (.iconst 0, 1) := by decide +kernel
theorem dX12_as_94 : decode cX12_as 94 = .ok (.istore 4, 2) := by decide +kernel
theorem dX12_as_96 : decode cX12_as 96 = .ok (.iload 4, 2) := by decide +kernel
theorem dX12_as_98 : decode cX12_as 98 = .ok (.ifCond .eq 12, 3) := by decide +kernel
theorem dX12_as_101 : decode cX12_as 101 = .ok (.aload_n 0, 1) := by decide +kernel
theorem dX12_as_102 : decode cX12_as 102 = .ok (.iconst 0, 1) := by decide +kernel
theorem dX12_as_103 : decode cX12_as 103 = .ok (.iload_n 1, 1) := by decide +kernel
theorem dX12_as_104 : decode cX12_as 104 = .ok (.invokevirtual 203, 3) := by decide +kernel
theorem dX12_as_107 : decode cX12_as 107 = .ok (.goto 5, 3) := by decide +kernel
theorem dX12_as_110 : decode cX12_as 110 = .ok (.bipush (-4), 2) := by decide +kernel
theorem dX12_as_112 : decode cX12_as 112 = .ok (.ireturn, 1) := by decide +kernel
theorem dX12_come_0 : decode cX12_come 0 = .ok (.iload_n 1, 1) := by decide +kernel
theorem dX12_come_1 : decode cX12_come 1 = .ok (.ifCond .ge 8, 3) := by decide +kernel
theorem dX12_come_4 : decode cX12_come 4 = .ok (.bipush (-3), 2) := by decide +kernel
theorem dX12_come_6 : decode cX12_come 6 = .ok (.goto 21, 3) := by decide +kernel
theorem dX12_come_9 : decode cX12_come 9 = .ok (.iload_n 1, 1) := by decide +kernel
theorem dX12_come_10 : decode cX12_come 10 = .ok (.aload_n 0, 1) := by decide +kernel
theorem dX12_come_11 : decode cX12_come 11 = .ok (.getfield 147, 3) := by decide +kernel
theorem dX12_come_14 : decode cX12_come 14 = .ok (.if_icmp .ge 12, 3) := by decide +kernel
theorem dX12_come_17 : decode cX12_come 17 = .ok (.aload_n 0, 1) := by decide +kernel
theorem dX12_come_18 : decode cX12_come 18 = .ok (.getfield 39, 3) := by decide +kernel
theorem dX12_come_21 : decode cX12_come 21 = .ok (.iload_n 1, 1) := by decide +kernel
theorem dX12_come_22 : decode cX12_come 22 = .ok (.iaload, 1) := by decide +kernel
theorem dX12_come_23 : decode cX12_come 23 = .ok (.goto 4, 3) := by decide +kernel
theorem dX12_come_26 : decode cX12_come 26 = .ok (.iconst (-1), 1) := by decide +kernel
theorem dX12_come_27 : decode cX12_come 27 = .ok (.ireturn, 1) := by decide +kernel
theorem dX12_gain_0 : decode cX12_gain 0 = .ok (.iload_n 1, 1) := by decide +kernel
theorem dX12_gain_1 : decode cX12_gain 1 = .ok (.invokestatic 180, 3) := by decide +kernel
theorem dX12_gain_4 : decode cX12_gain 4 = .ok (.ifCond .eq 11, 3) := by decide +kernel
theorem dX12_gain_7 : decode cX12_gain 7 = .ok (.aload_n 0, 1) := by decide +kernel
theorem dX12_gain_8 : decode cX12_gain 8 = .ok (.iload_n 2, 1) := by decide +kernel
theorem dX12_gain_9 : decode cX12_gain 9 = .ok (.invokevirtual 177, 3) := by decide +kernel
theorem dX12_gain_12 : decode cX12_gain 12 = .ok (.ifCond .ne 6, 3) := by decide +kernel
theorem dX12_gain_15 : decode cX12_gain 15 = .ok (.bipush (-2), 2) := by decide +kernel
theorem dX12_gain_17 : decode cX12_gain 17 = .ok (.ireturn, 1) := by decide +kernel
theorem dX12_gain_18 : decode cX12_gain 18 = .ok (.aload_n 0, 1) := by decide +kernel
theorem dX12_gain_19 : decode cX12_gain 19 = .ok (.iconst 0, 1) := by decide +kernel
theorem dX12_gain_20 : decode cX12_gain 20 = .ok (.iload_n 1, 1) := by decide +kernel
theorem dX12_gain_21 : decode cX12_gain 21 = .ok (.iload_n 2, 1) := by decide +kernel
theorem dX12_gain_22 : decode cX12_gain 22 = .ok (.invokevirtual 196, 3) := by decide +kernel
theorem dX12_gain_25 : decode cX12_gain 25 = .ok (.ifCond .eq 15, 3) := by decide +kernel
theorem dX12_gain_28 : decode cX12_gain 28 = .ok (.ldc 212, 2) := by decide +kernel
theorem dX12_gain_30 : decode cX12_gain 30 = .ok (.aload_n 0, 1) := by decide +kernel
theorem dX12_gain_31 : decode cX12_gain 31 = .ok (.iconst 0, 1) := by decide +kernel
theorem dX12_gain_32 : decode cX12_gain 32 = .ok (.iload_n 2, 1) := by decide +kernel
theorem dX12_gain_33 : decode cX12_gain 33 = .ok (.invokevirtual 200, 3) := by decide +kernel
theorem dX12_gain_36 : decode cX12_gain 36 = .ok (.iadd, 1) := by decide +kernel
theorem dX12_gain_37 : decode cX12_gain 37 = .ok (.goto 5, 3) := by decide +kernel
theorem dX12_gain_40 : decode cX12_gain 40 = .ok (.bipush (-4), 2) := by decide +kernel
theorem dX12_gain_42 : decode cX12_gain 42 = .ok (.ireturn, 1) := by decide +kernel
theorem dX12_visit_0 : decode cX12_visit 0 = .ok (.iload_n 1, 1) := by decide +kernel
theorem dX12_visit_1 : decode cX12_visit 1 = .ok (.iconst (-1), 1) := by decide +kernel
theorem dX12_visit_2 : decode cX12_visit 2 = .ok (.if_icmp .eq 14, 3) := by decide +kernel
theorem dX12_visit_5 : decode cX12_visit 5 = .ok (.aload_n 0, 1) := by decide +kernel
theorem dX12_visit_6 : decode cX12_visit 6 = .ok (.iload_n 1, 1) := by decide +kernel
theorem dX12_visit_7 : decode cX12_visit 7 = .ok (.invokevirtual 177, 3) := by decide +kernel
theorem dX12_visit_10 : decode cX12_visit 10 = .ok (.ifCond .ne 6, 3) := by decide +kernel
theorem dX12_visit_13 : decode cX12_visit 13 = .ok (.bipush (-2), 2) := by decide +kernel
theorem dX12_visit_15 : decode cX12_visit 15 = .ok (.ireturn, 1) := by decide +kernel
theorem dX12_visit_16 : decode cX12_visit 16 = .ok (.aload_n 0, 1) := by decide +kernel
theorem dX12_visit_17 : decode cX12_visit 17 = .ok (.invokevirtual 213, 3) := by decide +kernel
theorem dX12_visit_20 : decode cX12_visit 20 = .ok (.ifCond .ne 6, 3) := by decide +kernel
theorem dX12_visit_23 : decode cX12_visit 23 = .ok (.bipush (-4), 2) := by decide +kernel
theorem dX12_visit_25 : decode cX12_visit 25 = .ok (.ireturn, 1) := by decide +kernel
theorem dX12_visit_26 : decode cX12_visit 26 = .ok (.aload_n 0, 1) := by decide +kernel
theorem dX12_visit_27 : decode cX12_visit 27 = .ok (.getfield 39, 3) := by decide +kernel
theorem dX12_visit_30 : decode cX12_visit 30 = .ok (.aload_n 0, 1) := by decide +kernel
theorem dX12_visit_31 : decode cX12_visit 31 = .ok (.getfield 7, 3) := by decide +kernel
theorem dX12_visit_34 : decode cX12_visit 34 = .ok (.bipush 30, 2) := by decide +kernel
theorem dX12_visit_36 : decode cX12_visit 36 = .ok (.iaload, 1) := by decide +kernel
theorem dX12_visit_37 : decode cX12_visit 37 = .ok (.iaload, 1) := by decide +kernel
theorem dX12_visit_38 : decode cX12_visit 38 = .ok (.istore_n 2, 1) := by decide +kernel
theorem dX12_visit_39 : decode cX12_visit 39 = .ok (.iload_n 1, 1) := by decide +kernel
theorem dX12_visit_40 : decode cX12_visit 40 = .ok (.iconst (-1), 1) := by decide +kernel
theorem dX12_visit_41 : decode cX12_visit 41 = .ok (.if_icmp .eq 16, 3) := by decide +kernel
theorem dX12_visit_44 : decode cX12_visit 44 = .ok (.aload_n 0, 1) := by decide +kernel
theorem dX12_visit_45 : decode cX12_visit 45 = .ok (.iconst 0, 1) := by decide +kernel
theorem dX12_visit_46 : decode cX12_visit 46 = .ok (.iload_n 2, 1) := by decide +kernel
theorem dX12_visit_47 : decode cX12_visit 47 = .ok (.iload_n 1, 1) := by decide +kernel
theorem dX12_visit_48 : decode cX12_visit 48 = .ok (.invokevirtual 196, 3) := by decide +kernel
theorem dX12_visit_51 : decode cX12_visit 51 = .ok (.ifCond .ne 6, 3) := by decide +kernel
theorem dX12_visit_54 : decode cX12_visit 54 = .ok (.bipush (-4), 2) := by decide +kernel
theorem dX12_visit_56 : decode cX12_visit 56 = .ok (.ireturn, 1) := by decide +kernel
theorem dX12_visit_57 : decode cX12_visit 57 = .ok (.iload_n 1, 1) := by decide +kernel
theorem dX12_visit_58 : decode cX12_visit 58 = .ok (.iconst (-1), 1) := by decide +kernel
theorem dX12_visit_59 : decode cX12_visit 59 = .ok (.if_icmp .ne 7, 3) := by decide +kernel
theorem dX12_visit_62 : decode cX12_visit 62 = .ok (.iconst 0, 1) := by decide +kernel
theorem dX12_visit_63 : decode cX12_visit 63 = .ok (.goto 9, 3) := by decide +kernel
theorem dX12_visit_66 : decode cX12_visit 66 = .ok (.aload_n 0, 1) := by decide +kernel
theorem dX12_visit_67 : decode cX12_visit 67 = .ok (.iconst 0, 1) := by decide +kernel
theorem dX12_visit_68 : decode cX12_visit 68 = .ok (.iload_n 1, 1) := by decide +kernel
theorem dX12_visit_69 : decode cX12_visit 69 = .ok (.invokevirtual 200, 3) := by decide +kernel
theorem dX12_visit_72 : decode cX12_visit 72 = .ok (.istore_n 3, 1) := by decide +kernel
theorem dX12_visit_73 : decode cX12_visit 73 = .ok (.iload_n 1, 1) := by decide +kernel
theorem dX12_visit_74 : decode cX12_visit 74 = .ok (.iconst (-1), 1) := by decide +kernel
theorem dX12_visit_75 : decode cX12_visit 75 = .ok (.if_icmp .eq 10, 3) := by decide +kernel
theorem dX12_visit_78 : decode cX12_visit 78 = .ok (.aload_n 0, 1) := by decide +kernel
theorem dX12_visit_79 : decode cX12_visit 79 = .ok (.iconst 0, 1) := by decide +kernel
theorem dX12_visit_80 : decode cX12_visit 80 = .ok (.iload_n 2, 1) := by decide +kernel
theorem dX12_visit_81 : decode cX12_visit 81 = .ok (.iload_n 1, 1) := by decide +kernel
theorem dX12_visit_82 : decode cX12_visit 82 = .ok (.invokevirtual 206, 3) := by decide +kernel
theorem dX12_visit_85 : decode cX12_visit 85 = .ok (.aload_n 0, 1) := by decide +kernel
theorem dX12_visit_86 : decode cX12_visit 86 = .ok (.getfield 7, 3) := by decide +kernel
theorem dX12_visit_89 : decode cX12_visit 89 = .ok (.bipush 30, 2) := by decide +kernel
theorem dX12_visit_91 : decode cX12_visit 91 = .ok (.dup2, 1) := by decide +kernel
theorem dX12_visit_92 : decode cX12_visit 92 = .ok (.iaload, 1) := by decide +kernel
theorem dX12_visit_93 : decode cX12_visit 93 = .ok (.iconst 1, 1) := by decide +kernel
theorem dX12_visit_94 : decode cX12_visit 94 = .ok (.iadd, 1) := by decide +kernel
theorem dX12_visit_95 : decode cX12_visit 95 = .ok (.iastore, 1) := by decide +kernel
theorem dX12_visit_96 : decode cX12_visit 96 = .ok (.ldc 212, 2) := by decide +kernel
theorem dX12_visit_98 : decode cX12_visit 98 = .ok (.iload_n 3, 1) := by decide +kernel
theorem dX12_visit_99 : decode cX12_visit 99 = .ok (.iadd, 1) := by decide +kernel
theorem dX12_visit_100 : decode cX12_visit 100 = .ok (.ireturn, 1) := by decide +kernel
theorem dX12_go_0 : decode cX12_go 0 = .ok (.iload_n 1, 1) := by decide +kernel
theorem dX12_go_1 : decode cX12_go 1 = .ok (.i2l, 1) := by decide +kernel
theorem dX12_go_2 : decode cX12_go 2 = .ok (.lconst 1, 1) := by decide +kernel
theorem dX12_go_3 : decode cX12_go 3 = .ok (.ldc2_w 216, 3) := by decide +kernel
theorem dX12_go_6 : decode cX12_go 6 = .ok (.invokestatic 62, 3) := by decide +kernel
theorem dX12_go_9 : decode cX12_go 9 = .ok (.ifCond .ne 6, 3) := by decide +kernel
theorem dX12_go_12 : decode cX12_go 12 = .ok (.bipush (-3), 2) := by decide +kernel
theorem dX12_go_14 : decode cX12_go 14 = .ok (.ireturn, 1) := by decide +kernel
theorem dX12_go_15 : decode cX12_go 15 = .ok (.iconst 0, 1) := by decide +kernel
theorem dX12_go_16 : decode cX12_go 16 = .ok (.istore_n 2, 1) := by decide +kernel
theorem dX12_go_17 : decode cX12_go 17 = .ok (.iload_n 2, 1) := by decide +kernel
theorem dX12_go_18 : decode cX12_go 18 = .ok (.iload_n 1, 1) := by decide +kernel
theorem dX12_go_19 : decode cX12_go 19 = .ok (.if_icmp .ge 52, 3) := by decide +kernel
theorem dX12_go_22 : decode cX12_go 22 = .ok (.aload_n 0, 1) := by decide +kernel
theorem dX12_go_23 : decode cX12_go 23 = .ok (.getfield 7, 3) := by decide +kernel
theorem dX12_go_26 : decode cX12_go 26 = .ok (.bipush 30, 2) := by decide +kernel
theorem dX12_go_28 : decode cX12_go 28 = .ok (.iaload, 1) := by decide +kernel
theorem dX12_go_29 : decode cX12_go 29 = .ok (.aload_n 0, 1) := by decide +kernel
theorem dX12_go_30 : decode cX12_go 30 = .ok (.getfield 147, 3) := by decide +kernel
theorem dX12_go_33 : decode cX12_go 33 = .ok (.if_icmp .ge 38, 3) := by decide +kernel
theorem dX12_go_36 : decode cX12_go 36 = .ok (.aload_n 0, 1) := by decide +kernel
theorem dX12_go_37 : decode cX12_go 37 = .ok (.iconst 0, 1) := by decide +kernel
theorem dX12_go_38 : decode cX12_go 38 = .ok (.aload_n 0, 1) := by decide +kernel
theorem dX12_go_39 : decode cX12_go 39 = .ok (.getfield 39, 3) := by decide +kernel
theorem dX12_go_42 : decode cX12_go 42 = .ok (.aload_n 0, 1) := by decide +kernel
theorem dX12_go_43 : decode cX12_go 43 = .ok (.getfield 7, 3) := by decide +kernel
theorem dX12_go_46 : decode cX12_go 46 = .ok (.bipush 30, 2) := by decide +kernel
theorem dX12_go_48 : decode cX12_go 48 = .ok (.iaload, 1) := by decide +kernel
theorem dX12_go_49 : decode cX12_go 49 = .ok (.iaload, 1) := by decide +kernel
theorem dX12_go_50 : decode cX12_go 50 = .ok (.invokevirtual 218, 3) := by decide +kernel
theorem dX12_go_53 : decode cX12_go 53 = .ok (.pop, 1) := by decide +kernel
theorem dX12_go_54 : decode cX12_go 54 = .ok (.aload_n 0, 1) := by decide +kernel
theorem dX12_go_55 : decode cX12_go 55 = .ok (.getfield 7, 3) := by decide +kernel
theorem dX12_go_58 : decode cX12_go 58 = .ok (.bipush 30, 2) := by decide +kernel
theorem dX12_go_60 : decode cX12_go 60 = .ok (.dup2, 1) := by decide +kernel
theorem dX12_go_61 : decode cX12_go 61 = .ok (.iaload, 1) := by decide +kernel
theorem dX12_go_62 : decode cX12_go 62 = .ok (.iconst 1, 1) := by decide +kernel
theorem dX12_go_63 : decode cX12_go 63 = .ok (.iadd, 1) := by decide +kernel
theorem dX12_go_64 : decode cX12_go 64 = .ok (.iastore, 1) := by decide +kernel
theorem dX12_go_65 : decode cX12_go 65 = .ok (.iinc 2 1, 3) := by decide +kernel
theorem dX12_go_68 : decode cX12_go 68 = .ok (.goto (-51), 3) := by decide +kernel
theorem dX12_go_71 : decode cX12_go 71 = .ok (.aload_n 0, 1) := by decide +kernel
theorem dX12_go_72 : decode cX12_go 72 = .ok (.getfield 7, 3) := by decide +kernel
theorem dX12_go_75 : decode cX12_go 75 = .ok (.bipush 30, 2) := by decide +kernel
theorem dX12_go_77 : decode cX12_go 77 = .ok (.iaload, 1) := by decide +kernel
theorem dX12_go_78 : decode cX12_go 78 = .ok (.ireturn, 1) := by decide +kernel
theorem dX12_copy_0 : decode cX12_copy 0 = .ok (.iconst 0, 1) := by decide +kernel
theorem dX12_copy_1 : decode cX12_copy 1 = .ok (.istore_n 3, 1) := by decide +kernel
theorem dX12_copy_2 : decode cX12_copy 2 = .ok (.iload_n 3, 1) := by decide +kernel
theorem dX12_copy_3 : decode cX12_copy 3 = .ok (.bipush 31, 2) := by decide +kernel
theorem dX12_copy_5 : decode cX12_copy 5 = .ok (.if_icmp .ge 31, 3) := by decide +kernel
theorem dX12_copy_8 : decode cX12_copy 8 = .ok (.aload_n 0, 1) := by decide +kernel
theorem dX12_copy_9 : decode cX12_copy 9 = .ok (.getfield 7, 3) := by decide +kernel
theorem dX12_copy_12 : decode cX12_copy 12 = .ok (.bipush 31, 2) := by decide +kernel
theorem dX12_copy_14 : decode cX12_copy 14 = .ok (.iload_n 2, 1) := by decide +kernel
theorem dX12_copy_15 : decode cX12_copy 15 = .ok (.imul, 1) := by decide +kernel
theorem dX12_copy_16 : decode cX12_copy 16 = .ok (.iload_n 3, 1) := by decide +kernel
theorem dX12_copy_17 : decode cX12_copy 17 = .ok (.iadd, 1) := by decide +kernel
theorem dX12_copy_18 : decode cX12_copy 18 = .ok (.aload_n 0, 1) := by decide +kernel
theorem dX12_copy_19 : decode cX12_copy 19 = .ok (.getfield 7, 3) := by decide +kernel
theorem dX12_copy_22 : decode cX12_copy 22 = .ok (.bipush 31, 2) := by decide +kernel
theorem dX12_copy_24 : decode cX12_copy 24 = .ok (.iload_n 1, 1) := by decide +kernel
theorem dX12_copy_25 : decode cX12_copy 25 = .ok (.imul, 1) := by decide +kernel
theorem dX12_copy_26 : decode cX12_copy 26 = .ok (.iload_n 3, 1) := by decide +kernel
theorem dX12_copy_27 : decode cX12_copy 27 = .ok (.iadd, 1) := by decide +kernel
theorem dX12_copy_28 : decode cX12_copy 28 = .ok (.iaload, 1) := by decide +kernel
theorem dX12_copy_29 : decode cX12_copy 29 = .ok (.iastore, 1) := by decide +kernel
theorem dX12_copy_30 : decode cX12_copy 30 = .ok (.iinc 3 1, 3) := by decide +kernel
theorem dX12_copy_33 : decode cX12_copy 33 = .ok (.goto (-31), 3) := by decide +kernel
theorem dX12_copy_36 : decode cX12_copy 36 = .ok (.return_, 1) := by decide +kernel
theorem dX12_powerOf_0 : decode cX12_powerOf 0 = .ok (.iconst 1, 1) := by decide +kernel
theorem dX12_powerOf_1 : decode cX12_powerOf 1 = .ok (.istore_n 1, 1) := by decide +kernel
theorem dX12_powerOf_2 : decode cX12_powerOf 2 = .ok (.iconst 0, 1) := by decide +kernel
theorem dX12_powerOf_3 : decode cX12_powerOf 3 = .ok (.istore_n 2, 1) := by decide +kernel
theorem dX12_powerOf_4 : decode cX12_powerOf 4 = .ok (.iload_n 2, 1) := by decide +kernel
theorem dX12_powerOf_5 : decode cX12_powerOf 5 = .ok (.iload_n 0, 1) := by decide +kernel
theorem dX12_powerOf_6 : decode cX12_powerOf 6 = .ok (.if_icmp .ge 14, 3) := by decide +kernel
theorem dX12_powerOf_9 : decode cX12_powerOf 9 = .ok (.iload_n 1, 1) := by decide +kernel
theorem dX12_powerOf_10 : decode cX12_powerOf 10 = .ok (.bipush 7, 2) := by decide +kernel
theorem dX12_powerOf_12 : decode cX12_powerOf 12 = .ok (.imul, 1) := by decide +kernel
theorem dX12_powerOf_13 : decode cX12_powerOf 13 = .ok (.istore_n 1, 1) := by decide +kernel
theorem dX12_powerOf_14 : decode cX12_powerOf 14 = .ok (.iinc 2 1, 3) := by decide +kernel
theorem dX12_powerOf_17 : decode cX12_powerOf 17 = .ok (.goto (-13), 3) := by decide +kernel
theorem dX12_powerOf_20 : decode cX12_powerOf 20 = .ok (.iload_n 1, 1) := by decide +kernel
theorem dX12_powerOf_21 : decode cX12_powerOf 21 = .ok (.ireturn, 1) := by decide +kernel
theorem dX12_goRow_0 : decode cX12_goRow 0 = .ok (.aload_n 0, 1) := by decide +kernel
theorem dX12_goRow_1 : decode cX12_goRow 1 = .ok (.iconst 0, 1) := by decide +kernel
theorem dX12_goRow_2 : decode cX12_goRow 2 = .ok (.iconst 3, 1) := by decide +kernel
theorem dX12_goRow_3 : decode cX12_goRow 3 = .ok (.invokevirtual 221, 3) := by decide +kernel
theorem dX12_goRow_6 : decode cX12_goRow 6 = .ok (.bipush 93, 2) := by decide +kernel
theorem dX12_goRow_8 : decode cX12_goRow 8 = .ok (.istore 4, 2) := by decide +kernel
theorem dX12_goRow_10 : decode cX12_goRow 10 = .ok (.iload_n 3, 1) := by decide +kernel
theorem dX12_goRow_11 : decode cX12_goRow 11 = .ok (.invokestatic 225, 3) := by decide +kernel
theorem dX12_goRow_14 : decode cX12_goRow 14 = .ok (.istore 5, 2) := by decide +kernel
theorem dX12_goRow_16 : decode cX12_goRow 16 = .ok (.aload_n 0, 1) := by decide +kernel
theorem dX12_goRow_17 : decode cX12_goRow 17 = .ok (.getfield 7, 3) := by decide +kernel
theorem dX12_goRow_20 : decode cX12_goRow 20 = .ok (.bipush 30, 2) := by decide +kernel
theorem dX12_goRow_22 : decode cX12_goRow 22 = .ok (.iaload, 1) := by decide +kernel
theorem dX12_goRow_23 : decode cX12_goRow 23 = .ok (.istore 6, 2) := by decide +kernel
theorem dX12_goRow_25 : decode cX12_goRow 25 = .ok (.iload 6, 2) := by decide +kernel
theorem dX12_goRow_27 : decode cX12_goRow 27 = .ok (.aload_n 0, 1) := by decide +kernel
theorem dX12_goRow_28 : decode cX12_goRow 28 = .ok (.getfield 147, 3) := by decide +kernel
theorem dX12_goRow_31 : decode cX12_goRow 31 = .ok (.if_icmp .ge 103, 3) := by decide +kernel
theorem dX12_goRow_34 : decode cX12_goRow 34 = .ok (.aload_n 0, 1) := by decide +kernel
theorem dX12_goRow_35 : decode cX12_goRow 35 = .ok (.getfield 39, 3) := by decide +kernel
theorem dX12_goRow_38 : decode cX12_goRow 38 = .ok (.iload 6, 2) := by decide +kernel
theorem dX12_goRow_40 : decode cX12_goRow 40 = .ok (.iaload, 1) := by decide +kernel
theorem dX12_goRow_41 : decode cX12_goRow 41 = .ok (.istore 7, 2) := by decide +kernel
theorem dX12_goRow_43 : decode cX12_goRow 43 = .ok (.iload_n 1, 1) := by decide +kernel
theorem dX12_goRow_44 : decode cX12_goRow 44 = .ok (.iload 7, 2) := by decide +kernel
theorem dX12_goRow_46 : decode cX12_goRow 46 = .ok (.invokestatic 183, 3) := by decide +kernel
theorem dX12_goRow_49 : decode cX12_goRow 49 = .ok (.ifCond .eq 70, 3) := by decide +kernel
theorem dX12_goRow_52 : decode cX12_goRow 52 = .ok (.iload 5, 2) := by decide +kernel
theorem dX12_goRow_54 : decode cX12_goRow 54 = .ok (.bipush 7, 2) := by decide +kernel
theorem dX12_goRow_56 : decode cX12_goRow 56 = .ok (.idiv, 1) := by decide +kernel
theorem dX12_goRow_57 : decode cX12_goRow 57 = .ok (.istore 5, 2) := by decide +kernel
theorem dX12_goRow_59 : decode cX12_goRow 59 = .ok (.iload_n 2, 1) := by decide +kernel
theorem dX12_goRow_60 : decode cX12_goRow 60 = .ok (.iload 5, 2) := by decide +kernel
theorem dX12_goRow_62 : decode cX12_goRow 62 = .ok (.idiv, 1) := by decide +kernel
theorem dX12_goRow_63 : decode cX12_goRow 63 = .ok (.bipush 7, 2) := by decide +kernel
theorem dX12_goRow_65 : decode cX12_goRow 65 = .ok (.irem, 1) := by decide +kernel
theorem dX12_goRow_66 : decode cX12_goRow 66 = .ok (.iconst 1, 1) := by decide +kernel
theorem dX12_goRow_67 : decode cX12_goRow 67 = .ok (.isub, 1) := by decide +kernel
theorem dX12_goRow_68 : decode cX12_goRow 68 = .ok (.istore 8, 2) := by decide +kernel
theorem dX12_goRow_70 : decode cX12_goRow 70 = .ok (.iload 8, 2) := by decide +kernel
theorem dX12_goRow_72 : decode cX12_goRow 72 = .ok (.aload_n 0, 1) := by decide +kernel
theorem dX12_goRow_73 : decode cX12_goRow 73 = .ok (.getfield 23, 3) := by decide +kernel
theorem dX12_goRow_76 : decode cX12_goRow 76 = .ok (.if_icmp .ge 22, 3) := by decide +kernel
theorem dX12_goRow_79 : decode cX12_goRow 79 = .ok (.iload 8, 2) := by decide +kernel
theorem dX12_goRow_81 : decode cX12_goRow 81 = .ok (.iconst (-1), 1) := by decide +kernel
theorem dX12_goRow_82 : decode cX12_goRow 82 = .ok (.if_icmp .eq 18, 3) := by decide +kernel
theorem dX12_goRow_85 : decode cX12_goRow 85 = .ok (.aload_n 0, 1) := by decide +kernel
theorem dX12_goRow_86 : decode cX12_goRow 86 = .ok (.iload 4, 2) := by decide +kernel
theorem dX12_goRow_88 : decode cX12_goRow 88 = .ok (.iload 7, 2) := by decide +kernel
theorem dX12_goRow_90 : decode cX12_goRow 90 = .ok (.iload 8, 2) := by decide +kernel
theorem dX12_goRow_92 : decode cX12_goRow 92 = .ok (.invokevirtual 196, 3) := by decide +kernel
theorem dX12_goRow_95 : decode cX12_goRow 95 = .ok (.ifCond .ne 5, 3) := by decide +kernel
theorem dX12_goRow_98 : decode cX12_goRow 98 = .ok (.iconst (-1), 1) := by decide +kernel
theorem dX12_goRow_99 : decode cX12_goRow 99 = .ok (.ireturn, 1) := by decide +kernel
theorem dX12_goRow_100 : decode cX12_goRow 100 = .ok (.iload 8, 2) := by decide +kernel
theorem dX12_goRow_102 : decode cX12_goRow 102 = .ok (.iconst (-1), 1) := by decide +kernel
theorem dX12_goRow_103 : decode cX12_goRow 103 = .ok (.if_icmp .eq 13, 3) := by decide +kernel
theorem dX12_goRow_106 : decode cX12_goRow 106 = .ok (.aload_n 0, 1) := by decide +kernel
theorem dX12_goRow_107 : decode cX12_goRow 107 = .ok (.iload 4, 2) := by decide +kernel
theorem dX12_goRow_109 : decode cX12_goRow 109 = .ok (.iload 7, 2) := by decide +kernel
theorem dX12_goRow_111 : decode cX12_goRow 111 = .ok (.iload 8, 2) := by decide +kernel
theorem dX12_goRow_113 : decode cX12_goRow 113 = .ok (.invokevirtual 206, 3) := by decide +kernel
theorem dX12_goRow_116 : decode cX12_goRow 116 = .ok (.goto 12, 3) := by decide +kernel
theorem dX12_goRow_119 : decode cX12_goRow 119 = .ok (.aload_n 0, 1) := by decide +kernel
theorem dX12_goRow_120 : decode cX12_goRow 120 = .ok (.iload 4, 2) := by decide +kernel
theorem dX12_goRow_122 : decode cX12_goRow 122 = .ok (.iload 7, 2) := by decide +kernel
theorem dX12_goRow_124 : decode cX12_goRow 124 = .ok (.invokevirtual 218, 3) := by decide +kernel
theorem dX12_goRow_127 : decode cX12_goRow 127 = .ok (.pop, 1) := by decide +kernel
theorem dX12_goRow_128 : decode cX12_goRow 128 = .ok (.iinc 6 1, 3) := by decide +kernel
theorem dX12_goRow_131 : decode cX12_goRow 131 = .ok (.goto (-106), 3) := by decide +kernel
theorem dX12_goRow_134 : decode cX12_goRow 134 = .ok (.iconst 0, 1) := by decide +kernel
theorem dX12_goRow_135 : decode cX12_goRow 135 = .ok (.istore 6, 2) := by decide +kernel
theorem dX12_goRow_137 : decode cX12_goRow 137 = .ok (.iconst 0, 1) := by decide +kernel
theorem dX12_goRow_138 : decode cX12_goRow 138 = .ok (.istore 7, 2) := by decide +kernel
theorem dX12_goRow_140 : decode cX12_goRow 140 = .ok (.iload 7, 2) := by decide +kernel
theorem dX12_goRow_142 : decode cX12_goRow 142 = .ok (.iconst 4, 1) := by decide +kernel
theorem dX12_goRow_143 : decode cX12_goRow 143 = .ok (.if_icmp .ge 35, 3) := by decide +kernel
theorem dX12_goRow_146 : decode cX12_goRow 146 = .ok (.iload 6, 2) := by decide +kernel
theorem dX12_goRow_148 : decode cX12_goRow 148 = .ok (.iload_n 1, 1) := by decide +kernel
theorem dX12_goRow_149 : decode cX12_goRow 149 = .ok (.iload 7, 2) := by decide +kernel
theorem dX12_goRow_151 : decode cX12_goRow 151 = .ok (.invokestatic 183, 3) := by decide +kernel
theorem dX12_goRow_154 : decode cX12_goRow 154 = .ok (.ifCond .eq 14, 3) := by decide +kernel
theorem dX12_goRow_157 : decode cX12_goRow 157 = .ok (.aload_n 0, 1) := by decide +kernel
theorem dX12_goRow_158 : decode cX12_goRow 158 = .ok (.iload 4, 2) := by decide +kernel
theorem dX12_goRow_160 : decode cX12_goRow 160 = .ok (.iload 7, 2) := by decide +kernel
theorem dX12_goRow_162 : decode cX12_goRow 162 = .ok (.invokevirtual 186, 3) := by decide +kernel
theorem dX12_goRow_165 : decode cX12_goRow 165 = .ok (.goto 4, 3) := by decide +kernel
theorem dX12_goRow_168 : decode cX12_goRow 168 = .ok (.iconst 0, 1) := by decide +kernel
theorem dX12_goRow_169 : decode cX12_goRow 169 = .ok (.iadd, 1) := by decide +kernel
theorem dX12_goRow_170 : decode cX12_goRow 170 = .ok (.istore 6, 2) := by decide +kernel
theorem dX12_goRow_172 : decode cX12_goRow 172 = .ok (.iinc 7 1, 3) := by decide +kernel
theorem dX12_goRow_175 : decode cX12_goRow 175 = .ok (.goto (-35), 3) := by decide +kernel
theorem dX12_goRow_178 : decode cX12_goRow 178 = .ok (.iload 6, 2) := by decide +kernel
theorem dX12_goRow_180 : decode cX12_goRow 180 = .ok (.ireturn, 1) := by decide +kernel
theorem dX12_layPlan_0 : decode cX12_layPlan 0 = .ok (.aload_n 0, 1) := by decide +kernel
theorem dX12_layPlan_1 : decode cX12_layPlan 1 = .ok (.iconst (-1), 1) := by decide +kernel
theorem dX12_layPlan_2 : decode cX12_layPlan 2 = .ok (.putfield 228, 3) := by decide +kernel
theorem dX12_layPlan_5 : decode cX12_layPlan 5 = .ok (.aload_n 0, 1) := by decide +kernel
theorem dX12_layPlan_6 : decode cX12_layPlan 6 = .ok (.iconst 0, 1) := by decide +kernel
theorem dX12_layPlan_7 : decode cX12_layPlan 7 = .ok (.putfield 231, 3) := by decide +kernel
theorem dX12_layPlan_10 : decode cX12_layPlan 10 = .ok (.iconst 0, 1) := by decide +kernel
theorem dX12_layPlan_11 : decode cX12_layPlan 11 = .ok (.istore_n 3, 1) := by decide +kernel
theorem dX12_layPlan_12 : decode cX12_layPlan 12 = .ok (.iload_n 3, 1) := by decide +kernel
theorem dX12_layPlan_13 : decode cX12_layPlan 13 = .ok (.iload_n 2, 1) := by decide +kernel
theorem dX12_layPlan_14 : decode cX12_layPlan 14 = .ok (.invokestatic 225, 3) := by decide +kernel
theorem dX12_layPlan_17 : decode cX12_layPlan 17 = .ok (.if_icmp .ge 38, 3) := by decide +kernel
theorem dX12_layPlan_20 : decode cX12_layPlan 20 = .ok (.aload_n 0, 1) := by decide +kernel
theorem dX12_layPlan_21 : decode cX12_layPlan 21 = .ok (.iload_n 1, 1) := by decide +kernel
theorem dX12_layPlan_22 : decode cX12_layPlan 22 = .ok (.iload_n 3, 1) := by decide +kernel
theorem dX12_layPlan_23 : decode cX12_layPlan 23 = .ok (.iload_n 2, 1) := by decide +kernel
theorem dX12_layPlan_24 : decode cX12_layPlan 24 = .ok (.invokevirtual 234, 3) := by decide +kernel
theorem dX12_layPlan_27 : decode cX12_layPlan 27 = .ok (.istore 4, 2) := by decide +kernel
theorem dX12_layPlan_29 : decode cX12_layPlan 29 = .ok (.iload 4, 2) := by decide +kernel
theorem dX12_layPlan_31 : decode cX12_layPlan 31 = .ok (.aload_n 0, 1) := by decide +kernel
theorem dX12_layPlan_32 : decode cX12_layPlan 32 = .ok (.getfield 228, 3) := by decide +kernel
theorem dX12_layPlan_35 : decode cX12_layPlan 35 = .ok (.if_icmp .le 14, 3) := by decide +kernel
theorem dX12_layPlan_38 : decode cX12_layPlan 38 = .ok (.aload_n 0, 1) := by decide +kernel
theorem dX12_layPlan_39 : decode cX12_layPlan 39 = .ok (.iload 4, 2) := by decide +kernel
theorem dX12_layPlan_41 : decode cX12_layPlan 41 = .ok (.putfield 228, 3) := by decide +kernel
theorem dX12_layPlan_44 : decode cX12_layPlan 44 = .ok (.aload_n 0, 1) := by decide +kernel
theorem dX12_layPlan_45 : decode cX12_layPlan 45 = .ok (.iload_n 3, 1) := by decide +kernel
theorem dX12_layPlan_46 : decode cX12_layPlan 46 = .ok (.putfield 231, 3) := by decide +kernel
theorem dX12_layPlan_49 : decode cX12_layPlan 49 = .ok (.iinc 3 1, 3) := by decide +kernel
theorem dX12_layPlan_52 : decode cX12_layPlan 52 = .ok (.goto (-40), 3) := by decide +kernel
theorem dX12_layPlan_55 : decode cX12_layPlan 55 = .ok (.return_, 1) := by decide +kernel
theorem dX12_plan_0 : decode cX12_plan 0 = .ok (.iload_n 1, 1) := by decide +kernel
theorem dX12_plan_1 : decode cX12_plan 1 = .ok (.invokestatic 180, 3) := by decide +kernel
theorem dX12_plan_4 : decode cX12_plan 4 = .ok (.ifCond .ne 6, 3) := by decide +kernel
theorem dX12_plan_7 : decode cX12_plan 7 = .ok (.bipush (-2), 2) := by decide +kernel
theorem dX12_plan_9 : decode cX12_plan 9 = .ok (.ireturn, 1) := by decide +kernel
theorem dX12_plan_10 : decode cX12_plan 10 = .ok (.iload_n 2, 1) := by decide +kernel
theorem dX12_plan_11 : decode cX12_plan 11 = .ok (.iconst (-1), 1) := by decide +kernel
theorem dX12_plan_12 : decode cX12_plan 12 = .ok (.if_icmp .ge 6, 3) := by decide +kernel
theorem dX12_plan_15 : decode cX12_plan 15 = .ok (.bipush (-3), 2) := by decide +kernel
theorem dX12_plan_17 : decode cX12_plan 17 = .ok (.ireturn, 1) := by decide +kernel
theorem dX12_plan_18 : decode cX12_plan 18 = .ok (.aload_n 0, 1) := by decide +kernel
theorem dX12_plan_19 : decode cX12_plan 19 = .ok (.iconst 1, 1) := by decide +kernel
theorem dX12_plan_20 : decode cX12_plan 20 = .ok (.iload_n 1, 1) := by decide +kernel
theorem dX12_plan_21 : decode cX12_plan 21 = .ok (.ishl, 1) := by decide +kernel
theorem dX12_plan_22 : decode cX12_plan 22 = .ok (.invokevirtual 190, 3) := by decide +kernel
theorem dX12_plan_25 : decode cX12_plan 25 = .ok (.istore_n 3, 1) := by decide +kernel
theorem dX12_plan_26 : decode cX12_plan 26 = .ok (.iload_n 3, 1) := by decide +kernel
theorem dX12_plan_27 : decode cX12_plan 27 = .ok (.iconst 5, 1) := by decide +kernel
theorem dX12_plan_28 : decode cX12_plan 28 = .ok (.if_icmp .le 6, 3) := by decide +kernel
theorem dX12_plan_31 : decode cX12_plan 31 = .ok (.bipush (-4), 2) := by decide +kernel
theorem dX12_plan_33 : decode cX12_plan 33 = .ok (.ireturn, 1) := by decide +kernel
theorem dX12_plan_34 : decode cX12_plan 34 = .ok (.aload_n 0, 1) := by decide +kernel
theorem dX12_plan_35 : decode cX12_plan 35 = .ok (.iconst 1, 1) := by decide +kernel
theorem dX12_plan_36 : decode cX12_plan 36 = .ok (.iload_n 1, 1) := by decide +kernel
theorem dX12_plan_37 : decode cX12_plan 37 = .ok (.ishl, 1) := by decide +kernel
theorem dX12_plan_38 : decode cX12_plan 38 = .ok (.iload_n 3, 1) := by decide +kernel
theorem dX12_plan_39 : decode cX12_plan 39 = .ok (.invokevirtual 238, 3) := by decide +kernel
theorem dX12_plan_42 : decode cX12_plan 42 = .ok (.iload_n 2, 1) := by decide +kernel
theorem dX12_plan_43 : decode cX12_plan 43 = .ok (.iconst (-1), 1) := by decide +kernel
theorem dX12_plan_44 : decode cX12_plan 44 = .ok (.if_icmp .ne 10, 3) := by decide +kernel
theorem dX12_plan_47 : decode cX12_plan 47 = .ok (.aload_n 0, 1) := by decide +kernel
theorem dX12_plan_48 : decode cX12_plan 48 = .ok (.getfield 228, 3) := by decide +kernel
theorem dX12_plan_51 : decode cX12_plan 51 = .ok (.goto 28, 3) := by decide +kernel
theorem dX12_plan_54 : decode cX12_plan 54 = .ok (.iload_n 2, 1) := by decide +kernel
theorem dX12_plan_55 : decode cX12_plan 55 = .ok (.iload_n 3, 1) := by decide +kernel
theorem dX12_plan_56 : decode cX12_plan 56 = .ok (.if_icmp .ge 22, 3) := by decide +kernel
theorem dX12_plan_59 : decode cX12_plan 59 = .ok (.aload_n 0, 1) := by decide +kernel
theorem dX12_plan_60 : decode cX12_plan 60 = .ok (.getfield 231, 3) := by decide +kernel
theorem dX12_plan_63 : decode cX12_plan 63 = .ok (.iload_n 3, 1) := by decide +kernel
theorem dX12_plan_64 : decode cX12_plan 64 = .ok (.iconst 1, 1) := by decide +kernel
theorem dX12_plan_65 : decode cX12_plan 65 = .ok (.isub, 1) := by decide +kernel
theorem dX12_plan_66 : decode cX12_plan 66 = .ok (.iload_n 2, 1) := by decide +kernel
theorem dX12_plan_67 : decode cX12_plan 67 = .ok (.isub, 1) := by decide +kernel
theorem dX12_plan_68 : decode cX12_plan 68 = .ok (.invokestatic 225, 3) := by decide +kernel
theorem dX12_plan_71 : decode cX12_plan 71 = .ok (.idiv, 1) := by decide +kernel
theorem dX12_plan_72 : decode cX12_plan 72 = .ok (.bipush 7, 2) := by decide +kernel
theorem dX12_plan_74 : decode cX12_plan 74 = .ok (.irem, 1) := by decide +kernel
theorem dX12_plan_75 : decode cX12_plan 75 = .ok (.goto 4, 3) := by decide +kernel
theorem dX12_plan_78 : decode cX12_plan 78 = .ok (.iconst (-1), 1) := by decide +kernel
theorem dX12_plan_79 : decode cX12_plan 79 = .ok (.ireturn, 1) := by decide +kernel
theorem dX12_league_0 : decode cX12_league 0 = .ok (.iload_n 1, 1) := by decide +kernel
theorem dX12_league_1 : decode cX12_league 1 = .ok (.invokestatic 180, 3) := by decide +kernel
theorem dX12_league_4 : decode cX12_league 4 = .ok (.ifCond .eq 10, 3) := by decide +kernel
theorem dX12_league_7 : decode cX12_league 7 = .ok (.iload_n 2, 1) := by decide +kernel
theorem dX12_league_8 : decode cX12_league 8 = .ok (.invokestatic 180, 3) := by decide +kernel
theorem dX12_league_11 : decode cX12_league 11 = .ok (.ifCond .ne 6, 3) := by decide +kernel
theorem dX12_league_14 : decode cX12_league 14 = .ok (.bipush (-2), 2) := by decide +kernel
theorem dX12_league_16 : decode cX12_league 16 = .ok (.ireturn, 1) := by decide +kernel
theorem dX12_league_17 : decode cX12_league 17 = .ok (.iload_n 1, 1) := by decide +kernel
theorem dX12_league_18 : decode cX12_league 18 = .ok (.iload_n 2, 1) := by decide +kernel
theorem dX12_league_19 : decode cX12_league 19 = .ok (.if_icmp .ne 6, 3) := by decide +kernel
theorem dX12_league_22 : decode cX12_league 22 = .ok (.bipush (-3), 2) := by decide +kernel
theorem dX12_league_24 : decode cX12_league 24 = .ok (.ireturn, 1) := by decide +kernel
theorem dX12_league_25 : decode cX12_league 25 = .ok (.iconst 1, 1) := by decide +kernel
theorem dX12_league_26 : decode cX12_league 26 = .ok (.iload_n 1, 1) := by decide +kernel
theorem dX12_league_27 : decode cX12_league 27 = .ok (.ishl, 1) := by decide +kernel
theorem dX12_league_28 : decode cX12_league 28 = .ok (.iconst 1, 1) := by decide +kernel
theorem dX12_league_29 : decode cX12_league 29 = .ok (.iload_n 2, 1) := by decide +kernel
theorem dX12_league_30 : decode cX12_league 30 = .ok (.ishl, 1) := by decide +kernel
theorem dX12_league_31 : decode cX12_league 31 = .ok (.ior, 1) := by decide +kernel
theorem dX12_league_32 : decode cX12_league 32 = .ok (.istore_n 3, 1) := by decide +kernel
theorem dX12_league_33 : decode cX12_league 33 = .ok (.aload_n 0, 1) := by decide +kernel
theorem dX12_league_34 : decode cX12_league 34 = .ok (.iload_n 3, 1) := by decide +kernel
theorem dX12_league_35 : decode cX12_league 35 = .ok (.invokevirtual 190, 3) := by decide +kernel
theorem dX12_league_38 : decode cX12_league 38 = .ok (.istore 4, 2) := by decide +kernel
theorem dX12_league_40 : decode cX12_league 40 = .ok (.iload 4, 2) := by decide +kernel
theorem dX12_league_42 : decode cX12_league 42 = .ok (.iconst 5, 1) := by decide +kernel
theorem dX12_league_43 : decode cX12_league 43 = .ok (.if_icmp .le 6, 3) := by decide +kernel
theorem dX12_league_46 : decode cX12_league 46 = .ok (.bipush (-4), 2) := by decide +kernel
theorem dX12_league_48 : decode cX12_league 48 = .ok (.ireturn, 1) := by decide +kernel
theorem dX12_league_49 : decode cX12_league 49 = .ok (.aload_n 0, 1) := by decide +kernel
theorem dX12_league_50 : decode cX12_league 50 = .ok (.iload_n 3, 1) := by decide +kernel
theorem dX12_league_51 : decode cX12_league 51 = .ok (.iload 4, 2) := by decide +kernel
theorem dX12_league_53 : decode cX12_league 53 = .ok (.invokevirtual 238, 3) := by decide +kernel
theorem dX12_league_56 : decode cX12_league 56 = .ok (.aload_n 0, 1) := by decide +kernel
theorem dX12_league_57 : decode cX12_league 57 = .ok (.getfield 228, 3) := by decide +kernel
theorem dX12_league_60 : decode cX12_league 60 = .ok (.ireturn, 1) := by decide +kernel
theorem dX12_takeUp_0 : decode cX12_takeUp 0 = .ok (.aload_n 0, 1) := by decide +kernel
theorem dX12_takeUp_1 : decode cX12_takeUp 1 = .ok (.getfield 45, 3) := by decide +kernel
theorem dX12_takeUp_4 : decode cX12_takeUp 4 = .ok (.iload_n 1, 1) := by decide +kernel
theorem dX12_takeUp_5 : decode cX12_takeUp 5 = .ok (.iaload, 1) := by decide +kernel
theorem dX12_takeUp_6 : decode cX12_takeUp 6 = .ok (.ifCond .eq 28, 3) := by decide +kernel
theorem dX12_takeUp_9 : decode cX12_takeUp 9 = .ok (.aload_n 0, 1) := by decide +kernel
theorem dX12_takeUp_10 : decode cX12_takeUp 10 = .ok (.getfield 48, 3) := by decide +kernel
theorem dX12_takeUp_13 : decode cX12_takeUp 13 = .ok (.iconst 4, 1) := by decide +kernel
theorem dX12_takeUp_14 : decode cX12_takeUp 14 = .ok (.iload_n 1, 1) := by decide +kernel
theorem dX12_takeUp_15 : decode cX12_takeUp 15 = .ok (.imul, 1) := by decide +kernel
theorem dX12_takeUp_16 : decode cX12_takeUp 16 = .ok (.iconst 4, 1) := by decide +kernel
theorem dX12_takeUp_17 : decode cX12_takeUp 17 = .ok (.iadd, 1) := by decide +kernel
theorem dX12_takeUp_18 : decode cX12_takeUp 18 = .ok (.iload_n 2, 1) := by decide +kernel
theorem dX12_takeUp_19 : decode cX12_takeUp 19 = .ok (.iadd, 1) := by decide +kernel
theorem dX12_takeUp_20 : decode cX12_takeUp 20 = .ok (.iaload, 1) := by decide +kernel
theorem dX12_takeUp_21 : decode cX12_takeUp 21 = .ok (.aload_n 0, 1) := by decide +kernel
theorem dX12_takeUp_22 : decode cX12_takeUp 22 = .ok (.getfield 48, 3) := by decide +kernel
theorem dX12_takeUp_25 : decode cX12_takeUp 25 = .ok (.iconst 4, 1) := by decide +kernel
theorem dX12_takeUp_26 : decode cX12_takeUp 26 = .ok (.iload_n 1, 1) := by decide +kernel
theorem dX12_takeUp_27 : decode cX12_takeUp 27 = .ok (.imul, 1) := by decide +kernel
theorem dX12_takeUp_28 : decode cX12_takeUp 28 = .ok (.iload_n 2, 1) := by decide +kernel
theorem dX12_takeUp_29 : decode cX12_takeUp 29 = .ok (.iadd, 1) := by decide +kernel
theorem dX12_takeUp_30 : decode cX12_takeUp 30 = .ok (.iaload, 1) := by decide +kernel
theorem dX12_takeUp_31 : decode cX12_takeUp 31 = .ok (.if_icmp .le 94, 3) := by decide +kernel
theorem dX12_takeUp_34 : decode cX12_takeUp 34 = .ok (.iconst 0, 1) := by decide +kernel
theorem dX12_takeUp_35 : decode cX12_takeUp 35 = .ok (.istore_n 3, 1) := by decide +kernel
theorem dX12_takeUp_36 : decode cX12_takeUp 36 = .ok (.iload_n 3, 1) := by decide +kernel
theorem dX12_takeUp_37 : decode cX12_takeUp 37 = .ok (.iconst 4, 1) := by decide +kernel
theorem dX12_takeUp_38 : decode cX12_takeUp 38 = .ok (.if_icmp .ge 31, 3) := by decide +kernel
theorem dX12_takeUp_41 : decode cX12_takeUp 41 = .ok (.aload_n 0, 1) := by decide +kernel
theorem dX12_takeUp_42 : decode cX12_takeUp 42 = .ok (.getfield 48, 3) := by decide +kernel
theorem dX12_takeUp_45 : decode cX12_takeUp 45 = .ok (.iconst 4, 1) := by decide +kernel
theorem dX12_takeUp_46 : decode cX12_takeUp 46 = .ok (.iload_n 1, 1) := by decide +kernel
theorem dX12_takeUp_47 : decode cX12_takeUp 47 = .ok (.imul, 1) := by decide +kernel
theorem dX12_takeUp_48 : decode cX12_takeUp 48 = .ok (.iload_n 3, 1) := by decide +kernel
theorem dX12_takeUp_49 : decode cX12_takeUp 49 = .ok (.iadd, 1) := by decide +kernel
theorem dX12_takeUp_50 : decode cX12_takeUp 50 = .ok (.aload_n 0, 1) := by decide +kernel
theorem dX12_takeUp_51 : decode cX12_takeUp 51 = .ok (.getfield 48, 3) := by decide +kernel
theorem dX12_takeUp_54 : decode cX12_takeUp 54 = .ok (.iconst 4, 1) := by decide +kernel
theorem dX12_takeUp_55 : decode cX12_takeUp 55 = .ok (.iload_n 1, 1) := by decide +kernel
theorem dX12_takeUp_56 : decode cX12_takeUp 56 = .ok (.imul, 1) := by decide +kernel
theorem dX12_takeUp_57 : decode cX12_takeUp 57 = .ok (.iconst 4, 1) := by decide +kernel
theorem dX12_takeUp_58 : decode cX12_takeUp 58 = .ok (.iadd, 1) := by decide +kernel
theorem dX12_takeUp_59 : decode cX12_takeUp 59 = .ok (.iload_n 3, 1) := by decide +kernel
theorem dX12_takeUp_60 : decode cX12_takeUp 60 = .ok (.iadd, 1) := by decide +kernel
theorem dX12_takeUp_61 : decode cX12_takeUp 61 = .ok (.iaload, 1) := by decide +kernel
theorem dX12_takeUp_62 : decode cX12_takeUp 62 = .ok (.iastore, 1) := by decide +kernel
theorem dX12_takeUp_63 : decode cX12_takeUp 63 = .ok (.iinc 3 1, 3) := by decide +kernel
theorem dX12_takeUp_66 : decode cX12_takeUp 66 = .ok (.goto (-30), 3) := by decide +kernel
theorem dX12_takeUp_69 : decode cX12_takeUp 69 = .ok (.aload_n 0, 1) := by decide +kernel
theorem dX12_takeUp_70 : decode cX12_takeUp 70 = .ok (.getfield 51, 3) := by decide +kernel
theorem dX12_takeUp_73 : decode cX12_takeUp 73 = .ok (.bipush 7, 2) := by decide +kernel
theorem dX12_takeUp_75 : decode cX12_takeUp 75 = .ok (.iload_n 1, 1) := by decide +kernel
theorem dX12_takeUp_76 : decode cX12_takeUp 76 = .ok (.imul, 1) := by decide +kernel
theorem dX12_takeUp_77 : decode cX12_takeUp 77 = .ok (.aload_n 0, 1) := by decide +kernel
theorem dX12_takeUp_78 : decode cX12_takeUp 78 = .ok (.getfield 45, 3) := by decide +kernel
theorem dX12_takeUp_81 : decode cX12_takeUp 81 = .ok (.iload_n 1, 1) := by decide +kernel
theorem dX12_takeUp_82 : decode cX12_takeUp 82 = .ok (.iaload, 1) := by decide +kernel
theorem dX12_takeUp_83 : decode cX12_takeUp 83 = .ok (.iastore, 1) := by decide +kernel
theorem dX12_takeUp_84 : decode cX12_takeUp 84 = .ok (.iconst 0, 1) := by decide +kernel
theorem dX12_takeUp_85 : decode cX12_takeUp 85 = .ok (.istore_n 3, 1) := by decide +kernel
theorem dX12_takeUp_86 : decode cX12_takeUp 86 = .ok (.iload_n 3, 1) := by decide +kernel
theorem dX12_takeUp_87 : decode cX12_takeUp 87 = .ok (.bipush 6, 2) := by decide +kernel
theorem dX12_takeUp_89 : decode cX12_takeUp 89 = .ok (.if_icmp .ge 36, 3) := by decide +kernel
theorem dX12_takeUp_92 : decode cX12_takeUp 92 = .ok (.aload_n 0, 1) := by decide +kernel
theorem dX12_takeUp_93 : decode cX12_takeUp 93 = .ok (.getfield 51, 3) := by decide +kernel
theorem dX12_takeUp_96 : decode cX12_takeUp 96 = .ok (.bipush 7, 2) := by decide +kernel
theorem dX12_takeUp_98 : decode cX12_takeUp 98 = .ok (.iload_n 1, 1) := by decide +kernel
theorem dX12_takeUp_99 : decode cX12_takeUp 99 = .ok (.imul, 1) := by decide +kernel
theorem dX12_takeUp_100 : decode cX12_takeUp 100 = .ok (.iconst 1, 1) := by decide +kernel
theorem dX12_takeUp_101 : decode cX12_takeUp 101 = .ok (.iadd, 1) := by decide +kernel
theorem dX12_takeUp_102 : decode cX12_takeUp 102 = .ok (.iload_n 3, 1) := by decide +kernel
theorem dX12_takeUp_103 : decode cX12_takeUp 103 = .ok (.iadd, 1) := by decide +kernel
theorem dX12_takeUp_104 : decode cX12_takeUp 104 = .ok (.aload_n 0, 1) := by decide +kernel
theorem dX12_takeUp_105 : decode cX12_takeUp 105 = .ok (.getfield 51, 3) := by decide +kernel
theorem dX12_takeUp_108 : decode cX12_takeUp 108 = .ok (.bipush 7, 2) := by decide +kernel
theorem dX12_takeUp_110 : decode cX12_takeUp 110 = .ok (.iload_n 1, 1) := by decide +kernel
theorem dX12_takeUp_111 : decode cX12_takeUp 111 = .ok (.imul, 1) := by decide +kernel
theorem dX12_takeUp_112 : decode cX12_takeUp 112 = .ok (.bipush 7, 2) := by decide +kernel
theorem dX12_takeUp_114 : decode cX12_takeUp 114 = .ok (.iadd, 1) := by decide +kernel
theorem dX12_takeUp_115 : decode cX12_takeUp 115 = .ok (.iload_n 3, 1) := by decide +kernel
theorem dX12_takeUp_116 : decode cX12_takeUp 116 = .ok (.iadd, 1) := by decide +kernel
theorem dX12_takeUp_117 : decode cX12_takeUp 117 = .ok (.iaload, 1) := by decide +kernel
theorem dX12_takeUp_118 : decode cX12_takeUp 118 = .ok (.iastore, 1) := by decide +kernel
theorem dX12_takeUp_119 : decode cX12_takeUp 119 = .ok (.iinc 3 1, 3) := by decide +kernel
theorem dX12_takeUp_122 : decode cX12_takeUp 122 = .ok (.goto (-36), 3) := by decide +kernel
theorem dX12_takeUp_125 : decode cX12_takeUp 125 = .ok (.return_, 1) := by decide +kernel
theorem dX12_opens_0 : decode cX12_opens 0 = .ok (.bipush 31, 2) := by decide +kernel
theorem dX12_opens_2 : decode cX12_opens 2 = .ok (.iconst 3, 1) := by decide +kernel
theorem dX12_opens_3 : decode cX12_opens 3 = .ok (.iload_n 1, 1) := by decide +kernel
theorem dX12_opens_4 : decode cX12_opens 4 = .ok (.iadd, 1) := by decide +kernel
theorem dX12_opens_5 : decode cX12_opens 5 = .ok (.imul, 1) := by decide +kernel
theorem dX12_opens_6 : decode cX12_opens 6 = .ok (.istore_n 3, 1) := by decide +kernel
theorem dX12_opens_7 : decode cX12_opens 7 = .ok (.aload_n 0, 1) := by decide +kernel
theorem dX12_opens_8 : decode cX12_opens 8 = .ok (.getfield 45, 3) := by decide +kernel
theorem dX12_opens_11 : decode cX12_opens 11 = .ok (.iload_n 1, 1) := by decide +kernel
theorem dX12_opens_12 : decode cX12_opens 12 = .ok (.iaload, 1) := by decide +kernel
theorem dX12_opens_13 : decode cX12_opens 13 = .ok (.iconst 1, 1) := by decide +kernel
theorem dX12_opens_14 : decode cX12_opens 14 = .ok (.isub, 1) := by decide +kernel
theorem dX12_opens_15 : decode cX12_opens 15 = .ok (.istore 4, 2) := by decide +kernel
theorem dX12_opens_17 : decode cX12_opens 17 = .ok (.iload 4, 2) := by decide +kernel
theorem dX12_opens_19 : decode cX12_opens 19 = .ok (.iconst (-1), 1) := by decide +kernel
theorem dX12_opens_20 : decode cX12_opens 20 = .ok (.if_icmp .eq 16, 3) := by decide +kernel
theorem dX12_opens_23 : decode cX12_opens 23 = .ok (.aload_n 0, 1) := by decide +kernel
theorem dX12_opens_24 : decode cX12_opens 24 = .ok (.iload_n 3, 1) := by decide +kernel
theorem dX12_opens_25 : decode cX12_opens 25 = .ok (.iload_n 2, 1) := by decide +kernel
theorem dX12_opens_26 : decode cX12_opens 26 = .ok (.iload 4, 2) := by decide +kernel
theorem dX12_opens_28 : decode cX12_opens 28 = .ok (.invokevirtual 196, 3) := by decide +kernel
theorem dX12_opens_31 : decode cX12_opens 31 = .ok (.ifCond .ne 5, 3) := by decide +kernel
theorem dX12_opens_34 : decode cX12_opens 34 = .ok (.iconst 0, 1) := by decide +kernel
theorem dX12_opens_35 : decode cX12_opens 35 = .ok (.ireturn, 1) := by decide +kernel
theorem dX12_opens_36 : decode cX12_opens 36 = .ok (.aload_n 0, 1) := by decide +kernel
theorem dX12_opens_37 : decode cX12_opens 37 = .ok (.iconst 3, 1) := by decide +kernel
theorem dX12_opens_38 : decode cX12_opens 38 = .ok (.iload_n 1, 1) := by decide +kernel
theorem dX12_opens_39 : decode cX12_opens 39 = .ok (.iadd, 1) := by decide +kernel
theorem dX12_opens_40 : decode cX12_opens 40 = .ok (.iconst 3, 1) := by decide +kernel
theorem dX12_opens_41 : decode cX12_opens 41 = .ok (.iload_n 1, 1) := by decide +kernel
theorem dX12_opens_42 : decode cX12_opens 42 = .ok (.iadd, 1) := by decide +kernel
theorem dX12_opens_43 : decode cX12_opens 43 = .ok (.iconst 1, 1) := by decide +kernel
theorem dX12_opens_44 : decode cX12_opens 44 = .ok (.iadd, 1) := by decide +kernel
theorem dX12_opens_45 : decode cX12_opens 45 = .ok (.invokevirtual 221, 3) := by decide +kernel
theorem dX12_opens_48 : decode cX12_opens 48 = .ok (.iload 4, 2) := by decide +kernel
theorem dX12_opens_50 : decode cX12_opens 50 = .ok (.iconst (-1), 1) := by decide +kernel
theorem dX12_opens_51 : decode cX12_opens 51 = .ok (.if_icmp .eq 14, 3) := by decide +kernel
theorem dX12_opens_54 : decode cX12_opens 54 = .ok (.aload_n 0, 1) := by decide +kernel
theorem dX12_opens_55 : decode cX12_opens 55 = .ok (.iload_n 3, 1) := by decide +kernel
theorem dX12_opens_56 : decode cX12_opens 56 = .ok (.bipush 31, 2) := by decide +kernel
theorem dX12_opens_58 : decode cX12_opens 58 = .ok (.iadd, 1) := by decide +kernel
theorem dX12_opens_59 : decode cX12_opens 59 = .ok (.iload_n 2, 1) := by decide +kernel
theorem dX12_opens_60 : decode cX12_opens 60 = .ok (.iload 4, 2) := by decide +kernel
theorem dX12_opens_62 : decode cX12_opens 62 = .ok (.invokevirtual 206, 3) := by decide +kernel
theorem dX12_opens_65 : decode cX12_opens 65 = .ok (.aload_n 0, 1) := by decide +kernel
theorem dX12_opens_66 : decode cX12_opens 66 = .ok (.getfield 45, 3) := by decide +kernel
theorem dX12_opens_69 : decode cX12_opens 69 = .ok (.iload_n 1, 1) := by decide +kernel
theorem dX12_opens_70 : decode cX12_opens 70 = .ok (.iconst 1, 1) := by decide +kernel
theorem dX12_opens_71 : decode cX12_opens 71 = .ok (.iadd, 1) := by decide +kernel
theorem dX12_opens_72 : decode cX12_opens 72 = .ok (.iconst 0, 1) := by decide +kernel
theorem dX12_opens_73 : decode cX12_opens 73 = .ok (.iastore, 1) := by decide +kernel
theorem dX12_opens_74 : decode cX12_opens 74 = .ok (.iconst 1, 1) := by decide +kernel
theorem dX12_opens_75 : decode cX12_opens 75 = .ok (.ireturn, 1) := by decide +kernel
theorem dX12_layGame_0 : decode cX12_layGame 0 = .ok (.aload_n 0, 1) := by decide +kernel
theorem dX12_layGame_1 : decode cX12_layGame 1 = .ok (.invokevirtual 213, 3) := by decide +kernel
theorem dX12_layGame_4 : decode cX12_layGame 4 = .ok (.istore_n 1, 1) := by decide +kernel
theorem dX12_layGame_5 : decode cX12_layGame 5 = .ok (.aload_n 0, 1) := by decide +kernel
theorem dX12_layGame_6 : decode cX12_layGame 6 = .ok (.iconst 0, 1) := by decide +kernel
theorem dX12_layGame_7 : decode cX12_layGame 7 = .ok (.iconst 3, 1) := by decide +kernel
theorem dX12_layGame_8 : decode cX12_layGame 8 = .ok (.invokevirtual 221, 3) := by decide +kernel
theorem dX12_layGame_11 : decode cX12_layGame 11 = .ok (.aload_n 0, 1) := by decide +kernel
theorem dX12_layGame_12 : decode cX12_layGame 12 = .ok (.getfield 45, 3) := by decide +kernel
theorem dX12_layGame_15 : decode cX12_layGame 15 = .ok (.iconst 0, 1) := by decide +kernel
theorem dX12_layGame_16 : decode cX12_layGame 16 = .ok (.iconst 0, 1) := by decide +kernel
theorem dX12_layGame_17 : decode cX12_layGame 17 = .ok (.iastore, 1) := by decide +kernel
theorem dX12_layGame_18 : decode cX12_layGame 18 = .ok (.iconst 0, 1) := by decide +kernel
theorem dX12_layGame_19 : decode cX12_layGame 19 = .ok (.istore_n 2, 1) := by decide +kernel
theorem dX12_layGame_20 : decode cX12_layGame 20 = .ok (.iload_n 2, 1) := by decide +kernel
theorem dX12_layGame_21 : decode cX12_layGame 21 = .ok (.ifCond .lt 153, 3) := by decide +kernel
theorem dX12_layGame_24 : decode cX12_layGame 24 = .ok (.iload_n 2, 1) := by decide +kernel
theorem dX12_layGame_25 : decode cX12_layGame 25 = .ok (.iload_n 1, 1) := by decide +kernel
theorem dX12_layGame_26 : decode cX12_layGame 26 = .ok (.if_icmp .ge 20, 3) := by decide +kernel
theorem dX12_layGame_29 : decode cX12_layGame 29 = .ok (.aload_n 0, 1) := by decide +kernel
theorem dX12_layGame_30 : decode cX12_layGame 30 = .ok (.getfield 39, 3) := by decide +kernel
theorem dX12_layGame_33 : decode cX12_layGame 33 = .ok (.aload_n 0, 1) := by decide +kernel
theorem dX12_layGame_34 : decode cX12_layGame 34 = .ok (.getfield 7, 3) := by decide +kernel
theorem dX12_layGame_37 : decode cX12_layGame 37 = .ok (.bipush 30, 2) := by decide +kernel
theorem dX12_layGame_39 : decode cX12_layGame 39 = .ok (.iaload, 1) := by decide +kernel
theorem dX12_layGame_40 : decode cX12_layGame 40 = .ok (.iload_n 2, 1) := by decide +kernel
theorem dX12_layGame_41 : decode cX12_layGame 41 = .ok (.iadd, 1) := by decide +kernel
theorem dX12_layGame_42 : decode cX12_layGame 42 = .ok (.iaload, 1) := by decide +kernel
theorem dX12_layGame_43 : decode cX12_layGame 43 = .ok (.goto 4, 3) := by decide +kernel
theorem dX12_layGame_46 : decode cX12_layGame 46 = .ok (.iconst 0, 1) := by decide +kernel
theorem dX12_layGame_47 : decode cX12_layGame 47 = .ok (.istore_n 3, 1) := by decide +kernel
theorem dX12_layGame_48 : decode cX12_layGame 48 = .ok (.iload_n 2, 1) := by decide +kernel
theorem dX12_layGame_49 : decode cX12_layGame 49 = .ok (.iload_n 1, 1) := by decide +kernel
theorem dX12_layGame_50 : decode cX12_layGame 50 = .ok (.if_icmp .ne 44, 3) := by decide +kernel
theorem dX12_layGame_53 : decode cX12_layGame 53 = .ok (.iconst 0, 1) := by decide +kernel
theorem dX12_layGame_54 : decode cX12_layGame 54 = .ok (.istore 4, 2) := by decide +kernel
theorem dX12_layGame_56 : decode cX12_layGame 56 = .ok (.iload 4, 2) := by decide +kernel
theorem dX12_layGame_58 : decode cX12_layGame 58 = .ok (.iconst 4, 1) := by decide +kernel
theorem dX12_layGame_59 : decode cX12_layGame 59 = .ok (.if_icmp .ge 32, 3) := by decide +kernel
theorem dX12_layGame_62 : decode cX12_layGame 62 = .ok (.aload_n 0, 1) := by decide +kernel
theorem dX12_layGame_63 : decode cX12_layGame 63 = .ok (.getfield 48, 3) := by decide +kernel
theorem dX12_layGame_66 : decode cX12_layGame 66 = .ok (.iconst 4, 1) := by decide +kernel
theorem dX12_layGame_67 : decode cX12_layGame 67 = .ok (.iload_n 2, 1) := by decide +kernel
theorem dX12_layGame_68 : decode cX12_layGame 68 = .ok (.imul, 1) := by decide +kernel
theorem dX12_layGame_69 : decode cX12_layGame 69 = .ok (.iload 4, 2) := by decide +kernel
theorem dX12_layGame_71 : decode cX12_layGame 71 = .ok (.iadd, 1) := by decide +kernel
theorem dX12_layGame_72 : decode cX12_layGame 72 = .ok (.aload_n 0, 1) := by decide +kernel
theorem dX12_layGame_73 : decode cX12_layGame 73 = .ok (.bipush 31, 2) := by decide +kernel
theorem dX12_layGame_75 : decode cX12_layGame 75 = .ok (.iconst 3, 1) := by decide +kernel
theorem dX12_layGame_76 : decode cX12_layGame 76 = .ok (.iload_n 2, 1) := by decide +kernel
theorem dX12_layGame_77 : decode cX12_layGame 77 = .ok (.iadd, 1) := by decide +kernel
theorem dX12_layGame_78 : decode cX12_layGame 78 = .ok (.imul, 1) := by decide +kernel
theorem dX12_layGame_79 : decode cX12_layGame 79 = .ok (.iload 4, 2) := by decide +kernel
theorem dX12_layGame_81 : decode cX12_layGame 81 = .ok (.invokevirtual 186, 3) := by decide +kernel
theorem dX12_layGame_84 : decode cX12_layGame 84 = .ok (.iastore, 1) := by decide +kernel
theorem dX12_layGame_85 : decode cX12_layGame 85 = .ok (.iinc 4 1, 3) := by decide +kernel
theorem dX12_layGame_88 : decode cX12_layGame 88 = .ok (.goto (-32), 3) := by decide +kernel
theorem dX12_layGame_91 : decode cX12_layGame 91 = .ok (.goto 44, 3) := by decide +kernel
theorem dX12_layGame_94 : decode cX12_layGame 94 = .ok (.aload_n 0, 1) := by decide +kernel
theorem dX12_layGame_95 : decode cX12_layGame 95 = .ok (.getfield 45, 3) := by decide +kernel
theorem dX12_layGame_98 : decode cX12_layGame 98 = .ok (.iload_n 2, 1) := by decide +kernel
theorem dX12_layGame_99 : decode cX12_layGame 99 = .ok (.iaload, 1) := by decide +kernel
theorem dX12_layGame_100 : decode cX12_layGame 100 = .ok (.aload_n 0, 1) := by decide +kernel
theorem dX12_layGame_101 : decode cX12_layGame 101 = .ok (.getfield 23, 3) := by decide +kernel
theorem dX12_layGame_104 : decode cX12_layGame 104 = .ok (.if_icmp .gt 31, 3) := by decide +kernel
theorem dX12_layGame_107 : decode cX12_layGame 107 = .ok (.aload_n 0, 1) := by decide +kernel
theorem dX12_layGame_108 : decode cX12_layGame 108 = .ok (.iload_n 2, 1) := by decide +kernel
theorem dX12_layGame_109 : decode cX12_layGame 109 = .ok (.iload_n 3, 1) := by decide +kernel
theorem dX12_layGame_110 : decode cX12_layGame 110 = .ok (.invokevirtual 241, 3) := by decide +kernel
theorem dX12_layGame_113 : decode cX12_layGame 113 = .ok (.ifCond .eq 9, 3) := by decide +kernel
theorem dX12_layGame_116 : decode cX12_layGame 116 = .ok (.iinc 2 1, 3) := by decide +kernel
theorem dX12_layGame_119 : decode cX12_layGame 119 = .ok (.goto (-99), 3) := by decide +kernel
theorem dX12_layGame_122 : decode cX12_layGame 122 = .ok (.aload_n 0, 1) := by decide +kernel
theorem dX12_layGame_123 : decode cX12_layGame 123 = .ok (.getfield 45, 3) := by decide +kernel
theorem dX12_layGame_126 : decode cX12_layGame 126 = .ok (.iload_n 2, 1) := by decide +kernel
theorem dX12_layGame_127 : decode cX12_layGame 127 = .ok (.dup2, 1) := by decide +kernel
theorem dX12_layGame_128 : decode cX12_layGame 128 = .ok (.iaload, 1) := by decide +kernel
theorem dX12_layGame_129 : decode cX12_layGame 129 = .ok (.iconst 1, 1) := by decide +kernel
theorem dX12_layGame_130 : decode cX12_layGame 130 = .ok (.iadd, 1) := by decide +kernel
theorem dX12_layGame_131 : decode cX12_layGame 131 = .ok (.iastore, 1) := by decide +kernel
theorem dX12_layGame_132 : decode cX12_layGame 132 = .ok (.goto (-112), 3) := by decide +kernel
theorem dX12_layGame_135 : decode cX12_layGame 135 = .ok (.iinc 2 (-1), 3) := by decide +kernel
theorem dX12_layGame_138 : decode cX12_layGame 138 = .ok (.iload_n 2, 1) := by decide +kernel
theorem dX12_layGame_139 : decode cX12_layGame 139 = .ok (.ifCond .lt 32, 3) := by decide +kernel
theorem dX12_layGame_142 : decode cX12_layGame 142 = .ok (.aload_n 0, 1) := by decide +kernel
theorem dX12_layGame_143 : decode cX12_layGame 143 = .ok (.iload_n 2, 1) := by decide +kernel
theorem dX12_layGame_144 : decode cX12_layGame 144 = .ok (.aload_n 0, 1) := by decide +kernel
theorem dX12_layGame_145 : decode cX12_layGame 145 = .ok (.getfield 39, 3) := by decide +kernel
theorem dX12_layGame_148 : decode cX12_layGame 148 = .ok (.aload_n 0, 1) := by decide +kernel
theorem dX12_layGame_149 : decode cX12_layGame 149 = .ok (.getfield 7, 3) := by decide +kernel
theorem dX12_layGame_152 : decode cX12_layGame 152 = .ok (.bipush 30, 2) := by decide +kernel
theorem dX12_layGame_154 : decode cX12_layGame 154 = .ok (.iaload, 1) := by decide +kernel
theorem dX12_layGame_155 : decode cX12_layGame 155 = .ok (.iload_n 2, 1) := by decide +kernel
theorem dX12_layGame_156 : decode cX12_layGame 156 = .ok (.iadd, 1) := by decide +kernel
theorem dX12_layGame_157 : decode cX12_layGame 157 = .ok (.iaload, 1) := by decide +kernel
theorem dX12_layGame_158 : decode cX12_layGame 158 = .ok (.invokevirtual 244, 3) := by decide +kernel
theorem dX12_layGame_161 : decode cX12_layGame 161 = .ok (.aload_n 0, 1) := by decide +kernel
theorem dX12_layGame_162 : decode cX12_layGame 162 = .ok (.getfield 45, 3) := by decide +kernel
theorem dX12_layGame_165 : decode cX12_layGame 165 = .ok (.iload_n 2, 1) := by decide +kernel
theorem dX12_layGame_166 : decode cX12_layGame 166 = .ok (.dup2, 1) := by decide +kernel
theorem dX12_layGame_167 : decode cX12_layGame 167 = .ok (.iaload, 1) := by decide +kernel
theorem dX12_layGame_168 : decode cX12_layGame 168 = .ok (.iconst 1, 1) := by decide +kernel
theorem dX12_layGame_169 : decode cX12_layGame 169 = .ok (.iadd, 1) := by decide +kernel
theorem dX12_layGame_170 : decode cX12_layGame 170 = .ok (.iastore, 1) := by decide +kernel
theorem dX12_layGame_171 : decode cX12_layGame 171 = .ok (.goto (-151), 3) := by decide +kernel
theorem dX12_layGame_174 : decode cX12_layGame 174 = .ok (.return_, 1) := by decide +kernel
theorem dX12_game_0 : decode cX12_game 0 = .ok (.iload_n 1, 1) := by decide +kernel
theorem dX12_game_1 : decode cX12_game 1 = .ok (.invokestatic 180, 3) := by decide +kernel
theorem dX12_game_4 : decode cX12_game 4 = .ok (.ifCond .ne 6, 3) := by decide +kernel
theorem dX12_game_7 : decode cX12_game 7 = .ok (.bipush (-2), 2) := by decide +kernel
theorem dX12_game_9 : decode cX12_game 9 = .ok (.ireturn, 1) := by decide +kernel
theorem dX12_game_10 : decode cX12_game 10 = .ok (.aload_n 0, 1) := by decide +kernel
theorem dX12_game_11 : decode cX12_game 11 = .ok (.invokevirtual 213, 3) := by decide +kernel
theorem dX12_game_14 : decode cX12_game 14 = .ok (.bipush 6, 2) := by decide +kernel
theorem dX12_game_16 : decode cX12_game 16 = .ok (.if_icmp .le 6, 3) := by decide +kernel
theorem dX12_game_19 : decode cX12_game 19 = .ok (.bipush (-4), 2) := by decide +kernel
theorem dX12_game_21 : decode cX12_game 21 = .ok (.ireturn, 1) := by decide +kernel
theorem dX12_game_22 : decode cX12_game 22 = .ok (.aload_n 0, 1) := by decide +kernel
theorem dX12_game_23 : decode cX12_game 23 = .ok (.invokevirtual 247, 3) := by decide +kernel
theorem dX12_game_26 : decode cX12_game 26 = .ok (.aload_n 0, 1) := by decide +kernel
theorem dX12_game_27 : decode cX12_game 27 = .ok (.getfield 48, 3) := by decide +kernel
theorem dX12_game_30 : decode cX12_game 30 = .ok (.iload_n 1, 1) := by decide +kernel
theorem dX12_game_31 : decode cX12_game 31 = .ok (.iaload, 1) := by decide +kernel
theorem dX12_game_32 : decode cX12_game 32 = .ok (.ireturn, 1) := by decide +kernel
theorem dX12_choice_0 : decode cX12_choice 0 = .ok (.iload_n 1, 1) := by decide +kernel
theorem dX12_choice_1 : decode cX12_choice 1 = .ok (.ifCond .ge 6, 3) := by decide +kernel
theorem dX12_choice_4 : decode cX12_choice 4 = .ok (.bipush (-3), 2) := by decide +kernel
theorem dX12_choice_6 : decode cX12_choice 6 = .ok (.ireturn, 1) := by decide +kernel
theorem dX12_choice_7 : decode cX12_choice 7 = .ok (.aload_n 0, 1) := by decide +kernel
theorem dX12_choice_8 : decode cX12_choice 8 = .ok (.invokevirtual 213, 3) := by decide +kernel
theorem dX12_choice_11 : decode cX12_choice 11 = .ok (.bipush 6, 2) := by decide +kernel
theorem dX12_choice_13 : decode cX12_choice 13 = .ok (.if_icmp .le 6, 3) := by decide +kernel
theorem dX12_choice_16 : decode cX12_choice 16 = .ok (.bipush (-4), 2) := by decide +kernel
theorem dX12_choice_18 : decode cX12_choice 18 = .ok (.ireturn, 1) := by decide +kernel
theorem dX12_choice_19 : decode cX12_choice 19 = .ok (.aload_n 0, 1) := by decide +kernel
theorem dX12_choice_20 : decode cX12_choice 20 = .ok (.invokevirtual 247, 3) := by decide +kernel
theorem dX12_choice_23 : decode cX12_choice 23 = .ok (.iload_n 1, 1) := by decide +kernel
theorem dX12_choice_24 : decode cX12_choice 24 = .ok (.aload_n 0, 1) := by decide +kernel
theorem dX12_choice_25 : decode cX12_choice 25 = .ok (.invokevirtual 213, 3) := by decide +kernel
theorem dX12_choice_28 : decode cX12_choice 28 = .ok (.if_icmp .ge 12, 3) := by decide +kernel
theorem dX12_choice_31 : decode cX12_choice 31 = .ok (.aload_n 0, 1) := by decide +kernel
theorem dX12_choice_32 : decode cX12_choice 32 = .ok (.getfield 51, 3) := by decide +kernel
theorem dX12_choice_35 : decode cX12_choice 35 = .ok (.iload_n 1, 1) := by decide +kernel
theorem dX12_choice_36 : decode cX12_choice 36 = .ok (.iaload, 1) := by decide +kernel
theorem dX12_choice_37 : decode cX12_choice 37 = .ok (.goto 4, 3) := by decide +kernel
theorem dX12_choice_40 : decode cX12_choice 40 = .ok (.iconst (-1), 1) := by decide +kernel
theorem dX12_choice_41 : decode cX12_choice 41 = .ok (.ireturn, 1) := by decide +kernel
theorem dX12_divisor_0 : decode cX12_divisor 0 = .ok (.lload_n 0, 1) := by decide +kernel
theorem dX12_divisor_1 : decode cX12_divisor 1 = .ok (.lstore 4, 2) := by decide +kernel
theorem dX12_divisor_3 : decode cX12_divisor 3 = .ok (.lload_n 2, 1) := by decide +kernel
theorem dX12_divisor_4 : decode cX12_divisor 4 = .ok (.lstore 6, 2) := by decide +kernel
theorem dX12_divisor_6 : decode cX12_divisor 6 = .ok (.lload 6, 2) := by decide +kernel
theorem dX12_divisor_8 : decode cX12_divisor 8 = .ok (.lconst 0, 1) := by decide +kernel
theorem dX12_divisor_9 : decode cX12_divisor 9 = .ok (.lcmp, 1) := by decide +kernel
theorem dX12_divisor_10 : decode cX12_divisor 10 = .ok (.ifCond .eq 21, 3) := by decide +kernel
theorem dX12_divisor_13 : decode cX12_divisor 13 = .ok (.lload 4, 2) := by decide +kernel
theorem dX12_divisor_15 : decode cX12_divisor 15 = .ok (.lload 6, 2) := by decide +kernel
theorem dX12_divisor_17 : decode cX12_divisor 17 = .ok (.lrem, 1) := by decide +kernel
theorem dX12_divisor_18 : decode cX12_divisor 18 = .ok (.lstore 8, 2) := by decide +kernel
theorem dX12_divisor_20 : decode cX12_divisor 20 = .ok (.lload 6, 2) := by decide +kernel
theorem dX12_divisor_22 : decode cX12_divisor 22 = .ok (.lstore 4, 2) := by decide +kernel
theorem dX12_divisor_24 : decode cX12_divisor 24 = .ok (.lload 8, 2) := by decide +kernel
theorem dX12_divisor_26 : decode cX12_divisor 26 = .ok (.lstore 6, 2) := by decide +kernel
theorem dX12_divisor_28 : decode cX12_divisor 28 = .ok (.goto (-22), 3) := by decide +kernel
theorem dX12_divisor_31 : decode cX12_divisor 31 = .ok (.lload 4, 2) := by decide +kernel
theorem dX12_divisor_33 : decode cX12_divisor 33 = .ok (.lreturn, 1) := by decide +kernel
theorem dX12_worthBy_0 : decode cX12_worthBy 0 = .ok (.aload_n 0, 1) := by decide +kernel
theorem dX12_worthBy_1 : decode cX12_worthBy 1 = .ok (.iconst 0, 1) := by decide +kernel
theorem dX12_worthBy_2 : decode cX12_worthBy 2 = .ok (.iconst 3, 1) := by decide +kernel
theorem dX12_worthBy_3 : decode cX12_worthBy 3 = .ok (.invokevirtual 221, 3) := by decide +kernel
theorem dX12_worthBy_6 : decode cX12_worthBy 6 = .ok (.iconst 0, 1) := by decide +kernel
theorem dX12_worthBy_7 : decode cX12_worthBy 7 = .ok (.istore_n 3, 1) := by decide +kernel
theorem dX12_worthBy_8 : decode cX12_worthBy 8 = .ok (.aload_n 0, 1) := by decide +kernel
theorem dX12_worthBy_9 : decode cX12_worthBy 9 = .ok (.getfield 7, 3) := by decide +kernel
theorem dX12_worthBy_12 : decode cX12_worthBy 12 = .ok (.bipush 30, 2) := by decide +kernel
theorem dX12_worthBy_14 : decode cX12_worthBy 14 = .ok (.iaload, 1) := by decide +kernel
theorem dX12_worthBy_15 : decode cX12_worthBy 15 = .ok (.istore 4, 2) := by decide +kernel
theorem dX12_worthBy_17 : decode cX12_worthBy 17 = .ok (.iload 4, 2) := by decide +kernel
theorem dX12_worthBy_19 : decode cX12_worthBy 19 = .ok (.aload_n 0, 1) := by decide +kernel
theorem dX12_worthBy_20 : decode cX12_worthBy 20 = .ok (.getfield 147, 3) := by decide +kernel
theorem dX12_worthBy_23 : decode cX12_worthBy 23 = .ok (.if_icmp .ge 67, 3) := by decide +kernel
theorem dX12_worthBy_26 : decode cX12_worthBy 26 = .ok (.aload_n 0, 1) := by decide +kernel
theorem dX12_worthBy_27 : decode cX12_worthBy 27 = .ok (.getfield 39, 3) := by decide +kernel
theorem dX12_worthBy_30 : decode cX12_worthBy 30 = .ok (.iload 4, 2) := by decide +kernel
theorem dX12_worthBy_32 : decode cX12_worthBy 32 = .ok (.iaload, 1) := by decide +kernel
theorem dX12_worthBy_33 : decode cX12_worthBy 33 = .ok (.iload_n 1, 1) := by decide +kernel
theorem dX12_worthBy_34 : decode cX12_worthBy 34 = .ok (.if_icmp .ne 7, 3) := by decide +kernel
theorem dX12_worthBy_37 : decode cX12_worthBy 37 = .ok (.iconst 1, 1) := by decide +kernel
theorem dX12_worthBy_38 : decode cX12_worthBy 38 = .ok (.goto 4, 3) := by decide +kernel
theorem dX12_worthBy_41 : decode cX12_worthBy 41 = .ok (.iconst 0, 1) := by decide +kernel
theorem dX12_worthBy_42 : decode cX12_worthBy 42 = .ok (.istore 5, 2) := by decide +kernel
theorem dX12_worthBy_44 : decode cX12_worthBy 44 = .ok (.iload 5, 2) := by decide +kernel
theorem dX12_worthBy_46 : decode cX12_worthBy 46 = .ok (.ifCond .ne 11, 3) := by decide +kernel
theorem dX12_worthBy_49 : decode cX12_worthBy 49 = .ok (.iload_n 2, 1) := by decide +kernel
theorem dX12_worthBy_50 : decode cX12_worthBy 50 = .ok (.iload_n 3, 1) := by decide +kernel
theorem dX12_worthBy_51 : decode cX12_worthBy 51 = .ok (.invokestatic 183, 3) := by decide +kernel
theorem dX12_worthBy_54 : decode cX12_worthBy 54 = .ok (.ifCond .eq 17, 3) := by decide +kernel
theorem dX12_worthBy_57 : decode cX12_worthBy 57 = .ok (.aload_n 0, 1) := by decide +kernel
theorem dX12_worthBy_58 : decode cX12_worthBy 58 = .ok (.bipush 93, 2) := by decide +kernel
theorem dX12_worthBy_60 : decode cX12_worthBy 60 = .ok (.aload_n 0, 1) := by decide +kernel
theorem dX12_worthBy_61 : decode cX12_worthBy 61 = .ok (.getfield 39, 3) := by decide +kernel
theorem dX12_worthBy_64 : decode cX12_worthBy 64 = .ok (.iload 4, 2) := by decide +kernel
theorem dX12_worthBy_66 : decode cX12_worthBy 66 = .ok (.iaload, 1) := by decide +kernel
theorem dX12_worthBy_67 : decode cX12_worthBy 67 = .ok (.invokevirtual 218, 3) := by decide +kernel
theorem dX12_worthBy_70 : decode cX12_worthBy 70 = .ok (.pop, 1) := by decide +kernel
theorem dX12_worthBy_71 : decode cX12_worthBy 71 = .ok (.iload_n 3, 1) := by decide +kernel
theorem dX12_worthBy_72 : decode cX12_worthBy 72 = .ok (.iload 5, 2) := by decide +kernel
theorem dX12_worthBy_74 : decode cX12_worthBy 74 = .ok (.ifCond .eq 7, 3) := by decide +kernel
theorem dX12_worthBy_77 : decode cX12_worthBy 77 = .ok (.iconst 0, 1) := by decide +kernel
theorem dX12_worthBy_78 : decode cX12_worthBy 78 = .ok (.goto 4, 3) := by decide +kernel
theorem dX12_worthBy_81 : decode cX12_worthBy 81 = .ok (.iconst 1, 1) := by decide +kernel
theorem dX12_worthBy_82 : decode cX12_worthBy 82 = .ok (.iadd, 1) := by decide +kernel
theorem dX12_worthBy_83 : decode cX12_worthBy 83 = .ok (.istore_n 3, 1) := by decide +kernel
theorem dX12_worthBy_84 : decode cX12_worthBy 84 = .ok (.iinc 4 1, 3) := by decide +kernel
theorem dX12_worthBy_87 : decode cX12_worthBy 87 = .ok (.goto (-70), 3) := by decide +kernel
theorem dX12_worthBy_90 : decode cX12_worthBy 90 = .ok (.aload_n 0, 1) := by decide +kernel
theorem dX12_worthBy_91 : decode cX12_worthBy 91 = .ok (.bipush 93, 2) := by decide +kernel
theorem dX12_worthBy_93 : decode cX12_worthBy 93 = .ok (.iload_n 1, 1) := by decide +kernel
theorem dX12_worthBy_94 : decode cX12_worthBy 94 = .ok (.invokevirtual 186, 3) := by decide +kernel
theorem dX12_worthBy_97 : decode cX12_worthBy 97 = .ok (.ireturn, 1) := by decide +kernel
theorem dX12_mean_0 : decode cX12_mean 0 = .ok (.iload_n 1, 1) := by decide +kernel
theorem dX12_mean_1 : decode cX12_mean 1 = .ok (.invokestatic 180, 3) := by decide +kernel
theorem dX12_mean_4 : decode cX12_mean 4 = .ok (.ifCond .ne 7, 3) := by decide +kernel
theorem dX12_mean_7 : decode cX12_mean 7 = .ok (.ldc2_w 250, 3) := by decide +kernel
theorem dX12_mean_10 : decode cX12_mean 10 = .ok (.lreturn, 1) := by decide +kernel
theorem dX12_mean_11 : decode cX12_mean 11 = .ok (.iload_n 2, 1) := by decide +kernel
theorem dX12_mean_12 : decode cX12_mean 12 = .ok (.i2l, 1) := by decide +kernel
theorem dX12_mean_13 : decode cX12_mean 13 = .ok (.lconst 0, 1) := by decide +kernel
theorem dX12_mean_14 : decode cX12_mean 14 = .ok (.ldc2_w 252, 3) := by decide +kernel
theorem dX12_mean_17 : decode cX12_mean 17 = .ok (.invokestatic 62, 3) := by decide +kernel
theorem dX12_mean_20 : decode cX12_mean 20 = .ok (.ifCond .eq 13, 3) := by decide +kernel
theorem dX12_mean_23 : decode cX12_mean 23 = .ok (.iload_n 3, 1) := by decide +kernel
theorem dX12_mean_24 : decode cX12_mean 24 = .ok (.i2l, 1) := by decide +kernel
theorem dX12_mean_25 : decode cX12_mean 25 = .ok (.lconst 0, 1) := by decide +kernel
theorem dX12_mean_26 : decode cX12_mean 26 = .ok (.lconst 1, 1) := by decide +kernel
theorem dX12_mean_27 : decode cX12_mean 27 = .ok (.invokestatic 62, 3) := by decide +kernel
theorem dX12_mean_30 : decode cX12_mean 30 = .ok (.ifCond .ne 7, 3) := by decide +kernel
theorem dX12_mean_33 : decode cX12_mean 33 = .ok (.ldc2_w 254, 3) := by decide +kernel
theorem dX12_mean_36 : decode cX12_mean 36 = .ok (.lreturn, 1) := by decide +kernel
theorem dX12_mean_37 : decode cX12_mean 37 = .ok (.aload_n 0, 1) := by decide +kernel
theorem dX12_mean_38 : decode cX12_mean 38 = .ok (.invokevirtual 213, 3) := by decide +kernel
theorem dX12_mean_41 : decode cX12_mean 41 = .ok (.bipush 10, 2) := by decide +kernel
theorem dX12_mean_43 : decode cX12_mean 43 = .ok (.if_icmp .le 7, 3) := by decide +kernel
theorem dX12_mean_46 : decode cX12_mean 46 = .ok (.ldc2_w 256, 3) := by decide +kernel
theorem dX12_mean_49 : decode cX12_mean 49 = .ok (.lreturn, 1) := by decide +kernel
theorem dX12_mean_50 : decode cX12_mean 50 = .ok (.aload_n 0, 1) := by decide +kernel
theorem dX12_mean_51 : decode cX12_mean 51 = .ok (.invokevirtual 213, 3) := by decide +kernel
theorem dX12_mean_54 : decode cX12_mean 54 = .ok (.aload_n 0, 1) := by decide +kernel
theorem dX12_mean_55 : decode cX12_mean 55 = .ok (.iconst 1, 1) := by decide +kernel
theorem dX12_mean_56 : decode cX12_mean 56 = .ok (.iload_n 1, 1) := by decide +kernel
theorem dX12_mean_57 : decode cX12_mean 57 = .ok (.ishl, 1) := by decide +kernel
theorem dX12_mean_58 : decode cX12_mean 58 = .ok (.invokevirtual 190, 3) := by decide +kernel
theorem dX12_mean_61 : decode cX12_mean 61 = .ok (.isub, 1) := by decide +kernel
theorem dX12_mean_62 : decode cX12_mean 62 = .ok (.istore 4, 2) := by decide +kernel
theorem dX12_mean_64 : decode cX12_mean 64 = .ok (.lconst 0, 1) := by decide +kernel
theorem dX12_mean_65 : decode cX12_mean 65 = .ok (.lstore 5, 2) := by decide +kernel
theorem dX12_mean_67 : decode cX12_mean 67 = .ok (.lconst 1, 1) := by decide +kernel
theorem dX12_mean_68 : decode cX12_mean 68 = .ok (.lstore 7, 2) := by decide +kernel
theorem dX12_mean_70 : decode cX12_mean 70 = .ok (.iconst 0, 1) := by decide +kernel
theorem dX12_mean_71 : decode cX12_mean 71 = .ok (.istore 9, 2) := by decide +kernel
theorem dX12_mean_73 : decode cX12_mean 73 = .ok (.iload 9, 2) := by decide +kernel
theorem dX12_mean_75 : decode cX12_mean 75 = .ok (.iload 4, 2) := by decide +kernel
theorem dX12_mean_77 : decode cX12_mean 77 = .ok (.if_icmp .ge 17, 3) := by decide +kernel
theorem dX12_mean_80 : decode cX12_mean 80 = .ok (.lload 7, 2) := by decide +kernel
theorem dX12_mean_82 : decode cX12_mean 82 = .ok (.ldc2_w 252, 3) := by decide +kernel
theorem dX12_mean_85 : decode cX12_mean 85 = .ok (.lmul, 1) := by decide +kernel
theorem dX12_mean_86 : decode cX12_mean 86 = .ok (.lstore 7, 2) := by decide +kernel
theorem dX12_mean_88 : decode cX12_mean 88 = .ok (.iinc 9 1, 3) := by decide +kernel
theorem dX12_mean_91 : decode cX12_mean 91 = .ok (.goto (-18), 3) := by decide +kernel
theorem dX12_mean_94 : decode cX12_mean 94 = .ok (.iconst 0, 1) := by decide +kernel
theorem dX12_mean_95 : decode cX12_mean 95 = .ok (.istore 9, 2) := by decide +kernel
theorem dX12_mean_97 : decode cX12_mean 97 = .ok (.iload 9, 2) := by decide +kernel
theorem dX12_mean_99 : decode cX12_mean 99 = .ok (.iconst 1, 1) := by decide +kernel
theorem dX12_mean_100 : decode cX12_mean 100 = .ok (.iload 4, 2) := by decide +kernel
theorem dX12_mean_102 : decode cX12_mean 102 = .ok (.ishl, 1) := by decide +kernel
theorem dX12_mean_103 : decode cX12_mean 103 = .ok (.if_icmp .ge 67, 3) := by decide +kernel
theorem dX12_mean_106 : decode cX12_mean 106 = .ok (.aload_n 0, 1) := by decide +kernel
theorem dX12_mean_107 : decode cX12_mean 107 = .ok (.iload_n 1, 1) := by decide +kernel
theorem dX12_mean_108 : decode cX12_mean 108 = .ok (.iload 9, 2) := by decide +kernel
theorem dX12_mean_110 : decode cX12_mean 110 = .ok (.invokevirtual 258, 3) := by decide +kernel
theorem dX12_mean_113 : decode cX12_mean 113 = .ok (.i2l, 1) := by decide +kernel
theorem dX12_mean_114 : decode cX12_mean 114 = .ok (.lstore 10, 2) := by decide +kernel
theorem dX12_mean_116 : decode cX12_mean 116 = .ok (.iconst 0, 1) := by decide +kernel
theorem dX12_mean_117 : decode cX12_mean 117 = .ok (.istore 12, 2) := by decide +kernel
theorem dX12_mean_119 : decode cX12_mean 119 = .ok (.iload 12, 2) := by decide +kernel
theorem dX12_mean_121 : decode cX12_mean 121 = .ok (.iload 4, 2) := by decide +kernel
theorem dX12_mean_123 : decode cX12_mean 123 = .ok (.if_icmp .ge 34, 3) := by decide +kernel
theorem dX12_mean_126 : decode cX12_mean 126 = .ok (.lload 10, 2) := by decide +kernel
theorem dX12_mean_128 : decode cX12_mean 128 = .ok (.iload 9, 2) := by decide +kernel
theorem dX12_mean_130 : decode cX12_mean 130 = .ok (.iload 12, 2) := by decide +kernel
theorem dX12_mean_132 : decode cX12_mean 132 = .ok (.invokestatic 183, 3) := by decide +kernel
theorem dX12_mean_135 : decode cX12_mean 135 = .ok (.ifCond .eq 8, 3) := by decide +kernel
theorem dX12_mean_138 : decode cX12_mean 138 = .ok (.iload_n 2, 1) := by decide +kernel
theorem dX12_mean_139 : decode cX12_mean 139 = .ok (.i2l, 1) := by decide +kernel
theorem dX12_mean_140 : decode cX12_mean 140 = .ok (.goto 8, 3) := by decide +kernel
theorem dX12_mean_143 : decode cX12_mean 143 = .ok (.bipush 10, 2) := by decide +kernel
theorem dX12_mean_145 : decode cX12_mean 145 = .ok (.iload_n 2, 1) := by decide +kernel
theorem dX12_mean_146 : decode cX12_mean 146 = .ok (.isub, 1) := by decide +kernel
theorem dX12_mean_147 : decode cX12_mean 147 = .ok (.i2l, 1) := by decide +kernel
theorem dX12_mean_148 : decode cX12_mean 148 = .ok (.lmul, 1) := by decide +kernel
theorem dX12_mean_149 : decode cX12_mean 149 = .ok (.lstore 10, 2) := by decide +kernel
theorem dX12_mean_151 : decode cX12_mean 151 = .ok (.iinc 12 1, 3) := by decide +kernel
theorem dX12_mean_154 : decode cX12_mean 154 = .ok (.goto (-35), 3) := by decide +kernel
theorem dX12_mean_157 : decode cX12_mean 157 = .ok (.lload 5, 2) := by decide +kernel
theorem dX12_mean_159 : decode cX12_mean 159 = .ok (.lload 10, 2) := by decide +kernel
theorem dX12_mean_161 : decode cX12_mean 161 = .ok (.ladd, 1) := by decide +kernel
theorem dX12_mean_162 : decode cX12_mean 162 = .ok (.lstore 5, 2) := by decide +kernel
theorem dX12_mean_164 : decode cX12_mean 164 = .ok (.iinc 9 1, 3) := by decide +kernel
theorem dX12_mean_167 : decode cX12_mean 167 = .ok (.goto (-70), 3) := by decide +kernel
theorem dX12_mean_170 : decode cX12_mean 170 = .ok (.lload 5, 2) := by decide +kernel
theorem dX12_mean_172 : decode cX12_mean 172 = .ok (.lload 7, 2) := by decide +kernel
theorem dX12_mean_174 : decode cX12_mean 174 = .ok (.invokestatic 261, 3) := by decide +kernel
theorem dX12_mean_177 : decode cX12_mean 177 = .ok (.lstore 9, 2) := by decide +kernel
theorem dX12_mean_179 : decode cX12_mean 179 = .ok (.iload_n 3, 1) := by decide +kernel
theorem dX12_mean_180 : decode cX12_mean 180 = .ok (.ifCond .ne 11, 3) := by decide +kernel
theorem dX12_mean_183 : decode cX12_mean 183 = .ok (.lload 5, 2) := by decide +kernel
theorem dX12_mean_185 : decode cX12_mean 185 = .ok (.lload 9, 2) := by decide +kernel
theorem dX12_mean_187 : decode cX12_mean 187 = .ok (.ldiv, 1) := by decide +kernel
theorem dX12_mean_188 : decode cX12_mean 188 = .ok (.goto 8, 3) := by decide +kernel
theorem dX12_mean_191 : decode cX12_mean 191 = .ok (.lload 7, 2) := by decide +kernel
theorem dX12_mean_193 : decode cX12_mean 193 = .ok (.lload 9, 2) := by decide +kernel
theorem dX12_mean_195 : decode cX12_mean 195 = .ok (.ldiv, 1) := by decide +kernel
theorem dX12_mean_196 : decode cX12_mean 196 = .ok (.lreturn, 1) := by decide +kernel
theorem dX12_dry_0 : decode cX12_dry 0 = .ok (.aload_n 0, 1) := by decide +kernel
theorem dX12_dry_1 : decode cX12_dry 1 = .ok (.getfield 147, 3) := by decide +kernel
theorem dX12_dry_4 : decode cX12_dry 4 = .ok (.ifCond .ne 5, 3) := by decide +kernel
theorem dX12_dry_7 : decode cX12_dry 7 = .ok (.iconst (-1), 1) := by decide +kernel
theorem dX12_dry_8 : decode cX12_dry 8 = .ok (.ireturn, 1) := by decide +kernel
theorem dX12_dry_9 : decode cX12_dry 9 = .ok (.aload_n 0, 1) := by decide +kernel
theorem dX12_dry_10 : decode cX12_dry 10 = .ok (.iconst 0, 1) := by decide +kernel
theorem dX12_dry_11 : decode cX12_dry 11 = .ok (.iconst 3, 1) := by decide +kernel
theorem dX12_dry_12 : decode cX12_dry 12 = .ok (.invokevirtual 221, 3) := by decide +kernel
theorem dX12_dry_15 : decode cX12_dry 15 = .ok (.iconst 0, 1) := by decide +kernel
theorem dX12_dry_16 : decode cX12_dry 16 = .ok (.istore_n 1, 1) := by decide +kernel
theorem dX12_dry_17 : decode cX12_dry 17 = .ok (.iconst 0, 1) := by decide +kernel
theorem dX12_dry_18 : decode cX12_dry 18 = .ok (.istore_n 2, 1) := by decide +kernel
theorem dX12_dry_19 : decode cX12_dry 19 = .ok (.iload_n 2, 1) := by decide +kernel
theorem dX12_dry_20 : decode cX12_dry 20 = .ok (.sipush 200, 3) := by decide +kernel
theorem dX12_dry_23 : decode cX12_dry 23 = .ok (.if_icmp .ge 57, 3) := by decide +kernel
theorem dX12_dry_26 : decode cX12_dry 26 = .ok (.aload_n 0, 1) := by decide +kernel
theorem dX12_dry_27 : decode cX12_dry 27 = .ok (.bipush 93, 2) := by decide +kernel
theorem dX12_dry_29 : decode cX12_dry 29 = .ok (.aload_n 0, 1) := by decide +kernel
theorem dX12_dry_30 : decode cX12_dry 30 = .ok (.getfield 39, 3) := by decide +kernel
theorem dX12_dry_33 : decode cX12_dry 33 = .ok (.aload_n 0, 1) := by decide +kernel
theorem dX12_dry_34 : decode cX12_dry 34 = .ok (.getfield 7, 3) := by decide +kernel
theorem dX12_dry_37 : decode cX12_dry 37 = .ok (.bipush 30, 2) := by decide +kernel
theorem dX12_dry_39 : decode cX12_dry 39 = .ok (.iaload, 1) := by decide +kernel
theorem dX12_dry_40 : decode cX12_dry 40 = .ok (.iload_n 2, 1) := by decide +kernel
theorem dX12_dry_41 : decode cX12_dry 41 = .ok (.iadd, 1) := by decide +kernel
theorem dX12_dry_42 : decode cX12_dry 42 = .ok (.aload_n 0, 1) := by decide +kernel
theorem dX12_dry_43 : decode cX12_dry 43 = .ok (.getfield 147, 3) := by decide +kernel
theorem dX12_dry_46 : decode cX12_dry 46 = .ok (.irem, 1) := by decide +kernel
theorem dX12_dry_47 : decode cX12_dry 47 = .ok (.iaload, 1) := by decide +kernel
theorem dX12_dry_48 : decode cX12_dry 48 = .ok (.invokevirtual 218, 3) := by decide +kernel
theorem dX12_dry_51 : decode cX12_dry 51 = .ok (.ifCond .eq 7, 3) := by decide +kernel
theorem dX12_dry_54 : decode cX12_dry 54 = .ok (.iconst 0, 1) := by decide +kernel
theorem dX12_dry_55 : decode cX12_dry 55 = .ok (.goto 6, 3) := by decide +kernel
theorem dX12_dry_58 : decode cX12_dry 58 = .ok (.iload_n 1, 1) := by decide +kernel
theorem dX12_dry_59 : decode cX12_dry 59 = .ok (.iconst 1, 1) := by decide +kernel
theorem dX12_dry_60 : decode cX12_dry 60 = .ok (.iadd, 1) := by decide +kernel
theorem dX12_dry_61 : decode cX12_dry 61 = .ok (.istore_n 1, 1) := by decide +kernel
theorem dX12_dry_62 : decode cX12_dry 62 = .ok (.iload_n 1, 1) := by decide +kernel
theorem dX12_dry_63 : decode cX12_dry 63 = .ok (.aload_n 0, 1) := by decide +kernel
theorem dX12_dry_64 : decode cX12_dry 64 = .ok (.getfield 147, 3) := by decide +kernel
theorem dX12_dry_67 : decode cX12_dry 67 = .ok (.if_icmp .ne 7, 3) := by decide +kernel
theorem dX12_dry_70 : decode cX12_dry 70 = .ok (.iload_n 2, 1) := by decide +kernel
theorem dX12_dry_71 : decode cX12_dry 71 = .ok (.iconst 1, 1) := by decide +kernel
theorem dX12_dry_72 : decode cX12_dry 72 = .ok (.iadd, 1) := by decide +kernel
theorem dX12_dry_73 : decode cX12_dry 73 = .ok (.ireturn, 1) := by decide +kernel
theorem dX12_dry_74 : decode cX12_dry 74 = .ok (.iinc 2 1, 3) := by decide +kernel
theorem dX12_dry_77 : decode cX12_dry 77 = .ok (.goto (-58), 3) := by decide +kernel
theorem dX12_dry_80 : decode cX12_dry 80 = .ok (.iconst (-1), 1) := by decide +kernel
theorem dX12_dry_81 : decode cX12_dry 81 = .ok (.ireturn, 1) := by decide +kernel
theorem dX12_bait_0 : decode cX12_bait 0 = .ok (.iload_n 1, 1) := by decide +kernel
theorem dX12_bait_1 : decode cX12_bait 1 = .ok (.invokestatic 180, 3) := by decide +kernel
theorem dX12_bait_4 : decode cX12_bait 4 = .ok (.ifCond .ne 6, 3) := by decide +kernel
theorem dX12_bait_7 : decode cX12_bait 7 = .ok (.bipush (-2), 2) := by decide +kernel
theorem dX12_bait_9 : decode cX12_bait 9 = .ok (.ireturn, 1) := by decide +kernel
theorem dX12_bait_10 : decode cX12_bait 10 = .ok (.iconst (-1), 1) := by decide +kernel
theorem dX12_bait_11 : decode cX12_bait 11 = .ok (.istore_n 2, 1) := by decide +kernel
theorem dX12_bait_12 : decode cX12_bait 12 = .ok (.iconst 0, 1) := by decide +kernel
theorem dX12_bait_13 : decode cX12_bait 13 = .ok (.istore_n 3, 1) := by decide +kernel
theorem dX12_bait_14 : decode cX12_bait 14 = .ok (.iload_n 3, 1) := by decide +kernel
theorem dX12_bait_15 : decode cX12_bait 15 = .ok (.sipush 343, 3) := by decide +kernel
theorem dX12_bait_18 : decode cX12_bait 18 = .ok (.if_icmp .ge 180, 3) := by decide +kernel
theorem dX12_bait_21 : decode cX12_bait 21 = .ok (.iconst 0, 1) := by decide +kernel
theorem dX12_bait_22 : decode cX12_bait 22 = .ok (.istore 4, 2) := by decide +kernel
theorem dX12_bait_24 : decode cX12_bait 24 = .ok (.iconst 1, 1) := by decide +kernel
theorem dX12_bait_25 : decode cX12_bait 25 = .ok (.istore 5, 2) := by decide +kernel
theorem dX12_bait_27 : decode cX12_bait 27 = .ok (.iload_n 3, 1) := by decide +kernel
theorem dX12_bait_28 : decode cX12_bait 28 = .ok (.istore 6, 2) := by decide +kernel
theorem dX12_bait_30 : decode cX12_bait 30 = .ok (.aload_n 0, 1) := by decide +kernel
theorem dX12_bait_31 : decode cX12_bait 31 = .ok (.iconst 0, 1) := by decide +kernel
theorem dX12_bait_32 : decode cX12_bait 32 = .ok (.iconst 3, 1) := by decide +kernel
theorem dX12_bait_33 : decode cX12_bait 33 = .ok (.invokevirtual 221, 3) := by decide +kernel
theorem dX12_bait_36 : decode cX12_bait 36 = .ok (.iconst 0, 1) := by decide +kernel
theorem dX12_bait_37 : decode cX12_bait 37 = .ok (.istore 7, 2) := by decide +kernel
theorem dX12_bait_39 : decode cX12_bait 39 = .ok (.iload 7, 2) := by decide +kernel
theorem dX12_bait_41 : decode cX12_bait 41 = .ok (.iconst 3, 1) := by decide +kernel
theorem dX12_bait_42 : decode cX12_bait 42 = .ok (.if_icmp .ge 116, 3) := by decide +kernel
theorem dX12_bait_45 : decode cX12_bait 45 = .ok (.iload 6, 2) := by decide +kernel
theorem dX12_bait_47 : decode cX12_bait 47 = .ok (.bipush 7, 2) := by decide +kernel
theorem dX12_bait_49 : decode cX12_bait 49 = .ok (.irem, 1) := by decide +kernel
theorem dX12_bait_50 : decode cX12_bait 50 = .ok (.istore 8, 2) := by decide +kernel
theorem dX12_bait_52 : decode cX12_bait 52 = .ok (.iload 6, 2) := by decide +kernel
theorem dX12_bait_54 : decode cX12_bait 54 = .ok (.bipush 7, 2) := by decide +kernel
theorem dX12_bait_56 : decode cX12_bait 56 = .ok (.idiv, 1) := by decide +kernel
theorem dX12_bait_57 : decode cX12_bait 57 = .ok (.istore 6, 2) := by decide +kernel
theorem dX12_bait_59 : decode cX12_bait 59 = .ok (.iload 5, 2) := by decide +kernel
theorem dX12_bait_61 : decode cX12_bait 61 = .ok (.ifCond .eq 23, 3) := by decide +kernel
theorem dX12_bait_64 : decode cX12_bait 64 = .ok (.iload 8, 2) := by decide +kernel
theorem dX12_bait_66 : decode cX12_bait 66 = .ok (.aload_n 0, 1) := by decide +kernel
theorem dX12_bait_67 : decode cX12_bait 67 = .ok (.getfield 23, 3) := by decide +kernel
theorem dX12_bait_70 : decode cX12_bait 70 = .ok (.if_icmp .lt 10, 3) := by decide +kernel
theorem dX12_bait_73 : decode cX12_bait 73 = .ok (.iload 8, 2) := by decide +kernel
theorem dX12_bait_75 : decode cX12_bait 75 = .ok (.bipush 6, 2) := by decide +kernel
theorem dX12_bait_77 : decode cX12_bait 77 = .ok (.if_icmp .ne 7, 3) := by decide +kernel
theorem dX12_bait_80 : decode cX12_bait 80 = .ok (.iconst 1, 1) := by decide +kernel
theorem dX12_bait_81 : decode cX12_bait 81 = .ok (.goto 4, 3) := by decide +kernel
theorem dX12_bait_84 : decode cX12_bait 84 = .ok (.iconst 0, 1) := by decide +kernel
theorem dX12_bait_85 : decode cX12_bait 85 = .ok (.istore 5, 2) := by decide +kernel
theorem dX12_bait_87 : decode cX12_bait 87 = .ok (.iload 4, 2) := by decide +kernel
theorem dX12_bait_89 : decode cX12_bait 89 = .ok (.iload 8, 2) := by decide +kernel
theorem dX12_bait_91 : decode cX12_bait 91 = .ok (.aload_n 0, 1) := by decide +kernel
theorem dX12_bait_92 : decode cX12_bait 92 = .ok (.getfield 23, 3) := by decide +kernel
theorem dX12_bait_95 : decode cX12_bait 95 = .ok (.if_icmp .ge 13, 3) := by decide +kernel
theorem dX12_bait_98 : decode cX12_bait 98 = .ok (.aload_n 0, 1) := by decide +kernel
theorem dX12_bait_99 : decode cX12_bait 99 = .ok (.getfield 27, 3) := by decide +kernel
theorem dX12_bait_102 : decode cX12_bait 102 = .ok (.iload 8, 2) := by decide +kernel
theorem dX12_bait_104 : decode cX12_bait 104 = .ok (.iaload, 1) := by decide +kernel
theorem dX12_bait_105 : decode cX12_bait 105 = .ok (.goto 4, 3) := by decide +kernel
theorem dX12_bait_108 : decode cX12_bait 108 = .ok (.iconst 0, 1) := by decide +kernel
theorem dX12_bait_109 : decode cX12_bait 109 = .ok (.iadd, 1) := by decide +kernel
theorem dX12_bait_110 : decode cX12_bait 110 = .ok (.istore 4, 2) := by decide +kernel
theorem dX12_bait_112 : decode cX12_bait 112 = .ok (.aload_n 0, 1) := by decide +kernel
theorem dX12_bait_113 : decode cX12_bait 113 = .ok (.getfield 7, 3) := by decide +kernel
theorem dX12_bait_116 : decode cX12_bait 116 = .ok (.bipush 93, 2) := by decide +kernel
theorem dX12_bait_118 : decode cX12_bait 118 = .ok (.iload 8, 2) := by decide +kernel
theorem dX12_bait_120 : decode cX12_bait 120 = .ok (.aload_n 0, 1) := by decide +kernel
theorem dX12_bait_121 : decode cX12_bait 121 = .ok (.getfield 23, 3) := by decide +kernel
theorem dX12_bait_124 : decode cX12_bait 124 = .ok (.if_icmp .ge 8, 3) := by decide +kernel
theorem dX12_bait_127 : decode cX12_bait 127 = .ok (.iload 8, 2) := by decide +kernel
theorem dX12_bait_129 : decode cX12_bait 129 = .ok (.goto 4, 3) := by decide +kernel
theorem dX12_bait_132 : decode cX12_bait 132 = .ok (.iconst 0, 1) := by decide +kernel
theorem dX12_bait_133 : decode cX12_bait 133 = .ok (.iadd, 1) := by decide +kernel
theorem dX12_bait_134 : decode cX12_bait 134 = .ok (.dup2, 1) := by decide +kernel
theorem dX12_bait_135 : decode cX12_bait 135 = .ok (.iaload, 1) := by decide +kernel
theorem dX12_bait_136 : decode cX12_bait 136 = .ok (.iload 8, 2) := by decide +kernel
theorem dX12_bait_138 : decode cX12_bait 138 = .ok (.aload_n 0, 1) := by decide +kernel
theorem dX12_bait_139 : decode cX12_bait 139 = .ok (.getfield 23, 3) := by decide +kernel
theorem dX12_bait_142 : decode cX12_bait 142 = .ok (.if_icmp .ge 7, 3) := by decide +kernel
theorem dX12_bait_145 : decode cX12_bait 145 = .ok (.iconst 1, 1) := by decide +kernel
theorem dX12_bait_146 : decode cX12_bait 146 = .ok (.goto 4, 3) := by decide +kernel
theorem dX12_bait_149 : decode cX12_bait 149 = .ok (.iconst 0, 1) := by decide +kernel
theorem dX12_bait_150 : decode cX12_bait 150 = .ok (.iadd, 1) := by decide +kernel
theorem dX12_bait_151 : decode cX12_bait 151 = .ok (.iastore, 1) := by decide +kernel
theorem dX12_bait_152 : decode cX12_bait 152 = .ok (.iinc 7 1, 3) := by decide +kernel
theorem dX12_bait_155 : decode cX12_bait 155 = .ok (.goto (-116), 3) := by decide +kernel
theorem dX12_bait_158 : decode cX12_bait 158 = .ok (.iload 5, 2) := by decide +kernel
theorem dX12_bait_160 : decode cX12_bait 160 = .ok (.ifCond .eq 30, 3) := by decide +kernel
theorem dX12_bait_163 : decode cX12_bait 163 = .ok (.aload_n 0, 1) := by decide +kernel
theorem dX12_bait_164 : decode cX12_bait 164 = .ok (.bipush 93, 2) := by decide +kernel
theorem dX12_bait_166 : decode cX12_bait 166 = .ok (.iload_n 1, 1) := by decide +kernel
theorem dX12_bait_167 : decode cX12_bait 167 = .ok (.invokevirtual 203, 3) := by decide +kernel
theorem dX12_bait_170 : decode cX12_bait 170 = .ok (.iconst (-1), 1) := by decide +kernel
theorem dX12_bait_171 : decode cX12_bait 171 = .ok (.if_icmp .eq 19, 3) := by decide +kernel
theorem dX12_bait_174 : decode cX12_bait 174 = .ok (.iload_n 2, 1) := by decide +kernel
theorem dX12_bait_175 : decode cX12_bait 175 = .ok (.iconst (-1), 1) := by decide +kernel
theorem dX12_bait_176 : decode cX12_bait 176 = .ok (.if_icmp .eq 9, 3) := by decide +kernel
theorem dX12_bait_179 : decode cX12_bait 179 = .ok (.iload 4, 2) := by decide +kernel
theorem dX12_bait_181 : decode cX12_bait 181 = .ok (.iload_n 2, 1) := by decide +kernel
theorem dX12_bait_182 : decode cX12_bait 182 = .ok (.if_icmp .ge 8, 3) := by decide +kernel
theorem dX12_bait_185 : decode cX12_bait 185 = .ok (.iload 4, 2) := by decide +kernel
theorem dX12_bait_187 : decode cX12_bait 187 = .ok (.goto 4, 3) := by decide +kernel
theorem dX12_bait_190 : decode cX12_bait 190 = .ok (.iload_n 2, 1) := by decide +kernel
theorem dX12_bait_191 : decode cX12_bait 191 = .ok (.istore_n 2, 1) := by decide +kernel
theorem dX12_bait_192 : decode cX12_bait 192 = .ok (.iinc 3 1, 3) := by decide +kernel
theorem dX12_bait_195 : decode cX12_bait 195 = .ok (.goto (-181), 3) := by decide +kernel
theorem dX12_bait_198 : decode cX12_bait 198 = .ok (.iload_n 2, 1) := by decide +kernel
theorem dX12_bait_199 : decode cX12_bait 199 = .ok (.ireturn, 1) := by decide +kernel
theorem dX12_note_0 : decode cX12_note 0 = .ok (.aload_n 0, 1) := by decide +kernel
theorem dX12_note_1 : decode cX12_note 1 = .ok (.iload_n 1, 1) := by decide +kernel
theorem dX12_note_2 : decode cX12_note 2 = .ok (.invokevirtual 177, 3) := by decide +kernel
theorem dX12_note_5 : decode cX12_note 5 = .ok (.ifCond .ne 6, 3) := by decide +kernel
theorem dX12_note_8 : decode cX12_note 8 = .ok (.bipush (-2), 2) := by decide +kernel
theorem dX12_note_10 : decode cX12_note 10 = .ok (.ireturn, 1) := by decide +kernel
theorem dX12_note_11 : decode cX12_note 11 = .ok (.iload_n 2, 1) := by decide +kernel
theorem dX12_note_12 : decode cX12_note 12 = .ok (.i2l, 1) := by decide +kernel
theorem dX12_note_13 : decode cX12_note 13 = .ok (.lconst 0, 1) := by decide +kernel
theorem dX12_note_14 : decode cX12_note 14 = .ok (.ldc2_w 265, 3) := by decide +kernel
theorem dX12_note_17 : decode cX12_note 17 = .ok (.invokestatic 62, 3) := by decide +kernel
theorem dX12_note_20 : decode cX12_note 20 = .ok (.ifCond .ne 6, 3) := by decide +kernel
theorem dX12_note_23 : decode cX12_note 23 = .ok (.bipush (-3), 2) := by decide +kernel
theorem dX12_note_25 : decode cX12_note 25 = .ok (.ireturn, 1) := by decide +kernel
theorem dX12_note_26 : decode cX12_note 26 = .ok (.aload_n 0, 1) := by decide +kernel
theorem dX12_note_27 : decode cX12_note 27 = .ok (.getfield 172, 3) := by decide +kernel
theorem dX12_note_30 : decode cX12_note 30 = .ok (.bipush 6, 2) := by decide +kernel
theorem dX12_note_32 : decode cX12_note 32 = .ok (.if_icmp .ne 6, 3) := by decide +kernel
theorem dX12_note_35 : decode cX12_note 35 = .ok (.bipush (-5), 2) := by decide +kernel
theorem dX12_note_37 : decode cX12_note 37 = .ok (.ireturn, 1) := by decide +kernel
theorem dX12_note_38 : decode cX12_note 38 = .ok (.aload_n 0, 1) := by decide +kernel
theorem dX12_note_39 : decode cX12_note 39 = .ok (.getfield 54, 3) := by decide +kernel
theorem dX12_note_42 : decode cX12_note 42 = .ok (.aload_n 0, 1) := by decide +kernel
theorem dX12_note_43 : decode cX12_note 43 = .ok (.getfield 172, 3) := by decide +kernel
theorem dX12_note_46 : decode cX12_note 46 = .ok (.iload_n 1, 1) := by decide +kernel
theorem dX12_note_47 : decode cX12_note 47 = .ok (.iastore, 1) := by decide +kernel
theorem dX12_note_48 : decode cX12_note 48 = .ok (.aload_n 0, 1) := by decide +kernel
theorem dX12_note_49 : decode cX12_note 49 = .ok (.getfield 57, 3) := by decide +kernel
theorem dX12_note_52 : decode cX12_note 52 = .ok (.aload_n 0, 1) := by decide +kernel
theorem dX12_note_53 : decode cX12_note 53 = .ok (.getfield 172, 3) := by decide +kernel
theorem dX12_note_56 : decode cX12_note 56 = .ok (.iload_n 2, 1) := by decide +kernel
theorem dX12_note_57 : decode cX12_note 57 = .ok (.iastore, 1) := by decide +kernel
theorem dX12_note_58 : decode cX12_note 58 = .ok (.aload_n 0, 1) := by decide +kernel
theorem dX12_note_59 : decode cX12_note 59 = .ok (.dup, 1) := by decide +kernel
theorem dX12_note_60 : decode cX12_note 60 = .ok (.getfield 172, 3) := by decide +kernel
theorem dX12_note_63 : decode cX12_note 63 = .ok (.iconst 1, 1) := by decide +kernel
theorem dX12_note_64 : decode cX12_note 64 = .ok (.iadd, 1) := by decide +kernel
theorem dX12_note_65 : decode cX12_note 65 = .ok (.putfield 172, 3) := by decide +kernel
theorem dX12_note_68 : decode cX12_note 68 = .ok (.aload_n 0, 1) := by decide +kernel
theorem dX12_note_69 : decode cX12_note 69 = .ok (.getfield 172, 3) := by decide +kernel
theorem dX12_note_72 : decode cX12_note 72 = .ok (.ireturn, 1) := by decide +kernel
theorem dX12_forget_0 : decode cX12_forget 0 = .ok (.aload_n 0, 1) := by decide +kernel
theorem dX12_forget_1 : decode cX12_forget 1 = .ok (.getfield 172, 3) := by decide +kernel
theorem dX12_forget_4 : decode cX12_forget 4 = .ok (.istore_n 1, 1) := by decide +kernel
theorem dX12_forget_5 : decode cX12_forget 5 = .ok (.aload_n 0, 1) := by decide +kernel
theorem dX12_forget_6 : decode cX12_forget 6 = .ok (.iconst 0, 1) := by decide +kernel
theorem dX12_forget_7 : decode cX12_forget 7 = .ok (.putfield 172, 3) := by decide +kernel
theorem dX12_forget_10 : decode cX12_forget 10 = .ok (.iload_n 1, 1) := by decide +kernel
theorem dX12_forget_11 : decode cX12_forget 11 = .ok (.ireturn, 1) := by decide +kernel
theorem dX12_layOf_0 : decode cX12_layOf 0 = .ok (.iload_n 1, 1) := by decide +kernel
theorem dX12_layOf_1 : decode cX12_layOf 1 = .ok (.iconst 2, 1) := by decide +kernel
theorem dX12_layOf_2 : decode cX12_layOf 2 = .ok (.aload_n 0, 1) := by decide +kernel
theorem dX12_layOf_3 : decode cX12_layOf 3 = .ok (.getfield 23, 3) := by decide +kernel
theorem dX12_layOf_6 : decode cX12_layOf 6 = .ok (.iconst 1, 1) := by decide +kernel
theorem dX12_layOf_7 : decode cX12_layOf 7 = .ok (.isub, 1) := by decide +kernel
theorem dX12_layOf_8 : decode cX12_layOf 8 = .ok (.iload_n 2, 1) := by decide +kernel
theorem dX12_layOf_9 : decode cX12_layOf 9 = .ok (.isub, 1) := by decide +kernel
theorem dX12_layOf_10 : decode cX12_layOf 10 = .ok (.imul, 1) := by decide +kernel
theorem dX12_layOf_11 : decode cX12_layOf 11 = .ok (.ishr, 1) := by decide +kernel
theorem dX12_layOf_12 : decode cX12_layOf 12 = .ok (.iconst 3, 1) := by decide +kernel
theorem dX12_layOf_13 : decode cX12_layOf 13 = .ok (.iand, 1) := by decide +kernel
theorem dX12_layOf_14 : decode cX12_layOf 14 = .ok (.ireturn, 1) := by decide +kernel
theorem dX12_isSo_0 : decode cX12_isSo 0 = .ok (.bipush 93, 2) := by decide +kernel
theorem dX12_isSo_2 : decode cX12_isSo 2 = .ok (.istore_n 2, 1) := by decide +kernel
theorem dX12_isSo_3 : decode cX12_isSo 3 = .ok (.iconst 0, 1) := by decide +kernel
theorem dX12_isSo_4 : decode cX12_isSo 4 = .ok (.istore_n 3, 1) := by decide +kernel
theorem dX12_isSo_5 : decode cX12_isSo 5 = .ok (.iload_n 3, 1) := by decide +kernel
theorem dX12_isSo_6 : decode cX12_isSo 6 = .ok (.aload_n 0, 1) := by decide +kernel
theorem dX12_isSo_7 : decode cX12_isSo 7 = .ok (.getfield 23, 3) := by decide +kernel
theorem dX12_isSo_10 : decode cX12_isSo 10 = .ok (.if_icmp .ge 25, 3) := by decide +kernel
theorem dX12_isSo_13 : decode cX12_isSo 13 = .ok (.aload_n 0, 1) := by decide +kernel
theorem dX12_isSo_14 : decode cX12_isSo 14 = .ok (.getfield 7, 3) := by decide +kernel
theorem dX12_isSo_17 : decode cX12_isSo 17 = .ok (.iload_n 2, 1) := by decide +kernel
theorem dX12_isSo_18 : decode cX12_isSo 18 = .ok (.iconst 0, 1) := by decide +kernel
theorem dX12_isSo_19 : decode cX12_isSo 19 = .ok (.iadd, 1) := by decide +kernel
theorem dX12_isSo_20 : decode cX12_isSo 20 = .ok (.iload_n 3, 1) := by decide +kernel
theorem dX12_isSo_21 : decode cX12_isSo 21 = .ok (.iadd, 1) := by decide +kernel
theorem dX12_isSo_22 : decode cX12_isSo 22 = .ok (.aload_n 0, 1) := by decide +kernel
theorem dX12_isSo_23 : decode cX12_isSo 23 = .ok (.iload_n 1, 1) := by decide +kernel
theorem dX12_isSo_24 : decode cX12_isSo 24 = .ok (.iload_n 3, 1) := by decide +kernel
theorem dX12_isSo_25 : decode cX12_isSo 25 = .ok (.invokevirtual 267, 3) := by decide +kernel
theorem dX12_isSo_28 : decode cX12_isSo 28 = .ok (.iastore, 1) := by decide +kernel
theorem dX12_isSo_29 : decode cX12_isSo 29 = .ok (.iinc 3 1, 3) := by decide +kernel
theorem dX12_isSo_32 : decode cX12_isSo 32 = .ok (.goto (-27), 3) := by decide +kernel
theorem dX12_isSo_35 : decode cX12_isSo 35 = .ok (.iconst 1, 1) := by decide +kernel
theorem dX12_isSo_36 : decode cX12_isSo 36 = .ok (.istore_n 3, 1) := by decide +kernel
theorem dX12_isSo_37 : decode cX12_isSo 37 = .ok (.iconst 0, 1) := by decide +kernel
theorem dX12_isSo_38 : decode cX12_isSo 38 = .ok (.istore 4, 2) := by decide +kernel
theorem dX12_isSo_40 : decode cX12_isSo 40 = .ok (.iload 4, 2) := by decide +kernel
theorem dX12_isSo_42 : decode cX12_isSo 42 = .ok (.aload_n 0, 1) := by decide +kernel
theorem dX12_isSo_43 : decode cX12_isSo 43 = .ok (.getfield 172, 3) := by decide +kernel
theorem dX12_isSo_46 : decode cX12_isSo 46 = .ok (.if_icmp .ge 100, 3) := by decide +kernel
theorem dX12_isSo_49 : decode cX12_isSo 49 = .ok (.iload_n 3, 1) := by decide +kernel
theorem dX12_isSo_50 : decode cX12_isSo 50 = .ok (.ifCond .eq 96, 3) := by decide +kernel
theorem dX12_isSo_53 : decode cX12_isSo 53 = .ok (.aload_n 0, 1) := by decide +kernel
theorem dX12_isSo_54 : decode cX12_isSo 54 = .ok (.iload_n 2, 1) := by decide +kernel
theorem dX12_isSo_55 : decode cX12_isSo 55 = .ok (.aload_n 0, 1) := by decide +kernel
theorem dX12_isSo_56 : decode cX12_isSo 56 = .ok (.getfield 54, 3) := by decide +kernel
theorem dX12_isSo_59 : decode cX12_isSo 59 = .ok (.iload 4, 2) := by decide +kernel
theorem dX12_isSo_61 : decode cX12_isSo 61 = .ok (.iaload, 1) := by decide +kernel
theorem dX12_isSo_62 : decode cX12_isSo 62 = .ok (.invokevirtual 193, 3) := by decide +kernel
theorem dX12_isSo_65 : decode cX12_isSo 65 = .ok (.aload_n 0, 1) := by decide +kernel
theorem dX12_isSo_66 : decode cX12_isSo 66 = .ok (.getfield 57, 3) := by decide +kernel
theorem dX12_isSo_69 : decode cX12_isSo 69 = .ok (.iload 4, 2) := by decide +kernel
theorem dX12_isSo_71 : decode cX12_isSo 71 = .ok (.iaload, 1) := by decide +kernel
theorem dX12_isSo_72 : decode cX12_isSo 72 = .ok (.if_icmp .ne 7, 3) := by decide +kernel
theorem dX12_isSo_75 : decode cX12_isSo 75 = .ok (.iconst 1, 1) := by decide +kernel
theorem dX12_isSo_76 : decode cX12_isSo 76 = .ok (.goto 4, 3) := by decide +kernel
theorem dX12_isSo_79 : decode cX12_isSo 79 = .ok (.iconst 0, 1) := by decide +kernel
theorem dX12_isSo_80 : decode cX12_isSo 80 = .ok (.istore_n 3, 1) := by decide +kernel
theorem dX12_isSo_81 : decode cX12_isSo 81 = .ok (.iconst 0, 1) := by decide +kernel
theorem dX12_isSo_82 : decode cX12_isSo 82 = .ok (.istore 5, 2) := by decide +kernel
theorem dX12_isSo_84 : decode cX12_isSo 84 = .ok (.iload 5, 2) := by decide +kernel
theorem dX12_isSo_86 : decode cX12_isSo 86 = .ok (.aload_n 0, 1) := by decide +kernel
theorem dX12_isSo_87 : decode cX12_isSo 87 = .ok (.getfield 23, 3) := by decide +kernel
theorem dX12_isSo_90 : decode cX12_isSo 90 = .ok (.if_icmp .ge 30, 3) := by decide +kernel
theorem dX12_isSo_93 : decode cX12_isSo 93 = .ok (.aload_n 0, 1) := by decide +kernel
theorem dX12_isSo_94 : decode cX12_isSo 94 = .ok (.getfield 7, 3) := by decide +kernel
theorem dX12_isSo_97 : decode cX12_isSo 97 = .ok (.iload_n 2, 1) := by decide +kernel
theorem dX12_isSo_98 : decode cX12_isSo 98 = .ok (.iconst 0, 1) := by decide +kernel
theorem dX12_isSo_99 : decode cX12_isSo 99 = .ok (.iadd, 1) := by decide +kernel
theorem dX12_isSo_100 : decode cX12_isSo 100 = .ok (.iload 5, 2) := by decide +kernel
theorem dX12_isSo_102 : decode cX12_isSo 102 = .ok (.iadd, 1) := by decide +kernel
theorem dX12_isSo_103 : decode cX12_isSo 103 = .ok (.dup2, 1) := by decide +kernel
theorem dX12_isSo_104 : decode cX12_isSo 104 = .ok (.iaload, 1) := by decide +kernel
theorem dX12_isSo_105 : decode cX12_isSo 105 = .ok (.aload_n 0, 1) := by decide +kernel
theorem dX12_isSo_106 : decode cX12_isSo 106 = .ok (.getfield 42, 3) := by decide +kernel
theorem dX12_isSo_109 : decode cX12_isSo 109 = .ok (.iload 5, 2) := by decide +kernel
theorem dX12_isSo_111 : decode cX12_isSo 111 = .ok (.iaload, 1) := by decide +kernel
theorem dX12_isSo_112 : decode cX12_isSo 112 = .ok (.isub, 1) := by decide +kernel
theorem dX12_isSo_113 : decode cX12_isSo 113 = .ok (.iastore, 1) := by decide +kernel
theorem dX12_isSo_114 : decode cX12_isSo 114 = .ok (.iinc 5 1, 3) := by decide +kernel
theorem dX12_isSo_117 : decode cX12_isSo 117 = .ok (.goto (-33), 3) := by decide +kernel
theorem dX12_isSo_120 : decode cX12_isSo 120 = .ok (.aload_n 0, 1) := by decide +kernel
theorem dX12_isSo_121 : decode cX12_isSo 121 = .ok (.getfield 7, 3) := by decide +kernel
theorem dX12_isSo_124 : decode cX12_isSo 124 = .ok (.iload_n 2, 1) := by decide +kernel
theorem dX12_isSo_125 : decode cX12_isSo 125 = .ok (.iconst 0, 1) := by decide +kernel
theorem dX12_isSo_126 : decode cX12_isSo 126 = .ok (.iadd, 1) := by decide +kernel
theorem dX12_isSo_127 : decode cX12_isSo 127 = .ok (.aload_n 0, 1) := by decide +kernel
theorem dX12_isSo_128 : decode cX12_isSo 128 = .ok (.getfield 54, 3) := by decide +kernel
theorem dX12_isSo_131 : decode cX12_isSo 131 = .ok (.iload 4, 2) := by decide +kernel
theorem dX12_isSo_133 : decode cX12_isSo 133 = .ok (.iaload, 1) := by decide +kernel
theorem dX12_isSo_134 : decode cX12_isSo 134 = .ok (.iadd, 1) := by decide +kernel
theorem dX12_isSo_135 : decode cX12_isSo 135 = .ok (.dup2, 1) := by decide +kernel
theorem dX12_isSo_136 : decode cX12_isSo 136 = .ok (.iaload, 1) := by decide +kernel
theorem dX12_isSo_137 : decode cX12_isSo 137 = .ok (.iconst 1, 1) := by decide +kernel
theorem dX12_isSo_138 : decode cX12_isSo 138 = .ok (.iadd, 1) := by decide +kernel
theorem dX12_isSo_139 : decode cX12_isSo 139 = .ok (.iastore, 1) := by decide +kernel
theorem dX12_isSo_140 : decode cX12_isSo 140 = .ok (.iinc 4 1, 3) := by decide +kernel
theorem dX12_isSo_143 : decode cX12_isSo 143 = .ok (.goto (-103), 3) := by decide +kernel
theorem dX12_isSo_146 : decode cX12_isSo 146 = .ok (.iload_n 3, 1) := by decide +kernel
theorem dX12_isSo_147 : decode cX12_isSo 147 = .ok (.ireturn, 1) := by decide +kernel
theorem dX12_lay_0 : decode cX12_lay 0 = .ok (.iload_n 1, 1) := by decide +kernel
theorem dX12_lay_1 : decode cX12_lay 1 = .ok (.i2l, 1) := by decide +kernel
theorem dX12_lay_2 : decode cX12_lay 2 = .ok (.lconst 0, 1) := by decide +kernel
theorem dX12_lay_3 : decode cX12_lay 3 = .ok (.lconst 1, 1) := by decide +kernel
theorem dX12_lay_4 : decode cX12_lay 4 = .ok (.invokestatic 62, 3) := by decide +kernel
theorem dX12_lay_7 : decode cX12_lay 7 = .ok (.ifCond .ne 44, 3) := by decide +kernel
theorem dX12_lay_10 : decode cX12_lay 10 = .ok (.iload_n 1, 1) := by decide +kernel
theorem dX12_lay_11 : decode cX12_lay 11 = .ok (.i2l, 1) := by decide +kernel
theorem dX12_lay_12 : decode cX12_lay 12 = .ok (.ldc2_w 252, 3) := by decide +kernel
theorem dX12_lay_15 : decode cX12_lay 15 = .ok (.bipush 9, 2) := by decide +kernel
theorem dX12_lay_17 : decode cX12_lay 17 = .ok (.aload_n 0, 1) := by decide +kernel
theorem dX12_lay_18 : decode cX12_lay 18 = .ok (.getfield 23, 3) := by decide +kernel
theorem dX12_lay_21 : decode cX12_lay 21 = .ok (.iadd, 1) := by decide +kernel
theorem dX12_lay_22 : decode cX12_lay 22 = .ok (.i2l, 1) := by decide +kernel
theorem dX12_lay_23 : decode cX12_lay 23 = .ok (.invokestatic 62, 3) := by decide +kernel
theorem dX12_lay_26 : decode cX12_lay 26 = .ok (.ifCond .ne 25, 3) := by decide +kernel
theorem dX12_lay_29 : decode cX12_lay 29 = .ok (.iload_n 1, 1) := by decide +kernel
theorem dX12_lay_30 : decode cX12_lay 30 = .ok (.i2l, 1) := by decide +kernel
theorem dX12_lay_31 : decode cX12_lay 31 = .ok (.ldc2_w 270, 3) := by decide +kernel
theorem dX12_lay_34 : decode cX12_lay 34 = .ok (.bipush 19, 2) := by decide +kernel
theorem dX12_lay_36 : decode cX12_lay 36 = .ok (.aload_n 0, 1) := by decide +kernel
theorem dX12_lay_37 : decode cX12_lay 37 = .ok (.getfield 23, 3) := by decide +kernel
theorem dX12_lay_40 : decode cX12_lay 40 = .ok (.iadd, 1) := by decide +kernel
theorem dX12_lay_41 : decode cX12_lay 41 = .ok (.i2l, 1) := by decide +kernel
theorem dX12_lay_42 : decode cX12_lay 42 = .ok (.invokestatic 62, 3) := by decide +kernel
theorem dX12_lay_45 : decode cX12_lay 45 = .ok (.ifCond .ne 6, 3) := by decide +kernel
theorem dX12_lay_48 : decode cX12_lay 48 = .ok (.bipush (-3), 2) := by decide +kernel
theorem dX12_lay_50 : decode cX12_lay 50 = .ok (.ireturn, 1) := by decide +kernel
theorem dX12_lay_51 : decode cX12_lay 51 = .ok (.aload_n 0, 1) := by decide +kernel
theorem dX12_lay_52 : decode cX12_lay 52 = .ok (.getfield 23, 3) := by decide +kernel
theorem dX12_lay_55 : decode cX12_lay 55 = .ok (.iconst 4, 1) := by decide +kernel
theorem dX12_lay_56 : decode cX12_lay 56 = .ok (.if_icmp .le 6, 3) := by decide +kernel
theorem dX12_lay_59 : decode cX12_lay 59 = .ok (.bipush (-4), 2) := by decide +kernel
theorem dX12_lay_61 : decode cX12_lay 61 = .ok (.ireturn, 1) := by decide +kernel
theorem dX12_lay_62 : decode cX12_lay 62 = .ok (.iconst 0, 1) := by decide +kernel
theorem dX12_lay_63 : decode cX12_lay 63 = .ok (.istore_n 2, 1) := by decide +kernel
theorem dX12_lay_64 : decode cX12_lay 64 = .ok (.iconst (-1), 1) := by decide +kernel
theorem dX12_lay_65 : decode cX12_lay 65 = .ok (.istore_n 3, 1) := by decide +kernel
theorem dX12_lay_66 : decode cX12_lay 66 = .ok (.iconst (-1), 1) := by decide +kernel
theorem dX12_lay_67 : decode cX12_lay 67 = .ok (.istore 4, 2) := by decide +kernel
theorem dX12_lay_69 : decode cX12_lay 69 = .ok (.iconst (-1), 1) := by decide +kernel
theorem dX12_lay_70 : decode cX12_lay 70 = .ok (.istore 5, 2) := by decide +kernel
theorem dX12_lay_72 : decode cX12_lay 72 = .ok (.iconst 0, 1) := by decide +kernel
theorem dX12_lay_73 : decode cX12_lay 73 = .ok (.istore 6, 2) := by decide +kernel
theorem dX12_lay_75 : decode cX12_lay 75 = .ok (.iload 6, 2) := by decide +kernel
theorem dX12_lay_77 : decode cX12_lay 77 = .ok (.iconst 1, 1) := by decide +kernel
theorem dX12_lay_78 : decode cX12_lay 78 = .ok (.iconst 2, 1) := by decide +kernel
theorem dX12_lay_79 : decode cX12_lay 79 = .ok (.aload_n 0, 1) := by decide +kernel
theorem dX12_lay_80 : decode cX12_lay 80 = .ok (.getfield 23, 3) := by decide +kernel
theorem dX12_lay_83 : decode cX12_lay 83 = .ok (.imul, 1) := by decide +kernel
theorem dX12_lay_84 : decode cX12_lay 84 = .ok (.ishl, 1) := by decide +kernel
theorem dX12_lay_85 : decode cX12_lay 85 = .ok (.if_icmp .ge 90, 3) := by decide +kernel
theorem dX12_lay_88 : decode cX12_lay 88 = .ok (.aload_n 0, 1) := by decide +kernel
theorem dX12_lay_89 : decode cX12_lay 89 = .ok (.iload 6, 2) := by decide +kernel
theorem dX12_lay_91 : decode cX12_lay 91 = .ok (.invokevirtual 272, 3) := by decide +kernel
theorem dX12_lay_94 : decode cX12_lay 94 = .ok (.ifCond .eq 75, 3) := by decide +kernel
theorem dX12_lay_97 : decode cX12_lay 97 = .ok (.iload_n 1, 1) := by decide +kernel
theorem dX12_lay_98 : decode cX12_lay 98 = .ok (.bipush 10, 2) := by decide +kernel
theorem dX12_lay_100 : decode cX12_lay 100 = .ok (.if_icmp .ge 7, 3) := by decide +kernel
theorem dX12_lay_103 : decode cX12_lay 103 = .ok (.iconst 0, 1) := by decide +kernel
theorem dX12_lay_104 : decode cX12_lay 104 = .ok (.goto 13, 3) := by decide +kernel
theorem dX12_lay_107 : decode cX12_lay 107 = .ok (.aload_n 0, 1) := by decide +kernel
theorem dX12_lay_108 : decode cX12_lay 108 = .ok (.iload 6, 2) := by decide +kernel
theorem dX12_lay_110 : decode cX12_lay 110 = .ok (.iload_n 1, 1) := by decide +kernel
theorem dX12_lay_111 : decode cX12_lay 111 = .ok (.bipush 10, 2) := by decide +kernel
theorem dX12_lay_113 : decode cX12_lay 113 = .ok (.irem, 1) := by decide +kernel
theorem dX12_lay_114 : decode cX12_lay 114 = .ok (.invokevirtual 267, 3) := by decide +kernel
theorem dX12_lay_117 : decode cX12_lay 117 = .ok (.istore 7, 2) := by decide +kernel
theorem dX12_lay_119 : decode cX12_lay 119 = .ok (.iload_n 2, 1) := by decide +kernel
theorem dX12_lay_120 : decode cX12_lay 120 = .ok (.ifCond .ne 8, 3) := by decide +kernel
theorem dX12_lay_123 : decode cX12_lay 123 = .ok (.iload 6, 2) := by decide +kernel
theorem dX12_lay_125 : decode cX12_lay 125 = .ok (.goto 4, 3) := by decide +kernel
theorem dX12_lay_128 : decode cX12_lay 128 = .ok (.iload_n 3, 1) := by decide +kernel
theorem dX12_lay_129 : decode cX12_lay 129 = .ok (.istore_n 3, 1) := by decide +kernel
theorem dX12_lay_130 : decode cX12_lay 130 = .ok (.iload_n 2, 1) := by decide +kernel
theorem dX12_lay_131 : decode cX12_lay 131 = .ok (.ifCond .eq 10, 3) := by decide +kernel
theorem dX12_lay_134 : decode cX12_lay 134 = .ok (.iload 7, 2) := by decide +kernel
theorem dX12_lay_136 : decode cX12_lay 136 = .ok (.iload 4, 2) := by decide +kernel
theorem dX12_lay_138 : decode cX12_lay 138 = .ok (.if_icmp .ge 8, 3) := by decide +kernel
theorem dX12_lay_141 : decode cX12_lay 141 = .ok (.iload 7, 2) := by decide +kernel
theorem dX12_lay_143 : decode cX12_lay 143 = .ok (.goto 5, 3) := by decide +kernel
theorem dX12_lay_146 : decode cX12_lay 146 = .ok (.iload 4, 2) := by decide +kernel
theorem dX12_lay_148 : decode cX12_lay 148 = .ok (.istore 4, 2) := by decide +kernel
theorem dX12_lay_150 : decode cX12_lay 150 = .ok (.iload 7, 2) := by decide +kernel
theorem dX12_lay_152 : decode cX12_lay 152 = .ok (.iload 5, 2) := by decide +kernel
theorem dX12_lay_154 : decode cX12_lay 154 = .ok (.if_icmp .le 8, 3) := by decide +kernel
theorem dX12_lay_157 : decode cX12_lay 157 = .ok (.iload 7, 2) := by decide +kernel
theorem dX12_lay_159 : decode cX12_lay 159 = .ok (.goto 5, 3) := by decide +kernel
theorem dX12_lay_162 : decode cX12_lay 162 = .ok (.iload 5, 2) := by decide +kernel
theorem dX12_lay_164 : decode cX12_lay 164 = .ok (.istore 5, 2) := by decide +kernel
theorem dX12_lay_166 : decode cX12_lay 166 = .ok (.iinc 2 1, 3) := by decide +kernel
theorem dX12_lay_169 : decode cX12_lay 169 = .ok (.iinc 6 1, 3) := by decide +kernel
theorem dX12_lay_172 : decode cX12_lay 172 = .ok (.goto (-97), 3) := by decide +kernel
theorem dX12_lay_175 : decode cX12_lay 175 = .ok (.iload_n 1, 1) := by decide +kernel
theorem dX12_lay_176 : decode cX12_lay 176 = .ok (.ifCond .ne 7, 3) := by decide +kernel
theorem dX12_lay_179 : decode cX12_lay 179 = .ok (.iload_n 2, 1) := by decide +kernel
theorem dX12_lay_180 : decode cX12_lay 180 = .ok (.goto 25, 3) := by decide +kernel
theorem dX12_lay_183 : decode cX12_lay 183 = .ok (.iload_n 1, 1) := by decide +kernel
theorem dX12_lay_184 : decode cX12_lay 184 = .ok (.iconst 1, 1) := by decide +kernel
theorem dX12_lay_185 : decode cX12_lay 185 = .ok (.if_icmp .ne 7, 3) := by decide +kernel
theorem dX12_lay_188 : decode cX12_lay 188 = .ok (.iload_n 3, 1) := by decide +kernel
theorem dX12_lay_189 : decode cX12_lay 189 = .ok (.goto 16, 3) := by decide +kernel
theorem dX12_lay_192 : decode cX12_lay 192 = .ok (.iload_n 1, 1) := by decide +kernel
theorem dX12_lay_193 : decode cX12_lay 193 = .ok (.bipush 20, 2) := by decide +kernel
theorem dX12_lay_195 : decode cX12_lay 195 = .ok (.if_icmp .ge 8, 3) := by decide +kernel
theorem dX12_lay_198 : decode cX12_lay 198 = .ok (.iload 4, 2) := by decide +kernel
theorem dX12_lay_200 : decode cX12_lay 200 = .ok (.goto 5, 3) := by decide +kernel
theorem dX12_lay_203 : decode cX12_lay 203 = .ok (.iload 5, 2) := by decide +kernel
theorem dX12_lay_205 : decode cX12_lay 205 = .ok (.ireturn, 1) := by decide +kernel
theorem dX12_keep_0 : decode cX12_keep 0 = .ok (.iload_n 1, 1) := by decide +kernel
theorem dX12_keep_1 : decode cX12_keep 1 = .ok (.i2l, 1) := by decide +kernel
theorem dX12_keep_2 : decode cX12_keep 2 = .ok (.lconst 0, 1) := by decide +kernel
theorem dX12_keep_3 : decode cX12_keep 3 = .ok (.lconst 1, 1) := by decide +kernel
theorem dX12_keep_4 : decode cX12_keep 4 = .ok (.invokestatic 62, 3) := by decide +kernel
theorem dX12_keep_7 : decode cX12_keep 7 = .ok (.ifCond .ne 6, 3) := by decide +kernel
theorem dX12_keep_10 : decode cX12_keep 10 = .ok (.bipush (-2), 2) := by decide +kernel
theorem dX12_keep_12 : decode cX12_keep 12 = .ok (.ireturn, 1) := by decide +kernel
theorem dX12_keep_13 : decode cX12_keep 13 = .ok (.aload_n 0, 1) := by decide +kernel
theorem dX12_keep_14 : decode cX12_keep 14 = .ok (.iconst 0, 1) := by decide +kernel
theorem dX12_keep_15 : decode cX12_keep 15 = .ok (.iconst 1, 1) := by decide +kernel
theorem dX12_keep_16 : decode cX12_keep 16 = .ok (.iload_n 1, 1) := by decide +kernel
theorem dX12_keep_17 : decode cX12_keep 17 = .ok (.iadd, 1) := by decide +kernel
theorem dX12_keep_18 : decode cX12_keep 18 = .ok (.invokevirtual 221, 3) := by decide +kernel
theorem dX12_keep_21 : decode cX12_keep 21 = .ok (.aload_n 0, 1) := by decide +kernel
theorem dX12_keep_22 : decode cX12_keep 22 = .ok (.getfield 13, 3) := by decide +kernel
theorem dX12_keep_25 : decode cX12_keep 25 = .ok (.iload_n 1, 1) := by decide +kernel
theorem dX12_keep_26 : decode cX12_keep 26 = .ok (.iconst 1, 1) := by decide +kernel
theorem dX12_keep_27 : decode cX12_keep 27 = .ok (.bastore, 1) := by decide +kernel
theorem dX12_keep_28 : decode cX12_keep 28 = .ok (.aload_n 0, 1) := by decide +kernel
theorem dX12_keep_29 : decode cX12_keep 29 = .ok (.getfield 7, 3) := by decide +kernel
theorem dX12_keep_32 : decode cX12_keep 32 = .ok (.bipush 30, 2) := by decide +kernel
theorem dX12_keep_34 : decode cX12_keep 34 = .ok (.iaload, 1) := by decide +kernel
theorem dX12_keep_35 : decode cX12_keep 35 = .ok (.ireturn, 1) := by decide +kernel
theorem dX12_back_0 : decode cX12_back 0 = .ok (.iload_n 1, 1) := by decide +kernel
theorem dX12_back_1 : decode cX12_back 1 = .ok (.i2l, 1) := by decide +kernel
theorem dX12_back_2 : decode cX12_back 2 = .ok (.lconst 0, 1) := by decide +kernel
theorem dX12_back_3 : decode cX12_back 3 = .ok (.lconst 1, 1) := by decide +kernel
theorem dX12_back_4 : decode cX12_back 4 = .ok (.invokestatic 62, 3) := by decide +kernel
theorem dX12_back_7 : decode cX12_back 7 = .ok (.ifCond .ne 6, 3) := by decide +kernel
theorem dX12_back_10 : decode cX12_back 10 = .ok (.bipush (-2), 2) := by decide +kernel
theorem dX12_back_12 : decode cX12_back 12 = .ok (.ireturn, 1) := by decide +kernel
theorem dX12_back_13 : decode cX12_back 13 = .ok (.aload_n 0, 1) := by decide +kernel
theorem dX12_back_14 : decode cX12_back 14 = .ok (.getfield 13, 3) := by decide +kernel
theorem dX12_back_17 : decode cX12_back 17 = .ok (.iload_n 1, 1) := by decide +kernel
theorem dX12_back_18 : decode cX12_back 18 = .ok (.baload, 1) := by decide +kernel
theorem dX12_back_19 : decode cX12_back 19 = .ok (.ifCond .ne 6, 3) := by decide +kernel
theorem dX12_back_22 : decode cX12_back 22 = .ok (.bipush (-4), 2) := by decide +kernel
theorem dX12_back_24 : decode cX12_back 24 = .ok (.ireturn, 1) := by decide +kernel
theorem dX12_back_25 : decode cX12_back 25 = .ok (.aload_n 0, 1) := by decide +kernel
theorem dX12_back_26 : decode cX12_back 26 = .ok (.iconst 1, 1) := by decide +kernel
theorem dX12_back_27 : decode cX12_back 27 = .ok (.iload_n 1, 1) := by decide +kernel
theorem dX12_back_28 : decode cX12_back 28 = .ok (.iadd, 1) := by decide +kernel
theorem dX12_back_29 : decode cX12_back 29 = .ok (.iconst 0, 1) := by decide +kernel
theorem dX12_back_30 : decode cX12_back 30 = .ok (.invokevirtual 221, 3) := by decide +kernel
theorem dX12_back_33 : decode cX12_back 33 = .ok (.aload_n 0, 1) := by decide +kernel
theorem dX12_back_34 : decode cX12_back 34 = .ok (.getfield 7, 3) := by decide +kernel
theorem dX12_back_37 : decode cX12_back 37 = .ok (.bipush 30, 2) := by decide +kernel
theorem dX12_back_39 : decode cX12_back 39 = .ok (.iaload, 1) := by decide +kernel
theorem dX12_back_40 : decode cX12_back 40 = .ok (.ireturn, 1) := by decide +kernel
theorem dX12_worthThere_0 : decode cX12_worthThere 0 = .ok (.iconst 0, 1) := by decide +kernel
theorem dX12_worthThere_1 : decode cX12_worthThere 1 = .ok (.istore_n 1, 1) := by decide +kernel
theorem dX12_worthThere_2 : decode cX12_worthThere 2 = .ok (.iconst 0, 1) := by decide +kernel
theorem dX12_worthThere_3 : decode cX12_worthThere 3 = .ok (.istore_n 2, 1) := by decide +kernel
theorem dX12_worthThere_4 : decode cX12_worthThere 4 = .ok (.iload_n 2, 1) := by decide +kernel
theorem dX12_worthThere_5 : decode cX12_worthThere 5 = .ok (.aload_n 0, 1) := by decide +kernel
theorem dX12_worthThere_6 : decode cX12_worthThere 6 = .ok (.getfield 23, 3) := by decide +kernel
theorem dX12_worthThere_9 : decode cX12_worthThere 9 = .ok (.if_icmp .ge 27, 3) := by decide +kernel
theorem dX12_worthThere_12 : decode cX12_worthThere 12 = .ok (.iload_n 1, 1) := by decide +kernel
theorem dX12_worthThere_13 : decode cX12_worthThere 13 = .ok (.aload_n 0, 1) := by decide +kernel
theorem dX12_worthThere_14 : decode cX12_worthThere 14 = .ok (.getfield 7, 3) := by decide +kernel
theorem dX12_worthThere_17 : decode cX12_worthThere 17 = .ok (.iconst 0, 1) := by decide +kernel
theorem dX12_worthThere_18 : decode cX12_worthThere 18 = .ok (.iload_n 2, 1) := by decide +kernel
theorem dX12_worthThere_19 : decode cX12_worthThere 19 = .ok (.iadd, 1) := by decide +kernel
theorem dX12_worthThere_20 : decode cX12_worthThere 20 = .ok (.iaload, 1) := by decide +kernel
theorem dX12_worthThere_21 : decode cX12_worthThere 21 = .ok (.aload_n 0, 1) := by decide +kernel
theorem dX12_worthThere_22 : decode cX12_worthThere 22 = .ok (.getfield 27, 3) := by decide +kernel
theorem dX12_worthThere_25 : decode cX12_worthThere 25 = .ok (.iload_n 2, 1) := by decide +kernel
theorem dX12_worthThere_26 : decode cX12_worthThere 26 = .ok (.iaload, 1) := by decide +kernel
theorem dX12_worthThere_27 : decode cX12_worthThere 27 = .ok (.imul, 1) := by decide +kernel
theorem dX12_worthThere_28 : decode cX12_worthThere 28 = .ok (.iadd, 1) := by decide +kernel
theorem dX12_worthThere_29 : decode cX12_worthThere 29 = .ok (.istore_n 1, 1) := by decide +kernel
theorem dX12_worthThere_30 : decode cX12_worthThere 30 = .ok (.iinc 2 1, 3) := by decide +kernel
theorem dX12_worthThere_33 : decode cX12_worthThere 33 = .ok (.goto (-29), 3) := by decide +kernel
theorem dX12_worthThere_36 : decode cX12_worthThere 36 = .ok (.iload_n 1, 1) := by decide +kernel
theorem dX12_worthThere_37 : decode cX12_worthThere 37 = .ok (.ireturn, 1) := by decide +kernel
theorem dX12_count_0 : decode cX12_count 0 = .ok (.iload_n 1, 1) := by decide +kernel
theorem dX12_count_1 : decode cX12_count 1 = .ok (.tableswitch 118 0 7 #[47, 52, 57, 62, 67, 75, 80, 85], 47) := by decide +kernel
theorem dX12_count_48 : decode cX12_count 48 = .ok (.aload_n 0, 1) := by decide +kernel
theorem dX12_count_49 : decode cX12_count 49 = .ok (.getfield 23, 3) := by decide +kernel
theorem dX12_count_52 : decode cX12_count 52 = .ok (.ireturn, 1) := by decide +kernel
theorem dX12_count_53 : decode cX12_count 53 = .ok (.aload_n 0, 1) := by decide +kernel
theorem dX12_count_54 : decode cX12_count 54 = .ok (.invokevirtual 275, 3) := by decide +kernel
theorem dX12_count_57 : decode cX12_count 57 = .ok (.ireturn, 1) := by decide +kernel
theorem dX12_count_58 : decode cX12_count 58 = .ok (.aload_n 0, 1) := by decide +kernel
theorem dX12_count_59 : decode cX12_count 59 = .ok (.getfield 160, 3) := by decide +kernel
theorem dX12_count_62 : decode cX12_count 62 = .ok (.ireturn, 1) := by decide +kernel
theorem dX12_count_63 : decode cX12_count 63 = .ok (.aload_n 0, 1) := by decide +kernel
theorem dX12_count_64 : decode cX12_count 64 = .ok (.getfield 147, 3) := by decide +kernel
theorem dX12_count_67 : decode cX12_count 67 = .ok (.ireturn, 1) := by decide +kernel
theorem dX12_count_68 : decode cX12_count 68 = .ok (.aload_n 0, 1) := by decide +kernel
theorem dX12_count_69 : decode cX12_count 69 = .ok (.getfield 7, 3) := by decide +kernel
theorem dX12_count_72 : decode cX12_count 72 = .ok (.bipush 30, 2) := by decide +kernel
theorem dX12_count_74 : decode cX12_count 74 = .ok (.iaload, 1) := by decide +kernel
theorem dX12_count_75 : decode cX12_count 75 = .ok (.ireturn, 1) := by decide +kernel
theorem dX12_count_76 : decode cX12_count 76 = .ok (.aload_n 0, 1) := by decide +kernel
theorem dX12_count_77 : decode cX12_count 77 = .ok (.getfield 172, 3) := by decide +kernel
theorem dX12_count_80 : decode cX12_count 80 = .ok (.ireturn, 1) := by decide +kernel
theorem dX12_count_81 : decode cX12_count 81 = .ok (.aload_n 0, 1) := by decide +kernel
theorem dX12_count_82 : decode cX12_count 82 = .ok (.getfield 66, 3) := by decide +kernel
theorem dX12_count_85 : decode cX12_count 85 = .ok (.ireturn, 1) := by decide +kernel
theorem dX12_count_86 : decode cX12_count 86 = .ok (.aload_n 0, 1) := by decide +kernel
theorem dX12_count_87 : decode cX12_count 87 = .ok (.invokevirtual 275, 3) := by decide +kernel
theorem dX12_count_90 : decode cX12_count 90 = .ok (.aload_n 0, 1) := by decide +kernel
theorem dX12_count_91 : decode cX12_count 91 = .ok (.iconst 0, 1) := by decide +kernel
theorem dX12_count_92 : decode cX12_count 92 = .ok (.iconst 0, 1) := by decide +kernel
theorem dX12_count_93 : decode cX12_count 93 = .ok (.invokevirtual 186, 3) := by decide +kernel
theorem dX12_count_96 : decode cX12_count 96 = .ok (.iadd, 1) := by decide +kernel
theorem dX12_count_97 : decode cX12_count 97 = .ok (.aload_n 0, 1) := by decide +kernel
theorem dX12_count_98 : decode cX12_count 98 = .ok (.iconst 0, 1) := by decide +kernel
theorem dX12_count_99 : decode cX12_count 99 = .ok (.iconst 1, 1) := by decide +kernel
theorem dX12_count_100 : decode cX12_count 100 = .ok (.invokevirtual 186, 3) := by decide +kernel
theorem dX12_count_103 : decode cX12_count 103 = .ok (.iadd, 1) := by decide +kernel
theorem dX12_count_104 : decode cX12_count 104 = .ok (.aload_n 0, 1) := by decide +kernel
theorem dX12_count_105 : decode cX12_count 105 = .ok (.iconst 0, 1) := by decide +kernel
theorem dX12_count_106 : decode cX12_count 106 = .ok (.iconst 2, 1) := by decide +kernel
theorem dX12_count_107 : decode cX12_count 107 = .ok (.invokevirtual 186, 3) := by decide +kernel
theorem dX12_count_110 : decode cX12_count 110 = .ok (.iadd, 1) := by decide +kernel
theorem dX12_count_111 : decode cX12_count 111 = .ok (.aload_n 0, 1) := by decide +kernel
theorem dX12_count_112 : decode cX12_count 112 = .ok (.iconst 0, 1) := by decide +kernel
theorem dX12_count_113 : decode cX12_count 113 = .ok (.iconst 3, 1) := by decide +kernel
theorem dX12_count_114 : decode cX12_count 114 = .ok (.invokevirtual 186, 3) := by decide +kernel
theorem dX12_count_117 : decode cX12_count 117 = .ok (.iadd, 1) := by decide +kernel
theorem dX12_count_118 : decode cX12_count 118 = .ok (.ireturn, 1) := by decide +kernel
theorem dX12_count_119 : decode cX12_count 119 = .ok (.bipush (-3), 2) := by decide +kernel
theorem dX12_count_121 : decode cX12_count 121 = .ok (.ireturn, 1) := by decide +kernel
end
section
theorem dL_law_0 : decode cL_law 0 = .ok (.new 7, 3) := by decide +kernel
theorem dL_law_3 : decode cL_law 3 = .ok (.dup, 1) := by decide +kernel
theorem dL_law_4 : decode cL_law 4 = .ok (.invokespecial 9, 3) := by decide +kernel
theorem dL_law_7 : decode cL_law 7 = .ok (.astore_n 1, 1) := by decide +kernel
theorem dL_law_8 : decode cL_law 8 = .ok (.new 10, 3) := by decide +kernel
theorem dL_law_11 : decode cL_law 11 = .ok (.dup, 1) := by decide +kernel
theorem dL_law_12 : decode cL_law 12 = .ok (.invokespecial 12, 3) := by decide +kernel
theorem dL_law_15 : decode cL_law 15 = .ok (.astore_n 2, 1) := by decide +kernel
theorem dL_law_16 : decode cL_law 16 = .ok (.iconst 0, 1) := by decide +kernel
theorem dL_law_17 : decode cL_law 17 = .ok (.istore_n 3, 1) := by decide +kernel
theorem dL_law_18 : decode cL_law 18 = .ok (.iload_n 3, 1) := by decide +kernel
theorem dL_law_19 : decode cL_law 19 = .ok (.aload_n 0, 1) := by decide +kernel
theorem dL_law_20 : decode cL_law 20 = .ok (.arraylength, 1) := by decide +kernel
theorem dL_law_21 : decode cL_law 21 = .ok (.iconst 4, 1) := by decide +kernel
theorem dL_law_22 : decode cL_law 22 = .ok (.isub, 1) := by decide +kernel
theorem dL_law_23 : decode cL_law 23 = .ok (.if_icmp .gt 797, 3) := by decide +kernel
theorem dL_law_26 : decode cL_law 26 = .ok (.aload_n 0, 1) := by decide +kernel
theorem dL_law_27 : decode cL_law 27 = .ok (.iload_n 3, 1) := by decide +kernel
theorem dL_law_28 : decode cL_law 28 = .ok (.iaload, 1) := by decide +kernel
theorem dL_law_29 : decode cL_law 29 = .ok (.bipush 31, 2) := by decide +kernel
theorem dL_law_31 : decode cL_law 31 = .ok (.iand, 1) := by decide +kernel
theorem dL_law_32 : decode cL_law 32 = .ok (.tableswitch 782 0 24 #[116, 179, 192, 205, 218, 251, 284, 317, 350, 373, 406, 429, 452, 485, 508, 531, 564, 608, 621, 644, 677, 690, 713, 736, 759], 116) := by decide +kernel
theorem dL_law_148 : decode cL_law 148 = .ok (.aload_n 1, 1) := by decide +kernel
theorem dL_law_149 : decode cL_law 149 = .ok (.aload_n 0, 1) := by decide +kernel
theorem dL_law_150 : decode cL_law 150 = .ok (.iload_n 3, 1) := by decide +kernel
theorem dL_law_151 : decode cL_law 151 = .ok (.iconst 1, 1) := by decide +kernel
theorem dL_law_152 : decode cL_law 152 = .ok (.iadd, 1) := by decide +kernel
theorem dL_law_153 : decode cL_law 153 = .ok (.iaload, 1) := by decide +kernel
theorem dL_law_154 : decode cL_law 154 = .ok (.i2l, 1) := by decide +kernel
theorem dL_law_155 : decode cL_law 155 = .ok (.bipush 32, 2) := by decide +kernel
theorem dL_law_157 : decode cL_law 157 = .ok (.lshl, 1) := by decide +kernel
theorem dL_law_158 : decode cL_law 158 = .ok (.aload_n 0, 1) := by decide +kernel
theorem dL_law_159 : decode cL_law 159 = .ok (.iload_n 3, 1) := by decide +kernel
theorem dL_law_160 : decode cL_law 160 = .ok (.iconst 2, 1) := by decide +kernel
theorem dL_law_161 : decode cL_law 161 = .ok (.iadd, 1) := by decide +kernel
theorem dL_law_162 : decode cL_law 162 = .ok (.iaload, 1) := by decide +kernel
theorem dL_law_163 : decode cL_law 163 = .ok (.i2l, 1) := by decide +kernel
theorem dL_law_164 : decode cL_law 164 = .ok (.ldc2_w 13, 3) := by decide +kernel
theorem dL_law_167 : decode cL_law 167 = .ok (.land, 1) := by decide +kernel
theorem dL_law_168 : decode cL_law 168 = .ok (.lor, 1) := by decide +kernel
theorem dL_law_169 : decode cL_law 169 = .ok (.aload_n 0, 1) := by decide +kernel
theorem dL_law_170 : decode cL_law 170 = .ok (.iload_n 3, 1) := by decide +kernel
theorem dL_law_171 : decode cL_law 171 = .ok (.iconst 3, 1) := by decide +kernel
theorem dL_law_172 : decode cL_law 172 = .ok (.iadd, 1) := by decide +kernel
theorem dL_law_173 : decode cL_law 173 = .ok (.iaload, 1) := by decide +kernel
theorem dL_law_174 : decode cL_law 174 = .ok (.invokevirtual 15, 3) := by decide +kernel
theorem dL_law_177 : decode cL_law 177 = .ok (.aload_n 2, 1) := by decide +kernel
theorem dL_law_178 : decode cL_law 178 = .ok (.aload_n 0, 1) := by decide +kernel
theorem dL_law_179 : decode cL_law 179 = .ok (.iload_n 3, 1) := by decide +kernel
theorem dL_law_180 : decode cL_law 180 = .ok (.iconst 1, 1) := by decide +kernel
theorem dL_law_181 : decode cL_law 181 = .ok (.iadd, 1) := by decide +kernel
theorem dL_law_182 : decode cL_law 182 = .ok (.iaload, 1) := by decide +kernel
theorem dL_law_183 : decode cL_law 183 = .ok (.i2l, 1) := by decide +kernel
theorem dL_law_184 : decode cL_law 184 = .ok (.bipush 32, 2) := by decide +kernel
theorem dL_law_186 : decode cL_law 186 = .ok (.lshl, 1) := by decide +kernel
theorem dL_law_187 : decode cL_law 187 = .ok (.aload_n 0, 1) := by decide +kernel
theorem dL_law_188 : decode cL_law 188 = .ok (.iload_n 3, 1) := by decide +kernel
theorem dL_law_189 : decode cL_law 189 = .ok (.iconst 2, 1) := by decide +kernel
theorem dL_law_190 : decode cL_law 190 = .ok (.iadd, 1) := by decide +kernel
theorem dL_law_191 : decode cL_law 191 = .ok (.iaload, 1) := by decide +kernel
theorem dL_law_192 : decode cL_law 192 = .ok (.i2l, 1) := by decide +kernel
theorem dL_law_193 : decode cL_law 193 = .ok (.ldc2_w 13, 3) := by decide +kernel
theorem dL_law_196 : decode cL_law 196 = .ok (.land, 1) := by decide +kernel
theorem dL_law_197 : decode cL_law 197 = .ok (.lor, 1) := by decide +kernel
theorem dL_law_198 : decode cL_law 198 = .ok (.aload_n 0, 1) := by decide +kernel
theorem dL_law_199 : decode cL_law 199 = .ok (.iload_n 3, 1) := by decide +kernel
theorem dL_law_200 : decode cL_law 200 = .ok (.iconst 3, 1) := by decide +kernel
theorem dL_law_201 : decode cL_law 201 = .ok (.iadd, 1) := by decide +kernel
theorem dL_law_202 : decode cL_law 202 = .ok (.iaload, 1) := by decide +kernel
theorem dL_law_203 : decode cL_law 203 = .ok (.invokevirtual 19, 3) := by decide +kernel
theorem dL_law_206 : decode cL_law 206 = .ok (.if_icmp .eq 608, 3) := by decide +kernel
theorem dL_law_209 : decode cL_law 209 = .ok (.iconst 0, 1) := by decide +kernel
theorem dL_law_210 : decode cL_law 210 = .ok (.ireturn, 1) := by decide +kernel
theorem dL_law_211 : decode cL_law 211 = .ok (.aload_n 1, 1) := by decide +kernel
theorem dL_law_212 : decode cL_law 212 = .ok (.invokevirtual 20, 3) := by decide +kernel
theorem dL_law_215 : decode cL_law 215 = .ok (.aload_n 2, 1) := by decide +kernel
theorem dL_law_216 : decode cL_law 216 = .ok (.invokevirtual 24, 3) := by decide +kernel
theorem dL_law_219 : decode cL_law 219 = .ok (.if_icmp .eq 595, 3) := by decide +kernel
theorem dL_law_222 : decode cL_law 222 = .ok (.iconst 0, 1) := by decide +kernel
theorem dL_law_223 : decode cL_law 223 = .ok (.ireturn, 1) := by decide +kernel
theorem dL_law_224 : decode cL_law 224 = .ok (.aload_n 1, 1) := by decide +kernel
theorem dL_law_225 : decode cL_law 225 = .ok (.invokevirtual 25, 3) := by decide +kernel
theorem dL_law_228 : decode cL_law 228 = .ok (.aload_n 2, 1) := by decide +kernel
theorem dL_law_229 : decode cL_law 229 = .ok (.invokevirtual 28, 3) := by decide +kernel
theorem dL_law_232 : decode cL_law 232 = .ok (.if_icmp .eq 582, 3) := by decide +kernel
theorem dL_law_235 : decode cL_law 235 = .ok (.iconst 0, 1) := by decide +kernel
theorem dL_law_236 : decode cL_law 236 = .ok (.ireturn, 1) := by decide +kernel
theorem dL_law_237 : decode cL_law 237 = .ok (.aload_n 1, 1) := by decide +kernel
theorem dL_law_238 : decode cL_law 238 = .ok (.invokevirtual 29, 3) := by decide +kernel
theorem dL_law_241 : decode cL_law 241 = .ok (.aload_n 2, 1) := by decide +kernel
theorem dL_law_242 : decode cL_law 242 = .ok (.invokevirtual 32, 3) := by decide +kernel
theorem dL_law_245 : decode cL_law 245 = .ok (.if_icmp .eq 569, 3) := by decide +kernel
theorem dL_law_248 : decode cL_law 248 = .ok (.iconst 0, 1) := by decide +kernel
theorem dL_law_249 : decode cL_law 249 = .ok (.ireturn, 1) := by decide +kernel
theorem dL_law_250 : decode cL_law 250 = .ok (.aload_n 1, 1) := by decide +kernel
theorem dL_law_251 : decode cL_law 251 = .ok (.aload_n 0, 1) := by decide +kernel
theorem dL_law_252 : decode cL_law 252 = .ok (.iload_n 3, 1) := by decide +kernel
theorem dL_law_253 : decode cL_law 253 = .ok (.iconst 1, 1) := by decide +kernel
theorem dL_law_254 : decode cL_law 254 = .ok (.iadd, 1) := by decide +kernel
theorem dL_law_255 : decode cL_law 255 = .ok (.iaload, 1) := by decide +kernel
theorem dL_law_256 : decode cL_law 256 = .ok (.aload_n 0, 1) := by decide +kernel
theorem dL_law_257 : decode cL_law 257 = .ok (.iload_n 3, 1) := by decide +kernel
theorem dL_law_258 : decode cL_law 258 = .ok (.iconst 2, 1) := by decide +kernel
theorem dL_law_259 : decode cL_law 259 = .ok (.iadd, 1) := by decide +kernel
theorem dL_law_260 : decode cL_law 260 = .ok (.iaload, 1) := by decide +kernel
theorem dL_law_261 : decode cL_law 261 = .ok (.invokevirtual 33, 3) := by decide +kernel
theorem dL_law_264 : decode cL_law 264 = .ok (.aload_n 2, 1) := by decide +kernel
theorem dL_law_265 : decode cL_law 265 = .ok (.aload_n 0, 1) := by decide +kernel
theorem dL_law_266 : decode cL_law 266 = .ok (.iload_n 3, 1) := by decide +kernel
theorem dL_law_267 : decode cL_law 267 = .ok (.iconst 1, 1) := by decide +kernel
theorem dL_law_268 : decode cL_law 268 = .ok (.iadd, 1) := by decide +kernel
theorem dL_law_269 : decode cL_law 269 = .ok (.iaload, 1) := by decide +kernel
theorem dL_law_270 : decode cL_law 270 = .ok (.aload_n 0, 1) := by decide +kernel
theorem dL_law_271 : decode cL_law 271 = .ok (.iload_n 3, 1) := by decide +kernel
theorem dL_law_272 : decode cL_law 272 = .ok (.iconst 2, 1) := by decide +kernel
theorem dL_law_273 : decode cL_law 273 = .ok (.iadd, 1) := by decide +kernel
theorem dL_law_274 : decode cL_law 274 = .ok (.iaload, 1) := by decide +kernel
theorem dL_law_275 : decode cL_law 275 = .ok (.invokevirtual 37, 3) := by decide +kernel
theorem dL_law_278 : decode cL_law 278 = .ok (.if_icmp .eq 536, 3) := by decide +kernel
theorem dL_law_281 : decode cL_law 281 = .ok (.iconst 0, 1) := by decide +kernel
theorem dL_law_282 : decode cL_law 282 = .ok (.ireturn, 1) := by decide +kernel
theorem dL_law_283 : decode cL_law 283 = .ok (.aload_n 1, 1) := by decide +kernel
theorem dL_law_284 : decode cL_law 284 = .ok (.aload_n 0, 1) := by decide +kernel
theorem dL_law_285 : decode cL_law 285 = .ok (.iload_n 3, 1) := by decide +kernel
theorem dL_law_286 : decode cL_law 286 = .ok (.iconst 1, 1) := by decide +kernel
theorem dL_law_287 : decode cL_law 287 = .ok (.iadd, 1) := by decide +kernel
theorem dL_law_288 : decode cL_law 288 = .ok (.iaload, 1) := by decide +kernel
theorem dL_law_289 : decode cL_law 289 = .ok (.aload_n 0, 1) := by decide +kernel
theorem dL_law_290 : decode cL_law 290 = .ok (.iload_n 3, 1) := by decide +kernel
theorem dL_law_291 : decode cL_law 291 = .ok (.iconst 2, 1) := by decide +kernel
theorem dL_law_292 : decode cL_law 292 = .ok (.iadd, 1) := by decide +kernel
theorem dL_law_293 : decode cL_law 293 = .ok (.iaload, 1) := by decide +kernel
theorem dL_law_294 : decode cL_law 294 = .ok (.invokevirtual 38, 3) := by decide +kernel
theorem dL_law_297 : decode cL_law 297 = .ok (.aload_n 2, 1) := by decide +kernel
theorem dL_law_298 : decode cL_law 298 = .ok (.aload_n 0, 1) := by decide +kernel
theorem dL_law_299 : decode cL_law 299 = .ok (.iload_n 3, 1) := by decide +kernel
theorem dL_law_300 : decode cL_law 300 = .ok (.iconst 1, 1) := by decide +kernel
theorem dL_law_301 : decode cL_law 301 = .ok (.iadd, 1) := by decide +kernel
theorem dL_law_302 : decode cL_law 302 = .ok (.iaload, 1) := by decide +kernel
theorem dL_law_303 : decode cL_law 303 = .ok (.aload_n 0, 1) := by decide +kernel
theorem dL_law_304 : decode cL_law 304 = .ok (.iload_n 3, 1) := by decide +kernel
theorem dL_law_305 : decode cL_law 305 = .ok (.iconst 2, 1) := by decide +kernel
theorem dL_law_306 : decode cL_law 306 = .ok (.iadd, 1) := by decide +kernel
theorem dL_law_307 : decode cL_law 307 = .ok (.iaload, 1) := by decide +kernel
theorem dL_law_308 : decode cL_law 308 = .ok (.invokevirtual 41, 3) := by decide +kernel
theorem dL_law_311 : decode cL_law 311 = .ok (.if_icmp .eq 503, 3) := by decide +kernel
theorem dL_law_314 : decode cL_law 314 = .ok (.iconst 0, 1) := by decide +kernel
theorem dL_law_315 : decode cL_law 315 = .ok (.ireturn, 1) := by decide +kernel
theorem dL_law_316 : decode cL_law 316 = .ok (.aload_n 1, 1) := by decide +kernel
theorem dL_law_317 : decode cL_law 317 = .ok (.aload_n 0, 1) := by decide +kernel
theorem dL_law_318 : decode cL_law 318 = .ok (.iload_n 3, 1) := by decide +kernel
theorem dL_law_319 : decode cL_law 319 = .ok (.iconst 1, 1) := by decide +kernel
theorem dL_law_320 : decode cL_law 320 = .ok (.iadd, 1) := by decide +kernel
theorem dL_law_321 : decode cL_law 321 = .ok (.iaload, 1) := by decide +kernel
theorem dL_law_322 : decode cL_law 322 = .ok (.aload_n 0, 1) := by decide +kernel
theorem dL_law_323 : decode cL_law 323 = .ok (.iload_n 3, 1) := by decide +kernel
theorem dL_law_324 : decode cL_law 324 = .ok (.iconst 2, 1) := by decide +kernel
theorem dL_law_325 : decode cL_law 325 = .ok (.iadd, 1) := by decide +kernel
theorem dL_law_326 : decode cL_law 326 = .ok (.iaload, 1) := by decide +kernel
theorem dL_law_327 : decode cL_law 327 = .ok (.invokevirtual 42, 3) := by decide +kernel
theorem dL_law_330 : decode cL_law 330 = .ok (.aload_n 2, 1) := by decide +kernel
theorem dL_law_331 : decode cL_law 331 = .ok (.aload_n 0, 1) := by decide +kernel
theorem dL_law_332 : decode cL_law 332 = .ok (.iload_n 3, 1) := by decide +kernel
theorem dL_law_333 : decode cL_law 333 = .ok (.iconst 1, 1) := by decide +kernel
theorem dL_law_334 : decode cL_law 334 = .ok (.iadd, 1) := by decide +kernel
theorem dL_law_335 : decode cL_law 335 = .ok (.iaload, 1) := by decide +kernel
theorem dL_law_336 : decode cL_law 336 = .ok (.aload_n 0, 1) := by decide +kernel
theorem dL_law_337 : decode cL_law 337 = .ok (.iload_n 3, 1) := by decide +kernel
theorem dL_law_338 : decode cL_law 338 = .ok (.iconst 2, 1) := by decide +kernel
theorem dL_law_339 : decode cL_law 339 = .ok (.iadd, 1) := by decide +kernel
theorem dL_law_340 : decode cL_law 340 = .ok (.iaload, 1) := by decide +kernel
theorem dL_law_341 : decode cL_law 341 = .ok (.invokevirtual 45, 3) := by decide +kernel
theorem dL_law_344 : decode cL_law 344 = .ok (.if_icmp .eq 470, 3) := by decide +kernel
theorem dL_law_347 : decode cL_law 347 = .ok (.iconst 0, 1) := by decide +kernel
theorem dL_law_348 : decode cL_law 348 = .ok (.ireturn, 1) := by decide +kernel
theorem dL_law_349 : decode cL_law 349 = .ok (.aload_n 1, 1) := by decide +kernel
theorem dL_law_350 : decode cL_law 350 = .ok (.aload_n 0, 1) := by decide +kernel
theorem dL_law_351 : decode cL_law 351 = .ok (.iload_n 3, 1) := by decide +kernel
theorem dL_law_352 : decode cL_law 352 = .ok (.iconst 1, 1) := by decide +kernel
theorem dL_law_353 : decode cL_law 353 = .ok (.iadd, 1) := by decide +kernel
theorem dL_law_354 : decode cL_law 354 = .ok (.iaload, 1) := by decide +kernel
theorem dL_law_355 : decode cL_law 355 = .ok (.aload_n 0, 1) := by decide +kernel
theorem dL_law_356 : decode cL_law 356 = .ok (.iload_n 3, 1) := by decide +kernel
theorem dL_law_357 : decode cL_law 357 = .ok (.iconst 2, 1) := by decide +kernel
theorem dL_law_358 : decode cL_law 358 = .ok (.iadd, 1) := by decide +kernel
theorem dL_law_359 : decode cL_law 359 = .ok (.iaload, 1) := by decide +kernel
theorem dL_law_360 : decode cL_law 360 = .ok (.invokevirtual 46, 3) := by decide +kernel
theorem dL_law_363 : decode cL_law 363 = .ok (.aload_n 2, 1) := by decide +kernel
theorem dL_law_364 : decode cL_law 364 = .ok (.aload_n 0, 1) := by decide +kernel
theorem dL_law_365 : decode cL_law 365 = .ok (.iload_n 3, 1) := by decide +kernel
theorem dL_law_366 : decode cL_law 366 = .ok (.iconst 1, 1) := by decide +kernel
theorem dL_law_367 : decode cL_law 367 = .ok (.iadd, 1) := by decide +kernel
theorem dL_law_368 : decode cL_law 368 = .ok (.iaload, 1) := by decide +kernel
theorem dL_law_369 : decode cL_law 369 = .ok (.aload_n 0, 1) := by decide +kernel
theorem dL_law_370 : decode cL_law 370 = .ok (.iload_n 3, 1) := by decide +kernel
theorem dL_law_371 : decode cL_law 371 = .ok (.iconst 2, 1) := by decide +kernel
theorem dL_law_372 : decode cL_law 372 = .ok (.iadd, 1) := by decide +kernel
theorem dL_law_373 : decode cL_law 373 = .ok (.iaload, 1) := by decide +kernel
theorem dL_law_374 : decode cL_law 374 = .ok (.invokevirtual 49, 3) := by decide +kernel
theorem dL_law_377 : decode cL_law 377 = .ok (.if_icmp .eq 437, 3) := by decide +kernel
theorem dL_law_380 : decode cL_law 380 = .ok (.iconst 0, 1) := by decide +kernel
theorem dL_law_381 : decode cL_law 381 = .ok (.ireturn, 1) := by decide +kernel
theorem dL_law_382 : decode cL_law 382 = .ok (.aload_n 1, 1) := by decide +kernel
theorem dL_law_383 : decode cL_law 383 = .ok (.aload_n 0, 1) := by decide +kernel
theorem dL_law_384 : decode cL_law 384 = .ok (.iload_n 3, 1) := by decide +kernel
theorem dL_law_385 : decode cL_law 385 = .ok (.iconst 1, 1) := by decide +kernel
theorem dL_law_386 : decode cL_law 386 = .ok (.iadd, 1) := by decide +kernel
theorem dL_law_387 : decode cL_law 387 = .ok (.iaload, 1) := by decide +kernel
theorem dL_law_388 : decode cL_law 388 = .ok (.invokevirtual 50, 3) := by decide +kernel
theorem dL_law_391 : decode cL_law 391 = .ok (.aload_n 2, 1) := by decide +kernel
theorem dL_law_392 : decode cL_law 392 = .ok (.aload_n 0, 1) := by decide +kernel
theorem dL_law_393 : decode cL_law 393 = .ok (.iload_n 3, 1) := by decide +kernel
theorem dL_law_394 : decode cL_law 394 = .ok (.iconst 1, 1) := by decide +kernel
theorem dL_law_395 : decode cL_law 395 = .ok (.iadd, 1) := by decide +kernel
theorem dL_law_396 : decode cL_law 396 = .ok (.iaload, 1) := by decide +kernel
theorem dL_law_397 : decode cL_law 397 = .ok (.invokevirtual 54, 3) := by decide +kernel
theorem dL_law_400 : decode cL_law 400 = .ok (.if_icmp .eq 414, 3) := by decide +kernel
theorem dL_law_403 : decode cL_law 403 = .ok (.iconst 0, 1) := by decide +kernel
theorem dL_law_404 : decode cL_law 404 = .ok (.ireturn, 1) := by decide +kernel
theorem dL_law_405 : decode cL_law 405 = .ok (.aload_n 1, 1) := by decide +kernel
theorem dL_law_406 : decode cL_law 406 = .ok (.aload_n 0, 1) := by decide +kernel
theorem dL_law_407 : decode cL_law 407 = .ok (.iload_n 3, 1) := by decide +kernel
theorem dL_law_408 : decode cL_law 408 = .ok (.iconst 1, 1) := by decide +kernel
theorem dL_law_409 : decode cL_law 409 = .ok (.iadd, 1) := by decide +kernel
theorem dL_law_410 : decode cL_law 410 = .ok (.iaload, 1) := by decide +kernel
theorem dL_law_411 : decode cL_law 411 = .ok (.aload_n 0, 1) := by decide +kernel
theorem dL_law_412 : decode cL_law 412 = .ok (.iload_n 3, 1) := by decide +kernel
theorem dL_law_413 : decode cL_law 413 = .ok (.iconst 2, 1) := by decide +kernel
theorem dL_law_414 : decode cL_law 414 = .ok (.iadd, 1) := by decide +kernel
theorem dL_law_415 : decode cL_law 415 = .ok (.iaload, 1) := by decide +kernel
theorem dL_law_416 : decode cL_law 416 = .ok (.invokevirtual 55, 3) := by decide +kernel
theorem dL_law_419 : decode cL_law 419 = .ok (.aload_n 2, 1) := by decide +kernel
theorem dL_law_420 : decode cL_law 420 = .ok (.aload_n 0, 1) := by decide +kernel
theorem dL_law_421 : decode cL_law 421 = .ok (.iload_n 3, 1) := by decide +kernel
theorem dL_law_422 : decode cL_law 422 = .ok (.iconst 1, 1) := by decide +kernel
theorem dL_law_423 : decode cL_law 423 = .ok (.iadd, 1) := by decide +kernel
theorem dL_law_424 : decode cL_law 424 = .ok (.iaload, 1) := by decide +kernel
theorem dL_law_425 : decode cL_law 425 = .ok (.aload_n 0, 1) := by decide +kernel
theorem dL_law_426 : decode cL_law 426 = .ok (.iload_n 3, 1) := by decide +kernel
theorem dL_law_427 : decode cL_law 427 = .ok (.iconst 2, 1) := by decide +kernel
theorem dL_law_428 : decode cL_law 428 = .ok (.iadd, 1) := by decide +kernel
theorem dL_law_429 : decode cL_law 429 = .ok (.iaload, 1) := by decide +kernel
theorem dL_law_430 : decode cL_law 430 = .ok (.invokevirtual 58, 3) := by decide +kernel
theorem dL_law_433 : decode cL_law 433 = .ok (.if_icmp .eq 381, 3) := by decide +kernel
theorem dL_law_436 : decode cL_law 436 = .ok (.iconst 0, 1) := by decide +kernel
theorem dL_law_437 : decode cL_law 437 = .ok (.ireturn, 1) := by decide +kernel
theorem dL_law_438 : decode cL_law 438 = .ok (.aload_n 1, 1) := by decide +kernel
theorem dL_law_439 : decode cL_law 439 = .ok (.aload_n 0, 1) := by decide +kernel
theorem dL_law_440 : decode cL_law 440 = .ok (.iload_n 3, 1) := by decide +kernel
theorem dL_law_441 : decode cL_law 441 = .ok (.iconst 1, 1) := by decide +kernel
theorem dL_law_442 : decode cL_law 442 = .ok (.iadd, 1) := by decide +kernel
theorem dL_law_443 : decode cL_law 443 = .ok (.iaload, 1) := by decide +kernel
theorem dL_law_444 : decode cL_law 444 = .ok (.invokevirtual 59, 3) := by decide +kernel
theorem dL_law_447 : decode cL_law 447 = .ok (.aload_n 2, 1) := by decide +kernel
theorem dL_law_448 : decode cL_law 448 = .ok (.aload_n 0, 1) := by decide +kernel
theorem dL_law_449 : decode cL_law 449 = .ok (.iload_n 3, 1) := by decide +kernel
theorem dL_law_450 : decode cL_law 450 = .ok (.iconst 1, 1) := by decide +kernel
theorem dL_law_451 : decode cL_law 451 = .ok (.iadd, 1) := by decide +kernel
theorem dL_law_452 : decode cL_law 452 = .ok (.iaload, 1) := by decide +kernel
theorem dL_law_453 : decode cL_law 453 = .ok (.invokevirtual 62, 3) := by decide +kernel
theorem dL_law_456 : decode cL_law 456 = .ok (.if_icmp .eq 358, 3) := by decide +kernel
theorem dL_law_459 : decode cL_law 459 = .ok (.iconst 0, 1) := by decide +kernel
theorem dL_law_460 : decode cL_law 460 = .ok (.ireturn, 1) := by decide +kernel
theorem dL_law_461 : decode cL_law 461 = .ok (.aload_n 1, 1) := by decide +kernel
theorem dL_law_462 : decode cL_law 462 = .ok (.aload_n 0, 1) := by decide +kernel
theorem dL_law_463 : decode cL_law 463 = .ok (.iload_n 3, 1) := by decide +kernel
theorem dL_law_464 : decode cL_law 464 = .ok (.iconst 1, 1) := by decide +kernel
theorem dL_law_465 : decode cL_law 465 = .ok (.iadd, 1) := by decide +kernel
theorem dL_law_466 : decode cL_law 466 = .ok (.iaload, 1) := by decide +kernel
theorem dL_law_467 : decode cL_law 467 = .ok (.invokevirtual 63, 3) := by decide +kernel
theorem dL_law_470 : decode cL_law 470 = .ok (.aload_n 2, 1) := by decide +kernel
theorem dL_law_471 : decode cL_law 471 = .ok (.aload_n 0, 1) := by decide +kernel
theorem dL_law_472 : decode cL_law 472 = .ok (.iload_n 3, 1) := by decide +kernel
theorem dL_law_473 : decode cL_law 473 = .ok (.iconst 1, 1) := by decide +kernel
theorem dL_law_474 : decode cL_law 474 = .ok (.iadd, 1) := by decide +kernel
theorem dL_law_475 : decode cL_law 475 = .ok (.iaload, 1) := by decide +kernel
theorem dL_law_476 : decode cL_law 476 = .ok (.invokevirtual 66, 3) := by decide +kernel
theorem dL_law_479 : decode cL_law 479 = .ok (.if_icmp .eq 335, 3) := by decide +kernel
theorem dL_law_482 : decode cL_law 482 = .ok (.iconst 0, 1) := by decide +kernel
theorem dL_law_483 : decode cL_law 483 = .ok (.ireturn, 1) := by decide +kernel
theorem dL_law_484 : decode cL_law 484 = .ok (.aload_n 1, 1) := by decide +kernel
theorem dL_law_485 : decode cL_law 485 = .ok (.aload_n 0, 1) := by decide +kernel
theorem dL_law_486 : decode cL_law 486 = .ok (.iload_n 3, 1) := by decide +kernel
theorem dL_law_487 : decode cL_law 487 = .ok (.iconst 1, 1) := by decide +kernel
theorem dL_law_488 : decode cL_law 488 = .ok (.iadd, 1) := by decide +kernel
theorem dL_law_489 : decode cL_law 489 = .ok (.iaload, 1) := by decide +kernel
theorem dL_law_490 : decode cL_law 490 = .ok (.aload_n 0, 1) := by decide +kernel
theorem dL_law_491 : decode cL_law 491 = .ok (.iload_n 3, 1) := by decide +kernel
theorem dL_law_492 : decode cL_law 492 = .ok (.iconst 2, 1) := by decide +kernel
theorem dL_law_493 : decode cL_law 493 = .ok (.iadd, 1) := by decide +kernel
theorem dL_law_494 : decode cL_law 494 = .ok (.iaload, 1) := by decide +kernel
theorem dL_law_495 : decode cL_law 495 = .ok (.invokevirtual 67, 3) := by decide +kernel
theorem dL_law_498 : decode cL_law 498 = .ok (.aload_n 2, 1) := by decide +kernel
theorem dL_law_499 : decode cL_law 499 = .ok (.aload_n 0, 1) := by decide +kernel
theorem dL_law_500 : decode cL_law 500 = .ok (.iload_n 3, 1) := by decide +kernel
theorem dL_law_501 : decode cL_law 501 = .ok (.iconst 1, 1) := by decide +kernel
theorem dL_law_502 : decode cL_law 502 = .ok (.iadd, 1) := by decide +kernel
theorem dL_law_503 : decode cL_law 503 = .ok (.iaload, 1) := by decide +kernel
theorem dL_law_504 : decode cL_law 504 = .ok (.aload_n 0, 1) := by decide +kernel
theorem dL_law_505 : decode cL_law 505 = .ok (.iload_n 3, 1) := by decide +kernel
theorem dL_law_506 : decode cL_law 506 = .ok (.iconst 2, 1) := by decide +kernel
theorem dL_law_507 : decode cL_law 507 = .ok (.iadd, 1) := by decide +kernel
theorem dL_law_508 : decode cL_law 508 = .ok (.iaload, 1) := by decide +kernel
theorem dL_law_509 : decode cL_law 509 = .ok (.invokevirtual 70, 3) := by decide +kernel
theorem dL_law_512 : decode cL_law 512 = .ok (.if_icmp .eq 302, 3) := by decide +kernel
theorem dL_law_515 : decode cL_law 515 = .ok (.iconst 0, 1) := by decide +kernel
theorem dL_law_516 : decode cL_law 516 = .ok (.ireturn, 1) := by decide +kernel
theorem dL_law_517 : decode cL_law 517 = .ok (.aload_n 1, 1) := by decide +kernel
theorem dL_law_518 : decode cL_law 518 = .ok (.aload_n 0, 1) := by decide +kernel
theorem dL_law_519 : decode cL_law 519 = .ok (.iload_n 3, 1) := by decide +kernel
theorem dL_law_520 : decode cL_law 520 = .ok (.iconst 1, 1) := by decide +kernel
theorem dL_law_521 : decode cL_law 521 = .ok (.iadd, 1) := by decide +kernel
theorem dL_law_522 : decode cL_law 522 = .ok (.iaload, 1) := by decide +kernel
theorem dL_law_523 : decode cL_law 523 = .ok (.invokevirtual 71, 3) := by decide +kernel
theorem dL_law_526 : decode cL_law 526 = .ok (.aload_n 2, 1) := by decide +kernel
theorem dL_law_527 : decode cL_law 527 = .ok (.aload_n 0, 1) := by decide +kernel
theorem dL_law_528 : decode cL_law 528 = .ok (.iload_n 3, 1) := by decide +kernel
theorem dL_law_529 : decode cL_law 529 = .ok (.iconst 1, 1) := by decide +kernel
theorem dL_law_530 : decode cL_law 530 = .ok (.iadd, 1) := by decide +kernel
theorem dL_law_531 : decode cL_law 531 = .ok (.iaload, 1) := by decide +kernel
theorem dL_law_532 : decode cL_law 532 = .ok (.invokevirtual 74, 3) := by decide +kernel
theorem dL_law_535 : decode cL_law 535 = .ok (.if_icmp .eq 279, 3) := by decide +kernel
theorem dL_law_538 : decode cL_law 538 = .ok (.iconst 0, 1) := by decide +kernel
theorem dL_law_539 : decode cL_law 539 = .ok (.ireturn, 1) := by decide +kernel
theorem dL_law_540 : decode cL_law 540 = .ok (.aload_n 1, 1) := by decide +kernel
theorem dL_law_541 : decode cL_law 541 = .ok (.aload_n 0, 1) := by decide +kernel
theorem dL_law_542 : decode cL_law 542 = .ok (.iload_n 3, 1) := by decide +kernel
theorem dL_law_543 : decode cL_law 543 = .ok (.iconst 1, 1) := by decide +kernel
theorem dL_law_544 : decode cL_law 544 = .ok (.iadd, 1) := by decide +kernel
theorem dL_law_545 : decode cL_law 545 = .ok (.iaload, 1) := by decide +kernel
theorem dL_law_546 : decode cL_law 546 = .ok (.invokevirtual 75, 3) := by decide +kernel
theorem dL_law_549 : decode cL_law 549 = .ok (.aload_n 2, 1) := by decide +kernel
theorem dL_law_550 : decode cL_law 550 = .ok (.aload_n 0, 1) := by decide +kernel
theorem dL_law_551 : decode cL_law 551 = .ok (.iload_n 3, 1) := by decide +kernel
theorem dL_law_552 : decode cL_law 552 = .ok (.iconst 1, 1) := by decide +kernel
theorem dL_law_553 : decode cL_law 553 = .ok (.iadd, 1) := by decide +kernel
theorem dL_law_554 : decode cL_law 554 = .ok (.iaload, 1) := by decide +kernel
theorem dL_law_555 : decode cL_law 555 = .ok (.invokevirtual 78, 3) := by decide +kernel
theorem dL_law_558 : decode cL_law 558 = .ok (.if_icmp .eq 256, 3) := by decide +kernel
theorem dL_law_561 : decode cL_law 561 = .ok (.iconst 0, 1) := by decide +kernel
theorem dL_law_562 : decode cL_law 562 = .ok (.ireturn, 1) := by decide +kernel
theorem dL_law_563 : decode cL_law 563 = .ok (.aload_n 1, 1) := by decide +kernel
theorem dL_law_564 : decode cL_law 564 = .ok (.aload_n 0, 1) := by decide +kernel
theorem dL_law_565 : decode cL_law 565 = .ok (.iload_n 3, 1) := by decide +kernel
theorem dL_law_566 : decode cL_law 566 = .ok (.iconst 1, 1) := by decide +kernel
theorem dL_law_567 : decode cL_law 567 = .ok (.iadd, 1) := by decide +kernel
theorem dL_law_568 : decode cL_law 568 = .ok (.iaload, 1) := by decide +kernel
theorem dL_law_569 : decode cL_law 569 = .ok (.aload_n 0, 1) := by decide +kernel
theorem dL_law_570 : decode cL_law 570 = .ok (.iload_n 3, 1) := by decide +kernel
theorem dL_law_571 : decode cL_law 571 = .ok (.iconst 2, 1) := by decide +kernel
theorem dL_law_572 : decode cL_law 572 = .ok (.iadd, 1) := by decide +kernel
theorem dL_law_573 : decode cL_law 573 = .ok (.iaload, 1) := by decide +kernel
theorem dL_law_574 : decode cL_law 574 = .ok (.invokevirtual 79, 3) := by decide +kernel
theorem dL_law_577 : decode cL_law 577 = .ok (.aload_n 2, 1) := by decide +kernel
theorem dL_law_578 : decode cL_law 578 = .ok (.aload_n 0, 1) := by decide +kernel
theorem dL_law_579 : decode cL_law 579 = .ok (.iload_n 3, 1) := by decide +kernel
theorem dL_law_580 : decode cL_law 580 = .ok (.iconst 1, 1) := by decide +kernel
theorem dL_law_581 : decode cL_law 581 = .ok (.iadd, 1) := by decide +kernel
theorem dL_law_582 : decode cL_law 582 = .ok (.iaload, 1) := by decide +kernel
theorem dL_law_583 : decode cL_law 583 = .ok (.aload_n 0, 1) := by decide +kernel
theorem dL_law_584 : decode cL_law 584 = .ok (.iload_n 3, 1) := by decide +kernel
theorem dL_law_585 : decode cL_law 585 = .ok (.iconst 2, 1) := by decide +kernel
theorem dL_law_586 : decode cL_law 586 = .ok (.iadd, 1) := by decide +kernel
theorem dL_law_587 : decode cL_law 587 = .ok (.iaload, 1) := by decide +kernel
theorem dL_law_588 : decode cL_law 588 = .ok (.invokevirtual 82, 3) := by decide +kernel
theorem dL_law_591 : decode cL_law 591 = .ok (.if_icmp .eq 223, 3) := by decide +kernel
theorem dL_law_594 : decode cL_law 594 = .ok (.iconst 0, 1) := by decide +kernel
theorem dL_law_595 : decode cL_law 595 = .ok (.ireturn, 1) := by decide +kernel
theorem dL_law_596 : decode cL_law 596 = .ok (.aload_n 1, 1) := by decide +kernel
theorem dL_law_597 : decode cL_law 597 = .ok (.aload_n 0, 1) := by decide +kernel
theorem dL_law_598 : decode cL_law 598 = .ok (.iload_n 3, 1) := by decide +kernel
theorem dL_law_599 : decode cL_law 599 = .ok (.iconst 1, 1) := by decide +kernel
theorem dL_law_600 : decode cL_law 600 = .ok (.iadd, 1) := by decide +kernel
theorem dL_law_601 : decode cL_law 601 = .ok (.iaload, 1) := by decide +kernel
theorem dL_law_602 : decode cL_law 602 = .ok (.aload_n 0, 1) := by decide +kernel
theorem dL_law_603 : decode cL_law 603 = .ok (.iload_n 3, 1) := by decide +kernel
theorem dL_law_604 : decode cL_law 604 = .ok (.iconst 2, 1) := by decide +kernel
theorem dL_law_605 : decode cL_law 605 = .ok (.iadd, 1) := by decide +kernel
theorem dL_law_606 : decode cL_law 606 = .ok (.iaload, 1) := by decide +kernel
theorem dL_law_607 : decode cL_law 607 = .ok (.aload_n 0, 1) := by decide +kernel
theorem dL_law_608 : decode cL_law 608 = .ok (.iload_n 3, 1) := by decide +kernel
theorem dL_law_609 : decode cL_law 609 = .ok (.iconst 3, 1) := by decide +kernel
theorem dL_law_610 : decode cL_law 610 = .ok (.iadd, 1) := by decide +kernel
theorem dL_law_611 : decode cL_law 611 = .ok (.iaload, 1) := by decide +kernel
theorem dL_law_612 : decode cL_law 612 = .ok (.invokevirtual 83, 3) := by decide +kernel
theorem dL_law_615 : decode cL_law 615 = .ok (.aload_n 2, 1) := by decide +kernel
theorem dL_law_616 : decode cL_law 616 = .ok (.aload_n 0, 1) := by decide +kernel
theorem dL_law_617 : decode cL_law 617 = .ok (.iload_n 3, 1) := by decide +kernel
theorem dL_law_618 : decode cL_law 618 = .ok (.iconst 1, 1) := by decide +kernel
theorem dL_law_619 : decode cL_law 619 = .ok (.iadd, 1) := by decide +kernel
theorem dL_law_620 : decode cL_law 620 = .ok (.iaload, 1) := by decide +kernel
theorem dL_law_621 : decode cL_law 621 = .ok (.aload_n 0, 1) := by decide +kernel
theorem dL_law_622 : decode cL_law 622 = .ok (.iload_n 3, 1) := by decide +kernel
theorem dL_law_623 : decode cL_law 623 = .ok (.iconst 2, 1) := by decide +kernel
theorem dL_law_624 : decode cL_law 624 = .ok (.iadd, 1) := by decide +kernel
theorem dL_law_625 : decode cL_law 625 = .ok (.iaload, 1) := by decide +kernel
theorem dL_law_626 : decode cL_law 626 = .ok (.aload_n 0, 1) := by decide +kernel
theorem dL_law_627 : decode cL_law 627 = .ok (.iload_n 3, 1) := by decide +kernel
theorem dL_law_628 : decode cL_law 628 = .ok (.iconst 3, 1) := by decide +kernel
theorem dL_law_629 : decode cL_law 629 = .ok (.iadd, 1) := by decide +kernel
theorem dL_law_630 : decode cL_law 630 = .ok (.iaload, 1) := by decide +kernel
theorem dL_law_631 : decode cL_law 631 = .ok (.invokevirtual 87, 3) := by decide +kernel
theorem dL_law_634 : decode cL_law 634 = .ok (.lcmp, 1) := by decide +kernel
theorem dL_law_635 : decode cL_law 635 = .ok (.ifCond .eq 179, 3) := by decide +kernel
theorem dL_law_638 : decode cL_law 638 = .ok (.iconst 0, 1) := by decide +kernel
theorem dL_law_639 : decode cL_law 639 = .ok (.ireturn, 1) := by decide +kernel
theorem dL_law_640 : decode cL_law 640 = .ok (.aload_n 1, 1) := by decide +kernel
theorem dL_law_641 : decode cL_law 641 = .ok (.invokevirtual 88, 3) := by decide +kernel
theorem dL_law_644 : decode cL_law 644 = .ok (.aload_n 2, 1) := by decide +kernel
theorem dL_law_645 : decode cL_law 645 = .ok (.invokevirtual 91, 3) := by decide +kernel
theorem dL_law_648 : decode cL_law 648 = .ok (.if_icmp .eq 166, 3) := by decide +kernel
theorem dL_law_651 : decode cL_law 651 = .ok (.iconst 0, 1) := by decide +kernel
theorem dL_law_652 : decode cL_law 652 = .ok (.ireturn, 1) := by decide +kernel
theorem dL_law_653 : decode cL_law 653 = .ok (.aload_n 1, 1) := by decide +kernel
theorem dL_law_654 : decode cL_law 654 = .ok (.aload_n 0, 1) := by decide +kernel
theorem dL_law_655 : decode cL_law 655 = .ok (.iload_n 3, 1) := by decide +kernel
theorem dL_law_656 : decode cL_law 656 = .ok (.iconst 1, 1) := by decide +kernel
theorem dL_law_657 : decode cL_law 657 = .ok (.iadd, 1) := by decide +kernel
theorem dL_law_658 : decode cL_law 658 = .ok (.iaload, 1) := by decide +kernel
theorem dL_law_659 : decode cL_law 659 = .ok (.invokevirtual 92, 3) := by decide +kernel
theorem dL_law_662 : decode cL_law 662 = .ok (.aload_n 2, 1) := by decide +kernel
theorem dL_law_663 : decode cL_law 663 = .ok (.aload_n 0, 1) := by decide +kernel
theorem dL_law_664 : decode cL_law 664 = .ok (.iload_n 3, 1) := by decide +kernel
theorem dL_law_665 : decode cL_law 665 = .ok (.iconst 1, 1) := by decide +kernel
theorem dL_law_666 : decode cL_law 666 = .ok (.iadd, 1) := by decide +kernel
theorem dL_law_667 : decode cL_law 667 = .ok (.iaload, 1) := by decide +kernel
theorem dL_law_668 : decode cL_law 668 = .ok (.invokevirtual 95, 3) := by decide +kernel
theorem dL_law_671 : decode cL_law 671 = .ok (.if_icmp .eq 143, 3) := by decide +kernel
theorem dL_law_674 : decode cL_law 674 = .ok (.iconst 0, 1) := by decide +kernel
theorem dL_law_675 : decode cL_law 675 = .ok (.ireturn, 1) := by decide +kernel
theorem dL_law_676 : decode cL_law 676 = .ok (.aload_n 1, 1) := by decide +kernel
theorem dL_law_677 : decode cL_law 677 = .ok (.aload_n 0, 1) := by decide +kernel
theorem dL_law_678 : decode cL_law 678 = .ok (.iload_n 3, 1) := by decide +kernel
theorem dL_law_679 : decode cL_law 679 = .ok (.iconst 1, 1) := by decide +kernel
theorem dL_law_680 : decode cL_law 680 = .ok (.iadd, 1) := by decide +kernel
theorem dL_law_681 : decode cL_law 681 = .ok (.iaload, 1) := by decide +kernel
theorem dL_law_682 : decode cL_law 682 = .ok (.aload_n 0, 1) := by decide +kernel
theorem dL_law_683 : decode cL_law 683 = .ok (.iload_n 3, 1) := by decide +kernel
theorem dL_law_684 : decode cL_law 684 = .ok (.iconst 2, 1) := by decide +kernel
theorem dL_law_685 : decode cL_law 685 = .ok (.iadd, 1) := by decide +kernel
theorem dL_law_686 : decode cL_law 686 = .ok (.iaload, 1) := by decide +kernel
theorem dL_law_687 : decode cL_law 687 = .ok (.invokevirtual 96, 3) := by decide +kernel
theorem dL_law_690 : decode cL_law 690 = .ok (.aload_n 2, 1) := by decide +kernel
theorem dL_law_691 : decode cL_law 691 = .ok (.aload_n 0, 1) := by decide +kernel
theorem dL_law_692 : decode cL_law 692 = .ok (.iload_n 3, 1) := by decide +kernel
theorem dL_law_693 : decode cL_law 693 = .ok (.iconst 1, 1) := by decide +kernel
theorem dL_law_694 : decode cL_law 694 = .ok (.iadd, 1) := by decide +kernel
theorem dL_law_695 : decode cL_law 695 = .ok (.iaload, 1) := by decide +kernel
theorem dL_law_696 : decode cL_law 696 = .ok (.aload_n 0, 1) := by decide +kernel
theorem dL_law_697 : decode cL_law 697 = .ok (.iload_n 3, 1) := by decide +kernel
theorem dL_law_698 : decode cL_law 698 = .ok (.iconst 2, 1) := by decide +kernel
theorem dL_law_699 : decode cL_law 699 = .ok (.iadd, 1) := by decide +kernel
theorem dL_law_700 : decode cL_law 700 = .ok (.iaload, 1) := by decide +kernel
theorem dL_law_701 : decode cL_law 701 = .ok (.invokevirtual 99, 3) := by decide +kernel
theorem dL_law_704 : decode cL_law 704 = .ok (.if_icmp .eq 110, 3) := by decide +kernel
theorem dL_law_707 : decode cL_law 707 = .ok (.iconst 0, 1) := by decide +kernel
theorem dL_law_708 : decode cL_law 708 = .ok (.ireturn, 1) := by decide +kernel
theorem dL_law_709 : decode cL_law 709 = .ok (.aload_n 1, 1) := by decide +kernel
theorem dL_law_710 : decode cL_law 710 = .ok (.invokevirtual 100, 3) := by decide +kernel
theorem dL_law_713 : decode cL_law 713 = .ok (.aload_n 2, 1) := by decide +kernel
theorem dL_law_714 : decode cL_law 714 = .ok (.invokevirtual 103, 3) := by decide +kernel
theorem dL_law_717 : decode cL_law 717 = .ok (.if_icmp .eq 97, 3) := by decide +kernel
theorem dL_law_720 : decode cL_law 720 = .ok (.iconst 0, 1) := by decide +kernel
theorem dL_law_721 : decode cL_law 721 = .ok (.ireturn, 1) := by decide +kernel
theorem dL_law_722 : decode cL_law 722 = .ok (.aload_n 1, 1) := by decide +kernel
theorem dL_law_723 : decode cL_law 723 = .ok (.aload_n 0, 1) := by decide +kernel
theorem dL_law_724 : decode cL_law 724 = .ok (.iload_n 3, 1) := by decide +kernel
theorem dL_law_725 : decode cL_law 725 = .ok (.iconst 1, 1) := by decide +kernel
theorem dL_law_726 : decode cL_law 726 = .ok (.iadd, 1) := by decide +kernel
theorem dL_law_727 : decode cL_law 727 = .ok (.iaload, 1) := by decide +kernel
theorem dL_law_728 : decode cL_law 728 = .ok (.invokevirtual 104, 3) := by decide +kernel
theorem dL_law_731 : decode cL_law 731 = .ok (.aload_n 2, 1) := by decide +kernel
theorem dL_law_732 : decode cL_law 732 = .ok (.aload_n 0, 1) := by decide +kernel
theorem dL_law_733 : decode cL_law 733 = .ok (.iload_n 3, 1) := by decide +kernel
theorem dL_law_734 : decode cL_law 734 = .ok (.iconst 1, 1) := by decide +kernel
theorem dL_law_735 : decode cL_law 735 = .ok (.iadd, 1) := by decide +kernel
theorem dL_law_736 : decode cL_law 736 = .ok (.iaload, 1) := by decide +kernel
theorem dL_law_737 : decode cL_law 737 = .ok (.invokevirtual 107, 3) := by decide +kernel
theorem dL_law_740 : decode cL_law 740 = .ok (.if_icmp .eq 74, 3) := by decide +kernel
theorem dL_law_743 : decode cL_law 743 = .ok (.iconst 0, 1) := by decide +kernel
theorem dL_law_744 : decode cL_law 744 = .ok (.ireturn, 1) := by decide +kernel
theorem dL_law_745 : decode cL_law 745 = .ok (.aload_n 1, 1) := by decide +kernel
theorem dL_law_746 : decode cL_law 746 = .ok (.aload_n 0, 1) := by decide +kernel
theorem dL_law_747 : decode cL_law 747 = .ok (.iload_n 3, 1) := by decide +kernel
theorem dL_law_748 : decode cL_law 748 = .ok (.iconst 1, 1) := by decide +kernel
theorem dL_law_749 : decode cL_law 749 = .ok (.iadd, 1) := by decide +kernel
theorem dL_law_750 : decode cL_law 750 = .ok (.iaload, 1) := by decide +kernel
theorem dL_law_751 : decode cL_law 751 = .ok (.invokevirtual 108, 3) := by decide +kernel
theorem dL_law_754 : decode cL_law 754 = .ok (.aload_n 2, 1) := by decide +kernel
theorem dL_law_755 : decode cL_law 755 = .ok (.aload_n 0, 1) := by decide +kernel
theorem dL_law_756 : decode cL_law 756 = .ok (.iload_n 3, 1) := by decide +kernel
theorem dL_law_757 : decode cL_law 757 = .ok (.iconst 1, 1) := by decide +kernel
theorem dL_law_758 : decode cL_law 758 = .ok (.iadd, 1) := by decide +kernel
theorem dL_law_759 : decode cL_law 759 = .ok (.iaload, 1) := by decide +kernel
theorem dL_law_760 : decode cL_law 760 = .ok (.invokevirtual 111, 3) := by decide +kernel
theorem dL_law_763 : decode cL_law 763 = .ok (.if_icmp .eq 51, 3) := by decide +kernel
theorem dL_law_766 : decode cL_law 766 = .ok (.iconst 0, 1) := by decide +kernel
theorem dL_law_767 : decode cL_law 767 = .ok (.ireturn, 1) := by decide +kernel
theorem dL_law_768 : decode cL_law 768 = .ok (.aload_n 1, 1) := by decide +kernel
theorem dL_law_769 : decode cL_law 769 = .ok (.aload_n 0, 1) := by decide +kernel
theorem dL_law_770 : decode cL_law 770 = .ok (.iload_n 3, 1) := by decide +kernel
theorem dL_law_771 : decode cL_law 771 = .ok (.iconst 1, 1) := by decide +kernel
theorem dL_law_772 : decode cL_law 772 = .ok (.iadd, 1) := by decide +kernel
theorem dL_law_773 : decode cL_law 773 = .ok (.iaload, 1) := by decide +kernel
theorem dL_law_774 : decode cL_law 774 = .ok (.invokevirtual 112, 3) := by decide +kernel
theorem dL_law_777 : decode cL_law 777 = .ok (.aload_n 2, 1) := by decide +kernel
theorem dL_law_778 : decode cL_law 778 = .ok (.aload_n 0, 1) := by decide +kernel
theorem dL_law_779 : decode cL_law 779 = .ok (.iload_n 3, 1) := by decide +kernel
theorem dL_law_780 : decode cL_law 780 = .ok (.iconst 1, 1) := by decide +kernel
theorem dL_law_781 : decode cL_law 781 = .ok (.iadd, 1) := by decide +kernel
theorem dL_law_782 : decode cL_law 782 = .ok (.iaload, 1) := by decide +kernel
theorem dL_law_783 : decode cL_law 783 = .ok (.invokevirtual 115, 3) := by decide +kernel
theorem dL_law_786 : decode cL_law 786 = .ok (.if_icmp .eq 28, 3) := by decide +kernel
theorem dL_law_789 : decode cL_law 789 = .ok (.iconst 0, 1) := by decide +kernel
theorem dL_law_790 : decode cL_law 790 = .ok (.ireturn, 1) := by decide +kernel
theorem dL_law_791 : decode cL_law 791 = .ok (.aload_n 1, 1) := by decide +kernel
theorem dL_law_792 : decode cL_law 792 = .ok (.aload_n 0, 1) := by decide +kernel
theorem dL_law_793 : decode cL_law 793 = .ok (.iload_n 3, 1) := by decide +kernel
theorem dL_law_794 : decode cL_law 794 = .ok (.iconst 1, 1) := by decide +kernel
theorem dL_law_795 : decode cL_law 795 = .ok (.iadd, 1) := by decide +kernel
theorem dL_law_796 : decode cL_law 796 = .ok (.iaload, 1) := by decide +kernel
theorem dL_law_797 : decode cL_law 797 = .ok (.invokevirtual 116, 3) := by decide +kernel
theorem dL_law_800 : decode cL_law 800 = .ok (.aload_n 2, 1) := by decide +kernel
theorem dL_law_801 : decode cL_law 801 = .ok (.aload_n 0, 1) := by decide +kernel
theorem dL_law_802 : decode cL_law 802 = .ok (.iload_n 3, 1) := by decide +kernel
theorem dL_law_803 : decode cL_law 803 = .ok (.iconst 1, 1) := by decide +kernel
theorem dL_law_804 : decode cL_law 804 = .ok (.iadd, 1) := by decide +kernel
theorem dL_law_805 : decode cL_law 805 = .ok (.iaload, 1) := by decide +kernel
theorem dL_law_806 : decode cL_law 806 = .ok (.invokevirtual 119, 3) := by decide +kernel
theorem dL_law_809 : decode cL_law 809 = .ok (.if_icmp .eq 5, 3) := by decide +kernel
theorem dL_law_812 : decode cL_law 812 = .ok (.iconst 0, 1) := by decide +kernel
theorem dL_law_813 : decode cL_law 813 = .ok (.ireturn, 1) := by decide +kernel
theorem dL_law_814 : decode cL_law 814 = .ok (.iinc 3 4, 3) := by decide +kernel
theorem dL_law_817 : decode cL_law 817 = .ok (.goto (-799), 3) := by decide +kernel
theorem dL_law_820 : decode cL_law 820 = .ok (.iconst 1, 1) := by decide +kernel
theorem dL_law_821 : decode cL_law 821 = .ok (.ireturn, 1) := by decide +kernel
theorem dJ9_max_7cf53_0 : decode cJ9_max_7cf53 0 = .ok (.iload_n 0, 1) := by decide +kernel
theorem dJ9_max_7cf53_1 : decode cJ9_max_7cf53 1 = .ok (.iload_n 1, 1) := by decide +kernel
theorem dJ9_max_7cf53_2 : decode cJ9_max_7cf53 2 = .ok (.if_icmp .lt 7, 3) := by decide +kernel
theorem dJ9_max_7cf53_5 : decode cJ9_max_7cf53 5 = .ok (.iload_n 0, 1) := by decide +kernel
theorem dJ9_max_7cf53_6 : decode cJ9_max_7cf53 6 = .ok (.goto 4, 3) := by decide +kernel
theorem dJ9_max_7cf53_9 : decode cJ9_max_7cf53 9 = .ok (.iload_n 1, 1) := by decide +kernel
theorem dJ9_max_7cf53_10 : decode cJ9_max_7cf53 10 = .ok (.ireturn, 1) := by decide +kernel
theorem dJ9_min_7cf53_0 : decode cJ9_min_7cf53 0 = .ok (.iload_n 0, 1) := by decide +kernel
theorem dJ9_min_7cf53_1 : decode cJ9_min_7cf53 1 = .ok (.iload_n 1, 1) := by decide +kernel
theorem dJ9_min_7cf53_2 : decode cJ9_min_7cf53 2 = .ok (.if_icmp .gt 7, 3) := by decide +kernel
theorem dJ9_min_7cf53_5 : decode cJ9_min_7cf53 5 = .ok (.iload_n 0, 1) := by decide +kernel
theorem dJ9_min_7cf53_6 : decode cJ9_min_7cf53 6 = .ok (.goto 4, 3) := by decide +kernel
theorem dJ9_min_7cf53_9 : decode cJ9_min_7cf53 9 = .ok (.iload_n 1, 1) := by decide +kernel
theorem dJ9_min_7cf53_10 : decode cJ9_min_7cf53 10 = .ok (.ireturn, 1) := by decide +kernel
theorem dJ0_length_8abf5_0 : decode cJ0_length_8abf5 0 = .ok (.aload_n 0, 1) := by decide +kernel
theorem dJ0_length_8abf5_1 : decode cJ0_length_8abf5 1 = .ok (.getfield 9, 3) := by decide +kernel
theorem dJ0_length_8abf5_4 : decode cJ0_length_8abf5 4 = .ok (.arraylength, 1) := by decide +kernel
theorem dJ0_length_8abf5_5 : decode cJ0_length_8abf5 5 = .ok (.aload_n 0, 1) := by decide +kernel
theorem dJ0_length_8abf5_6 : decode cJ0_length_8abf5 6 = .ok (.invokevirtual 335, 3) := by decide +kernel
theorem dJ0_length_8abf5_9 : decode cJ0_length_8abf5 9 = .ok (.ishr, 1) := by decide +kernel
theorem dJ0_length_8abf5_10 : decode cJ0_length_8abf5 10 = .ok (.ireturn, 1) := by decide +kernel
theorem dJ0_charAt_5068e_0 : decode cJ0_charAt_5068e 0 = .ok (.aload_n 0, 1) := by decide +kernel
theorem dJ0_charAt_5068e_1 : decode cJ0_charAt_5068e 1 = .ok (.invokevirtual 492, 3) := by decide +kernel
theorem dJ0_charAt_5068e_4 : decode cJ0_charAt_5068e 4 = .ok (.ifCond .eq 12, 3) := by decide +kernel
theorem dJ0_charAt_5068e_7 : decode cJ0_charAt_5068e 7 = .ok (.aload_n 0, 1) := by decide +kernel
theorem dJ0_charAt_5068e_8 : decode cJ0_charAt_5068e 8 = .ok (.getfield 9, 3) := by decide +kernel
theorem dJ0_charAt_5068e_11 : decode cJ0_charAt_5068e 11 = .ok (.iload_n 1, 1) := by decide +kernel
theorem dJ0_charAt_5068e_12 : decode cJ0_charAt_5068e 12 = .ok (.invokestatic 495, 3) := by decide +kernel
theorem dJ0_charAt_5068e_15 : decode cJ0_charAt_5068e 15 = .ok (.ireturn, 1) := by decide +kernel
theorem dJ0_charAt_5068e_16 : decode cJ0_charAt_5068e 16 = .ok (.aload_n 0, 1) := by decide +kernel
theorem dJ0_charAt_5068e_17 : decode cJ0_charAt_5068e 17 = .ok (.getfield 9, 3) := by decide +kernel
theorem dJ0_charAt_5068e_20 : decode cJ0_charAt_5068e 20 = .ok (.iload_n 1, 1) := by decide +kernel
theorem dJ0_charAt_5068e_21 : decode cJ0_charAt_5068e 21 = .ok (.invokestatic 498, 3) := by decide +kernel
theorem dJ0_charAt_5068e_24 : decode cJ0_charAt_5068e 24 = .ok (.ireturn, 1) := by decide +kernel
theorem dJ0_coder_7d493_0 : decode cJ0_coder_7d493 0 = .ok (.getstatic 38, 3) := by decide +kernel
theorem dJ0_coder_7d493_3 : decode cJ0_coder_7d493 3 = .ok (.ifCond .eq 10, 3) := by decide +kernel
theorem dJ0_coder_7d493_6 : decode cJ0_coder_7d493 6 = .ok (.aload_n 0, 1) := by decide +kernel
theorem dJ0_coder_7d493_7 : decode cJ0_coder_7d493 7 = .ok (.getfield 15, 3) := by decide +kernel
theorem dJ0_coder_7d493_10 : decode cJ0_coder_7d493 10 = .ok (.goto 4, 3) := by decide +kernel
theorem dJ0_coder_7d493_13 : decode cJ0_coder_7d493 13 = .ok (.iconst 1, 1) := by decide +kernel
theorem dJ0_coder_7d493_14 : decode cJ0_coder_7d493 14 = .ok (.ireturn, 1) := by decide +kernel
theorem dJ0_isLatin1_aae02_0 : decode cJ0_isLatin1_aae02 0 = .ok (.getstatic 38, 3) := by decide +kernel
theorem dJ0_isLatin1_aae02_3 : decode cJ0_isLatin1_aae02 3 = .ok (.ifCond .eq 14, 3) := by decide +kernel
theorem dJ0_isLatin1_aae02_6 : decode cJ0_isLatin1_aae02 6 = .ok (.aload_n 0, 1) := by decide +kernel
theorem dJ0_isLatin1_aae02_7 : decode cJ0_isLatin1_aae02 7 = .ok (.getfield 15, 3) := by decide +kernel
theorem dJ0_isLatin1_aae02_10 : decode cJ0_isLatin1_aae02 10 = .ok (.ifCond .ne 7, 3) := by decide +kernel
theorem dJ0_isLatin1_aae02_13 : decode cJ0_isLatin1_aae02 13 = .ok (.iconst 1, 1) := by decide +kernel
theorem dJ0_isLatin1_aae02_14 : decode cJ0_isLatin1_aae02 14 = .ok (.goto 4, 3) := by decide +kernel
theorem dJ0_isLatin1_aae02_17 : decode cJ0_isLatin1_aae02 17 = .ok (.iconst 0, 1) := by decide +kernel
theorem dJ0_isLatin1_aae02_18 : decode cJ0_isLatin1_aae02 18 = .ok (.ireturn, 1) := by decide +kernel
theorem dJ0_checkIndex_df160_0 : decode cJ0_checkIndex_df160 0 = .ok (.iload_n 0, 1) := by decide +kernel
theorem dJ0_checkIndex_df160_1 : decode cJ0_checkIndex_df160 1 = .ok (.iload_n 1, 1) := by decide +kernel
theorem dJ0_checkIndex_df160_2 : decode cJ0_checkIndex_df160 2 = .ok (.getstatic 1053, 3) := by decide +kernel
theorem dJ0_checkIndex_df160_5 : decode cJ0_checkIndex_df160 5 = .ok (.invokestatic 1059, 3) := by decide +kernel
theorem dJ0_checkIndex_df160_8 : decode cJ0_checkIndex_df160 8 = .ok (.pop, 1) := by decide +kernel
theorem dJ0_checkIndex_df160_9 : decode cJ0_checkIndex_df160 9 = .ok (.return_, 1) := by decide +kernel
theorem dJ1_charAt_3b067_0 : decode cJ1_charAt_3b067 0 = .ok (.iload_n 1, 1) := by decide +kernel
theorem dJ1_charAt_3b067_1 : decode cJ1_charAt_3b067 1 = .ok (.aload_n 0, 1) := by decide +kernel
theorem dJ1_charAt_3b067_2 : decode cJ1_charAt_3b067 2 = .ok (.arraylength, 1) := by decide +kernel
theorem dJ1_charAt_3b067_3 : decode cJ1_charAt_3b067 3 = .ok (.invokestatic 9, 3) := by decide +kernel
theorem dJ1_charAt_3b067_6 : decode cJ1_charAt_3b067 6 = .ok (.aload_n 0, 1) := by decide +kernel
theorem dJ1_charAt_3b067_7 : decode cJ1_charAt_3b067 7 = .ok (.iload_n 1, 1) := by decide +kernel
theorem dJ1_charAt_3b067_8 : decode cJ1_charAt_3b067 8 = .ok (.baload, 1) := by decide +kernel
theorem dJ1_charAt_3b067_9 : decode cJ1_charAt_3b067 9 = .ok (.sipush 255, 3) := by decide +kernel
theorem dJ1_charAt_3b067_12 : decode cJ1_charAt_3b067 12 = .ok (.iand, 1) := by decide +kernel
theorem dJ1_charAt_3b067_13 : decode cJ1_charAt_3b067 13 = .ok (.i2c, 1) := by decide +kernel
theorem dJ1_charAt_3b067_14 : decode cJ1_charAt_3b067 14 = .ok (.ireturn, 1) := by decide +kernel
theorem dJ2_getChar_3b067_0 : decode cJ2_getChar_3b067 0 = .ok (.getstatic 44, 3) := by decide +kernel
theorem dJ2_getChar_3b067_3 : decode cJ2_getChar_3b067 3 = .ok (.ifCond .ne 25, 3) := by decide +kernel
theorem dJ2_getChar_3b067_6 : decode cJ2_getChar_3b067 6 = .ok (.iload_n 1, 1) := by decide +kernel
theorem dJ2_getChar_3b067_7 : decode cJ2_getChar_3b067 7 = .ok (.ifCond .lt 11, 3) := by decide +kernel
theorem dJ2_getChar_3b067_10 : decode cJ2_getChar_3b067 10 = .ok (.iload_n 1, 1) := by decide +kernel
theorem dJ2_getChar_3b067_11 : decode cJ2_getChar_3b067 11 = .ok (.aload_n 0, 1) := by decide +kernel
theorem dJ2_getChar_3b067_12 : decode cJ2_getChar_3b067 12 = .ok (.invokestatic 48, 3) := by decide +kernel
theorem dJ2_getChar_3b067_15 : decode cJ2_getChar_3b067 15 = .ok (.if_icmp .lt 13, 3) := by decide +kernel
theorem dJ2_getChar_3b067_18 : decode cJ2_getChar_3b067 18 = .ok (.new 52, 3) := by decide +kernel
theorem dJ2_getChar_3b067_21 : decode cJ2_getChar_3b067 21 = .ok (.dup, 1) := by decide +kernel
theorem dJ2_getChar_3b067_22 : decode cJ2_getChar_3b067 22 = .ok (.ldc 54, 2) := by decide +kernel
theorem dJ2_getChar_3b067_24 : decode cJ2_getChar_3b067 24 = .ok (.invokespecial 56, 3) := by decide +kernel
theorem dJ2_getChar_3b067_27 : decode cJ2_getChar_3b067 27 = .ok (.athrow, 1) := by decide +kernel
theorem dJ2_getChar_3b067_28 : decode cJ2_getChar_3b067 28 = .ok (.iload_n 1, 1) := by decide +kernel
theorem dJ2_getChar_3b067_29 : decode cJ2_getChar_3b067 29 = .ok (.iconst 1, 1) := by decide +kernel
theorem dJ2_getChar_3b067_30 : decode cJ2_getChar_3b067 30 = .ok (.ishl, 1) := by decide +kernel
theorem dJ2_getChar_3b067_31 : decode cJ2_getChar_3b067 31 = .ok (.istore_n 1, 1) := by decide +kernel
theorem dJ2_getChar_3b067_32 : decode cJ2_getChar_3b067 32 = .ok (.aload_n 0, 1) := by decide +kernel
theorem dJ2_getChar_3b067_33 : decode cJ2_getChar_3b067 33 = .ok (.iload_n 1, 1) := by decide +kernel
theorem dJ2_getChar_3b067_34 : decode cJ2_getChar_3b067 34 = .ok (.iinc 1 1, 3) := by decide +kernel
theorem dJ2_getChar_3b067_37 : decode cJ2_getChar_3b067 37 = .ok (.baload, 1) := by decide +kernel
theorem dJ2_getChar_3b067_38 : decode cJ2_getChar_3b067 38 = .ok (.sipush 255, 3) := by decide +kernel
theorem dJ2_getChar_3b067_41 : decode cJ2_getChar_3b067 41 = .ok (.iand, 1) := by decide +kernel
theorem dJ2_getChar_3b067_42 : decode cJ2_getChar_3b067 42 = .ok (.getstatic 59, 3) := by decide +kernel
theorem dJ2_getChar_3b067_45 : decode cJ2_getChar_3b067 45 = .ok (.ishl, 1) := by decide +kernel
theorem dJ2_getChar_3b067_46 : decode cJ2_getChar_3b067 46 = .ok (.aload_n 0, 1) := by decide +kernel
theorem dJ2_getChar_3b067_47 : decode cJ2_getChar_3b067 47 = .ok (.iload_n 1, 1) := by decide +kernel
theorem dJ2_getChar_3b067_48 : decode cJ2_getChar_3b067 48 = .ok (.baload, 1) := by decide +kernel
theorem dJ2_getChar_3b067_49 : decode cJ2_getChar_3b067 49 = .ok (.sipush 255, 3) := by decide +kernel
theorem dJ2_getChar_3b067_52 : decode cJ2_getChar_3b067 52 = .ok (.iand, 1) := by decide +kernel
theorem dJ2_getChar_3b067_53 : decode cJ2_getChar_3b067 53 = .ok (.getstatic 63, 3) := by decide +kernel
theorem dJ2_getChar_3b067_56 : decode cJ2_getChar_3b067 56 = .ok (.ishl, 1) := by decide +kernel
theorem dJ2_getChar_3b067_57 : decode cJ2_getChar_3b067 57 = .ok (.ior, 1) := by decide +kernel
theorem dJ2_getChar_3b067_58 : decode cJ2_getChar_3b067 58 = .ok (.i2c, 1) := by decide +kernel
theorem dJ2_getChar_3b067_59 : decode cJ2_getChar_3b067 59 = .ok (.ireturn, 1) := by decide +kernel
theorem dJ2_length_9d52b_0 : decode cJ2_length_9d52b 0 = .ok (.aload_n 0, 1) := by decide +kernel
theorem dJ2_length_9d52b_1 : decode cJ2_length_9d52b 1 = .ok (.arraylength, 1) := by decide +kernel
theorem dJ2_length_9d52b_2 : decode cJ2_length_9d52b 2 = .ok (.iconst 1, 1) := by decide +kernel
theorem dJ2_length_9d52b_3 : decode cJ2_length_9d52b 3 = .ok (.ishr, 1) := by decide +kernel
theorem dJ2_length_9d52b_4 : decode cJ2_length_9d52b 4 = .ok (.ireturn, 1) := by decide +kernel
theorem dJ2_charAt_3b067_0 : decode cJ2_charAt_3b067 0 = .ok (.iload_n 1, 1) := by decide +kernel
theorem dJ2_charAt_3b067_1 : decode cJ2_charAt_3b067 1 = .ok (.aload_n 0, 1) := by decide +kernel
theorem dJ2_charAt_3b067_2 : decode cJ2_charAt_3b067 2 = .ok (.invokestatic 67, 3) := by decide +kernel
theorem dJ2_charAt_3b067_5 : decode cJ2_charAt_3b067 5 = .ok (.aload_n 0, 1) := by decide +kernel
theorem dJ2_charAt_3b067_6 : decode cJ2_charAt_3b067 6 = .ok (.iload_n 1, 1) := by decide +kernel
theorem dJ2_charAt_3b067_7 : decode cJ2_charAt_3b067 7 = .ok (.invokestatic 71, 3) := by decide +kernel
theorem dJ2_charAt_3b067_10 : decode cJ2_charAt_3b067 10 = .ok (.ireturn, 1) := by decide +kernel
theorem dJ2_checkIndex_2214a_0 : decode cJ2_checkIndex_2214a 0 = .ok (.iload_n 0, 1) := by decide +kernel
theorem dJ2_checkIndex_2214a_1 : decode cJ2_checkIndex_2214a 1 = .ok (.aload_n 1, 1) := by decide +kernel
theorem dJ2_checkIndex_2214a_2 : decode cJ2_checkIndex_2214a 2 = .ok (.invokestatic 48, 3) := by decide +kernel
theorem dJ2_checkIndex_2214a_5 : decode cJ2_checkIndex_2214a 5 = .ok (.invokestatic 414, 3) := by decide +kernel
theorem dJ2_checkIndex_2214a_8 : decode cJ2_checkIndex_2214a 8 = .ok (.return_, 1) := by decide +kernel
theorem dJ3_checkIndex_8e157_0 : decode cJ3_checkIndex_8e157 0 = .ok (.iload_n 0, 1) := by decide +kernel
theorem dJ3_checkIndex_8e157_1 : decode cJ3_checkIndex_8e157 1 = .ok (.ifCond .lt 8, 3) := by decide +kernel
theorem dJ3_checkIndex_8e157_4 : decode cJ3_checkIndex_8e157 4 = .ok (.iload_n 0, 1) := by decide +kernel
theorem dJ3_checkIndex_8e157_5 : decode cJ3_checkIndex_8e157 5 = .ok (.iload_n 1, 1) := by decide +kernel
theorem dJ3_checkIndex_8e157_6 : decode cJ3_checkIndex_8e157 6 = .ok (.if_icmp .lt 10, 3) := by decide +kernel
theorem dJ3_checkIndex_8e157_9 : decode cJ3_checkIndex_8e157 9 = .ok (.aload_n 2, 1) := by decide +kernel
theorem dJ3_checkIndex_8e157_10 : decode cJ3_checkIndex_8e157 10 = .ok (.iload_n 0, 1) := by decide +kernel
theorem dJ3_checkIndex_8e157_11 : decode cJ3_checkIndex_8e157 11 = .ok (.iload_n 1, 1) := by decide +kernel
theorem dJ3_checkIndex_8e157_12 : decode cJ3_checkIndex_8e157 12 = .ok (.invokestatic 95, 3) := by decide +kernel
theorem dJ3_checkIndex_8e157_15 : decode cJ3_checkIndex_8e157 15 = .ok (.athrow, 1) := by decide +kernel
theorem dJ3_checkIndex_8e157_16 : decode cJ3_checkIndex_8e157 16 = .ok (.iload_n 0, 1) := by decide +kernel
theorem dJ3_checkIndex_8e157_17 : decode cJ3_checkIndex_8e157 17 = .ok (.ireturn, 1) := by decide +kernel
end
section
/-! the pure heap: what the cells hold, by label and place; a label is the place of a cell in the world's list -/
abbrev HIh : Type := Nat → Nat → Int32
abbrev HEn : Type := Launch × va_G × (ClassId × ClassId × ClassId × ClassId) × (Nat → Nat)
abbrev HMe : Type := MethodName × ByteArray × Nat × Option FieldType
abbrev HFx : Type := Room × Nat × Nat × (State → Nat → Prop) × (List Frame → Array Value → State → State → Prop)
def NL : Nat := 103
def zkL : List Nat := [9, 7, 4, 2, 8, 0, 11, 11, 11, 11, 3, 11, 3, 11, 13, 3, 11, 3, 11, 6, 11, 7, 4, 2, 8, 0, 11, 11, 11, 11, 3, 11, 1, 13, 3, 11, 3, 11, 3, 11, 3, 11, 3, 11, 3, 11, 3, 11, 3, 11, 3, 11, 3, 11, 3, 11, 14, 11, 11, 11, 11, 11, 11, 11, 11, 11, 11, 11, 14, 11, 11, 11, 11, 11, 11, 11, 11, 11, 11, 11, 5, 3, 11, 11, 11, 11, 11, 10, 11, 12, 11, 11, 11, 11, 11, 11, 11, 11, 11, 11, 11, 11, 11]
def Zk (q : Nat) : Nat := zkL.getD q 99
def znL : List Nat := [0, 0, 0, 0, 0, 0, 6, 4, 4, 24, 0, 30, 0, 30, 2, 0, 30, 0, 30, 0, 200, 0, 0, 0, 0, 0, 6, 4, 4, 24, 0, 30, 0, 11, 0, 30, 0, 30, 0, 30, 0, 30, 0, 30, 0, 30, 0, 30, 0, 30, 0, 30, 0, 30, 0, 30, 11, 4, 4, 4, 4, 4, 4, 4, 4, 4, 4, 4, 11, 11, 11, 11, 11, 11, 11, 11, 11, 11, 11, 11, 0, 0, 30, 6, 6, 6, 6, 0, 341, 2, 200, 120, 6, 30, 4, 4, 24, 6, 8, 32, 56, 6, 6]
def Zn (q : Nat) : Nat := znL.getD q 0
def zpL : List (List Nat) := [[1, 12, 14, 19, 32, 80], [2, 3, 4, 5, 6, 7, 8, 9, 10], [], [], [], [], [], [], [], [], [11], [], [13], [], [15, 17], [16], [], [18], [], [20, 21], [], [22, 23, 24, 25, 26, 27, 28, 29, 30], [], [], [], [], [], [], [], [], [31], [], [1, 33, 56, 68], [34, 36, 38, 40, 42, 44, 46, 48, 50, 52, 54], [35], [], [37], [], [39], [], [41], [], [43], [], [45], [], [47], [], [49], [], [51], [], [53], [], [55], [], [57, 58, 59, 60, 61, 62, 63, 64, 65, 66, 67], [], [], [], [], [], [], [], [], [], [], [], [69, 70, 71, 72, 73, 74, 75, 76, 77, 78, 79], [], [], [], [], [], [], [], [], [], [], [], [1, 81, 83, 84, 85, 86], [82], [], [], [], [], [], [88, 89, 90, 0, 91, 0, 0, 92, 93, 94, 95, 0, 96, 0, 0, 0, 0, 0, 0, 97, 0, 0, 98, 99, 100, 101, 102, 0], [], [], [], [], [], [], [], [], [], [], [], [], [], [], []]
def Zp (q j : Nat) : Nat := (zpL.getD q []).getD j 0
def lif (E : HEn) (v : Value) : Value := match v with
  | .ref q => .ref (E.2.2.2 q)
  | v => v
def flds (E : HEn) (k : Nat) (f : Nat → Int32) (q : Nat) : List Value := match k with
  | 0 => []
  | 1 => [.ref (E.2.2.2 (Zp q 0)), .ref (E.2.2.2 (Zp q 1)), .ref (E.2.2.2 (Zp q 2)), .ref (E.2.2.2 (Zp q 3)), .int (f 4), .int (f 5), .int (f 6), .int (f 7)]
  | 2 => []
  | 3 => [.ref (E.2.2.2 (Zp q 0)), .int (f 1)]
  | 4 => []
  | 5 => [.ref (E.2.2.2 (Zp q 0)), .ref (E.2.2.2 (Zp q 1)), .ref (E.2.2.2 (Zp q 2)), .ref (E.2.2.2 (Zp q 3)), .ref (E.2.2.2 (Zp q 4)), .ref (E.2.2.2 (Zp q 5)), .int (f 6), .int (f 7), .int (f 8)]
  | 6 => [.ref (E.2.2.2 (Zp q 0)), .ref (E.2.2.2 (Zp q 1)), .int (f 2), .int (f 3), .int (f 4), .int (f 5), .int (f 6), .int (f 7)]
  | 7 => [.ref (E.2.2.2 (Zp q 0)), .ref (E.2.2.2 (Zp q 1)), .ref (E.2.2.2 (Zp q 2)), .ref (E.2.2.2 (Zp q 3)), .ref (E.2.2.2 (Zp q 4)), .ref (E.2.2.2 (Zp q 5)), .ref (E.2.2.2 (Zp q 6)), .ref (E.2.2.2 (Zp q 7)), .ref (E.2.2.2 (Zp q 8)), .int (f 9), .int (f 10), .int (f 11)]
  | 8 => []
  | 9 => [.ref (E.2.2.2 (Zp q 0)), .ref (E.2.2.2 (Zp q 1)), .ref (E.2.2.2 (Zp q 2)), .ref (E.2.2.2 (Zp q 3)), .ref (E.2.2.2 (Zp q 4)), .ref (E.2.2.2 (Zp q 5)), .int (f 6)]
  | 10 => [.ref (E.2.2.2 (Zp q 0)), .ref (E.2.2.2 (Zp q 1)), .ref (E.2.2.2 (Zp q 2)), .int (f 3), .ref (E.2.2.2 (Zp q 4)), .int (f 5), .int (f 6), .ref (E.2.2.2 (Zp q 7)), .ref (E.2.2.2 (Zp q 8)), .ref (E.2.2.2 (Zp q 9)), .ref (E.2.2.2 (Zp q 10)), .int (f 11), .ref (E.2.2.2 (Zp q 12)), .int (f 13), .int (f 14), .int (f 15), .int (f 16), .int (f 17), .int (f 18), .ref (E.2.2.2 (Zp q 19)), .int (f 20), .int (f 21), .ref (E.2.2.2 (Zp q 22)), .ref (E.2.2.2 (Zp q 23)), .ref (E.2.2.2 (Zp q 24)), .ref (E.2.2.2 (Zp q 25)), .ref (E.2.2.2 (Zp q 26)), .int (f 27)]
  | _ => []
def cel (E : HEn) (f : Nat → Int32) (q : Nat) : va_E := match Zk q with
  | 11 => .inl (E.2.2.1.1, Zn q, .inl f)
  | 12 => .inl (E.2.2.1.2.1, Zn q, .inl f)
  | 13 => .inl (E.2.2.1.2.2.1, Zn q, .inr (.inr (.inr (.inr (fun j => some (E.2.2.2 (Zp q j)))))))
  | 14 => .inl (E.2.2.1.2.2.2, Zn q, .inr (.inr (.inr (.inr (fun j => some (E.2.2.2 (Zp q j)))))))
  | k => .inr (k, flds E k f q)
def wld (E : HEn) (I : HIh) : va_W := (List.range NL).map (fun q => (E.2.2.2 q, cel E (I q) q))
def tysE (E : HEn) : List (ClassId × FieldType) := [(E.2.2.1.1, .int), (E.2.2.1.2.1, .boolean), (E.2.2.1.2.2.1, .object "ThrownCoins$Lot"), (E.2.2.1.2.2.2, .array .int)]
/-- one cell's contents anew -/
def setI (I : HIh) (q : Nat) (f : Nat → Int32) : HIh := fun a => if a = q then f else I a
theorem setI_same (I : HIh) (q : Nat) (f : Nat → Int32) : setI I q f q = f := if_pos rfl
theorem setI_ne (I : HIh) {q a : Nat} (f : Nat → Int32) (h : a ≠ q) : setI I q f a = I a := if_neg h
theorem setI_setI (I : HIh) (q : Nat) (f g : Nat → Int32) : setI (setI I q f) q g = setI I q g := by
  funext a; unfold setI; by_cases h : a = q <;> simp [h]
theorem setI_id (I : HIh) (q : Nat) : setI I q (I q) = I := by
  funext a; unfold setI; by_cases h : a = q <;> simp [h]
theorem setI_comm (I : HIh) {q r : Nat} (f g : Nat → Int32) (h : q ≠ r) : setI (setI I q f) r g = setI (setI I r g) q f := by
  funext a; unfold setI; by_cases h1 : a = q <;> by_cases h2 : a = r <;> simp_all
theorem wld_len (E : HEn) (I : HIh) : (wld E I).length = NL := by simp [wld]
theorem wld_get {E : HEn} {I : HIh} {q : Nat} (hq : q < NL) : (wld E I)[q]? = some (E.2.2.2 q, cel E (I q) q) := by
  unfold wld; rw [List.getElem?_map, List.getElem?_range hq]; rfl
theorem wld_set {E : HEn} {I : HIh} {q : Nat} (f : Nat → Int32) : (wld E I).set q (E.2.2.2 q, cel E f q) = wld E (setI I q f) := by
  apply List.ext_getElem?
  intro i
  rw [List.getElem?_set]
  by_cases hi : i < NL
  · rw [wld_get hi, wld_get hi]
    by_cases e : q = i
    · subst e; simp [wld_len, hi, setI_same]
    · rw [if_neg e, setI_ne I f (fun h => e h.symm)]
  · have h1 : ∀ J : HIh, (wld E J)[i]? = none := fun J => List.getElem?_eq_none (by rw [wld_len]; omega)
    rw [h1, h1]
    by_cases e : q = i
    · subst e; simp [wld_len, hi]
    · rw [if_neg e]
theorem wld_D {E : HEn} {A : Nat → Prop} (I : HIh) (inj : ∀ i j, i < NL → j < NL → E.2.2.2 i = E.2.2.2 j → i = j) (hA : ∀ q, q < NL → A (E.2.2.2 q)) : va_D A (wld E I) := by
  have key : ∀ (i : Nat) (p : Nat × va_E), (wld E I)[i]? = some p → i < NL ∧ p.1 = E.2.2.2 i := by
    intro i p h
    have hi : i < NL := by rw [← wld_len E I]; exact (List.getElem?_eq_some_iff.mp h).1
    rw [wld_get hi] at h
    cases h
    exact ⟨hi, rfl⟩
  refine ⟨fun i j p q hi hj h => ?_, fun k q hk => ?_⟩
  · obtain ⟨a1, a2⟩ := key i p hi
    obtain ⟨b1, b2⟩ := key j q hj
    exact inj i j a1 b1 (by rw [← a2, ← b2]; exact h)
  · obtain ⟨a1, a2⟩ := key k q hk
    rw [a2]; exact hA k a1
theorem lif_cat (E : HEn) (v : Value) : (lif E v).category = v.category := by cases v <;> rfl
abbrev lifP (E : HEn) : Nat × Value → Nat × Value := fun q => (q.1, lif E q.2)
/-- a local's new value, a word and two -/
def stoL (i : Nat) (v : Value) (L : List (Nat × Value)) : List (Nat × Value) := (i, v) :: L.filter (fun q => !(q.1 == i) && !(q.1 + 1 == i && q.2.category == 2))
def stoL2 (i : Nat) (v : Value) (L : List (Nat × Value)) : List (Nat × Value) := (i, v) :: L.filter (fun q => !(q.1 == i) && (!(q.1 == i + 1) && !(q.1 + 1 == i && q.2.category == 2)))
theorem stoL_lif (E : HEn) (i : Nat) (v : Value) (L : List (Nat × Value)) : (i, lif E v) :: (L.map (lifP E)).filter (fun q => !(q.1 == i) && !(q.1 + 1 == i && q.2.category == 2)) = (stoL i v L).map (lifP E) := by
  unfold stoL
  rw [List.map_cons, List.filter_map]
  congr 2
  apply List.filter_congr
  intro q _
  simp [Function.comp, lif_cat]
theorem stoL2_lif (E : HEn) (i : Nat) (v : Value) (L : List (Nat × Value)) : (i, lif E v) :: (L.map (lifP E)).filter (fun q => !(q.1 == i) && (!(q.1 == i + 1) && !(q.1 + 1 == i && q.2.category == 2))) = (stoL2 i v L).map (lifP E) := by
  unfold stoL2
  rw [List.map_cons, List.filter_map]
  congr 2
  apply List.filter_congr
  intro q _
  simp [Function.comp, lif_cat]
/-! words that a callee cannot be given by its list: they stand in its start -/
def nwF : List (String × Nat × String × String × String × String) := [("ThrownCoins$Foretelling", 37, "ThrownCoins$Lot", "gone", "I", "ThrownCoins"), ("ThrownCoins$Told", 80, "ThrownCoins$Lot", "gone", "I", "ThrownCoins"), ("ThrownCoins", 139, "ThrownCoins$Lot", "gone", "I", "ThrownCoins"), ("ThrownCoins$Foretelling", 83, "ThrownCoins$Told", "greedy", "LThrownCoins$Folk;", "ThrownCoins"), ("ThrownCoins", 70, "ThrownCoins$Told", "atFirst", "LThrownCoins$Lot;", "ThrownCoins"), ("ThrownCoins$Text", 127, "ThrownCoins$Told", "atFirst", "LThrownCoins$Lot;", "ThrownCoins"), ("ThrownCoins$Thrower", 15, "ThrownCoins$Told", "kinds", "I", "ThrownCoins"), ("ThrownCoins$Notes", 45, "ThrownCoins$Told", "kinds", "I", "ThrownCoins"), ("ThrownCoins$Foretelling", 93, "ThrownCoins$Told", "kinds", "I", "ThrownCoins"), ("ThrownCoins$Text", 136, "ThrownCoins$Told", "kinds", "I", "ThrownCoins"), ("ThrownCoins", 190, "ThrownCoins$Told", "kinds", "I", "ThrownCoins"), ("ThrownCoins$Foretelling", 40, "ThrownCoins$Told", "visitCount", "I", "ThrownCoins"), ("ThrownCoins", 146, "ThrownCoins$Told", "visitCount", "I", "ThrownCoins"), ("ThrownCoins$Text", 153, "ThrownCoins$Told", "visitCount", "I", "ThrownCoins"), ("ThrownCoins$Text", 159, "ThrownCoins$Told", "law", "I", "ThrownCoins"), ("ThrownCoins", 208, "ThrownCoins$Told", "law", "I", "ThrownCoins"), ("ThrownCoins", 64, "ThrownCoins$Text", "draft", "LThrownCoins$Told;", "ThrownCoins"), ("ThrownCoins", 50, "ThrownCoins$Text", "length", "I", "ThrownCoins"), ("ThrownCoins", 85, "ThrownCoins$Text", "lines", "I", "ThrownCoins"), ("ThrownCoins", 76, "ThrownCoins$Notes", "size", "I", "ThrownCoins"), ("ThrownCoins", 196, "ThrownCoins$Notes", "layings", "I", "ThrownCoins"), ("ThrownCoins", 199, "ThrownCoins$Notes", "first", "I", "ThrownCoins")]
def nwM : List (String × Nat × MethodName × String) := [("ThrownCoins$Told", 11, ⟨"ThrownCoins$Never", "<init>", "()V"⟩, "ThrownCoins"), ("ThrownCoins$Never", 3, ⟨"ThrownCoins$Folk", "<init>", "()V"⟩, "ThrownCoins"), ("ThrownCoins$Told", 20, ⟨"ThrownCoins$Greedy", "<init>", "()V"⟩, "ThrownCoins"), ("ThrownCoins$Greedy", 3, ⟨"ThrownCoins$Thrower", "<init>", "()V"⟩, "ThrownCoins"), ("ThrownCoins$Thrower", 3, ⟨"ThrownCoins$Folk", "<init>", "()V"⟩, "ThrownCoins"), ("ThrownCoins$Told", 26, ⟨"ThrownCoins$Waiting", "<init>", "()V"⟩, "ThrownCoins"), ("ThrownCoins$Waiting", 3, ⟨"ThrownCoins$Greedy", "<init>", "()V"⟩, "ThrownCoins"), ("ThrownCoins$Told", 32, ⟨"ThrownCoins$Cheap", "<init>", "()V"⟩, "ThrownCoins"), ("ThrownCoins$Cheap", 3, ⟨"ThrownCoins$Thrower", "<init>", "()V"⟩, "ThrownCoins"), ("ThrownCoins$Told", 51, ⟨"ThrownCoins$Lot", "<init>", "()V"⟩, "ThrownCoins"), ("ThrownCoins", 18, ⟨"ThrownCoins$Lot", "<init>", "()V"⟩, "ThrownCoins"), ("ThrownCoins", 29, ⟨"ThrownCoins$Text", "<init>", "()V"⟩, "ThrownCoins"), ("ThrownCoins$Foretelling", 33, ⟨"ThrownCoins$Lot", "<init>", "()V"⟩, "ThrownCoins"), ("ThrownCoins$Notes", 11, ⟨"ThrownCoins$Lot", "<init>", "()V"⟩, "ThrownCoins"), ("ThrownCoins$Told", 76, ⟨"ThrownCoins", "isPerson", "(I)Z"⟩, "ThrownCoins"), ("ThrownCoins$Foretelling", 61, ⟨"ThrownCoins", "isPerson", "(I)Z"⟩, "ThrownCoins")]
def nwC : List (String × String) := [("ThrownCoins$Cheap", "ThrownCoins$Thrower"), ("ThrownCoins$Greedy", "ThrownCoins$Thrower"), ("ThrownCoins$Waiting", "ThrownCoins$Thrower"), ("ThrownCoins$Waiting", "ThrownCoins$Greedy")]
def nwN : List (String × String) := [("ThrownCoins$Never", "ThrownCoins$Thrower"), ("ThrownCoins$Never", "ThrownCoins$Greedy"), ("ThrownCoins$Never", "ThrownCoins$Waiting"), ("ThrownCoins$Never", "ThrownCoins$Cheap"), ("ThrownCoins$Greedy", "ThrownCoins$Never"), ("ThrownCoins$Greedy", "ThrownCoins$Waiting"), ("ThrownCoins$Greedy", "ThrownCoins$Cheap"), ("ThrownCoins$Waiting", "ThrownCoins$Never"), ("ThrownCoins$Waiting", "ThrownCoins$Cheap"), ("ThrownCoins$Cheap", "ThrownCoins$Never"), ("ThrownCoins$Cheap", "ThrownCoins$Greedy"), ("ThrownCoins$Cheap", "ThrownCoins$Waiting")]
def nwD : List MethodName := [⟨"ThrownCoins$Folk", "habit", "()I"⟩, ⟨"ThrownCoins$Folk", "wouldThrow", "(LThrownCoins$Told;LThrownCoins$Lot;I)I"⟩, ⟨"ThrownCoins$Thrower", "comparesAll", "()Z"⟩]
def strX : List (Nat × String) := [(65, "coins"), (74, "lies"), (80, "purse"), (89, "never"), (94, "greedy"), (96, "waiting"), (101, "cheap"), (103, "come"), (108, "law"), (113, "alone")]
def strLen : List Nat := [5, 4, 5, 5, 6, 7, 5, 4, 3, 5]
def strByt : List (List Int32) := [[99, 111, 105, 110, 115], [108, 105, 101, 115], [112, 117, 114, 115, 101], [110, 101, 118, 101, 114], [103, 114, 101, 101, 100, 121], [119, 97, 105, 116, 105, 110, 103], [99, 104, 101, 97, 112], [99, 111, 109, 101], [108, 97, 119], [97, 108, 111, 110, 101]]
def nestK (U : State) : Prop := (∀ q ∈ nwF, va_Nw (.fieldLinkNest q.1 q.2.1 q.2.2.1 q.2.2.2.1 q.2.2.2.2.1 q.2.2.2.2.2) U) ∧ (∀ q ∈ nwM, va_Nw (.methodLinkNest q.1 q.2.1 q.2.2.1 q.2.2.2) U) ∧ (∀ q ∈ nwC, va_Nw (.castable q.1 q.2) U) ∧ (∀ q ∈ nwN, va_Nc q.1 q.2 U) ∧ ∀ q ∈ nwD, va_Nw (.declares q) U
theorem nestK.warm {s U : State} (hW : s.WarmedH U.vm) (h : nestK s) : nestK U :=
  ⟨fun q hq => va_Nw.warmF hW (h.1 q hq), fun q hq => va_Nw.warmM hW (h.2.1 q hq), fun q hq => va_Nw.warmC hW (h.2.2.1 q hq), fun q hq => va_Nc.moved hW.alike (h.2.2.2.1 q hq), fun q hq => va_Nw.warmD hW (h.2.2.2.2 q hq)⟩
theorem nestK.same {s U : State} (e : s.vm = U.vm) (h : nestK s) : nestK U :=
  ⟨fun q hq => va_Nw.same rfl e (h.1 q hq), fun q hq => va_Nw.same rfl e (h.2.1 q hq), fun q hq => va_Nw.same rfl e (h.2.2.1 q hq), fun q hq => va_Nc.moved (e ▸ Vm.Alike.refl _) (h.2.2.2.1 q hq), fun q hq => va_Nw.same rfl e (h.2.2.2.2 q hq)⟩
/-- the literals (labels 1000 and on), and the JDK's statics that charAt reads -/
def strK (E : HEn) (A : Nat → Prop) (U : State) (H : Heap) : Prop :=
  (∃ adV : Nat → Nat, vk_S 10 strLen strByt (fun i => E.2.2.2 (1000 + i)) adV A U H) ∧ (∀ i, i < 10 → vk_R "ThrownCoins$Text" (strX.getD i (0, "")).1 (strX.getD i (0, "")).2 (E.2.2.2 (1000 + i)) U) ∧ va_Z "java/lang/String" "COMPACT_STRINGS" "Z" (.int 1) A U H ∧ va_Zq "jdk/internal/util/Preconditions" "SIOOBE_FORMATTER" "Ljava/util/function/BiFunction;" A U H
theorem strK.warm {E : HEn} {A : Nat → Prop} {s U : State} {H : Heap} (hW : s.WarmedH U.vm) (h : strK E A s H) : strK E A U H := by
  obtain ⟨⟨adV, h1⟩, h2, h3, h4⟩ := h
  exact ⟨⟨adV, vk_S.moved hW.alike h1⟩, fun i hi => vk_R.warm hW (h2 i hi), va_Z.moved hW.alike h3, va_Zq.moved hW.alike h4⟩
theorem strK.same {E : HEn} {A : Nat → Prop} {s U : State} {H : Heap} (e : s.vm = U.vm) (h : strK E A s H) : strK E A U H := by
  obtain ⟨⟨adV, h1⟩, h2, h3, h4⟩ := h
  have ha : s.vm.Alike U.vm := e ▸ Vm.Alike.refl _
  exact ⟨⟨adV, vk_S.moved ha h1⟩, fun i hi => vk_R.same e.symm (h2 i hi), va_Z.moved ha h3, va_Zq.moved ha h4⟩
theorem strK.kept {E : HEn} {A : Nat → Prop} {U : State} {H H1 : Heap} (h : strK E A U H) (hq : ∀ a : Nat, a < H.size → ¬ A a → H1[a]? = H[a]?) : strK E A U H1 := by
  obtain ⟨⟨adV, h1⟩, h2, h3, h4⟩ := h
  exact ⟨⟨adV, h1.kept hq⟩, h2, h3.kept hq, h4.kept hq⟩
theorem strK.narrow {E : HEn} {A B : Nat → Prop} {U : State} {H : Heap} (h : strK E A U H) (hAB : ∀ q, B q → A q) : strK E B U H := by
  obtain ⟨⟨adV, h1⟩, h2, h3, h4⟩ := h
  exact ⟨⟨adV, vk_S.narrow h1 hAB⟩, h2, va_Z.narrow h3 hAB, va_Zq.narrow h4 hAB⟩
/-- the world's own addresses -/
def AE (E : HEn) : Nat → Prop := fun a => ∃ q, q < NL ∧ a = E.2.2.2 q
def HInj (E : HEn) : Prop := ∀ i j, i < NL → j < NL → E.2.2.2 i = E.2.2.2 j → i = j
/-- what holds in a method's frame -/
def HCx (E : HEn) (F : HFx) (me : HMe) (p : Program) (s : State) (m : MethodId) (args : Array Value) (meth : Method) (c : Code) : Prop :=
  p.tables.exec = Jvm.exec ∧ c.code = me.2.1 ∧ meth.sig.returnType = me.2.2.2 ∧ c.maxLocals = me.2.2.1 ∧ s.vm.findClass me.1.cls = some m.cls ∧ (∀ w ∈ TB, w.before args s = true) ∧ meth.locks = false ∧ va_K E.2.1 vwCl (tysE E) s ∧ nestK s ∧ strK E (F.2.2.2.1 s) s s.heap ∧ HInj E ∧ ∀ q, q < NL → F.2.2.2.1 s (E.2.2.2 q)
/-- from this place of a method, with these locals, this stack and this heap, the machine comes to the method's end -/
def HGo (E : HEn) (F : HFx) (me : HMe) (pc : Nat) (L : List (Nat × Value)) (st : List Value) (I : HIh) : Prop :=
  ∀ (p : Program) (e : Env) (s : State) (m : MethodId) (args : Array Value) (below : List Frame) (meth : Method) (c : Code) (H : Heap) (locs : List Loc) (ls : Array Slot), HCx E F me p s m args meth c → va_P E.2.1 vwCl (wld E I) H → va_S (F.2.2.2.1 s) s.heap H locs → lv_has ls me.2.2.1 (L.map (lifP E)) → W p E.1 e F.1 s m args below meth c H locs F.2.1 F.2.2.1 (F.2.2.2.2 below args s) (F0 m pc ls (st.map (lif E)))
section HST
variable {E : HEn} {F : HFx} {me : HMe} {pc : Nat} {L : List (Nat × Value)} {st : List Value} {I : HIh}
theorem h_iconst {n : Int} {v : Int32} (hd : decode me.2.1 pc = .ok (.iconst n, 1)) (hv : Int32.ofInt n = v) (h : HGo E F me (pc + 1) L (.int v :: st) I) : HGo E F me pc L st I := by
  intro p e s m args below meth c H locs ls C hP hS hl
  exact lv_iconst C.1 C.2.1 hd hv (h p e s m args below meth c H locs ls C hP hS hl)
theorem h_bipush {n : Int} {v : Int32} (hd : decode me.2.1 pc = .ok (.bipush n, 2)) (hv : (Int8.ofInt n).toInt32 = v) (h : HGo E F me (pc + 2) L (.int v :: st) I) : HGo E F me pc L st I := by
  intro p e s m args below meth c H locs ls C hP hS hl
  exact lv_bipush C.1 C.2.1 hd hv (h p e s m args below meth c H locs ls C hP hS hl)
theorem h_sipush {n : Int} {v : Int32} (hd : decode me.2.1 pc = .ok (.sipush n, 3)) (hv : (Int16.ofInt n).toInt32 = v) (h : HGo E F me (pc + 3) L (.int v :: st) I) : HGo E F me pc L st I := by
  intro p e s m args below meth c H locs ls C hP hS hl
  exact lv_sipush C.1 C.2.1 hd hv (h p e s m args below meth c H locs ls C hP hS hl)
theorem h_lconst {n : Fin 2} {v : Int64} (hd : decode me.2.1 pc = .ok (.lconst n, 1)) (hv : Int64.ofNat (n : Nat) = v) (h : HGo E F me (pc + 1) L (.long v :: st) I) : HGo E F me pc L st I := by
  intro p e s m args below meth c H locs ls C hP hS hl
  exact lv_lconst C.1 C.2.1 hd hv (h p e s m args below meth c H locs ls C hP hS hl)
theorem h_ldc {own : String} {index : Nat} {v : Int32} (hd : decode me.2.1 pc = .ok (.ldc index, 2)) (hw : Cond.constant own index v ∈ TB) (ho : own = me.1.cls) (h : HGo E F me (pc + 2) L (.int v :: st) I) : HGo E F me pc L st I := by
  intro p e s m args below meth c H locs ls C hP hS hl
  exact lv_ldc C.1 C.2.1 (ho ▸ C.2.2.2.2.1) (C.2.2.2.2.2.1 _ hw) hd (h p e s m args below meth c H locs ls C hP hS hl)
theorem h_ldc2 {own : String} {index : Nat} {v : Int64} (hd : decode me.2.1 pc = .ok (.ldc2_w index, 3)) (hw : Cond.constantLong own index v ∈ TB) (ho : own = me.1.cls) (h : HGo E F me (pc + 3) L (.long v :: st) I) : HGo E F me pc L st I := by
  intro p e s m args below meth c H locs ls C hP hS hl
  exact lv_ldc2 C.1 C.2.1 (ho ▸ C.2.2.2.2.1) (C.2.2.2.2.2.1 _ hw) hd (h p e s m args below meth c H locs ls C hP hS hl)
theorem h_iload_n {k : Fin 4} {i : Nat} {x : Int32} (hd : decode me.2.1 pc = .ok (.iload_n k, 1)) (hi : (k : Nat) = i) (n : Nat) (hn : L[n]? = some (i, .int x)) (h : HGo E F me (pc + 1) L (.int x :: st) I) : HGo E F me pc L st I := by
  intro p e s m args below meth c H locs ls C hP hS hl
  exact lv_iload_n C.1 C.2.1 hd hi (lv_at hl n (by rw [List.getElem?_map, hn]; rfl)) (h p e s m args below meth c H locs ls C hP hS hl)
theorem h_iload {i : Nat} {x : Int32} (hd : decode me.2.1 pc = .ok (.iload i, 2)) (n : Nat) (hn : L[n]? = some (i, .int x)) (h : HGo E F me (pc + 2) L (.int x :: st) I) : HGo E F me pc L st I := by
  intro p e s m args below meth c H locs ls C hP hS hl
  exact lv_iload C.1 C.2.1 hd (lv_at hl n (by rw [List.getElem?_map, hn]; rfl)) (h p e s m args below meth c H locs ls C hP hS hl)
theorem h_istore_n {k : Fin 4} {i : Nat} {x : Int32} {L' : List (Nat × Value)} (hd : decode me.2.1 pc = .ok (.istore_n k, 1)) (hi : (k : Nat) = i) (hn : i < me.2.2.1) (hL : stoL i (.int x) L = L') (h : HGo E F me (pc + 1) L' st I) : HGo E F me pc L (.int x :: st) I := by
  intro p e s m args below meth c H locs ls C hP hS hl
  subst hL
  exact lv_istore_n C.1 C.2.1 hd hi hl hn (stoL_lif E i (.int x) L) (fun ls hl => (h p e s m args below meth c H locs ls C hP hS hl))
theorem h_istore {i : Nat} {x : Int32} {L' : List (Nat × Value)} (hd : decode me.2.1 pc = .ok (.istore i, 2)) (hn : i < me.2.2.1) (hL : stoL i (.int x) L = L') (h : HGo E F me (pc + 2) L' st I) : HGo E F me pc L (.int x :: st) I := by
  intro p e s m args below meth c H locs ls C hP hS hl
  subst hL
  exact lv_istore C.1 C.2.1 hd hl hn (stoL_lif E i (.int x) L) (fun ls hl => (h p e s m args below meth c H locs ls C hP hS hl))
theorem h_lload_n {k : Fin 4} {i : Nat} {x : Int64} (hd : decode me.2.1 pc = .ok (.lload_n k, 1)) (hi : (k : Nat) = i) (n : Nat) (hn : L[n]? = some (i, .long x)) (h : HGo E F me (pc + 1) L (.long x :: st) I) : HGo E F me pc L st I := by
  intro p e s m args below meth c H locs ls C hP hS hl
  exact lv_lload_n C.1 C.2.1 hd hi (lv_at hl n (by rw [List.getElem?_map, hn]; rfl)) (h p e s m args below meth c H locs ls C hP hS hl)
theorem h_lload {i : Nat} {x : Int64} (hd : decode me.2.1 pc = .ok (.lload i, 2)) (n : Nat) (hn : L[n]? = some (i, .long x)) (h : HGo E F me (pc + 2) L (.long x :: st) I) : HGo E F me pc L st I := by
  intro p e s m args below meth c H locs ls C hP hS hl
  exact lv_lload C.1 C.2.1 hd (lv_at hl n (by rw [List.getElem?_map, hn]; rfl)) (h p e s m args below meth c H locs ls C hP hS hl)
theorem h_lstore_n {k : Fin 4} {i : Nat} {x : Int64} {L' : List (Nat × Value)} (hd : decode me.2.1 pc = .ok (.lstore_n k, 1)) (hi : (k : Nat) = i) (hn : i + 1 < me.2.2.1) (hL : stoL2 i (.long x) L = L') (h : HGo E F me (pc + 1) L' st I) : HGo E F me pc L (.long x :: st) I := by
  intro p e s m args below meth c H locs ls C hP hS hl
  subst hL
  exact lv_lstore_n C.1 C.2.1 hd hi hl hn (stoL2_lif E i (.long x) L) (fun ls hl => (h p e s m args below meth c H locs ls C hP hS hl))
theorem h_lstore {i : Nat} {x : Int64} {L' : List (Nat × Value)} (hd : decode me.2.1 pc = .ok (.lstore i, 2)) (hn : i + 1 < me.2.2.1) (hL : stoL2 i (.long x) L = L') (h : HGo E F me (pc + 2) L' st I) : HGo E F me pc L (.long x :: st) I := by
  intro p e s m args below meth c H locs ls C hP hS hl
  subst hL
  exact lv_lstore C.1 C.2.1 hd hl hn (stoL2_lif E i (.long x) L) (fun ls hl => (h p e s m args below meth c H locs ls C hP hS hl))
theorem h_aload_n {k : Fin 4} {i : Nat} {x : Nat} (hd : decode me.2.1 pc = .ok (.aload_n k, 1)) (hi : (k : Nat) = i) (n : Nat) (hn : L[n]? = some (i, .ref x)) (h : HGo E F me (pc + 1) L (.ref x :: st) I) : HGo E F me pc L st I := by
  intro p e s m args below meth c H locs ls C hP hS hl
  exact lv_aload_n C.1 C.2.1 hd hi (lv_at hl n (by rw [List.getElem?_map, hn]; rfl)) (h p e s m args below meth c H locs ls C hP hS hl)
theorem h_aload {i : Nat} {x : Nat} (hd : decode me.2.1 pc = .ok (.aload i, 2)) (n : Nat) (hn : L[n]? = some (i, .ref x)) (h : HGo E F me (pc + 2) L (.ref x :: st) I) : HGo E F me pc L st I := by
  intro p e s m args below meth c H locs ls C hP hS hl
  exact lv_aload C.1 C.2.1 hd (lv_at hl n (by rw [List.getElem?_map, hn]; rfl)) (h p e s m args below meth c H locs ls C hP hS hl)
theorem h_astore_n {k : Fin 4} {i : Nat} {x : Nat} {L' : List (Nat × Value)} (hd : decode me.2.1 pc = .ok (.astore_n k, 1)) (hi : (k : Nat) = i) (hn : i < me.2.2.1) (hL : stoL i (.ref x) L = L') (h : HGo E F me (pc + 1) L' st I) : HGo E F me pc L (.ref x :: st) I := by
  intro p e s m args below meth c H locs ls C hP hS hl
  subst hL
  exact lv_astore_n C.1 C.2.1 hd hi hl hn (stoL_lif E i (.ref x) L) (fun ls hl => (h p e s m args below meth c H locs ls C hP hS hl))
theorem h_astore {i : Nat} {x : Nat} {L' : List (Nat × Value)} (hd : decode me.2.1 pc = .ok (.astore i, 2)) (hn : i < me.2.2.1) (hL : stoL i (.ref x) L = L') (h : HGo E F me (pc + 2) L' st I) : HGo E F me pc L (.ref x :: st) I := by
  intro p e s m args below meth c H locs ls C hP hS hl
  subst hL
  exact lv_astore C.1 C.2.1 hd hl hn (stoL_lif E i (.ref x) L) (fun ls hl => (h p e s m args below meth c H locs ls C hP hS hl))
theorem h_iinc {i : Nat} {n : Int} {x v : Int32} {L' : List (Nat × Value)} (hd : decode me.2.1 pc = .ok (.iinc i n, 3)) (k : Nat) (hk : L[k]? = some (i, .int x)) (hv : x + Int32.ofInt n = v) (hn : i < me.2.2.1) (hL : stoL i (.int v) L = L') (h : HGo E F me (pc + 3) L' st I) : HGo E F me pc L st I := by
  intro p e s m args below meth c H locs ls C hP hS hl
  subst hL
  exact lv_iinc C.1 C.2.1 hd hl (k := k) (by rw [List.getElem?_map, hk]; rfl) hv hn (stoL_lif E i (.int v) L) (fun ls hl => (h p e s m args below meth c H locs ls C hP hS hl))
theorem h_iadd {x y : Int32} (hd : decode me.2.1 pc = .ok (.iadd, 1)) (h : HGo E F me (pc + 1) L (.int (x + y) :: st) I) : HGo E F me pc L (.int y :: .int x :: st) I := by
  intro p e s m args below meth c H locs ls C hP hS hl
  exact lv_iadd C.1 C.2.1 hd (h p e s m args below meth c H locs ls C hP hS hl)
theorem h_isub {x y : Int32} (hd : decode me.2.1 pc = .ok (.isub, 1)) (h : HGo E F me (pc + 1) L (.int (x - y) :: st) I) : HGo E F me pc L (.int y :: .int x :: st) I := by
  intro p e s m args below meth c H locs ls C hP hS hl
  exact lv_isub C.1 C.2.1 hd (h p e s m args below meth c H locs ls C hP hS hl)
theorem h_imul {x y : Int32} (hd : decode me.2.1 pc = .ok (.imul, 1)) (h : HGo E F me (pc + 1) L (.int (x * y) :: st) I) : HGo E F me pc L (.int y :: .int x :: st) I := by
  intro p e s m args below meth c H locs ls C hP hS hl
  exact lv_imul C.1 C.2.1 hd (h p e s m args below meth c H locs ls C hP hS hl)
theorem h_iand {x y : Int32} (hd : decode me.2.1 pc = .ok (.iand, 1)) (h : HGo E F me (pc + 1) L (.int (x &&& y) :: st) I) : HGo E F me pc L (.int y :: .int x :: st) I := by
  intro p e s m args below meth c H locs ls C hP hS hl
  exact lv_iand C.1 C.2.1 hd (h p e s m args below meth c H locs ls C hP hS hl)
theorem h_ior {x y : Int32} (hd : decode me.2.1 pc = .ok (.ior, 1)) (h : HGo E F me (pc + 1) L (.int (x ||| y) :: st) I) : HGo E F me pc L (.int y :: .int x :: st) I := by
  intro p e s m args below meth c H locs ls C hP hS hl
  exact lv_ior C.1 C.2.1 hd (h p e s m args below meth c H locs ls C hP hS hl)
theorem h_ixor {x y : Int32} (hd : decode me.2.1 pc = .ok (.ixor, 1)) (h : HGo E F me (pc + 1) L (.int (x ^^^ y) :: st) I) : HGo E F me pc L (.int y :: .int x :: st) I := by
  intro p e s m args below meth c H locs ls C hP hS hl
  exact lv_ixor C.1 C.2.1 hd (h p e s m args below meth c H locs ls C hP hS hl)
theorem h_ishl {x y : Int32} (hd : decode me.2.1 pc = .ok (.ishl, 1)) (h : HGo E F me (pc + 1) L (.int (x <<< (y &&& 31)) :: st) I) : HGo E F me pc L (.int y :: .int x :: st) I := by
  intro p e s m args below meth c H locs ls C hP hS hl
  exact lv_ishl C.1 C.2.1 hd (h p e s m args below meth c H locs ls C hP hS hl)
theorem h_ishr {x y : Int32} (hd : decode me.2.1 pc = .ok (.ishr, 1)) (h : HGo E F me (pc + 1) L (.int (x >>> (y &&& 31)) :: st) I) : HGo E F me pc L (.int y :: .int x :: st) I := by
  intro p e s m args below meth c H locs ls C hP hS hl
  exact lv_ishr C.1 C.2.1 hd (h p e s m args below meth c H locs ls C hP hS hl)
theorem h_idiv {x y : Int32} (hd : decode me.2.1 pc = .ok (.idiv, 1)) (hz : ¬ y = 0) (h : HGo E F me (pc + 1) L (.int (x / y) :: st) I) : HGo E F me pc L (.int y :: .int x :: st) I := by
  intro p e s m args below meth c H locs ls C hP hS hl
  exact lv_idiv C.1 C.2.1 hd hz (h p e s m args below meth c H locs ls C hP hS hl)
theorem h_irem {x y : Int32} (hd : decode me.2.1 pc = .ok (.irem, 1)) (hz : ¬ y = 0) (h : HGo E F me (pc + 1) L (.int (x - x / y * y) :: st) I) : HGo E F me pc L (.int y :: .int x :: st) I := by
  intro p e s m args below meth c H locs ls C hP hS hl
  exact lv_irem C.1 C.2.1 hd hz (h p e s m args below meth c H locs ls C hP hS hl)
theorem h_ineg {x : Int32} (hd : decode me.2.1 pc = .ok (.ineg, 1)) (h : HGo E F me (pc + 1) L (.int (-x) :: st) I) : HGo E F me pc L (.int x :: st) I := by
  intro p e s m args below meth c H locs ls C hP hS hl
  exact lv_ineg C.1 C.2.1 hd (h p e s m args below meth c H locs ls C hP hS hl)
theorem h_ladd {x y : Int64} (hd : decode me.2.1 pc = .ok (.ladd, 1)) (h : HGo E F me (pc + 1) L (.long (x + y) :: st) I) : HGo E F me pc L (.long y :: .long x :: st) I := by
  intro p e s m args below meth c H locs ls C hP hS hl
  exact lv_ladd C.1 C.2.1 hd (h p e s m args below meth c H locs ls C hP hS hl)
theorem h_lmul {x y : Int64} (hd : decode me.2.1 pc = .ok (.lmul, 1)) (h : HGo E F me (pc + 1) L (.long (x * y) :: st) I) : HGo E F me pc L (.long y :: .long x :: st) I := by
  intro p e s m args below meth c H locs ls C hP hS hl
  exact lv_lmul C.1 C.2.1 hd (h p e s m args below meth c H locs ls C hP hS hl)
theorem h_land {x y : Int64} (hd : decode me.2.1 pc = .ok (.land, 1)) (h : HGo E F me (pc + 1) L (.long (x &&& y) :: st) I) : HGo E F me pc L (.long y :: .long x :: st) I := by
  intro p e s m args below meth c H locs ls C hP hS hl
  exact lv_land C.1 C.2.1 hd (h p e s m args below meth c H locs ls C hP hS hl)
theorem h_lor {x y : Int64} (hd : decode me.2.1 pc = .ok (.lor, 1)) (h : HGo E F me (pc + 1) L (.long (x ||| y) :: st) I) : HGo E F me pc L (.long y :: .long x :: st) I := by
  intro p e s m args below meth c H locs ls C hP hS hl
  exact lv_lor C.1 C.2.1 hd (h p e s m args below meth c H locs ls C hP hS hl)
theorem h_ldiv {x y : Int64} (hd : decode me.2.1 pc = .ok (.ldiv, 1)) (hz : ¬ y = 0) (h : HGo E F me (pc + 1) L (.long (x / y) :: st) I) : HGo E F me pc L (.long y :: .long x :: st) I := by
  intro p e s m args below meth c H locs ls C hP hS hl
  exact lv_ldiv C.1 C.2.1 hd hz (h p e s m args below meth c H locs ls C hP hS hl)
theorem h_lrem {x y : Int64} (hd : decode me.2.1 pc = .ok (.lrem, 1)) (hz : ¬ y = 0) (h : HGo E F me (pc + 1) L (.long (x - x / y * y) :: st) I) : HGo E F me pc L (.long y :: .long x :: st) I := by
  intro p e s m args below meth c H locs ls C hP hS hl
  exact lv_lrem C.1 C.2.1 hd hz (h p e s m args below meth c H locs ls C hP hS hl)
theorem h_lshl {x : Int64} {y : Int32} (hd : decode me.2.1 pc = .ok (.lshl, 1)) (h : HGo E F me (pc + 1) L (.long (x <<< (y.toInt64 &&& 63)) :: st) I) : HGo E F me pc L (.int y :: .long x :: st) I := by
  intro p e s m args below meth c H locs ls C hP hS hl
  exact lv_lshl C.1 C.2.1 hd rfl (h p e s m args below meth c H locs ls C hP hS hl)
theorem h_lshr {x : Int64} {y : Int32} (hd : decode me.2.1 pc = .ok (.lshr, 1)) (h : HGo E F me (pc + 1) L (.long (x >>> (y.toInt64 &&& 63)) :: st) I) : HGo E F me pc L (.int y :: .long x :: st) I := by
  intro p e s m args below meth c H locs ls C hP hS hl
  exact lv_lshr C.1 C.2.1 hd rfl (h p e s m args below meth c H locs ls C hP hS hl)
theorem h_i2l {x : Int32} (hd : decode me.2.1 pc = .ok (.i2l, 1)) (h : HGo E F me (pc + 1) L (.long x.toInt64 :: st) I) : HGo E F me pc L (.int x :: st) I := by
  intro p e s m args below meth c H locs ls C hP hS hl
  exact lv_i2l C.1 C.2.1 hd rfl (h p e s m args below meth c H locs ls C hP hS hl)
theorem h_l2i {x : Int64} (hd : decode me.2.1 pc = .ok (.l2i, 1)) (h : HGo E F me (pc + 1) L (.int x.toInt32 :: st) I) : HGo E F me pc L (.long x :: st) I := by
  intro p e s m args below meth c H locs ls C hP hS hl
  exact lv_l2i C.1 C.2.1 hd rfl (h p e s m args below meth c H locs ls C hP hS hl)
theorem h_lcmp {x y : Int64} (hd : decode me.2.1 pc = .ok (.lcmp, 1)) (h : HGo E F me (pc + 1) L (.int (lg_cmp x y) :: st) I) : HGo E F me pc L (.long y :: .long x :: st) I := by
  intro p e s m args below meth c H locs ls C hP hS hl
  exact W.lcmp C.1 C.2.1 hd (h p e s m args below meth c H locs ls C hP hS hl)
theorem h_dup {v : Value} (hd : decode me.2.1 pc = .ok (.dup, 1)) (hv : v.category = 1) (h : HGo E F me (pc + 1) L (v :: v :: st) I) : HGo E F me pc L (v :: st) I := by
  intro p e s m args below meth c H locs ls C hP hS hl
  exact lv_dup C.1 C.2.1 hd ((lif_cat E v).trans hv) (h p e s m args below meth c H locs ls C hP hS hl)
theorem h_pop {v : Value} (hd : decode me.2.1 pc = .ok (.pop, 1)) (hv : v.category = 1) (h : HGo E F me (pc + 1) L st I) : HGo E F me pc L (v :: st) I := by
  intro p e s m args below meth c H locs ls C hP hS hl
  exact lv_pop C.1 C.2.1 hd ((lif_cat E v).trans hv) (h p e s m args below meth c H locs ls C hP hS hl)
theorem h_dup2 {v w : Value} (hd : decode me.2.1 pc = .ok (.dup2, 1)) (hv : v.category = 1) (hw : w.category = 1) (h : HGo E F me (pc + 1) L (v :: w :: v :: w :: st) I) : HGo E F me pc L (v :: w :: st) I := by
  intro p e s m args below meth c H locs ls C hP hS hl
  exact lv_dup2_11 C.1 C.2.1 hd ((lif_cat E v).trans hv) ((lif_cat E w).trans hw) (h p e s m args below meth c H locs ls C hP hS hl)
theorem h_goto {off : Int} {tgt : Nat} (hd : decode me.2.1 pc = .ok (.goto off, 3)) (ht : (pc : Int) + off = (tgt : Int)) (h : HGo E F me tgt L st I) : HGo E F me pc L st I := by
  intro p e s m args below meth c H locs ls C hP hS hl
  exact lv_goto C.1 C.2.1 hd ht (h p e s m args below meth c H locs ls C hP hS hl)
theorem h_if_eq {x : Int32} {off : Int} {tgt : Nat} (hd : decode me.2.1 pc = .ok (.ifCond .eq off, 3)) (ht : (pc : Int) + off = (tgt : Int)) (kt : x = 0 → HGo E F me tgt L st I) (kf : ¬ x = 0 → HGo E F me (pc + 3) L st I) : HGo E F me pc L (.int x :: st) I := by
  intro p e s m args below meth c H locs ls C hP hS hl
  exact lv_if_eq C.1 C.2.1 hd ht (fun q => kt q p e s m args below meth c H locs ls C hP hS hl) (fun q => kf q p e s m args below meth c H locs ls C hP hS hl)
theorem h_if_ne {x : Int32} {off : Int} {tgt : Nat} (hd : decode me.2.1 pc = .ok (.ifCond .ne off, 3)) (ht : (pc : Int) + off = (tgt : Int)) (kt : ¬ x = 0 → HGo E F me tgt L st I) (kf : x = 0 → HGo E F me (pc + 3) L st I) : HGo E F me pc L (.int x :: st) I := by
  intro p e s m args below meth c H locs ls C hP hS hl
  exact lv_if_ne C.1 C.2.1 hd ht (fun q => kt q p e s m args below meth c H locs ls C hP hS hl) (fun q => kf q p e s m args below meth c H locs ls C hP hS hl)
theorem h_if_lt {x : Int32} {off : Int} {tgt : Nat} (hd : decode me.2.1 pc = .ok (.ifCond .lt off, 3)) (ht : (pc : Int) + off = (tgt : Int)) (kt : x < 0 → HGo E F me tgt L st I) (kf : ¬ x < 0 → HGo E F me (pc + 3) L st I) : HGo E F me pc L (.int x :: st) I := by
  intro p e s m args below meth c H locs ls C hP hS hl
  exact lv_if_lt C.1 C.2.1 hd ht (fun q => kt q p e s m args below meth c H locs ls C hP hS hl) (fun q => kf q p e s m args below meth c H locs ls C hP hS hl)
theorem h_if_ge {x : Int32} {off : Int} {tgt : Nat} (hd : decode me.2.1 pc = .ok (.ifCond .ge off, 3)) (ht : (pc : Int) + off = (tgt : Int)) (kt : 0 ≤ x → HGo E F me tgt L st I) (kf : ¬ 0 ≤ x → HGo E F me (pc + 3) L st I) : HGo E F me pc L (.int x :: st) I := by
  intro p e s m args below meth c H locs ls C hP hS hl
  exact lv_if_ge C.1 C.2.1 hd ht (fun q => kt q p e s m args below meth c H locs ls C hP hS hl) (fun q => kf q p e s m args below meth c H locs ls C hP hS hl)
theorem h_if_gt {x : Int32} {off : Int} {tgt : Nat} (hd : decode me.2.1 pc = .ok (.ifCond .gt off, 3)) (ht : (pc : Int) + off = (tgt : Int)) (kt : 0 < x → HGo E F me tgt L st I) (kf : ¬ 0 < x → HGo E F me (pc + 3) L st I) : HGo E F me pc L (.int x :: st) I := by
  intro p e s m args below meth c H locs ls C hP hS hl
  exact lv_if_gt C.1 C.2.1 hd ht (fun q => kt q p e s m args below meth c H locs ls C hP hS hl) (fun q => kf q p e s m args below meth c H locs ls C hP hS hl)
theorem h_if_le {x : Int32} {off : Int} {tgt : Nat} (hd : decode me.2.1 pc = .ok (.ifCond .le off, 3)) (ht : (pc : Int) + off = (tgt : Int)) (kt : x ≤ 0 → HGo E F me tgt L st I) (kf : ¬ x ≤ 0 → HGo E F me (pc + 3) L st I) : HGo E F me pc L (.int x :: st) I := by
  intro p e s m args below meth c H locs ls C hP hS hl
  exact lv_if_le C.1 C.2.1 hd ht (fun q => kt q p e s m args below meth c H locs ls C hP hS hl) (fun q => kf q p e s m args below meth c H locs ls C hP hS hl)
theorem h_icmp_eq {x y : Int32} {off : Int} {tgt : Nat} (hd : decode me.2.1 pc = .ok (.if_icmp .eq off, 3)) (ht : (pc : Int) + off = (tgt : Int)) (kt : x = y → HGo E F me tgt L st I) (kf : ¬ x = y → HGo E F me (pc + 3) L st I) : HGo E F me pc L (.int y :: .int x :: st) I := by
  intro p e s m args below meth c H locs ls C hP hS hl
  exact lv_icmp_eq C.1 C.2.1 hd ht (fun q => kt q p e s m args below meth c H locs ls C hP hS hl) (fun q => kf q p e s m args below meth c H locs ls C hP hS hl)
theorem h_icmp_ne {x y : Int32} {off : Int} {tgt : Nat} (hd : decode me.2.1 pc = .ok (.if_icmp .ne off, 3)) (ht : (pc : Int) + off = (tgt : Int)) (kt : ¬ x = y → HGo E F me tgt L st I) (kf : x = y → HGo E F me (pc + 3) L st I) : HGo E F me pc L (.int y :: .int x :: st) I := by
  intro p e s m args below meth c H locs ls C hP hS hl
  exact lv_icmp_ne C.1 C.2.1 hd ht (fun q => kt q p e s m args below meth c H locs ls C hP hS hl) (fun q => kf q p e s m args below meth c H locs ls C hP hS hl)
theorem h_icmp_lt {x y : Int32} {off : Int} {tgt : Nat} (hd : decode me.2.1 pc = .ok (.if_icmp .lt off, 3)) (ht : (pc : Int) + off = (tgt : Int)) (kt : x < y → HGo E F me tgt L st I) (kf : ¬ x < y → HGo E F me (pc + 3) L st I) : HGo E F me pc L (.int y :: .int x :: st) I := by
  intro p e s m args below meth c H locs ls C hP hS hl
  exact lv_icmp_lt C.1 C.2.1 hd ht (fun q => kt q p e s m args below meth c H locs ls C hP hS hl) (fun q => kf q p e s m args below meth c H locs ls C hP hS hl)
theorem h_icmp_ge {x y : Int32} {off : Int} {tgt : Nat} (hd : decode me.2.1 pc = .ok (.if_icmp .ge off, 3)) (ht : (pc : Int) + off = (tgt : Int)) (kt : y ≤ x → HGo E F me tgt L st I) (kf : ¬ y ≤ x → HGo E F me (pc + 3) L st I) : HGo E F me pc L (.int y :: .int x :: st) I := by
  intro p e s m args below meth c H locs ls C hP hS hl
  exact lv_icmp_ge C.1 C.2.1 hd ht (fun q => kt q p e s m args below meth c H locs ls C hP hS hl) (fun q => kf q p e s m args below meth c H locs ls C hP hS hl)
theorem h_icmp_gt {x y : Int32} {off : Int} {tgt : Nat} (hd : decode me.2.1 pc = .ok (.if_icmp .gt off, 3)) (ht : (pc : Int) + off = (tgt : Int)) (kt : y < x → HGo E F me tgt L st I) (kf : ¬ y < x → HGo E F me (pc + 3) L st I) : HGo E F me pc L (.int y :: .int x :: st) I := by
  intro p e s m args below meth c H locs ls C hP hS hl
  exact lv_icmp_gt C.1 C.2.1 hd ht (fun q => kt q p e s m args below meth c H locs ls C hP hS hl) (fun q => kf q p e s m args below meth c H locs ls C hP hS hl)
theorem h_icmp_le {x y : Int32} {off : Int} {tgt : Nat} (hd : decode me.2.1 pc = .ok (.if_icmp .le off, 3)) (ht : (pc : Int) + off = (tgt : Int)) (kt : x ≤ y → HGo E F me tgt L st I) (kf : ¬ x ≤ y → HGo E F me (pc + 3) L st I) : HGo E F me pc L (.int y :: .int x :: st) I := by
  intro p e s m args below meth c H locs ls C hP hS hl
  exact lv_icmp_le C.1 C.2.1 hd ht (fun q => kt q p e s m args below meth c H locs ls C hP hS hl) (fun q => kf q p e s m args below meth c H locs ls C hP hS hl)
theorem h_tswIn {dflt lo hi : Int} {offs : Array Int} {len : Nat} {x : Int32} {off : Int} {tgt : Nat} (v : Int) (hd : decode me.2.1 pc = .ok (.tableswitch dflt lo hi offs, len)) (hx : x.toInt = v) (h1 : lo ≤ v) (h2 : v ≤ hi) (ho : offs[(v - lo).toNat]? = some off) (ht : (pc : Int) + off = (tgt : Int)) (h : HGo E F me tgt L st I) : HGo E F me pc L (.int x :: st) I := by
  intro p e s m args below meth c H locs ls C hP hS hl
  exact lv_tableIn C.1 C.2.1 hd (by rw [hx]; omega) (by rw [hx]; omega) (by rw [hx]; exact ho) ht (h p e s m args below meth c H locs ls C hP hS hl)
theorem h_tswOut {dflt lo hi : Int} {offs : Array Int} {len : Nat} {x : Int32} {tgt : Nat} (hd : decode me.2.1 pc = .ok (.tableswitch dflt lo hi offs, len)) (hx : x.toInt < lo ∨ hi < x.toInt) (ht : (pc : Int) + dflt = (tgt : Int)) (h : HGo E F me tgt L st I) : HGo E F me pc L (.int x :: st) I := by
  intro p e s m args below meth c H locs ls C hP hS hl
  exact lv_tableOut C.1 C.2.1 hd hx ht (h p e s m args below meth c H locs ls C hP hS hl)
theorem h_sub (L' : List (Nat × Value)) (hs : ∀ q ∈ L', q ∈ L) (h : HGo E F me pc L' st I) : HGo E F me pc L st I := by
  intro p e s m args below meth c H locs ls C hP hS hl
  exact h p e s m args below meth c H locs ls C hP hS ⟨hl.1, hl.2.1, fun q hq => by
    obtain ⟨z, hz, rfl⟩ := List.mem_map.mp hq
    exact hl.2.2 _ (List.mem_map.mpr ⟨z, hs z hz, rfl⟩)⟩
theorem cel_obj {k q : Nat} {f : Nat → Int32} (hk : Zk q = k) (h : k < 11) : cel E f q = .inr (k, flds E k f q) := by
  unfold cel
  rw [hk]
  match k, h with
  | 0, _ => rfl
  | 1, _ => rfl
  | 2, _ => rfl
  | 3, _ => rfl
  | 4, _ => rfl
  | 5, _ => rfl
  | 6, _ => rfl
  | 7, _ => rfl
  | 8, _ => rfl
  | 9, _ => rfl
  | 10, _ => rfl
  | k + 11, h => omega
theorem cel_11 {q : Nat} {f : Nat → Int32} (hk : Zk q = 11) : cel E f q = .inl (E.2.2.1.1, Zn q, .inl f) := by unfold cel; rw [hk]; rfl
theorem cel_12 {q : Nat} {f : Nat → Int32} (hk : Zk q = 12) : cel E f q = .inl (E.2.2.1.2.1, Zn q, .inl f) := by unfold cel; rw [hk]; rfl
theorem cel_13 {q : Nat} {f : Nat → Int32} (hk : Zk q = 13) : cel E f q = .inl (E.2.2.1.2.2.1, Zn q, .inr (.inr (.inr (.inr (fun j => some (E.2.2.2 (Zp q j))))))) := by unfold cel; rw [hk]; rfl
theorem cel_14 {q : Nat} {f : Nat → Int32} (hk : Zk q = 14) : cel E f q = .inl (E.2.2.1.2.2.2, Zn q, .inr (.inr (.inr (.inr (fun j => some (E.2.2.2 (Zp q j))))))) := by unfold cel; rw [hk]; rfl
theorem wget {k q : Nat} (hq : q < NL) (hk : Zk q = k) (h : k < 11) : (wld E I)[q]? = some (E.2.2.2 q, .inr (k, flds E k (I q) q)) := by rw [wld_get hq, cel_obj hk h]
/-- a field's link, a class's own or a nest mate's -/
def HLink (own : String) (index : Nat) (ref : String) (n d : String) : Prop := Cond.fieldLink own index ref n d ∈ TB ∨ ∃ hh, (own, index, ref, n, d, hh) ∈ nwF
theorem h_get {ci N j q index : Nat} {C ref : String} {T : u_T} {v v' : Value} (hd : decode me.2.1 pc = .ok (.getfield index, 3)) (hw : HLink me.1.cls index ref (T j).2.1 (T j).2.2.1) (hc : vwCl[ci]? = some (C, T, N)) (hin : ∀ w ∈ u_ws C T N, w ∈ TB) (hj : j < N) (hr : ref = (T j).1) (hci : ci < 11) (hq : q < NL) (hk : Zk q = ci) (hv : (flds E ci (I q) q)[j]? = some v') (hv' : v' = lif E v) (h : HGo E F me (pc + 3) L (v :: st) I) : HGo E F me pc L (.ref q :: st) I := by
  intro p e s m args below meth c H locs ls C0 hP hS hl
  subst hv'
  have hts : ∀ w ∈ TB, w.before args s = true := C0.2.2.2.2.2.1
  rcases hw with hw | ⟨hh, hw⟩
  · exact va_get C0.1 C0.2.1 hts hin C0.2.2.2.2.1 C0.2.2.2.2.2.2.2.1 hP q (wget hq hk hci) hc j hj (hts _ hw) (fun x hx => by rw [hr]; exact hx) hv hd (h p e s m args below meth c H locs ls C0 hP hS hl)
  · exact va_getN C0.1 C0.2.1 hts hin C0.2.2.2.2.1 C0.2.2.2.2.2.2.2.1 hP q (wget hq hk hci) hc j hj (va_Nw.use rfl (C0.2.2.2.2.2.2.2.2.1.1 _ hw)) (fun x hx => by rw [hr]; exact hx) hv hd (h p e s m args below meth c H locs ls C0 hP hS hl)
theorem h_put {ci N j q index : Nat} {C ref : String} {T : u_T} {x : Int32} {ty0 : Nat → FieldType} (hd : decode me.2.1 pc = .ok (.putfield index, 3)) (hw : HLink me.1.cls index ref (T j).2.1 (T j).2.2.1) (hc : vwCl[ci]? = some (C, T, N)) (hin : ∀ w ∈ u_ws C T N, w ∈ TB) (hty : ∀ k, k < N → parseFieldDescriptor (T k).2.2.1 = some (ty0 k)) (hnm : ∀ a, a < N → ∀ b, b < N → a ≠ b → (T a).2.1 ≠ (T b).2.1) (hj : j < N) (hr : ref = (T j).1) (hci : ci < 11) (hq : q < NL) (hk : Zk q = ci) (hfin : (T j).2.2.2 = false) (hdsc : parseFieldDescriptor (T j).2.2.1 = some .int) (hfl : (flds E ci (I q) q).set j (.int x) = flds E ci (upd (I q) j x) q) (hlen : (flds E ci (I q) q).length = N) (h : HGo E F me (pc + 3) L st (setI I q (upd (I q) j x))) : HGo E F me pc L (.int x :: .ref q :: st) I := by
  intro p e s m args below meth c H locs ls C0 hP hS hl
  have hts : ∀ w ∈ TB, w.before args s = true := C0.2.2.2.2.2.1
  have hD : va_D (F.2.2.2.1 s) (wld E I) := wld_D I C0.2.2.2.2.2.2.2.2.2.2.1 C0.2.2.2.2.2.2.2.2.2.2.2
  have hset : (wld E I).set q (E.2.2.2 q, .inr (ci, (flds E ci (I q) q).set j (.int x))) = wld E (setI I q (upd (I q) j x)) := by
    rw [hfl, ← cel_obj (E := E) hk hci]; exact wld_set _
  rcases hw with hw | ⟨hh, hw⟩
  · refine va_put C0.1 C0.2.1 hts hin ty0 hty hnm C0.2.2.2.2.1 C0.2.2.2.2.2.2.2.1 hP hD hS q (wget hq hk hci) hc j hj (hts _ hw) (fun y hy => by rw [hr]; exact hy) hfin (ty := .int) (v := .int x) hdsc rfl rfl (by rw [hlen]; exact hj) hd (fun H1 locs1 hP1 hD1 hS1 => ?_)
    rw [hset] at hP1
    exact h p e s m args below meth c H1 locs1 ls C0 hP1 hS1 hl
  · refine va_putN C0.1 C0.2.1 hts hin ty0 hty hnm C0.2.2.2.2.1 C0.2.2.2.2.2.2.2.1 hP hD hS q (wget hq hk hci) hc j hj (va_Nw.use rfl (C0.2.2.2.2.2.2.2.2.1.1 _ hw)) (fun y hy => by rw [hr]; exact hy) hfin (ty := .int) (v := .int x) hdsc rfl rfl (by rw [hlen]; exact hj) hd (fun H1 locs1 hP1 hD1 hS1 => ?_)
    rw [hset] at hP1
    exact h p e s m args below meth c H1 locs1 ls C0 hP1 hS1 hl
theorem h_iald {q : Nat} {i : Int32} (hd : decode me.2.1 pc = .ok (.iaload, 1)) (hq : q < NL) (hk : Zk q = 11) (hi : vp_in i (Zn q)) (h : HGo E F me (pc + 1) L (.int (I q i.toNatClampNeg) :: st) I) : HGo E F me pc L (.int i :: .ref q :: st) I := by
  intro p e s m args below meth c H locs ls C hP hS hl
  exact va_iald C.1 C.2.1 C.2.2.2.2.2.2.2.1 hP q 0 (by rw [wld_get hq, cel_11 hk]) rfl hi hd (h p e s m args below meth c H locs ls C hP hS hl)
theorem h_zald {q : Nat} {i : Int32} (hd : decode me.2.1 pc = .ok (.baload, 1)) (hq : q < NL) (hk : Zk q = 12) (hi : vp_in i (Zn q)) (h : HGo E F me (pc + 1) L (.int (I q i.toNatClampNeg) :: st) I) : HGo E F me pc L (.int i :: .ref q :: st) I := by
  intro p e s m args below meth c H locs ls C hP hS hl
  exact va_zald C.1 C.2.1 C.2.2.2.2.2.2.2.1 hP q 1 (by rw [wld_get hq, cel_12 hk]) rfl hi hd (h p e s m args below meth c H locs ls C hP hS hl)
theorem h_aald13 {q : Nat} {i : Int32} (hd : decode me.2.1 pc = .ok (.aaload, 1)) (hq : q < NL) (hk : Zk q = 13) (hi : vp_in i (Zn q)) (h : HGo E F me (pc + 1) L (.ref (Zp q i.toNatClampNeg) :: st) I) : HGo E F me pc L (.int i :: .ref q :: st) I := by
  intro p e s m args below meth c H locs ls C hP hS hl
  exact va_aldq (f := fun j => some (E.2.2.2 (Zp q j))) C.1 C.2.1 C.2.2.2.2.2.2.2.1 hP q 2 (by rw [wld_get hq, cel_13 hk]) rfl hi hd (h p e s m args below meth c H locs ls C hP hS hl)
theorem h_aald14 {q : Nat} {i : Int32} (hd : decode me.2.1 pc = .ok (.aaload, 1)) (hq : q < NL) (hk : Zk q = 14) (hi : vp_in i (Zn q)) (h : HGo E F me (pc + 1) L (.ref (Zp q i.toNatClampNeg) :: st) I) : HGo E F me pc L (.int i :: .ref q :: st) I := by
  intro p e s m args below meth c H locs ls C hP hS hl
  have hlt : i.toNatClampNeg < Zn q := Nat.not_le.mp fun z => hi (Or.inr z)
  have hw : (wld E I)[q]? = some (E.2.2.2 q, .inl (E.2.2.1.2.2.2, Zn q, .inr (.inr (.inr (.inr (fun j => some (E.2.2.2 (Zp q j)))))))) := by rw [wld_get hq, cel_14 hk]
  exact W.aald (v := .ref (E.2.2.2 (Zp q i.toNatClampNeg))) (ty := .array .int) C.1 C.2.1 (hP q _ hw) ((C.2.2.2.2.2.2.2.1.2 3 _ rfl).1 (Zn q) (fun j => va_rf (some (E.2.2.2 (Zp q j))))) rfl (fun z => by cases z) (by show ¬ (i < 0 ∨ (arrV _ _ _).slots.size ≤ _); rw [arrV_size]; exact hi) (by show (arrV _ _ _).slots[_]? = _; rw [arrV_read _ _ hlt]; rfl) rfl rfl hd (h p e s m args below meth c H locs ls C hP hS hl)
theorem h_iast {q : Nat} {i x : Int32} (hd : decode me.2.1 pc = .ok (.iastore, 1)) (hq : q < NL) (hk : Zk q = 11) (hi : vp_in i (Zn q)) (h : HGo E F me (pc + 1) L st (setI I q (upd (I q) i.toNatClampNeg x))) : HGo E F me pc L (.int x :: .int i :: .ref q :: st) I := by
  intro p e s m args below meth c H locs ls C hP hS hl
  have hD : va_D (F.2.2.2.1 s) (wld E I) := wld_D I C.2.2.2.2.2.2.2.2.2.2.1 C.2.2.2.2.2.2.2.2.2.2.2
  refine va_iast C.1 C.2.1 C.2.2.2.2.2.2.2.1 hP hD hS q 0 (by rw [wld_get hq, cel_11 hk]) rfl hi hd (fun H1 locs1 hP1 hD1 hS1 => ?_)
  rw [← cel_11 (E := E) hk, wld_set] at hP1
  exact h p e s m args below meth c H1 locs1 ls C hP1 hS1 hl
theorem h_zast {q : Nat} {i x : Int32} (hd : decode me.2.1 pc = .ok (.bastore, 1)) (hq : q < NL) (hk : Zk q = 12) (hi : vp_in i (Zn q)) (hx : vp_nar .boolean x = x) (h : HGo E F me (pc + 1) L st (setI I q (upd (I q) i.toNatClampNeg x))) : HGo E F me pc L (.int x :: .int i :: .ref q :: st) I := by
  intro p e s m args below meth c H locs ls C hP hS hl
  have hD : va_D (F.2.2.2.1 s) (wld E I) := wld_D I C.2.2.2.2.2.2.2.2.2.2.1 C.2.2.2.2.2.2.2.2.2.2.2
  refine va_zast C.1 C.2.1 C.2.2.2.2.2.2.2.1 hP hD hS q 1 (by rw [wld_get hq, cel_12 hk]) rfl hi hd (fun H1 locs1 hP1 hD1 hS1 => ?_)
  rw [hx, ← cel_12 (E := E) hk, wld_set] at hP1
  exact h p e s m args below meth c H1 locs1 ls C hP1 hS1 hl
theorem h_alen {q : Nat} {v : Int32} (hd : decode me.2.1 pc = .ok (.arraylength, 1)) (hq : q < NL) (hk : Zk q = 11) (hv : Int32.ofNat (Zn q) = v) (h : HGo E F me (pc + 1) L (.int v :: st) I) : HGo E F me pc L (.ref q :: st) I := by
  intro p e s m args below meth c H locs ls C hP hS hl
  exact va_alen C.1 C.2.1 C.2.2.2.2.2.2.2.1 hP q 0 (by rw [wld_get hq, cel_11 hk]) rfl hv hd (h p e s m args below meth c H locs ls C hP hS hl)
end HST
end
section
/-! calls and ends: a method's contract at a depth, over the pure heap -/
def rmd (d : Nat) : Room := { frames := d, cells := 0, slots := 0, locals := 60 * d }
def HPre (E : HEn) (I : HIh) (U : State) : Prop := va_P E.2.1 vwCl (wld E I) U.heap ∧ va_K E.2.1 vwCl (tysE E) U ∧ nestK U ∧ strK E (AE E) U U.heap ∧ HInj E
def HQc (E : HEn) (Q : Option Value → HIh → Prop) : Array Value → State → Outcome → State → Prop := fun _ st oc t => (∃ (v : Option Value) (I' : HIh), oc = .returned (v.map (lif E)) ∧ Q v I' ∧ va_P E.2.1 vwCl (wld E I') t.heap) ∧ va_F (AE E) st t
/-- the method, called with these arguments at this heap, returns, and Q holds of its answer and the heap behind it -/
def HCall (E : HEn) (me : HMe) (d : Nat) (args : List Value) (I : HIh) (Q : Option Value → HIh → Prop) : Prop :=
  Met E.1 me.1 (Cond.code me.1 me.2.1 me.2.2.1 me.2.2.2 :: TB) (rmd d) (va_Pc (args.map (lif E)) (HPre E I)) (HQc E Q) 0 0 (AE E)
def mF (E : HEn) (d : Nat) (Q : Option Value → HIh → Prop) : HFx := (rmd d, 0, 0, (fun _ => AE E), fun below a s => MQ below (HQc E Q) a s 0 0 (AE E))
theorem lv_args_lif (E : HEn) : ∀ (args : List Value) (n : Nat), lv_args n (args.map (lif E)) = (lv_args n args).map (lifP E)
  | [], _ => rfl
  | v :: vs, n => by
    show (n, lif E v) :: lv_args _ (vs.map (lif E)) = (n, lif E v) :: (lv_args _ vs).map (lifP E)
    rw [lif_cat, lv_args_lif E vs]
theorem h_met {E : HEn} {me : HMe} {d : Nat} {args : List Value} {I : HIh} {Q : Option Value → HIh → Prop} {L : List (Nat × Value)} (hy : plainName me.1.cls = true) (hL : lv_args 0 args = L) (hsz : (args.map (fun v => v.category)).sum ≤ me.2.2.1) (h : HGo E (mF E d Q) me 0 L [] I) : HCall E me d args I Q := by
  subst hL
  refine Met.ofW (cc := me.2.1) (maxL := me.2.2.1) (ret := me.2.2.2) hy rfl ?_
  intro p e s m ar below meth c s₁ B hml hv
  obtain ⟨rfl, hP, hK, hN, hS0, hI⟩ := hv
  have hts := atoms_spec (ws := Cond.code me.1 me.2.1 me.2.2.1 me.2.2.2 :: TB) B.pre
  have hlen : ∀ vs : List Value, (lg_sl (vs.map (lif E))).length ≤ (vs.map (fun v => v.category)).sum := by
    intro vs
    induction vs with
    | nil => exact Nat.le_refl _
    | cons v t ih =>
      have e1 : lg_sl ((v :: t).map (lif E)) = (if (lif E v).category = 2 then [Slot.val (lif E v), Slot.second] else [Slot.val (lif E v)]) ++ lg_sl (t.map (lif E)) := rfl
      rw [e1, List.length_append, lif_cat, List.map_cons, List.sum_cons]
      have hc : v.category = 1 ∨ v.category = 2 := by cases v <;> simp [Value.category]
      rcases hc with hc | hc
      · rw [hc, if_neg (by decide)]
        show 1 + _ ≤ 1 + _
        omega
      · rw [hc, if_pos rfl]
        show 2 + _ ≤ 2 + _
        omega
  have hl := lv_entry (args.map (lif E)) (n := me.2.2.1) (Nat.le_trans (hlen args) hsz)
  rw [lg_entry_eq]
  rw [lv_args_lif] at hl
  have hC : HCx E (mF E d Q) me p s m (args.map (lif E)).toArray meth c := ⟨B.exec, B.bytes, B.returns, hml, findClass_of_methodNamed B.named, fun w hw => hts w (List.mem_cons_of_mem _ hw), B.notSynchronized, hK, hN, hS0, hI, fun q hq => ⟨q, hq, rfl⟩⟩
  exact h p e s m _ below meth c s.heap [] _ hC hP va_S.rf hl
section HRT
variable {E : HEn} {me : HMe} {d pc : Nat} {L : List (Nat × Value)} {I : HIh} {Q : Option Value → HIh → Prop}
theorem h_iret {v : Int32} (hd : decode me.2.1 pc = .ok (.ireturn, 1)) (hr : me.2.2.2 = some .int) (h : Q (some (.int v)) I) : HGo E (mF E d Q) me pc L [.int v] I := by
  intro p e s m args below meth c H locs ls C hP hS hl
  exact W.iret C.1 C.2.1 (C.2.2.1.trans hr) (fun t ht hW => ⟨⟨some (.int v), I, rfl, h, by rw [ht]; exact hP⟩, va_S.F hS ht⟩) hS.2.2 hd C.2.2.2.2.2.2.1
theorem h_zret {v : Int32} (hd : decode me.2.1 pc = .ok (.ireturn, 1)) (hr : me.2.2.2 = some .boolean) (hn : vp_nar .boolean v = v) (h : Q (some (.int v)) I) : HGo E (mF E d Q) me pc L [.int v] I := by
  intro p e s m args below meth c H locs ls C hP hS hl
  have hn2 : narrow .boolean (.int v) = .int v := by
    have e1 : narrow .boolean (.int v) = .int (vp_nar .boolean v) := rfl
    rw [e1, hn]
  exact W.zret C.1 C.2.1 (C.2.2.1.trans hr) hn2 (fun t ht hW => ⟨⟨some (.int v), I, rfl, h, by rw [ht]; exact hP⟩, va_S.F hS ht⟩) hS.2.2 hd C.2.2.2.2.2.2.1
theorem h_lret {v : Int64} (hd : decode me.2.1 pc = .ok (.lreturn, 1)) (hr : me.2.2.2 = some .long) (h : Q (some (.long v)) I) : HGo E (mF E d Q) me pc L [.long v] I := by
  intro p e s m args below meth c H locs ls C hP hS hl
  exact W.lret C.1 C.2.1 (C.2.2.1.trans hr) (fun t ht hW => ⟨⟨some (.long v), I, rfl, h, by rw [ht]; exact hP⟩, va_S.F hS ht⟩) hS.2.2 hd C.2.2.2.2.2.2.1
theorem h_aret {q : Nat} {n : String} (hd : decode me.2.1 pc = .ok (.areturn, 1)) (hr : me.2.2.2 = some (.object n)) (h : Q (some (.ref q)) I) : HGo E (mF E d Q) me pc L [.ref q] I := by
  intro p e s m args below meth c H locs ls C hP hS hl
  exact W.aret C.1 C.2.1 (C.2.2.1.trans hr) (Or.inl ⟨n, rfl⟩) (Or.inr ⟨_, rfl⟩) (fun t ht hW => ⟨⟨some (.ref q), I, rfl, h, by rw [ht]; exact hP⟩, va_S.F hS ht⟩) hS.2.2 hd C.2.2.2.2.2.2.1
theorem h_vret (hd : decode me.2.1 pc = .ok (.return_, 1)) (hr : me.2.2.2 = none) (h : Q none I) : HGo E (mF E d Q) me pc L [] I := by
  intro p e s m args below meth c H locs ls C hP hS hl
  exact W.vret C.1 C.2.1 (C.2.2.1.trans hr) (fun t ht hW => ⟨⟨none, I, rfl, h, by rw [ht]; exact hP⟩, va_S.F hS ht⟩) hS.2.2 hd C.2.2.2.2.2.2.1
end HRT
theorem HPre.blind {E : HEn} {I : HIh} {av : List Value} : FrameBlind (va_Pc av (HPre E I)) := fun a U g mk q => by
  obtain ⟨h1, qP, qK, qN, qS, qI⟩ := q
  exact ⟨h1, qP, va_K.moved (u := U) (U := U.calling g mk a) (Vm.Alike.refl U.vm) qK, nestK.same (s := U) (U := U.calling g mk a) rfl qN, strK.same (s := U) (U := U.calling g mk a) rfl qS, qI⟩
theorem HPre.of {E : HEn} {F : HFx} {me : HMe} {p : Program} {s : State} {m : MethodId} {args : Array Value} {meth : Method} {c : Code} {I : HIh} {H : Heap} {locs : List Loc} (C : HCx E F me p s m args meth c) (hP : va_P E.2.1 vwCl (wld E I) H) (hS : va_S (F.2.2.2.1 s) s.heap H locs) {U : State} (hU : U.heap = H) (hW : s.WarmedH U.vm) : HPre E I U := by
  obtain ⟨-, -, -, -, -, -, -, hK, hN, hS0, hI, hA⟩ := C
  refine ⟨by rw [hU]; exact hP, va_K.moved hW.alike hK, nestK.warm hW hN, ?_, hI⟩
  rw [hU]
  refine strK.narrow (strK.warm hW (hS0.kept (fun a h1 h2 => hS.2.1 a h1 h2))) ?_
  rintro a ⟨q, hq, rfl⟩
  exact hA q hq
section HBK
variable {p : Program} {l : Launch} {e : Env} {R : Room} {s : State} {m : MethodId} {args : Array Value} {below : List Frame} {meth : Method} {c : Code} {H : Heap} {locs : List Loc} {cells slots : Nat} {Q : State → Prop}
theorem h_back {E : HEn} {Q' : Option Value → HIh → Prop} {a : Array Value} {A0 : Nat → Prop} {H0 : Heap} {pc : Nat} {ls : Array Slot} {st0 rest : List Value} (hr : va_Run p l e R s m args below meth c H locs cells slots 0 0 (F0 m pc ls st0) rest (HQc E Q' a) (AE E)) (hS : va_S A0 H0 H locs) (hA : ∀ q, AE E q → A0 q)
    (kk : ∀ (v : Option Value) (I' : HIh) (H1 : Heap) (locs1 : List Loc), Q' v I' → va_P E.2.1 vwCl (wld E I') H1 → va_S A0 H0 H1 locs1 → W p l e R s m args below meth c H1 locs1 cells slots Q (F0 m (pc + 3) ls ((v.map (lif E)).toList ++ rest))) : W p l e R s m args below meth c H locs cells slots Q (F0 m pc ls st0) := by
  intro T hT X
  obtain ⟨v, st₀, t, T', Ll, h0, X', hL, e1, e2, ⟨⟨v', I', hv, hq, hp⟩, hz, hk⟩, st⟩ := hr T hT X
  cases hv
  rw [h0] at hz hk
  obtain ⟨t2, a1, b1⟩ := kk v' I' T'.heap (locs ++ Ll) hq (by rw [e1]; exact hp)
    ⟨Nat.le_trans hS.1 (by rw [e1]; exact hz), fun q h1 h2 => by rw [e1, hk q (Nat.lt_of_lt_of_le h1 hS.1) (fun z => h2 (hA q z))]; exact hS.2.1 q h1 h2, fun q hq => by
      rcases List.mem_append.mp hq with h | h
      · exact hS.2.2 q h
      · exact hA _ (hL q h)⟩ T' rfl X'
  exact ⟨t2, st t2 a1, b1⟩
end HBK
abbrev cdW (me : HMe) : Cond := Cond.code me.1 me.2.1 me.2.2.1 me.2.2.2
def okN (y : MethodName) (n : Nat) : Prop := y.cls ≠ "java/lang/invoke/MethodHandle" ∧ y.cls ≠ "java/lang/invoke/VarHandle" ∧ (parseMethodDescriptor y.desc).map (fun d => d.parameters.length) = some n
/-- a place of a call: virtual (the class's own method), static, static of a nest mate, virtual of a class above -/
def HLV (own : String) (idx : Nat) (me' : HMe) (n : Nat) : Prop := Cond.methodLink own idx me'.1 ∈ TB ∧ Cond.instanceMethod me'.1 ∈ TB ∧ Cond.selects me'.1.cls me'.1 me'.1 ∈ TB ∧ Cond.initialized me'.1.cls ∈ TB ∧ cdW me' ∈ TB ∧ okN me'.1 n
def HLS (own : String) (idx : Nat) (me' : HMe) (n : Nat) : Prop := Cond.methodLink own idx me'.1 ∈ TB ∧ Cond.static me'.1 ∈ TB ∧ Cond.initialized me'.1.cls ∈ TB ∧ cdW me' ∈ TB ∧ okN me'.1 n
def HLN (own : String) (idx : Nat) (me' : HMe) (n : Nat) : Prop := (∃ h, (own, idx, me'.1, h) ∈ nwM) ∧ Cond.static me'.1 ∈ TB ∧ Cond.initialized me'.1.cls ∈ TB ∧ cdW me' ∈ TB ∧ okN me'.1 n
def HLU (own C owner : String) (idx : Nat) (x : MethodName) (me' : HMe) (n : Nat) : Prop := Cond.methodLink own idx x ∈ TB ∧ Cond.sameMethod x.cls owner x.name x.desc ∈ TB ∧ Cond.selects C x me'.1 ∈ TB ∧ Cond.instanceMethod me'.1 ∈ TB ∧ Cond.initialized me'.1.cls ∈ TB ∧ cdW me' ∈ TB ∧ (owner ≠ "java/lang/invoke/MethodHandle" ∧ owner ≠ "java/lang/invoke/VarHandle" ∧ (parseMethodDescriptor x.desc).map (fun d => d.parameters.length) = some n) ∧ (me'.1 = ⟨owner, x.name, x.desc⟩ ∨ (∃ b k r, Cond.code ⟨owner, x.name, x.desc⟩ b k r ∈ TB ∧ Cond.instanceMethod ⟨owner, x.name, x.desc⟩ ∈ TB) ∨ (⟨owner, x.name, x.desc⟩ : MethodName) ∈ nwD)
/-- the caller's room bears the callee's -/
def HRm (F : HFx) (d : Nat) (me' : HMe) : Prop := (d + 1 ≤ F.1.frames ∧ 8 + (me'.2.2.1 + 11) + 60 * d ≤ F.1.locals) ∧ F.2.1 ≤ F.1.cells ∧ F.2.2.1 ≤ F.1.slots
theorem h_room {E : HEn} {d : Nat} {Q : Option Value → HIh → Prop} {me' : HMe} (h : me'.2.2.1 ≤ 41) : HRm (mF E (d + 1) Q) d me' := by
  refine ⟨⟨Nat.le_refl _, ?_⟩, Nat.le_refl _, Nat.le_refl _⟩
  show 8 + (me'.2.2.1 + 11) + 60 * d ≤ 60 * (d + 1)
  omega
section HCL
variable {E : HEn} {F : HFx} {me me' : HMe} {pc idx n d : Nat} {L : List (Nat × Value)} {st stk : List Value} {I : HIh}
theorem h_cats (E : HEn) (st : List Value) (h : (st.map fun v => v.category).sum ≤ 8) (m : MethodId) (pc : Nat) (ls : Array Slot) (z : List Value) : 2 * (F0 m pc ls z).monitorRoom + ((st.map (lif E)).map fun v => v.category).sum ≤ 8 := by
  refine lv_room ?_
  have e1 : (st.map (lif E)).map (fun v => v.category) = st.map (fun v => v.category) := by
    rw [List.map_map]; apply List.map_congr_left; intro v _; exact lif_cat E v
  rw [e1]; exact h
theorem h_stkV (E : HEn) {As : List Value} {q : Nat} {st stk : List Value} (h : stk = As.reverse ++ .ref q :: st) : stk.map (lif E) = (As.map (lif E)).reverse ++ .ref (E.2.2.2 q) :: st.map (lif E) := by
  rw [h, List.map_append, List.map_reverse]; rfl
theorem h_stkS (E : HEn) {As : List Value} {st stk : List Value} (h : stk = As.reverse ++ st) : stk.map (lif E) = (As.map (lif E)).reverse ++ st.map (lif E) := by
  rw [h, List.map_append, List.map_reverse]
theorem h_toL (E : HEn) (v : Option Value) (st : List Value) : (v.map (lif E)).toList ++ st.map (lif E) = (v.toList ++ st).map (lif E) := by cases v <;> rfl
theorem h_invV {q : Nat} {As : List Value} {ci N : Nat} {T : u_T} (hd : decode me.2.1 pc = .ok (.invokevirtual idx, 3)) (hl' : HLV me.1.cls idx me' n) (hrm : HRm F d me') (hq : q < NL) (hk : Zk q = ci) (hci : ci < 11) (hc : vwCl[ci]? = some (me'.1.cls, T, N)) (hstk : stk = As.reverse ++ .ref q :: st) (hn : As.length = n) (hcat : (st.map fun v => v.category).sum ≤ 8)
    (h : HCall E me' d (.ref q :: As) I (fun v I' => HGo E F me (pc + 3) L (v.toList ++ st) I')) : HGo E F me pc L stk I := by
  intro p e s m args below meth c H locs ls C hP hS hl
  obtain ⟨w1, w2, w3, w4, w5, w6⟩ := hl'
  have hts : ∀ w ∈ TB, w.before args s = true := C.2.2.2.2.2.1
  have hG : GoodIn TB (wsV me.1.cls idx me'.1.cls me'.1 (cdW me' :: TB)) := tb_goodIn' (fun w hw => by
    simp only [wsV, List.cons_append, List.nil_append, List.mem_cons] at hw
    rcases hw with rfl | rfl | rfl | rfl | rfl | hw
    · exact w1
    · exact w2
    · exact w3
    · exact w4
    · exact w5
    · exact hw)
  have hrun := va_runV (e := e) (below := below) (meth := meth) (As := As.map (lif E)) (rest := st.map (lif E)) (g := F0 m pc ls (stk.map (lif E))) (H := H) (locs := locs) (cells := F.2.1) (slots := F.2.2.1) ⟨C.1, C.2.1, C.2.2.2.1, C.2.2.2.2.1, hts⟩ h (cwV n hts hG rfl rfl rfl ⟨rfl, w6⟩ hrm.1)
    ⟨HPre.blind, va_recv C.2.2.2.2.2.2.2.1 hP hc (wget hq hk hci), fun U hU hW => ⟨rfl, HPre.of C hP hS hU hW⟩⟩ rfl (by rw [List.length_map]; exact hn) hl.1 (h_stkV E hstk) (h_cats E st hcat m pc ls _) hd hrm.2
  refine h_back hrun hS (fun a ⟨q, hq, ha⟩ => by rw [ha]; exact C.2.2.2.2.2.2.2.2.2.2.2 q hq) (fun v I' H1 locs1 hQ hP1 hS1 => ?_)
  rw [h_toL]
  exact hQ p e s m args below meth c H1 locs1 ls C hP1 hS1 hl
theorem h_invU {q : Nat} {As : List Value} {ci N : Nat} {T : u_T} {Cn owner : String} {x : MethodName} (hd : decode me.2.1 pc = .ok (.invokevirtual idx, 3)) (hl' : HLU me.1.cls Cn owner idx x me' n) (hrm : HRm F d me') (hq : q < NL) (hk : Zk q = ci) (hci : ci < 11) (hc : vwCl[ci]? = some (Cn, T, N)) (hstk : stk = As.reverse ++ .ref q :: st) (hn : As.length = n) (hcat : (st.map fun v => v.category).sum ≤ 8)
    (h : HCall E me' d (.ref q :: As) I (fun v I' => HGo E F me (pc + 3) L (v.toList ++ st) I')) : HGo E F me pc L stk I := by
  intro p e s m args below meth c H locs ls C hP hS hl
  obtain ⟨w1, w2, w3, w4, w5, w6, w7, w8⟩ := hl'
  have hts : ∀ w ∈ TB, w.before args s = true := C.2.2.2.2.2.1
  have hG : GoodIn TB (va_wsU me.1.cls idx Cn owner x me'.1 (cdW me' :: TB)) := tb_goodIn' (fun w hw => by
    simp only [va_wsU, List.cons_append, List.nil_append, List.mem_cons] at hw
    rcases hw with rfl | rfl | rfl | rfl | rfl | rfl | hw
    · exact w1
    · exact w2
    · exact w3
    · exact w4
    · exact w5
    · exact w6
    · exact hw)
  have hcu : va_CU F.1 s args me.1.cls Cn owner idx x me'.1 me'.2.1 me'.2.2.1 me'.2.2.2 (cdW me' :: TB) (rmd d) 0 0 n := by
    rcases w8 with w8 | ⟨b, k, r, w8, w9⟩ | w8
    · exact va_cwU n hts hG rfl rfl rfl w8 w7 hrm.1
    · have hO : GoodIn TB (va_wsO me.1.cls idx Cn owner x me'.1 (cdW me' :: TB)) := tb_goodIn' (fun w hw => by
        simp only [va_wsO, List.cons_append, List.nil_append, List.mem_cons] at hw
        rcases hw with rfl | rfl | rfl | rfl | rfl | rfl | rfl | hw
        · exact w1
        · exact w2
        · exact w9
        · exact w3
        · exact w4
        · exact w5
        · exact w6
        · exact hw)
      exact va_cwO n hts hO rfl rfl rfl w8 w7 hrm.1
    · exact va_cwA n hts hG rfl rfl rfl (C.2.2.2.2.2.2.2.2.1.2.2.2.2 _ w8) w7 hrm.1
  have hrun := va_runU (e := e) (below := below) (meth := meth) (As := As.map (lif E)) (rest := st.map (lif E)) (g := F0 m pc ls (stk.map (lif E))) (H := H) (locs := locs) (cells := F.2.1) (slots := F.2.2.1) ⟨C.1, C.2.1, C.2.2.2.1, C.2.2.2.2.1, hts⟩ h hcu
    ⟨HPre.blind, va_recv C.2.2.2.2.2.2.2.1 hP hc (wget hq hk hci), fun U hU hW => ⟨rfl, HPre.of C hP hS hU hW⟩⟩ rfl (by rw [List.length_map]; exact hn) hl.1 (h_stkV E hstk) (h_cats E st hcat m pc ls _) hd hrm.2
  refine h_back hrun hS (fun a ⟨q, hq, ha⟩ => by rw [ha]; exact C.2.2.2.2.2.2.2.2.2.2.2 q hq) (fun v I' H1 locs1 hQ hP1 hS1 => ?_)
  rw [h_toL]
  exact hQ p e s m args below meth c H1 locs1 ls C hP1 hS1 hl
theorem h_invS {As : List Value} (hd : decode me.2.1 pc = .ok (.invokestatic idx, 3)) (hl' : HLS me.1.cls idx me' n) (hrm : HRm F d me') (hstk : stk = As.reverse ++ st) (hn : As.length = n) (hcat : (st.map fun v => v.category).sum ≤ 8)
    (h : HCall E me' d As I (fun v I' => HGo E F me (pc + 3) L (v.toList ++ st) I')) : HGo E F me pc L stk I := by
  intro p e s m args below meth c H locs ls C hP hS hl
  obtain ⟨w1, w2, w4, w5, w6⟩ := hl'
  have hts : ∀ w ∈ TB, w.before args s = true := C.2.2.2.2.2.1
  have hG : GoodIn TB (va_wsS me.1.cls idx me'.1 (cdW me' :: TB)) := tb_goodIn' (fun w hw => by
    simp only [va_wsS, List.cons_append, List.nil_append, List.mem_cons] at hw
    rcases hw with rfl | rfl | rfl | rfl | hw
    · exact w1
    · exact w2
    · exact w4
    · exact w5
    · exact hw)
  have hrun := va_runS (e := e) (below := below) (meth := meth) (As := As.map (lif E)) (rest := st.map (lif E)) (g := F0 m pc ls (stk.map (lif E))) (H := H) (locs := locs) (cells := F.2.1) (slots := F.2.2.1) ⟨C.1, C.2.1, C.2.2.2.1, C.2.2.2.2.1, hts⟩ h (va_cwS n hts hG rfl rfl rfl w6 hrm.1)
    ⟨HPre.blind, fun U hU hW => ⟨rfl, HPre.of C hP hS hU hW⟩⟩ rfl (by rw [List.length_map]; exact hn) hl.1 (h_stkS E hstk) (h_cats E st hcat m pc ls _) hd hrm.2
  refine h_back hrun hS (fun a ⟨q, hq, ha⟩ => by rw [ha]; exact C.2.2.2.2.2.2.2.2.2.2.2 q hq) (fun v I' H1 locs1 hQ hP1 hS1 => ?_)
  rw [h_toL]
  exact hQ p e s m args below meth c H1 locs1 ls C hP1 hS1 hl
theorem h_invN {As : List Value} (hd : decode me.2.1 pc = .ok (.invokestatic idx, 3)) (hl' : HLN me.1.cls idx me' n) (hrm : HRm F d me') (hstk : stk = As.reverse ++ st) (hn : As.length = n) (hcat : (st.map fun v => v.category).sum ≤ 8)
    (h : HCall E me' d As I (fun v I' => HGo E F me (pc + 3) L (v.toList ++ st) I')) : HGo E F me pc L stk I := by
  intro p e s m args below meth c H locs ls C hP hS hl
  obtain ⟨⟨hh, w1⟩, w2, w4, w5, w6⟩ := hl'
  have hts : ∀ w ∈ TB, w.before args s = true := C.2.2.2.2.2.1
  have hG : GoodIn TB (cdW me' :: TB) := tb_goodIn' (fun w hw => by
    rcases List.mem_cons.mp hw with rfl | hw
    · exact w5
    · exact hw)
  have hrun := va_runSN (e := e) (below := below) (meth := meth) (As := As.map (lif E)) (rest := st.map (lif E)) (g := F0 m pc ls (stk.map (lif E))) (H := H) (locs := locs) (cells := F.2.1) (slots := F.2.2.1) ⟨C.1, C.2.1, C.2.2.2.1, C.2.2.2.2.1, hts⟩ h ⟨va_cnB n hts hG rfl rfl rfl (C.2.2.2.2.2.2.2.2.1.2.1 _ w1) (hts _ w4) w6 hrm.1, hts _ w2, trivial⟩
    ⟨HPre.blind, fun U hU hW => ⟨rfl, HPre.of C hP hS hU hW⟩⟩ rfl (by rw [List.length_map]; exact hn) hl.1 (h_stkS E hstk) (h_cats E st hcat m pc ls _) hd hrm.2
  refine h_back hrun hS (fun a ⟨q, hq, ha⟩ => by rw [ha]; exact C.2.2.2.2.2.2.2.2.2.2.2 q hq) (fun v I' H1 locs1 hQ hP1 hS1 => ?_)
  rw [h_toL]
  exact hQ p e s m args below meth c H1 locs1 ls C hP1 hS1 hl
theorem h_copy {q0 q1 : Nat} {sp dp k : Int32} (hd : decode me.2.1 pc = .ok (.invokestatic idx, 3)) (w1 : Cond.methodLink me.1.cls idx arraycopyName ∈ TB) (w2 : Cond.native arraycopyName ∈ TB) (w3 : Cond.static arraycopyName ∈ TB) (w4 : Cond.initialized "java/lang/System" ∈ TB) (hq0 : q0 < NL) (hk0 : Zk q0 = 11) (hq1 : q1 < NL) (hk1 : Zk q1 = 11) (h1 : ¬ sp < 0) (h2 : ¬ dp < 0) (h3 : ¬ k < 0) (h4 : sp.toNatClampNeg + k.toNatClampNeg ≤ Zn q0) (h5 : dp.toNatClampNeg + k.toNatClampNeg ≤ Zn q1) (hfr : 1 ≤ F.1.frames ∧ (st.map fun v => v.category).sum + (nativeFrameWords "java/lang/System" "arraycopy" 5 + 11) ≤ F.1.locals)
    (h : HGo E F me (pc + 3) L st (setI I q1 (va_cpy (I q0) (I q1) sp.toNatClampNeg dp.toNatClampNeg k.toNatClampNeg))) : HGo E F me pc L (.int k :: .int dp :: .ref q1 :: .int sp :: .ref q0 :: st) I := by
  intro p e s m args below meth c H locs ls C hP hS hl
  have hts : ∀ w ∈ TB, w.before args s = true := C.2.2.2.2.2.1
  have hD : va_D (F.2.2.2.1 s) (wld E I) := wld_D I C.2.2.2.2.2.2.2.2.2.2.1 C.2.2.2.2.2.2.2.2.2.2.2
  have hcs : ((st.map (lif E)).map fun v => v.category).sum = (st.map fun v => v.category).sum := by
    congr 1
    rw [List.map_map]; apply List.map_congr_left; intro v _; exact lif_cat E v
  refine va_copyi C.1 C.2.1 (C.2.2.2.1.trans hl.1.symm) C.2.2.2.2.1 (hts _ w1) (hts _ w2) (hts _ w3) (hts _ w4) C.2.2.2.2.2.2.2.1 hP hD hS q0 q1 0 0 (ty := .int) (by rw [wld_get hq0, cel_11 hk0]) (by rw [wld_get hq1, cel_11 hk1]) rfl rfl rfl h1 h2 h3 h4 h5 (fun _ _ => rfl) hfr.1 (by rw [hcs]; exact hfr.2) hd (fun H1 locs1 hP1 hD1 hS1 => ?_)
  rw [← cel_11 (E := E) hk1, wld_set] at hP1
  exact h p e s m args below meth c H1 locs1 ls C hP1 hS1 hl
theorem h_min {x y : Int32} (hd : decode me.2.1 pc = .ok (.invokestatic idx, 3)) (w1 : Cond.methodLink me.1.cls idx Lib.Math.min.name ∈ TB) (w2 : Cond.static Lib.Math.min.name ∈ TB) (w3 : Cond.initialized "java/lang/Math" ∈ TB) (w4 : Cond.code Lib.Math.min.name Lib.Math.min.code 2 (some .int) ∈ TB) (hfr : (1 ≤ F.1.frames ∧ (st.map fun v => v.category).sum + 13 ≤ F.1.locals) ∧ F.2.1 ≤ F.1.cells ∧ F.2.2.1 ≤ F.1.slots)
    (h : HGo E F me (pc + 3) L (.int (if y < x then y else x) :: st) I) : HGo E F me pc L (.int y :: .int x :: st) I := by
  intro p e s m args below meth c H locs ls C hP hS hl
  have hts : ∀ w ∈ TB, w.before args s = true := C.2.2.2.2.2.1
  have hcs : ((st.map (lif E)).map fun v => v.category).sum = (st.map fun v => v.category).sum := by
    congr 1
    rw [List.map_map]; apply List.map_congr_left; intro v _; exact lif_cat E v
  exact va_mmin C.1 C.2.1 (C.2.2.2.1.trans hl.1.symm) C.2.2.2.2.1 (hts _ w1) (hts _ w2) (hts _ w3) (hts _ w4) hfr.1.1 (by rw [hcs]; exact hfr.1.2) hfr.2.1 hfr.2.2 hd (h p e s m args below meth c H locs ls C hP hS hl)
theorem h_max {x y : Int32} (hd : decode me.2.1 pc = .ok (.invokestatic idx, 3)) (w1 : Cond.methodLink me.1.cls idx Lib.Math.max.name ∈ TB) (w2 : Cond.static Lib.Math.max.name ∈ TB) (w3 : Cond.initialized "java/lang/Math" ∈ TB) (w4 : Cond.code Lib.Math.max.name Lib.Math.max.code 2 (some .int) ∈ TB) (hfr : (1 ≤ F.1.frames ∧ (st.map fun v => v.category).sum + 13 ≤ F.1.locals) ∧ F.2.1 ≤ F.1.cells ∧ F.2.2.1 ≤ F.1.slots)
    (h : HGo E F me (pc + 3) L (.int (if x < y then y else x) :: st) I) : HGo E F me pc L (.int y :: .int x :: st) I := by
  intro p e s m args below meth c H locs ls C hP hS hl
  have hts : ∀ w ∈ TB, w.before args s = true := C.2.2.2.2.2.1
  have hcs : ((st.map (lif E)).map fun v => v.category).sum = (st.map fun v => v.category).sum := by
    congr 1
    rw [List.map_map]; apply List.map_congr_left; intro v _; exact lif_cat E v
  exact va_mmax C.1 C.2.1 (C.2.2.2.1.trans hl.1.symm) C.2.2.2.2.1 (hts _ w1) (hts _ w2) (hts _ w3) (hts _ w4) hfr.1.1 (by rw [hcs]; exact hfr.1.2) hfr.2.1 hfr.2.2 hd (h p e s m args below meth c H locs ls C hP hS hl)
theorem h_frm {E : HEn} {d : Nat} {Q : Option Value → HIh → Prop} {w : Nat} (h : w ≤ 60) : (1 ≤ (mF E (d + 1) Q).1.frames ∧ w ≤ (mF E (d + 1) Q).1.locals) ∧ (mF E (d + 1) Q).2.1 ≤ (mF E (d + 1) Q).1.cells ∧ (mF E (d + 1) Q).2.2.1 ≤ (mF E (d + 1) Q).1.slots := by
  refine ⟨⟨Nat.succ_le_succ (Nat.zero_le _), ?_⟩, Nat.le_refl _, Nat.le_refl _⟩
  show w ≤ 60 * (d + 1)
  omega
theorem h_instY {q ci N : Nat} {T : u_T} {Cn nm : String} (hd : decode me.2.1 pc = .ok (.instanceof idx, 3)) (w1 : Cond.classLink me.1.cls idx nm ∈ TB) (w2 : (Cn, nm) ∈ nwC) (hq : q < NL) (hk : Zk q = ci) (hci : ci < 11) (hc : vwCl[ci]? = some (Cn, T, N)) (h : HGo E F me (pc + 3) L (.int 1 :: st) I) : HGo E F me pc L (.ref q :: st) I := by
  intro p e s m args below meth c H locs ls C hP hS hl
  exact va_instY C.1 C.2.1 C.2.2.2.2.1 (C.2.2.2.2.2.1 _ w1) (C.2.2.2.2.2.2.2.2.1.2.2.1 _ w2) (va_recv C.2.2.2.2.2.2.2.1 hP hc (wget hq hk hci)) hd (h p e s m args below meth c H locs ls C hP hS hl)
theorem h_instNo {q ci N : Nat} {T : u_T} {Cn nm : String} (hd : decode me.2.1 pc = .ok (.instanceof idx, 3)) (w1 : Cond.classLink me.1.cls idx nm ∈ TB) (w2 : (Cn, nm) ∈ nwN) (hq : q < NL) (hk : Zk q = ci) (hci : ci < 11) (hc : vwCl[ci]? = some (Cn, T, N)) (h : HGo E F me (pc + 3) L (.int 0 :: st) I) : HGo E F me pc L (.ref q :: st) I := by
  intro p e s m args below meth c H locs ls C hP hS hl
  exact va_instNo C.1 C.2.1 C.2.2.2.2.1 (C.2.2.2.2.2.1 _ w1) (C.2.2.2.2.2.2.2.2.1.2.2.2.1 _ w2) (va_recv C.2.2.2.2.2.2.2.1 hP hc (wget hq hk hci)) hd (h p e s m args below meth c H locs ls C hP hS hl)
theorem h_instS {q ci N : Nat} {T : u_T} {Cn : String} (hd : decode me.2.1 pc = .ok (.instanceof idx, 3)) (w1 : Cond.classLink me.1.cls idx Cn ∈ TB) (hq : q < NL) (hk : Zk q = ci) (hci : ci < 11) (hc : vwCl[ci]? = some (Cn, T, N)) (h : HGo E F me (pc + 3) L (.int 1 :: st) I) : HGo E F me pc L (.ref q :: st) I := by
  intro p e s m args below meth c H locs ls C hP hS hl
  exact va_instS C.1 C.2.1 C.2.2.2.2.1 (C.2.2.2.2.2.1 _ w1) (C.2.2.2.2.2.2.2.1.1 ci _ hc).2 (va_recv C.2.2.2.2.2.2.2.1 hP hc (wget hq hk hci)) hd (h p e s m args below meth c H locs ls C hP hS hl)
end HCL
end
