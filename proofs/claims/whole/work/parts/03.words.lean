/-- the tables' words that a callee may be given: those that hold for ever -/
def TB : List Cond := lw_tbl.filter goodWord
theorem tb_in {w : Cond} (h : w ∈ tables_1) (g : goodWord w = true) : w ∈ TB := List.mem_filter.mpr ⟨List.mem_append_right _ h, g⟩
theorem tb_1 {w : Cond} (i : Nat) (h : tables_1_1[i]? = some w) (g : goodWord w = true) : w ∈ TB := tb_in (List.mem_append_left _ (List.mem_of_getElem? h)) g
theorem tb_2 {w : Cond} (i : Nat) (h : tables_1_2[i]? = some w) (g : goodWord w = true) : w ∈ TB := tb_in (List.mem_append_right _ (List.mem_append_left _ (List.mem_of_getElem? h))) g
theorem tb_3 {w : Cond} (i : Nat) (h : tables_1_3[i]? = some w) (g : goodWord w = true) : w ∈ TB := tb_in (List.mem_append_right _ (List.mem_append_right _ (List.mem_append_left _ (List.mem_of_getElem? h)))) g
theorem tb_4 {w : Cond} (i : Nat) (h : tables_1_4[i]? = some w) (g : goodWord w = true) : w ∈ TB := tb_in (List.mem_append_right _ (List.mem_append_right _ (List.mem_append_right _ (List.mem_append_left _ (List.mem_of_getElem? h))))) g
theorem tb_5 {w : Cond} (i : Nat) (h : tables_1_5[i]? = some w) (g : goodWord w = true) : w ∈ TB := tb_in (List.mem_append_right _ (List.mem_append_right _ (List.mem_append_right _ (List.mem_append_right _ (List.mem_of_getElem? h))))) g
theorem tb_s {w : Cond} (i : Nat) (h : (k2_sels lw_privs)[i]? = some w) (g : goodWord w = true) : w ∈ TB := List.mem_filter.mpr ⟨List.mem_append_left _ (List.mem_of_getElem? h), g⟩
theorem tb_good : TB.all goodWord = true := by simp [TB]
theorem tb_goodIn {x : Cond} {ws : List Cond} (h : ∀ w ∈ ws, w ∈ TB) : GoodIn (x :: TB) ws := fun w hw => ⟨List.mem_cons_of_mem _ (h w hw), good_of_word (List.mem_filter.mp (h w hw)).2⟩
theorem tb_goodIn' {ws : List Cond} (h : ∀ w ∈ ws, w ∈ TB) : GoodIn TB ws := fun w hw => ⟨h w hw, good_of_word (List.mem_filter.mp (h w hw)).2⟩
theorem wt_0 : (Jvm.Cond.initialized "ThrownCoinsLaw") ∈ TB := tb_1 0 (by decide +kernel) rfl
theorem wt_1 : (Jvm.Cond.initialized "ThrownCoins") ∈ TB := tb_1 1 (by decide +kernel) rfl
theorem wt_2 : (Jvm.Cond.initialized "ThrownCoins$Told") ∈ TB := tb_1 2 (by decide +kernel) rfl
theorem wt_3 : (Jvm.Cond.initialized "ThrownCoins$Folk") ∈ TB := tb_1 3 (by decide +kernel) rfl
theorem wt_4 : (Jvm.Cond.initialized "ThrownCoins$Never") ∈ TB := tb_1 4 (by decide +kernel) rfl
theorem wt_5 : (Jvm.Cond.initialized "ThrownCoins$Thrower") ∈ TB := tb_1 5 (by decide +kernel) rfl
theorem wt_6 : (Jvm.Cond.initialized "ThrownCoins$Greedy") ∈ TB := tb_1 6 (by decide +kernel) rfl
theorem wt_7 : (Jvm.Cond.initialized "ThrownCoins$Waiting") ∈ TB := tb_1 7 (by decide +kernel) rfl
theorem wt_8 : (Jvm.Cond.initialized "ThrownCoins$Cheap") ∈ TB := tb_1 8 (by decide +kernel) rfl
theorem wt_9 : (Jvm.Cond.initialized "ThrownCoins$Lot") ∈ TB := tb_1 9 (by decide +kernel) rfl
theorem wt_10 : (Jvm.Cond.initialized "ThrownCoins$Text") ∈ TB := tb_1 10 (by decide +kernel) rfl
theorem wt_11 : (Jvm.Cond.initialized "ThrownCoins$Foretelling") ∈ TB := tb_1 11 (by decide +kernel) rfl
theorem wt_12 : (Jvm.Cond.initialized "ThrownCoins$Notes") ∈ TB := tb_1 12 (by decide +kernel) rfl
theorem wt_13 : (Jvm.Cond.initialized "ThrownCoinsModel") ∈ TB := tb_1 13 (by decide +kernel) rfl
theorem wt_14 : (Jvm.Cond.initialized "java/lang/System") ∈ TB := tb_1 14 (by decide +kernel) rfl
theorem wt_15 : (Jvm.Cond.initialized "java/lang/Math") ∈ TB := tb_1 15 (by decide +kernel) rfl
theorem wt_16 : (Jvm.Cond.initialized "java/lang/String") ∈ TB := tb_1 16 (by decide +kernel) rfl
theorem wt_17 : (Jvm.Cond.initialized "java/lang/StringLatin1") ∈ TB := tb_1 17 (by decide +kernel) rfl
theorem wt_18 : (Jvm.Cond.initialized "jdk/internal/util/Preconditions") ∈ TB := tb_1 18 (by decide +kernel) rfl
theorem wt_19 : (Jvm.Cond.initialized "java/lang/StringUTF16") ∈ TB := tb_1 19 (by decide +kernel) rfl
theorem wt_20 : (Jvm.Cond.classLink "ThrownCoinsLaw" (7 : Nat) "ThrownCoins") ∈ TB := tb_1 20 (by decide +kernel) rfl
theorem wt_21 : (Jvm.Cond.instantiable "ThrownCoins" (7 : Nat)) ∈ TB := tb_1 21 (by decide +kernel) rfl
theorem wt_22 : (Jvm.Cond.methodLink "ThrownCoinsLaw" (9 : Nat) ({ cls := "ThrownCoins", name := "<init>", desc := "()V" } : Jvm.MethodName)) ∈ TB := tb_1 22 (by decide +kernel) rfl
theorem wt_23 : (Jvm.Cond.instanceMethod ({ cls := "ThrownCoins", name := "<init>", desc := "()V" } : Jvm.MethodName)) ∈ TB := tb_1 23 (by decide +kernel) rfl
theorem wt_24 : (Jvm.Cond.code ({ cls := "ThrownCoins", name := "<init>", desc := "()V" } : Jvm.MethodName) prog_1_method_1_code (1 : Nat) (Option.none : Option Jvm.ClassFile.FieldType)) ∈ TB := tb_1 24 (by decide +kernel) rfl
theorem wt_25 : (Jvm.Cond.methodLink "ThrownCoins" (1 : Nat) ({ cls := "java/lang/Object", name := "<init>", desc := "()V" } : Jvm.MethodName)) ∈ TB := tb_1 25 (by decide +kernel) rfl
theorem wt_26 : (Jvm.Cond.instanceMethod ({ cls := "java/lang/Object", name := "<init>", desc := "()V" } : Jvm.MethodName)) ∈ TB := tb_1 26 (by decide +kernel) rfl
theorem wt_27 : (Jvm.Cond.code ({ cls := "java/lang/Object", name := "<init>", desc := "()V" } : Jvm.MethodName) object_method_1_code (1 : Nat) (Option.none : Option Jvm.ClassFile.FieldType)) ∈ TB := tb_1 27 (by decide +kernel) rfl
theorem wt_28 : (Jvm.Cond.classLink "ThrownCoins" (7 : Nat) "ThrownCoins$Told") ∈ TB := tb_1 28 (by decide +kernel) rfl
theorem wt_29 : (Jvm.Cond.instantiable "ThrownCoins$Told" (12 : Nat)) ∈ TB := tb_1 29 (by decide +kernel) rfl
theorem wt_30 : (Jvm.Cond.methodLink "ThrownCoins" (9 : Nat) ({ cls := "ThrownCoins$Told", name := "<init>", desc := "()V" } : Jvm.MethodName)) ∈ TB := tb_1 30 (by decide +kernel) rfl
theorem wt_31 : (Jvm.Cond.instanceMethod ({ cls := "ThrownCoins$Told", name := "<init>", desc := "()V" } : Jvm.MethodName)) ∈ TB := tb_1 31 (by decide +kernel) rfl
theorem wt_32 : (Jvm.Cond.code ({ cls := "ThrownCoins$Told", name := "<init>", desc := "()V" } : Jvm.MethodName) prog_11_method_1_code (1 : Nat) (Option.none : Option Jvm.ClassFile.FieldType)) ∈ TB := tb_1 32 (by decide +kernel) rfl
theorem wt_33 : (Jvm.Cond.methodLink "ThrownCoins$Told" (3 : Nat) ({ cls := "java/lang/Object", name := "<init>", desc := "()V" } : Jvm.MethodName)) ∈ TB := tb_1 33 (by decide +kernel) rfl
theorem wt_34 : (Jvm.Cond.classLink "ThrownCoins$Told" (9 : Nat) "ThrownCoins$Never") ∈ TB := tb_1 34 (by decide +kernel) rfl
theorem wt_35 : (Jvm.Cond.instantiable "ThrownCoins$Never" (0 : Nat)) ∈ TB := tb_1 35 (by decide +kernel) rfl
theorem wt_37 : (Jvm.Cond.instanceMethod ({ cls := "ThrownCoins$Never", name := "<init>", desc := "()V" } : Jvm.MethodName)) ∈ TB := tb_1 37 (by decide +kernel) rfl
theorem wt_38 : (Jvm.Cond.code ({ cls := "ThrownCoins$Never", name := "<init>", desc := "()V" } : Jvm.MethodName) prog_7_method_1_code (1 : Nat) (Option.none : Option Jvm.ClassFile.FieldType)) ∈ TB := tb_1 38 (by decide +kernel) rfl
theorem wt_40 : (Jvm.Cond.instanceMethod ({ cls := "ThrownCoins$Folk", name := "<init>", desc := "()V" } : Jvm.MethodName)) ∈ TB := tb_1 40 (by decide +kernel) rfl
theorem wt_41 : (Jvm.Cond.code ({ cls := "ThrownCoins$Folk", name := "<init>", desc := "()V" } : Jvm.MethodName) prog_3_method_1_code (1 : Nat) (Option.none : Option Jvm.ClassFile.FieldType)) ∈ TB := tb_1 41 (by decide +kernel) rfl
theorem wt_42 : (Jvm.Cond.methodLink "ThrownCoins$Folk" (3 : Nat) ({ cls := "java/lang/Object", name := "<init>", desc := "()V" } : Jvm.MethodName)) ∈ TB := tb_1 42 (by decide +kernel) rfl
theorem wt_44 : (Jvm.Cond.classLink "ThrownCoins$Told" (18 : Nat) "ThrownCoins$Greedy") ∈ TB := tb_1 44 (by decide +kernel) rfl
theorem wt_45 : (Jvm.Cond.instantiable "ThrownCoins$Greedy" (0 : Nat)) ∈ TB := tb_1 45 (by decide +kernel) rfl
theorem wt_47 : (Jvm.Cond.instanceMethod ({ cls := "ThrownCoins$Greedy", name := "<init>", desc := "()V" } : Jvm.MethodName)) ∈ TB := tb_1 47 (by decide +kernel) rfl
theorem wt_48 : (Jvm.Cond.code ({ cls := "ThrownCoins$Greedy", name := "<init>", desc := "()V" } : Jvm.MethodName) prog_5_method_1_code (1 : Nat) (Option.none : Option Jvm.ClassFile.FieldType)) ∈ TB := tb_1 48 (by decide +kernel) rfl
theorem wt_50 : (Jvm.Cond.instanceMethod ({ cls := "ThrownCoins$Thrower", name := "<init>", desc := "()V" } : Jvm.MethodName)) ∈ TB := tb_1 50 (by decide +kernel) rfl
theorem wt_51 : (Jvm.Cond.code ({ cls := "ThrownCoins$Thrower", name := "<init>", desc := "()V" } : Jvm.MethodName) prog_10_method_1_code (1 : Nat) (Option.none : Option Jvm.ClassFile.FieldType)) ∈ TB := tb_1 51 (by decide +kernel) rfl
theorem wt_54 : (Jvm.Cond.classLink "ThrownCoins$Told" (24 : Nat) "ThrownCoins$Waiting") ∈ TB := tb_1 54 (by decide +kernel) rfl
theorem wt_55 : (Jvm.Cond.instantiable "ThrownCoins$Waiting" (0 : Nat)) ∈ TB := tb_1 55 (by decide +kernel) rfl
theorem wt_57 : (Jvm.Cond.instanceMethod ({ cls := "ThrownCoins$Waiting", name := "<init>", desc := "()V" } : Jvm.MethodName)) ∈ TB := tb_1 57 (by decide +kernel) rfl
theorem wt_58 : (Jvm.Cond.code ({ cls := "ThrownCoins$Waiting", name := "<init>", desc := "()V" } : Jvm.MethodName) prog_12_method_1_code (1 : Nat) (Option.none : Option Jvm.ClassFile.FieldType)) ∈ TB := tb_1 58 (by decide +kernel) rfl
theorem wt_61 : (Jvm.Cond.classLink "ThrownCoins$Told" (30 : Nat) "ThrownCoins$Cheap") ∈ TB := tb_1 61 (by decide +kernel) rfl
theorem wt_62 : (Jvm.Cond.instantiable "ThrownCoins$Cheap" (0 : Nat)) ∈ TB := tb_1 62 (by decide +kernel) rfl
theorem wt_64 : (Jvm.Cond.instanceMethod ({ cls := "ThrownCoins$Cheap", name := "<init>", desc := "()V" } : Jvm.MethodName)) ∈ TB := tb_1 64 (by decide +kernel) rfl
theorem wt_65 : (Jvm.Cond.code ({ cls := "ThrownCoins$Cheap", name := "<init>", desc := "()V" } : Jvm.MethodName) prog_2_method_1_code (1 : Nat) (Option.none : Option Jvm.ClassFile.FieldType)) ∈ TB := tb_1 65 (by decide +kernel) rfl
theorem wt_68 : (Jvm.Cond.classLink "ThrownCoins$Told" (49 : Nat) "ThrownCoins$Lot") ∈ TB := tb_1 68 (by decide +kernel) rfl
theorem wt_69 : (Jvm.Cond.instantiable "ThrownCoins$Lot" (2 : Nat)) ∈ TB := tb_1 69 (by decide +kernel) rfl
theorem wt_71 : (Jvm.Cond.instanceMethod ({ cls := "ThrownCoins$Lot", name := "<init>", desc := "()V" } : Jvm.MethodName)) ∈ TB := tb_1 71 (by decide +kernel) rfl
theorem wt_72 : (Jvm.Cond.code ({ cls := "ThrownCoins$Lot", name := "<init>", desc := "()V" } : Jvm.MethodName) prog_6_method_1_code (1 : Nat) (Option.none : Option Jvm.ClassFile.FieldType)) ∈ TB := tb_1 72 (by decide +kernel) rfl
theorem wt_73 : (Jvm.Cond.methodLink "ThrownCoins$Lot" (3 : Nat) ({ cls := "java/lang/Object", name := "<init>", desc := "()V" } : Jvm.MethodName)) ∈ TB := tb_1 73 (by decide +kernel) rfl
theorem wt_74 : (Jvm.Cond.fieldLink "ThrownCoins$Lot" (9 : Nat) "ThrownCoins$Lot" "coins" "[I") ∈ TB := tb_1 74 (by decide +kernel) rfl
theorem wt_76 : (Jvm.Cond.fieldLink "ThrownCoins$Lot" (21 : Nat) "ThrownCoins$Lot" "gone" "I") ∈ TB := tb_1 76 (by decide +kernel) rfl
theorem wt_79 : (Jvm.Cond.laysFinal "ThrownCoins$Lot" "ThrownCoins$Lot" "coins" "[I") ∈ TB := tb_1 79 (by decide +kernel) rfl
theorem wt_81 : (Jvm.Cond.lays "ThrownCoins$Lot" "ThrownCoins$Lot" "gone" "I") ∈ TB := tb_1 81 (by decide +kernel) rfl
theorem wt_84 : (Jvm.Cond.arrayClass Jvm.ClassFile.FieldType.int) ∈ TB := tb_1 84 (by decide +kernel) rfl
theorem wt_85 : (Jvm.Cond.fieldLink "ThrownCoins$Told" (12 : Nat) "ThrownCoins$Told" "never" "LThrownCoins$Folk;") ∈ TB := tb_1 85 (by decide +kernel) rfl
theorem wt_86 : (Jvm.Cond.fieldLink "ThrownCoins$Told" (21 : Nat) "ThrownCoins$Told" "greedy" "LThrownCoins$Folk;") ∈ TB := tb_1 86 (by decide +kernel) rfl
theorem wt_88 : (Jvm.Cond.fieldLink "ThrownCoins$Told" (27 : Nat) "ThrownCoins$Told" "waiting" "LThrownCoins$Folk;") ∈ TB := tb_1 88 (by decide +kernel) rfl
theorem wt_89 : (Jvm.Cond.fieldLink "ThrownCoins$Told" (33 : Nat) "ThrownCoins$Told" "cheap" "LThrownCoins$Folk;") ∈ TB := tb_1 89 (by decide +kernel) rfl
theorem wt_90 : (Jvm.Cond.fieldLink "ThrownCoins$Told" (36 : Nat) "ThrownCoins$Told" "worths" "[I") ∈ TB := tb_1 90 (by decide +kernel) rfl
theorem wt_91 : (Jvm.Cond.fieldLink "ThrownCoins$Told" (40 : Nat) "ThrownCoins$Told" "habits" "[I") ∈ TB := tb_1 91 (by decide +kernel) rfl
theorem wt_92 : (Jvm.Cond.fieldLink "ThrownCoins$Told" (43 : Nat) "ThrownCoins$Told" "bounds" "[I") ∈ TB := tb_1 92 (by decide +kernel) rfl
theorem wt_93 : (Jvm.Cond.fieldLink "ThrownCoins$Told" (46 : Nat) "ThrownCoins$Told" "visitors" "[I") ∈ TB := tb_1 93 (by decide +kernel) rfl
theorem wt_94 : (Jvm.Cond.fieldLink "ThrownCoins$Told" (52 : Nat) "ThrownCoins$Told" "atFirst" "LThrownCoins$Lot;") ∈ TB := tb_1 94 (by decide +kernel) rfl
theorem wt_97 : (Jvm.Cond.fieldLink "ThrownCoins$Told" (56 : Nat) "ThrownCoins$Told" "kinds" "I") ∈ TB := tb_1 97 (by decide +kernel) rfl
theorem wt_103 : (Jvm.Cond.fieldLink "ThrownCoins$Told" (73 : Nat) "ThrownCoins$Told" "visitCount" "I") ∈ TB := tb_1 103 (by decide +kernel) rfl
theorem wt_107 : (Jvm.Cond.fieldLink "ThrownCoins$Told" (60 : Nat) "ThrownCoins$Told" "law" "I") ∈ TB := tb_1 107 (by decide +kernel) rfl
theorem wt_110 : (Jvm.Cond.laysFinal "ThrownCoins$Told" "ThrownCoins$Told" "never" "LThrownCoins$Folk;") ∈ TB := tb_1 110 (by decide +kernel) rfl
theorem wt_112 : (Jvm.Cond.laysFinal "ThrownCoins$Told" "ThrownCoins$Told" "greedy" "LThrownCoins$Folk;") ∈ TB := tb_1 112 (by decide +kernel) rfl
theorem wt_114 : (Jvm.Cond.laysFinal "ThrownCoins$Told" "ThrownCoins$Told" "waiting" "LThrownCoins$Folk;") ∈ TB := tb_1 114 (by decide +kernel) rfl
theorem wt_116 : (Jvm.Cond.laysFinal "ThrownCoins$Told" "ThrownCoins$Told" "cheap" "LThrownCoins$Folk;") ∈ TB := tb_1 116 (by decide +kernel) rfl
theorem wt_118 : (Jvm.Cond.laysFinal "ThrownCoins$Told" "ThrownCoins$Told" "worths" "[I") ∈ TB := tb_1 118 (by decide +kernel) rfl
theorem wt_120 : (Jvm.Cond.laysFinal "ThrownCoins$Told" "ThrownCoins$Told" "habits" "[I") ∈ TB := tb_1 120 (by decide +kernel) rfl
theorem wt_122 : (Jvm.Cond.laysFinal "ThrownCoins$Told" "ThrownCoins$Told" "bounds" "[I") ∈ TB := tb_1 122 (by decide +kernel) rfl
theorem wt_124 : (Jvm.Cond.laysFinal "ThrownCoins$Told" "ThrownCoins$Told" "visitors" "[I") ∈ TB := tb_1 124 (by decide +kernel) rfl
theorem wt_126 : (Jvm.Cond.laysFinal "ThrownCoins$Told" "ThrownCoins$Told" "atFirst" "LThrownCoins$Lot;") ∈ TB := tb_1 126 (by decide +kernel) rfl
theorem wt_128 : (Jvm.Cond.lays "ThrownCoins$Told" "ThrownCoins$Told" "kinds" "I") ∈ TB := tb_1 128 (by decide +kernel) rfl
theorem wt_130 : (Jvm.Cond.lays "ThrownCoins$Told" "ThrownCoins$Told" "visitCount" "I") ∈ TB := tb_1 130 (by decide +kernel) rfl
theorem wt_132 : (Jvm.Cond.lays "ThrownCoins$Told" "ThrownCoins$Told" "law" "I") ∈ TB := tb_1 132 (by decide +kernel) rfl
theorem wt_135 : (Jvm.Cond.classLink "ThrownCoins" (16 : Nat) "ThrownCoins$Lot") ∈ TB := tb_1 135 (by decide +kernel) rfl
theorem wt_138 : (Jvm.Cond.classLink "ThrownCoins" (27 : Nat) "ThrownCoins$Text") ∈ TB := tb_1 138 (by decide +kernel) rfl
theorem wt_139 : (Jvm.Cond.instantiable "ThrownCoins$Text" (8 : Nat)) ∈ TB := tb_1 139 (by decide +kernel) rfl
theorem wt_141 : (Jvm.Cond.instanceMethod ({ cls := "ThrownCoins$Text", name := "<init>", desc := "()V" } : Jvm.MethodName)) ∈ TB := tb_1 141 (by decide +kernel) rfl
theorem wt_142 : (Jvm.Cond.code ({ cls := "ThrownCoins$Text", name := "<init>", desc := "()V" } : Jvm.MethodName) prog_9_method_1_code (1 : Nat) (Option.none : Option Jvm.ClassFile.FieldType)) ∈ TB := tb_1 142 (by decide +kernel) rfl
theorem wt_143 : (Jvm.Cond.methodLink "ThrownCoins$Text" (3 : Nat) ({ cls := "java/lang/Object", name := "<init>", desc := "()V" } : Jvm.MethodName)) ∈ TB := tb_1 143 (by decide +kernel) rfl
theorem wt_144 : (Jvm.Cond.classLink "ThrownCoins$Text" (15 : Nat) "ThrownCoins$Told") ∈ TB := tb_1 144 (by decide +kernel) rfl
theorem wt_145 : (Jvm.Cond.methodLink "ThrownCoins$Text" (17 : Nat) ({ cls := "ThrownCoins$Told", name := "<init>", desc := "()V" } : Jvm.MethodName)) ∈ TB := tb_1 145 (by decide +kernel) rfl
theorem wt_146 : (Jvm.Cond.fieldLink "ThrownCoins$Text" (9 : Nat) "ThrownCoins$Text" "bytes" "[I") ∈ TB := tb_1 146 (by decide +kernel) rfl
theorem wt_147 : (Jvm.Cond.fieldLink "ThrownCoins$Text" (18 : Nat) "ThrownCoins$Text" "draft" "LThrownCoins$Told;") ∈ TB := tb_1 147 (by decide +kernel) rfl
theorem wt_149 : (Jvm.Cond.fieldLink "ThrownCoins$Text" (22 : Nat) "ThrownCoins$Text" "length" "I") ∈ TB := tb_1 149 (by decide +kernel) rfl
theorem wt_151 : (Jvm.Cond.fieldLink "ThrownCoins$Text" (36 : Nat) "ThrownCoins$Text" "lines" "I") ∈ TB := tb_1 151 (by decide +kernel) rfl
theorem wt_153 : (Jvm.Cond.fieldLink "ThrownCoins$Text" (43 : Nat) "ThrownCoins$Text" "begin" "I") ∈ TB := tb_1 153 (by decide +kernel) rfl
theorem wt_154 : (Jvm.Cond.fieldLink "ThrownCoins$Text" (30 : Nat) "ThrownCoins$Text" "end" "I") ∈ TB := tb_1 154 (by decide +kernel) rfl
theorem wt_155 : (Jvm.Cond.fieldLink "ThrownCoins$Text" (46 : Nat) "ThrownCoins$Text" "token" "I") ∈ TB := tb_1 155 (by decide +kernel) rfl
theorem wt_156 : (Jvm.Cond.fieldLink "ThrownCoins$Text" (86 : Nat) "ThrownCoins$Text" "value" "I") ∈ TB := tb_1 156 (by decide +kernel) rfl
theorem wt_157 : (Jvm.Cond.laysFinal "ThrownCoins$Text" "ThrownCoins$Text" "bytes" "[I") ∈ TB := tb_1 157 (by decide +kernel) rfl
theorem wt_159 : (Jvm.Cond.laysFinal "ThrownCoins$Text" "ThrownCoins$Text" "draft" "LThrownCoins$Told;") ∈ TB := tb_1 159 (by decide +kernel) rfl
theorem wt_161 : (Jvm.Cond.lays "ThrownCoins$Text" "ThrownCoins$Text" "length" "I") ∈ TB := tb_1 161 (by decide +kernel) rfl
theorem wt_163 : (Jvm.Cond.lays "ThrownCoins$Text" "ThrownCoins$Text" "lines" "I") ∈ TB := tb_1 163 (by decide +kernel) rfl
theorem wt_165 : (Jvm.Cond.lays "ThrownCoins$Text" "ThrownCoins$Text" "begin" "I") ∈ TB := tb_1 165 (by decide +kernel) rfl
theorem wt_167 : (Jvm.Cond.lays "ThrownCoins$Text" "ThrownCoins$Text" "end" "I") ∈ TB := tb_1 167 (by decide +kernel) rfl
theorem wt_169 : (Jvm.Cond.lays "ThrownCoins$Text" "ThrownCoins$Text" "token" "I") ∈ TB := tb_1 169 (by decide +kernel) rfl
theorem wt_171 : (Jvm.Cond.lays "ThrownCoins$Text" "ThrownCoins$Text" "value" "I") ∈ TB := tb_1 171 (by decide +kernel) rfl
theorem wt_174 : (Jvm.Cond.classLink "ThrownCoins" (34 : Nat) "ThrownCoins$Foretelling") ∈ TB := tb_1 174 (by decide +kernel) rfl
theorem wt_175 : (Jvm.Cond.instantiable "ThrownCoins$Foretelling" (8 : Nat)) ∈ TB := tb_1 175 (by decide +kernel) rfl
theorem wt_176 : (Jvm.Cond.methodLink "ThrownCoins" (36 : Nat) ({ cls := "ThrownCoins$Foretelling", name := "<init>", desc := "(LThrownCoins$Told;)V" } : Jvm.MethodName)) ∈ TB := tb_1 176 (by decide +kernel) rfl
theorem wt_177 : (Jvm.Cond.instanceMethod ({ cls := "ThrownCoins$Foretelling", name := "<init>", desc := "(LThrownCoins$Told;)V" } : Jvm.MethodName)) ∈ TB := tb_1 177 (by decide +kernel) rfl
theorem wt_178 : (Jvm.Cond.code ({ cls := "ThrownCoins$Foretelling", name := "<init>", desc := "(LThrownCoins$Told;)V" } : Jvm.MethodName) prog_4_method_1_code (3 : Nat) (Option.none : Option Jvm.ClassFile.FieldType)) ∈ TB := tb_1 178 (by decide +kernel) rfl
theorem wt_179 : (Jvm.Cond.methodLink "ThrownCoins$Foretelling" (3 : Nat) ({ cls := "java/lang/Object", name := "<init>", desc := "()V" } : Jvm.MethodName)) ∈ TB := tb_1 179 (by decide +kernel) rfl
theorem wt_180 : (Jvm.Cond.classLink "ThrownCoins$Foretelling" (11 : Nat) "ThrownCoins$Lot") ∈ TB := tb_1 180 (by decide +kernel) rfl
theorem wt_181 : (Jvm.Cond.classLink "ThrownCoins$Foretelling" (17 : Nat) "[[I") ∈ TB := tb_1 181 (by decide +kernel) rfl
theorem wt_184 : (Jvm.Cond.fieldLink "ThrownCoins$Foretelling" (29 : Nat) "ThrownCoins$Foretelling" "told" "LThrownCoins$Told;") ∈ TB := tb_1 184 (by decide +kernel) rfl
theorem wt_185 : (Jvm.Cond.fieldLink "ThrownCoins$Foretelling" (13 : Nat) "ThrownCoins$Foretelling" "lots" "[LThrownCoins$Lot;") ∈ TB := tb_1 185 (by decide +kernel) rfl
theorem wt_186 : (Jvm.Cond.fieldLink "ThrownCoins$Foretelling" (19 : Nat) "ThrownCoins$Foretelling" "ends" "[[I") ∈ TB := tb_1 186 (by decide +kernel) rfl
theorem wt_187 : (Jvm.Cond.fieldLink "ThrownCoins$Foretelling" (22 : Nat) "ThrownCoins$Foretelling" "rows" "[[I") ∈ TB := tb_1 187 (by decide +kernel) rfl
theorem wt_188 : (Jvm.Cond.fieldLink "ThrownCoins$Foretelling" (25 : Nat) "ThrownCoins$Foretelling" "goals" "I") ∈ TB := tb_1 188 (by decide +kernel) rfl
theorem wt_189 : (Jvm.Cond.fieldLink "ThrownCoins$Foretelling" (34 : Nat) "ThrownCoins$Foretelling" "steps" "I") ∈ TB := tb_1 189 (by decide +kernel) rfl
theorem wt_190 : (Jvm.Cond.fieldLink "ThrownCoins$Foretelling" (117 : Nat) "ThrownCoins$Foretelling" "hoping" "I") ∈ TB := tb_1 190 (by decide +kernel) rfl
theorem wt_191 : (Jvm.Cond.fieldLink "ThrownCoins$Foretelling" (120 : Nat) "ThrownCoins$Foretelling" "tenths" "I") ∈ TB := tb_1 191 (by decide +kernel) rfl
theorem wt_192 : (Jvm.Cond.laysFinal "ThrownCoins$Foretelling" "ThrownCoins$Foretelling" "told" "LThrownCoins$Told;") ∈ TB := tb_1 192 (by decide +kernel) rfl
theorem wt_194 : (Jvm.Cond.laysFinal "ThrownCoins$Foretelling" "ThrownCoins$Foretelling" "lots" "[LThrownCoins$Lot;") ∈ TB := tb_1 194 (by decide +kernel) rfl
theorem wt_196 : (Jvm.Cond.laysFinal "ThrownCoins$Foretelling" "ThrownCoins$Foretelling" "ends" "[[I") ∈ TB := tb_1 196 (by decide +kernel) rfl
theorem wt_198 : (Jvm.Cond.laysFinal "ThrownCoins$Foretelling" "ThrownCoins$Foretelling" "rows" "[[I") ∈ TB := tb_1 198 (by decide +kernel) rfl
theorem wt_200 : (Jvm.Cond.lays "ThrownCoins$Foretelling" "ThrownCoins$Foretelling" "goals" "I") ∈ TB := tb_1 200 (by decide +kernel) rfl
theorem wt_202 : (Jvm.Cond.lays "ThrownCoins$Foretelling" "ThrownCoins$Foretelling" "steps" "I") ∈ TB := tb_1 202 (by decide +kernel) rfl
theorem wt_204 : (Jvm.Cond.lays "ThrownCoins$Foretelling" "ThrownCoins$Foretelling" "hoping" "I") ∈ TB := tb_1 204 (by decide +kernel) rfl
theorem wt_206 : (Jvm.Cond.lays "ThrownCoins$Foretelling" "ThrownCoins$Foretelling" "tenths" "I") ∈ TB := tb_1 206 (by decide +kernel) rfl
theorem wt_209 : (Jvm.Cond.classLink "ThrownCoins" (43 : Nat) "ThrownCoins$Notes") ∈ TB := tb_1 209 (by decide +kernel) rfl
theorem wt_210 : (Jvm.Cond.instantiable "ThrownCoins$Notes" (9 : Nat)) ∈ TB := tb_1 210 (by decide +kernel) rfl
theorem wt_211 : (Jvm.Cond.methodLink "ThrownCoins" (45 : Nat) ({ cls := "ThrownCoins$Notes", name := "<init>", desc := "(LThrownCoins$Told;)V" } : Jvm.MethodName)) ∈ TB := tb_1 211 (by decide +kernel) rfl
theorem wt_212 : (Jvm.Cond.instanceMethod ({ cls := "ThrownCoins$Notes", name := "<init>", desc := "(LThrownCoins$Told;)V" } : Jvm.MethodName)) ∈ TB := tb_1 212 (by decide +kernel) rfl
theorem wt_213 : (Jvm.Cond.code ({ cls := "ThrownCoins$Notes", name := "<init>", desc := "(LThrownCoins$Told;)V" } : Jvm.MethodName) prog_8_method_1_code (2 : Nat) (Option.none : Option Jvm.ClassFile.FieldType)) ∈ TB := tb_1 213 (by decide +kernel) rfl
theorem wt_214 : (Jvm.Cond.methodLink "ThrownCoins$Notes" (3 : Nat) ({ cls := "java/lang/Object", name := "<init>", desc := "()V" } : Jvm.MethodName)) ∈ TB := tb_1 214 (by decide +kernel) rfl
theorem wt_215 : (Jvm.Cond.classLink "ThrownCoins$Notes" (9 : Nat) "ThrownCoins$Lot") ∈ TB := tb_1 215 (by decide +kernel) rfl
theorem wt_217 : (Jvm.Cond.fieldLink "ThrownCoins$Notes" (31 : Nat) "ThrownCoins$Notes" "told" "LThrownCoins$Told;") ∈ TB := tb_1 217 (by decide +kernel) rfl
theorem wt_218 : (Jvm.Cond.fieldLink "ThrownCoins$Notes" (12 : Nat) "ThrownCoins$Notes" "lot" "LThrownCoins$Lot;") ∈ TB := tb_1 218 (by decide +kernel) rfl
theorem wt_219 : (Jvm.Cond.fieldLink "ThrownCoins$Notes" (18 : Nat) "ThrownCoins$Notes" "thrown" "[I") ∈ TB := tb_1 219 (by decide +kernel) rfl
theorem wt_220 : (Jvm.Cond.fieldLink "ThrownCoins$Notes" (22 : Nat) "ThrownCoins$Notes" "taken" "[I") ∈ TB := tb_1 220 (by decide +kernel) rfl
theorem wt_221 : (Jvm.Cond.fieldLink "ThrownCoins$Notes" (25 : Nat) "ThrownCoins$Notes" "least" "[I") ∈ TB := tb_1 221 (by decide +kernel) rfl
theorem wt_222 : (Jvm.Cond.fieldLink "ThrownCoins$Notes" (28 : Nat) "ThrownCoins$Notes" "most" "[I") ∈ TB := tb_1 222 (by decide +kernel) rfl
theorem wt_223 : (Jvm.Cond.fieldLink "ThrownCoins$Notes" (35 : Nat) "ThrownCoins$Notes" "size" "I") ∈ TB := tb_1 223 (by decide +kernel) rfl
theorem wt_225 : (Jvm.Cond.fieldLink "ThrownCoins$Notes" (39 : Nat) "ThrownCoins$Notes" "layings" "I") ∈ TB := tb_1 225 (by decide +kernel) rfl
theorem wt_227 : (Jvm.Cond.fieldLink "ThrownCoins$Notes" (42 : Nat) "ThrownCoins$Notes" "first" "I") ∈ TB := tb_1 227 (by decide +kernel) rfl
theorem wt_229 : (Jvm.Cond.laysFinal "ThrownCoins$Notes" "ThrownCoins$Notes" "told" "LThrownCoins$Told;") ∈ TB := tb_1 229 (by decide +kernel) rfl
theorem wt_231 : (Jvm.Cond.laysFinal "ThrownCoins$Notes" "ThrownCoins$Notes" "lot" "LThrownCoins$Lot;") ∈ TB := tb_1 231 (by decide +kernel) rfl
theorem wt_233 : (Jvm.Cond.laysFinal "ThrownCoins$Notes" "ThrownCoins$Notes" "thrown" "[I") ∈ TB := tb_1 233 (by decide +kernel) rfl
theorem wt_235 : (Jvm.Cond.laysFinal "ThrownCoins$Notes" "ThrownCoins$Notes" "taken" "[I") ∈ TB := tb_1 235 (by decide +kernel) rfl
theorem wt_237 : (Jvm.Cond.laysFinal "ThrownCoins$Notes" "ThrownCoins$Notes" "least" "[I") ∈ TB := tb_1 237 (by decide +kernel) rfl
theorem wt_239 : (Jvm.Cond.laysFinal "ThrownCoins$Notes" "ThrownCoins$Notes" "most" "[I") ∈ TB := tb_1 239 (by decide +kernel) rfl
theorem wt_241 : (Jvm.Cond.lays "ThrownCoins$Notes" "ThrownCoins$Notes" "size" "I") ∈ TB := tb_2 1 (by decide +kernel) rfl
theorem wt_243 : (Jvm.Cond.lays "ThrownCoins$Notes" "ThrownCoins$Notes" "layings" "I") ∈ TB := tb_2 3 (by decide +kernel) rfl
theorem wt_245 : (Jvm.Cond.lays "ThrownCoins$Notes" "ThrownCoins$Notes" "first" "I") ∈ TB := tb_2 5 (by decide +kernel) rfl
theorem wt_248 : (Jvm.Cond.fieldLink "ThrownCoins" (10 : Nat) "ThrownCoins" "told" "LThrownCoins$Told;") ∈ TB := tb_2 8 (by decide +kernel) rfl
theorem wt_249 : (Jvm.Cond.fieldLink "ThrownCoins" (19 : Nat) "ThrownCoins" "now" "LThrownCoins$Lot;") ∈ TB := tb_2 9 (by decide +kernel) rfl
theorem wt_250 : (Jvm.Cond.fieldLink "ThrownCoins" (23 : Nat) "ThrownCoins" "kept" "[LThrownCoins$Lot;") ∈ TB := tb_2 10 (by decide +kernel) rfl
theorem wt_251 : (Jvm.Cond.fieldLink "ThrownCoins" (30 : Nat) "ThrownCoins" "text" "LThrownCoins$Text;") ∈ TB := tb_2 11 (by decide +kernel) rfl
theorem wt_252 : (Jvm.Cond.fieldLink "ThrownCoins" (39 : Nat) "ThrownCoins" "foretelling" "LThrownCoins$Foretelling;") ∈ TB := tb_2 12 (by decide +kernel) rfl
theorem wt_253 : (Jvm.Cond.fieldLink "ThrownCoins" (46 : Nat) "ThrownCoins" "notes" "LThrownCoins$Notes;") ∈ TB := tb_2 13 (by decide +kernel) rfl
theorem wt_254 : (Jvm.Cond.fieldLink "ThrownCoins" (79 : Nat) "ThrownCoins" "keptBits" "I") ∈ TB := tb_2 14 (by decide +kernel) rfl
theorem wt_255 : (Jvm.Cond.laysFinal "ThrownCoins" "ThrownCoins" "told" "LThrownCoins$Told;") ∈ TB := tb_2 15 (by decide +kernel) rfl
theorem wt_257 : (Jvm.Cond.laysFinal "ThrownCoins" "ThrownCoins" "now" "LThrownCoins$Lot;") ∈ TB := tb_2 17 (by decide +kernel) rfl
theorem wt_259 : (Jvm.Cond.laysFinal "ThrownCoins" "ThrownCoins" "kept" "[LThrownCoins$Lot;") ∈ TB := tb_2 19 (by decide +kernel) rfl
theorem wt_261 : (Jvm.Cond.laysFinal "ThrownCoins" "ThrownCoins" "text" "LThrownCoins$Text;") ∈ TB := tb_2 21 (by decide +kernel) rfl
theorem wt_263 : (Jvm.Cond.laysFinal "ThrownCoins" "ThrownCoins" "foretelling" "LThrownCoins$Foretelling;") ∈ TB := tb_2 23 (by decide +kernel) rfl
theorem wt_265 : (Jvm.Cond.laysFinal "ThrownCoins" "ThrownCoins" "notes" "LThrownCoins$Notes;") ∈ TB := tb_2 25 (by decide +kernel) rfl
theorem wt_267 : (Jvm.Cond.lays "ThrownCoins" "ThrownCoins" "keptBits" "I") ∈ TB := tb_2 27 (by decide +kernel) rfl
theorem wt_270 : (Jvm.Cond.methodLink "ThrownCoinsLaw" (15 : Nat) ({ cls := "ThrownCoins", name := "write", desc := "(JI)I" } : Jvm.MethodName)) ∈ TB := tb_2 30 (by decide +kernel) rfl
theorem wt_271 : (Jvm.Cond.instanceMethod ({ cls := "ThrownCoins", name := "write", desc := "(JI)I" } : Jvm.MethodName)) ∈ TB := tb_2 31 (by decide +kernel) rfl
theorem wt_272 : (Jvm.Cond.selects "ThrownCoins" ({ cls := "ThrownCoins", name := "write", desc := "(JI)I" } : Jvm.MethodName) ({ cls := "ThrownCoins", name := "write", desc := "(JI)I" } : Jvm.MethodName)) ∈ TB := tb_2 32 (by decide +kernel) rfl
theorem wt_273 : (Jvm.Cond.code ({ cls := "ThrownCoins", name := "write", desc := "(JI)I" } : Jvm.MethodName) prog_1_method_2_code (5 : Nat) (Option.some Jvm.ClassFile.FieldType.int)) ∈ TB := tb_2 33 (by decide +kernel) rfl
theorem wt_274 : (Jvm.Cond.constantLong "ThrownCoins" (54 : Nat) (255 : Int64)) ∈ TB := tb_2 34 (by decide +kernel) rfl
theorem wt_275 : (Jvm.Cond.methodLink "ThrownCoins" (56 : Nat) ({ cls := "ThrownCoins$Text", name := "append", desc := "(I)V" } : Jvm.MethodName)) ∈ TB := tb_2 35 (by decide +kernel) rfl
theorem wt_276 : (Jvm.Cond.instanceMethod ({ cls := "ThrownCoins$Text", name := "append", desc := "(I)V" } : Jvm.MethodName)) ∈ TB := tb_2 36 (by decide +kernel) rfl
theorem wt_277 : (Jvm.Cond.selects "ThrownCoins$Text" ({ cls := "ThrownCoins$Text", name := "append", desc := "(I)V" } : Jvm.MethodName) ({ cls := "ThrownCoins$Text", name := "append", desc := "(I)V" } : Jvm.MethodName)) ∈ TB := tb_2 37 (by decide +kernel) rfl
theorem wt_278 : (Jvm.Cond.code ({ cls := "ThrownCoins$Text", name := "append", desc := "(I)V" } : Jvm.MethodName) prog_9_method_2_code (2 : Nat) (Option.none : Option Jvm.ClassFile.FieldType)) ∈ TB := tb_2 38 (by decide +kernel) rfl
theorem wt_279 : (Jvm.Cond.methodLink "ThrownCoinsLaw" (20 : Nat) ({ cls := "ThrownCoins", name := "erase", desc := "()I" } : Jvm.MethodName)) ∈ TB := tb_2 39 (by decide +kernel) rfl
theorem wt_280 : (Jvm.Cond.instanceMethod ({ cls := "ThrownCoins", name := "erase", desc := "()I" } : Jvm.MethodName)) ∈ TB := tb_2 40 (by decide +kernel) rfl
theorem wt_281 : (Jvm.Cond.selects "ThrownCoins" ({ cls := "ThrownCoins", name := "erase", desc := "()I" } : Jvm.MethodName) ({ cls := "ThrownCoins", name := "erase", desc := "()I" } : Jvm.MethodName)) ∈ TB := tb_2 41 (by decide +kernel) rfl
theorem wt_282 : (Jvm.Cond.code ({ cls := "ThrownCoins", name := "erase", desc := "()I" } : Jvm.MethodName) prog_1_method_3_code (2 : Nat) (Option.some Jvm.ClassFile.FieldType.int)) ∈ TB := tb_2 42 (by decide +kernel) rfl
theorem wt_283 : (Jvm.Cond.methodLink "ThrownCoinsLaw" (25 : Nat) ({ cls := "ThrownCoins", name := "fault", desc := "()I" } : Jvm.MethodName)) ∈ TB := tb_2 43 (by decide +kernel) rfl
theorem wt_284 : (Jvm.Cond.instanceMethod ({ cls := "ThrownCoins", name := "fault", desc := "()I" } : Jvm.MethodName)) ∈ TB := tb_2 44 (by decide +kernel) rfl
theorem wt_285 : (Jvm.Cond.selects "ThrownCoins" ({ cls := "ThrownCoins", name := "fault", desc := "()I" } : Jvm.MethodName) ({ cls := "ThrownCoins", name := "fault", desc := "()I" } : Jvm.MethodName)) ∈ TB := tb_2 45 (by decide +kernel) rfl
theorem wt_286 : (Jvm.Cond.code ({ cls := "ThrownCoins", name := "fault", desc := "()I" } : Jvm.MethodName) prog_1_method_4_code (1 : Nat) (Option.some Jvm.ClassFile.FieldType.int)) ∈ TB := tb_2 46 (by decide +kernel) rfl
theorem wt_287 : (Jvm.Cond.methodLink "ThrownCoins" (60 : Nat) ({ cls := "ThrownCoins$Text", name := "readOver", desc := "(LThrownCoins$Told;)I" } : Jvm.MethodName)) ∈ TB := tb_2 47 (by decide +kernel) rfl
theorem wt_288 : (Jvm.Cond.instanceMethod ({ cls := "ThrownCoins$Text", name := "readOver", desc := "(LThrownCoins$Told;)I" } : Jvm.MethodName)) ∈ TB := tb_2 48 (by decide +kernel) rfl
theorem wt_289 : (Jvm.Cond.selects "ThrownCoins$Text" ({ cls := "ThrownCoins$Text", name := "readOver", desc := "(LThrownCoins$Told;)I" } : Jvm.MethodName) ({ cls := "ThrownCoins$Text", name := "readOver", desc := "(LThrownCoins$Told;)I" } : Jvm.MethodName)) ∈ TB := tb_2 49 (by decide +kernel) rfl
theorem wt_290 : (Jvm.Cond.code ({ cls := "ThrownCoins$Text", name := "readOver", desc := "(LThrownCoins$Told;)I" } : Jvm.MethodName) prog_9_method_3_code (2 : Nat) (Option.some Jvm.ClassFile.FieldType.int)) ∈ TB := tb_2 50 (by decide +kernel) rfl
theorem wt_291 : (Jvm.Cond.methodLink "ThrownCoins$Text" (26 : Nat) ({ cls := "ThrownCoins$Told", name := "copyFrom", desc := "(LThrownCoins$Told;)V" } : Jvm.MethodName)) ∈ TB := tb_2 51 (by decide +kernel) rfl
theorem wt_292 : (Jvm.Cond.instanceMethod ({ cls := "ThrownCoins$Told", name := "copyFrom", desc := "(LThrownCoins$Told;)V" } : Jvm.MethodName)) ∈ TB := tb_2 52 (by decide +kernel) rfl
theorem wt_293 : (Jvm.Cond.selects "ThrownCoins$Told" ({ cls := "ThrownCoins$Told", name := "copyFrom", desc := "(LThrownCoins$Told;)V" } : Jvm.MethodName) ({ cls := "ThrownCoins$Told", name := "copyFrom", desc := "(LThrownCoins$Told;)V" } : Jvm.MethodName)) ∈ TB := tb_2 53 (by decide +kernel) rfl
theorem wt_294 : (Jvm.Cond.code ({ cls := "ThrownCoins$Told", name := "copyFrom", desc := "(LThrownCoins$Told;)V" } : Jvm.MethodName) prog_11_method_2_code (2 : Nat) (Option.none : Option Jvm.ClassFile.FieldType)) ∈ TB := tb_2 54 (by decide +kernel) rfl
theorem wt_295 : (Jvm.Cond.methodLink "ThrownCoins$Told" (63 : Nat) ({ cls := "java/lang/System", name := "arraycopy", desc := "(Ljava/lang/Object;ILjava/lang/Object;II)V" } : Jvm.MethodName)) ∈ TB := tb_2 55 (by decide +kernel) rfl
theorem wt_296 : (Jvm.Cond.static ({ cls := "java/lang/System", name := "arraycopy", desc := "(Ljava/lang/Object;ILjava/lang/Object;II)V" } : Jvm.MethodName)) ∈ TB := tb_2 56 (by decide +kernel) rfl
theorem wt_297 : (Jvm.Cond.native ({ cls := "java/lang/System", name := "arraycopy", desc := "(Ljava/lang/Object;ILjava/lang/Object;II)V" } : Jvm.MethodName)) ∈ TB := tb_2 57 (by decide +kernel) rfl
theorem wt_298 : (Jvm.Cond.methodLink "ThrownCoins$Told" (69 : Nat) ({ cls := "ThrownCoins$Lot", name := "copyFrom", desc := "(LThrownCoins$Lot;)V" } : Jvm.MethodName)) ∈ TB := tb_2 58 (by decide +kernel) rfl
theorem wt_299 : (Jvm.Cond.instanceMethod ({ cls := "ThrownCoins$Lot", name := "copyFrom", desc := "(LThrownCoins$Lot;)V" } : Jvm.MethodName)) ∈ TB := tb_2 59 (by decide +kernel) rfl
theorem wt_300 : (Jvm.Cond.selects "ThrownCoins$Lot" ({ cls := "ThrownCoins$Lot", name := "copyFrom", desc := "(LThrownCoins$Lot;)V" } : Jvm.MethodName) ({ cls := "ThrownCoins$Lot", name := "copyFrom", desc := "(LThrownCoins$Lot;)V" } : Jvm.MethodName)) ∈ TB := tb_2 60 (by decide +kernel) rfl
theorem wt_301 : (Jvm.Cond.code ({ cls := "ThrownCoins$Lot", name := "copyFrom", desc := "(LThrownCoins$Lot;)V" } : Jvm.MethodName) prog_6_method_5_code (2 : Nat) (Option.none : Option Jvm.ClassFile.FieldType)) ∈ TB := tb_2 61 (by decide +kernel) rfl
theorem wt_302 : (Jvm.Cond.methodLink "ThrownCoins$Lot" (15 : Nat) ({ cls := "java/lang/System", name := "arraycopy", desc := "(Ljava/lang/Object;ILjava/lang/Object;II)V" } : Jvm.MethodName)) ∈ TB := tb_2 62 (by decide +kernel) rfl
theorem wt_303 : (Jvm.Cond.methodLink "ThrownCoins$Text" (33 : Nat) ({ cls := "ThrownCoins$Text", name := "nextToken", desc := "()V" } : Jvm.MethodName)) ∈ TB := tb_2 63 (by decide +kernel) rfl
theorem wt_305 : (Jvm.Cond.instanceMethod ({ cls := "ThrownCoins$Text", name := "nextToken", desc := "()V" } : Jvm.MethodName)) ∈ TB := tb_2 65 (by decide +kernel) rfl
theorem wt_306 : (Jvm.Cond.code ({ cls := "ThrownCoins$Text", name := "nextToken", desc := "()V" } : Jvm.MethodName) prog_9_method_4_code (2 : Nat) (Option.none : Option Jvm.ClassFile.FieldType)) ∈ TB := tb_2 66 (by decide +kernel) rfl
theorem wt_307 : (Jvm.Cond.methodLink "ThrownCoins$Text" (52 : Nat) ({ cls := "ThrownCoins$Text", name := "byteAt", desc := "(I)I" } : Jvm.MethodName)) ∈ TB := tb_2 67 (by decide +kernel) rfl
theorem wt_309 : (Jvm.Cond.instanceMethod ({ cls := "ThrownCoins$Text", name := "byteAt", desc := "(I)I" } : Jvm.MethodName)) ∈ TB := tb_2 69 (by decide +kernel) rfl
theorem wt_310 : (Jvm.Cond.code ({ cls := "ThrownCoins$Text", name := "byteAt", desc := "(I)I" } : Jvm.MethodName) prog_9_method_5_code (2 : Nat) (Option.some Jvm.ClassFile.FieldType.int)) ∈ TB := tb_2 70 (by decide +kernel) rfl
theorem wt_311 : (Jvm.Cond.methodLink "ThrownCoins$Text" (56 : Nat) ({ cls := "ThrownCoins$Text", name := "tokenOf", desc := "(I)I" } : Jvm.MethodName)) ∈ TB := tb_2 71 (by decide +kernel) rfl
theorem wt_312 : (Jvm.Cond.static ({ cls := "ThrownCoins$Text", name := "tokenOf", desc := "(I)I" } : Jvm.MethodName)) ∈ TB := tb_2 72 (by decide +kernel) rfl
theorem wt_313 : (Jvm.Cond.code ({ cls := "ThrownCoins$Text", name := "tokenOf", desc := "(I)I" } : Jvm.MethodName) prog_9_method_6_code (1 : Nat) (Option.some Jvm.ClassFile.FieldType.int)) ∈ TB := tb_2 73 (by decide +kernel) rfl
theorem wt_314 : (Jvm.Cond.methodLink "ThrownCoins$Text" (59 : Nat) ({ cls := "java/lang/Math", name := "min", desc := "(II)I" } : Jvm.MethodName)) ∈ TB := tb_2 74 (by decide +kernel) rfl
theorem wt_315 : (Jvm.Cond.static ({ cls := "java/lang/Math", name := "min", desc := "(II)I" } : Jvm.MethodName)) ∈ TB := tb_2 75 (by decide +kernel) rfl
theorem wt_316 : (Jvm.Cond.code ({ cls := "java/lang/Math", name := "min", desc := "(II)I" } : Jvm.MethodName) prog_15_method_69_code (2 : Nat) (Option.some Jvm.ClassFile.FieldType.int)) ∈ TB := tb_2 76 (by decide +kernel) rfl
theorem wt_317 : (Jvm.Cond.methodLink "ThrownCoins$Text" (39 : Nat) ({ cls := "ThrownCoins$Text", name := "readLine", desc := "()Z" } : Jvm.MethodName)) ∈ TB := tb_2 77 (by decide +kernel) rfl
theorem wt_319 : (Jvm.Cond.instanceMethod ({ cls := "ThrownCoins$Text", name := "readLine", desc := "()Z" } : Jvm.MethodName)) ∈ TB := tb_2 79 (by decide +kernel) rfl
theorem wt_320 : (Jvm.Cond.code ({ cls := "ThrownCoins$Text", name := "readLine", desc := "()Z" } : Jvm.MethodName) prog_9_method_8_code (1 : Nat) (Option.some Jvm.ClassFile.FieldType.boolean)) ∈ TB := tb_2 80 (by decide +kernel) rfl
theorem wt_322 : (Jvm.Cond.methodLink "ThrownCoins$Text" (67 : Nat) ({ cls := "ThrownCoins$Text", name := "readWord", desc := "(Ljava/lang/String;)Z" } : Jvm.MethodName)) ∈ TB := tb_2 82 (by decide +kernel) rfl
theorem wt_324 : (Jvm.Cond.instanceMethod ({ cls := "ThrownCoins$Text", name := "readWord", desc := "(Ljava/lang/String;)Z" } : Jvm.MethodName)) ∈ TB := tb_2 84 (by decide +kernel) rfl
theorem wt_325 : (Jvm.Cond.code ({ cls := "ThrownCoins$Text", name := "readWord", desc := "(Ljava/lang/String;)Z" } : Jvm.MethodName) prog_9_method_9_code (3 : Nat) (Option.some Jvm.ClassFile.FieldType.boolean)) ∈ TB := tb_2 85 (by decide +kernel) rfl
theorem wt_326 : (Jvm.Cond.methodLink "ThrownCoins$Text" (118 : Nat) ({ cls := "java/lang/String", name := "length", desc := "()I" } : Jvm.MethodName)) ∈ TB := tb_2 86 (by decide +kernel) rfl
theorem wt_327 : (Jvm.Cond.instanceMethod ({ cls := "java/lang/String", name := "length", desc := "()I" } : Jvm.MethodName)) ∈ TB := tb_2 87 (by decide +kernel) rfl
theorem wt_328 : (Jvm.Cond.selects "java/lang/String" ({ cls := "java/lang/String", name := "length", desc := "()I" } : Jvm.MethodName) ({ cls := "java/lang/String", name := "length", desc := "()I" } : Jvm.MethodName)) ∈ TB := tb_2 88 (by decide +kernel) rfl
theorem wt_329 : (Jvm.Cond.code ({ cls := "java/lang/String", name := "length", desc := "()I" } : Jvm.MethodName) prog_16_method_54_code (1 : Nat) (Option.some Jvm.ClassFile.FieldType.int)) ∈ TB := tb_2 89 (by decide +kernel) rfl
theorem wt_330 : (Jvm.Cond.methodLink "java/lang/String" (335 : Nat) ({ cls := "java/lang/String", name := "coder", desc := "()B" } : Jvm.MethodName)) ∈ TB := tb_2 90 (by decide +kernel) rfl
theorem wt_331 : (Jvm.Cond.instanceMethod ({ cls := "java/lang/String", name := "coder", desc := "()B" } : Jvm.MethodName)) ∈ TB := tb_2 91 (by decide +kernel) rfl
theorem wt_332 : (Jvm.Cond.selects "java/lang/String" ({ cls := "java/lang/String", name := "coder", desc := "()B" } : Jvm.MethodName) ({ cls := "java/lang/String", name := "coder", desc := "()B" } : Jvm.MethodName)) ∈ TB := tb_2 92 (by decide +kernel) rfl
theorem wt_333 : (Jvm.Cond.code ({ cls := "java/lang/String", name := "coder", desc := "()B" } : Jvm.MethodName) prog_16_method_152_code (1 : Nat) (Option.some Jvm.ClassFile.FieldType.byte)) ∈ TB := tb_2 93 (by decide +kernel) rfl
theorem wt_334 : (Jvm.Cond.fieldLink "java/lang/String" (38 : Nat) "java/lang/String" "COMPACT_STRINGS" "Z") ∈ TB := tb_2 94 (by decide +kernel) rfl
theorem wt_336 : (Jvm.Cond.methodLink "ThrownCoins$Text" (123 : Nat) ({ cls := "java/lang/String", name := "charAt", desc := "(I)C" } : Jvm.MethodName)) ∈ TB := tb_2 96 (by decide +kernel) rfl
theorem wt_337 : (Jvm.Cond.instanceMethod ({ cls := "java/lang/String", name := "charAt", desc := "(I)C" } : Jvm.MethodName)) ∈ TB := tb_2 97 (by decide +kernel) rfl
theorem wt_338 : (Jvm.Cond.selects "java/lang/String" ({ cls := "java/lang/String", name := "charAt", desc := "(I)C" } : Jvm.MethodName) ({ cls := "java/lang/String", name := "charAt", desc := "(I)C" } : Jvm.MethodName)) ∈ TB := tb_2 98 (by decide +kernel) rfl
theorem wt_339 : (Jvm.Cond.code ({ cls := "java/lang/String", name := "charAt", desc := "(I)C" } : Jvm.MethodName) prog_16_method_56_code (2 : Nat) (Option.some Jvm.ClassFile.FieldType.char)) ∈ TB := tb_2 99 (by decide +kernel) rfl
theorem wt_340 : (Jvm.Cond.methodLink "java/lang/String" (492 : Nat) ({ cls := "java/lang/String", name := "isLatin1", desc := "()Z" } : Jvm.MethodName)) ∈ TB := tb_2 100 (by decide +kernel) rfl
theorem wt_341 : (Jvm.Cond.instanceMethod ({ cls := "java/lang/String", name := "isLatin1", desc := "()Z" } : Jvm.MethodName)) ∈ TB := tb_2 101 (by decide +kernel) rfl
theorem wt_342 : (Jvm.Cond.selects "java/lang/String" ({ cls := "java/lang/String", name := "isLatin1", desc := "()Z" } : Jvm.MethodName) ({ cls := "java/lang/String", name := "isLatin1", desc := "()Z" } : Jvm.MethodName)) ∈ TB := tb_2 102 (by decide +kernel) rfl
theorem wt_343 : (Jvm.Cond.code ({ cls := "java/lang/String", name := "isLatin1", desc := "()Z" } : Jvm.MethodName) prog_16_method_154_code (1 : Nat) (Option.some Jvm.ClassFile.FieldType.boolean)) ∈ TB := tb_2 103 (by decide +kernel) rfl
theorem wt_344 : (Jvm.Cond.methodLink "java/lang/String" (495 : Nat) ({ cls := "java/lang/StringLatin1", name := "charAt", desc := "([BI)C" } : Jvm.MethodName)) ∈ TB := tb_2 104 (by decide +kernel) rfl
theorem wt_345 : (Jvm.Cond.static ({ cls := "java/lang/StringLatin1", name := "charAt", desc := "([BI)C" } : Jvm.MethodName)) ∈ TB := tb_2 105 (by decide +kernel) rfl
theorem wt_346 : (Jvm.Cond.code ({ cls := "java/lang/StringLatin1", name := "charAt", desc := "([BI)C" } : Jvm.MethodName) prog_17_method_2_code (2 : Nat) (Option.some Jvm.ClassFile.FieldType.char)) ∈ TB := tb_2 106 (by decide +kernel) rfl
theorem wt_347 : (Jvm.Cond.methodLink "java/lang/StringLatin1" (9 : Nat) ({ cls := "java/lang/String", name := "checkIndex", desc := "(II)V" } : Jvm.MethodName)) ∈ TB := tb_2 107 (by decide +kernel) rfl
theorem wt_348 : (Jvm.Cond.static ({ cls := "java/lang/String", name := "checkIndex", desc := "(II)V" } : Jvm.MethodName)) ∈ TB := tb_2 108 (by decide +kernel) rfl
theorem wt_349 : (Jvm.Cond.code ({ cls := "java/lang/String", name := "checkIndex", desc := "(II)V" } : Jvm.MethodName) prog_16_method_155_code (2 : Nat) (Option.none : Option Jvm.ClassFile.FieldType)) ∈ TB := tb_2 109 (by decide +kernel) rfl
theorem wt_350 : (Jvm.Cond.fieldLink "java/lang/String" (1053 : Nat) "jdk/internal/util/Preconditions" "SIOOBE_FORMATTER" "Ljava/util/function/BiFunction;") ∈ TB := tb_2 110 (by decide +kernel) rfl
theorem wt_352 : (Jvm.Cond.methodLink "java/lang/String" (1059 : Nat) ({ cls := "jdk/internal/util/Preconditions", name := "checkIndex", desc := "(IILjava/util/function/BiFunction;)I" } : Jvm.MethodName)) ∈ TB := tb_2 112 (by decide +kernel) rfl
theorem wt_353 : (Jvm.Cond.static ({ cls := "jdk/internal/util/Preconditions", name := "checkIndex", desc := "(IILjava/util/function/BiFunction;)I" } : Jvm.MethodName)) ∈ TB := tb_2 113 (by decide +kernel) rfl
theorem wt_354 : (Jvm.Cond.code ({ cls := "jdk/internal/util/Preconditions", name := "checkIndex", desc := "(IILjava/util/function/BiFunction;)I" } : Jvm.MethodName) prog_20_method_11_code (3 : Nat) (Option.some Jvm.ClassFile.FieldType.int)) ∈ TB := tb_2 114 (by decide +kernel) rfl
theorem wt_355 : (Jvm.Cond.methodLink "java/lang/String" (498 : Nat) ({ cls := "java/lang/StringUTF16", name := "charAt", desc := "([BI)C" } : Jvm.MethodName)) ∈ TB := tb_2 115 (by decide +kernel) rfl
theorem wt_356 : (Jvm.Cond.static ({ cls := "java/lang/StringUTF16", name := "charAt", desc := "([BI)C" } : Jvm.MethodName)) ∈ TB := tb_2 116 (by decide +kernel) rfl
theorem wt_357 : (Jvm.Cond.code ({ cls := "java/lang/StringUTF16", name := "charAt", desc := "([BI)C" } : Jvm.MethodName) prog_18_method_83_code (2 : Nat) (Option.some Jvm.ClassFile.FieldType.char)) ∈ TB := tb_2 117 (by decide +kernel) rfl
theorem wt_358 : (Jvm.Cond.methodLink "java/lang/StringUTF16" (67 : Nat) ({ cls := "java/lang/StringUTF16", name := "checkIndex", desc := "(I[B)V" } : Jvm.MethodName)) ∈ TB := tb_2 118 (by decide +kernel) rfl
theorem wt_359 : (Jvm.Cond.static ({ cls := "java/lang/StringUTF16", name := "checkIndex", desc := "(I[B)V" } : Jvm.MethodName)) ∈ TB := tb_2 119 (by decide +kernel) rfl
theorem wt_360 : (Jvm.Cond.code ({ cls := "java/lang/StringUTF16", name := "checkIndex", desc := "(I[B)V" } : Jvm.MethodName) prog_18_method_91_code (2 : Nat) (Option.none : Option Jvm.ClassFile.FieldType)) ∈ TB := tb_2 120 (by decide +kernel) rfl
theorem wt_361 : (Jvm.Cond.methodLink "java/lang/StringUTF16" (48 : Nat) ({ cls := "java/lang/StringUTF16", name := "length", desc := "([B)I" } : Jvm.MethodName)) ∈ TB := tb_2 121 (by decide +kernel) rfl
theorem wt_362 : (Jvm.Cond.static ({ cls := "java/lang/StringUTF16", name := "length", desc := "([B)I" } : Jvm.MethodName)) ∈ TB := tb_2 122 (by decide +kernel) rfl
theorem wt_363 : (Jvm.Cond.code ({ cls := "java/lang/StringUTF16", name := "length", desc := "([B)I" } : Jvm.MethodName) prog_18_method_6_code (1 : Nat) (Option.some Jvm.ClassFile.FieldType.int)) ∈ TB := tb_2 123 (by decide +kernel) rfl
theorem wt_364 : (Jvm.Cond.methodLink "java/lang/StringUTF16" (414 : Nat) ({ cls := "java/lang/String", name := "checkIndex", desc := "(II)V" } : Jvm.MethodName)) ∈ TB := tb_2 124 (by decide +kernel) rfl
theorem wt_365 : (Jvm.Cond.methodLink "java/lang/StringUTF16" (71 : Nat) ({ cls := "java/lang/StringUTF16", name := "getChar", desc := "([BI)C" } : Jvm.MethodName)) ∈ TB := tb_2 125 (by decide +kernel) rfl
theorem wt_366 : (Jvm.Cond.static ({ cls := "java/lang/StringUTF16", name := "getChar", desc := "([BI)C" } : Jvm.MethodName)) ∈ TB := tb_2 126 (by decide +kernel) rfl
theorem wt_367 : (Jvm.Cond.code ({ cls := "java/lang/StringUTF16", name := "getChar", desc := "([BI)C" } : Jvm.MethodName) prog_18_method_5_code (2 : Nat) (Option.some Jvm.ClassFile.FieldType.char)) ∈ TB := tb_2 127 (by decide +kernel) rfl
theorem wt_368 : (Jvm.Cond.fieldLink "java/lang/StringUTF16" (44 : Nat) "java/lang/StringUTF16" "$assertionsDisabled" "Z") ∈ TB := tb_2 128 (by decide +kernel) rfl
theorem wt_370 : (Jvm.Cond.fieldLink "java/lang/StringUTF16" (59 : Nat) "java/lang/StringUTF16" "HI_BYTE_SHIFT" "I") ∈ TB := tb_2 130 (by decide +kernel) rfl
theorem wt_372 : (Jvm.Cond.fieldLink "java/lang/StringUTF16" (63 : Nat) "java/lang/StringUTF16" "LO_BYTE_SHIFT" "I") ∈ TB := tb_2 132 (by decide +kernel) rfl
theorem wt_374 : (Jvm.Cond.methodLink "ThrownCoins$Text" (71 : Nat) ({ cls := "ThrownCoins$Text", name := "readCoins", desc := "()Z" } : Jvm.MethodName)) ∈ TB := tb_2 134 (by decide +kernel) rfl
theorem wt_376 : (Jvm.Cond.instanceMethod ({ cls := "ThrownCoins$Text", name := "readCoins", desc := "()Z" } : Jvm.MethodName)) ∈ TB := tb_2 136 (by decide +kernel) rfl
theorem wt_377 : (Jvm.Cond.code ({ cls := "ThrownCoins$Text", name := "readCoins", desc := "()Z" } : Jvm.MethodName) prog_9_method_11_code (3 : Nat) (Option.some Jvm.ClassFile.FieldType.boolean)) ∈ TB := tb_2 137 (by decide +kernel) rfl
theorem wt_378 : (Jvm.Cond.methodLink "ThrownCoins$Text" (131 : Nat) ({ cls := "ThrownCoins$Lot", name := "empty", desc := "()V" } : Jvm.MethodName)) ∈ TB := tb_2 138 (by decide +kernel) rfl
theorem wt_379 : (Jvm.Cond.instanceMethod ({ cls := "ThrownCoins$Lot", name := "empty", desc := "()V" } : Jvm.MethodName)) ∈ TB := tb_2 139 (by decide +kernel) rfl
theorem wt_380 : (Jvm.Cond.selects "ThrownCoins$Lot" ({ cls := "ThrownCoins$Lot", name := "empty", desc := "()V" } : Jvm.MethodName) ({ cls := "ThrownCoins$Lot", name := "empty", desc := "()V" } : Jvm.MethodName)) ∈ TB := tb_2 140 (by decide +kernel) rfl
theorem wt_381 : (Jvm.Cond.code ({ cls := "ThrownCoins$Lot", name := "empty", desc := "()V" } : Jvm.MethodName) prog_6_method_4_code (2 : Nat) (Option.none : Option Jvm.ClassFile.FieldType)) ∈ TB := tb_2 141 (by decide +kernel) rfl
theorem wt_382 : (Jvm.Cond.methodLink "ThrownCoins$Text" (82 : Nat) ({ cls := "ThrownCoins$Text", name := "readNumber", desc := "(II)Z" } : Jvm.MethodName)) ∈ TB := tb_2 142 (by decide +kernel) rfl
theorem wt_384 : (Jvm.Cond.instanceMethod ({ cls := "ThrownCoins$Text", name := "readNumber", desc := "(II)Z" } : Jvm.MethodName)) ∈ TB := tb_2 144 (by decide +kernel) rfl
theorem wt_385 : (Jvm.Cond.code ({ cls := "ThrownCoins$Text", name := "readNumber", desc := "(II)Z" } : Jvm.MethodName) prog_9_method_10_code (4 : Nat) (Option.some Jvm.ClassFile.FieldType.boolean)) ∈ TB := tb_2 145 (by decide +kernel) rfl
theorem wt_386 : (Jvm.Cond.methodLink "ThrownCoins$Text" (139 : Nat) ({ cls := "ThrownCoins$Told", name := "addKind", desc := "(I)V" } : Jvm.MethodName)) ∈ TB := tb_2 146 (by decide +kernel) rfl
theorem wt_387 : (Jvm.Cond.instanceMethod ({ cls := "ThrownCoins$Told", name := "addKind", desc := "(I)V" } : Jvm.MethodName)) ∈ TB := tb_2 147 (by decide +kernel) rfl
theorem wt_388 : (Jvm.Cond.selects "ThrownCoins$Told" ({ cls := "ThrownCoins$Told", name := "addKind", desc := "(I)V" } : Jvm.MethodName) ({ cls := "ThrownCoins$Told", name := "addKind", desc := "(I)V" } : Jvm.MethodName)) ∈ TB := tb_2 148 (by decide +kernel) rfl
theorem wt_389 : (Jvm.Cond.code ({ cls := "ThrownCoins$Told", name := "addKind", desc := "(I)V" } : Jvm.MethodName) prog_11_method_5_code (2 : Nat) (Option.none : Option Jvm.ClassFile.FieldType)) ∈ TB := tb_2 149 (by decide +kernel) rfl
theorem wt_391 : (Jvm.Cond.methodLink "ThrownCoins$Text" (76 : Nat) ({ cls := "ThrownCoins$Text", name := "readAmount", desc := "(I)Z" } : Jvm.MethodName)) ∈ TB := tb_2 151 (by decide +kernel) rfl
theorem wt_393 : (Jvm.Cond.instanceMethod ({ cls := "ThrownCoins$Text", name := "readAmount", desc := "(I)Z" } : Jvm.MethodName)) ∈ TB := tb_2 153 (by decide +kernel) rfl
theorem wt_394 : (Jvm.Cond.code ({ cls := "ThrownCoins$Text", name := "readAmount", desc := "(I)Z" } : Jvm.MethodName) prog_9_method_12_code (3 : Nat) (Option.some Jvm.ClassFile.FieldType.boolean)) ∈ TB := tb_2 154 (by decide +kernel) rfl
theorem wt_395 : (Jvm.Cond.methodLink "ThrownCoins$Text" (143 : Nat) ({ cls := "ThrownCoins$Lot", name := "of", desc := "(II)I" } : Jvm.MethodName)) ∈ TB := tb_2 155 (by decide +kernel) rfl
theorem wt_396 : (Jvm.Cond.instanceMethod ({ cls := "ThrownCoins$Lot", name := "of", desc := "(II)I" } : Jvm.MethodName)) ∈ TB := tb_2 156 (by decide +kernel) rfl
theorem wt_397 : (Jvm.Cond.selects "ThrownCoins$Lot" ({ cls := "ThrownCoins$Lot", name := "of", desc := "(II)I" } : Jvm.MethodName) ({ cls := "ThrownCoins$Lot", name := "of", desc := "(II)I" } : Jvm.MethodName)) ∈ TB := tb_2 157 (by decide +kernel) rfl
theorem wt_398 : (Jvm.Cond.code ({ cls := "ThrownCoins$Lot", name := "of", desc := "(II)I" } : Jvm.MethodName) prog_6_method_2_code (4 : Nat) (Option.some Jvm.ClassFile.FieldType.int)) ∈ TB := tb_2 158 (by decide +kernel) rfl
theorem wt_399 : (Jvm.Cond.methodLink "ThrownCoins$Text" (146 : Nat) ({ cls := "ThrownCoins$Lot", name := "add", desc := "(III)V" } : Jvm.MethodName)) ∈ TB := tb_2 159 (by decide +kernel) rfl
theorem wt_400 : (Jvm.Cond.instanceMethod ({ cls := "ThrownCoins$Lot", name := "add", desc := "(III)V" } : Jvm.MethodName)) ∈ TB := tb_2 160 (by decide +kernel) rfl
theorem wt_401 : (Jvm.Cond.selects "ThrownCoins$Lot" ({ cls := "ThrownCoins$Lot", name := "add", desc := "(III)V" } : Jvm.MethodName) ({ cls := "ThrownCoins$Lot", name := "add", desc := "(III)V" } : Jvm.MethodName)) ∈ TB := tb_2 161 (by decide +kernel) rfl
theorem wt_402 : (Jvm.Cond.code ({ cls := "ThrownCoins$Lot", name := "add", desc := "(III)V" } : Jvm.MethodName) prog_6_method_3_code (4 : Nat) (Option.none : Option Jvm.ClassFile.FieldType)) ∈ TB := tb_2 162 (by decide +kernel) rfl
theorem wt_405 : (Jvm.Cond.methodLink "ThrownCoins$Text" (91 : Nat) ({ cls := "ThrownCoins$Text", name := "readHabit", desc := "(I)Z" } : Jvm.MethodName)) ∈ TB := tb_2 165 (by decide +kernel) rfl
theorem wt_407 : (Jvm.Cond.instanceMethod ({ cls := "ThrownCoins$Text", name := "readHabit", desc := "(I)Z" } : Jvm.MethodName)) ∈ TB := tb_2 167 (by decide +kernel) rfl
theorem wt_408 : (Jvm.Cond.code ({ cls := "ThrownCoins$Text", name := "readHabit", desc := "(I)Z" } : Jvm.MethodName) prog_9_method_13_code (2 : Nat) (Option.some Jvm.ClassFile.FieldType.boolean)) ∈ TB := tb_2 168 (by decide +kernel) rfl
theorem wt_409 : (Jvm.Cond.methodLink "ThrownCoins$Text" (150 : Nat) ({ cls := "ThrownCoins$Told", name := "setHabit", desc := "(III)V" } : Jvm.MethodName)) ∈ TB := tb_2 169 (by decide +kernel) rfl
theorem wt_410 : (Jvm.Cond.instanceMethod ({ cls := "ThrownCoins$Told", name := "setHabit", desc := "(III)V" } : Jvm.MethodName)) ∈ TB := tb_2 170 (by decide +kernel) rfl
theorem wt_411 : (Jvm.Cond.selects "ThrownCoins$Told" ({ cls := "ThrownCoins$Told", name := "setHabit", desc := "(III)V" } : Jvm.MethodName) ({ cls := "ThrownCoins$Told", name := "setHabit", desc := "(III)V" } : Jvm.MethodName)) ∈ TB := tb_2 171 (by decide +kernel) rfl
theorem wt_412 : (Jvm.Cond.code ({ cls := "ThrownCoins$Told", name := "setHabit", desc := "(III)V" } : Jvm.MethodName) prog_11_method_6_code (4 : Nat) (Option.none : Option Jvm.ClassFile.FieldType)) ∈ TB := tb_2 172 (by decide +kernel) rfl
theorem wt_414 : (Jvm.Cond.static ({ cls := "ThrownCoins", name := "isPerson", desc := "(I)Z" } : Jvm.MethodName)) ∈ TB := tb_2 174 (by decide +kernel) rfl
theorem wt_415 : (Jvm.Cond.code ({ cls := "ThrownCoins", name := "isPerson", desc := "(I)Z" } : Jvm.MethodName) prog_1_method_29_code (1 : Nat) (Option.some Jvm.ClassFile.FieldType.boolean)) ∈ TB := tb_2 175 (by decide +kernel) rfl
theorem wt_418 : (Jvm.Cond.methodLink "ThrownCoins$Text" (98 : Nat) ({ cls := "ThrownCoins$Text", name := "readWaiting", desc := "()Z" } : Jvm.MethodName)) ∈ TB := tb_2 178 (by decide +kernel) rfl
theorem wt_420 : (Jvm.Cond.instanceMethod ({ cls := "ThrownCoins$Text", name := "readWaiting", desc := "()Z" } : Jvm.MethodName)) ∈ TB := tb_2 180 (by decide +kernel) rfl
theorem wt_421 : (Jvm.Cond.code ({ cls := "ThrownCoins$Text", name := "readWaiting", desc := "()Z" } : Jvm.MethodName) prog_9_method_14_code (2 : Nat) (Option.some Jvm.ClassFile.FieldType.boolean)) ∈ TB := tb_2 181 (by decide +kernel) rfl
theorem wt_424 : (Jvm.Cond.methodLink "ThrownCoins$Text" (105 : Nat) ({ cls := "ThrownCoins$Text", name := "readVisits", desc := "()Z" } : Jvm.MethodName)) ∈ TB := tb_2 184 (by decide +kernel) rfl
theorem wt_426 : (Jvm.Cond.instanceMethod ({ cls := "ThrownCoins$Text", name := "readVisits", desc := "()Z" } : Jvm.MethodName)) ∈ TB := tb_2 186 (by decide +kernel) rfl
theorem wt_427 : (Jvm.Cond.code ({ cls := "ThrownCoins$Text", name := "readVisits", desc := "()Z" } : Jvm.MethodName) prog_9_method_15_code (2 : Nat) (Option.some Jvm.ClassFile.FieldType.boolean)) ∈ TB := tb_2 187 (by decide +kernel) rfl
theorem wt_428 : (Jvm.Cond.methodLink "ThrownCoins$Text" (156 : Nat) ({ cls := "ThrownCoins$Told", name := "addVisit", desc := "(I)V" } : Jvm.MethodName)) ∈ TB := tb_2 188 (by decide +kernel) rfl
theorem wt_429 : (Jvm.Cond.instanceMethod ({ cls := "ThrownCoins$Told", name := "addVisit", desc := "(I)V" } : Jvm.MethodName)) ∈ TB := tb_2 189 (by decide +kernel) rfl
theorem wt_430 : (Jvm.Cond.selects "ThrownCoins$Told" ({ cls := "ThrownCoins$Told", name := "addVisit", desc := "(I)V" } : Jvm.MethodName) ({ cls := "ThrownCoins$Told", name := "addVisit", desc := "(I)V" } : Jvm.MethodName)) ∈ TB := tb_2 190 (by decide +kernel) rfl
theorem wt_431 : (Jvm.Cond.code ({ cls := "ThrownCoins$Told", name := "addVisit", desc := "(I)V" } : Jvm.MethodName) prog_11_method_9_code (2 : Nat) (Option.none : Option Jvm.ClassFile.FieldType)) ∈ TB := tb_2 191 (by decide +kernel) rfl
theorem wt_433 : (Jvm.Cond.methodLink "ThrownCoins$Text" (110 : Nat) ({ cls := "ThrownCoins$Text", name := "readLaw", desc := "()Z" } : Jvm.MethodName)) ∈ TB := tb_2 193 (by decide +kernel) rfl
theorem wt_435 : (Jvm.Cond.instanceMethod ({ cls := "ThrownCoins$Text", name := "readLaw", desc := "()Z" } : Jvm.MethodName)) ∈ TB := tb_2 195 (by decide +kernel) rfl
theorem wt_436 : (Jvm.Cond.code ({ cls := "ThrownCoins$Text", name := "readLaw", desc := "()Z" } : Jvm.MethodName) prog_9_method_16_code (1 : Nat) (Option.some Jvm.ClassFile.FieldType.boolean)) ∈ TB := tb_2 196 (by decide +kernel) rfl
theorem wt_438 : (Jvm.Cond.methodLink "ThrownCoins$Text" (115 : Nat) ({ cls := "ThrownCoins$Text", name := "leaveAlone", desc := "()Z" } : Jvm.MethodName)) ∈ TB := tb_2 198 (by decide +kernel) rfl
theorem wt_440 : (Jvm.Cond.instanceMethod ({ cls := "ThrownCoins$Text", name := "leaveAlone", desc := "()Z" } : Jvm.MethodName)) ∈ TB := tb_2 200 (by decide +kernel) rfl
theorem wt_441 : (Jvm.Cond.code ({ cls := "ThrownCoins$Text", name := "leaveAlone", desc := "()Z" } : Jvm.MethodName) prog_9_method_17_code (1 : Nat) (Option.some Jvm.ClassFile.FieldType.boolean)) ∈ TB := tb_2 201 (by decide +kernel) rfl
theorem wt_442 : (Jvm.Cond.methodLink "ThrownCoins$Text" (49 : Nat) ({ cls := "ThrownCoins$Text", name := "isSemicolon", desc := "()Z" } : Jvm.MethodName)) ∈ TB := tb_2 202 (by decide +kernel) rfl
theorem wt_444 : (Jvm.Cond.instanceMethod ({ cls := "ThrownCoins$Text", name := "isSemicolon", desc := "()Z" } : Jvm.MethodName)) ∈ TB := tb_2 204 (by decide +kernel) rfl
theorem wt_445 : (Jvm.Cond.code ({ cls := "ThrownCoins$Text", name := "isSemicolon", desc := "()Z" } : Jvm.MethodName) prog_9_method_7_code (1 : Nat) (Option.some Jvm.ClassFile.FieldType.boolean)) ∈ TB := tb_2 205 (by decide +kernel) rfl
theorem wt_446 : (Jvm.Cond.arrayClass Jvm.ClassFile.FieldType.byte) ∈ TB := tb_2 206 (by decide +kernel) rfl
theorem wt_447 : (Jvm.Cond.methodLink "ThrownCoinsLaw" (29 : Nat) ({ cls := "ThrownCoins", name := "sunday", desc := "()I" } : Jvm.MethodName)) ∈ TB := tb_2 207 (by decide +kernel) rfl
theorem wt_448 : (Jvm.Cond.instanceMethod ({ cls := "ThrownCoins", name := "sunday", desc := "()I" } : Jvm.MethodName)) ∈ TB := tb_2 208 (by decide +kernel) rfl
theorem wt_449 : (Jvm.Cond.selects "ThrownCoins" ({ cls := "ThrownCoins", name := "sunday", desc := "()I" } : Jvm.MethodName) ({ cls := "ThrownCoins", name := "sunday", desc := "()I" } : Jvm.MethodName)) ∈ TB := tb_2 209 (by decide +kernel) rfl
theorem wt_450 : (Jvm.Cond.code ({ cls := "ThrownCoins", name := "sunday", desc := "()I" } : Jvm.MethodName) prog_1_method_5_code (1 : Nat) (Option.some Jvm.ClassFile.FieldType.int)) ∈ TB := tb_2 210 (by decide +kernel) rfl
theorem wt_451 : (Jvm.Cond.methodLink "ThrownCoins" (67 : Nat) ({ cls := "ThrownCoins$Told", name := "copyFrom", desc := "(LThrownCoins$Told;)V" } : Jvm.MethodName)) ∈ TB := tb_2 211 (by decide +kernel) rfl
theorem wt_452 : (Jvm.Cond.methodLink "ThrownCoins" (73 : Nat) ({ cls := "ThrownCoins$Lot", name := "copyFrom", desc := "(LThrownCoins$Lot;)V" } : Jvm.MethodName)) ∈ TB := tb_2 212 (by decide +kernel) rfl
theorem wt_453 : (Jvm.Cond.methodLink "ThrownCoins" (82 : Nat) ({ cls := "ThrownCoins$Foretelling", name := "becomeStale", desc := "()V" } : Jvm.MethodName)) ∈ TB := tb_2 213 (by decide +kernel) rfl
theorem wt_454 : (Jvm.Cond.instanceMethod ({ cls := "ThrownCoins$Foretelling", name := "becomeStale", desc := "()V" } : Jvm.MethodName)) ∈ TB := tb_2 214 (by decide +kernel) rfl
theorem wt_455 : (Jvm.Cond.selects "ThrownCoins$Foretelling" ({ cls := "ThrownCoins$Foretelling", name := "becomeStale", desc := "()V" } : Jvm.MethodName) ({ cls := "ThrownCoins$Foretelling", name := "becomeStale", desc := "()V" } : Jvm.MethodName)) ∈ TB := tb_2 215 (by decide +kernel) rfl
theorem wt_456 : (Jvm.Cond.code ({ cls := "ThrownCoins$Foretelling", name := "becomeStale", desc := "()V" } : Jvm.MethodName) prog_4_method_2_code (1 : Nat) (Option.none : Option Jvm.ClassFile.FieldType)) ∈ TB := tb_2 216 (by decide +kernel) rfl
theorem wt_457 : (Jvm.Cond.methodLink "ThrownCoinsLaw" (33 : Nat) ({ cls := "ThrownCoins", name := "coin", desc := "(II)I" } : Jvm.MethodName)) ∈ TB := tb_2 217 (by decide +kernel) rfl
theorem wt_458 : (Jvm.Cond.instanceMethod ({ cls := "ThrownCoins", name := "coin", desc := "(II)I" } : Jvm.MethodName)) ∈ TB := tb_2 218 (by decide +kernel) rfl
theorem wt_459 : (Jvm.Cond.selects "ThrownCoins" ({ cls := "ThrownCoins", name := "coin", desc := "(II)I" } : Jvm.MethodName) ({ cls := "ThrownCoins", name := "coin", desc := "(II)I" } : Jvm.MethodName)) ∈ TB := tb_2 219 (by decide +kernel) rfl
theorem wt_460 : (Jvm.Cond.code ({ cls := "ThrownCoins", name := "coin", desc := "(II)I" } : Jvm.MethodName) prog_1_method_6_code (3 : Nat) (Option.some Jvm.ClassFile.FieldType.int)) ∈ TB := tb_2 220 (by decide +kernel) rfl
theorem wt_461 : (Jvm.Cond.methodLink "ThrownCoins" (88 : Nat) ({ cls := "ThrownCoins$Told", name := "hasKind", desc := "(I)Z" } : Jvm.MethodName)) ∈ TB := tb_2 221 (by decide +kernel) rfl
theorem wt_462 : (Jvm.Cond.instanceMethod ({ cls := "ThrownCoins$Told", name := "hasKind", desc := "(I)Z" } : Jvm.MethodName)) ∈ TB := tb_2 222 (by decide +kernel) rfl
theorem wt_463 : (Jvm.Cond.selects "ThrownCoins$Told" ({ cls := "ThrownCoins$Told", name := "hasKind", desc := "(I)Z" } : Jvm.MethodName) ({ cls := "ThrownCoins$Told", name := "hasKind", desc := "(I)Z" } : Jvm.MethodName)) ∈ TB := tb_2 223 (by decide +kernel) rfl
theorem wt_464 : (Jvm.Cond.code ({ cls := "ThrownCoins$Told", name := "hasKind", desc := "(I)Z" } : Jvm.MethodName) prog_11_method_3_code (2 : Nat) (Option.some Jvm.ClassFile.FieldType.boolean)) ∈ TB := tb_2 224 (by decide +kernel) rfl
theorem wt_465 : (Jvm.Cond.methodLink "ThrownCoins" (92 : Nat) ({ cls := "ThrownCoins$Told", name := "worthOf", desc := "(I)I" } : Jvm.MethodName)) ∈ TB := tb_2 225 (by decide +kernel) rfl
theorem wt_466 : (Jvm.Cond.instanceMethod ({ cls := "ThrownCoins$Told", name := "worthOf", desc := "(I)I" } : Jvm.MethodName)) ∈ TB := tb_2 226 (by decide +kernel) rfl
theorem wt_467 : (Jvm.Cond.selects "ThrownCoins$Told" ({ cls := "ThrownCoins$Told", name := "worthOf", desc := "(I)I" } : Jvm.MethodName) ({ cls := "ThrownCoins$Told", name := "worthOf", desc := "(I)I" } : Jvm.MethodName)) ∈ TB := tb_2 227 (by decide +kernel) rfl
theorem wt_468 : (Jvm.Cond.code ({ cls := "ThrownCoins$Told", name := "worthOf", desc := "(I)I" } : Jvm.MethodName) prog_11_method_4_code (2 : Nat) (Option.some Jvm.ClassFile.FieldType.int)) ∈ TB := tb_2 228 (by decide +kernel) rfl
theorem wt_469 : (Jvm.Cond.methodLink "ThrownCoins" (96 : Nat) ({ cls := "ThrownCoins$Lot", name := "of", desc := "(II)I" } : Jvm.MethodName)) ∈ TB := tb_2 229 (by decide +kernel) rfl
theorem wt_470 : (Jvm.Cond.methodLink "ThrownCoinsLaw" (38 : Nat) ({ cls := "ThrownCoins", name := "purse", desc := "(II)I" } : Jvm.MethodName)) ∈ TB := tb_2 230 (by decide +kernel) rfl
theorem wt_471 : (Jvm.Cond.instanceMethod ({ cls := "ThrownCoins", name := "purse", desc := "(II)I" } : Jvm.MethodName)) ∈ TB := tb_2 231 (by decide +kernel) rfl
theorem wt_472 : (Jvm.Cond.selects "ThrownCoins" ({ cls := "ThrownCoins", name := "purse", desc := "(II)I" } : Jvm.MethodName) ({ cls := "ThrownCoins", name := "purse", desc := "(II)I" } : Jvm.MethodName)) ∈ TB := tb_2 232 (by decide +kernel) rfl
theorem wt_473 : (Jvm.Cond.code ({ cls := "ThrownCoins", name := "purse", desc := "(II)I" } : Jvm.MethodName) prog_1_method_7_code (3 : Nat) (Option.some Jvm.ClassFile.FieldType.int)) ∈ TB := tb_2 233 (by decide +kernel) rfl
theorem wt_474 : (Jvm.Cond.methodLink "ThrownCoins" (100 : Nat) ({ cls := "ThrownCoins", name := "isPerson", desc := "(I)Z" } : Jvm.MethodName)) ∈ TB := tb_2 234 (by decide +kernel) rfl
theorem wt_475 : (Jvm.Cond.methodLink "ThrownCoinsLaw" (42 : Nat) ({ cls := "ThrownCoins", name := "person", desc := "(II)I" } : Jvm.MethodName)) ∈ TB := tb_2 235 (by decide +kernel) rfl
theorem wt_476 : (Jvm.Cond.instanceMethod ({ cls := "ThrownCoins", name := "person", desc := "(II)I" } : Jvm.MethodName)) ∈ TB := tb_2 236 (by decide +kernel) rfl
theorem wt_477 : (Jvm.Cond.selects "ThrownCoins" ({ cls := "ThrownCoins", name := "person", desc := "(II)I" } : Jvm.MethodName) ({ cls := "ThrownCoins", name := "person", desc := "(II)I" } : Jvm.MethodName)) ∈ TB := tb_2 237 (by decide +kernel) rfl
theorem wt_478 : (Jvm.Cond.code ({ cls := "ThrownCoins", name := "person", desc := "(II)I" } : Jvm.MethodName) prog_1_method_8_code (3 : Nat) (Option.some Jvm.ClassFile.FieldType.int)) ∈ TB := tb_2 238 (by decide +kernel) rfl
theorem wt_479 : (Jvm.Cond.methodLink "ThrownCoins" (103 : Nat) ({ cls := "ThrownCoins$Told", name := "wealth", desc := "(LThrownCoins$Lot;I)I" } : Jvm.MethodName)) ∈ TB := tb_2 239 (by decide +kernel) rfl
theorem wt_480 : (Jvm.Cond.instanceMethod ({ cls := "ThrownCoins$Told", name := "wealth", desc := "(LThrownCoins$Lot;I)I" } : Jvm.MethodName)) ∈ TB := tb_3 0 (by decide +kernel) rfl
theorem wt_481 : (Jvm.Cond.selects "ThrownCoins$Told" ({ cls := "ThrownCoins$Told", name := "wealth", desc := "(LThrownCoins$Lot;I)I" } : Jvm.MethodName) ({ cls := "ThrownCoins$Told", name := "wealth", desc := "(LThrownCoins$Lot;I)I" } : Jvm.MethodName)) ∈ TB := tb_3 1 (by decide +kernel) rfl
theorem wt_482 : (Jvm.Cond.code ({ cls := "ThrownCoins$Told", name := "wealth", desc := "(LThrownCoins$Lot;I)I" } : Jvm.MethodName) prog_11_method_12_code (5 : Nat) (Option.some Jvm.ClassFile.FieldType.int)) ∈ TB := tb_3 2 (by decide +kernel) rfl
theorem wt_483 : (Jvm.Cond.methodLink "ThrownCoins$Told" (87 : Nat) ({ cls := "ThrownCoins$Told", name := "worthOf", desc := "(I)I" } : Jvm.MethodName)) ∈ TB := tb_3 3 (by decide +kernel) rfl
theorem wt_484 : (Jvm.Cond.methodLink "ThrownCoins$Told" (90 : Nat) ({ cls := "ThrownCoins$Lot", name := "of", desc := "(II)I" } : Jvm.MethodName)) ∈ TB := tb_3 4 (by decide +kernel) rfl
theorem wt_485 : (Jvm.Cond.methodLink "ThrownCoins" (107 : Nat) ({ cls := "ThrownCoins$Told", name := "folkOf", desc := "(I)LThrownCoins$Folk;" } : Jvm.MethodName)) ∈ TB := tb_3 5 (by decide +kernel) rfl
theorem wt_486 : (Jvm.Cond.instanceMethod ({ cls := "ThrownCoins$Told", name := "folkOf", desc := "(I)LThrownCoins$Folk;" } : Jvm.MethodName)) ∈ TB := tb_3 6 (by decide +kernel) rfl
theorem wt_487 : (Jvm.Cond.selects "ThrownCoins$Told" ({ cls := "ThrownCoins$Told", name := "folkOf", desc := "(I)LThrownCoins$Folk;" } : Jvm.MethodName) ({ cls := "ThrownCoins$Told", name := "folkOf", desc := "(I)LThrownCoins$Folk;" } : Jvm.MethodName)) ∈ TB := tb_3 7 (by decide +kernel) rfl
theorem wt_488 : (Jvm.Cond.code ({ cls := "ThrownCoins$Told", name := "folkOf", desc := "(I)LThrownCoins$Folk;" } : Jvm.MethodName) prog_11_method_8_code (2 : Nat) (Option.some (Jvm.ClassFile.FieldType.object "ThrownCoins$Folk"))) ∈ TB := tb_3 8 (by decide +kernel) rfl
theorem wt_489 : (Jvm.Cond.methodLink "ThrownCoins" (111 : Nat) ({ cls := "ThrownCoins$Folk", name := "habit", desc := "()I" } : Jvm.MethodName)) ∈ TB := tb_3 9 (by decide +kernel) rfl
theorem wt_491 : (Jvm.Cond.sameMethod "ThrownCoins$Folk" "ThrownCoins$Folk" "habit" "()I") ∈ TB := tb_3 11 (by decide +kernel) rfl
theorem wt_492 : (Jvm.Cond.selects "ThrownCoins$Cheap" ({ cls := "ThrownCoins$Folk", name := "habit", desc := "()I" } : Jvm.MethodName) ({ cls := "ThrownCoins$Cheap", name := "habit", desc := "()I" } : Jvm.MethodName)) ∈ TB := tb_3 12 (by decide +kernel) rfl
theorem wt_493 : (Jvm.Cond.instanceMethod ({ cls := "ThrownCoins$Cheap", name := "habit", desc := "()I" } : Jvm.MethodName)) ∈ TB := tb_3 13 (by decide +kernel) rfl
theorem wt_494 : (Jvm.Cond.code ({ cls := "ThrownCoins$Cheap", name := "habit", desc := "()I" } : Jvm.MethodName) prog_2_method_2_code (1 : Nat) (Option.some Jvm.ClassFile.FieldType.int)) ∈ TB := tb_3 14 (by decide +kernel) rfl
theorem wt_495 : (Jvm.Cond.selects "ThrownCoins$Greedy" ({ cls := "ThrownCoins$Folk", name := "habit", desc := "()I" } : Jvm.MethodName) ({ cls := "ThrownCoins$Greedy", name := "habit", desc := "()I" } : Jvm.MethodName)) ∈ TB := tb_3 15 (by decide +kernel) rfl
theorem wt_496 : (Jvm.Cond.instanceMethod ({ cls := "ThrownCoins$Greedy", name := "habit", desc := "()I" } : Jvm.MethodName)) ∈ TB := tb_3 16 (by decide +kernel) rfl
theorem wt_497 : (Jvm.Cond.code ({ cls := "ThrownCoins$Greedy", name := "habit", desc := "()I" } : Jvm.MethodName) prog_5_method_2_code (1 : Nat) (Option.some Jvm.ClassFile.FieldType.int)) ∈ TB := tb_3 17 (by decide +kernel) rfl
theorem wt_498 : (Jvm.Cond.selects "ThrownCoins$Never" ({ cls := "ThrownCoins$Folk", name := "habit", desc := "()I" } : Jvm.MethodName) ({ cls := "ThrownCoins$Never", name := "habit", desc := "()I" } : Jvm.MethodName)) ∈ TB := tb_3 18 (by decide +kernel) rfl
theorem wt_499 : (Jvm.Cond.instanceMethod ({ cls := "ThrownCoins$Never", name := "habit", desc := "()I" } : Jvm.MethodName)) ∈ TB := tb_3 19 (by decide +kernel) rfl
theorem wt_500 : (Jvm.Cond.code ({ cls := "ThrownCoins$Never", name := "habit", desc := "()I" } : Jvm.MethodName) prog_7_method_2_code (1 : Nat) (Option.some Jvm.ClassFile.FieldType.int)) ∈ TB := tb_3 20 (by decide +kernel) rfl
theorem wt_501 : (Jvm.Cond.selects "ThrownCoins$Waiting" ({ cls := "ThrownCoins$Folk", name := "habit", desc := "()I" } : Jvm.MethodName) ({ cls := "ThrownCoins$Waiting", name := "habit", desc := "()I" } : Jvm.MethodName)) ∈ TB := tb_3 21 (by decide +kernel) rfl
theorem wt_502 : (Jvm.Cond.instanceMethod ({ cls := "ThrownCoins$Waiting", name := "habit", desc := "()I" } : Jvm.MethodName)) ∈ TB := tb_3 22 (by decide +kernel) rfl
theorem wt_503 : (Jvm.Cond.code ({ cls := "ThrownCoins$Waiting", name := "habit", desc := "()I" } : Jvm.MethodName) prog_12_method_2_code (1 : Nat) (Option.some Jvm.ClassFile.FieldType.int)) ∈ TB := tb_3 23 (by decide +kernel) rfl
theorem wt_504 : (Jvm.Cond.methodLink "ThrownCoins" (117 : Nat) ({ cls := "ThrownCoins$Folk", name := "waitsFor", desc := "(LThrownCoins$Told;I)I" } : Jvm.MethodName)) ∈ TB := tb_3 24 (by decide +kernel) rfl
theorem wt_505 : (Jvm.Cond.instanceMethod ({ cls := "ThrownCoins$Folk", name := "waitsFor", desc := "(LThrownCoins$Told;I)I" } : Jvm.MethodName)) ∈ TB := tb_3 25 (by decide +kernel) rfl
theorem wt_506 : (Jvm.Cond.sameMethod "ThrownCoins$Folk" "ThrownCoins$Folk" "waitsFor" "(LThrownCoins$Told;I)I") ∈ TB := tb_3 26 (by decide +kernel) rfl
theorem wt_507 : (Jvm.Cond.selects "ThrownCoins$Cheap" ({ cls := "ThrownCoins$Folk", name := "waitsFor", desc := "(LThrownCoins$Told;I)I" } : Jvm.MethodName) ({ cls := "ThrownCoins$Folk", name := "waitsFor", desc := "(LThrownCoins$Told;I)I" } : Jvm.MethodName)) ∈ TB := tb_3 27 (by decide +kernel) rfl
theorem wt_508 : (Jvm.Cond.selects "ThrownCoins$Greedy" ({ cls := "ThrownCoins$Folk", name := "waitsFor", desc := "(LThrownCoins$Told;I)I" } : Jvm.MethodName) ({ cls := "ThrownCoins$Folk", name := "waitsFor", desc := "(LThrownCoins$Told;I)I" } : Jvm.MethodName)) ∈ TB := tb_3 28 (by decide +kernel) rfl
theorem wt_509 : (Jvm.Cond.selects "ThrownCoins$Never" ({ cls := "ThrownCoins$Folk", name := "waitsFor", desc := "(LThrownCoins$Told;I)I" } : Jvm.MethodName) ({ cls := "ThrownCoins$Folk", name := "waitsFor", desc := "(LThrownCoins$Told;I)I" } : Jvm.MethodName)) ∈ TB := tb_3 29 (by decide +kernel) rfl
theorem wt_510 : (Jvm.Cond.selects "ThrownCoins$Waiting" ({ cls := "ThrownCoins$Folk", name := "waitsFor", desc := "(LThrownCoins$Told;I)I" } : Jvm.MethodName) ({ cls := "ThrownCoins$Waiting", name := "waitsFor", desc := "(LThrownCoins$Told;I)I" } : Jvm.MethodName)) ∈ TB := tb_3 30 (by decide +kernel) rfl
theorem wt_511 : (Jvm.Cond.instanceMethod ({ cls := "ThrownCoins$Waiting", name := "waitsFor", desc := "(LThrownCoins$Told;I)I" } : Jvm.MethodName)) ∈ TB := tb_3 31 (by decide +kernel) rfl
theorem wt_512 : (Jvm.Cond.code ({ cls := "ThrownCoins$Waiting", name := "waitsFor", desc := "(LThrownCoins$Told;I)I" } : Jvm.MethodName) prog_12_method_4_code (3 : Nat) (Option.some Jvm.ClassFile.FieldType.int)) ∈ TB := tb_3 32 (by decide +kernel) rfl
theorem wt_513 : (Jvm.Cond.methodLink "ThrownCoins$Waiting" (9 : Nat) ({ cls := "ThrownCoins$Told", name := "boundOf", desc := "(I)I" } : Jvm.MethodName)) ∈ TB := tb_3 33 (by decide +kernel) rfl
theorem wt_514 : (Jvm.Cond.instanceMethod ({ cls := "ThrownCoins$Told", name := "boundOf", desc := "(I)I" } : Jvm.MethodName)) ∈ TB := tb_3 34 (by decide +kernel) rfl
theorem wt_515 : (Jvm.Cond.selects "ThrownCoins$Told" ({ cls := "ThrownCoins$Told", name := "boundOf", desc := "(I)I" } : Jvm.MethodName) ({ cls := "ThrownCoins$Told", name := "boundOf", desc := "(I)I" } : Jvm.MethodName)) ∈ TB := tb_3 35 (by decide +kernel) rfl
theorem wt_516 : (Jvm.Cond.code ({ cls := "ThrownCoins$Told", name := "boundOf", desc := "(I)I" } : Jvm.MethodName) prog_11_method_7_code (2 : Nat) (Option.some Jvm.ClassFile.FieldType.int)) ∈ TB := tb_3 36 (by decide +kernel) rfl
theorem wt_517 : (Jvm.Cond.code ({ cls := "ThrownCoins$Folk", name := "waitsFor", desc := "(LThrownCoins$Told;I)I" } : Jvm.MethodName) prog_3_method_4_code (3 : Nat) (Option.some Jvm.ClassFile.FieldType.int)) ∈ TB := tb_3 37 (by decide +kernel) rfl
theorem wt_518 : (Jvm.Cond.methodLink "ThrownCoins" (121 : Nat) ({ cls := "ThrownCoins$Told", name := "visitsLeft", desc := "(LThrownCoins$Lot;I)I" } : Jvm.MethodName)) ∈ TB := tb_3 38 (by decide +kernel) rfl
theorem wt_519 : (Jvm.Cond.instanceMethod ({ cls := "ThrownCoins$Told", name := "visitsLeft", desc := "(LThrownCoins$Lot;I)I" } : Jvm.MethodName)) ∈ TB := tb_3 39 (by decide +kernel) rfl
theorem wt_520 : (Jvm.Cond.selects "ThrownCoins$Told" ({ cls := "ThrownCoins$Told", name := "visitsLeft", desc := "(LThrownCoins$Lot;I)I" } : Jvm.MethodName) ({ cls := "ThrownCoins$Told", name := "visitsLeft", desc := "(LThrownCoins$Lot;I)I" } : Jvm.MethodName)) ∈ TB := tb_3 40 (by decide +kernel) rfl
theorem wt_521 : (Jvm.Cond.code ({ cls := "ThrownCoins$Told", name := "visitsLeft", desc := "(LThrownCoins$Lot;I)I" } : Jvm.MethodName) prog_11_method_11_code (5 : Nat) (Option.some Jvm.ClassFile.FieldType.int)) ∈ TB := tb_3 41 (by decide +kernel) rfl
theorem wt_522 : (Jvm.Cond.methodLink "ThrownCoins$Told" (83 : Nat) ({ cls := "ThrownCoins$Told", name := "visitor", desc := "(I)I" } : Jvm.MethodName)) ∈ TB := tb_3 42 (by decide +kernel) rfl
theorem wt_523 : (Jvm.Cond.instanceMethod ({ cls := "ThrownCoins$Told", name := "visitor", desc := "(I)I" } : Jvm.MethodName)) ∈ TB := tb_3 43 (by decide +kernel) rfl
theorem wt_524 : (Jvm.Cond.selects "ThrownCoins$Told" ({ cls := "ThrownCoins$Told", name := "visitor", desc := "(I)I" } : Jvm.MethodName) ({ cls := "ThrownCoins$Told", name := "visitor", desc := "(I)I" } : Jvm.MethodName)) ∈ TB := tb_3 44 (by decide +kernel) rfl
theorem wt_525 : (Jvm.Cond.code ({ cls := "ThrownCoins$Told", name := "visitor", desc := "(I)I" } : Jvm.MethodName) prog_11_method_10_code (2 : Nat) (Option.some Jvm.ClassFile.FieldType.int)) ∈ TB := tb_3 45 (by decide +kernel) rfl
theorem wt_526 : (Jvm.Cond.methodLink "ThrownCoinsLaw" (46 : Nat) ({ cls := "ThrownCoins", name := "as", desc := "(II)I" } : Jvm.MethodName)) ∈ TB := tb_3 46 (by decide +kernel) rfl
theorem wt_527 : (Jvm.Cond.instanceMethod ({ cls := "ThrownCoins", name := "as", desc := "(II)I" } : Jvm.MethodName)) ∈ TB := tb_3 47 (by decide +kernel) rfl
theorem wt_528 : (Jvm.Cond.selects "ThrownCoins" ({ cls := "ThrownCoins", name := "as", desc := "(II)I" } : Jvm.MethodName) ({ cls := "ThrownCoins", name := "as", desc := "(II)I" } : Jvm.MethodName)) ∈ TB := tb_3 48 (by decide +kernel) rfl
theorem wt_529 : (Jvm.Cond.code ({ cls := "ThrownCoins", name := "as", desc := "(II)I" } : Jvm.MethodName) prog_1_method_9_code (4 : Nat) (Option.some Jvm.ClassFile.FieldType.int)) ∈ TB := tb_3 49 (by decide +kernel) rfl
theorem wt_530 : (Jvm.Cond.methodLink "ThrownCoins" (124 : Nat) ({ cls := "ThrownCoins", name := "isA", desc := "(LThrownCoins$Folk;I)Z" } : Jvm.MethodName)) ∈ TB := tb_3 50 (by decide +kernel) rfl
theorem wt_531 : (Jvm.Cond.static ({ cls := "ThrownCoins", name := "isA", desc := "(LThrownCoins$Folk;I)Z" } : Jvm.MethodName)) ∈ TB := tb_3 51 (by decide +kernel) rfl
theorem wt_532 : (Jvm.Cond.code ({ cls := "ThrownCoins", name := "isA", desc := "(LThrownCoins$Folk;I)Z" } : Jvm.MethodName) prog_1_method_31_code (2 : Nat) (Option.some Jvm.ClassFile.FieldType.boolean)) ∈ TB := tb_3 52 (by decide +kernel) rfl
theorem wt_533 : (Jvm.Cond.classLink "ThrownCoins" (214 : Nat) "ThrownCoins$Never") ∈ TB := tb_3 53 (by decide +kernel) rfl
theorem wt_534 : (Jvm.Cond.classLink "ThrownCoins" (216 : Nat) "ThrownCoins$Thrower") ∈ TB := tb_3 54 (by decide +kernel) rfl
theorem wt_535 : (Jvm.Cond.classLink "ThrownCoins" (218 : Nat) "ThrownCoins$Greedy") ∈ TB := tb_3 55 (by decide +kernel) rfl
theorem wt_536 : (Jvm.Cond.classLink "ThrownCoins" (220 : Nat) "ThrownCoins$Waiting") ∈ TB := tb_3 56 (by decide +kernel) rfl
theorem wt_537 : (Jvm.Cond.classLink "ThrownCoins" (222 : Nat) "ThrownCoins$Cheap") ∈ TB := tb_3 57 (by decide +kernel) rfl
theorem wt_538 : (Jvm.Cond.methodLink "ThrownCoins" (128 : Nat) ({ cls := "ThrownCoins$Folk", name := "wouldThrow", desc := "(LThrownCoins$Told;LThrownCoins$Lot;I)I" } : Jvm.MethodName)) ∈ TB := tb_3 58 (by decide +kernel) rfl
theorem wt_540 : (Jvm.Cond.sameMethod "ThrownCoins$Folk" "ThrownCoins$Folk" "wouldThrow" "(LThrownCoins$Told;LThrownCoins$Lot;I)I") ∈ TB := tb_3 60 (by decide +kernel) rfl
theorem wt_541 : (Jvm.Cond.selects "ThrownCoins$Cheap" ({ cls := "ThrownCoins$Folk", name := "wouldThrow", desc := "(LThrownCoins$Told;LThrownCoins$Lot;I)I" } : Jvm.MethodName) ({ cls := "ThrownCoins$Thrower", name := "wouldThrow", desc := "(LThrownCoins$Told;LThrownCoins$Lot;I)I" } : Jvm.MethodName)) ∈ TB := tb_3 61 (by decide +kernel) rfl
theorem wt_542 : (Jvm.Cond.instanceMethod ({ cls := "ThrownCoins$Thrower", name := "wouldThrow", desc := "(LThrownCoins$Told;LThrownCoins$Lot;I)I" } : Jvm.MethodName)) ∈ TB := tb_3 62 (by decide +kernel) rfl
theorem wt_543 : (Jvm.Cond.code ({ cls := "ThrownCoins$Thrower", name := "wouldThrow", desc := "(LThrownCoins$Told;LThrownCoins$Lot;I)I" } : Jvm.MethodName) prog_10_method_4_code (8 : Nat) (Option.some Jvm.ClassFile.FieldType.int)) ∈ TB := tb_3 63 (by decide +kernel) rfl
theorem wt_544 : (Jvm.Cond.methodLink "ThrownCoins$Thrower" (9 : Nat) ({ cls := "ThrownCoins$Thrower", name := "leastGain", desc := "(LThrownCoins$Told;I)I" } : Jvm.MethodName)) ∈ TB := tb_3 64 (by decide +kernel) rfl
theorem wt_545 : (Jvm.Cond.instanceMethod ({ cls := "ThrownCoins$Thrower", name := "leastGain", desc := "(LThrownCoins$Told;I)I" } : Jvm.MethodName)) ∈ TB := tb_3 65 (by decide +kernel) rfl
theorem wt_546 : (Jvm.Cond.sameMethod "ThrownCoins$Thrower" "ThrownCoins$Thrower" "leastGain" "(LThrownCoins$Told;I)I") ∈ TB := tb_3 66 (by decide +kernel) rfl
theorem wt_547 : (Jvm.Cond.selects "ThrownCoins$Cheap" ({ cls := "ThrownCoins$Thrower", name := "leastGain", desc := "(LThrownCoins$Told;I)I" } : Jvm.MethodName) ({ cls := "ThrownCoins$Thrower", name := "leastGain", desc := "(LThrownCoins$Told;I)I" } : Jvm.MethodName)) ∈ TB := tb_3 67 (by decide +kernel) rfl
theorem wt_548 : (Jvm.Cond.selects "ThrownCoins$Greedy" ({ cls := "ThrownCoins$Thrower", name := "leastGain", desc := "(LThrownCoins$Told;I)I" } : Jvm.MethodName) ({ cls := "ThrownCoins$Thrower", name := "leastGain", desc := "(LThrownCoins$Told;I)I" } : Jvm.MethodName)) ∈ TB := tb_3 68 (by decide +kernel) rfl
theorem wt_549 : (Jvm.Cond.selects "ThrownCoins$Waiting" ({ cls := "ThrownCoins$Thrower", name := "leastGain", desc := "(LThrownCoins$Told;I)I" } : Jvm.MethodName) ({ cls := "ThrownCoins$Waiting", name := "leastGain", desc := "(LThrownCoins$Told;I)I" } : Jvm.MethodName)) ∈ TB := tb_3 69 (by decide +kernel) rfl
theorem wt_550 : (Jvm.Cond.instanceMethod ({ cls := "ThrownCoins$Waiting", name := "leastGain", desc := "(LThrownCoins$Told;I)I" } : Jvm.MethodName)) ∈ TB := tb_3 70 (by decide +kernel) rfl
theorem wt_551 : (Jvm.Cond.code ({ cls := "ThrownCoins$Waiting", name := "leastGain", desc := "(LThrownCoins$Told;I)I" } : Jvm.MethodName) prog_12_method_3_code (3 : Nat) (Option.some Jvm.ClassFile.FieldType.int)) ∈ TB := tb_3 71 (by decide +kernel) rfl
theorem wt_552 : (Jvm.Cond.methodLink "ThrownCoins$Waiting" (15 : Nat) ({ cls := "java/lang/Math", name := "max", desc := "(II)I" } : Jvm.MethodName)) ∈ TB := tb_3 72 (by decide +kernel) rfl
theorem wt_553 : (Jvm.Cond.static ({ cls := "java/lang/Math", name := "max", desc := "(II)I" } : Jvm.MethodName)) ∈ TB := tb_3 73 (by decide +kernel) rfl
theorem wt_554 : (Jvm.Cond.code ({ cls := "java/lang/Math", name := "max", desc := "(II)I" } : Jvm.MethodName) prog_15_method_65_code (2 : Nat) (Option.some Jvm.ClassFile.FieldType.int)) ∈ TB := tb_3 74 (by decide +kernel) rfl
theorem wt_555 : (Jvm.Cond.code ({ cls := "ThrownCoins$Thrower", name := "leastGain", desc := "(LThrownCoins$Told;I)I" } : Jvm.MethodName) prog_10_method_3_code (3 : Nat) (Option.some Jvm.ClassFile.FieldType.int)) ∈ TB := tb_3 75 (by decide +kernel) rfl
theorem wt_556 : (Jvm.Cond.methodLink "ThrownCoins$Thrower" (21 : Nat) ({ cls := "ThrownCoins$Lot", name := "of", desc := "(II)I" } : Jvm.MethodName)) ∈ TB := tb_3 76 (by decide +kernel) rfl
theorem wt_557 : (Jvm.Cond.methodLink "ThrownCoins$Thrower" (27 : Nat) ({ cls := "ThrownCoins$Told", name := "gainOf", desc := "(LThrownCoins$Lot;I)I" } : Jvm.MethodName)) ∈ TB := tb_3 77 (by decide +kernel) rfl
theorem wt_558 : (Jvm.Cond.instanceMethod ({ cls := "ThrownCoins$Told", name := "gainOf", desc := "(LThrownCoins$Lot;I)I" } : Jvm.MethodName)) ∈ TB := tb_3 78 (by decide +kernel) rfl
theorem wt_559 : (Jvm.Cond.selects "ThrownCoins$Told" ({ cls := "ThrownCoins$Told", name := "gainOf", desc := "(LThrownCoins$Lot;I)I" } : Jvm.MethodName) ({ cls := "ThrownCoins$Told", name := "gainOf", desc := "(LThrownCoins$Lot;I)I" } : Jvm.MethodName)) ∈ TB := tb_3 79 (by decide +kernel) rfl
theorem wt_560 : (Jvm.Cond.code ({ cls := "ThrownCoins$Told", name := "gainOf", desc := "(LThrownCoins$Lot;I)I" } : Jvm.MethodName) prog_11_method_13_code (6 : Nat) (Option.some Jvm.ClassFile.FieldType.int)) ∈ TB := tb_3 80 (by decide +kernel) rfl
theorem wt_561 : (Jvm.Cond.methodLink "ThrownCoins$Told" (94 : Nat) ({ cls := "ThrownCoins$Told", name := "greatestTaken", desc := "(I)I" } : Jvm.MethodName)) ∈ TB := tb_3 81 (by decide +kernel) rfl
theorem wt_563 : (Jvm.Cond.instanceMethod ({ cls := "ThrownCoins$Told", name := "greatestTaken", desc := "(I)I" } : Jvm.MethodName)) ∈ TB := tb_3 83 (by decide +kernel) rfl
theorem wt_564 : (Jvm.Cond.code ({ cls := "ThrownCoins$Told", name := "greatestTaken", desc := "(I)I" } : Jvm.MethodName) prog_11_method_15_code (2 : Nat) (Option.some Jvm.ClassFile.FieldType.int)) ∈ TB := tb_3 84 (by decide +kernel) rfl
theorem wt_565 : (Jvm.Cond.methodLink "ThrownCoins$Told" (97 : Nat) ({ cls := "ThrownCoins$Told", name := "mostTakenOfKind", desc := "()I" } : Jvm.MethodName)) ∈ TB := tb_3 85 (by decide +kernel) rfl
theorem wt_567 : (Jvm.Cond.instanceMethod ({ cls := "ThrownCoins$Told", name := "mostTakenOfKind", desc := "()I" } : Jvm.MethodName)) ∈ TB := tb_3 87 (by decide +kernel) rfl
theorem wt_568 : (Jvm.Cond.code ({ cls := "ThrownCoins$Told", name := "mostTakenOfKind", desc := "()I" } : Jvm.MethodName) prog_11_method_16_code (1 : Nat) (Option.some Jvm.ClassFile.FieldType.int)) ∈ TB := tb_3 88 (by decide +kernel) rfl
theorem wt_569 : (Jvm.Cond.constant "ThrownCoins$Told" (114 : Nat) (1000000 : Int32)) ∈ TB := tb_3 89 (by decide +kernel) rfl
theorem wt_570 : (Jvm.Cond.methodLink "ThrownCoins$Told" (101 : Nat) ({ cls := "java/lang/Math", name := "min", desc := "(II)I" } : Jvm.MethodName)) ∈ TB := tb_3 90 (by decide +kernel) rfl
theorem wt_571 : (Jvm.Cond.methodLink "ThrownCoins$Told" (106 : Nat) ({ cls := "ThrownCoins$Told", name := "takesOneKind", desc := "()Z" } : Jvm.MethodName)) ∈ TB := tb_3 91 (by decide +kernel) rfl
theorem wt_573 : (Jvm.Cond.instanceMethod ({ cls := "ThrownCoins$Told", name := "takesOneKind", desc := "()Z" } : Jvm.MethodName)) ∈ TB := tb_3 93 (by decide +kernel) rfl
theorem wt_574 : (Jvm.Cond.code ({ cls := "ThrownCoins$Told", name := "takesOneKind", desc := "()Z" } : Jvm.MethodName) prog_11_method_17_code (1 : Nat) (Option.some Jvm.ClassFile.FieldType.boolean)) ∈ TB := tb_3 94 (by decide +kernel) rfl
theorem wt_575 : (Jvm.Cond.methodLink "ThrownCoins$Thrower" (31 : Nat) ({ cls := "ThrownCoins$Thrower", name := "comparesAll", desc := "()Z" } : Jvm.MethodName)) ∈ TB := tb_3 95 (by decide +kernel) rfl
theorem wt_577 : (Jvm.Cond.sameMethod "ThrownCoins$Thrower" "ThrownCoins$Thrower" "comparesAll" "()Z") ∈ TB := tb_3 97 (by decide +kernel) rfl
theorem wt_578 : (Jvm.Cond.selects "ThrownCoins$Cheap" ({ cls := "ThrownCoins$Thrower", name := "comparesAll", desc := "()Z" } : Jvm.MethodName) ({ cls := "ThrownCoins$Cheap", name := "comparesAll", desc := "()Z" } : Jvm.MethodName)) ∈ TB := tb_3 98 (by decide +kernel) rfl
theorem wt_579 : (Jvm.Cond.instanceMethod ({ cls := "ThrownCoins$Cheap", name := "comparesAll", desc := "()Z" } : Jvm.MethodName)) ∈ TB := tb_3 99 (by decide +kernel) rfl
theorem wt_580 : (Jvm.Cond.code ({ cls := "ThrownCoins$Cheap", name := "comparesAll", desc := "()Z" } : Jvm.MethodName) prog_2_method_3_code (1 : Nat) (Option.some Jvm.ClassFile.FieldType.boolean)) ∈ TB := tb_3 100 (by decide +kernel) rfl
theorem wt_581 : (Jvm.Cond.selects "ThrownCoins$Greedy" ({ cls := "ThrownCoins$Thrower", name := "comparesAll", desc := "()Z" } : Jvm.MethodName) ({ cls := "ThrownCoins$Greedy", name := "comparesAll", desc := "()Z" } : Jvm.MethodName)) ∈ TB := tb_3 101 (by decide +kernel) rfl
theorem wt_582 : (Jvm.Cond.instanceMethod ({ cls := "ThrownCoins$Greedy", name := "comparesAll", desc := "()Z" } : Jvm.MethodName)) ∈ TB := tb_3 102 (by decide +kernel) rfl
theorem wt_583 : (Jvm.Cond.code ({ cls := "ThrownCoins$Greedy", name := "comparesAll", desc := "()Z" } : Jvm.MethodName) prog_5_method_3_code (1 : Nat) (Option.some Jvm.ClassFile.FieldType.boolean)) ∈ TB := tb_3 103 (by decide +kernel) rfl
theorem wt_584 : (Jvm.Cond.selects "ThrownCoins$Waiting" ({ cls := "ThrownCoins$Thrower", name := "comparesAll", desc := "()Z" } : Jvm.MethodName) ({ cls := "ThrownCoins$Greedy", name := "comparesAll", desc := "()Z" } : Jvm.MethodName)) ∈ TB := tb_3 104 (by decide +kernel) rfl
theorem wt_585 : (Jvm.Cond.selects "ThrownCoins$Greedy" ({ cls := "ThrownCoins$Folk", name := "wouldThrow", desc := "(LThrownCoins$Told;LThrownCoins$Lot;I)I" } : Jvm.MethodName) ({ cls := "ThrownCoins$Thrower", name := "wouldThrow", desc := "(LThrownCoins$Told;LThrownCoins$Lot;I)I" } : Jvm.MethodName)) ∈ TB := tb_3 105 (by decide +kernel) rfl
theorem wt_586 : (Jvm.Cond.selects "ThrownCoins$Never" ({ cls := "ThrownCoins$Folk", name := "wouldThrow", desc := "(LThrownCoins$Told;LThrownCoins$Lot;I)I" } : Jvm.MethodName) ({ cls := "ThrownCoins$Never", name := "wouldThrow", desc := "(LThrownCoins$Told;LThrownCoins$Lot;I)I" } : Jvm.MethodName)) ∈ TB := tb_3 106 (by decide +kernel) rfl
theorem wt_587 : (Jvm.Cond.instanceMethod ({ cls := "ThrownCoins$Never", name := "wouldThrow", desc := "(LThrownCoins$Told;LThrownCoins$Lot;I)I" } : Jvm.MethodName)) ∈ TB := tb_3 107 (by decide +kernel) rfl
theorem wt_588 : (Jvm.Cond.code ({ cls := "ThrownCoins$Never", name := "wouldThrow", desc := "(LThrownCoins$Told;LThrownCoins$Lot;I)I" } : Jvm.MethodName) prog_7_method_3_code (4 : Nat) (Option.some Jvm.ClassFile.FieldType.int)) ∈ TB := tb_3 108 (by decide +kernel) rfl
theorem wt_589 : (Jvm.Cond.selects "ThrownCoins$Waiting" ({ cls := "ThrownCoins$Folk", name := "wouldThrow", desc := "(LThrownCoins$Told;LThrownCoins$Lot;I)I" } : Jvm.MethodName) ({ cls := "ThrownCoins$Thrower", name := "wouldThrow", desc := "(LThrownCoins$Told;LThrownCoins$Lot;I)I" } : Jvm.MethodName)) ∈ TB := tb_3 109 (by decide +kernel) rfl
theorem wt_590 : (Jvm.Cond.methodLink "ThrownCoinsLaw" (50 : Nat) ({ cls := "ThrownCoins", name := "come", desc := "(I)I" } : Jvm.MethodName)) ∈ TB := tb_3 110 (by decide +kernel) rfl
theorem wt_591 : (Jvm.Cond.instanceMethod ({ cls := "ThrownCoins", name := "come", desc := "(I)I" } : Jvm.MethodName)) ∈ TB := tb_3 111 (by decide +kernel) rfl
theorem wt_592 : (Jvm.Cond.selects "ThrownCoins" ({ cls := "ThrownCoins", name := "come", desc := "(I)I" } : Jvm.MethodName) ({ cls := "ThrownCoins", name := "come", desc := "(I)I" } : Jvm.MethodName)) ∈ TB := tb_3 112 (by decide +kernel) rfl
theorem wt_593 : (Jvm.Cond.code ({ cls := "ThrownCoins", name := "come", desc := "(I)I" } : Jvm.MethodName) prog_1_method_10_code (2 : Nat) (Option.some Jvm.ClassFile.FieldType.int)) ∈ TB := tb_3 113 (by decide +kernel) rfl
theorem wt_594 : (Jvm.Cond.methodLink "ThrownCoins" (132 : Nat) ({ cls := "ThrownCoins$Told", name := "visitor", desc := "(I)I" } : Jvm.MethodName)) ∈ TB := tb_3 114 (by decide +kernel) rfl
theorem wt_595 : (Jvm.Cond.methodLink "ThrownCoinsLaw" (55 : Nat) ({ cls := "ThrownCoins", name := "gain", desc := "(II)I" } : Jvm.MethodName)) ∈ TB := tb_3 115 (by decide +kernel) rfl
theorem wt_596 : (Jvm.Cond.instanceMethod ({ cls := "ThrownCoins", name := "gain", desc := "(II)I" } : Jvm.MethodName)) ∈ TB := tb_3 116 (by decide +kernel) rfl
theorem wt_597 : (Jvm.Cond.selects "ThrownCoins" ({ cls := "ThrownCoins", name := "gain", desc := "(II)I" } : Jvm.MethodName) ({ cls := "ThrownCoins", name := "gain", desc := "(II)I" } : Jvm.MethodName)) ∈ TB := tb_3 117 (by decide +kernel) rfl
theorem wt_598 : (Jvm.Cond.code ({ cls := "ThrownCoins", name := "gain", desc := "(II)I" } : Jvm.MethodName) prog_1_method_11_code (3 : Nat) (Option.some Jvm.ClassFile.FieldType.int)) ∈ TB := tb_3 118 (by decide +kernel) rfl
theorem wt_599 : (Jvm.Cond.methodLink "ThrownCoins" (135 : Nat) ({ cls := "ThrownCoins$Told", name := "gainOf", desc := "(LThrownCoins$Lot;I)I" } : Jvm.MethodName)) ∈ TB := tb_3 119 (by decide +kernel) rfl
theorem wt_600 : (Jvm.Cond.constant "ThrownCoins" (138 : Nat) (100000 : Int32)) ∈ TB := tb_3 120 (by decide +kernel) rfl
theorem wt_601 : (Jvm.Cond.methodLink "ThrownCoinsLaw" (59 : Nat) ({ cls := "ThrownCoins", name := "visit", desc := "(I)I" } : Jvm.MethodName)) ∈ TB := tb_3 121 (by decide +kernel) rfl
theorem wt_602 : (Jvm.Cond.instanceMethod ({ cls := "ThrownCoins", name := "visit", desc := "(I)I" } : Jvm.MethodName)) ∈ TB := tb_3 122 (by decide +kernel) rfl
theorem wt_603 : (Jvm.Cond.selects "ThrownCoins" ({ cls := "ThrownCoins", name := "visit", desc := "(I)I" } : Jvm.MethodName) ({ cls := "ThrownCoins", name := "visit", desc := "(I)I" } : Jvm.MethodName)) ∈ TB := tb_3 123 (by decide +kernel) rfl
theorem wt_604 : (Jvm.Cond.code ({ cls := "ThrownCoins", name := "visit", desc := "(I)I" } : Jvm.MethodName) prog_1_method_12_code (4 : Nat) (Option.some Jvm.ClassFile.FieldType.int)) ∈ TB := tb_3 124 (by decide +kernel) rfl
theorem wt_605 : (Jvm.Cond.methodLink "ThrownCoins" (142 : Nat) ({ cls := "ThrownCoins$Told", name := "letVisit", desc := "(LThrownCoins$Lot;I)V" } : Jvm.MethodName)) ∈ TB := tb_3 125 (by decide +kernel) rfl
theorem wt_606 : (Jvm.Cond.instanceMethod ({ cls := "ThrownCoins$Told", name := "letVisit", desc := "(LThrownCoins$Lot;I)V" } : Jvm.MethodName)) ∈ TB := tb_3 126 (by decide +kernel) rfl
theorem wt_607 : (Jvm.Cond.selects "ThrownCoins$Told" ({ cls := "ThrownCoins$Told", name := "letVisit", desc := "(LThrownCoins$Lot;I)V" } : Jvm.MethodName) ({ cls := "ThrownCoins$Told", name := "letVisit", desc := "(LThrownCoins$Lot;I)V" } : Jvm.MethodName)) ∈ TB := tb_3 127 (by decide +kernel) rfl
theorem wt_608 : (Jvm.Cond.code ({ cls := "ThrownCoins$Told", name := "letVisit", desc := "(LThrownCoins$Lot;I)V" } : Jvm.MethodName) prog_11_method_19_code (3 : Nat) (Option.none : Option Jvm.ClassFile.FieldType)) ∈ TB := tb_3 128 (by decide +kernel) rfl
theorem wt_609 : (Jvm.Cond.methodLink "ThrownCoins$Told" (125 : Nat) ({ cls := "ThrownCoins$Told", name := "throwCoin", desc := "(LThrownCoins$Lot;II)V" } : Jvm.MethodName)) ∈ TB := tb_3 129 (by decide +kernel) rfl
theorem wt_610 : (Jvm.Cond.instanceMethod ({ cls := "ThrownCoins$Told", name := "throwCoin", desc := "(LThrownCoins$Lot;II)V" } : Jvm.MethodName)) ∈ TB := tb_3 130 (by decide +kernel) rfl
theorem wt_611 : (Jvm.Cond.selects "ThrownCoins$Told" ({ cls := "ThrownCoins$Told", name := "throwCoin", desc := "(LThrownCoins$Lot;II)V" } : Jvm.MethodName) ({ cls := "ThrownCoins$Told", name := "throwCoin", desc := "(LThrownCoins$Lot;II)V" } : Jvm.MethodName)) ∈ TB := tb_3 131 (by decide +kernel) rfl
theorem wt_612 : (Jvm.Cond.code ({ cls := "ThrownCoins$Told", name := "throwCoin", desc := "(LThrownCoins$Lot;II)V" } : Jvm.MethodName) prog_11_method_14_code (6 : Nat) (Option.none : Option Jvm.ClassFile.FieldType)) ∈ TB := tb_3 132 (by decide +kernel) rfl
theorem wt_613 : (Jvm.Cond.methodLink "ThrownCoins$Told" (110 : Nat) ({ cls := "ThrownCoins$Lot", name := "add", desc := "(III)V" } : Jvm.MethodName)) ∈ TB := tb_3 133 (by decide +kernel) rfl
theorem wt_614 : (Jvm.Cond.methodLink "ThrownCoinsLaw" (63 : Nat) ({ cls := "ThrownCoins", name := "go", desc := "(I)I" } : Jvm.MethodName)) ∈ TB := tb_3 134 (by decide +kernel) rfl
theorem wt_615 : (Jvm.Cond.instanceMethod ({ cls := "ThrownCoins", name := "go", desc := "(I)I" } : Jvm.MethodName)) ∈ TB := tb_3 135 (by decide +kernel) rfl
theorem wt_616 : (Jvm.Cond.selects "ThrownCoins" ({ cls := "ThrownCoins", name := "go", desc := "(I)I" } : Jvm.MethodName) ({ cls := "ThrownCoins", name := "go", desc := "(I)I" } : Jvm.MethodName)) ∈ TB := tb_3 136 (by decide +kernel) rfl
theorem wt_617 : (Jvm.Cond.code ({ cls := "ThrownCoins", name := "go", desc := "(I)I" } : Jvm.MethodName) prog_1_method_13_code (3 : Nat) (Option.some Jvm.ClassFile.FieldType.int)) ∈ TB := tb_3 137 (by decide +kernel) rfl
theorem wt_618 : (Jvm.Cond.methodLink "ThrownCoins" (149 : Nat) ({ cls := "ThrownCoins$Told", name := "habitual", desc := "(LThrownCoins$Lot;)I" } : Jvm.MethodName)) ∈ TB := tb_3 138 (by decide +kernel) rfl
theorem wt_619 : (Jvm.Cond.instanceMethod ({ cls := "ThrownCoins$Told", name := "habitual", desc := "(LThrownCoins$Lot;)I" } : Jvm.MethodName)) ∈ TB := tb_3 139 (by decide +kernel) rfl
theorem wt_620 : (Jvm.Cond.selects "ThrownCoins$Told" ({ cls := "ThrownCoins$Told", name := "habitual", desc := "(LThrownCoins$Lot;)I" } : Jvm.MethodName) ({ cls := "ThrownCoins$Told", name := "habitual", desc := "(LThrownCoins$Lot;)I" } : Jvm.MethodName)) ∈ TB := tb_3 140 (by decide +kernel) rfl
theorem wt_621 : (Jvm.Cond.code ({ cls := "ThrownCoins$Told", name := "habitual", desc := "(LThrownCoins$Lot;)I" } : Jvm.MethodName) prog_11_method_18_code (3 : Nat) (Option.some Jvm.ClassFile.FieldType.int)) ∈ TB := tb_3 141 (by decide +kernel) rfl
theorem wt_622 : (Jvm.Cond.methodLink "ThrownCoins$Told" (115 : Nat) ({ cls := "ThrownCoins$Told", name := "folkOf", desc := "(I)LThrownCoins$Folk;" } : Jvm.MethodName)) ∈ TB := tb_3 142 (by decide +kernel) rfl
theorem wt_623 : (Jvm.Cond.methodLink "ThrownCoins$Told" (119 : Nat) ({ cls := "ThrownCoins$Folk", name := "wouldThrow", desc := "(LThrownCoins$Told;LThrownCoins$Lot;I)I" } : Jvm.MethodName)) ∈ TB := tb_3 143 (by decide +kernel) rfl
theorem wt_624 : (Jvm.Cond.methodLink "ThrownCoinsLaw" (67 : Nat) ({ cls := "ThrownCoins", name := "plan", desc := "(II)I" } : Jvm.MethodName)) ∈ TB := tb_3 144 (by decide +kernel) rfl
theorem wt_625 : (Jvm.Cond.instanceMethod ({ cls := "ThrownCoins", name := "plan", desc := "(II)I" } : Jvm.MethodName)) ∈ TB := tb_3 145 (by decide +kernel) rfl
theorem wt_626 : (Jvm.Cond.selects "ThrownCoins" ({ cls := "ThrownCoins", name := "plan", desc := "(II)I" } : Jvm.MethodName) ({ cls := "ThrownCoins", name := "plan", desc := "(II)I" } : Jvm.MethodName)) ∈ TB := tb_3 146 (by decide +kernel) rfl
theorem wt_627 : (Jvm.Cond.code ({ cls := "ThrownCoins", name := "plan", desc := "(II)I" } : Jvm.MethodName) prog_1_method_14_code (4 : Nat) (Option.some Jvm.ClassFile.FieldType.int)) ∈ TB := tb_3 147 (by decide +kernel) rfl
theorem wt_628 : (Jvm.Cond.methodLink "ThrownCoins" (153 : Nat) ({ cls := "ThrownCoins", name := "goalFor", desc := "(II)I" } : Jvm.MethodName)) ∈ TB := tb_3 148 (by decide +kernel) rfl
theorem wt_629 : (Jvm.Cond.static ({ cls := "ThrownCoins", name := "goalFor", desc := "(II)I" } : Jvm.MethodName)) ∈ TB := tb_3 149 (by decide +kernel) rfl
theorem wt_630 : (Jvm.Cond.code ({ cls := "ThrownCoins", name := "goalFor", desc := "(II)I" } : Jvm.MethodName) prog_1_method_30_code (2 : Nat) (Option.some Jvm.ClassFile.FieldType.int)) ∈ TB := tb_3 150 (by decide +kernel) rfl
theorem wt_631 : (Jvm.Cond.methodLink "ThrownCoins" (156 : Nat) ({ cls := "ThrownCoins$Foretelling", name := "foresee", desc := "(LThrownCoins$Lot;I)V" } : Jvm.MethodName)) ∈ TB := tb_3 151 (by decide +kernel) rfl
theorem wt_632 : (Jvm.Cond.instanceMethod ({ cls := "ThrownCoins$Foretelling", name := "foresee", desc := "(LThrownCoins$Lot;I)V" } : Jvm.MethodName)) ∈ TB := tb_3 152 (by decide +kernel) rfl
theorem wt_633 : (Jvm.Cond.selects "ThrownCoins$Foretelling" ({ cls := "ThrownCoins$Foretelling", name := "foresee", desc := "(LThrownCoins$Lot;I)V" } : Jvm.MethodName) ({ cls := "ThrownCoins$Foretelling", name := "foresee", desc := "(LThrownCoins$Lot;I)V" } : Jvm.MethodName)) ∈ TB := tb_3 153 (by decide +kernel) rfl
theorem wt_634 : (Jvm.Cond.code ({ cls := "ThrownCoins$Foretelling", name := "foresee", desc := "(LThrownCoins$Lot;I)V" } : Jvm.MethodName) prog_4_method_3_code (4 : Nat) (Option.none : Option Jvm.ClassFile.FieldType)) ∈ TB := tb_3 154 (by decide +kernel) rfl
theorem wt_635 : (Jvm.Cond.methodLink "ThrownCoins$Foretelling" (45 : Nat) ({ cls := "ThrownCoins$Told", name := "visitor", desc := "(I)I" } : Jvm.MethodName)) ∈ TB := tb_3 155 (by decide +kernel) rfl
theorem wt_636 : (Jvm.Cond.methodLink "ThrownCoins$Foretelling" (49 : Nat) ({ cls := "ThrownCoins$Foretelling", name := "isFree", desc := "(I)Z" } : Jvm.MethodName)) ∈ TB := tb_3 156 (by decide +kernel) rfl
theorem wt_638 : (Jvm.Cond.instanceMethod ({ cls := "ThrownCoins$Foretelling", name := "isFree", desc := "(I)Z" } : Jvm.MethodName)) ∈ TB := tb_3 158 (by decide +kernel) rfl
theorem wt_639 : (Jvm.Cond.code ({ cls := "ThrownCoins$Foretelling", name := "isFree", desc := "(I)Z" } : Jvm.MethodName) prog_4_method_7_code (2 : Nat) (Option.some Jvm.ClassFile.FieldType.boolean)) ∈ TB := tb_3 159 (by decide +kernel) rfl
theorem wt_640 : (Jvm.Cond.methodLink "ThrownCoins$Foretelling" (64 : Nat) ({ cls := "ThrownCoins$Foretelling", name := "goalOf", desc := "(I)I" } : Jvm.MethodName)) ∈ TB := tb_3 160 (by decide +kernel) rfl
theorem wt_642 : (Jvm.Cond.instanceMethod ({ cls := "ThrownCoins$Foretelling", name := "goalOf", desc := "(I)I" } : Jvm.MethodName)) ∈ TB := tb_3 162 (by decide +kernel) rfl
theorem wt_643 : (Jvm.Cond.code ({ cls := "ThrownCoins$Foretelling", name := "goalOf", desc := "(I)I" } : Jvm.MethodName) prog_4_method_6_code (2 : Nat) (Option.some Jvm.ClassFile.FieldType.int)) ∈ TB := tb_3 163 (by decide +kernel) rfl
theorem wt_645 : (Jvm.Cond.methodLink "ThrownCoins$Foretelling" (53 : Nat) ({ cls := "ThrownCoins$Lot", name := "copyFrom", desc := "(LThrownCoins$Lot;)V" } : Jvm.MethodName)) ∈ TB := tb_3 165 (by decide +kernel) rfl
theorem wt_646 : (Jvm.Cond.methodLink "ThrownCoins$Foretelling" (57 : Nat) ({ cls := "ThrownCoins$Foretelling", name := "playOn", desc := "(LThrownCoins$Foretelling;I)V" } : Jvm.MethodName)) ∈ TB := tb_3 166 (by decide +kernel) rfl
theorem wt_647 : (Jvm.Cond.static ({ cls := "ThrownCoins$Foretelling", name := "playOn", desc := "(LThrownCoins$Foretelling;I)V" } : Jvm.MethodName)) ∈ TB := tb_3 167 (by decide +kernel) rfl
theorem wt_648 : (Jvm.Cond.code ({ cls := "ThrownCoins$Foretelling", name := "playOn", desc := "(LThrownCoins$Foretelling;I)V" } : Jvm.MethodName) prog_4_method_8_code (9 : Nat) (Option.none : Option Jvm.ClassFile.FieldType)) ∈ TB := tb_3 168 (by decide +kernel) rfl
theorem wt_649 : (Jvm.Cond.methodLink "ThrownCoins$Foretelling" (67 : Nat) ({ cls := "ThrownCoins$Told", name := "habitual", desc := "(LThrownCoins$Lot;)I" } : Jvm.MethodName)) ∈ TB := tb_3 169 (by decide +kernel) rfl
theorem wt_650 : (Jvm.Cond.methodLink "ThrownCoins$Foretelling" (71 : Nat) ({ cls := "ThrownCoins$Told", name := "letVisit", desc := "(LThrownCoins$Lot;I)V" } : Jvm.MethodName)) ∈ TB := tb_3 170 (by decide +kernel) rfl
theorem wt_651 : (Jvm.Cond.methodLink "ThrownCoins$Foretelling" (75 : Nat) ({ cls := "ThrownCoins$Foretelling", name := "settle", desc := "(I)V" } : Jvm.MethodName)) ∈ TB := tb_3 171 (by decide +kernel) rfl
theorem wt_653 : (Jvm.Cond.instanceMethod ({ cls := "ThrownCoins$Foretelling", name := "settle", desc := "(I)V" } : Jvm.MethodName)) ∈ TB := tb_3 173 (by decide +kernel) rfl
theorem wt_654 : (Jvm.Cond.code ({ cls := "ThrownCoins$Foretelling", name := "settle", desc := "(I)V" } : Jvm.MethodName) prog_4_method_10_code (3 : Nat) (Option.none : Option Jvm.ClassFile.FieldType)) ∈ TB := tb_3 174 (by decide +kernel) rfl
theorem wt_655 : (Jvm.Cond.methodLink "ThrownCoins$Foretelling" (107 : Nat) ({ cls := "ThrownCoins$Told", name := "wealth", desc := "(LThrownCoins$Lot;I)I" } : Jvm.MethodName)) ∈ TB := tb_3 175 (by decide +kernel) rfl
theorem wt_656 : (Jvm.Cond.methodLink "ThrownCoins$Foretelling" (79 : Nat) ({ cls := "ThrownCoins$Foretelling", name := "comesAgain", desc := "(II)Z" } : Jvm.MethodName)) ∈ TB := tb_3 176 (by decide +kernel) rfl
theorem wt_658 : (Jvm.Cond.instanceMethod ({ cls := "ThrownCoins$Foretelling", name := "comesAgain", desc := "(II)Z" } : Jvm.MethodName)) ∈ TB := tb_3 178 (by decide +kernel) rfl
theorem wt_659 : (Jvm.Cond.code ({ cls := "ThrownCoins$Foretelling", name := "comesAgain", desc := "(II)Z" } : Jvm.MethodName) prog_4_method_9_code (4 : Nat) (Option.some Jvm.ClassFile.FieldType.boolean)) ∈ TB := tb_3 179 (by decide +kernel) rfl
theorem wt_660 : (Jvm.Cond.methodLink "ThrownCoins$Foretelling" (87 : Nat) ({ cls := "ThrownCoins$Folk", name := "wouldThrow", desc := "(LThrownCoins$Told;LThrownCoins$Lot;I)I" } : Jvm.MethodName)) ∈ TB := tb_3 180 (by decide +kernel) rfl
theorem wt_661 : (Jvm.Cond.methodLink "ThrownCoins$Foretelling" (96 : Nat) ({ cls := "ThrownCoins$Lot", name := "of", desc := "(II)I" } : Jvm.MethodName)) ∈ TB := tb_3 181 (by decide +kernel) rfl
theorem wt_662 : (Jvm.Cond.methodLink "ThrownCoins$Foretelling" (100 : Nat) ({ cls := "ThrownCoins$Foretelling", name := "reached", desc := "(II)I" } : Jvm.MethodName)) ∈ TB := tb_3 182 (by decide +kernel) rfl
theorem wt_664 : (Jvm.Cond.instanceMethod ({ cls := "ThrownCoins$Foretelling", name := "reached", desc := "(II)I" } : Jvm.MethodName)) ∈ TB := tb_3 184 (by decide +kernel) rfl
theorem wt_665 : (Jvm.Cond.code ({ cls := "ThrownCoins$Foretelling", name := "reached", desc := "(II)I" } : Jvm.MethodName) prog_4_method_11_code (5 : Nat) (Option.some Jvm.ClassFile.FieldType.int)) ∈ TB := tb_3 185 (by decide +kernel) rfl
theorem wt_666 : (Jvm.Cond.methodLink "ThrownCoins$Foretelling" (103 : Nat) ({ cls := "ThrownCoins$Foretelling", name := "takeOver", desc := "(II)V" } : Jvm.MethodName)) ∈ TB := tb_3 186 (by decide +kernel) rfl
theorem wt_668 : (Jvm.Cond.instanceMethod ({ cls := "ThrownCoins$Foretelling", name := "takeOver", desc := "(II)V" } : Jvm.MethodName)) ∈ TB := tb_3 188 (by decide +kernel) rfl
theorem wt_669 : (Jvm.Cond.code ({ cls := "ThrownCoins$Foretelling", name := "takeOver", desc := "(II)V" } : Jvm.MethodName) prog_4_method_12_code (3 : Nat) (Option.none : Option Jvm.ClassFile.FieldType)) ∈ TB := tb_3 189 (by decide +kernel) rfl
theorem wt_670 : (Jvm.Cond.methodLink "ThrownCoins$Foretelling" (111 : Nat) ({ cls := "java/lang/System", name := "arraycopy", desc := "(Ljava/lang/Object;ILjava/lang/Object;II)V" } : Jvm.MethodName)) ∈ TB := tb_3 190 (by decide +kernel) rfl
theorem wt_671 : (Jvm.Cond.methodLink "ThrownCoins" (159 : Nat) ({ cls := "ThrownCoins$Foretelling", name := "endOf", desc := "(I)I" } : Jvm.MethodName)) ∈ TB := tb_3 191 (by decide +kernel) rfl
theorem wt_672 : (Jvm.Cond.instanceMethod ({ cls := "ThrownCoins$Foretelling", name := "endOf", desc := "(I)I" } : Jvm.MethodName)) ∈ TB := tb_3 192 (by decide +kernel) rfl
theorem wt_673 : (Jvm.Cond.selects "ThrownCoins$Foretelling" ({ cls := "ThrownCoins$Foretelling", name := "endOf", desc := "(I)I" } : Jvm.MethodName) ({ cls := "ThrownCoins$Foretelling", name := "endOf", desc := "(I)I" } : Jvm.MethodName)) ∈ TB := tb_3 193 (by decide +kernel) rfl
theorem wt_674 : (Jvm.Cond.code ({ cls := "ThrownCoins$Foretelling", name := "endOf", desc := "(I)I" } : Jvm.MethodName) prog_4_method_4_code (2 : Nat) (Option.some Jvm.ClassFile.FieldType.int)) ∈ TB := tb_3 194 (by decide +kernel) rfl
theorem wt_675 : (Jvm.Cond.methodLink "ThrownCoins" (162 : Nat) ({ cls := "ThrownCoins$Foretelling", name := "step", desc := "(I)I" } : Jvm.MethodName)) ∈ TB := tb_3 195 (by decide +kernel) rfl
theorem wt_676 : (Jvm.Cond.instanceMethod ({ cls := "ThrownCoins$Foretelling", name := "step", desc := "(I)I" } : Jvm.MethodName)) ∈ TB := tb_3 196 (by decide +kernel) rfl
theorem wt_677 : (Jvm.Cond.selects "ThrownCoins$Foretelling" ({ cls := "ThrownCoins$Foretelling", name := "step", desc := "(I)I" } : Jvm.MethodName) ({ cls := "ThrownCoins$Foretelling", name := "step", desc := "(I)I" } : Jvm.MethodName)) ∈ TB := tb_3 197 (by decide +kernel) rfl
theorem wt_678 : (Jvm.Cond.code ({ cls := "ThrownCoins$Foretelling", name := "step", desc := "(I)I" } : Jvm.MethodName) prog_4_method_5_code (2 : Nat) (Option.some Jvm.ClassFile.FieldType.int)) ∈ TB := tb_3 198 (by decide +kernel) rfl
theorem wt_679 : (Jvm.Cond.methodLink "ThrownCoinsLaw" (71 : Nat) ({ cls := "ThrownCoins", name := "game", desc := "(I)I" } : Jvm.MethodName)) ∈ TB := tb_3 199 (by decide +kernel) rfl
theorem wt_680 : (Jvm.Cond.instanceMethod ({ cls := "ThrownCoins", name := "game", desc := "(I)I" } : Jvm.MethodName)) ∈ TB := tb_3 200 (by decide +kernel) rfl
theorem wt_681 : (Jvm.Cond.selects "ThrownCoins" ({ cls := "ThrownCoins", name := "game", desc := "(I)I" } : Jvm.MethodName) ({ cls := "ThrownCoins", name := "game", desc := "(I)I" } : Jvm.MethodName)) ∈ TB := tb_3 201 (by decide +kernel) rfl
theorem wt_682 : (Jvm.Cond.code ({ cls := "ThrownCoins", name := "game", desc := "(I)I" } : Jvm.MethodName) prog_1_method_15_code (2 : Nat) (Option.some Jvm.ClassFile.FieldType.int)) ∈ TB := tb_3 202 (by decide +kernel) rfl
theorem wt_683 : (Jvm.Cond.methodLink "ThrownCoins" (165 : Nat) ({ cls := "ThrownCoins", name := "tooLongForGame", desc := "()Z" } : Jvm.MethodName)) ∈ TB := tb_3 203 (by decide +kernel) rfl
theorem wt_685 : (Jvm.Cond.instanceMethod ({ cls := "ThrownCoins", name := "tooLongForGame", desc := "()Z" } : Jvm.MethodName)) ∈ TB := tb_3 205 (by decide +kernel) rfl
theorem wt_686 : (Jvm.Cond.code ({ cls := "ThrownCoins", name := "tooLongForGame", desc := "()Z" } : Jvm.MethodName) prog_1_method_28_code (1 : Nat) (Option.some Jvm.ClassFile.FieldType.boolean)) ∈ TB := tb_3 206 (by decide +kernel) rfl
theorem wt_687 : (Jvm.Cond.constant "ThrownCoins" (169 : Nat) (33825 : Int32)) ∈ TB := tb_3 207 (by decide +kernel) rfl
theorem wt_688 : (Jvm.Cond.methodLink "ThrownCoinsLaw" (75 : Nat) ({ cls := "ThrownCoins", name := "choice", desc := "(I)I" } : Jvm.MethodName)) ∈ TB := tb_3 208 (by decide +kernel) rfl
theorem wt_689 : (Jvm.Cond.instanceMethod ({ cls := "ThrownCoins", name := "choice", desc := "(I)I" } : Jvm.MethodName)) ∈ TB := tb_3 209 (by decide +kernel) rfl
theorem wt_690 : (Jvm.Cond.selects "ThrownCoins" ({ cls := "ThrownCoins", name := "choice", desc := "(I)I" } : Jvm.MethodName) ({ cls := "ThrownCoins", name := "choice", desc := "(I)I" } : Jvm.MethodName)) ∈ TB := tb_3 210 (by decide +kernel) rfl
theorem wt_691 : (Jvm.Cond.code ({ cls := "ThrownCoins", name := "choice", desc := "(I)I" } : Jvm.MethodName) prog_1_method_16_code (2 : Nat) (Option.some Jvm.ClassFile.FieldType.int)) ∈ TB := tb_3 211 (by decide +kernel) rfl
theorem wt_692 : (Jvm.Cond.methodLink "ThrownCoinsLaw" (79 : Nat) ({ cls := "ThrownCoins", name := "league", desc := "(II)I" } : Jvm.MethodName)) ∈ TB := tb_3 212 (by decide +kernel) rfl
theorem wt_693 : (Jvm.Cond.instanceMethod ({ cls := "ThrownCoins", name := "league", desc := "(II)I" } : Jvm.MethodName)) ∈ TB := tb_3 213 (by decide +kernel) rfl
theorem wt_694 : (Jvm.Cond.selects "ThrownCoins" ({ cls := "ThrownCoins", name := "league", desc := "(II)I" } : Jvm.MethodName) ({ cls := "ThrownCoins", name := "league", desc := "(II)I" } : Jvm.MethodName)) ∈ TB := tb_3 214 (by decide +kernel) rfl
theorem wt_695 : (Jvm.Cond.code ({ cls := "ThrownCoins", name := "league", desc := "(II)I" } : Jvm.MethodName) prog_1_method_17_code (4 : Nat) (Option.some Jvm.ClassFile.FieldType.int)) ∈ TB := tb_3 215 (by decide +kernel) rfl
theorem wt_696 : (Jvm.Cond.methodLink "ThrownCoinsLaw" (83 : Nat) ({ cls := "ThrownCoins", name := "mean", desc := "(III)J" } : Jvm.MethodName)) ∈ TB := tb_3 216 (by decide +kernel) rfl
theorem wt_697 : (Jvm.Cond.instanceMethod ({ cls := "ThrownCoins", name := "mean", desc := "(III)J" } : Jvm.MethodName)) ∈ TB := tb_3 217 (by decide +kernel) rfl
theorem wt_698 : (Jvm.Cond.selects "ThrownCoins" ({ cls := "ThrownCoins", name := "mean", desc := "(III)J" } : Jvm.MethodName) ({ cls := "ThrownCoins", name := "mean", desc := "(III)J" } : Jvm.MethodName)) ∈ TB := tb_3 218 (by decide +kernel) rfl
theorem wt_699 : (Jvm.Cond.code ({ cls := "ThrownCoins", name := "mean", desc := "(III)J" } : Jvm.MethodName) prog_1_method_18_code (4 : Nat) (Option.some Jvm.ClassFile.FieldType.long)) ∈ TB := tb_3 219 (by decide +kernel) rfl
theorem wt_700 : (Jvm.Cond.constantLong "ThrownCoins" (170 : Nat) (-2 : Int64)) ∈ TB := tb_3 220 (by decide +kernel) rfl
theorem wt_701 : (Jvm.Cond.constantLong "ThrownCoins" (172 : Nat) (-3 : Int64)) ∈ TB := tb_3 221 (by decide +kernel) rfl
theorem wt_702 : (Jvm.Cond.constantLong "ThrownCoins" (174 : Nat) (-4 : Int64)) ∈ TB := tb_3 222 (by decide +kernel) rfl
theorem wt_703 : (Jvm.Cond.methodLink "ThrownCoins" (176 : Nat) ({ cls := "ThrownCoins$Foretelling", name := "expected", desc := "(LThrownCoins$Lot;III)J" } : Jvm.MethodName)) ∈ TB := tb_3 223 (by decide +kernel) rfl
theorem wt_704 : (Jvm.Cond.instanceMethod ({ cls := "ThrownCoins$Foretelling", name := "expected", desc := "(LThrownCoins$Lot;III)J" } : Jvm.MethodName)) ∈ TB := tb_3 224 (by decide +kernel) rfl
theorem wt_705 : (Jvm.Cond.selects "ThrownCoins$Foretelling" ({ cls := "ThrownCoins$Foretelling", name := "expected", desc := "(LThrownCoins$Lot;III)J" } : Jvm.MethodName) ({ cls := "ThrownCoins$Foretelling", name := "expected", desc := "(LThrownCoins$Lot;III)J" } : Jvm.MethodName)) ∈ TB := tb_3 225 (by decide +kernel) rfl
theorem wt_706 : (Jvm.Cond.code ({ cls := "ThrownCoins$Foretelling", name := "expected", desc := "(LThrownCoins$Lot;III)J" } : Jvm.MethodName) prog_4_method_13_code (11 : Nat) (Option.some Jvm.ClassFile.FieldType.long)) ∈ TB := tb_3 226 (by decide +kernel) rfl
theorem wt_707 : (Jvm.Cond.methodLink "ThrownCoins$Foretelling" (123 : Nat) ({ cls := "ThrownCoins$Told", name := "visitsLeft", desc := "(LThrownCoins$Lot;I)I" } : Jvm.MethodName)) ∈ TB := tb_3 227 (by decide +kernel) rfl
theorem wt_708 : (Jvm.Cond.methodLink "ThrownCoins$Foretelling" (126 : Nat) ({ cls := "ThrownCoins$Foretelling", name := "weigh", desc := "(LThrownCoins$Foretelling;I)J" } : Jvm.MethodName)) ∈ TB := tb_3 228 (by decide +kernel) rfl
theorem wt_709 : (Jvm.Cond.static ({ cls := "ThrownCoins$Foretelling", name := "weigh", desc := "(LThrownCoins$Foretelling;I)J" } : Jvm.MethodName)) ∈ TB := tb_3 229 (by decide +kernel) rfl
theorem wt_710 : (Jvm.Cond.code ({ cls := "ThrownCoins$Foretelling", name := "weigh", desc := "(LThrownCoins$Foretelling;I)J" } : Jvm.MethodName) prog_4_method_14_code (12 : Nat) (Option.some Jvm.ClassFile.FieldType.long)) ∈ TB := tb_3 230 (by decide +kernel) rfl
theorem wt_711 : (Jvm.Cond.methodLink "ThrownCoins$Foretelling" (136 : Nat) ({ cls := "ThrownCoins$Foretelling", name := "weighNext", desc := "(LThrownCoins$Foretelling;II)J" } : Jvm.MethodName)) ∈ TB := tb_3 231 (by decide +kernel) rfl
theorem wt_712 : (Jvm.Cond.static ({ cls := "ThrownCoins$Foretelling", name := "weighNext", desc := "(LThrownCoins$Foretelling;II)J" } : Jvm.MethodName)) ∈ TB := tb_3 232 (by decide +kernel) rfl
theorem wt_713 : (Jvm.Cond.code ({ cls := "ThrownCoins$Foretelling", name := "weighNext", desc := "(LThrownCoins$Foretelling;II)J" } : Jvm.MethodName) prog_4_method_15_code (3 : Nat) (Option.some Jvm.ClassFile.FieldType.long)) ∈ TB := tb_3 233 (by decide +kernel) rfl
theorem wt_714 : (Jvm.Cond.constantLong "ThrownCoins$Foretelling" (130 : Nat) (10 : Int64)) ∈ TB := tb_3 234 (by decide +kernel) rfl
theorem wt_715 : (Jvm.Cond.constantLong "ThrownCoins$Foretelling" (132 : Nat) (2 : Int64)) ∈ TB := tb_3 235 (by decide +kernel) rfl
theorem wt_716 : (Jvm.Cond.constantLong "ThrownCoins$Foretelling" (134 : Nat) (5 : Int64)) ∈ TB := tb_3 236 (by decide +kernel) rfl
theorem wt_717 : (Jvm.Cond.methodLink "ThrownCoinsLaw" (88 : Nat) ({ cls := "ThrownCoins", name := "dry", desc := "()I" } : Jvm.MethodName)) ∈ TB := tb_3 237 (by decide +kernel) rfl
theorem wt_718 : (Jvm.Cond.instanceMethod ({ cls := "ThrownCoins", name := "dry", desc := "()I" } : Jvm.MethodName)) ∈ TB := tb_3 238 (by decide +kernel) rfl
theorem wt_719 : (Jvm.Cond.selects "ThrownCoins" ({ cls := "ThrownCoins", name := "dry", desc := "()I" } : Jvm.MethodName) ({ cls := "ThrownCoins", name := "dry", desc := "()I" } : Jvm.MethodName)) ∈ TB := tb_3 239 (by decide +kernel) rfl
theorem wt_720 : (Jvm.Cond.code ({ cls := "ThrownCoins", name := "dry", desc := "()I" } : Jvm.MethodName) prog_1_method_19_code (1 : Nat) (Option.some Jvm.ClassFile.FieldType.int)) ∈ TB := tb_4 0 (by decide +kernel) rfl
theorem wt_721 : (Jvm.Cond.methodLink "ThrownCoins" (180 : Nat) ({ cls := "ThrownCoins$Foretelling", name := "tillDry", desc := "(LThrownCoins$Lot;)I" } : Jvm.MethodName)) ∈ TB := tb_4 1 (by decide +kernel) rfl
theorem wt_722 : (Jvm.Cond.instanceMethod ({ cls := "ThrownCoins$Foretelling", name := "tillDry", desc := "(LThrownCoins$Lot;)I" } : Jvm.MethodName)) ∈ TB := tb_4 2 (by decide +kernel) rfl
theorem wt_723 : (Jvm.Cond.selects "ThrownCoins$Foretelling" ({ cls := "ThrownCoins$Foretelling", name := "tillDry", desc := "(LThrownCoins$Lot;)I" } : Jvm.MethodName) ({ cls := "ThrownCoins$Foretelling", name := "tillDry", desc := "(LThrownCoins$Lot;)I" } : Jvm.MethodName)) ∈ TB := tb_4 3 (by decide +kernel) rfl
theorem wt_724 : (Jvm.Cond.code ({ cls := "ThrownCoins$Foretelling", name := "tillDry", desc := "(LThrownCoins$Lot;)I" } : Jvm.MethodName) prog_4_method_16_code (6 : Nat) (Option.some Jvm.ClassFile.FieldType.int)) ∈ TB := tb_4 4 (by decide +kernel) rfl
theorem wt_725 : (Jvm.Cond.methodLink "ThrownCoinsLaw" (92 : Nat) ({ cls := "ThrownCoins", name := "bait", desc := "(I)I" } : Jvm.MethodName)) ∈ TB := tb_4 5 (by decide +kernel) rfl
theorem wt_726 : (Jvm.Cond.instanceMethod ({ cls := "ThrownCoins", name := "bait", desc := "(I)I" } : Jvm.MethodName)) ∈ TB := tb_4 6 (by decide +kernel) rfl
theorem wt_727 : (Jvm.Cond.selects "ThrownCoins" ({ cls := "ThrownCoins", name := "bait", desc := "(I)I" } : Jvm.MethodName) ({ cls := "ThrownCoins", name := "bait", desc := "(I)I" } : Jvm.MethodName)) ∈ TB := tb_4 7 (by decide +kernel) rfl
theorem wt_728 : (Jvm.Cond.code ({ cls := "ThrownCoins", name := "bait", desc := "(I)I" } : Jvm.MethodName) prog_1_method_20_code (2 : Nat) (Option.some Jvm.ClassFile.FieldType.int)) ∈ TB := tb_4 8 (by decide +kernel) rfl
theorem wt_729 : (Jvm.Cond.methodLink "ThrownCoins" (183 : Nat) ({ cls := "ThrownCoins$Foretelling", name := "leastBait", desc := "(LThrownCoins$Lot;I)I" } : Jvm.MethodName)) ∈ TB := tb_4 9 (by decide +kernel) rfl
theorem wt_730 : (Jvm.Cond.instanceMethod ({ cls := "ThrownCoins$Foretelling", name := "leastBait", desc := "(LThrownCoins$Lot;I)I" } : Jvm.MethodName)) ∈ TB := tb_4 10 (by decide +kernel) rfl
theorem wt_731 : (Jvm.Cond.selects "ThrownCoins$Foretelling" ({ cls := "ThrownCoins$Foretelling", name := "leastBait", desc := "(LThrownCoins$Lot;I)I" } : Jvm.MethodName) ({ cls := "ThrownCoins$Foretelling", name := "leastBait", desc := "(LThrownCoins$Lot;I)I" } : Jvm.MethodName)) ∈ TB := tb_4 11 (by decide +kernel) rfl
theorem wt_732 : (Jvm.Cond.code ({ cls := "ThrownCoins$Foretelling", name := "leastBait", desc := "(LThrownCoins$Lot;I)I" } : Jvm.MethodName) prog_4_method_17_code (8 : Nat) (Option.some Jvm.ClassFile.FieldType.int)) ∈ TB := tb_4 12 (by decide +kernel) rfl
theorem wt_733 : (Jvm.Cond.methodLink "ThrownCoins$Foretelling" (140 : Nat) ({ cls := "ThrownCoins$Told", name := "worthOf", desc := "(I)I" } : Jvm.MethodName)) ∈ TB := tb_4 13 (by decide +kernel) rfl
theorem wt_734 : (Jvm.Cond.methodLink "ThrownCoins$Foretelling" (143 : Nat) ({ cls := "ThrownCoins$Foretelling", name := "tempts", desc := "(IIII)Z" } : Jvm.MethodName)) ∈ TB := tb_4 14 (by decide +kernel) rfl
theorem wt_736 : (Jvm.Cond.instanceMethod ({ cls := "ThrownCoins$Foretelling", name := "tempts", desc := "(IIII)Z" } : Jvm.MethodName)) ∈ TB := tb_4 16 (by decide +kernel) rfl
theorem wt_737 : (Jvm.Cond.code ({ cls := "ThrownCoins$Foretelling", name := "tempts", desc := "(IIII)Z" } : Jvm.MethodName) prog_4_method_18_code (6 : Nat) (Option.some Jvm.ClassFile.FieldType.boolean)) ∈ TB := tb_4 17 (by decide +kernel) rfl
theorem wt_738 : (Jvm.Cond.methodLink "ThrownCoins$Foretelling" (147 : Nat) ({ cls := "ThrownCoins$Foretelling", name := "putIn", desc := "(IIII)V" } : Jvm.MethodName)) ∈ TB := tb_4 18 (by decide +kernel) rfl
theorem wt_740 : (Jvm.Cond.instanceMethod ({ cls := "ThrownCoins$Foretelling", name := "putIn", desc := "(IIII)V" } : Jvm.MethodName)) ∈ TB := tb_4 20 (by decide +kernel) rfl
theorem wt_741 : (Jvm.Cond.code ({ cls := "ThrownCoins$Foretelling", name := "putIn", desc := "(IIII)V" } : Jvm.MethodName) prog_4_method_19_code (5 : Nat) (Option.none : Option Jvm.ClassFile.FieldType)) ∈ TB := tb_4 21 (by decide +kernel) rfl
theorem wt_742 : (Jvm.Cond.methodLink "ThrownCoins$Foretelling" (155 : Nat) ({ cls := "ThrownCoins$Lot", name := "add", desc := "(III)V" } : Jvm.MethodName)) ∈ TB := tb_4 22 (by decide +kernel) rfl
theorem wt_743 : (Jvm.Cond.methodLink "ThrownCoins$Foretelling" (151 : Nat) ({ cls := "ThrownCoins$Told", name := "folkOf", desc := "(I)LThrownCoins$Folk;" } : Jvm.MethodName)) ∈ TB := tb_4 23 (by decide +kernel) rfl
theorem wt_744 : (Jvm.Cond.methodLink "ThrownCoinsLaw" (96 : Nat) ({ cls := "ThrownCoins", name := "note", desc := "(II)I" } : Jvm.MethodName)) ∈ TB := tb_4 24 (by decide +kernel) rfl
theorem wt_745 : (Jvm.Cond.instanceMethod ({ cls := "ThrownCoins", name := "note", desc := "(II)I" } : Jvm.MethodName)) ∈ TB := tb_4 25 (by decide +kernel) rfl
theorem wt_746 : (Jvm.Cond.selects "ThrownCoins" ({ cls := "ThrownCoins", name := "note", desc := "(II)I" } : Jvm.MethodName) ({ cls := "ThrownCoins", name := "note", desc := "(II)I" } : Jvm.MethodName)) ∈ TB := tb_4 26 (by decide +kernel) rfl
theorem wt_747 : (Jvm.Cond.code ({ cls := "ThrownCoins", name := "note", desc := "(II)I" } : Jvm.MethodName) prog_1_method_21_code (3 : Nat) (Option.some Jvm.ClassFile.FieldType.int)) ∈ TB := tb_4 27 (by decide +kernel) rfl
theorem wt_748 : (Jvm.Cond.methodLink "ThrownCoins" (186 : Nat) ({ cls := "ThrownCoins$Notes", name := "add", desc := "(II)Z" } : Jvm.MethodName)) ∈ TB := tb_4 28 (by decide +kernel) rfl
theorem wt_749 : (Jvm.Cond.instanceMethod ({ cls := "ThrownCoins$Notes", name := "add", desc := "(II)Z" } : Jvm.MethodName)) ∈ TB := tb_4 29 (by decide +kernel) rfl
theorem wt_750 : (Jvm.Cond.selects "ThrownCoins$Notes" ({ cls := "ThrownCoins$Notes", name := "add", desc := "(II)Z" } : Jvm.MethodName) ({ cls := "ThrownCoins$Notes", name := "add", desc := "(II)Z" } : Jvm.MethodName)) ∈ TB := tb_4 30 (by decide +kernel) rfl
theorem wt_751 : (Jvm.Cond.code ({ cls := "ThrownCoins$Notes", name := "add", desc := "(II)Z" } : Jvm.MethodName) prog_8_method_2_code (3 : Nat) (Option.some Jvm.ClassFile.FieldType.boolean)) ∈ TB := tb_4 31 (by decide +kernel) rfl
theorem wt_752 : (Jvm.Cond.methodLink "ThrownCoinsLaw" (100 : Nat) ({ cls := "ThrownCoins", name := "forget", desc := "()I" } : Jvm.MethodName)) ∈ TB := tb_4 32 (by decide +kernel) rfl
theorem wt_753 : (Jvm.Cond.instanceMethod ({ cls := "ThrownCoins", name := "forget", desc := "()I" } : Jvm.MethodName)) ∈ TB := tb_4 33 (by decide +kernel) rfl
theorem wt_754 : (Jvm.Cond.selects "ThrownCoins" ({ cls := "ThrownCoins", name := "forget", desc := "()I" } : Jvm.MethodName) ({ cls := "ThrownCoins", name := "forget", desc := "()I" } : Jvm.MethodName)) ∈ TB := tb_4 34 (by decide +kernel) rfl
theorem wt_755 : (Jvm.Cond.code ({ cls := "ThrownCoins", name := "forget", desc := "()I" } : Jvm.MethodName) prog_1_method_22_code (2 : Nat) (Option.some Jvm.ClassFile.FieldType.int)) ∈ TB := tb_4 35 (by decide +kernel) rfl
theorem wt_756 : (Jvm.Cond.methodLink "ThrownCoinsLaw" (104 : Nat) ({ cls := "ThrownCoins", name := "lay", desc := "(I)I" } : Jvm.MethodName)) ∈ TB := tb_4 36 (by decide +kernel) rfl
theorem wt_757 : (Jvm.Cond.instanceMethod ({ cls := "ThrownCoins", name := "lay", desc := "(I)I" } : Jvm.MethodName)) ∈ TB := tb_4 37 (by decide +kernel) rfl
theorem wt_758 : (Jvm.Cond.selects "ThrownCoins" ({ cls := "ThrownCoins", name := "lay", desc := "(I)I" } : Jvm.MethodName) ({ cls := "ThrownCoins", name := "lay", desc := "(I)I" } : Jvm.MethodName)) ∈ TB := tb_4 38 (by decide +kernel) rfl
theorem wt_759 : (Jvm.Cond.code ({ cls := "ThrownCoins", name := "lay", desc := "(I)I" } : Jvm.MethodName) prog_1_method_23_code (4 : Nat) (Option.some Jvm.ClassFile.FieldType.int)) ∈ TB := tb_4 39 (by decide +kernel) rfl
theorem wt_760 : (Jvm.Cond.methodLink "ThrownCoins" (193 : Nat) ({ cls := "ThrownCoins$Notes", name := "searchLayings", desc := "()V" } : Jvm.MethodName)) ∈ TB := tb_4 40 (by decide +kernel) rfl
theorem wt_761 : (Jvm.Cond.instanceMethod ({ cls := "ThrownCoins$Notes", name := "searchLayings", desc := "()V" } : Jvm.MethodName)) ∈ TB := tb_4 41 (by decide +kernel) rfl
theorem wt_762 : (Jvm.Cond.selects "ThrownCoins$Notes" ({ cls := "ThrownCoins$Notes", name := "searchLayings", desc := "()V" } : Jvm.MethodName) ({ cls := "ThrownCoins$Notes", name := "searchLayings", desc := "()V" } : Jvm.MethodName)) ∈ TB := tb_4 42 (by decide +kernel) rfl
theorem wt_763 : (Jvm.Cond.code ({ cls := "ThrownCoins$Notes", name := "searchLayings", desc := "()V" } : Jvm.MethodName) prog_8_method_5_code (3 : Nat) (Option.none : Option Jvm.ClassFile.FieldType)) ∈ TB := tb_4 43 (by decide +kernel) rfl
theorem wt_764 : (Jvm.Cond.methodLink "ThrownCoins$Notes" (50 : Nat) ({ cls := "java/lang/Math", name := "min", desc := "(II)I" } : Jvm.MethodName)) ∈ TB := tb_4 44 (by decide +kernel) rfl
theorem wt_765 : (Jvm.Cond.methodLink "ThrownCoins$Notes" (56 : Nat) ({ cls := "ThrownCoins$Notes", name := "fits", desc := "(I)Z" } : Jvm.MethodName)) ∈ TB := tb_4 45 (by decide +kernel) rfl
theorem wt_767 : (Jvm.Cond.instanceMethod ({ cls := "ThrownCoins$Notes", name := "fits", desc := "(I)Z" } : Jvm.MethodName)) ∈ TB := tb_4 47 (by decide +kernel) rfl
theorem wt_768 : (Jvm.Cond.code ({ cls := "ThrownCoins$Notes", name := "fits", desc := "(I)Z" } : Jvm.MethodName) prog_8_method_7_code (3 : Nat) (Option.some Jvm.ClassFile.FieldType.boolean)) ∈ TB := tb_4 48 (by decide +kernel) rfl
theorem wt_769 : (Jvm.Cond.methodLink "ThrownCoins$Notes" (64 : Nat) ({ cls := "ThrownCoins$Lot", name := "empty", desc := "()V" } : Jvm.MethodName)) ∈ TB := tb_4 49 (by decide +kernel) rfl
theorem wt_770 : (Jvm.Cond.methodLink "ThrownCoins$Notes" (67 : Nat) ({ cls := "ThrownCoins$Notes", name := "figureOf", desc := "(II)I" } : Jvm.MethodName)) ∈ TB := tb_4 50 (by decide +kernel) rfl
theorem wt_772 : (Jvm.Cond.instanceMethod ({ cls := "ThrownCoins$Notes", name := "figureOf", desc := "(II)I" } : Jvm.MethodName)) ∈ TB := tb_4 52 (by decide +kernel) rfl
theorem wt_773 : (Jvm.Cond.code ({ cls := "ThrownCoins$Notes", name := "figureOf", desc := "(II)I" } : Jvm.MethodName) prog_8_method_6_code (3 : Nat) (Option.some Jvm.ClassFile.FieldType.int)) ∈ TB := tb_4 53 (by decide +kernel) rfl
theorem wt_774 : (Jvm.Cond.methodLink "ThrownCoins$Notes" (70 : Nat) ({ cls := "ThrownCoins$Lot", name := "add", desc := "(III)V" } : Jvm.MethodName)) ∈ TB := tb_4 54 (by decide +kernel) rfl
theorem wt_775 : (Jvm.Cond.methodLink "ThrownCoins$Notes" (74 : Nat) ({ cls := "ThrownCoins$Told", name := "gainOf", desc := "(LThrownCoins$Lot;I)I" } : Jvm.MethodName)) ∈ TB := tb_4 55 (by decide +kernel) rfl
theorem wt_776 : (Jvm.Cond.methodLink "ThrownCoins$Notes" (78 : Nat) ({ cls := "ThrownCoins$Told", name := "worthOf", desc := "(I)I" } : Jvm.MethodName)) ∈ TB := tb_4 56 (by decide +kernel) rfl
theorem wt_777 : (Jvm.Cond.methodLink "ThrownCoins$Notes" (82 : Nat) ({ cls := "ThrownCoins$Told", name := "throwCoin", desc := "(LThrownCoins$Lot;II)V" } : Jvm.MethodName)) ∈ TB := tb_4 57 (by decide +kernel) rfl
theorem wt_778 : (Jvm.Cond.methodLink "ThrownCoins$Notes" (60 : Nat) ({ cls := "ThrownCoins$Notes", name := "tally", desc := "(I)V" } : Jvm.MethodName)) ∈ TB := tb_4 58 (by decide +kernel) rfl
theorem wt_780 : (Jvm.Cond.instanceMethod ({ cls := "ThrownCoins$Notes", name := "tally", desc := "(I)V" } : Jvm.MethodName)) ∈ TB := tb_4 60 (by decide +kernel) rfl
theorem wt_781 : (Jvm.Cond.code ({ cls := "ThrownCoins$Notes", name := "tally", desc := "(I)V" } : Jvm.MethodName) prog_8_method_8_code (4 : Nat) (Option.none : Option Jvm.ClassFile.FieldType)) ∈ TB := tb_4 61 (by decide +kernel) rfl
theorem wt_782 : (Jvm.Cond.methodLink "ThrownCoins$Notes" (86 : Nat) ({ cls := "java/lang/Math", name := "max", desc := "(II)I" } : Jvm.MethodName)) ∈ TB := tb_4 62 (by decide +kernel) rfl
theorem wt_783 : (Jvm.Cond.methodLink "ThrownCoins" (202 : Nat) ({ cls := "ThrownCoins$Notes", name := "leastOf", desc := "(I)I" } : Jvm.MethodName)) ∈ TB := tb_4 63 (by decide +kernel) rfl
theorem wt_784 : (Jvm.Cond.instanceMethod ({ cls := "ThrownCoins$Notes", name := "leastOf", desc := "(I)I" } : Jvm.MethodName)) ∈ TB := tb_4 64 (by decide +kernel) rfl
theorem wt_785 : (Jvm.Cond.selects "ThrownCoins$Notes" ({ cls := "ThrownCoins$Notes", name := "leastOf", desc := "(I)I" } : Jvm.MethodName) ({ cls := "ThrownCoins$Notes", name := "leastOf", desc := "(I)I" } : Jvm.MethodName)) ∈ TB := tb_4 65 (by decide +kernel) rfl
theorem wt_786 : (Jvm.Cond.code ({ cls := "ThrownCoins$Notes", name := "leastOf", desc := "(I)I" } : Jvm.MethodName) prog_8_method_3_code (2 : Nat) (Option.some Jvm.ClassFile.FieldType.int)) ∈ TB := tb_4 66 (by decide +kernel) rfl
theorem wt_787 : (Jvm.Cond.methodLink "ThrownCoins" (205 : Nat) ({ cls := "ThrownCoins$Notes", name := "mostOf", desc := "(I)I" } : Jvm.MethodName)) ∈ TB := tb_4 67 (by decide +kernel) rfl
theorem wt_788 : (Jvm.Cond.instanceMethod ({ cls := "ThrownCoins$Notes", name := "mostOf", desc := "(I)I" } : Jvm.MethodName)) ∈ TB := tb_4 68 (by decide +kernel) rfl
theorem wt_789 : (Jvm.Cond.selects "ThrownCoins$Notes" ({ cls := "ThrownCoins$Notes", name := "mostOf", desc := "(I)I" } : Jvm.MethodName) ({ cls := "ThrownCoins$Notes", name := "mostOf", desc := "(I)I" } : Jvm.MethodName)) ∈ TB := tb_4 69 (by decide +kernel) rfl
theorem wt_790 : (Jvm.Cond.code ({ cls := "ThrownCoins$Notes", name := "mostOf", desc := "(I)I" } : Jvm.MethodName) prog_8_method_4_code (2 : Nat) (Option.some Jvm.ClassFile.FieldType.int)) ∈ TB := tb_4 70 (by decide +kernel) rfl
theorem wt_791 : (Jvm.Cond.methodLink "ThrownCoinsLaw" (108 : Nat) ({ cls := "ThrownCoins", name := "keep", desc := "(I)I" } : Jvm.MethodName)) ∈ TB := tb_4 71 (by decide +kernel) rfl
theorem wt_792 : (Jvm.Cond.instanceMethod ({ cls := "ThrownCoins", name := "keep", desc := "(I)I" } : Jvm.MethodName)) ∈ TB := tb_4 72 (by decide +kernel) rfl
theorem wt_793 : (Jvm.Cond.selects "ThrownCoins" ({ cls := "ThrownCoins", name := "keep", desc := "(I)I" } : Jvm.MethodName) ({ cls := "ThrownCoins", name := "keep", desc := "(I)I" } : Jvm.MethodName)) ∈ TB := tb_4 73 (by decide +kernel) rfl
theorem wt_794 : (Jvm.Cond.code ({ cls := "ThrownCoins", name := "keep", desc := "(I)I" } : Jvm.MethodName) prog_1_method_24_code (2 : Nat) (Option.some Jvm.ClassFile.FieldType.int)) ∈ TB := tb_4 74 (by decide +kernel) rfl
theorem wt_795 : (Jvm.Cond.methodLink "ThrownCoinsLaw" (112 : Nat) ({ cls := "ThrownCoins", name := "back", desc := "(I)I" } : Jvm.MethodName)) ∈ TB := tb_4 75 (by decide +kernel) rfl
theorem wt_796 : (Jvm.Cond.instanceMethod ({ cls := "ThrownCoins", name := "back", desc := "(I)I" } : Jvm.MethodName)) ∈ TB := tb_4 76 (by decide +kernel) rfl
theorem wt_797 : (Jvm.Cond.selects "ThrownCoins" ({ cls := "ThrownCoins", name := "back", desc := "(I)I" } : Jvm.MethodName) ({ cls := "ThrownCoins", name := "back", desc := "(I)I" } : Jvm.MethodName)) ∈ TB := tb_4 77 (by decide +kernel) rfl
theorem wt_798 : (Jvm.Cond.code ({ cls := "ThrownCoins", name := "back", desc := "(I)I" } : Jvm.MethodName) prog_1_method_25_code (2 : Nat) (Option.some Jvm.ClassFile.FieldType.int)) ∈ TB := tb_4 78 (by decide +kernel) rfl
theorem wt_799 : (Jvm.Cond.methodLink "ThrownCoinsLaw" (116 : Nat) ({ cls := "ThrownCoins", name := "count", desc := "(I)I" } : Jvm.MethodName)) ∈ TB := tb_4 79 (by decide +kernel) rfl
theorem wt_800 : (Jvm.Cond.instanceMethod ({ cls := "ThrownCoins", name := "count", desc := "(I)I" } : Jvm.MethodName)) ∈ TB := tb_4 80 (by decide +kernel) rfl
theorem wt_801 : (Jvm.Cond.selects "ThrownCoins" ({ cls := "ThrownCoins", name := "count", desc := "(I)I" } : Jvm.MethodName) ({ cls := "ThrownCoins", name := "count", desc := "(I)I" } : Jvm.MethodName)) ∈ TB := tb_4 81 (by decide +kernel) rfl
theorem wt_802 : (Jvm.Cond.code ({ cls := "ThrownCoins", name := "count", desc := "(I)I" } : Jvm.MethodName) prog_1_method_26_code (2 : Nat) (Option.some Jvm.ClassFile.FieldType.int)) ∈ TB := tb_4 82 (by decide +kernel) rfl
theorem wt_803 : (Jvm.Cond.methodLink "ThrownCoins" (211 : Nat) ({ cls := "ThrownCoins", name := "wealthOfAll", desc := "()I" } : Jvm.MethodName)) ∈ TB := tb_4 83 (by decide +kernel) rfl
theorem wt_805 : (Jvm.Cond.instanceMethod ({ cls := "ThrownCoins", name := "wealthOfAll", desc := "()I" } : Jvm.MethodName)) ∈ TB := tb_4 85 (by decide +kernel) rfl
theorem wt_806 : (Jvm.Cond.code ({ cls := "ThrownCoins", name := "wealthOfAll", desc := "()I" } : Jvm.MethodName) prog_1_method_27_code (3 : Nat) (Option.some Jvm.ClassFile.FieldType.int)) ∈ TB := tb_4 86 (by decide +kernel) rfl
theorem wt_807 : (Jvm.Cond.classLink "ThrownCoinsLaw" (10 : Nat) "ThrownCoinsModel") ∈ TB := tb_4 87 (by decide +kernel) rfl
theorem wt_808 : (Jvm.Cond.instantiable "ThrownCoinsModel" (28 : Nat)) ∈ TB := tb_4 88 (by decide +kernel) rfl
theorem wt_809 : (Jvm.Cond.methodLink "ThrownCoinsLaw" (12 : Nat) ({ cls := "ThrownCoinsModel", name := "<init>", desc := "()V" } : Jvm.MethodName)) ∈ TB := tb_4 89 (by decide +kernel) rfl
theorem wt_810 : (Jvm.Cond.instanceMethod ({ cls := "ThrownCoinsModel", name := "<init>", desc := "()V" } : Jvm.MethodName)) ∈ TB := tb_4 90 (by decide +kernel) rfl
theorem wt_811 : (Jvm.Cond.code ({ cls := "ThrownCoinsModel", name := "<init>", desc := "()V" } : Jvm.MethodName) prog_14_method_1_code (1 : Nat) (Option.none : Option Jvm.ClassFile.FieldType)) ∈ TB := tb_4 91 (by decide +kernel) rfl
theorem wt_812 : (Jvm.Cond.methodLink "ThrownCoinsModel" (1 : Nat) ({ cls := "java/lang/Object", name := "<init>", desc := "()V" } : Jvm.MethodName)) ∈ TB := tb_4 92 (by decide +kernel) rfl
theorem wt_813 : (Jvm.Cond.fieldLink "ThrownCoinsModel" (7 : Nat) "ThrownCoinsModel" "row" "[I") ∈ TB := tb_4 93 (by decide +kernel) rfl
theorem wt_814 : (Jvm.Cond.fieldLink "ThrownCoinsModel" (13 : Nat) "ThrownCoinsModel" "isKept" "[Z") ∈ TB := tb_4 94 (by decide +kernel) rfl
theorem wt_815 : (Jvm.Cond.fieldLink "ThrownCoinsModel" (17 : Nat) "ThrownCoinsModel" "text" "[I") ∈ TB := tb_4 95 (by decide +kernel) rfl
theorem wt_816 : (Jvm.Cond.fieldLink "ThrownCoinsModel" (66 : Nat) "ThrownCoinsModel" "length" "I") ∈ TB := tb_4 96 (by decide +kernel) rfl
theorem wt_817 : (Jvm.Cond.fieldLink "ThrownCoinsModel" (20 : Nat) "ThrownCoinsModel" "read" "[I") ∈ TB := tb_4 97 (by decide +kernel) rfl
theorem wt_818 : (Jvm.Cond.fieldLink "ThrownCoinsModel" (118 : Nat) "ThrownCoinsModel" "readMany" "I") ∈ TB := tb_4 98 (by decide +kernel) rfl
theorem wt_819 : (Jvm.Cond.fieldLink "ThrownCoinsModel" (23 : Nat) "ThrownCoinsModel" "kinds" "I") ∈ TB := tb_4 99 (by decide +kernel) rfl
theorem wt_820 : (Jvm.Cond.fieldLink "ThrownCoinsModel" (27 : Nat) "ThrownCoinsModel" "worths" "[I") ∈ TB := tb_4 100 (by decide +kernel) rfl
theorem wt_821 : (Jvm.Cond.fieldLink "ThrownCoinsModel" (30 : Nat) "ThrownCoinsModel" "told" "[I") ∈ TB := tb_4 101 (by decide +kernel) rfl
theorem wt_822 : (Jvm.Cond.fieldLink "ThrownCoinsModel" (33 : Nat) "ThrownCoinsModel" "habits" "[I") ∈ TB := tb_4 102 (by decide +kernel) rfl
theorem wt_823 : (Jvm.Cond.fieldLink "ThrownCoinsModel" (36 : Nat) "ThrownCoinsModel" "bounds" "[I") ∈ TB := tb_4 103 (by decide +kernel) rfl
theorem wt_824 : (Jvm.Cond.fieldLink "ThrownCoinsModel" (160 : Nat) "ThrownCoinsModel" "law" "I") ∈ TB := tb_4 104 (by decide +kernel) rfl
theorem wt_825 : (Jvm.Cond.fieldLink "ThrownCoinsModel" (39 : Nat) "ThrownCoinsModel" "visits" "[I") ∈ TB := tb_4 105 (by decide +kernel) rfl
theorem wt_826 : (Jvm.Cond.fieldLink "ThrownCoinsModel" (147 : Nat) "ThrownCoinsModel" "visitMany" "I") ∈ TB := tb_4 106 (by decide +kernel) rfl
theorem wt_827 : (Jvm.Cond.fieldLink "ThrownCoinsModel" (71 : Nat) "ThrownCoinsModel" "at" "I") ∈ TB := tb_4 107 (by decide +kernel) rfl
theorem wt_828 : (Jvm.Cond.fieldLink "ThrownCoinsModel" (74 : Nat) "ThrownCoinsModel" "place" "I") ∈ TB := tb_4 108 (by decide +kernel) rfl
theorem wt_829 : (Jvm.Cond.fieldLink "ThrownCoinsModel" (81 : Nat) "ThrownCoinsModel" "end" "I") ∈ TB := tb_4 109 (by decide +kernel) rfl
theorem wt_830 : (Jvm.Cond.fieldLink "ThrownCoinsModel" (134 : Nat) "ThrownCoinsModel" "readKinds" "I") ∈ TB := tb_4 110 (by decide +kernel) rfl
theorem wt_831 : (Jvm.Cond.fieldLink "ThrownCoinsModel" (128 : Nat) "ThrownCoinsModel" "readVisits" "I") ∈ TB := tb_4 111 (by decide +kernel) rfl
theorem wt_832 : (Jvm.Cond.fieldLink "ThrownCoinsModel" (42 : Nat) "ThrownCoinsModel" "takes" "[I") ∈ TB := tb_4 112 (by decide +kernel) rfl
theorem wt_833 : (Jvm.Cond.fieldLink "ThrownCoinsModel" (228 : Nat) "ThrownCoinsModel" "most" "I") ∈ TB := tb_4 113 (by decide +kernel) rfl
theorem wt_834 : (Jvm.Cond.fieldLink "ThrownCoinsModel" (231 : Nat) "ThrownCoinsModel" "bestRow" "I") ∈ TB := tb_4 114 (by decide +kernel) rfl
theorem wt_835 : (Jvm.Cond.fieldLink "ThrownCoinsModel" (45 : Nat) "ThrownCoinsModel" "tries" "[I") ∈ TB := tb_4 115 (by decide +kernel) rfl
theorem wt_836 : (Jvm.Cond.fieldLink "ThrownCoinsModel" (48 : Nat) "ThrownCoinsModel" "ends" "[I") ∈ TB := tb_4 116 (by decide +kernel) rfl
theorem wt_837 : (Jvm.Cond.fieldLink "ThrownCoinsModel" (51 : Nat) "ThrownCoinsModel" "path" "[I") ∈ TB := tb_4 117 (by decide +kernel) rfl
theorem wt_838 : (Jvm.Cond.fieldLink "ThrownCoinsModel" (54 : Nat) "ThrownCoinsModel" "noteKinds" "[I") ∈ TB := tb_4 118 (by decide +kernel) rfl
theorem wt_839 : (Jvm.Cond.fieldLink "ThrownCoinsModel" (57 : Nat) "ThrownCoinsModel" "noteWorths" "[I") ∈ TB := tb_4 119 (by decide +kernel) rfl
theorem wt_840 : (Jvm.Cond.fieldLink "ThrownCoinsModel" (172 : Nat) "ThrownCoinsModel" "noteMany" "I") ∈ TB := tb_4 120 (by decide +kernel) rfl
theorem wt_841 : (Jvm.Cond.laysFinal "ThrownCoinsModel" "ThrownCoinsModel" "row" "[I") ∈ TB := tb_4 121 (by decide +kernel) rfl
theorem wt_843 : (Jvm.Cond.laysFinal "ThrownCoinsModel" "ThrownCoinsModel" "isKept" "[Z") ∈ TB := tb_4 123 (by decide +kernel) rfl
theorem wt_845 : (Jvm.Cond.laysFinal "ThrownCoinsModel" "ThrownCoinsModel" "text" "[I") ∈ TB := tb_4 125 (by decide +kernel) rfl
theorem wt_847 : (Jvm.Cond.lays "ThrownCoinsModel" "ThrownCoinsModel" "length" "I") ∈ TB := tb_4 127 (by decide +kernel) rfl
theorem wt_849 : (Jvm.Cond.laysFinal "ThrownCoinsModel" "ThrownCoinsModel" "read" "[I") ∈ TB := tb_4 129 (by decide +kernel) rfl
theorem wt_851 : (Jvm.Cond.lays "ThrownCoinsModel" "ThrownCoinsModel" "readMany" "I") ∈ TB := tb_4 131 (by decide +kernel) rfl
theorem wt_853 : (Jvm.Cond.lays "ThrownCoinsModel" "ThrownCoinsModel" "kinds" "I") ∈ TB := tb_4 133 (by decide +kernel) rfl
theorem wt_855 : (Jvm.Cond.laysFinal "ThrownCoinsModel" "ThrownCoinsModel" "worths" "[I") ∈ TB := tb_4 135 (by decide +kernel) rfl
theorem wt_857 : (Jvm.Cond.laysFinal "ThrownCoinsModel" "ThrownCoinsModel" "told" "[I") ∈ TB := tb_4 137 (by decide +kernel) rfl
theorem wt_859 : (Jvm.Cond.laysFinal "ThrownCoinsModel" "ThrownCoinsModel" "habits" "[I") ∈ TB := tb_4 139 (by decide +kernel) rfl
theorem wt_861 : (Jvm.Cond.laysFinal "ThrownCoinsModel" "ThrownCoinsModel" "bounds" "[I") ∈ TB := tb_4 141 (by decide +kernel) rfl
theorem wt_863 : (Jvm.Cond.lays "ThrownCoinsModel" "ThrownCoinsModel" "law" "I") ∈ TB := tb_4 143 (by decide +kernel) rfl
theorem wt_865 : (Jvm.Cond.laysFinal "ThrownCoinsModel" "ThrownCoinsModel" "visits" "[I") ∈ TB := tb_4 145 (by decide +kernel) rfl
theorem wt_867 : (Jvm.Cond.lays "ThrownCoinsModel" "ThrownCoinsModel" "visitMany" "I") ∈ TB := tb_4 147 (by decide +kernel) rfl
theorem wt_869 : (Jvm.Cond.lays "ThrownCoinsModel" "ThrownCoinsModel" "at" "I") ∈ TB := tb_4 149 (by decide +kernel) rfl
theorem wt_871 : (Jvm.Cond.lays "ThrownCoinsModel" "ThrownCoinsModel" "place" "I") ∈ TB := tb_4 151 (by decide +kernel) rfl
theorem wt_873 : (Jvm.Cond.lays "ThrownCoinsModel" "ThrownCoinsModel" "end" "I") ∈ TB := tb_4 153 (by decide +kernel) rfl
theorem wt_875 : (Jvm.Cond.lays "ThrownCoinsModel" "ThrownCoinsModel" "readKinds" "I") ∈ TB := tb_4 155 (by decide +kernel) rfl
theorem wt_877 : (Jvm.Cond.lays "ThrownCoinsModel" "ThrownCoinsModel" "readVisits" "I") ∈ TB := tb_4 157 (by decide +kernel) rfl
theorem wt_879 : (Jvm.Cond.laysFinal "ThrownCoinsModel" "ThrownCoinsModel" "takes" "[I") ∈ TB := tb_4 159 (by decide +kernel) rfl
theorem wt_881 : (Jvm.Cond.lays "ThrownCoinsModel" "ThrownCoinsModel" "most" "I") ∈ TB := tb_4 161 (by decide +kernel) rfl
theorem wt_883 : (Jvm.Cond.lays "ThrownCoinsModel" "ThrownCoinsModel" "bestRow" "I") ∈ TB := tb_4 163 (by decide +kernel) rfl
theorem wt_885 : (Jvm.Cond.laysFinal "ThrownCoinsModel" "ThrownCoinsModel" "tries" "[I") ∈ TB := tb_4 165 (by decide +kernel) rfl
theorem wt_887 : (Jvm.Cond.laysFinal "ThrownCoinsModel" "ThrownCoinsModel" "ends" "[I") ∈ TB := tb_4 167 (by decide +kernel) rfl
theorem wt_889 : (Jvm.Cond.laysFinal "ThrownCoinsModel" "ThrownCoinsModel" "path" "[I") ∈ TB := tb_4 169 (by decide +kernel) rfl
theorem wt_891 : (Jvm.Cond.laysFinal "ThrownCoinsModel" "ThrownCoinsModel" "noteKinds" "[I") ∈ TB := tb_4 171 (by decide +kernel) rfl
theorem wt_893 : (Jvm.Cond.laysFinal "ThrownCoinsModel" "ThrownCoinsModel" "noteWorths" "[I") ∈ TB := tb_4 173 (by decide +kernel) rfl
theorem wt_895 : (Jvm.Cond.lays "ThrownCoinsModel" "ThrownCoinsModel" "noteMany" "I") ∈ TB := tb_4 175 (by decide +kernel) rfl
theorem wt_898 : (Jvm.Cond.arrayClass Jvm.ClassFile.FieldType.boolean) ∈ TB := tb_4 178 (by decide +kernel) rfl
theorem wt_899 : (Jvm.Cond.methodLink "ThrownCoinsLaw" (19 : Nat) ({ cls := "ThrownCoinsModel", name := "write", desc := "(JI)I" } : Jvm.MethodName)) ∈ TB := tb_4 179 (by decide +kernel) rfl
theorem wt_900 : (Jvm.Cond.instanceMethod ({ cls := "ThrownCoinsModel", name := "write", desc := "(JI)I" } : Jvm.MethodName)) ∈ TB := tb_4 180 (by decide +kernel) rfl
theorem wt_901 : (Jvm.Cond.selects "ThrownCoinsModel" ({ cls := "ThrownCoinsModel", name := "write", desc := "(JI)I" } : Jvm.MethodName) ({ cls := "ThrownCoinsModel", name := "write", desc := "(JI)I" } : Jvm.MethodName)) ∈ TB := tb_4 181 (by decide +kernel) rfl
theorem wt_902 : (Jvm.Cond.code ({ cls := "ThrownCoinsModel", name := "write", desc := "(JI)I" } : Jvm.MethodName) prog_14_method_5_code (5 : Nat) (Option.some Jvm.ClassFile.FieldType.int)) ∈ TB := tb_4 182 (by decide +kernel) rfl
theorem wt_903 : (Jvm.Cond.constantLong "ThrownCoinsModel" (60 : Nat) (8 : Int64)) ∈ TB := tb_4 183 (by decide +kernel) rfl
theorem wt_904 : (Jvm.Cond.methodLink "ThrownCoinsModel" (62 : Nat) ({ cls := "ThrownCoinsModel", name := "in", desc := "(JJJ)Z" } : Jvm.MethodName)) ∈ TB := tb_4 184 (by decide +kernel) rfl
theorem wt_905 : (Jvm.Cond.static ({ cls := "ThrownCoinsModel", name := "in", desc := "(JJJ)Z" } : Jvm.MethodName)) ∈ TB := tb_4 185 (by decide +kernel) rfl
theorem wt_906 : (Jvm.Cond.code ({ cls := "ThrownCoinsModel", name := "in", desc := "(JJJ)Z" } : Jvm.MethodName) prog_14_method_2_code (6 : Nat) (Option.some Jvm.ClassFile.FieldType.boolean)) ∈ TB := tb_4 186 (by decide +kernel) rfl
theorem wt_907 : (Jvm.Cond.constantLong "ThrownCoinsModel" (69 : Nat) (255 : Int64)) ∈ TB := tb_4 187 (by decide +kernel) rfl
theorem wt_908 : (Jvm.Cond.methodLink "ThrownCoinsLaw" (24 : Nat) ({ cls := "ThrownCoinsModel", name := "erase", desc := "()I" } : Jvm.MethodName)) ∈ TB := tb_4 188 (by decide +kernel) rfl
theorem wt_909 : (Jvm.Cond.instanceMethod ({ cls := "ThrownCoinsModel", name := "erase", desc := "()I" } : Jvm.MethodName)) ∈ TB := tb_4 189 (by decide +kernel) rfl
theorem wt_910 : (Jvm.Cond.selects "ThrownCoinsModel" ({ cls := "ThrownCoinsModel", name := "erase", desc := "()I" } : Jvm.MethodName) ({ cls := "ThrownCoinsModel", name := "erase", desc := "()I" } : Jvm.MethodName)) ∈ TB := tb_4 190 (by decide +kernel) rfl
theorem wt_911 : (Jvm.Cond.code ({ cls := "ThrownCoinsModel", name := "erase", desc := "()I" } : Jvm.MethodName) prog_14_method_6_code (2 : Nat) (Option.some Jvm.ClassFile.FieldType.int)) ∈ TB := tb_4 191 (by decide +kernel) rfl
theorem wt_912 : (Jvm.Cond.methodLink "ThrownCoinsLaw" (28 : Nat) ({ cls := "ThrownCoinsModel", name := "fault", desc := "()I" } : Jvm.MethodName)) ∈ TB := tb_4 192 (by decide +kernel) rfl
theorem wt_913 : (Jvm.Cond.instanceMethod ({ cls := "ThrownCoinsModel", name := "fault", desc := "()I" } : Jvm.MethodName)) ∈ TB := tb_4 193 (by decide +kernel) rfl
theorem wt_914 : (Jvm.Cond.selects "ThrownCoinsModel" ({ cls := "ThrownCoinsModel", name := "fault", desc := "()I" } : Jvm.MethodName) ({ cls := "ThrownCoinsModel", name := "fault", desc := "()I" } : Jvm.MethodName)) ∈ TB := tb_4 194 (by decide +kernel) rfl
theorem wt_915 : (Jvm.Cond.code ({ cls := "ThrownCoinsModel", name := "fault", desc := "()I" } : Jvm.MethodName) prog_14_method_18_code (2 : Nat) (Option.some Jvm.ClassFile.FieldType.int)) ∈ TB := tb_4 195 (by decide +kernel) rfl
theorem wt_916 : (Jvm.Cond.methodLink "ThrownCoinsModel" (121 : Nat) ({ cls := "ThrownCoinsModel", name := "token", desc := "()V" } : Jvm.MethodName)) ∈ TB := tb_4 196 (by decide +kernel) rfl
theorem wt_918 : (Jvm.Cond.instanceMethod ({ cls := "ThrownCoinsModel", name := "token", desc := "()V" } : Jvm.MethodName)) ∈ TB := tb_4 198 (by decide +kernel) rfl
theorem wt_919 : (Jvm.Cond.code ({ cls := "ThrownCoinsModel", name := "token", desc := "()V" } : Jvm.MethodName) prog_14_method_8_code (1 : Nat) (Option.none : Option Jvm.ClassFile.FieldType)) ∈ TB := tb_4 199 (by decide +kernel) rfl
theorem wt_920 : (Jvm.Cond.methodLink "ThrownCoinsModel" (77 : Nat) ({ cls := "ThrownCoinsModel", name := "sort", desc := "(I)I" } : Jvm.MethodName)) ∈ TB := tb_4 200 (by decide +kernel) rfl
theorem wt_921 : (Jvm.Cond.static ({ cls := "ThrownCoinsModel", name := "sort", desc := "(I)I" } : Jvm.MethodName)) ∈ TB := tb_4 201 (by decide +kernel) rfl
theorem wt_922 : (Jvm.Cond.code ({ cls := "ThrownCoinsModel", name := "sort", desc := "(I)I" } : Jvm.MethodName) prog_14_method_7_code (1 : Nat) (Option.some Jvm.ClassFile.FieldType.int)) ∈ TB := tb_4 202 (by decide +kernel) rfl
theorem wt_923 : (Jvm.Cond.methodLink "ThrownCoinsModel" (150 : Nat) ({ cls := "ThrownCoinsModel", name := "readsLine", desc := "()Z" } : Jvm.MethodName)) ∈ TB := tb_4 203 (by decide +kernel) rfl
theorem wt_925 : (Jvm.Cond.instanceMethod ({ cls := "ThrownCoinsModel", name := "readsLine", desc := "()Z" } : Jvm.MethodName)) ∈ TB := tb_4 205 (by decide +kernel) rfl
theorem wt_926 : (Jvm.Cond.code ({ cls := "ThrownCoinsModel", name := "readsLine", desc := "()Z" } : Jvm.MethodName) prog_14_method_17_code (3 : Nat) (Option.some Jvm.ClassFile.FieldType.boolean)) ∈ TB := tb_4 206 (by decide +kernel) rfl
theorem wt_927 : (Jvm.Cond.methodLink "ThrownCoinsModel" (140 : Nat) ({ cls := "ThrownCoinsModel", name := "wordOf", desc := "()I" } : Jvm.MethodName)) ∈ TB := tb_4 207 (by decide +kernel) rfl
theorem wt_929 : (Jvm.Cond.instanceMethod ({ cls := "ThrownCoinsModel", name := "wordOf", desc := "()I" } : Jvm.MethodName)) ∈ TB := tb_4 209 (by decide +kernel) rfl
theorem wt_930 : (Jvm.Cond.code ({ cls := "ThrownCoinsModel", name := "wordOf", desc := "()I" } : Jvm.MethodName) prog_14_method_11_code (2 : Nat) (Option.some Jvm.ClassFile.FieldType.int)) ∈ TB := tb_4 210 (by decide +kernel) rfl
theorem wt_931 : (Jvm.Cond.methodLink "ThrownCoinsModel" (98 : Nat) ({ cls := "ThrownCoinsModel", name := "habitWord", desc := "()I" } : Jvm.MethodName)) ∈ TB := tb_4 211 (by decide +kernel) rfl
theorem wt_933 : (Jvm.Cond.instanceMethod ({ cls := "ThrownCoinsModel", name := "habitWord", desc := "()I" } : Jvm.MethodName)) ∈ TB := tb_4 213 (by decide +kernel) rfl
theorem wt_934 : (Jvm.Cond.code ({ cls := "ThrownCoinsModel", name := "habitWord", desc := "()I" } : Jvm.MethodName) prog_14_method_10_code (1 : Nat) (Option.some Jvm.ClassFile.FieldType.int)) ∈ TB := tb_4 214 (by decide +kernel) rfl
theorem wt_935 : (Jvm.Cond.constantLong "ThrownCoinsModel" (86 : Nat) (19060910 : Int64)) ∈ TB := tb_4 215 (by decide +kernel) rfl
theorem wt_936 : (Jvm.Cond.methodLink "ThrownCoinsModel" (88 : Nat) ({ cls := "ThrownCoinsModel", name := "isWord", desc := "(JI)Z" } : Jvm.MethodName)) ∈ TB := tb_4 216 (by decide +kernel) rfl
theorem wt_938 : (Jvm.Cond.instanceMethod ({ cls := "ThrownCoinsModel", name := "isWord", desc := "(JI)Z" } : Jvm.MethodName)) ∈ TB := tb_4 218 (by decide +kernel) rfl
theorem wt_939 : (Jvm.Cond.code ({ cls := "ThrownCoinsModel", name := "isWord", desc := "(JI)Z" } : Jvm.MethodName) prog_14_method_9_code (6 : Nat) (Option.some Jvm.ClassFile.FieldType.boolean)) ∈ TB := tb_4 219 (by decide +kernel) rfl
theorem wt_940 : (Jvm.Cond.constantLong "ThrownCoinsModel" (84 : Nat) (31 : Int64)) ∈ TB := tb_4 220 (by decide +kernel) rfl
theorem wt_941 : (Jvm.Cond.constantLong "ThrownCoinsModel" (92 : Nat) (843224647 : Int64)) ∈ TB := tb_4 221 (by decide +kernel) rfl
theorem wt_942 : (Jvm.Cond.constantLong "ThrownCoinsModel" (94 : Nat) (7996056631 : Int64)) ∈ TB := tb_4 222 (by decide +kernel) rfl
theorem wt_943 : (Jvm.Cond.constantLong "ThrownCoinsModel" (96 : Nat) (16815363 : Int64)) ∈ TB := tb_4 223 (by decide +kernel) rfl
theorem wt_944 : (Jvm.Cond.constantLong "ThrownCoinsModel" (102 : Nat) (20391395 : Int64)) ∈ TB := tb_4 224 (by decide +kernel) rfl
theorem wt_945 : (Jvm.Cond.constantLong "ThrownCoinsModel" (104 : Nat) (628012 : Int64)) ∈ TB := tb_4 225 (by decide +kernel) rfl
theorem wt_946 : (Jvm.Cond.constantLong "ThrownCoinsModel" (106 : Nat) (5884592 : Int64)) ∈ TB := tb_4 226 (by decide +kernel) rfl
theorem wt_947 : (Jvm.Cond.constantLong "ThrownCoinsModel" (108 : Nat) (177635 : Int64)) ∈ TB := tb_4 227 (by decide +kernel) rfl
theorem wt_948 : (Jvm.Cond.constantLong "ThrownCoinsModel" (110 : Nat) (23596 : Int64)) ∈ TB := tb_4 228 (by decide +kernel) rfl
theorem wt_949 : (Jvm.Cond.constantLong "ThrownCoinsModel" (112 : Nat) (5717377 : Int64)) ∈ TB := tb_4 229 (by decide +kernel) rfl
theorem wt_950 : (Jvm.Cond.methodLink "ThrownCoinsModel" (143 : Nat) ({ cls := "ThrownCoinsModel", name := "readsRest", desc := "(I)Z" } : Jvm.MethodName)) ∈ TB := tb_4 230 (by decide +kernel) rfl
theorem wt_952 : (Jvm.Cond.instanceMethod ({ cls := "ThrownCoinsModel", name := "readsRest", desc := "(I)Z" } : Jvm.MethodName)) ∈ TB := tb_4 232 (by decide +kernel) rfl
theorem wt_953 : (Jvm.Cond.code ({ cls := "ThrownCoinsModel", name := "readsRest", desc := "(I)Z" } : Jvm.MethodName) prog_14_method_16_code (2 : Nat) (Option.some Jvm.ClassFile.FieldType.boolean)) ∈ TB := tb_4 233 (by decide +kernel) rfl
theorem wt_954 : (Jvm.Cond.methodLink "ThrownCoinsModel" (131 : Nat) ({ cls := "ThrownCoinsModel", name := "readsCoins", desc := "()Z" } : Jvm.MethodName)) ∈ TB := tb_4 234 (by decide +kernel) rfl
theorem wt_956 : (Jvm.Cond.instanceMethod ({ cls := "ThrownCoinsModel", name := "readsCoins", desc := "()Z" } : Jvm.MethodName)) ∈ TB := tb_4 236 (by decide +kernel) rfl
theorem wt_957 : (Jvm.Cond.code ({ cls := "ThrownCoinsModel", name := "readsCoins", desc := "()Z" } : Jvm.MethodName) prog_14_method_14_code (3 : Nat) (Option.some Jvm.ClassFile.FieldType.boolean)) ∈ TB := tb_4 237 (by decide +kernel) rfl
theorem wt_958 : (Jvm.Cond.methodLink "ThrownCoinsModel" (114 : Nat) ({ cls := "ThrownCoinsModel", name := "isNumber", desc := "()Z" } : Jvm.MethodName)) ∈ TB := tb_4 238 (by decide +kernel) rfl
theorem wt_960 : (Jvm.Cond.instanceMethod ({ cls := "ThrownCoinsModel", name := "isNumber", desc := "()Z" } : Jvm.MethodName)) ∈ TB := tb_5 0 (by decide +kernel) rfl
theorem wt_961 : (Jvm.Cond.code ({ cls := "ThrownCoinsModel", name := "isNumber", desc := "()Z" } : Jvm.MethodName) prog_14_method_12_code (1 : Nat) (Option.some Jvm.ClassFile.FieldType.boolean)) ∈ TB := tb_5 1 (by decide +kernel) rfl
theorem wt_962 : (Jvm.Cond.methodLink "ThrownCoinsModel" (124 : Nat) ({ cls := "ThrownCoinsModel", name := "reads", desc := "(II)Z" } : Jvm.MethodName)) ∈ TB := tb_5 2 (by decide +kernel) rfl
theorem wt_964 : (Jvm.Cond.instanceMethod ({ cls := "ThrownCoinsModel", name := "reads", desc := "(II)Z" } : Jvm.MethodName)) ∈ TB := tb_5 4 (by decide +kernel) rfl
theorem wt_965 : (Jvm.Cond.code ({ cls := "ThrownCoinsModel", name := "reads", desc := "(II)Z" } : Jvm.MethodName) prog_14_method_13_code (5 : Nat) (Option.some Jvm.ClassFile.FieldType.boolean)) ∈ TB := tb_5 5 (by decide +kernel) rfl
theorem wt_966 : (Jvm.Cond.methodLink "ThrownCoinsModel" (137 : Nat) ({ cls := "ThrownCoinsModel", name := "readsCome", desc := "()Z" } : Jvm.MethodName)) ∈ TB := tb_5 6 (by decide +kernel) rfl
theorem wt_968 : (Jvm.Cond.instanceMethod ({ cls := "ThrownCoinsModel", name := "readsCome", desc := "()Z" } : Jvm.MethodName)) ∈ TB := tb_5 8 (by decide +kernel) rfl
theorem wt_969 : (Jvm.Cond.code ({ cls := "ThrownCoinsModel", name := "readsCome", desc := "()Z" } : Jvm.MethodName) prog_14_method_15_code (2 : Nat) (Option.some Jvm.ClassFile.FieldType.boolean)) ∈ TB := tb_5 9 (by decide +kernel) rfl
theorem wt_970 : (Jvm.Cond.methodLink "ThrownCoinsLaw" (32 : Nat) ({ cls := "ThrownCoinsModel", name := "sunday", desc := "()I" } : Jvm.MethodName)) ∈ TB := tb_5 10 (by decide +kernel) rfl
theorem wt_971 : (Jvm.Cond.instanceMethod ({ cls := "ThrownCoinsModel", name := "sunday", desc := "()I" } : Jvm.MethodName)) ∈ TB := tb_5 11 (by decide +kernel) rfl
theorem wt_972 : (Jvm.Cond.selects "ThrownCoinsModel" ({ cls := "ThrownCoinsModel", name := "sunday", desc := "()I" } : Jvm.MethodName) ({ cls := "ThrownCoinsModel", name := "sunday", desc := "()I" } : Jvm.MethodName)) ∈ TB := tb_5 12 (by decide +kernel) rfl
theorem wt_973 : (Jvm.Cond.code ({ cls := "ThrownCoinsModel", name := "sunday", desc := "()I" } : Jvm.MethodName) prog_14_method_22_code (2 : Nat) (Option.some Jvm.ClassFile.FieldType.int)) ∈ TB := tb_5 13 (by decide +kernel) rfl
theorem wt_974 : (Jvm.Cond.methodLink "ThrownCoinsModel" (163 : Nat) ({ cls := "ThrownCoinsModel", name := "fault", desc := "()I" } : Jvm.MethodName)) ∈ TB := tb_5 14 (by decide +kernel) rfl
theorem wt_975 : (Jvm.Cond.methodLink "ThrownCoinsModel" (166 : Nat) ({ cls := "ThrownCoinsModel", name := "tell", desc := "(I)V" } : Jvm.MethodName)) ∈ TB := tb_5 15 (by decide +kernel) rfl
theorem wt_977 : (Jvm.Cond.instanceMethod ({ cls := "ThrownCoinsModel", name := "tell", desc := "(I)V" } : Jvm.MethodName)) ∈ TB := tb_5 17 (by decide +kernel) rfl
theorem wt_978 : (Jvm.Cond.code ({ cls := "ThrownCoinsModel", name := "tell", desc := "(I)V" } : Jvm.MethodName) prog_14_method_21_code (3 : Nat) (Option.none : Option Jvm.ClassFile.FieldType)) ∈ TB := tb_5 18 (by decide +kernel) rfl
theorem wt_979 : (Jvm.Cond.methodLink "ThrownCoinsModel" (153 : Nat) ({ cls := "ThrownCoinsModel", name := "tellCoins", desc := "(I)V" } : Jvm.MethodName)) ∈ TB := tb_5 19 (by decide +kernel) rfl
theorem wt_981 : (Jvm.Cond.instanceMethod ({ cls := "ThrownCoinsModel", name := "tellCoins", desc := "(I)V" } : Jvm.MethodName)) ∈ TB := tb_5 21 (by decide +kernel) rfl
theorem wt_982 : (Jvm.Cond.code ({ cls := "ThrownCoinsModel", name := "tellCoins", desc := "(I)V" } : Jvm.MethodName) prog_14_method_19_code (3 : Nat) (Option.none : Option Jvm.ClassFile.FieldType)) ∈ TB := tb_5 22 (by decide +kernel) rfl
theorem wt_983 : (Jvm.Cond.methodLink "ThrownCoinsModel" (157 : Nat) ({ cls := "ThrownCoinsModel", name := "tellCome", desc := "(I)V" } : Jvm.MethodName)) ∈ TB := tb_5 23 (by decide +kernel) rfl
theorem wt_985 : (Jvm.Cond.instanceMethod ({ cls := "ThrownCoinsModel", name := "tellCome", desc := "(I)V" } : Jvm.MethodName)) ∈ TB := tb_5 25 (by decide +kernel) rfl
theorem wt_986 : (Jvm.Cond.code ({ cls := "ThrownCoinsModel", name := "tellCome", desc := "(I)V" } : Jvm.MethodName) prog_14_method_20_code (3 : Nat) (Option.none : Option Jvm.ClassFile.FieldType)) ∈ TB := tb_5 26 (by decide +kernel) rfl
theorem wt_987 : (Jvm.Cond.methodLink "ThrownCoinsModel" (169 : Nat) ({ cls := "ThrownCoinsModel", name := "begin", desc := "()V" } : Jvm.MethodName)) ∈ TB := tb_5 27 (by decide +kernel) rfl
theorem wt_989 : (Jvm.Cond.instanceMethod ({ cls := "ThrownCoinsModel", name := "begin", desc := "()V" } : Jvm.MethodName)) ∈ TB := tb_5 29 (by decide +kernel) rfl
theorem wt_990 : (Jvm.Cond.code ({ cls := "ThrownCoinsModel", name := "begin", desc := "()V" } : Jvm.MethodName) prog_14_method_4_code (2 : Nat) (Option.none : Option Jvm.ClassFile.FieldType)) ∈ TB := tb_5 30 (by decide +kernel) rfl
theorem wt_991 : (Jvm.Cond.methodLink "ThrownCoinsLaw" (37 : Nat) ({ cls := "ThrownCoinsModel", name := "coin", desc := "(II)I" } : Jvm.MethodName)) ∈ TB := tb_5 31 (by decide +kernel) rfl
theorem wt_992 : (Jvm.Cond.instanceMethod ({ cls := "ThrownCoinsModel", name := "coin", desc := "(II)I" } : Jvm.MethodName)) ∈ TB := tb_5 32 (by decide +kernel) rfl
theorem wt_993 : (Jvm.Cond.selects "ThrownCoinsModel" ({ cls := "ThrownCoinsModel", name := "coin", desc := "(II)I" } : Jvm.MethodName) ({ cls := "ThrownCoinsModel", name := "coin", desc := "(II)I" } : Jvm.MethodName)) ∈ TB := tb_5 33 (by decide +kernel) rfl
theorem wt_994 : (Jvm.Cond.code ({ cls := "ThrownCoinsModel", name := "coin", desc := "(II)I" } : Jvm.MethodName) prog_14_method_25_code (3 : Nat) (Option.some Jvm.ClassFile.FieldType.int)) ∈ TB := tb_5 34 (by decide +kernel) rfl
theorem wt_995 : (Jvm.Cond.methodLink "ThrownCoinsModel" (177 : Nat) ({ cls := "ThrownCoinsModel", name := "isKind", desc := "(I)Z" } : Jvm.MethodName)) ∈ TB := tb_5 35 (by decide +kernel) rfl
theorem wt_997 : (Jvm.Cond.instanceMethod ({ cls := "ThrownCoinsModel", name := "isKind", desc := "(I)Z" } : Jvm.MethodName)) ∈ TB := tb_5 37 (by decide +kernel) rfl
theorem wt_998 : (Jvm.Cond.code ({ cls := "ThrownCoinsModel", name := "isKind", desc := "(I)Z" } : Jvm.MethodName) prog_14_method_23_code (2 : Nat) (Option.some Jvm.ClassFile.FieldType.boolean)) ∈ TB := tb_5 38 (by decide +kernel) rfl
theorem wt_999 : (Jvm.Cond.methodLink "ThrownCoinsLaw" (41 : Nat) ({ cls := "ThrownCoinsModel", name := "purse", desc := "(II)I" } : Jvm.MethodName)) ∈ TB := tb_5 39 (by decide +kernel) rfl
theorem wt_1000 : (Jvm.Cond.instanceMethod ({ cls := "ThrownCoinsModel", name := "purse", desc := "(II)I" } : Jvm.MethodName)) ∈ TB := tb_5 40 (by decide +kernel) rfl
theorem wt_1001 : (Jvm.Cond.selects "ThrownCoinsModel" ({ cls := "ThrownCoinsModel", name := "purse", desc := "(II)I" } : Jvm.MethodName) ({ cls := "ThrownCoinsModel", name := "purse", desc := "(II)I" } : Jvm.MethodName)) ∈ TB := tb_5 41 (by decide +kernel) rfl
theorem wt_1002 : (Jvm.Cond.code ({ cls := "ThrownCoinsModel", name := "purse", desc := "(II)I" } : Jvm.MethodName) prog_14_method_26_code (3 : Nat) (Option.some Jvm.ClassFile.FieldType.int)) ∈ TB := tb_5 42 (by decide +kernel) rfl
theorem wt_1003 : (Jvm.Cond.methodLink "ThrownCoinsModel" (180 : Nat) ({ cls := "ThrownCoinsModel", name := "isPerson", desc := "(I)Z" } : Jvm.MethodName)) ∈ TB := tb_5 43 (by decide +kernel) rfl
theorem wt_1004 : (Jvm.Cond.static ({ cls := "ThrownCoinsModel", name := "isPerson", desc := "(I)Z" } : Jvm.MethodName)) ∈ TB := tb_5 44 (by decide +kernel) rfl
theorem wt_1005 : (Jvm.Cond.code ({ cls := "ThrownCoinsModel", name := "isPerson", desc := "(I)Z" } : Jvm.MethodName) prog_14_method_24_code (1 : Nat) (Option.some Jvm.ClassFile.FieldType.boolean)) ∈ TB := tb_5 45 (by decide +kernel) rfl
theorem wt_1006 : (Jvm.Cond.constantLong "ThrownCoinsModel" (175 : Nat) (3 : Int64)) ∈ TB := tb_5 46 (by decide +kernel) rfl
theorem wt_1007 : (Jvm.Cond.methodLink "ThrownCoinsLaw" (45 : Nat) ({ cls := "ThrownCoinsModel", name := "person", desc := "(II)I" } : Jvm.MethodName)) ∈ TB := tb_5 47 (by decide +kernel) rfl
theorem wt_1008 : (Jvm.Cond.instanceMethod ({ cls := "ThrownCoinsModel", name := "person", desc := "(II)I" } : Jvm.MethodName)) ∈ TB := tb_5 48 (by decide +kernel) rfl
theorem wt_1009 : (Jvm.Cond.selects "ThrownCoinsModel" ({ cls := "ThrownCoinsModel", name := "person", desc := "(II)I" } : Jvm.MethodName) ({ cls := "ThrownCoinsModel", name := "person", desc := "(II)I" } : Jvm.MethodName)) ∈ TB := tb_5 49 (by decide +kernel) rfl
theorem wt_1010 : (Jvm.Cond.code ({ cls := "ThrownCoinsModel", name := "person", desc := "(II)I" } : Jvm.MethodName) prog_14_method_30_code (3 : Nat) (Option.some Jvm.ClassFile.FieldType.int)) ∈ TB := tb_5 50 (by decide +kernel) rfl
theorem wt_1011 : (Jvm.Cond.methodLink "ThrownCoinsModel" (186 : Nat) ({ cls := "ThrownCoinsModel", name := "worthOf", desc := "(II)I" } : Jvm.MethodName)) ∈ TB := tb_5 51 (by decide +kernel) rfl
theorem wt_1013 : (Jvm.Cond.instanceMethod ({ cls := "ThrownCoinsModel", name := "worthOf", desc := "(II)I" } : Jvm.MethodName)) ∈ TB := tb_5 53 (by decide +kernel) rfl
theorem wt_1014 : (Jvm.Cond.code ({ cls := "ThrownCoinsModel", name := "worthOf", desc := "(II)I" } : Jvm.MethodName) prog_14_method_27_code (5 : Nat) (Option.some Jvm.ClassFile.FieldType.int)) ∈ TB := tb_5 54 (by decide +kernel) rfl
theorem wt_1015 : (Jvm.Cond.methodLink "ThrownCoinsModel" (190 : Nat) ({ cls := "ThrownCoinsModel", name := "leftOf", desc := "(I)I" } : Jvm.MethodName)) ∈ TB := tb_5 55 (by decide +kernel) rfl
theorem wt_1017 : (Jvm.Cond.instanceMethod ({ cls := "ThrownCoinsModel", name := "leftOf", desc := "(I)I" } : Jvm.MethodName)) ∈ TB := tb_5 57 (by decide +kernel) rfl
theorem wt_1018 : (Jvm.Cond.code ({ cls := "ThrownCoinsModel", name := "leftOf", desc := "(I)I" } : Jvm.MethodName) prog_14_method_29_code (4 : Nat) (Option.some Jvm.ClassFile.FieldType.int)) ∈ TB := tb_5 58 (by decide +kernel) rfl
theorem wt_1019 : (Jvm.Cond.methodLink "ThrownCoinsModel" (183 : Nat) ({ cls := "ThrownCoinsModel", name := "has", desc := "(II)Z" } : Jvm.MethodName)) ∈ TB := tb_5 59 (by decide +kernel) rfl
theorem wt_1020 : (Jvm.Cond.static ({ cls := "ThrownCoinsModel", name := "has", desc := "(II)Z" } : Jvm.MethodName)) ∈ TB := tb_5 60 (by decide +kernel) rfl
theorem wt_1021 : (Jvm.Cond.code ({ cls := "ThrownCoinsModel", name := "has", desc := "(II)Z" } : Jvm.MethodName) prog_14_method_3_code (2 : Nat) (Option.some Jvm.ClassFile.FieldType.boolean)) ∈ TB := tb_5 61 (by decide +kernel) rfl
theorem wt_1022 : (Jvm.Cond.methodLink "ThrownCoinsLaw" (49 : Nat) ({ cls := "ThrownCoinsModel", name := "as", desc := "(II)I" } : Jvm.MethodName)) ∈ TB := tb_5 62 (by decide +kernel) rfl
theorem wt_1023 : (Jvm.Cond.instanceMethod ({ cls := "ThrownCoinsModel", name := "as", desc := "(II)I" } : Jvm.MethodName)) ∈ TB := tb_5 63 (by decide +kernel) rfl
theorem wt_1024 : (Jvm.Cond.selects "ThrownCoinsModel" ({ cls := "ThrownCoinsModel", name := "as", desc := "(II)I" } : Jvm.MethodName) ({ cls := "ThrownCoinsModel", name := "as", desc := "(II)I" } : Jvm.MethodName)) ∈ TB := tb_5 64 (by decide +kernel) rfl
theorem wt_1025 : (Jvm.Cond.code ({ cls := "ThrownCoinsModel", name := "as", desc := "(II)I" } : Jvm.MethodName) prog_14_method_37_code (5 : Nat) (Option.some Jvm.ClassFile.FieldType.int)) ∈ TB := tb_5 65 (by decide +kernel) rfl
theorem wt_1026 : (Jvm.Cond.constantLong "ThrownCoinsModel" (210 : Nat) (5 : Int64)) ∈ TB := tb_5 66 (by decide +kernel) rfl
theorem wt_1027 : (Jvm.Cond.methodLink "ThrownCoinsModel" (203 : Nat) ({ cls := "ThrownCoinsModel", name := "byHabit", desc := "(II)I" } : Jvm.MethodName)) ∈ TB := tb_5 67 (by decide +kernel) rfl
theorem wt_1029 : (Jvm.Cond.instanceMethod ({ cls := "ThrownCoinsModel", name := "byHabit", desc := "(II)I" } : Jvm.MethodName)) ∈ TB := tb_5 69 (by decide +kernel) rfl
theorem wt_1030 : (Jvm.Cond.code ({ cls := "ThrownCoinsModel", name := "byHabit", desc := "(II)I" } : Jvm.MethodName) prog_14_method_35_code (8 : Nat) (Option.some Jvm.ClassFile.FieldType.int)) ∈ TB := tb_5 70 (by decide +kernel) rfl
theorem wt_1031 : (Jvm.Cond.methodLink "ThrownCoinsModel" (196 : Nat) ({ cls := "ThrownCoinsModel", name := "isHad", desc := "(III)Z" } : Jvm.MethodName)) ∈ TB := tb_5 71 (by decide +kernel) rfl
theorem wt_1033 : (Jvm.Cond.instanceMethod ({ cls := "ThrownCoinsModel", name := "isHad", desc := "(III)Z" } : Jvm.MethodName)) ∈ TB := tb_5 73 (by decide +kernel) rfl
theorem wt_1034 : (Jvm.Cond.code ({ cls := "ThrownCoinsModel", name := "isHad", desc := "(III)Z" } : Jvm.MethodName) prog_14_method_33_code (4 : Nat) (Option.some Jvm.ClassFile.FieldType.boolean)) ∈ TB := tb_5 74 (by decide +kernel) rfl
theorem wt_1035 : (Jvm.Cond.methodLink "ThrownCoinsModel" (200 : Nat) ({ cls := "ThrownCoinsModel", name := "gainOf", desc := "(II)I" } : Jvm.MethodName)) ∈ TB := tb_5 75 (by decide +kernel) rfl
theorem wt_1037 : (Jvm.Cond.instanceMethod ({ cls := "ThrownCoinsModel", name := "gainOf", desc := "(II)I" } : Jvm.MethodName)) ∈ TB := tb_5 77 (by decide +kernel) rfl
theorem wt_1038 : (Jvm.Cond.code ({ cls := "ThrownCoinsModel", name := "gainOf", desc := "(II)I" } : Jvm.MethodName) prog_14_method_32_code (3 : Nat) (Option.some Jvm.ClassFile.FieldType.int)) ∈ TB := tb_5 78 (by decide +kernel) rfl
theorem wt_1039 : (Jvm.Cond.methodLink "ThrownCoinsModel" (193 : Nat) ({ cls := "ThrownCoinsModel", name := "layTakes", desc := "(II)I" } : Jvm.MethodName)) ∈ TB := tb_5 79 (by decide +kernel) rfl
theorem wt_1041 : (Jvm.Cond.instanceMethod ({ cls := "ThrownCoinsModel", name := "layTakes", desc := "(II)I" } : Jvm.MethodName)) ∈ TB := tb_5 81 (by decide +kernel) rfl
theorem wt_1042 : (Jvm.Cond.code ({ cls := "ThrownCoinsModel", name := "layTakes", desc := "(II)I" } : Jvm.MethodName) prog_14_method_31_code (7 : Nat) (Option.some Jvm.ClassFile.FieldType.int)) ∈ TB := tb_5 82 (by decide +kernel) rfl
theorem wt_1043 : (Jvm.Cond.methodLink "ThrownCoinsLaw" (54 : Nat) ({ cls := "ThrownCoinsModel", name := "come", desc := "(I)I" } : Jvm.MethodName)) ∈ TB := tb_5 83 (by decide +kernel) rfl
theorem wt_1044 : (Jvm.Cond.instanceMethod ({ cls := "ThrownCoinsModel", name := "come", desc := "(I)I" } : Jvm.MethodName)) ∈ TB := tb_5 84 (by decide +kernel) rfl
theorem wt_1045 : (Jvm.Cond.selects "ThrownCoinsModel" ({ cls := "ThrownCoinsModel", name := "come", desc := "(I)I" } : Jvm.MethodName) ({ cls := "ThrownCoinsModel", name := "come", desc := "(I)I" } : Jvm.MethodName)) ∈ TB := tb_5 85 (by decide +kernel) rfl
theorem wt_1046 : (Jvm.Cond.code ({ cls := "ThrownCoinsModel", name := "come", desc := "(I)I" } : Jvm.MethodName) prog_14_method_38_code (2 : Nat) (Option.some Jvm.ClassFile.FieldType.int)) ∈ TB := tb_5 86 (by decide +kernel) rfl
theorem wt_1047 : (Jvm.Cond.methodLink "ThrownCoinsLaw" (58 : Nat) ({ cls := "ThrownCoinsModel", name := "gain", desc := "(II)I" } : Jvm.MethodName)) ∈ TB := tb_5 87 (by decide +kernel) rfl
theorem wt_1048 : (Jvm.Cond.instanceMethod ({ cls := "ThrownCoinsModel", name := "gain", desc := "(II)I" } : Jvm.MethodName)) ∈ TB := tb_5 88 (by decide +kernel) rfl
theorem wt_1049 : (Jvm.Cond.selects "ThrownCoinsModel" ({ cls := "ThrownCoinsModel", name := "gain", desc := "(II)I" } : Jvm.MethodName) ({ cls := "ThrownCoinsModel", name := "gain", desc := "(II)I" } : Jvm.MethodName)) ∈ TB := tb_5 89 (by decide +kernel) rfl
theorem wt_1050 : (Jvm.Cond.code ({ cls := "ThrownCoinsModel", name := "gain", desc := "(II)I" } : Jvm.MethodName) prog_14_method_39_code (3 : Nat) (Option.some Jvm.ClassFile.FieldType.int)) ∈ TB := tb_5 90 (by decide +kernel) rfl
theorem wt_1051 : (Jvm.Cond.constant "ThrownCoinsModel" (212 : Nat) (100000 : Int32)) ∈ TB := tb_5 91 (by decide +kernel) rfl
theorem wt_1052 : (Jvm.Cond.methodLink "ThrownCoinsLaw" (62 : Nat) ({ cls := "ThrownCoinsModel", name := "visit", desc := "(I)I" } : Jvm.MethodName)) ∈ TB := tb_5 92 (by decide +kernel) rfl
theorem wt_1053 : (Jvm.Cond.instanceMethod ({ cls := "ThrownCoinsModel", name := "visit", desc := "(I)I" } : Jvm.MethodName)) ∈ TB := tb_5 93 (by decide +kernel) rfl
theorem wt_1054 : (Jvm.Cond.selects "ThrownCoinsModel" ({ cls := "ThrownCoinsModel", name := "visit", desc := "(I)I" } : Jvm.MethodName) ({ cls := "ThrownCoinsModel", name := "visit", desc := "(I)I" } : Jvm.MethodName)) ∈ TB := tb_5 94 (by decide +kernel) rfl
theorem wt_1055 : (Jvm.Cond.code ({ cls := "ThrownCoinsModel", name := "visit", desc := "(I)I" } : Jvm.MethodName) prog_14_method_40_code (4 : Nat) (Option.some Jvm.ClassFile.FieldType.int)) ∈ TB := tb_5 95 (by decide +kernel) rfl
theorem wt_1056 : (Jvm.Cond.methodLink "ThrownCoinsModel" (213 : Nat) ({ cls := "ThrownCoinsModel", name := "visitsLeft", desc := "()I" } : Jvm.MethodName)) ∈ TB := tb_5 96 (by decide +kernel) rfl
theorem wt_1058 : (Jvm.Cond.instanceMethod ({ cls := "ThrownCoinsModel", name := "visitsLeft", desc := "()I" } : Jvm.MethodName)) ∈ TB := tb_5 98 (by decide +kernel) rfl
theorem wt_1059 : (Jvm.Cond.code ({ cls := "ThrownCoinsModel", name := "visitsLeft", desc := "()I" } : Jvm.MethodName) prog_14_method_28_code (1 : Nat) (Option.some Jvm.ClassFile.FieldType.int)) ∈ TB := tb_5 99 (by decide +kernel) rfl
theorem wt_1060 : (Jvm.Cond.methodLink "ThrownCoinsModel" (206 : Nat) ({ cls := "ThrownCoinsModel", name := "throwsOne", desc := "(III)V" } : Jvm.MethodName)) ∈ TB := tb_5 100 (by decide +kernel) rfl
theorem wt_1062 : (Jvm.Cond.instanceMethod ({ cls := "ThrownCoinsModel", name := "throwsOne", desc := "(III)V" } : Jvm.MethodName)) ∈ TB := tb_5 102 (by decide +kernel) rfl
theorem wt_1063 : (Jvm.Cond.code ({ cls := "ThrownCoinsModel", name := "throwsOne", desc := "(III)V" } : Jvm.MethodName) prog_14_method_34_code (5 : Nat) (Option.none : Option Jvm.ClassFile.FieldType)) ∈ TB := tb_5 103 (by decide +kernel) rfl
theorem wt_1064 : (Jvm.Cond.methodLink "ThrownCoinsLaw" (66 : Nat) ({ cls := "ThrownCoinsModel", name := "go", desc := "(I)I" } : Jvm.MethodName)) ∈ TB := tb_5 104 (by decide +kernel) rfl
theorem wt_1065 : (Jvm.Cond.instanceMethod ({ cls := "ThrownCoinsModel", name := "go", desc := "(I)I" } : Jvm.MethodName)) ∈ TB := tb_5 105 (by decide +kernel) rfl
theorem wt_1066 : (Jvm.Cond.selects "ThrownCoinsModel" ({ cls := "ThrownCoinsModel", name := "go", desc := "(I)I" } : Jvm.MethodName) ({ cls := "ThrownCoinsModel", name := "go", desc := "(I)I" } : Jvm.MethodName)) ∈ TB := tb_5 106 (by decide +kernel) rfl
theorem wt_1067 : (Jvm.Cond.code ({ cls := "ThrownCoinsModel", name := "go", desc := "(I)I" } : Jvm.MethodName) prog_14_method_41_code (3 : Nat) (Option.some Jvm.ClassFile.FieldType.int)) ∈ TB := tb_5 107 (by decide +kernel) rfl
theorem wt_1068 : (Jvm.Cond.constantLong "ThrownCoinsModel" (216 : Nat) (24 : Int64)) ∈ TB := tb_5 108 (by decide +kernel) rfl
theorem wt_1069 : (Jvm.Cond.methodLink "ThrownCoinsModel" (218 : Nat) ({ cls := "ThrownCoinsModel", name := "visitsBy", desc := "(II)Z" } : Jvm.MethodName)) ∈ TB := tb_5 109 (by decide +kernel) rfl
theorem wt_1071 : (Jvm.Cond.instanceMethod ({ cls := "ThrownCoinsModel", name := "visitsBy", desc := "(II)Z" } : Jvm.MethodName)) ∈ TB := tb_5 111 (by decide +kernel) rfl
theorem wt_1072 : (Jvm.Cond.code ({ cls := "ThrownCoinsModel", name := "visitsBy", desc := "(II)Z" } : Jvm.MethodName) prog_14_method_36_code (4 : Nat) (Option.some Jvm.ClassFile.FieldType.boolean)) ∈ TB := tb_5 112 (by decide +kernel) rfl
theorem wt_1073 : (Jvm.Cond.methodLink "ThrownCoinsLaw" (70 : Nat) ({ cls := "ThrownCoinsModel", name := "plan", desc := "(II)I" } : Jvm.MethodName)) ∈ TB := tb_5 113 (by decide +kernel) rfl
theorem wt_1074 : (Jvm.Cond.instanceMethod ({ cls := "ThrownCoinsModel", name := "plan", desc := "(II)I" } : Jvm.MethodName)) ∈ TB := tb_5 114 (by decide +kernel) rfl
theorem wt_1075 : (Jvm.Cond.selects "ThrownCoinsModel" ({ cls := "ThrownCoinsModel", name := "plan", desc := "(II)I" } : Jvm.MethodName) ({ cls := "ThrownCoinsModel", name := "plan", desc := "(II)I" } : Jvm.MethodName)) ∈ TB := tb_5 115 (by decide +kernel) rfl
theorem wt_1076 : (Jvm.Cond.code ({ cls := "ThrownCoinsModel", name := "plan", desc := "(II)I" } : Jvm.MethodName) prog_14_method_46_code (4 : Nat) (Option.some Jvm.ClassFile.FieldType.int)) ∈ TB := tb_5 116 (by decide +kernel) rfl
theorem wt_1077 : (Jvm.Cond.methodLink "ThrownCoinsModel" (238 : Nat) ({ cls := "ThrownCoinsModel", name := "layPlan", desc := "(II)V" } : Jvm.MethodName)) ∈ TB := tb_5 117 (by decide +kernel) rfl
theorem wt_1079 : (Jvm.Cond.instanceMethod ({ cls := "ThrownCoinsModel", name := "layPlan", desc := "(II)V" } : Jvm.MethodName)) ∈ TB := tb_5 119 (by decide +kernel) rfl
theorem wt_1080 : (Jvm.Cond.code ({ cls := "ThrownCoinsModel", name := "layPlan", desc := "(II)V" } : Jvm.MethodName) prog_14_method_45_code (5 : Nat) (Option.none : Option Jvm.ClassFile.FieldType)) ∈ TB := tb_5 120 (by decide +kernel) rfl
theorem wt_1081 : (Jvm.Cond.methodLink "ThrownCoinsModel" (225 : Nat) ({ cls := "ThrownCoinsModel", name := "powerOf", desc := "(I)I" } : Jvm.MethodName)) ∈ TB := tb_5 121 (by decide +kernel) rfl
theorem wt_1082 : (Jvm.Cond.static ({ cls := "ThrownCoinsModel", name := "powerOf", desc := "(I)I" } : Jvm.MethodName)) ∈ TB := tb_5 122 (by decide +kernel) rfl
theorem wt_1083 : (Jvm.Cond.code ({ cls := "ThrownCoinsModel", name := "powerOf", desc := "(I)I" } : Jvm.MethodName) prog_14_method_43_code (3 : Nat) (Option.some Jvm.ClassFile.FieldType.int)) ∈ TB := tb_5 123 (by decide +kernel) rfl
theorem wt_1084 : (Jvm.Cond.methodLink "ThrownCoinsModel" (234 : Nat) ({ cls := "ThrownCoinsModel", name := "goRow", desc := "(III)I" } : Jvm.MethodName)) ∈ TB := tb_5 124 (by decide +kernel) rfl
theorem wt_1086 : (Jvm.Cond.instanceMethod ({ cls := "ThrownCoinsModel", name := "goRow", desc := "(III)I" } : Jvm.MethodName)) ∈ TB := tb_5 126 (by decide +kernel) rfl
theorem wt_1087 : (Jvm.Cond.code ({ cls := "ThrownCoinsModel", name := "goRow", desc := "(III)I" } : Jvm.MethodName) prog_14_method_44_code (9 : Nat) (Option.some Jvm.ClassFile.FieldType.int)) ∈ TB := tb_5 127 (by decide +kernel) rfl
theorem wt_1088 : (Jvm.Cond.methodLink "ThrownCoinsModel" (221 : Nat) ({ cls := "ThrownCoinsModel", name := "copy", desc := "(II)V" } : Jvm.MethodName)) ∈ TB := tb_5 128 (by decide +kernel) rfl
theorem wt_1090 : (Jvm.Cond.instanceMethod ({ cls := "ThrownCoinsModel", name := "copy", desc := "(II)V" } : Jvm.MethodName)) ∈ TB := tb_5 130 (by decide +kernel) rfl
theorem wt_1091 : (Jvm.Cond.code ({ cls := "ThrownCoinsModel", name := "copy", desc := "(II)V" } : Jvm.MethodName) prog_14_method_42_code (4 : Nat) (Option.none : Option Jvm.ClassFile.FieldType)) ∈ TB := tb_5 131 (by decide +kernel) rfl
theorem wt_1092 : (Jvm.Cond.methodLink "ThrownCoinsLaw" (82 : Nat) ({ cls := "ThrownCoinsModel", name := "league", desc := "(II)I" } : Jvm.MethodName)) ∈ TB := tb_5 132 (by decide +kernel) rfl
theorem wt_1093 : (Jvm.Cond.instanceMethod ({ cls := "ThrownCoinsModel", name := "league", desc := "(II)I" } : Jvm.MethodName)) ∈ TB := tb_5 133 (by decide +kernel) rfl
theorem wt_1094 : (Jvm.Cond.selects "ThrownCoinsModel" ({ cls := "ThrownCoinsModel", name := "league", desc := "(II)I" } : Jvm.MethodName) ({ cls := "ThrownCoinsModel", name := "league", desc := "(II)I" } : Jvm.MethodName)) ∈ TB := tb_5 134 (by decide +kernel) rfl
theorem wt_1095 : (Jvm.Cond.code ({ cls := "ThrownCoinsModel", name := "league", desc := "(II)I" } : Jvm.MethodName) prog_14_method_47_code (5 : Nat) (Option.some Jvm.ClassFile.FieldType.int)) ∈ TB := tb_5 135 (by decide +kernel) rfl
theorem wt_1096 : (Jvm.Cond.methodLink "ThrownCoinsLaw" (74 : Nat) ({ cls := "ThrownCoinsModel", name := "game", desc := "(I)I" } : Jvm.MethodName)) ∈ TB := tb_5 136 (by decide +kernel) rfl
theorem wt_1097 : (Jvm.Cond.instanceMethod ({ cls := "ThrownCoinsModel", name := "game", desc := "(I)I" } : Jvm.MethodName)) ∈ TB := tb_5 137 (by decide +kernel) rfl
theorem wt_1098 : (Jvm.Cond.selects "ThrownCoinsModel" ({ cls := "ThrownCoinsModel", name := "game", desc := "(I)I" } : Jvm.MethodName) ({ cls := "ThrownCoinsModel", name := "game", desc := "(I)I" } : Jvm.MethodName)) ∈ TB := tb_5 138 (by decide +kernel) rfl
theorem wt_1099 : (Jvm.Cond.code ({ cls := "ThrownCoinsModel", name := "game", desc := "(I)I" } : Jvm.MethodName) prog_14_method_51_code (2 : Nat) (Option.some Jvm.ClassFile.FieldType.int)) ∈ TB := tb_5 139 (by decide +kernel) rfl
theorem wt_1100 : (Jvm.Cond.methodLink "ThrownCoinsModel" (247 : Nat) ({ cls := "ThrownCoinsModel", name := "layGame", desc := "()V" } : Jvm.MethodName)) ∈ TB := tb_5 140 (by decide +kernel) rfl
theorem wt_1102 : (Jvm.Cond.instanceMethod ({ cls := "ThrownCoinsModel", name := "layGame", desc := "()V" } : Jvm.MethodName)) ∈ TB := tb_5 142 (by decide +kernel) rfl
theorem wt_1103 : (Jvm.Cond.code ({ cls := "ThrownCoinsModel", name := "layGame", desc := "()V" } : Jvm.MethodName) prog_14_method_50_code (5 : Nat) (Option.none : Option Jvm.ClassFile.FieldType)) ∈ TB := tb_5 143 (by decide +kernel) rfl
theorem wt_1104 : (Jvm.Cond.methodLink "ThrownCoinsModel" (241 : Nat) ({ cls := "ThrownCoinsModel", name := "opens", desc := "(II)Z" } : Jvm.MethodName)) ∈ TB := tb_5 144 (by decide +kernel) rfl
theorem wt_1106 : (Jvm.Cond.instanceMethod ({ cls := "ThrownCoinsModel", name := "opens", desc := "(II)Z" } : Jvm.MethodName)) ∈ TB := tb_5 146 (by decide +kernel) rfl
theorem wt_1107 : (Jvm.Cond.code ({ cls := "ThrownCoinsModel", name := "opens", desc := "(II)Z" } : Jvm.MethodName) prog_14_method_49_code (5 : Nat) (Option.some Jvm.ClassFile.FieldType.boolean)) ∈ TB := tb_5 147 (by decide +kernel) rfl
theorem wt_1108 : (Jvm.Cond.methodLink "ThrownCoinsModel" (244 : Nat) ({ cls := "ThrownCoinsModel", name := "takeUp", desc := "(II)V" } : Jvm.MethodName)) ∈ TB := tb_5 148 (by decide +kernel) rfl
theorem wt_1110 : (Jvm.Cond.instanceMethod ({ cls := "ThrownCoinsModel", name := "takeUp", desc := "(II)V" } : Jvm.MethodName)) ∈ TB := tb_5 150 (by decide +kernel) rfl
theorem wt_1111 : (Jvm.Cond.code ({ cls := "ThrownCoinsModel", name := "takeUp", desc := "(II)V" } : Jvm.MethodName) prog_14_method_48_code (4 : Nat) (Option.none : Option Jvm.ClassFile.FieldType)) ∈ TB := tb_5 151 (by decide +kernel) rfl
theorem wt_1112 : (Jvm.Cond.methodLink "ThrownCoinsLaw" (78 : Nat) ({ cls := "ThrownCoinsModel", name := "choice", desc := "(I)I" } : Jvm.MethodName)) ∈ TB := tb_5 152 (by decide +kernel) rfl
theorem wt_1113 : (Jvm.Cond.instanceMethod ({ cls := "ThrownCoinsModel", name := "choice", desc := "(I)I" } : Jvm.MethodName)) ∈ TB := tb_5 153 (by decide +kernel) rfl
theorem wt_1114 : (Jvm.Cond.selects "ThrownCoinsModel" ({ cls := "ThrownCoinsModel", name := "choice", desc := "(I)I" } : Jvm.MethodName) ({ cls := "ThrownCoinsModel", name := "choice", desc := "(I)I" } : Jvm.MethodName)) ∈ TB := tb_5 154 (by decide +kernel) rfl
theorem wt_1115 : (Jvm.Cond.code ({ cls := "ThrownCoinsModel", name := "choice", desc := "(I)I" } : Jvm.MethodName) prog_14_method_52_code (2 : Nat) (Option.some Jvm.ClassFile.FieldType.int)) ∈ TB := tb_5 155 (by decide +kernel) rfl
theorem wt_1116 : (Jvm.Cond.methodLink "ThrownCoinsLaw" (87 : Nat) ({ cls := "ThrownCoinsModel", name := "mean", desc := "(III)J" } : Jvm.MethodName)) ∈ TB := tb_5 156 (by decide +kernel) rfl
theorem wt_1117 : (Jvm.Cond.instanceMethod ({ cls := "ThrownCoinsModel", name := "mean", desc := "(III)J" } : Jvm.MethodName)) ∈ TB := tb_5 157 (by decide +kernel) rfl
theorem wt_1118 : (Jvm.Cond.selects "ThrownCoinsModel" ({ cls := "ThrownCoinsModel", name := "mean", desc := "(III)J" } : Jvm.MethodName) ({ cls := "ThrownCoinsModel", name := "mean", desc := "(III)J" } : Jvm.MethodName)) ∈ TB := tb_5 158 (by decide +kernel) rfl
theorem wt_1119 : (Jvm.Cond.code ({ cls := "ThrownCoinsModel", name := "mean", desc := "(III)J" } : Jvm.MethodName) prog_14_method_55_code (13 : Nat) (Option.some Jvm.ClassFile.FieldType.long)) ∈ TB := tb_5 159 (by decide +kernel) rfl
theorem wt_1120 : (Jvm.Cond.constantLong "ThrownCoinsModel" (250 : Nat) (-2 : Int64)) ∈ TB := tb_5 160 (by decide +kernel) rfl
theorem wt_1121 : (Jvm.Cond.constantLong "ThrownCoinsModel" (252 : Nat) (10 : Int64)) ∈ TB := tb_5 161 (by decide +kernel) rfl
theorem wt_1122 : (Jvm.Cond.constantLong "ThrownCoinsModel" (254 : Nat) (-3 : Int64)) ∈ TB := tb_5 162 (by decide +kernel) rfl
theorem wt_1123 : (Jvm.Cond.constantLong "ThrownCoinsModel" (256 : Nat) (-4 : Int64)) ∈ TB := tb_5 163 (by decide +kernel) rfl
theorem wt_1124 : (Jvm.Cond.methodLink "ThrownCoinsModel" (258 : Nat) ({ cls := "ThrownCoinsModel", name := "worthBy", desc := "(II)I" } : Jvm.MethodName)) ∈ TB := tb_5 164 (by decide +kernel) rfl
theorem wt_1126 : (Jvm.Cond.instanceMethod ({ cls := "ThrownCoinsModel", name := "worthBy", desc := "(II)I" } : Jvm.MethodName)) ∈ TB := tb_5 166 (by decide +kernel) rfl
theorem wt_1127 : (Jvm.Cond.code ({ cls := "ThrownCoinsModel", name := "worthBy", desc := "(II)I" } : Jvm.MethodName) prog_14_method_54_code (6 : Nat) (Option.some Jvm.ClassFile.FieldType.int)) ∈ TB := tb_5 167 (by decide +kernel) rfl
theorem wt_1128 : (Jvm.Cond.methodLink "ThrownCoinsModel" (261 : Nat) ({ cls := "ThrownCoinsModel", name := "divisor", desc := "(JJ)J" } : Jvm.MethodName)) ∈ TB := tb_5 168 (by decide +kernel) rfl
theorem wt_1129 : (Jvm.Cond.static ({ cls := "ThrownCoinsModel", name := "divisor", desc := "(JJ)J" } : Jvm.MethodName)) ∈ TB := tb_5 169 (by decide +kernel) rfl
theorem wt_1130 : (Jvm.Cond.code ({ cls := "ThrownCoinsModel", name := "divisor", desc := "(JJ)J" } : Jvm.MethodName) prog_14_method_53_code (10 : Nat) (Option.some Jvm.ClassFile.FieldType.long)) ∈ TB := tb_5 170 (by decide +kernel) rfl
theorem wt_1131 : (Jvm.Cond.methodLink "ThrownCoinsLaw" (91 : Nat) ({ cls := "ThrownCoinsModel", name := "dry", desc := "()I" } : Jvm.MethodName)) ∈ TB := tb_5 171 (by decide +kernel) rfl
theorem wt_1132 : (Jvm.Cond.instanceMethod ({ cls := "ThrownCoinsModel", name := "dry", desc := "()I" } : Jvm.MethodName)) ∈ TB := tb_5 172 (by decide +kernel) rfl
theorem wt_1133 : (Jvm.Cond.selects "ThrownCoinsModel" ({ cls := "ThrownCoinsModel", name := "dry", desc := "()I" } : Jvm.MethodName) ({ cls := "ThrownCoinsModel", name := "dry", desc := "()I" } : Jvm.MethodName)) ∈ TB := tb_5 173 (by decide +kernel) rfl
theorem wt_1134 : (Jvm.Cond.code ({ cls := "ThrownCoinsModel", name := "dry", desc := "()I" } : Jvm.MethodName) prog_14_method_56_code (3 : Nat) (Option.some Jvm.ClassFile.FieldType.int)) ∈ TB := tb_5 174 (by decide +kernel) rfl
theorem wt_1135 : (Jvm.Cond.methodLink "ThrownCoinsLaw" (95 : Nat) ({ cls := "ThrownCoinsModel", name := "bait", desc := "(I)I" } : Jvm.MethodName)) ∈ TB := tb_5 175 (by decide +kernel) rfl
theorem wt_1136 : (Jvm.Cond.instanceMethod ({ cls := "ThrownCoinsModel", name := "bait", desc := "(I)I" } : Jvm.MethodName)) ∈ TB := tb_5 176 (by decide +kernel) rfl
theorem wt_1137 : (Jvm.Cond.selects "ThrownCoinsModel" ({ cls := "ThrownCoinsModel", name := "bait", desc := "(I)I" } : Jvm.MethodName) ({ cls := "ThrownCoinsModel", name := "bait", desc := "(I)I" } : Jvm.MethodName)) ∈ TB := tb_5 177 (by decide +kernel) rfl
theorem wt_1138 : (Jvm.Cond.code ({ cls := "ThrownCoinsModel", name := "bait", desc := "(I)I" } : Jvm.MethodName) prog_14_method_57_code (9 : Nat) (Option.some Jvm.ClassFile.FieldType.int)) ∈ TB := tb_5 178 (by decide +kernel) rfl
theorem wt_1139 : (Jvm.Cond.methodLink "ThrownCoinsLaw" (99 : Nat) ({ cls := "ThrownCoinsModel", name := "note", desc := "(II)I" } : Jvm.MethodName)) ∈ TB := tb_5 179 (by decide +kernel) rfl
theorem wt_1140 : (Jvm.Cond.instanceMethod ({ cls := "ThrownCoinsModel", name := "note", desc := "(II)I" } : Jvm.MethodName)) ∈ TB := tb_5 180 (by decide +kernel) rfl
theorem wt_1141 : (Jvm.Cond.selects "ThrownCoinsModel" ({ cls := "ThrownCoinsModel", name := "note", desc := "(II)I" } : Jvm.MethodName) ({ cls := "ThrownCoinsModel", name := "note", desc := "(II)I" } : Jvm.MethodName)) ∈ TB := tb_5 181 (by decide +kernel) rfl
theorem wt_1142 : (Jvm.Cond.code ({ cls := "ThrownCoinsModel", name := "note", desc := "(II)I" } : Jvm.MethodName) prog_14_method_58_code (3 : Nat) (Option.some Jvm.ClassFile.FieldType.int)) ∈ TB := tb_5 182 (by decide +kernel) rfl
theorem wt_1143 : (Jvm.Cond.constantLong "ThrownCoinsModel" (265 : Nat) (9999 : Int64)) ∈ TB := tb_5 183 (by decide +kernel) rfl
theorem wt_1144 : (Jvm.Cond.methodLink "ThrownCoinsLaw" (103 : Nat) ({ cls := "ThrownCoinsModel", name := "forget", desc := "()I" } : Jvm.MethodName)) ∈ TB := tb_5 184 (by decide +kernel) rfl
theorem wt_1145 : (Jvm.Cond.instanceMethod ({ cls := "ThrownCoinsModel", name := "forget", desc := "()I" } : Jvm.MethodName)) ∈ TB := tb_5 185 (by decide +kernel) rfl
theorem wt_1146 : (Jvm.Cond.selects "ThrownCoinsModel" ({ cls := "ThrownCoinsModel", name := "forget", desc := "()I" } : Jvm.MethodName) ({ cls := "ThrownCoinsModel", name := "forget", desc := "()I" } : Jvm.MethodName)) ∈ TB := tb_5 186 (by decide +kernel) rfl
theorem wt_1147 : (Jvm.Cond.code ({ cls := "ThrownCoinsModel", name := "forget", desc := "()I" } : Jvm.MethodName) prog_14_method_59_code (2 : Nat) (Option.some Jvm.ClassFile.FieldType.int)) ∈ TB := tb_5 187 (by decide +kernel) rfl
theorem wt_1148 : (Jvm.Cond.methodLink "ThrownCoinsLaw" (107 : Nat) ({ cls := "ThrownCoinsModel", name := "lay", desc := "(I)I" } : Jvm.MethodName)) ∈ TB := tb_5 188 (by decide +kernel) rfl
theorem wt_1149 : (Jvm.Cond.instanceMethod ({ cls := "ThrownCoinsModel", name := "lay", desc := "(I)I" } : Jvm.MethodName)) ∈ TB := tb_5 189 (by decide +kernel) rfl
theorem wt_1150 : (Jvm.Cond.selects "ThrownCoinsModel" ({ cls := "ThrownCoinsModel", name := "lay", desc := "(I)I" } : Jvm.MethodName) ({ cls := "ThrownCoinsModel", name := "lay", desc := "(I)I" } : Jvm.MethodName)) ∈ TB := tb_5 190 (by decide +kernel) rfl
theorem wt_1151 : (Jvm.Cond.code ({ cls := "ThrownCoinsModel", name := "lay", desc := "(I)I" } : Jvm.MethodName) prog_14_method_62_code (8 : Nat) (Option.some Jvm.ClassFile.FieldType.int)) ∈ TB := tb_5 191 (by decide +kernel) rfl
theorem wt_1152 : (Jvm.Cond.constantLong "ThrownCoinsModel" (270 : Nat) (20 : Int64)) ∈ TB := tb_5 192 (by decide +kernel) rfl
theorem wt_1153 : (Jvm.Cond.methodLink "ThrownCoinsModel" (272 : Nat) ({ cls := "ThrownCoinsModel", name := "isSo", desc := "(I)Z" } : Jvm.MethodName)) ∈ TB := tb_5 193 (by decide +kernel) rfl
theorem wt_1155 : (Jvm.Cond.instanceMethod ({ cls := "ThrownCoinsModel", name := "isSo", desc := "(I)Z" } : Jvm.MethodName)) ∈ TB := tb_5 195 (by decide +kernel) rfl
theorem wt_1156 : (Jvm.Cond.code ({ cls := "ThrownCoinsModel", name := "isSo", desc := "(I)Z" } : Jvm.MethodName) prog_14_method_61_code (6 : Nat) (Option.some Jvm.ClassFile.FieldType.boolean)) ∈ TB := tb_5 196 (by decide +kernel) rfl
theorem wt_1157 : (Jvm.Cond.methodLink "ThrownCoinsModel" (267 : Nat) ({ cls := "ThrownCoinsModel", name := "layOf", desc := "(II)I" } : Jvm.MethodName)) ∈ TB := tb_5 197 (by decide +kernel) rfl
theorem wt_1159 : (Jvm.Cond.instanceMethod ({ cls := "ThrownCoinsModel", name := "layOf", desc := "(II)I" } : Jvm.MethodName)) ∈ TB := tb_5 199 (by decide +kernel) rfl
theorem wt_1160 : (Jvm.Cond.code ({ cls := "ThrownCoinsModel", name := "layOf", desc := "(II)I" } : Jvm.MethodName) prog_14_method_60_code (3 : Nat) (Option.some Jvm.ClassFile.FieldType.int)) ∈ TB := tb_5 200 (by decide +kernel) rfl
theorem wt_1161 : (Jvm.Cond.methodLink "ThrownCoinsLaw" (111 : Nat) ({ cls := "ThrownCoinsModel", name := "keep", desc := "(I)I" } : Jvm.MethodName)) ∈ TB := tb_5 201 (by decide +kernel) rfl
theorem wt_1162 : (Jvm.Cond.instanceMethod ({ cls := "ThrownCoinsModel", name := "keep", desc := "(I)I" } : Jvm.MethodName)) ∈ TB := tb_5 202 (by decide +kernel) rfl
theorem wt_1163 : (Jvm.Cond.selects "ThrownCoinsModel" ({ cls := "ThrownCoinsModel", name := "keep", desc := "(I)I" } : Jvm.MethodName) ({ cls := "ThrownCoinsModel", name := "keep", desc := "(I)I" } : Jvm.MethodName)) ∈ TB := tb_5 203 (by decide +kernel) rfl
theorem wt_1164 : (Jvm.Cond.code ({ cls := "ThrownCoinsModel", name := "keep", desc := "(I)I" } : Jvm.MethodName) prog_14_method_63_code (2 : Nat) (Option.some Jvm.ClassFile.FieldType.int)) ∈ TB := tb_5 204 (by decide +kernel) rfl
theorem wt_1165 : (Jvm.Cond.methodLink "ThrownCoinsLaw" (115 : Nat) ({ cls := "ThrownCoinsModel", name := "back", desc := "(I)I" } : Jvm.MethodName)) ∈ TB := tb_5 205 (by decide +kernel) rfl
theorem wt_1166 : (Jvm.Cond.instanceMethod ({ cls := "ThrownCoinsModel", name := "back", desc := "(I)I" } : Jvm.MethodName)) ∈ TB := tb_5 206 (by decide +kernel) rfl
theorem wt_1167 : (Jvm.Cond.selects "ThrownCoinsModel" ({ cls := "ThrownCoinsModel", name := "back", desc := "(I)I" } : Jvm.MethodName) ({ cls := "ThrownCoinsModel", name := "back", desc := "(I)I" } : Jvm.MethodName)) ∈ TB := tb_5 207 (by decide +kernel) rfl
theorem wt_1168 : (Jvm.Cond.code ({ cls := "ThrownCoinsModel", name := "back", desc := "(I)I" } : Jvm.MethodName) prog_14_method_64_code (2 : Nat) (Option.some Jvm.ClassFile.FieldType.int)) ∈ TB := tb_5 208 (by decide +kernel) rfl
theorem wt_1169 : (Jvm.Cond.methodLink "ThrownCoinsLaw" (119 : Nat) ({ cls := "ThrownCoinsModel", name := "count", desc := "(I)I" } : Jvm.MethodName)) ∈ TB := tb_5 209 (by decide +kernel) rfl
theorem wt_1170 : (Jvm.Cond.instanceMethod ({ cls := "ThrownCoinsModel", name := "count", desc := "(I)I" } : Jvm.MethodName)) ∈ TB := tb_5 210 (by decide +kernel) rfl
theorem wt_1171 : (Jvm.Cond.selects "ThrownCoinsModel" ({ cls := "ThrownCoinsModel", name := "count", desc := "(I)I" } : Jvm.MethodName) ({ cls := "ThrownCoinsModel", name := "count", desc := "(I)I" } : Jvm.MethodName)) ∈ TB := tb_5 211 (by decide +kernel) rfl
theorem wt_1172 : (Jvm.Cond.code ({ cls := "ThrownCoinsModel", name := "count", desc := "(I)I" } : Jvm.MethodName) prog_14_method_66_code (2 : Nat) (Option.some Jvm.ClassFile.FieldType.int)) ∈ TB := tb_5 212 (by decide +kernel) rfl
theorem wt_1173 : (Jvm.Cond.methodLink "ThrownCoinsModel" (275 : Nat) ({ cls := "ThrownCoinsModel", name := "worthThere", desc := "()I" } : Jvm.MethodName)) ∈ TB := tb_5 213 (by decide +kernel) rfl
theorem wt_1175 : (Jvm.Cond.instanceMethod ({ cls := "ThrownCoinsModel", name := "worthThere", desc := "()I" } : Jvm.MethodName)) ∈ TB := tb_5 215 (by decide +kernel) rfl
theorem wt_1176 : (Jvm.Cond.code ({ cls := "ThrownCoinsModel", name := "worthThere", desc := "()I" } : Jvm.MethodName) prog_14_method_65_code (3 : Nat) (Option.some Jvm.ClassFile.FieldType.int)) ∈ TB := tb_5 216 (by decide +kernel) rfl
theorem wt_1177 : (Jvm.Cond.constantLong "ThrownCoinsLaw" (13 : Nat) (4294967295 : Int64)) ∈ TB := tb_5 217 (by decide +kernel) rfl
theorem wt_1182 : (Jvm.Cond.fieldLink "java/lang/String" (9 : Nat) "java/lang/String" "value" "[B") ∈ TB := tb_5 222 (by decide +kernel) rfl
theorem wt_1183 : (Jvm.Cond.fieldLink "java/lang/String" (15 : Nat) "java/lang/String" "coder" "B") ∈ TB := tb_5 223 (by decide +kernel) rfl
